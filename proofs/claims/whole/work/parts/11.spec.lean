/-! bits (out of the kit's laws/BITS.to-paste) -/
def bt (x : Int32) (i : Nat) : Bool := x.toBitVec.getLsbD i
theorem b_ext {x y : Int32} (h : ∀ i, i < 32 → bt x i = bt y i) : x = y := Int32.toBitVec_inj.mp (BitVec.eq_of_getLsbD_eq (fun i hi => h i hi))
theorem b_or (x y : Int32) (i : Nat) : bt (x ||| y) i = (bt x i || bt y i) := by unfold bt; rw [Int32.toBitVec_or, BitVec.getLsbD_or]
theorem b_and (x y : Int32) (i : Nat) : bt (x &&& y) i = (bt x i && bt y i) := by unfold bt; rw [Int32.toBitVec_and, BitVec.getLsbD_and]
theorem b_xor (x y : Int32) (i : Nat) : bt (x ^^^ y) i = (bt x i ^^ bt y i) := by unfold bt; rw [Int32.toBitVec_xor, BitVec.getLsbD_xor]
theorem b_big {x : Int32} {i : Nat} (h : 32 ≤ i) : bt x i = false := BitVec.getLsbD_of_ge _ _ h
theorem b_255 (i : Nat) : bt 255 i = decide (i < 8) := by
  rcases Nat.lt_or_ge i 32 with h | h
  · exact (by decide +kernel : ∀ i, i < 32 → bt 255 i = decide (i < 8)) i h
  · rw [b_big h, decide_eq_false (by omega)]
theorem b_65535 (i : Nat) : bt 65535 i = decide (i < 16) := by
  rcases Nat.lt_or_ge i 32 with h | h
  · exact (by decide +kernel : ∀ i, i < 32 → bt 65535 i = decide (i < 16)) i h
  · rw [b_big h, decide_eq_false (by omega)]
theorem b_m1 : ∀ i, i < 32 → bt (-1) i = true := by decide +kernel
theorem b_0 (i : Nat) : bt 0 i = false := BitVec.getLsbD_zero
theorem s_l : ∀ n, n < 32 → ((nI n &&& 31).toBitVec.smod 32).toNat = n := by decide +kernel
theorem s_u : ∀ n, n < 32 → (((nI n).toUInt32 &&& Int32.toUInt32 31).toBitVec % 32).toNat = n := by decide +kernel
theorem b_shl (n : Nat) (hn : n < 32) (x : Int32) {i : Nat} (hi : i < 32) : bt (x <<< (nI n &&& 31)) i = (decide (n ≤ i) && bt x (i - n)) := by
  unfold bt
  rw [Int32.toBitVec_shiftLeft]
  show (x.toBitVec <<< ((nI n &&& 31).toBitVec.smod 32).toNat).getLsbD i = _
  rw [s_l n hn, BitVec.getLsbD_shiftLeft]
  rcases Nat.lt_or_ge i n with h | h
  · simp [h, Nat.not_le.mpr h]
  · simp [hi, h, Nat.not_lt.mpr h]
theorem b_ushr (n : Nat) (hn : n < 32) (x : Int32) (i : Nat) : bt ((x.toUInt32 >>> ((nI n).toUInt32 &&& Int32.toUInt32 31)).toInt32) i = bt x (n + i) := by
  show (x.toUInt32 >>> ((nI n).toUInt32 &&& Int32.toUInt32 31)).toBitVec.getLsbD i = x.toUInt32.toBitVec.getLsbD (n + i)
  rw [UInt32.toBitVec_shiftRight]
  show (x.toUInt32.toBitVec >>> (((nI n).toUInt32 &&& Int32.toUInt32 31).toBitVec % 32).toNat).getLsbD i = _
  rw [s_u n hn, BitVec.getLsbD_ushiftRight]
theorem b_sshr (n : Nat) (hn : n < 32) (x : Int32) {i : Nat} (hi : i < 32) : bt (x >>> (nI n &&& 31)) i = if n + i < 32 then bt x (n + i) else bt x 31 := by
  unfold bt
  rw [Int32.toBitVec_shiftRight]
  show (x.toBitVec.sshiftRight ((nI n &&& 31).toBitVec.smod 32).toNat).getLsbD i = _
  rw [s_l n hn, BitVec.getLsbD_sshiftRight, BitVec.msb_eq_getLsbD_last]
  simp [hi]
/-! what the methods do, over the memory; b: 0 for the system, 9 for the reference -/
abbrev rI (x : Int32) (M : kMem) : kRes := .inl (some (.int x), M)
abbrev rV (M : kMem) : kRes := .inl (none, M)
abbrev rX (E : String) (M : kMem) : kRes := .inr (E, M)
abbrev eS : String := "java/lang/IllegalStateException"
abbrev eB : String := "java/lang/IndexOutOfBoundsException"
abbrev eU : String := "java/lang/UnsupportedOperationException"
abbrev eA : String := "java/lang/IllegalArgumentException"
def kb (x : Bool) : Int32 := if x then nI 1 else nI 0
theorem kb_narrow (x : Bool) : narrow .boolean (.int (kb x)) = .int (kb x) := by cases x <;> rfl
theorem kb_0 {x : Bool} : kb x = 0 ↔ x = false := by cases x <;> decide
/-- a system's call that may fail for want of power -/
def thr (q : Bool × kMem) : kRes := if q.1 = true then rV q.2 else rX eS q.2
def spC (M : kMem) : Bool × kMem := if M 0 1 = 0 then (false, mw (mw M 0 0 (nI 0)) 0 1 (-1)) else (true, (fun M1 : kMem => mw M1 0 2 (M1 0 2 + nI 1)) (if M 0 1 ≤ 0 then M else mw M 0 1 (M 0 1 - nI 1)))
def spM (M : kMem) : Bool × kMem := if ¬ M 9 0 = 0 then (false, M) else if M 9 1 = 0 then (false, mw (mw M 9 0 (nI 1)) 9 1 (-1)) else (true, (fun M1 : kMem => mw M1 9 2 (M1 9 2 + nI 1)) (mw M 9 1 (if M 9 1 ≤ 0 then M 9 1 else M 9 1 - nI 1)))
def wh (b : Nat) (sp : kMem → Bool × kMem) (M : kMem) (t : Nat) : Bool × kMem := match sp M with
  | (true, M1) => (true, va_up M1 (b + 2 + t) (va_cpy (M1 (b + 4)) (M1 (b + 2 + t)) 0 0 24))
  | (false, M1) => (false, M1)
def nx (b : Nat) (sp : kMem → Bool × kMem) (M : kMem) : Bool × kMem := match wh b sp (mw M (b + 4) 0 (M (b + 4) 0 + nI 1)) 0 with
  | (true, M1) => wh b sp M1 1
  | (false, M1) => (false, M1)
def pl (t v k : Nat) : Nat := 1536 * t + 256 * v + 4 * k
def wb (b : Nat) (sp : kMem → Bool × kMem) (M : kMem) (t v k : Nat) : Bool × kMem := match sp M with
  | (true, M1) => (true, va_up M1 (b + 1) (va_cpy (M1 (b + 5)) (M1 (b + 1)) 0 (pl t v k) 4))
  | (false, M1) => (false, M1)
def tk (b : Nat) (M : kMem) (t v k : Nat) : kMem := va_up M (b + 5) (va_cpy (M (b + 1)) (M (b + 5)) (pl t v k) 0 4)
def sm (W : Nat → Int32) (v k : Nat) : Bool := decide (W (pl 0 v k) = W (pl 1 v k) ∧ W (pl 0 v k + 1) = W (pl 1 v k + 1) ∧ W (pl 0 v k + 2) = W (pl 1 v k + 2) ∧ W (pl 0 v k + 3) = W (pl 1 v k + 3))
def crn (b : Nat) (sp : kMem → Bool × kMem) (v r t : Nat) : Nat → kMem → Bool × kMem
  | 0, M => (true, M)
  | n + 1, M => if sm (M (b + 1)) v (8 * r + (7 - n)) = true then crn b sp v r t n M else match wb b sp (tk b M t v (8 * r + (7 - n))) (1 - t) v (8 * r + (7 - n)) with
    | (true, M1) => crn b sp v r t n M1
    | (false, M1) => (false, M1)
def cr (b : Nat) (sp : kMem → Bool × kMem) (M : kMem) (v r t : Nat) : Bool × kMem := crn b sp v r t 8 M
def opn (h : Nat → Int32) (v r : Nat) : Bool := bt (h (8 + v)) r || bt (h (14 + v)) r
def lown (h : Nat → Int32) (v : Nat) : Nat → Nat
  | 0 => 8
  | n + 1 => if opn h v (7 - n) = true then 7 - n else lown h v n
def low (h : Nat → Int32) (v : Nat) : Nat := lown h v 8
def bit1 (r : Nat) : Int32 := nI 1 <<< (nI r &&& 31)
def wsn (h : Nat → Int32) : Nat → Nat
  | 0 => 4
  | n + 1 => if h (20 + (3 - n)) = -1 then 3 - n else wsn h n
def wsz (h : Nat → Int32) : Nat := wsn h 4
def inw (h : Nat → Int32) (x : Int32) : Bool := decide (h 20 = x ∨ h 21 = x ∨ h 22 = x ∨ h 23 = x)
def ent (h : Nat → Int32) (x : Int32) : Nat → Int32 := if wsz h = 4 then upd (va_cpy h h 21 20 3) 23 x else upd h (20 + wsz h) x
/-- the window behind i places looked at, those of l kept -/
def wnd (h : Nat → Int32) (l : List Int32) (i : Nat) : Nat → Int32 := fun k => if 20 ≤ k ∧ k < 20 + i then l.getD (k - 20) (-1) else h k
def wkn (h : Nat → Int32) (kp : Int32 → Bool) : Nat → List Int32
  | 0 => []
  | i + 1 => if h (20 + i) = -1 then wkn h kp i else if kp (h (20 + i)) = true then wkn h kp i ++ [h (20 + i)] else wkn h kp i
def wkp (h : Nat → Int32) (kp : Int32 → Bool) : Nat → Int32 := wnd h (wkn h kp 4) 4
theorem bit_at {x : Int32} {r : Nat} (hr : r < 32) : (x >>> (nI r &&& 31)) &&& nI 1 = kb (bt x r) := by
  apply b_ext
  intro i hi
  rw [b_and]
  have h1 : ∀ i, i < 32 → bt (nI 1) i = decide (i = 0) := by decide +kernel
  have h0 : ∀ i, i < 32 → bt (nI 0) i = false := by decide +kernel
  rw [h1 i hi]
  by_cases hz : i = 0
  · subst hz
    rw [b_sshr r hr x hi]
    simp only [Nat.add_zero, hr, if_true, decide_true, Bool.and_true]
    cases hb : bt x r
    · show false = bt (nI 0) 0
      rw [h0 0 hi]
    · show true = bt (nI 1) 0
      rw [h1 0 hi]; rfl
  · simp only [hz, decide_false, Bool.and_false]
    cases hb : bt x r
    · show false = bt (nI 0) i
      rw [h0 i hi]
    · show false = bt (nI 1) i
      rw [h1 i hi]; simp [hz]
theorem opn_or {h : Nat → Int32} {v r : Nat} : bt (h (8 + v) ||| h (14 + v)) r = opn h v r := b_or _ _ _
