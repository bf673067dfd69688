/-! the system's methods: a write, a step, mending -/
def mkb (b : Nat) (sp : kMem → Bool × kMem) (M : kMem) (v t r : Nat) : Bool × kMem := if bt (M (b + 4) (8 + t * 6 + v)) r = true then (true, M) else nx b sp (mw M (b + 4) (8 + t * 6 + v) (M (b + 4) (8 + t * 6 + v) ||| bit1 r))
def enb (b : Nat) (sp : kMem → Bool × kMem) (M : kMem) (v r : Nat) : Bool × kMem := if inw (M (b + 4)) (nI (v * 8 + r)) = true then (true, M) else nx b sp (va_up M (b + 4) (ent (M (b + 4)) (nI (v * 8 + r))))
def put (b : Nat) (sp : kMem → Bool × kMem) (M : kMem) (v t k : Nat) : Bool × kMem :=
  if M (b + 4) (2 + v) = nI 1 then (match mkb b sp M v t (k / 8) with
    | (true, M1) => wb b sp M1 t v k
    | (false, M1) => (false, M1))
  else if opn (M (b + 4)) v (k / 8) = true then wb b sp M t v k
  else match enb b sp M v (k / 8) with
    | (true, M1) => (match wb b sp M1 t v k with
      | (true, M2) => wb b sp M2 (1 - t) v k
      | (false, M2) => (false, M2))
    | (false, M1) => (false, M1)
def clr (b : Nat) (M : kMem) (v r : Nat) : kMem := (fun M1 : kMem => mw M1 (b + 4) (14 + v) (M1 (b + 4) (14 + v) &&& (bit1 r ^^^ -1))) (mw M (b + 4) (8 + v) (M (b + 4) (8 + v) &&& (bit1 r ^^^ -1)))
def jn (b : Nat) (M : kMem) (v : Nat) : kMem := if M (b + 4) (8 + v) ||| M (b + 4) (14 + v) = 0 then mw M (b + 4) (2 + v) (nI 0) else M
/-- a step's end: the volume joins if no bit is left, the header is written, c is counted -/
def stq (b : Nat) (sp : kMem → Bool × kMem) (M : kMem) (v : Nat) (c : Int32) : Bool × kMem := match nx b sp (jn b M v) with
  | (true, M2) => (true, mw M2 b 3 (M2 b 3 + c))
  | (false, M2) => (false, M2)
def stp (b : Nat) (sp : kMem → Bool × kMem) (M : kMem) (v t : Nat) : Bool × kMem :=
  if low (M (b + 4)) v < 8 then (match cr b sp M v (low (M (b + 4)) v) t with
    | (true, M1) => stq b sp (clr b M1 v (low (M (b + 4)) v)) v (nI 1)
    | (false, M1) => (false, M1))
  else stq b sp M v (nI 0)
def mnr (b : Nat) (sp : kMem → Bool × kMem) (M : kMem) (v r t : Nat) : Bool × kMem := if M (b + 4) (2 + v) = nI 1 then (true, M) else if opn (M (b + 4)) v r = true then (true, M) else cr b sp M v r t
section CB
variable {d : Nat} {M : kMem} {P : kRes → Prop}
theorem thr_go {d' mid : Nat} {K : Nat → List (Nat × Value) → List Value → kMem → Prop} {pc : Nat} {lv : List (Nat × Value)} {st : List Value} {q : Bool × kMem} (h1 : ∀ M1, q = (true, M1) → K (pc + 3) lv st M1) (h2 : ∀ M1, q = (false, M1) → P (rX eS M1)) : kgo d' mid P K pc lv st (thr q) := by
  obtain ⟨ok, M1⟩ := q
  cases ok
  · exact h2 M1 rfl
  · exact h1 M1 rfl
theorem thr_t {M1 : kMem} (h : P (thr (true, M1))) : P (rV M1) := h
theorem thr_f {M1 : kMem} (h : P (thr (false, M1))) : P (rX eS M1) := h
theorem c_markBefore {v t r : Nat} (hv : v < 6) (ht : t < 2) (hr : r < 8) (h : P (thr (mkb 0 spC M v t r))) : kC (d + 3) kc_markBeforeWrite [.ref 0, .int (nI v), .int (nI t), .int (nI r)] M P := by
  have hb : (M 4 (8 + t * 6 + v) >>> (nI r &&& 31)) &&& nI 1 = kb (bt (M 4 (8 + t * 6 + v)) r) := bit_at (by omega)
  unfold mkb at h
  refine kC_of 40 (by decide) (Nat.le_of_ble_eq_true rfl) ?_
  refine h_mapOf hv ht ?_
  refine ⟨fun e => ?_, fun e => ?_⟩
  · have e2 : bt (M 4 (8 + t * 6 + v)) r = true := kb_pos (fun z => e (hb.trans z))
    rw [if_pos e2] at h
    exact h
  · have e2 : bt (M 4 (8 + t * 6 + v)) r = false := kb_0.mp (hb.symm.trans e)
    rw [if_neg (by rw [e2]; decide)] at h
    refine h_mark hv ht ?_
    refine c_writeHeader ?_
    exact thr_go (fun M1 e => thr_t (by rw [← e]; exact h)) (fun M1 e => thr_f (by rw [← e]; exact h))
theorem c_enterBefore {v r : Nat} (hv : v < 6) (hr : r < 8) (h : P (thr (enb 0 spC M v r))) : kC (d + 3) kc_enterBeforeWrite [.ref 0, .int (nI v), .int (nI r)] M P := by
  have hp : nI v * nI 8 + nI r = nI (v * 8 + r) := by rw [pk_mul, nI_add]
  unfold enb at h
  refine kC_of 40 (by decide) (Nat.le_of_ble_eq_true rfl) ?_
  show kC (d + 2) kh_isInWindow [.ref 8, .int (nI v * nI 8 + nI r)] M _
  rw [hp]
  refine h_isInWindow ?_
  refine ⟨fun e => ?_, fun e => ?_⟩
  · have e2 : inw (M 4) (nI (v * 8 + r)) = true := kb_pos e
    rw [if_pos e2] at h
    exact h
  · have e2 : inw (M 4) (nI (v * 8 + r)) = false := kb_0.mp e
    rw [if_neg (by rw [e2]; decide)] at h
    show kC (d + 2) kh_enterWindow [.ref 8, .int (nI v * nI 8 + nI r)] M _
    rw [hp]
    refine h_enterWindow ?_
    refine c_writeHeader ?_
    exact thr_go (fun M1 e => thr_t (by rw [← e]; exact h)) (fun M1 e => thr_f (by rw [← e]; exact h))
theorem c_putFresh {v t k : Nat} (hv : v < 6) (ht : t < 2) (hk : k < 64) (h : P (thr (put 0 spC M v t k))) : kC (d + 4) kc_putFresh [.ref 0, .int (nI v), .int (nI t), .int (nI k)] M P := by
  have hr : nI k / nI 8 = nI (k / 8) := pk_div (by omega) (by decide) (by decide)
  have hr8 : k / 8 < 8 := by omega
  unfold put at h
  refine kC_of 60 (by decide) (Nat.le_of_ble_eq_true rfl) ?_
  refine ⟨by decide, ?_⟩
  refine h_stateOf hv ?_
  refine ⟨fun e => ?_, fun e => ?_⟩
  · have e : ¬ M 4 (2 + v) = nI 1 := e
    rw [if_neg e] at h
    show kC (d + 3) kh_isMarked [.ref 8, .int (nI v), .int (nI k / nI 8)] M _
    rw [hr]
    refine h_isMarked hv hr8 ?_
    refine ⟨fun e2 => ?_, fun e2 => ?_⟩
    · have e2 : opn (M 4) v (k / 8) = false := kb_0.mp e2
      rw [if_neg (by rw [show (0 + 4 : Nat) = 4 from rfl, e2]; decide)] at h
      show kC (d + 3) kc_enterBeforeWrite [.ref 0, .int (nI v), .int (nI k / nI 8)] M _
      rw [hr]
      refine c_enterBefore hv hr8 ?_
      refine thr_go (fun M1 e3 => ?_) (fun M1 e3 => by rw [e3] at h; exact h)
      rw [e3] at h
      refine c_writeFresh hv ht hk ?_
      have h : P (thr (match wb 0 spC M1 t v k with | (true, M2) => wb 0 spC M2 (1 - t) v k | (false, M2) => (false, M2))) := h
      refine thr_go (fun M2 e4 => ?_) (fun M2 e4 => by rw [e4] at h; exact h)
      rw [e4] at h
      refine c_otherSide ht ?_
      refine c_writeFresh hv (by omega) hk ?_
      have h : P (thr (wb 0 spC M2 (1 - t) v k)) := h
      exact thr_go (fun M1 e => thr_t (by rw [← e]; exact h)) (fun M1 e => thr_f (by rw [← e]; exact h))
    · have e2 : opn (M 4) v (k / 8) = true := kb_pos e2
      rw [if_pos e2] at h
      refine c_writeFresh hv ht hk ?_
      exact thr_go (fun M1 e => thr_t (by rw [← e]; exact h)) (fun M1 e => thr_f (by rw [← e]; exact h))
  · have e : M 4 (2 + v) = nI 1 := e
    rw [if_pos e] at h
    show kC (d + 3) kc_markBeforeWrite [.ref 0, .int (nI v), .int (nI t), .int (nI k / nI 8)] M _
    rw [hr]
    refine c_markBefore hv ht hr8 ?_
    refine thr_go (fun M1 e3 => ?_) (fun M1 e3 => by rw [e3] at h; exact h)
    rw [e3] at h
    refine c_writeFresh hv ht hk ?_
    have h : P (thr (wb 0 spC M1 t v k)) := h
    exact thr_go (fun M1 e => thr_t (by rw [← e]; exact h)) (fun M1 e => thr_f (by rw [← e]; exact h))
theorem c_same_loop {v r t : Nat} (hv : v < 6) (hr : r < 8) (ht : t < 2) {y : Int32} (hy : y = nI (8 * r)) : ∀ (n i : Nat) (x : Int32) (M : kMem), i + n = 8 → x = nI (8 * r + i) → P (thr (crn 0 spC v r t n M)) →
    kJ (d + 3) kc_makeSame P 17 [(0, .ref 0), (1, .int (nI v)), (2, .int (nI r)), (3, .int (nI t)), (4, .int y), (5, .int x)] [] M := by
  subst hy
  intro n
  induction n with
  | zero =>
    intro i x M hi hx h
    have hi : i = 8 := by omega
    subst hi; subst hx
    refine kJ_H [17] 20 ?_
    refine ⟨fun _ => h, fun e => absurd ?_ e⟩
    show nI (8 * r) + nI 8 ≤ _
    rw [nI_add]
    exact nI_le (Nat.le_refl _) (by omega)
  | succ n ih =>
    intro i x M hi hx h
    subst hx
    have hi2 : i = 7 - n := by omega
    unfold crn at h
    rw [← hi2] at h
    have hk : 8 * r + i < 64 := by omega
    refine kJ_H [17] 40 ?_
    refine ⟨fun e => absurd e ?_, fun _ => ?_⟩
    · show ¬ nI (8 * r) + nI 8 ≤ _
      rw [nI_add]
      exact nI_ge (by omega) (by omega)
    refine c_isSame hv hk ?_
    refine ⟨fun e => ?_, fun e => ?_⟩
    · have e2 : sm (M 1) v (8 * r + i) = true := kb_pos e
      rw [if_pos e2] at h
      exact ih (i + 1) _ M (by omega) (nI_1 _) h
    · have e2 : sm (M 1) v (8 * r + i) = false := kb_0.mp e
      rw [if_neg (by rw [show (0 + 1 : Nat) = 1 from rfl, e2]; decide)] at h
      refine c_writeFromSide hv ht hk ?_
      refine thr_go (fun M1 e3 => ?_) (fun M1 e3 => by rw [e3] at h; exact h)
      rw [e3] at h
      exact ih (i + 1) _ M1 (by omega) (nI_1 _) h
theorem c_makeSame {v r s : Nat} (hv : v < 6) (hr : r < 8) (hs : s < 4) (hs1 : s ≠ 1) (hst : M 4 (2 + v) = nI s) (h : P (thr (cr 0 spC M v r (s - 2)))) : kC (d + 3) kc_makeSame [.ref 0, .int (nI v), .int (nI r)] M P := by
  refine kC_L [17] 40 (by decide) (Nat.le_of_ble_eq_true rfl) ?_
  refine c_sideInUse hv hs hst ?_
  have e : sidI s (nI 0) = nI (s - 2) := if_neg hs1
  show kwL (d + 3) kc_makeSame P [17] _ 6 [(0, .ref 0), (1, .int (nI v)), (2, .int (nI r))] [.int (sidI s (nI 0))] M
  rw [e]
  exact c_same_loop hv hr (by omega) (by rw [Nat.mul_comm]; exact pk_mul r 8) 8 0 _ M rfl (by rw [Nat.mul_comm]; exact pk_mul r 8) h
end CB
