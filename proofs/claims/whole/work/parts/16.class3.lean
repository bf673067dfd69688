/-! the system's methods: a step, the start -/
/-- the window's regions, the last n of them, mended -/
def mwn (b : Nat) (sp : kMem → Bool × kMem) : Nat → kMem → Bool × kMem
  | 0, M => (true, M)
  | n + 1, M => if M (b + 4) (20 + (3 - n)) = -1 then mwn b sp n M else match mnr b sp M ((M (b + 4) (20 + (3 - n))).toNatClampNeg / 8) ((M (b + 4) (20 + (3 - n))).toNatClampNeg % 8) ((M (b + 4) (2 + (M (b + 4) (20 + (3 - n))).toNatClampNeg / 8)).toNatClampNeg - 2) with
    | (true, M1) => mwn b sp n M1
    | (false, M1) => (false, M1)
def mnd (b : Nat) (sp : kMem → Bool × kMem) (M : kMem) : Bool × kMem := if M (b + 4) 20 = -1 then (true, M) else match mwn b sp 4 M with
  | (true, M1) => nx b sp (va_up M1 (b + 4) (wnd (M1 (b + 4)) [] 4))
  | (false, M1) => (false, M1)
def tnh (b : Nat) (sp : kMem → Bool × kMem) (M : kMem) : Bool × kMem :=
  if M (b + 3) 0 ≤ M (b + 2) 0 then (if M (b + 2) 0 = M (b + 3) 0 then (true, va_up M (b + 4) (va_cpy (M (b + 2)) (M (b + 4)) 0 0 24)) else wh b sp (va_up M (b + 4) (va_cpy (M (b + 2)) (M (b + 4)) 0 0 24)) 1)
  else wh b sp (va_up M (b + 4) (va_cpy (M (b + 3)) (M (b + 4)) 0 0 24)) 0
/-- what is so of a header, of whichever memory: n volumes, states, maps, a window without gaps -/
def wfV (h : Nat → Int32) (v : Nat) : Prop := (∃ s, s < 4 ∧ h (2 + v) = nI s) ∧ (∃ a, a < 256 ∧ h (8 + v) = nI a) ∧ (∃ a, a < 256 ∧ h (14 + v) = nI a) ∧ (h (2 + v) = nI 0 → h (8 + v) = nI 0 ∧ h (14 + v) = nI 0)
def wfW (h : Nat → Int32) (n : Nat) : Prop := ∃ c, c ≤ 4 ∧ (∀ i, i < c → ∃ p, p < 8 * n ∧ h (20 + i) = nI p) ∧ ∀ i, c ≤ i → i < 4 → h (20 + i) = -1
def wf (h : Nat → Int32) : Prop := ∃ n, n ≤ 6 ∧ h 1 = nI n ∧ (∀ v, v < n → wfV h v) ∧ wfW h n
section CC
variable {d : Nat} {M : kMem} {P : kRes → Prop}
theorem c_stq {v : Nat} {c : Int32} (hv : v < 6) {lv : List (Nat × Value)} (h0 : kget lv 0 = some (.ref 0)) (h1 : kget lv 1 = some (.int (nI v))) (h3 : kget lv 3 = some (.int c)) (h : P (thr (stq 0 spC M v c))) : kJ (d + 5) kc_copyNextRegion P 33 lv [] M := by
  unfold stq at h
  have tail : ∀ {M0 : kMem}, P (thr (match nx 0 spC M0 with | (true, M2) => (true, mw M2 0 3 (M2 0 3 + c)) | (false, M2) => (false, M2))) → kJ (d + 5) kc_copyNextRegion P 53 lv [] M0 := by
    intro M0 h
    refine kw_ok 20 _ _ _ _ ?_
    show (match kget lv 0 with | some (.ref v) => _ | _ => False)
    rw [h0]
    refine c_writeHeader ?_
    refine thr_go (fun M1 e3 => ?_) (fun M1 e3 => by rw [e3] at h; exact h)
    rw [e3] at h
    show (match kget lv 0 with | some (.ref v) => _ | _ => False)
    rw [h0]
    show (match kget lv 3 with | some (.int v) => _ | _ => False)
    rw [h3]
    exact ⟨rfl, rfl, h⟩
  refine kJ_H [53] 20 ?_
  show (match kget lv 0 with | some (.ref v) => _ | _ => False)
  rw [h0]
  show (match kget lv 1 with | some (.int v) => _ | _ => False)
  rw [h1]
  refine h_marksOf hv ?_
  unfold jn at h
  refine ⟨fun e => ?_, fun e => ?_⟩
  · have e : ¬ M 4 (8 + v) ||| M 4 (14 + v) = 0 := e
    rw [if_neg e] at h
    exact tail h
  · have e : M 4 (8 + v) ||| M 4 (14 + v) = 0 := e
    rw [if_pos e] at h
    show (match kget lv 0 with | some (.ref v) => _ | _ => False)
    rw [h0]
    show (match kget lv 1 with | some (.int v) => _ | _ => False)
    rw [h1]
    refine h_setState hv ?_
    exact tail h
theorem c_step {v s : Nat} (hv : v < 6) (hs : s < 4) (hs2 : 2 ≤ s) (hst : M 4 (2 + v) = nI s) (h : P (thr (stp 0 spC M v (s - 2)))) : kC (d + 5) kc_copyNextRegion [.ref 0, .int (nI v)] M P := by
  unfold stp at h
  refine kC_L [33] 40 (by decide) (Nat.le_of_ble_eq_true rfl) ?_
  refine h_lowestMarked hv ?_
  refine ⟨fun e => ?_, fun e => ?_⟩
  · have e : lowI (low (M 4) v) = -1 := e
    have e2 : ¬ low (M 4) v < 8 := fun z => by
      unfold lowI at e
      rw [if_pos z] at e
      have e9 : ∀ j, j < 8 → ¬ nI j = -1 := by decide +kernel
      exact e9 _ z e
    rw [if_neg e2] at h
    exact c_stq (c := nI 0) hv rfl rfl rfl h
  · have e : ¬ lowI (low (M 4) v) = -1 := e
    have e2 : low (M 4) v < 8 := by
      rcases Nat.lt_or_ge (low (M 4) v) 8 with z | z
      · exact z
      · exact absurd (if_neg (Nat.not_lt.mpr z)) e
    rw [if_pos e2] at h
    have e3 : lowI (low (M 4) v) = nI (low (M 4) v) := if_pos e2
    show kC (d + 4) kc_makeSame [.ref 0, .int (nI v), .int (lowI (low (M 4) v))] M _
    rw [e3]
    refine c_makeSame hv e2 hs (by omega) hst ?_
    refine thr_go (fun M1 e4 => ?_) (fun M1 e4 => by rw [e4] at h; exact h)
    rw [e4] at h
    refine h_clearRegion hv ?_
    exact c_stq (c := nI 1) hv rfl rfl rfl h
theorem c_mendRegion {v r s : Nat} (hv : v < 6) (hr : r < 8) (hs : s < 4) (hst : M 4 (2 + v) = nI s) (h : P (thr (mnr 0 spC M v r (s - 2)))) : kC (d + 4) kc_mendRegion [.ref 0, .int (nI v), .int (nI r)] M P := by
  unfold mnr at h
  refine kC_of 40 (by decide) (Nat.le_of_ble_eq_true rfl) ?_
  refine h_stateOf hv ?_
  refine ⟨fun e => ?_, fun e => ?_⟩
  · have e : M 4 (2 + v) = nI 1 := e
    rw [if_pos e] at h
    exact h
  · have e : ¬ M 4 (2 + v) = nI 1 := e
    rw [if_neg e] at h
    refine h_isMarked hv hr ?_
    refine ⟨fun e2 => ?_, fun e2 => ?_⟩
    · have e2 : opn (M 4) v r = true := kb_pos e2
      rw [if_pos e2] at h
      exact h
    · have e2 : opn (M 4) v r = false := kb_0.mp e2
      rw [if_neg (by rw [show (0 + 4 : Nat) = 4 from rfl, e2]; decide)] at h
      have hs1 : s ≠ 1 := fun z => e (by rw [hst, z])
      refine c_makeSame hv hr hs hs1 hst ?_
      exact thr_go (fun M1 e => thr_t (by rw [← e]; exact h)) (fun M1 e => thr_f (by rw [← e]; exact h))
theorem c_takeNewer (h : P (thr (tnh 0 spC M))) : kC (d + 2) kc_takeNewerHeader [.ref 0] M P := by
  unfold tnh at h
  refine kC_of 60 (by decide) (Nat.le_of_ble_eq_true rfl) ?_
  refine h_number6 ?_
  refine h_number7 ?_
  refine ⟨fun e => ?_, fun e => ?_⟩
  · have e : M 3 0 ≤ M 2 0 := e
    rw [if_pos e] at h
    refine c_headerOn0 ?_
    refine h_takeFrom86 ?_
    refine ⟨fun e2 => ?_, fun e2 => ?_⟩
    · have e2 : M 2 0 = M 3 0 := e2
      rw [if_pos e2] at h
      exact h
    · have e2 : ¬ M 2 0 = M 3 0 := e2
      rw [if_neg e2] at h
      refine c_otherSide (t := 0) (by decide) ?_
      refine c_writeHeaderOn1 ?_
      exact thr_go (fun M1 e => thr_t (by rw [← e]; exact h)) (fun M1 e => thr_f (by rw [← e]; exact h))
  · have e : ¬ M 3 0 ≤ M 2 0 := e
    rw [if_neg e] at h
    refine c_headerOn1 ?_
    refine h_takeFrom87 ?_
    refine ⟨fun e2 => ?_, fun e2 => ?_⟩
    · have e2 : M 2 0 = M 3 0 := e2
      exact absurd (by rw [e2]; exact Int32.le_refl _) e
    · refine c_otherSide (t := 1) (by decide) ?_
      refine c_writeHeaderOn0 ?_
      exact thr_go (fun M1 e => thr_t (by rw [← e]; exact h)) (fun M1 e => thr_f (by rw [← e]; exact h))
end CC
