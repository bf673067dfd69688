/-! the reference's methods: a write, a read -/
def mri (q : Bool × kMem) (x : Int32) : kRes := if q.1 = true then rI x q.2 else rI (nI 0) (mw q.2 9 4 (nI 1))
def mrv (q : Bool × kMem) : kRes := rV (mw q.2 9 4 (if q.1 = true then nI 0 else nI 1))
def iwR (h : Nat → Int32) (x : Int32) : Nat → Bool
  | 0 => false
  | n + 1 => decide (h (20 + (3 - n)) = x) || iwR h x n
theorem iw_R (h : Nat → Int32) (x : Int32) : inw h x = iwR h x 4 := by
  unfold inw
  simp [iwR]
theorem inR_2 (x : Int32) : inR x 2 = decide (x = nI 0 ∨ x = nI 1) := by
  by_cases h : inR x 2 = true
  · rw [h]
    obtain ⟨j, hj, rfl⟩ := inR_t (by decide) h
    rcases (show j = 0 ∨ j = 1 by omega) with rfl | rfl <;> rfl
  · rw [Bool.not_eq_true] at h
    rw [h]
    symm
    refine decide_eq_false (fun z => ?_)
    rcases z with rfl | rfl
    · exact absurd h (by decide)
    · exact absurd h (by decide)
section MB
variable {d : Nat} {M : kMem} {P : kRes → Prop}
theorem m_makeVolume {n : Nat} (hn : n ≤ 6) (hm : M 13 1 = nI n) (h1 : ¬ M 9 0 = 0 → P (rI (nI 0) (mw M 9 4 (nI 1)))) (h2 : M 9 0 = 0 → n = 6 → P (rI (-1) (mw M 9 4 (nI 0))))
    (h3 : M 9 0 = 0 → n < 6 → P (mri (nx 9 spM (mw (mw (mw M 9 4 (nI 0)) 13 1 (nI n + nI 1)) 13 (2 + n) (nI 0))) (nI n))) : kC (d + 3) km_makeVolume [.ref 9] M P := by
  refine kC_of 60 (by decide) (Nat.le_of_ble_eq_true rfl) ?_
  refine ⟨fun e => ?_, fun e => ?_⟩
  · have e : M 9 0 = 0 := e
    refine ⟨rfl, rfl, fun _ => ?_, fun e2 => absurd e e2⟩
    refine ⟨1, rfl, by decide, ?_⟩
    have hm2 : mw M 9 4 (nI 0) 13 1 = nI n := hm
    refine ⟨fun e3 => ?_, fun e3 => ?_⟩
    · have hn6 : n < 6 := by
        rcases Nat.lt_or_ge n 6 with z | z
        · exact z
        · exact absurd (by rw [show n = 6 by omega] at hm; exact hm) e3
      have h := h3 e hn6
      refine ⟨1, rfl, by decide, 1, rfl, by decide, ?_⟩
      refine ⟨2 + n, ?_, by omega, ?_⟩
      · show nI 2 + M 13 1 = _
        rw [hm, nI_add]
      refine kwN_eq (M' := mw (mw (mw M 9 4 (nI 0)) 13 1 (nI n + nI 1)) 13 (2 + n) (nI 0)) ?_ ?_
      · show mw (mw (mw M 9 4 (nI 0)) 13 1 (M 13 1 + nI 1)) 13 (2 + n) (nI 0) = _
        rw [hm]
      refine m_next ?_
      refine bgo (fun M1 e4 => ?_) (fun M1 e4 => ?_)
      · rw [e4] at h
        refine ⟨fun e2 => absurd e2 (by decide), fun _ => ⟨rfl, ?_⟩⟩
        show P (rI (M 13 1) M1)
        rw [hm]
        exact h
      · rw [e4] at h
        refine ⟨fun _ => m_fail ⟨rfl, h⟩, fun e2 => absurd rfl e2⟩
    · have e3 : M 13 1 = nI 6 := e3
      have hn6 : n = 6 := (nI_eq (by omega) (by decide)).mp (hm.symm.trans e3)
      exact ⟨rfl, h2 e hn6⟩
  · have e : ¬ M 9 0 = 0 := e
    exact ⟨rfl, rfl, fun e2 => absurd e2 e, fun _ => ⟨rfl, h1 e⟩⟩
theorem m_isPlace {x t k w : Int32} (hw : wf (M 13)) (h : P (rI (kb (isB (M 13) x t k && inR w 4)) M)) : kC (d + 1) km_isPlace [.ref 9, .int x, .int t, .int k, .int w] M P := by
  obtain ⟨n, hn, hm, -, -⟩ := hw
  have hf : (isB (M 13) x t k && inR w 4) = false → P (rI (nI 0) M) := fun z => by rw [z] at h; exact h
  refine kC_of 40 (by decide) (Nat.le_of_ble_eq_true rfl) ?_
  refine m_isVolume ?_
  refine ⟨fun e => ⟨rfl, hf (by unfold isB; rw [kb_0.mp e]; rfl)⟩, fun e => ?_⟩
  have e := kb_pos e
  refine ⟨fun e2 => ⟨rfl, hf (by unfold isB; rw [show inR k 64 = false from decide_eq_false (fun z => z.1 e2), Bool.and_false]; rfl)⟩, fun e2 => ?_⟩
  refine ⟨fun e3 => ⟨rfl, hf (by unfold isB; rw [show inR k 64 = false from decide_eq_false (fun z => z.2 e3), Bool.and_false]; rfl)⟩, fun e3 => ?_⟩
  refine ⟨fun e4 => ⟨rfl, hf (by rw [show inR w 4 = false from decide_eq_false (fun z => z.1 e4), Bool.and_false])⟩, fun e4 => ?_⟩
  refine ⟨fun e5 => ⟨rfl, hf (by rw [show inR w 4 = false from decide_eq_false (fun z => z.2 e5), Bool.and_false])⟩, fun e5 => ?_⟩
  have ek : inR k 64 = true := decide_eq_true ⟨e2, e3⟩
  have ew : inR w 4 = true := decide_eq_true ⟨e4, e5⟩
  obtain ⟨v, hv, rfl⟩ := isV_t hn hm e
  have hc : (nI v).toNatClampNeg = v := nI_clamp (by omega)
  unfold isB at h hf
  rw [e, ek, ew, hc, Bool.true_and, Bool.and_true, Bool.and_true] at h hf
  refine m_stateOf (by omega) ?_
  refine ⟨fun e6 => ?_, fun e6 => ?_⟩
  · have e6 : ¬ M 13 (2 + v) = nI 1 := e6
    rw [decide_eq_true e6, Bool.true_or] at h
    exact ⟨rfl, h⟩
  · have e6 : M 13 (2 + v) = nI 1 := e6
    rw [decide_eq_false (fun z => z e6), Bool.false_or, inR_2] at h hf
    refine ⟨fun e7 => ?_, fun e7 => ⟨fun e8 => ?_, fun e8 => ?_⟩⟩
    · have e7 : t = nI 0 := e7
      rw [decide_eq_true (Or.inl e7)] at h
      exact ⟨rfl, h⟩
    · exact ⟨rfl, hf (decide_eq_false (fun z => z.elim e7 e8))⟩
    · have e8 : t = nI 1 := e8
      rw [decide_eq_true (Or.inr e8)] at h
      exact ⟨rfl, h⟩
theorem m_ask {x t k w : Int32} (hw : wf (M 13)) (h1 : ¬ M 9 0 = 0 → P (rV (mw M 9 4 (nI 1)))) (h2 : M 9 0 = 0 → (isB (M 13) x t k && inR w 4) = false → P (rV (mw M 9 4 (nI 2)))) (h3 : M 9 0 = 0 → (isB (M 13) x t k && inR w 4) = true → P (rV (mw M 9 4 (nI 0)))) : kC (d + 2) km_ask [.ref 9, .int x, .int t, .int k, .int w] M P := by
  refine kC_of 40 (by decide) (Nat.le_of_ble_eq_true rfl) ?_
  refine ⟨fun e => ?_, fun e => ⟨rfl, rfl, h1 e⟩⟩
  refine m_isPlace hw ?_
  exact ⟨fun e2 => ⟨rfl, rfl, h3 e (kb_pos e2)⟩, fun e2 => ⟨rfl, rfl, h2 e (kb_0.mp e2)⟩⟩
theorem m_sideOf {v s : Nat} {x : Int32} (hv : v < 6) (hs : s < 4) (hst : M 13 (2 + v) = nI s) (h : P (rI (sidI s x) M)) : kC (d + 1) km_sideOf [.ref 9, .int (nI v), .int x] M P := by
  refine kC_of 30 (by decide) (Nat.le_of_ble_eq_true rfl) ?_
  refine m_stateOf hv ?_
  rw [hst]
  unfold sidI at h
  refine ⟨fun e => ⟨fun e2 => ?_, fun e2 => ?_⟩, fun e => ?_⟩
  · have h1 : ¬ s = 1 := fun z => e2 (by rw [z]; rfl)
    have h2 : ¬ s = 0 := fun z => e (by rw [z]; rfl)
    rw [if_neg h1] at h
    refine ⟨rfl, ?_⟩
    rw [← pk_sub (by omega)] at h
    exact h
  · have h1 : s = 1 := (nI_eq (by omega) (by decide)).mp e2
    rw [if_pos h1] at h
    exact ⟨rfl, h⟩
  · have h2 : s = 0 := (nI_eq (by omega) (by decide)).mp e
    subst h2
    exact ⟨rfl, h⟩
theorem m_win_loop {v r : Nat} : ∀ (n i : Nat) (a : Bool) (x y : Int32), i + n = 4 → x = nI (20 + i) → y = kb a → P (rI (kb (a || iwR (M 13) (nI (v * 8 + r)) n)) M) →
    kJ d km_isWindowed P 6 [(0, .ref 9), (1, .int (nI v)), (2, .int (nI r)), (3, .int y), (4, .int x)] [] M := by
  have e9 : nI 8 * nI v + nI r = nI (v * 8 + r) := by rw [pk_mul, nI_add, Nat.mul_comm]
  intro n
  induction n with
  | zero =>
    intro i a x y hi hx hy h
    have hi : i = 4 := by omega
    subst hi; subst hx; subst hy
    have h : P (rI (kb (a || false)) M) := h
    rw [Bool.or_false] at h
    refine kJ_H [6] 10 ?_
    exact ⟨fun _ => ⟨kb_narrow a, h⟩, fun e => absurd (by decide) e⟩
  | succ n ih =>
    intro i a x y hi hx hy h
    subst hx; subst hy
    have hi2 : i = 3 - n := by omega
    unfold iwR at h
    rw [← hi2] at h
    refine kJ_H [6] 40 ?_
    refine ⟨fun e => absurd e (nI_ge (by omega) (by decide)), fun _ => ⟨fun e => ?_, fun e => ?_⟩⟩
    · rw [kb_pos e, Bool.true_or] at h
      exact ih (i + 1) true _ _ (by omega) (nI_1 _) rfl h
    · rw [kb_0.mp e, Bool.false_or] at h
      refine ⟨20 + i, rfl, by omega, ?_⟩
      refine ⟨fun e2 => ?_, fun e2 => ?_⟩
      · have e2 : ¬ M 13 (20 + i) = nI 8 * nI v + nI r := e2
        rw [e9] at e2
        rw [decide_eq_false e2] at h
        exact ih (i + 1) false _ _ (by omega) (nI_1 _) rfl h
      · have e2 : M 13 (20 + i) = nI 8 * nI v + nI r := e2
        rw [e9] at e2
        rw [decide_eq_true e2] at h
        exact ih (i + 1) true _ _ (by omega) (nI_1 _) rfl h
theorem m_isWindowed {v r : Nat} (h : P (rI (kb (inw (M 13) (nI (v * 8 + r)))) M)) : kC d km_isWindowed [.ref 9, .int (nI v), .int (nI r)] M P := by
  rw [iw_R] at h
  refine kC_L [6] 30 (by decide) (Nat.le_of_ble_eq_true rfl) ?_
  exact m_win_loop 4 0 false _ _ rfl rfl rfl h
theorem m_enter_at {v r k : Nat} (hk : k < 4) {lv : List (Nat × Value)} {y : Int32} (hy : y = nI k) (h0 : kget lv 0 = some (.ref 9)) (h1 : kget lv 1 = some (.int (nI v))) (h2 : kget lv 2 = some (.int (nI r))) (h3 : kget lv 3 = some (.int y)) (h : P (rV (va_up M 13 (upd (M 13) (20 + k) (nI (v * 8 + r)))))) :
    kJ d km_enter P 68 lv [] M := by
  have e9 : nI 8 * nI v + nI r = nI (v * 8 + r) := by rw [pk_mul, nI_add, Nat.mul_comm]
  subst hy
  refine kw_ok 20 _ _ _ _ ?_
  show (match kget lv 0 with | some (.ref v) => _ | _ => False)
  rw [h0]
  show (match kget lv 3 with | some (.int v) => _ | _ => False)
  rw [h3]
  show (match kget lv 1 with | some (.int v) => _ | _ => False)
  rw [h1]
  show (match kget lv 2 with | some (.int v) => _ | _ => False)
  rw [h2]
  refine ⟨20 + k, nI_add 20 k, by omega, ?_⟩
  show P (rV (va_up M 13 (upd (M 13) (20 + k) (nI 8 * nI v + nI r))))
  rw [e9]
  exact h
theorem m_shift_loop {v r : Nat} {z : Int32} : ∀ (n i : Nat) (x : Int32), i + n = 3 → x = nI (20 + i) → P (rV (va_up M 13 (upd (va_cpy (M 13) (M 13) 21 20 3) 23 (nI (v * 8 + r))))) →
    kJ d km_enter P 35 [(0, .ref 9), (1, .int (nI v)), (2, .int (nI r)), (3, .int z), (4, .int x)] [] (va_up M 13 (va_cpy (M 13) (M 13) 21 20 i)) := by
  intro n
  induction n with
  | zero =>
    intro i x hi hx h
    have hi : i = 3 := by omega
    subst hi; subst hx
    refine kJ_H [35, 68] 10 ?_
    refine ⟨fun _ => ?_, fun e => absurd (by decide) e⟩
    refine m_enter_at (k := 3) (v := v) (r := r) (by decide) rfl rfl rfl rfl rfl ?_
    rw [bx_uu, va_up_self]
    exact h
  | succ n ih =>
    intro i x hi hx h
    subst hx
    refine kJ_H [35, 68] 40 ?_
    have e9 : nI (20 + i) + nI 1 = nI (21 + i) := by rw [nI_add]; congr 1; omega
    refine ⟨fun e => absurd e ?_, fun _ => ?_⟩
    · show ¬ _ ≤ nI (20 + i) + nI 1
      rw [e9]
      exact nI_ge (by omega) (by decide)
    refine ⟨21 + i, e9, by omega, 20 + i, rfl, by omega, ?_⟩
    refine kJ_eq (M' := va_up M 13 (va_cpy (M 13) (M 13) 21 20 (i + 1))) ?_ ?_
    · show mw (va_up M 13 (va_cpy (M 13) (M 13) 21 20 i)) 13 (20 + i) (va_up M 13 (va_cpy (M 13) (M 13) 21 20 i) 13 (21 + i)) = _
      rw [mw_up, va_up_self, ← cpy_go]
      congr 2
      unfold va_cpy
      rw [if_neg (by omega)]
    · exact ih (i + 1) _ (by omega) (nI_1 _) h
theorem m_size_loop {v r : Nat} (h26 : kJ d km_enter P 26 [(0, .ref 9), (1, .int (nI v)), (2, .int (nI r)), (3, .int (nI (wsz (M 13))))] [] M) : ∀ (n i : Nat) (x : Int32), i + n = 4 → x = nI i → wsn (M 13) n = wsz (M 13) →
    kJ d km_enter P 2 [(0, .ref 9), (1, .int (nI v)), (2, .int (nI r)), (3, .int x)] [] M := by
  intro n
  induction n with
  | zero =>
    intro i x hi hx h
    have hi : i = 4 := by omega
    subst hi; subst hx
    have h : 4 = wsz (M 13) := h
    rw [← h] at h26
    refine kJ_H [2, 26] 10 ?_
    exact ⟨fun _ => h26, fun e => absurd (by decide) e⟩
  | succ n ih =>
    intro i x hi hx h
    subst hx
    have hi2 : i = 3 - n := by omega
    unfold wsn at h
    rw [← hi2] at h
    refine kJ_H [2, 26] 20 ?_
    refine ⟨fun e => absurd e (nI_ge (by omega) (by decide)), fun _ => ?_⟩
    refine ⟨20 + i, nI_add 20 i, by omega, ?_⟩
    refine ⟨fun e => ?_, fun e => ?_⟩
    · have e : M 13 (20 + i) = -1 := e
      rw [if_pos e] at h
      rw [← h] at h26
      exact h26
    · have e : ¬ M 13 (20 + i) = -1 := e
      rw [if_neg e] at h
      exact ih (i + 1) _ (by omega) (nI_1 _) h
theorem m_enter {v r : Nat} (h : P (rV (va_up M 13 (ent (M 13) (nI (v * 8 + r)))))) : kC d km_enter [.ref 9, .int (nI v), .int (nI r)] M P := by
  have hw := wsz_le (M 13)
  unfold ent at h
  refine kC_L [2] 30 (by decide) (Nat.le_of_ble_eq_true rfl) ?_
  refine m_size_loop ?_ 4 0 _ rfl rfl rfl
  refine kJ_H [35, 68] 10 ?_
  refine ⟨fun e => ?_, fun e => ?_⟩
  · have hne : ¬ wsz (M 13) = 4 := fun z => e (by rw [z]; rfl)
    rw [if_neg hne] at h
    exact m_enter_at (k := wsz (M 13)) (v := v) (r := r) (by omega) rfl rfl rfl rfl rfl h
  · have he : wsz (M 13) = 4 := (nI_eq (by omega) (by decide)).mp e
    rw [if_pos he] at h
    have h0 := m_shift_loop (d := d) (z := nI (wsz (M 13))) 3 0 (nI 20) rfl rfl h
    rw [cpy_0, up_id] at h0
    exact h0
end MB
