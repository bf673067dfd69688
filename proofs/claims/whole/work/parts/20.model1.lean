/-! the reference's methods: leaves, single writes -/
def kbr (q : Bool × kMem) : kRes := rI (kb q.1) q.2
theorem cpy_0 (s f : Nat → Int32) (i j : Nat) : va_cpy s f i j 0 = f := by
  funext k
  unfold va_cpy
  rw [if_neg (by omega)]
theorem cpy_go (s f : Nat → Int32) (i j n : Nat) : upd (va_cpy s f i j n) (j + n) (s (i + n)) = va_cpy s f i j (n + 1) := by
  funext k
  unfold va_cpy upd
  dsimp only
  by_cases h1 : k = j + n
  · subst h1
    rw [if_pos rfl, if_pos (by omega), show j + n - j = n by omega]
  · rw [if_neg h1]
    by_cases h2 : j ≤ k ∧ k < j + n
    · rw [if_pos h2, if_pos (by omega)]
    · rw [if_neg h2, if_neg (by omega)]
theorem up_id (M : kMem) (k : Nat) : va_up M k (M k) = M := by
  funext j
  unfold va_up
  by_cases hk : j = k
  · rw [if_pos hk, hk]
  · rw [if_neg hk]
section MA
variable {d : Nat} {M : kMem} {P : kRes → Prop}
theorem bgo {d' mid : Nat} {K : Nat → List (Nat × Value) → List Value → kMem → Prop} {pc : Nat} {lv : List (Nat × Value)} {st : List Value} {q : Bool × kMem} (h1 : ∀ M1, q = (true, M1) → K (pc + 3) lv (.int (nI 1) :: st) M1) (h2 : ∀ M1, q = (false, M1) → K (pc + 3) lv (.int (nI 0) :: st) M1) : kgo d' mid P K pc lv st (kbr q) := by
  obtain ⟨ok, M1⟩ := q
  cases ok
  · exact h2 M1 rfl
  · exact h1 M1 rfl
theorem m_isDone (h : P (kbr (spM M))) : kC d km_isDone [.ref 9] M P := by
  unfold spM at h
  refine kC_of 60 (by decide) (Nat.le_of_ble_eq_true rfl) ?_
  refine ⟨fun e => ?_, fun e => ?_⟩
  · have e : M 9 0 = 0 := e
    rw [if_neg (fun z => z e)] at h
    refine ⟨fun e2 => ?_, fun e2 => ?_⟩
    · have e2 : ¬ M 9 1 = 0 := e2
      rw [if_neg e2] at h
      refine ⟨fun e3 => ?_, fun e3 => ?_⟩
      · have e3 : M 9 1 ≤ 0 := e3
        rw [if_pos e3] at h
        exact ⟨rfl, rfl, rfl, rfl, rfl, h⟩
      · have e3 : ¬ M 9 1 ≤ 0 := e3
        rw [if_neg e3] at h
        exact ⟨rfl, rfl, rfl, rfl, rfl, h⟩
    · have e2 : M 9 1 = 0 := e2
      rw [if_pos e2] at h
      exact ⟨rfl, rfl, rfl, rfl, rfl, h⟩
  · have e : ¬ M 9 0 = 0 := e
    rw [if_pos e] at h
    exact ⟨rfl, h⟩
theorem m_copy_loop {f t : Nat} (hf : kar f = some 24) (ht : kar t = some 24) (hne : f ≠ t) : ∀ (n i : Nat) (x : Int32), i + n = 24 → x = nI i → P (rV (va_up M t (va_cpy (M f) (M t) 0 0 24))) →
    kJ d km_copy P 2 [(0, .ref f), (1, .ref t), (2, .int x)] [] (va_up M t (va_cpy (M f) (M t) 0 0 i)) := by
  intro n
  induction n with
  | zero =>
    intro i x hi hx h
    have hi : i = 24 := by omega
    subst hi; subst hx
    refine kJ_H [2] 10 ?_
    exact ⟨fun _ => h, fun e => absurd (by decide) e⟩
  | succ n ih =>
    intro i x hi hx h
    subst hx
    refine kJ_H [2] 20 ?_
    refine ⟨fun e => absurd e (nI_ge (by omega) (by decide)), fun _ => ?_⟩
    show (match kar f with | some n => _ | none => False)
    rw [hf]
    refine ⟨i, rfl, by omega, ?_⟩
    show (match kar t with | some n => _ | none => False)
    rw [ht]
    refine ⟨i, rfl, by omega, ?_⟩
    refine kJ_eq (M' := va_up M t (va_cpy (M f) (M t) 0 0 (i + 1))) ?_ ?_
    · show mw (va_up M t (va_cpy (M f) (M t) 0 0 i)) t i (va_up M t (va_cpy (M f) (M t) 0 0 i) f i) = _
      rw [mw_up, va_up_ne _ _ hne, ← cpy_go, Nat.zero_add]
    · exact ih (i + 1) _ (by omega) (nI_1 i) h
theorem m_copy {f t : Nat} (hf : kar f = some 24) (ht : kar t = some 24) (hne : f ≠ t) (h : P (rV (va_up M t (va_cpy (M f) (M t) 0 0 24)))) : kC d km_copy [.ref f, .ref t] M P := by
  refine kC_L [2] 10 (by decide) (Nat.le_of_ble_eq_true rfl) ?_
  have h0 := m_copy_loop (d := d) hf ht hne 24 0 (nI 0) rfl rfl h
  rw [cpy_0, up_id] at h0
  exact h0
theorem m_writeHeader {t : Nat} (ht : t < 2) (h : P (kbr (wh 9 spM M t))) : kC (d + 1) km_writeHeader [.ref 9, .int (nI t)] M P := by
  unfold wh at h
  refine kC_of 40 (by decide) (Nat.le_of_ble_eq_true rfl) ?_
  refine m_isDone ?_
  refine bgo (fun M1 e => ?_) (fun M1 e => ?_)
  · rw [e] at h
    refine ⟨fun e2 => absurd e2 (by decide), fun _ => ?_⟩
    refine ⟨fun e3 => ?_, fun e3 => ?_⟩
    · have ht1 : t = 1 := by
        rcases (show t = 0 ∨ t = 1 by omega) with rfl | rfl
        · exact absurd rfl e3
        · rfl
      subst ht1
      refine m_copy rfl rfl (by decide) ?_
      exact ⟨rfl, h⟩
    · have ht1 : t = 0 := (nI_eq (by omega) (by decide)).mp e3
      subst ht1
      refine m_copy rfl rfl (by decide) ?_
      exact ⟨rfl, h⟩
  · rw [e] at h
    exact ⟨fun _ => ⟨rfl, h⟩, fun e2 => absurd rfl e2⟩
theorem m_next (h : P (kbr (nx 9 spM M))) : kC (d + 2) km_next [.ref 9] M P := by
  unfold nx at h
  refine kC_of 40 (by decide) (Nat.le_of_ble_eq_true rfl) ?_
  refine ⟨0, rfl, by decide, 0, rfl, by decide, ?_⟩
  refine m_writeHeader (t := 0) (by decide) ?_
  have h : P (kbr (match wh 9 spM (mw M 13 0 (M 13 0 + nI 1)) 0 with | (true, M1) => wh 9 spM M1 1 | (false, M1) => (false, M1))) := h
  refine bgo (fun M1 e => ?_) (fun M1 e => ?_)
  · have e : wh 9 spM (mw M 13 0 (M 13 0 + nI 1)) 0 = (true, M1) := e
    rw [e] at h
    refine ⟨fun e2 => absurd e2 (by decide), fun _ => ?_⟩
    refine m_writeHeader (t := 1) (by decide) ?_
    have h : P (kbr (wh 9 spM M1 1)) := h
    refine bgo (fun M2 e3 => ?_) (fun M2 e3 => ?_)
    · rw [e3] at h
      exact ⟨fun e2 => absurd e2 (by decide), fun _ => ⟨rfl, h⟩⟩
    · rw [e3] at h
      exact ⟨fun _ => ⟨rfl, h⟩, fun e2 => absurd rfl e2⟩
  · have e : wh 9 spM (mw M 13 0 (M 13 0 + nI 1)) 0 = (false, M1) := e
    rw [e] at h
    exact ⟨fun _ => ⟨rfl, h⟩, fun e2 => absurd rfl e2⟩
theorem m_place {v t k : Nat} (h : P (rI (nI (pl t v k)) M)) : kC d km_place [.int (nI t), .int (nI v), .int (nI k)] M P := by
  refine kC_of 20 (by decide) (Nat.le_of_ble_eq_true rfl) ?_
  refine ⟨rfl, ?_⟩
  have e : nI 1536 * nI t + nI 256 * nI v + nI 4 * nI k = nI (pl t v k) := by
    rw [pk_mul, pk_mul, pk_mul, nI_add, nI_add]
    rfl
  rw [← e] at h
  exact h
theorem m_wb_loop {v t k : Nat} (hv : v < 6) (ht : t < 2) (hk : k < 64) : ∀ (n i : Nat) (x : Int32), i + n = 4 → x = nI i → P (kbr (true, va_up M 10 (va_cpy (M 14) (M 10) 0 (pl t v k) 4))) →
    kJ (d + 1) km_writeBlock P 9 [(0, .ref 9), (1, .int (nI t)), (2, .int (nI v)), (3, .int (nI k)), (4, .int (nI 1)), (5, .int x)] [] (va_up M 10 (va_cpy (M 14) (M 10) 0 (pl t v k) i)) := by
  have hp := pl_lt ht hv hk
  intro n
  induction n with
  | zero =>
    intro i x hi hx h
    have hi : i = 4 := by omega
    subst hi; subst hx
    refine kJ_H [9] 10 ?_
    exact ⟨fun _ => ⟨rfl, h⟩, fun e => absurd (by decide) e⟩
  | succ n ih =>
    intro i x hi hx h
    subst hx
    refine kJ_H [9] 30 ?_
    refine ⟨fun e => absurd e (nI_ge (by omega) (by decide)), fun _ => ⟨fun e => absurd e (by decide), fun _ => ?_⟩⟩
    refine m_place ?_
    refine ⟨i, rfl, by omega, pl t v k + i, nI_add _ _, by omega, ?_⟩
    refine kJ_eq (M' := va_up M 10 (va_cpy (M 14) (M 10) 0 (pl t v k) (i + 1))) ?_ ?_
    · show mw (va_up M 10 (va_cpy (M 14) (M 10) 0 (pl t v k) i)) 10 (pl t v k + i) (va_up M 10 (va_cpy (M 14) (M 10) 0 (pl t v k) i) 14 i) = _
      rw [mw_up, va_up_ne _ _ (by decide), ← cpy_go, Nat.zero_add]
    · exact ih (i + 1) _ (by omega) (nI_1 i) h
theorem m_writeBlock {v t k : Nat} (hv : v < 6) (ht : t < 2) (hk : k < 64) (h : P (kbr (wb 9 spM M t v k))) : kC (d + 1) km_writeBlock [.ref 9, .int (nI t), .int (nI v), .int (nI k)] M P := by
  unfold wb at h
  refine kC_L [9] 30 (by decide) (Nat.le_of_ble_eq_true rfl) ?_
  refine m_isDone ?_
  refine bgo (fun M1 e => ?_) (fun M1 e => ?_)
  · rw [e] at h
    have h0 := m_wb_loop (M := M1) (d := d) hv ht hk 4 0 (nI 0) rfl rfl h
    rw [cpy_0, up_id] at h0
    exact h0
  · rw [e] at h
    refine kJ_H [9] 30 ?_
    exact ⟨fun e => absurd e (by decide), fun _ => ⟨fun _ => ⟨rfl, h⟩, fun e => absurd rfl e⟩⟩
theorem m_take_loop {v t k : Nat} (hv : v < 6) (ht : t < 2) (hk : k < 64) : ∀ (n i : Nat) (x : Int32), i + n = 4 → x = nI i → P (rV (va_up M 14 (va_cpy (M 10) (M 14) (pl t v k) 0 4))) →
    kJ (d + 1) km_take P 3 [(0, .ref 9), (1, .int (nI t)), (2, .int (nI v)), (3, .int (nI k)), (4, .int x)] [] (va_up M 14 (va_cpy (M 10) (M 14) (pl t v k) 0 i)) := by
  have hp := pl_lt ht hv hk
  intro n
  induction n with
  | zero =>
    intro i x hi hx h
    have hi : i = 4 := by omega
    subst hi; subst hx
    refine kJ_H [3] 10 ?_
    exact ⟨fun _ => h, fun e => absurd (by decide) e⟩
  | succ n ih =>
    intro i x hi hx h
    subst hx
    refine kJ_H [3] 30 ?_
    refine ⟨fun e => absurd e (nI_ge (by omega) (by decide)), fun _ => ?_⟩
    refine m_place ?_
    refine ⟨pl t v k + i, nI_add _ _, by omega, i, rfl, by omega, ?_⟩
    refine kJ_eq (M' := va_up M 14 (va_cpy (M 10) (M 14) (pl t v k) 0 (i + 1))) ?_ ?_
    · show mw (va_up M 14 (va_cpy (M 10) (M 14) (pl t v k) 0 i)) 14 i (va_up M 14 (va_cpy (M 10) (M 14) (pl t v k) 0 i) 10 (pl t v k + i)) = _
      rw [mw_up, va_up_ne _ _ (by decide), ← cpy_go, Nat.zero_add]
    · exact ih (i + 1) _ (by omega) (nI_1 i) h
theorem m_take {v t k : Nat} (hv : v < 6) (ht : t < 2) (hk : k < 64) (h : P (rV (tk 9 M t v k))) : kC (d + 1) km_take [.ref 9, .int (nI t), .int (nI v), .int (nI k)] M P := by
  refine kC_L [3] 30 (by decide) (Nat.le_of_ble_eq_true rfl) ?_
  have h0 := m_take_loop (M := M) (d := d) hv ht hk 4 0 (nI 0) rfl rfl h
  rw [cpy_0, up_id] at h0
  exact h0
theorem m_same_loop {v k : Nat} (hv : v < 6) (hk : k < 64) : ∀ (n i : Nat) (a : Bool) (x y : Int32), i + n = 4 → x = nI i → y = kb a → P (rI (kb (a && smR (M 10) (pl 0 v k) (pl 1 v k) n)) M) →
    kJ (d + 1) km_isSame P 5 [(0, .ref 9), (1, .int (nI v)), (2, .int (nI k)), (3, .int y), (4, .int x)] [] M := by
  have hp := pl_lt (t := 0) (by decide) hv hk
  have hq := pl_lt (t := 1) (by decide) hv hk
  intro n
  induction n with
  | zero =>
    intro i a x y hi hx hy h
    have hi : i = 4 := by omega
    subst hi; subst hx; subst hy
    have h : P (rI (kb (a && true)) M) := h
    rw [Bool.and_true] at h
    refine kJ_H [5] 10 ?_
    exact ⟨fun _ => ⟨kb_narrow a, h⟩, fun e => absurd (by decide) e⟩
  | succ n ih =>
    intro i a x y hi hx hy h
    subst hx; subst hy
    have hi2 : i = 3 - n := by omega
    unfold smR at h
    rw [← hi2] at h
    refine kJ_H [5] 40 ?_
    refine ⟨fun e => absurd e (nI_ge (by omega) (by decide)), fun _ => ⟨fun e => ?_, fun e => ?_⟩⟩
    · rw [kb_0.mp e, Bool.false_and] at h
      exact ih (i + 1) false _ _ (by omega) (nI_1 i) rfl h
    · rw [kb_pos e, Bool.true_and] at h
      refine m_place (t := 0) ?_
      refine ⟨pl 0 v k + i, nI_add _ _, by omega, ?_⟩
      refine m_place (t := 1) ?_
      refine ⟨pl 1 v k + i, nI_add _ _, by omega, ?_⟩
      refine ⟨fun e2 => ?_, fun e2 => ?_⟩
      · rw [decide_eq_false e2] at h
        exact ih (i + 1) false _ _ (by omega) (nI_1 i) rfl h
      · rw [decide_eq_true e2] at h
        exact ih (i + 1) true _ _ (by omega) (nI_1 i) rfl h
theorem m_isSame {v k : Nat} (hv : v < 6) (hk : k < 64) (h : P (rI (kb (sm (M 10) v k)) M)) : kC (d + 1) km_isSame [.ref 9, .int (nI v), .int (nI k)] M P := by
  rw [sm_R] at h
  refine kC_L [5] 30 (by decide) (Nat.le_of_ble_eq_true rfl) ?_
  exact m_same_loop hv hk 4 0 true _ _ rfl rfl rfl h
theorem m_cr_loop {v r t : Nat} (hv : v < 6) (hr : r < 8) (ht : t < 2) : ∀ (n i : Nat) (x : Int32) (M : kMem), i + n = 8 → x = nI (8 * r + i) → P (kbr (crn 9 spM v r t n M)) →
    kJ (d + 2) km_copyRegion P 9 [(0, .ref 9), (1, .int (nI v)), (2, .int (nI r)), (3, .int (nI t)), (4, .int (nI 1)), (5, .int x)] [] M := by
  have e9 : nI 8 * nI r + nI 8 = nI (8 * r + 8) := by rw [pk_mul, nI_add]
  have fin : ∀ (i : Nat) (x : Int32) (M : kMem), P (kbr (false, M)) → kJ (d + 2) km_copyRegion P 9 [(0, .ref 9), (1, .int (nI v)), (2, .int (nI r)), (3, .int (nI t)), (4, .int (nI 0)), (5, .int x)] [] M := by
    intro i x M h
    refine kJ_H [9] 20 ?_
    exact ⟨fun _ => ⟨rfl, h⟩, fun _ => ⟨fun _ => ⟨rfl, h⟩, fun e => absurd rfl e⟩⟩
  intro n
  induction n with
  | zero =>
    intro i x M hi hx h
    have hi : i = 8 := by omega
    subst hi; subst hx
    refine kJ_H [9] 20 ?_
    refine ⟨fun _ => ⟨rfl, h⟩, fun e => absurd ?_ e⟩
    show nI 8 * nI r + nI 8 ≤ _
    rw [e9]
    exact nI_le (Nat.le_refl _) (by omega)
  | succ n ih =>
    intro i x M hi hx h
    subst hx
    have hi2 : i = 7 - n := by omega
    unfold crn at h
    rw [← hi2] at h
    have hk : 8 * r + i < 64 := by omega
    refine kJ_H [9] 40 ?_
    refine ⟨fun e => absurd e ?_, fun _ => ⟨fun e => absurd e (by decide), fun _ => ?_⟩⟩
    · show ¬ nI 8 * nI r + nI 8 ≤ _
      rw [e9]
      exact nI_ge (by omega) (by omega)
    refine m_isSame hv hk ?_
    refine ⟨fun e => ?_, fun e => ?_⟩
    · have e2 : sm (M 10) v (8 * r + i) = true := kb_pos e
      rw [if_pos e2] at h
      exact ih (i + 1) _ M (by omega) (nI_1 _) h
    · have e2 : sm (M 10) v (8 * r + i) = false := kb_0.mp e
      rw [if_neg (by rw [show (9 + 1 : Nat) = 10 from rfl, e2]; decide)] at h
      refine m_take hv ht hk ?_
      show kC (d + 1) km_writeBlock [.ref 9, .int (nI 1 - nI t), .int (nI v), .int (nI (8 * r + i))] (tk 9 M t v (8 * r + i)) _
      rw [pk_sub (by omega)]
      refine m_writeBlock hv (by omega) hk ?_
      refine bgo (fun M1 e3 => ?_) (fun M1 e3 => ?_)
      · rw [e3] at h
        exact ih (i + 1) _ M1 (by omega) (nI_1 _) h
      · rw [e3] at h
        exact fin (i + 1) _ M1 h
theorem m_copyRegion {v r t : Nat} (hv : v < 6) (hr : r < 8) (ht : t < 2) (h : P (kbr (cr 9 spM M v r t))) : kC (d + 2) km_copyRegion [.ref 9, .int (nI v), .int (nI r), .int (nI t)] M P := by
  refine kC_L [9] 40 (by decide) (Nat.le_of_ble_eq_true rfl) ?_
  exact m_cr_loop hv hr ht 8 0 _ M rfl (pk_mul 8 r) h
theorem m_stateOf {v : Nat} (hv : v < 6) (h : P (rI (M 13 (2 + v)) M)) : kC d km_stateOf [.ref 9, .int (nI v)] M P := by
  refine kC_of 20 (by decide) (Nat.le_of_ble_eq_true rfl) ?_
  exact ⟨2 + v, nI_add 2 v, by omega, rfl, h⟩
theorem m_isVolume {x : Int32} (h : P (rI (kb (isV (M 13) x)) M)) : kC d km_isVolume [.ref 9, .int x] M P := by
  refine kC_of 20 (by decide) (Nat.le_of_ble_eq_true rfl) ?_
  refine ⟨fun e => ?_, fun e => ?_⟩
  · rw [show isV (M 13) x = false from decide_eq_false (fun z => z.1 e)] at h
    exact ⟨rfl, h⟩
  · refine ⟨1, rfl, by decide, fun e2 => ?_, fun e2 => ?_⟩
    · rw [show isV (M 13) x = false from decide_eq_false (fun z => z.2 e2)] at h
      exact ⟨rfl, h⟩
    · rw [show isV (M 13) x = true from decide_eq_true ⟨e, e2⟩] at h
      exact ⟨rfl, h⟩
theorem m_map {v t : Nat} (hv : v < 6) (ht : t < 2) (h : P (rI (M 13 (8 + t * 6 + v)) M)) : kC d km_map [.ref 9, .int (nI v), .int (nI t)] M P := by
  refine kC_of 20 (by decide) (Nat.le_of_ble_eq_true rfl) ?_
  refine ⟨8 + t * 6 + v, ?_, by omega, rfl, h⟩
  show nI 8 + nI 6 * nI t + nI v = _
  rw [pk_mul, nI_add, nI_add, Nat.mul_comm]
theorem m_isMarked {v r t : Nat} (hv : v < 6) (hr : r < 8) (ht : t < 2) (h : P (rI (kb (bt (M 13 (8 + t * 6 + v)) r)) M)) : kC (d + 1) km_isMarked [.ref 9, .int (nI v), .int (nI r), .int (nI t)] M P := by
  have hb : (M 13 (8 + t * 6 + v) >>> (nI r &&& 31)) &&& nI 1 = kb (bt (M 13 (8 + t * 6 + v)) r) := bit_at (by omega)
  refine kC_of 20 (by decide) (Nat.le_of_ble_eq_true rfl) ?_
  refine m_map hv ht ?_
  refine ⟨fun e => ?_, fun e => ?_⟩
  · have e2 : ¬ kb (bt (M 13 (8 + t * 6 + v)) r) = nI 1 := fun z => e (hb.trans z)
    cases hx : bt (M 13 (8 + t * 6 + v)) r
    · rw [hx] at h
      exact ⟨rfl, h⟩
    · exact absurd (by rw [hx]; rfl) e2
  · have e2 : kb (bt (M 13 (8 + t * 6 + v)) r) = nI 1 := hb.symm.trans e
    cases hx : bt (M 13 (8 + t * 6 + v)) r
    · rw [hx] at e2
      exact absurd e2 (by decide)
    · rw [hx] at h
      exact ⟨rfl, h⟩
theorem m_isOpen {v r : Nat} (hv : v < 6) (hr : r < 8) (h : P (rI (kb (opn (M 13) v r)) M)) : kC (d + 2) km_isOpen [.ref 9, .int (nI v), .int (nI r)] M P := by
  unfold opn at h
  refine kC_of 20 (by decide) (Nat.le_of_ble_eq_true rfl) ?_
  refine m_isMarked (t := 0) hv hr (by decide) ?_
  rw [show 8 + 0 * 6 + v = 8 + v by omega]
  refine ⟨fun e => ?_, fun e => ?_⟩
  · rw [kb_pos e, Bool.true_or] at h
    exact ⟨rfl, h⟩
  · rw [kb_0.mp e, Bool.false_or] at h
    refine m_isMarked (t := 1) hv hr (by decide) ?_
    rw [show 8 + 1 * 6 + v = 14 + v by omega]
    refine ⟨fun e2 => ?_, fun e2 => ?_⟩
    · rw [kb_0.mp e2] at h
      exact ⟨rfl, h⟩
    · rw [kb_pos e2] at h
      exact ⟨rfl, h⟩
theorem m_fail (h : P (rI (nI 0) (mw M 9 4 (nI 1)))) : kC d km_fail [.ref 9] M P := by
  refine kC_of 20 (by decide) (Nat.le_of_ble_eq_true rfl) ?_
  exact ⟨rfl, rfl, rfl, h⟩
end MA
