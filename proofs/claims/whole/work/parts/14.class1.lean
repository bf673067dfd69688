/-! the system's methods: leaves, single writes -/
def isV (h : Nat → Int32) (x : Int32) : Bool := decide (¬ x < 0 ∧ ¬ h 1 ≤ x)
def isS (x : Int32) : Bool := decide (¬ x < 0 ∧ ¬ nI 2 ≤ x)
def sidI (s : Nat) (x : Int32) : Int32 := if s = 1 then x else nI (s - 2)
theorem pl_at (t v k : Nat) : ((nI t * nI 6 + nI v) * nI 64 + nI k) * nI 4 = nI (pl t v k) := by
  rw [pk_mul, nI_add, pk_mul, nI_add, pk_mul]
  congr 1
  unfold pl
  omega
theorem pl_lt {t v k : Nat} (ht : t < 2) (hv : v < 6) (hk : k < 64) : pl t v k + 4 ≤ 3072 := by unfold pl; omega
/-- the last n of four words are the same -/
def smR (W : Nat → Int32) (p q : Nat) : Nat → Bool
  | 0 => true
  | n + 1 => decide (W (p + (3 - n)) = W (q + (3 - n))) && smR W p q n
section CA
variable {d : Nat} {M : kMem} {P : kRes → Prop}
theorem c_isVolume {x : Int32} (h : P (rI (kb (isV (M 4) x)) M)) : kC (d + 1) kc_isVolume [.ref 0, .int x] M P := by
  refine kC_of 20 (by decide) (Nat.le_of_ble_eq_true rfl) ?_
  refine ⟨fun e => ?_, fun e => ?_⟩
  · rw [show isV (M 4) x = false from decide_eq_false (fun z => z.1 e)] at h
    exact ⟨rfl, h⟩
  · refine h_volumeCount ?_
    refine ⟨fun e2 => ?_, fun e2 => ?_⟩
    · rw [show isV (M 4) x = false from decide_eq_false (fun z => z.2 e2)] at h
      exact ⟨rfl, h⟩
    · rw [show isV (M 4) x = true from decide_eq_true ⟨e, e2⟩] at h
      exact ⟨rfl, h⟩
theorem c_isSide {x : Int32} (h : P (rI (kb (isS x)) M)) : kC d kc_isSide [.int x] M P := by
  refine kC_of 20 (by decide) (Nat.le_of_ble_eq_true rfl) ?_
  refine ⟨fun e => ?_, fun e => ⟨fun e2 => ?_, fun e2 => ?_⟩⟩
  · rw [show isS x = false from decide_eq_false (fun z => z.1 e)] at h
    exact ⟨rfl, h⟩
  · rw [show isS x = false from decide_eq_false (fun z => z.2 e2)] at h
    exact ⟨rfl, h⟩
  · rw [show isS x = true from decide_eq_true ⟨e, e2⟩] at h
    exact ⟨rfl, h⟩
theorem c_blockAt {v t k : Nat} (h : P (rI (nI (pl t v k)) M)) : kC d kc_blockAt [.int (nI v), .int (nI t), .int (nI k)] M P := by
  refine kC_of 20 (by decide) (Nat.le_of_ble_eq_true rfl) ?_
  refine ⟨rfl, ?_⟩
  rw [← pl_at] at h
  exact h
theorem c_otherSide {t : Nat} (ht : t < 2) (h : P (rI (nI (1 - t)) M)) : kC d kc_otherSide [.int (nI t)] M P := by
  refine kC_of 20 (by decide) (Nat.le_of_ble_eq_true rfl) ?_
  refine ⟨rfl, ?_⟩
  rw [← pk_sub (by omega)] at h
  exact h
theorem c_headerOn0 (h : P (.inl (some (.ref 6), M))) : kC d kc_headerOn [.ref 0, .int (nI 0)] M P := by
  refine kC_of 20 (by decide) (Nat.le_of_ble_eq_true rfl) ?_
  exact ⟨fun e => absurd rfl e, fun _ => h⟩
theorem c_headerOn1 (h : P (.inl (some (.ref 7), M))) : kC d kc_headerOn [.ref 0, .int (nI 1)] M P := by
  refine kC_of 20 (by decide) (Nat.le_of_ble_eq_true rfl) ?_
  exact ⟨fun _ => h, fun e => absurd e (by decide)⟩
theorem c_sideInUse {v s : Nat} {x : Int32} (hv : v < 6) (hs : s < 4) (hst : M 4 (2 + v) = nI s) (h : P (rI (sidI s x) M)) : kC (d + 1) kc_sideInUse [.ref 0, .int (nI v), .int x] M P := by
  refine kC_of 30 (by decide) (Nat.le_of_ble_eq_true rfl) ?_
  refine h_stateOf hv ?_
  rw [hst]
  unfold sidI at h
  refine ⟨fun e => ⟨fun e2 => ?_, fun e2 => ?_⟩, fun e => ?_⟩
  · have h1 : ¬ s = 1 := fun z => e (by rw [z]; rfl)
    have h2 : ¬ s = 0 := fun z => e2 (by rw [z]; rfl)
    rw [if_neg h1] at h
    refine ⟨rfl, ?_⟩
    rw [← pk_sub (by omega)] at h
    exact h
  · have h2 : s = 0 := (nI_eq (by omega) (by decide)).mp e2
    subst h2
    exact ⟨rfl, h⟩
  · have h1 : s = 1 := (nI_eq (by omega) (by decide)).mp e
    rw [if_pos h1] at h
    exact ⟨rfl, h⟩
theorem c_isSame_loop {v k p q : Nat} (hp : p + 4 ≤ 3072) (hq : q + 4 ≤ 3072) : ∀ (n i : Nat) (x : Int32), i + n = 4 → x = nI i → P (rI (kb (smR (M 1) p q n)) M) →
    kJ (d + 1) kc_isSameOnBothSides P 18 [(0, .ref 0), (1, .int (nI v)), (2, .int (nI k)), (3, .int (nI p)), (4, .int (nI q)), (5, .int x)] [] M := by
  intro n
  induction n with
  | zero =>
    intro i x hi hx h
    have hi : i = 4 := by omega
    subst hi; subst hx
    refine kJ_H [18] 10 ?_
    exact ⟨fun _ => ⟨rfl, h⟩, fun e => absurd (by decide) e⟩
  | succ n ih =>
    intro i x hi hx h
    subst hx
    have hi2 : i = 3 - n := by omega
    unfold smR at h
    rw [← hi2] at h
    refine kJ_H [18] 30 ?_
    refine ⟨fun e => absurd e (nI_ge (by omega) (by decide)), fun _ => ⟨p + i, nI_add _ _, by omega, q + i, nI_add _ _, by omega, fun e => ?_, fun e => ?_⟩⟩
    · rw [decide_eq_true e, Bool.true_and] at h
      exact ih (i + 1) _ (by omega) (nI_1 i) h
    · rw [decide_eq_false e, Bool.false_and] at h
      exact ⟨rfl, h⟩
theorem sm_R (W : Nat → Int32) (v k : Nat) : sm W v k = smR W (pl 0 v k) (pl 1 v k) 4 := by
  unfold sm
  simp [smR]
theorem c_isSame {v k : Nat} (hv : v < 6) (hk : k < 64) (h : P (rI (kb (sm (M 1) v k)) M)) : kC (d + 1) kc_isSameOnBothSides [.ref 0, .int (nI v), .int (nI k)] M P := by
  rw [sm_R] at h
  refine kC_L [18] 30 (by decide) (Nat.le_of_ble_eq_true rfl) ?_
  refine c_blockAt (t := 0) ?_
  refine c_blockAt (t := 1) ?_
  exact c_isSame_loop (pl_lt (by decide) hv hk) (pl_lt (by decide) hv hk) 4 0 _ rfl rfl h
theorem c_spendWrite (h : P (thr (spC M))) : kC d kc_spendWrite [.ref 0] M P := by
  unfold spC at h
  refine kC_of 40 (by decide) (Nat.le_of_ble_eq_true rfl) ?_
  refine ⟨fun e => ?_, fun e => ?_⟩
  · have e : ¬ M 0 1 = 0 := e
    rw [if_neg e] at h
    refine ⟨fun e2 => ?_, fun e2 => ?_⟩
    · have e2 : M 0 1 ≤ 0 := e2
      rw [if_pos e2] at h
      exact ⟨rfl, rfl, h⟩
    · have e2 : ¬ M 0 1 ≤ 0 := e2
      rw [if_neg e2] at h
      exact ⟨rfl, rfl, rfl, rfl, h⟩
  · have e : M 0 1 = 0 := e
    rw [if_pos e] at h
    exact ⟨rfl, rfl, rfl, rfl, h⟩
theorem c_writeHeaderOn0 (h : P (thr (wh 0 spC M 0))) : kC (d + 1) kc_writeHeaderOn [.ref 0, .int (nI 0)] M P := by
  unfold wh at h
  refine kC_of 40 (by decide) (Nat.le_of_ble_eq_true rfl) ?_
  refine c_spendWrite ?_
  rcases hx : spC M with ⟨ok, M1⟩
  rw [hx] at h
  cases ok
  · exact h
  · refine c_headerOn0 ?_
    refine h_takeFrom68 ?_
    exact h
theorem c_writeHeaderOn1 (h : P (thr (wh 0 spC M 1))) : kC (d + 1) kc_writeHeaderOn [.ref 0, .int (nI 1)] M P := by
  unfold wh at h
  refine kC_of 40 (by decide) (Nat.le_of_ble_eq_true rfl) ?_
  refine c_spendWrite ?_
  rcases hx : spC M with ⟨ok, M1⟩
  rw [hx] at h
  cases ok
  · exact h
  · refine c_headerOn1 ?_
    refine h_takeFrom78 ?_
    exact h
theorem c_writeHeader (h : P (thr (nx 0 spC M))) : kC (d + 2) kc_writeHeader [.ref 0] M P := by
  unfold nx at h
  refine kC_of 40 (by decide) (Nat.le_of_ble_eq_true rfl) ?_
  refine h_countUp ?_
  refine c_writeHeaderOn0 ?_
  have h : P (thr (match wh 0 spC (mw M 4 0 (M 4 0 + nI 1)) 0 with | (true, M1) => wh 0 spC M1 1 | (false, M1) => (false, M1))) := h
  show kgo _ _ _ _ _ _ _ (thr (wh 0 spC (mw M 4 0 (M 4 0 + nI 1)) 0))
  rcases hx : wh 0 spC (mw M 4 0 (M 4 0 + nI 1)) 0 with ⟨ok, M1⟩
  rw [hx] at h
  cases ok
  · exact h
  · refine c_writeHeaderOn1 ?_
    rcases hy : wh 0 spC M1 1 with ⟨ok, M2⟩
    have h : P (thr (wh 0 spC M1 1)) := h
    rw [hy] at h
    cases ok
    · exact h
    · exact h
theorem c_writeFresh {v t k : Nat} (hv : v < 6) (ht : t < 2) (hk : k < 64) (h : P (thr (wb 0 spC M t v k))) : kC (d + 1) kc_writeFresh [.ref 0, .int (nI v), .int (nI t), .int (nI k)] M P := by
  have hp := pl_lt ht hv hk
  unfold wb at h
  refine kC_of 40 (by decide) (Nat.le_of_ble_eq_true rfl) ?_
  refine c_spendWrite ?_
  rcases hx : spC M with ⟨ok, M1⟩
  rw [hx] at h
  cases ok
  · exact h
  · refine c_blockAt ?_
    exact ⟨0, pl t v k, 4, rfl, rfl, rfl, by decide, hp, h⟩
theorem c_writeFromSide {v t k : Nat} (hv : v < 6) (ht : t < 2) (hk : k < 64) (h : P (thr (wb 0 spC (tk 0 M t v k) (1 - t) v k))) : kC (d + 2) kc_writeFromSide [.ref 0, .int (nI v), .int (nI t), .int (nI k)] M P := by
  have hp := pl_lt ht hv hk
  refine kC_of 40 (by decide) (Nat.le_of_ble_eq_true rfl) ?_
  refine c_blockAt ?_
  refine ⟨pl t v k, 0, 4, rfl, rfl, rfl, hp, by decide, ?_⟩
  refine c_otherSide ht ?_
  refine c_writeFresh hv (by omega) hk ?_
  show kgo _ _ _ _ _ _ _ (thr (wb 0 spC (tk 0 M t v k) (1 - t) v k))
  rcases hx : wb 0 spC (tk 0 M t v k) (1 - t) v k with ⟨ok, M1⟩
  rw [hx] at h
  cases ok
  · exact h
  · exact h
end CA
