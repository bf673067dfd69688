/-! the system's methods: what is asked of arguments, the start, the plain answers -/
def inR (x : Int32) (n : Nat) : Bool := decide (¬ x < 0 ∧ ¬ nI n ≤ x)
theorem inR_t {x : Int32} {n : Nat} (hn : n < 2 ^ 31) (h : inR x n = true) : ∃ j, j < n ∧ x = nI j := by
  obtain ⟨h1, h2⟩ := of_decide_eq_true h
  rcases pk_ix x hn with z | z | z
  · exact absurd z h1
  · exact absurd z h2
  · exact z
theorem inR_nI {j n : Nat} (h : j < n) (hn : n < 2 ^ 31) : inR (nI j) n = true := decide_eq_true ⟨nI_pos (by omega), nI_ge h hn⟩
section CD
variable {d : Nat} {M : kMem} {P : kRes → Prop}
theorem c_requirePower (h1 : M 0 0 = 0 → P (rX eS M)) (h2 : ¬ M 0 0 = 0 → P (rV M)) : kC d kc_requirePower [.ref 0] M P := by
  refine kC_of 10 (by decide) (Nat.le_of_ble_eq_true rfl) ?_
  exact ⟨fun h => h2 h, fun h => h1 h⟩
theorem c_requireVolume {x : Int32} (h1 : isV (M 4) x = false → P (rX eB M)) (h2 : isV (M 4) x = true → P (rV M)) : kC (d + 2) kc_requireVolume [.ref 0, .int x] M P := by
  refine kC_of 20 (by decide) (Nat.le_of_ble_eq_true rfl) ?_
  refine c_isVolume ?_
  exact ⟨fun e => h2 (kb_pos e), fun e => h1 (kb_0.mp e)⟩
theorem c_requireSide {x : Int32} (h1 : inR x 2 = false → P (rX eB M)) (h2 : inR x 2 = true → P (rV M)) : kC (d + 1) kc_requireSide [.ref 0, .int x] M P := by
  refine kC_of 20 (by decide) (Nat.le_of_ble_eq_true rfl) ?_
  refine c_isSide ?_
  exact ⟨fun e => h2 (kb_pos e), fun e => h1 (kb_0.mp e)⟩
theorem c_requireRoomOf {x : Int32} (h1 : inR x 6 = false → P (rX eB M)) (h2 : inR x 6 = true → P (rV M)) : kC d kc_requireRoomOf [.ref 0, .int x] M P := by
  refine kC_of 20 (by decide) (Nat.le_of_ble_eq_true rfl) ?_
  exact ⟨fun e => h1 (decide_eq_false (fun z => z.1 e)), fun e => ⟨fun e2 => h2 (decide_eq_true ⟨e, fun z => Int32.not_le.mpr e2 z⟩), fun e2 => h1 (decide_eq_false (fun z => z.2 (Int32.not_lt.mp e2)))⟩⟩
theorem c_requireBlockNumber {x : Int32} (h1 : inR x 64 = false → P (rX eB M)) (h2 : inR x 64 = true → P (rV M)) : kC d kc_requireBlockNumber [.ref 0, .int x] M P := by
  refine kC_of 20 (by decide) (Nat.le_of_ble_eq_true rfl) ?_
  exact ⟨fun e => h1 (decide_eq_false (fun z => z.1 e)), fun e => ⟨fun e2 => h2 (decide_eq_true ⟨e, fun z => Int32.not_le.mpr e2 z⟩), fun e2 => h1 (decide_eq_false (fun z => z.2 (Int32.not_lt.mp e2)))⟩⟩
theorem c_requireWord {x : Int32} (h1 : inR x 4 = false → P (rX eB M)) (h2 : inR x 4 = true → P (rV M)) : kC d kc_requireWord [.ref 0, .int x] M P := by
  refine kC_of 20 (by decide) (Nat.le_of_ble_eq_true rfl) ?_
  exact ⟨fun e => h1 (decide_eq_false (fun z => z.1 e)), fun e => ⟨fun e2 => h2 (decide_eq_true ⟨e, fun z => Int32.not_le.mpr e2 z⟩), fun e2 => h1 (decide_eq_false (fun z => z.2 (Int32.not_lt.mp e2)))⟩⟩
theorem isV_t {h : Nat → Int32} {x : Int32} {n : Nat} (hn : n ≤ 6) (h1 : h 1 = nI n) (hx : isV h x = true) : ∃ v, v < n ∧ x = nI v := by
  unfold isV at hx
  rw [h1] at hx
  exact inR_t (by omega) hx
/-- the place that write, fill and read ask for, but for the word -/
def isB (h : Nat → Int32) (x t k : Int32) : Bool := isV h x && (decide (¬ h (2 + x.toNatClampNeg) = nI 1) || inR t 2) && inR k 64
theorem c_requireBlock {x t k : Int32} (hw : wf (M 4)) (h1 : isB (M 4) x t k = false → P (rX eB M)) (h2 : isB (M 4) x t k = true → P (rV M)) : kC (d + 3) kc_requireBlock [.ref 0, .int x, .int t, .int k] M P := by
  obtain ⟨n, hn, hm, -, -⟩ := hw
  refine kC_of 40 (by decide) (Nat.le_of_ble_eq_true rfl) ?_
  refine c_requireVolume (fun e => ?_) (fun e => ?_)
  · exact h1 (by unfold isB; rw [e]; rfl)
  · obtain ⟨v, hv, rfl⟩ := isV_t hn hm e
    have hc : (nI v).toNatClampNeg = v := nI_clamp (by omega)
    refine h_stateOf (by omega) ?_
    refine ⟨fun e2 => ?_, fun e2 => ?_⟩
    · have e2 : ¬ M 4 (2 + v) = nI 1 := e2
      refine c_requireBlockNumber (fun e3 => ?_) (fun e3 => ?_)
      · exact h1 (by unfold isB; rw [e3, Bool.and_false])
      · exact h2 (by unfold isB; rw [e, e3, hc, decide_eq_true e2]; rfl)
    · have e2 : M 4 (2 + v) = nI 1 := e2
      refine c_requireSide (fun e4 => ?_) (fun e4 => ?_)
      · exact h1 (by unfold isB; rw [e4, hc, decide_eq_false (fun z => z e2), e]; rfl)
      · refine c_requireBlockNumber (fun e3 => ?_) (fun e3 => ?_)
        · exact h1 (by unfold isB; rw [e3, Bool.and_false])
        · exact h2 (by unfold isB; rw [e, e3, e4, Bool.or_true]; rfl)
theorem c_requireRejoining {x : Int32} (hw : wf (M 4)) (h1 : isV (M 4) x = false → P (rX eB M)) (h2 : ∀ v, x = nI v → isV (M 4) x = true → v < 6 → M 4 (2 + v) < nI 2 → P (rX eU M)) (h3 : ∀ v, x = nI v → isV (M 4) x = true → v < 6 → ¬ M 4 (2 + v) < nI 2 → P (rV M)) : kC (d + 3) kc_requireRejoining [.ref 0, .int x] M P := by
  obtain ⟨n, hn, hm, -, -⟩ := hw
  refine kC_of 40 (by decide) (Nat.le_of_ble_eq_true rfl) ?_
  refine c_requireVolume h1 (fun e => ?_)
  obtain ⟨v, hv, rfl⟩ := isV_t hn hm e
  have k1 : ∀ {P' : kRes → Prop}, (M 4 (2 + v) < nI 2 → P' (rI (nI 0) M)) → (¬ M 4 (2 + v) < nI 2 → P' (rI (nI 1) M)) → kC (d + 2) kc_isRejoining [.ref 0, .int (nI v)] M P' := by
    intro P' g1 g2
    refine kC_of 20 (by decide) (Nat.le_of_ble_eq_true rfl) ?_
    refine h_stateOf (by omega) ?_
    exact ⟨fun e2 => ⟨rfl, g1 e2⟩, fun e2 => ⟨rfl, g2 e2⟩⟩
  refine k1 (fun e2 => ?_) (fun e2 => ?_)
  · exact ⟨fun e3 => absurd (by decide) e3, fun _ => h2 v rfl e (by omega) e2⟩
  · exact ⟨fun _ => h3 v rfl e (by omega) e2, fun e3 => absurd e3 (by decide)⟩
/-- what a window's place is, with the volume's state -/
theorem wf_place {h : Nat → Int32} (hw : wf h) {i : Nat} (hi : i < 4) (hne : ¬ h (20 + i) = -1) : ∃ p s, p < 48 ∧ h (20 + i) = nI p ∧ s < 4 ∧ h (2 + p / 8) = nI s := by
  obtain ⟨n, hn, hm, hv, c, hc, g1, g2⟩ := hw
  rcases Nat.lt_or_ge i c with z | z
  · obtain ⟨p, hp, e⟩ := g1 i z
    obtain ⟨⟨s, hs, e2⟩, -⟩ := hv (p / 8) (by omega)
    exact ⟨p, s, by omega, e, hs, e2⟩
  · exact absurd (g2 i z hi) hne
theorem crn_hand (b : Nat) (sp : kMem → Bool × kMem) (hsp : ∀ M k, (k = b + 1 ∨ k = b + 2 ∨ k = b + 3 ∨ k = b + 4 ∨ k = b + 5) → (sp M).2 k = M k) (v r t : Nat) : ∀ (n : Nat) (M : kMem), (crn b sp v r t n M).2 (b + 4) = M (b + 4) := by
  intro n
  induction n with
  | zero => intro M; rfl
  | succ n ih =>
    intro M
    unfold crn
    split
    · exact ih M
    · have e1 : ∀ M' t' k, (wb b sp M' t' v k).2 (b + 4) = M' (b + 4) := by
        intro M' t' k
        have h9 := hsp M' (b + 4) (Or.inr (Or.inr (Or.inr (Or.inl rfl))))
        unfold wb
        rcases hx : sp M' with ⟨ok, M1⟩
        rw [hx] at h9
        cases ok
        · exact h9
        · show va_up M1 (b + 1) _ (b + 4) = _
          rw [va_up_ne _ _ (by omega)]
          exact h9
      have e2 : ∀ k, (tk b M t v k) (b + 4) = M (b + 4) := by
        intro k
        unfold tk
        rw [va_up_ne _ _ (by omega)]
      have e3 := e1 (tk b M t v (8 * r + (7 - n))) (1 - t) (8 * r + (7 - n))
      rw [e2] at e3
      rcases hx : wb b sp (tk b M t v (8 * r + (7 - n))) (1 - t) v (8 * r + (7 - n)) with ⟨ok, M1⟩
      rw [hx] at e3
      cases ok
      · exact e3
      · exact (ih M1).trans e3
theorem spC_keep (M : kMem) (k : Nat) (hk : k = 0 + 1 ∨ k = 0 + 2 ∨ k = 0 + 3 ∨ k = 0 + 4 ∨ k = 0 + 5) : (spC M).2 k = M k := by
  have h0 : k ≠ 0 := by omega
  unfold spC
  split
  · show mw (mw M 0 0 _) 0 1 _ k = _
    unfold mw
    rw [va_up_ne _ _ h0, va_up_ne _ _ h0]
  · show mw _ 0 2 _ k = _
    unfold mw
    rw [va_up_ne _ _ h0]
    split
    · rfl
    · rw [va_up_ne _ _ h0]
theorem mnr_hand (b : Nat) (sp : kMem → Bool × kMem) (hsp : ∀ M k, (k = b + 1 ∨ k = b + 2 ∨ k = b + 3 ∨ k = b + 4 ∨ k = b + 5) → (sp M).2 k = M k) (M : kMem) (v r t : Nat) : (mnr b sp M v r t).2 (b + 4) = M (b + 4) := by
  unfold mnr
  split
  · rfl
  · split
    · rfl
    · exact crn_hand b sp hsp v r t 8 M
theorem c_mend_loop {L : Nat → Int32} (hw : wf L) : ∀ (n i : Nat) (x : Int32) (M : kMem), i + n = 4 → x = nI i → M 4 = L → P (thr (match mwn 0 spC n M with | (true, M1) => nx 0 spC (va_up M1 4 (wnd (M1 4) [] 4)) | (false, M1) => (false, M1))) →
    kJ (d + 5) kc_mendWindow P 15 [(0, .ref 0), (1, .int x)] [] M := by
  intro n
  induction n with
  | zero =>
    intro i x M hi hx hM h
    have hi : i = 4 := by omega
    subst hi; subst hx
    refine kJ_H [15] 20 ?_
    refine ⟨fun _ => ?_, fun e => absurd (by decide) e⟩
    refine h_emptyWindow ?_
    refine c_writeHeader ?_
    have h : P (thr (nx 0 spC (va_up M 4 (wnd (M 4) [] 4)))) := h
    exact thr_go (fun M1 e => thr_t (by rw [← e]; exact h)) (fun M1 e => thr_f (by rw [← e]; exact h))
  | succ n ih =>
    intro i x M hi hx hM h
    subst hx
    have hi2 : i = 3 - n := by omega
    unfold mwn at h
    rw [← hi2] at h
    refine kJ_H [15] 40 ?_
    refine ⟨fun e => absurd e (nI_ge (by omega) (by decide)), fun _ => ?_⟩
    refine h_placeAt (by omega) ?_
    refine ⟨fun e => ?_, fun e => ?_⟩
    · have e : M 4 (20 + i) = -1 := e
      rw [if_pos e] at h
      refine kJ_drop 2 ?_
      exact ih (i + 1) _ M (by omega) (nI_1 i) hM h
    · have e : ¬ M 4 (20 + i) = -1 := e
      rw [if_neg e] at h
      obtain ⟨p, s, hp, ep, hs, es⟩ := wf_place hw (i := i) (by omega) (by rw [← hM]; exact e)
      rw [← hM] at ep es
      have hc : (nI p).toNatClampNeg = p := nI_clamp (by omega)
      have hcs : (nI s).toNatClampNeg = s := nI_clamp (by omega)
      have h : P (thr (match (match mnr 0 spC M ((M 4 (20 + i)).toNatClampNeg / 8) ((M 4 (20 + i)).toNatClampNeg % 8) ((M 4 (2 + (M 4 (20 + i)).toNatClampNeg / 8)).toNatClampNeg - 2) with | (true, M1) => mwn 0 spC n M1 | (false, M1) => (false, M1)) with | (true, M1) => nx 0 spC (va_up M1 4 (wnd (M1 4) [] 4)) | (false, M1) => (false, M1))) := h
      rw [ep, hc, es, hcs] at h
      have hd8 : nI p / nI 8 = nI (p / 8) := pk_div (by omega) (by decide) (by decide)
      have hr8 : nI p - nI p / nI 8 * nI 8 = nI (p % 8) := pk_rem (by omega) (by decide) (by decide)
      refine ⟨by decide, by decide, ?_⟩
      show kC (d + 4) kc_mendRegion [.ref 0, .int (M 4 (20 + i) / nI 8), .int (M 4 (20 + i) - M 4 (20 + i) / nI 8 * nI 8)] M _
      rw [ep, hr8, hd8]
      refine c_mendRegion (by omega) (by omega) hs es ?_
      have hk := mnr_hand 0 spC spC_keep M (p / 8) (p % 8) (s - 2)
      refine thr_go (fun M1 e3 => ?_) (fun M1 e3 => by rw [e3] at h; exact h)
      rw [e3] at h hk
      refine kJ_drop 2 ?_
      exact ih (i + 1) _ M1 (by omega) (nI_1 i) (by rw [← hM]; exact hk) h
theorem c_mendWindow (hw : wf (M 4)) (h : P (thr (mnd 0 spC M))) : kC (d + 5) kc_mendWindow [.ref 0] M P := by
  unfold mnd at h
  refine kC_L [15] 20 (by decide) (Nat.le_of_ble_eq_true rfl) ?_
  refine h_placeAt (i := 0) (by decide) ?_
  refine ⟨fun e => ?_, fun e => ?_⟩
  · have e : ¬ M 4 20 = -1 := e
    rw [if_neg e] at h
    exact c_mend_loop hw 4 0 _ M rfl rfl rfl h
  · have e : M 4 20 = -1 := e
    rw [if_pos e] at h
    exact h
end CD
