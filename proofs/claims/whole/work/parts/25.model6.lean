/-! the reference's methods: head, differing, the start -/
def hdv (g : Nat → Int32) (i : Nat) : Int32 := if 2 ≤ i ∧ i < 20 ∧ g 1 ≤ nI ((i - 2) % 6) then -1 else g i
section MF
variable {d : Nat} {M : kMem} {P : kRes → Prop}
theorem m_head_fin {u i : Nat} {f : Bool} (hi : i < 24) (hf : f = decide (2 ≤ i ∧ i < 20)) {g : Nat → Int32} {y4 y5 : Int32} (h4 : y4 = g 1) (h5 : y5 = g i) (h : P (rI (hdv g i) M)) : kJ d km_head P 96 [(0, .ref 9), (1, .int (nI u)), (2, .int (nI i)), (3, .int (kb f)), (4, .int y4), (5, .int y5)] [] M := by
  subst h4; subst h5
  refine kw_ok 15 _ _ _ _ ?_
  refine ⟨fun e => ?_, fun e => ?_⟩
  · have e := hf.symm.trans (kb_0.mp e)
    have e9 : hdv g i = g i := if_neg (fun z => of_decide_eq_false e ⟨z.1, z.2.1⟩)
    rw [e9] at h
    exact ⟨rfl, h⟩
  · have e := of_decide_eq_true (hf.symm.trans (kb_pos e))
    have e8 : nI i - nI 2 = nI (i - 2) := pk_sub e.1
    have e7 : nI (i - 2) - nI (i - 2) / nI 6 * nI 6 = nI ((i - 2) % 6) := pk_rem (by omega) (by decide) (by decide)
    refine ⟨by decide, fun e2 => ?_, fun e2 => ?_⟩
    · have e2 : (nI i - nI 2) - (nI i - nI 2) / nI 6 * nI 6 < g 1 := e2
      rw [e8, e7] at e2
      have e9 : hdv g i = g i := if_neg (fun z => Int32.not_le.mpr e2 z.2.2)
      rw [e9] at h
      exact ⟨rfl, h⟩
    · have e2 : ¬ (nI i - nI 2) - (nI i - nI 2) / nI 6 * nI 6 < g 1 := e2
      rw [e8, e7] at e2
      have e9 : hdv g i = -1 := if_pos ⟨e.1, e.2, Int32.not_lt.mp e2⟩
      rw [e9] at h
      exact ⟨rfl, h⟩
theorem m_head_tail {u i : Nat} {f : Bool} {y : Int32} (hu : u < 2) (hi : i < 24) (hy : y = kb f) (hf : f = decide (2 ≤ i ∧ i < 20)) (h2 : u = 0 → P (rI (hdv (M 11) i) M)) (h3 : u = 1 → P (rI (hdv (M 12) i) M)) : kJ d km_head P 54 [(0, .ref 9), (1, .int (nI u)), (2, .int (nI i)), (3, .int y)] [] M := by
  subst hy
  refine kJ_H [96] 40 ?_
  rcases (show u = 0 ∨ u = 1 by omega) with rfl | rfl
  · refine ⟨fun e => absurd rfl e, fun _ => ⟨1, rfl, by decide, ⟨fun e => absurd rfl e, fun _ => ⟨i, rfl, hi, ?_⟩⟩⟩⟩
    exact m_head_fin (g := M 11) hi hf rfl rfl (h2 rfl)
  · refine ⟨fun _ => ⟨1, rfl, by decide, ⟨fun _ => ⟨i, rfl, hi, ?_⟩, fun e => absurd e (by decide)⟩⟩, fun e => absurd e (by decide)⟩
    exact m_head_fin (g := M 12) hi hf rfl rfl (h3 rfl)
theorem m_head {t w : Int32} (h1 : (inR t 2 && inR w 24) = false → P (rI (nI 0) (mw M 9 4 (nI 1)))) (h2 : ∀ i, t = nI 0 → i < 24 → w = nI i → P (rI (hdv (M 11) i) (mw M 9 4 (nI 0)))) (h3 : ∀ i, t = nI 1 → i < 24 → w = nI i → P (rI (hdv (M 12) i) (mw M 9 4 (nI 0)))) : kC d km_head [.ref 9, .int t, .int w] M P := by
  have bad : (inR t 2 && inR w 24) = false → kJ d km_head P 20 (lv_args 0 [.ref 9, .int t, .int w]) [.ref 9] M := by
    intro e
    refine kJ_H [54] 20 ?_
    exact ⟨rfl, rfl, fun e3 => absurd e3 (show ¬ nI 1 ≤ 0 by decide), fun _ => ⟨rfl, h1 e⟩⟩
  refine kC_L [20, 54] 40 (by decide) (Nat.le_of_ble_eq_true rfl) ?_
  refine ⟨fun e => bad (by rw [inRf1 e]; rfl), fun e3 => ⟨fun e => bad (by rw [inR2_f e]; rfl), fun e4 => ?_⟩⟩
  refine ⟨fun e => bad (by rw [inRf1 (n := 24) e, Bool.and_false]), fun e5 => ⟨fun e6 => ?_, fun e => bad (by rw [inRf2 (n := 24) (Int32.not_lt.mp e), Bool.and_false])⟩⟩
  obtain ⟨u, hu, rfl⟩ := inR_t (by decide) (inR2_gt e3 e4)
  obtain ⟨i, hi, rfl⟩ := inR_t (x := w) (n := 24) (by decide) (decide_eq_true ⟨e5, fun z => Int32.not_le.mpr e6 z⟩)
  refine ⟨rfl, rfl, fun _ => ?_, fun e3 => absurd (show nI 0 ≤ 0 by decide) e3⟩
  have k2 : u = 0 → P (rI (hdv (M 11) i) (mw M 9 4 (nI 0))) := fun z => h2 i (by rw [z]) hi rfl
  have k3 : u = 1 → P (rI (hdv (M 12) i) (mw M 9 4 (nI 0))) := fun z => h3 i (by rw [z]) hi rfl
  refine ⟨fun e => ?_, fun e => ⟨fun e2 => ?_, fun e2 => ?_⟩⟩
  · have e2 : i < 2 := (nI_ltI (by omega) (by decide)).mp e
    exact m_head_tail (M := mw M 9 4 (nI 0)) (f := false) hu hi rfl (by symm; exact decide_eq_false (by omega)) k2 k3
  · have e2 : 20 ≤ i := (nI_leI (by decide) (by omega)).mp e2
    exact m_head_tail (M := mw M 9 4 (nI 0)) (f := false) hu hi rfl (by symm; exact decide_eq_false (by omega)) k2 k3
  · have e1 : ¬ i < 2 := fun z => e ((nI_ltI (by omega) (by decide)).mpr z)
    have e2 : ¬ 20 ≤ i := fun z => e2 ((nI_leI (by decide) (by omega)).mpr z)
    exact m_head_tail (M := mw M 9 4 (nI 0)) (f := true) hu hi rfl (by symm; exact decide_eq_true (by omega)) k2 k3
theorem m_diff_loop {v : Nat} (hv : v < 6) (h0 : M 9 4 = nI 0) : ∀ (n i c : Nat) (x y : Int32), i + n = 64 → x = nI c → y = nI i → P (rI (nI (dfn (M 10) v n c)) M) → kJ (d + 2) km_differing P 23 [(0, .ref 9), (1, .int (nI v)), (2, .int x), (3, .int y)] [] M := by
  intro n
  induction n with
  | zero =>
    intro i c x y hi hx hy h
    have hi : i = 64 := by omega
    subst hi; subst hx; subst hy
    refine kJ_H [23] 20 ?_
    exact ⟨fun _ => ⟨rfl, h⟩, fun e => absurd (by decide) e⟩
  | succ n ih =>
    intro i c x y hi hx hy h
    subst hx; subst hy
    have hi2 : i = 63 - n := by omega
    unfold dfn at h
    rw [← hi2] at h
    refine kJ_H [23] 30 ?_
    refine ⟨fun e => absurd e (nI_ge (by omega) (by decide)), fun _ => ⟨fun e => absurd h0 e, fun _ => ?_⟩⟩
    refine m_isSame hv (by omega) ?_
    refine ⟨fun e => ?_, fun e => ?_⟩
    · rw [if_neg (by rw [kb_0.mp e]; decide)] at h
      exact ih (i + 1) (c + 1) _ _ (by omega) (nI_1 c) (nI_1 i) h
    · rw [if_pos (kb_pos e)] at h
      exact ih (i + 1) c _ _ (by omega) rfl (nI_1 i) h
theorem m_differing {x : Int32} (h1 : inR x 6 = false → P (rI (nI 0) (mw M 9 4 (nI 1)))) (h2 : ∀ v, v < 6 → x = nI v → P (rI (nI (dfn (M 10) v 64 0)) (mw M 9 4 (nI 0)))) : kC (d + 2) km_differing [.ref 9, .int x] M P := by
  have bad : inR x 6 = false → kJ (d + 2) km_differing P 23 [(0, .ref 9), (1, .int x), (2, .int (nI 0)), (3, .int (nI 0))] [] (mw M 9 4 (nI 1)) := by
    intro e
    refine kJ_H [23] 30 ?_
    exact ⟨fun e => absurd e (by decide), fun _ => ⟨fun _ => ⟨rfl, h1 e⟩, fun e => absurd e (show ¬ nI 1 = 0 by decide)⟩⟩
  refine kC_L [23] 40 (by decide) (Nat.le_of_ble_eq_true rfl) ?_
  refine ⟨fun e => ⟨rfl, rfl, bad (inRf1 e)⟩, fun e => ⟨fun e2 => ⟨rfl, rfl, ?_⟩, fun e2 => ⟨rfl, rfl, bad (inRf2 (n := 6) (Int32.not_lt.mp e2))⟩⟩⟩
  obtain ⟨v, hv, rfl⟩ := inR_t (x := x) (n := 6) (by decide) (decide_eq_true ⟨e, fun z => Int32.not_le.mpr e2 z⟩)
  exact m_diff_loop (M := mw M 9 4 (nI 0)) hv rfl 64 0 0 _ _ rfl rfl rfl (h2 v hv rfl)
theorem wf_w0 {L : Nat → Int32} (hw : wf L) {i : Nat} (hi : i < 4) (h : ¬ L (20 + i) = -1) : ¬ L 20 = -1 := by
  obtain ⟨n, hn, hm, hv, c, hc, g1, g2⟩ := hw
  rcases Nat.lt_or_ge i c with z | z
  · obtain ⟨p, hp, e⟩ := g1 0 (by omega)
    have e : L 20 = nI p := e
    rw [e]
    have e9 : ∀ j, j < 48 → ¬ nI j = -1 := by decide +kernel
    exact e9 p (by omega)
  · exact absurd (g2 i z hi) h
def mnF (L : Nat → Int32) (q : Bool × kMem) : Bool × kMem := match q with
  | (true, M1) => if L 20 = -1 then (true, va_up M1 13 (wnd (M1 13) [] 4)) else nx 9 spM (va_up M1 13 (wnd (M1 13) [] 4))
  | (false, M1) => (false, M1)
theorem m_mend_loop {L : Nat → Int32} (hw : wf L) {b : Nat} {z2 : Int32} : ∀ (n i : Nat) (x y : Int32) (M : kMem), i + n = 4 → x = nI (20 + i) → y = kb (decide (0 < i ∧ ¬ L 20 = -1)) → M 13 = L → P (kbr (mnF L (mwn 9 spM n M))) →
    kJ (d + 3) km_goOn P 88 [(0, .ref 9), (1, .ref b), (2, .int z2), (3, .int y), (4, .int x)] [] M := by
  intro n
  induction n with
  | zero =>
    intro i x y M hi hx hy hM h
    have hi : i = 4 := by omega
    subst hi; subst hx; subst hy
    have h : P (kbr (if L 20 = -1 then (true, va_up M 13 (wnd (M 13) [] 4)) else nx 9 spM (va_up M 13 (wnd (M 13) [] 4)))) := h
    have e9 : va_up M 13 (wnd (M 13) [] 4) = mw (mw (mw (mw M 13 20 (-1)) 13 21 (-1)) 13 22 (-1)) 13 23 (-1) := by
      rw [← wnd_nil, ← mw_up, ← mw_up, ← mw_up]
      rfl
    rw [e9] at h
    refine kJ_H [88] 80 ?_
    refine ⟨fun _ => ?_, fun e => absurd (by decide) e⟩
    refine ⟨fun e => absurd e (by decide), fun _ => ⟨20, rfl, by decide, ?_⟩⟩
    refine ⟨fun e => absurd e (by decide), fun _ => ⟨21, rfl, by decide, ?_⟩⟩
    refine ⟨fun e => absurd e (by decide), fun _ => ⟨22, rfl, by decide, ?_⟩⟩
    refine ⟨fun e => absurd e (by decide), fun _ => ⟨23, rfl, by decide, ?_⟩⟩
    refine ⟨fun _ => ?_, fun e => absurd (by decide) e⟩
    refine ⟨fun e => ?_, fun e => ?_⟩
    · have e := of_decide_eq_false (kb_0.mp e)
      have e2 : L 20 = -1 := Classical.byContradiction (fun z => e ⟨by decide, z⟩)
      rw [if_pos e2] at h
      exact ⟨rfl, h⟩
    · have e := of_decide_eq_true (kb_pos e)
      rw [if_neg e.2] at h
      refine m_next ?_
      refine bgo (fun M1 e4 => ?_) (fun M1 e4 => ?_)
      · have e4 : nx 9 spM (mw (mw (mw (mw M 13 20 (-1)) 13 21 (-1)) 13 22 (-1)) 13 23 (-1)) = (true, M1) := e4
        rw [e4] at h
        exact ⟨fun e => absurd e (by decide), fun _ => ⟨rfl, h⟩⟩
      · have e4 : nx 9 spM (mw (mw (mw (mw M 13 20 (-1)) 13 21 (-1)) 13 22 (-1)) 13 23 (-1)) = (false, M1) := e4
        rw [e4] at h
        exact ⟨fun _ => ⟨rfl, h⟩, fun e => absurd rfl e⟩
  | succ n ih =>
    intro i x y M hi hx hy hM h
    subst hx; subst hy
    have hi2 : i = 3 - n := by omega
    unfold mwn at h
    rw [← hi2] at h
    refine kJ_H [88] 60 ?_
    refine ⟨fun e => absurd e (nI_ge (by omega) (by decide)), fun _ => ⟨20 + i, rfl, by omega, ?_⟩⟩
    refine ⟨fun e => ?_, fun e => ?_⟩
    · have e : ¬ M 13 (20 + i) = -1 := e
      rw [if_neg e] at h
      have e0 : ¬ L 20 = -1 := wf_w0 hw (i := i) (by omega) (by rw [← hM]; exact e)
      have ey : kb (decide (0 < i + 1 ∧ ¬ L 20 = -1)) = nI 1 := by rw [decide_eq_true ⟨by omega, e0⟩]; rfl
      obtain ⟨p, s, hp, ep, hs, es⟩ := wf_place hw (i := i) (by omega) (by rw [← hM]; exact e)
      have ho : s = 0 → opn L (p / 8) (p % 8) = false := by
        intro z
        obtain ⟨m, hm6, hm, hV, c, hc, g1, g2⟩ := hw
        have hic : i < c := by
          rcases Nat.lt_or_ge i c with z | z
          · exact z
          · exact absurd (g2 i z (by omega)) (by rw [← hM]; exact e)
        obtain ⟨p', hp', ep'⟩ := g1 i hic
        have e5 : p = p' := (nI_eq (by omega) (by omega)).mp (ep.symm.trans ep')
        subst e5
        exact wf_opn0 (n := m) (by omega) hV (by rw [es, z]) _
      rw [← hM] at ep es ho
      have hc : (nI p).toNatClampNeg = p := nI_clamp (by omega)
      have hcs : (nI s).toNatClampNeg = s := nI_clamp (by omega)
      have h : P (kbr (mnF L (match mnr 9 spM M ((M 13 (20 + i)).toNatClampNeg / 8) ((M 13 (20 + i)).toNatClampNeg % 8) ((M 13 (2 + (M 13 (20 + i)).toNatClampNeg / 8)).toNatClampNeg - 2) with | (true, M1) => mwn 9 spM n M1 | (false, M1) => (false, M1)))) := h
      rw [ep, hc, es, hcs] at h
      have hd8 : nI p / nI 8 = nI (p / 8) := pk_div (by omega) (by decide) (by decide)
      have hr8 : nI p - nI p / nI 8 * nI 8 = nI (p % 8) := pk_rem (by omega) (by decide) (by decide)
      have hk := mnr_hand 9 spM spM_keep M (p / 8) (p % 8) (s - 2)
      have hv6 : p / 8 < 6 := by omega
      have hr : p % 8 < 8 := by omega
      have go : ∀ (M1 : kMem) (l5 : List (Nat × Value)) (x : Int32), x = nI (20 + (i + 1)) → M1 13 = M 13 → P (kbr (mnF L (mwn 9 spM n M1))) → kJ (d + 3) km_goOn P 88 [(0, .ref 9), (1, .ref b), (2, .int z2), (3, .int (nI 1)), (4, .int x)] [] M1 := by
        intro M1 l5 x hx hm h
        exact ih (i + 1) x _ M1 (by omega) hx ey.symm (by rw [hm]; exact hM) h
      refine ⟨by decide, by decide, ?_⟩
      show kC (d + 2) km_stateOf [.ref 9, .int (M 13 (20 + i) / nI 8)] M _
      have q8 : M 13 (20 + i) / nI 8 = nI (p / 8) := by rw [ep, hd8]
      have r8 : M 13 (20 + i) - M 13 (20 + i) / nI 8 * nI 8 = nI (p % 8) := by rw [ep, hr8]
      rw [q8]
      refine m_stateOf hv6 ?_
      have cpr : ∀ {n9 : Nat} {x5 x6 x7 : Int32}, x6 = nI (p / 8) → x7 = nI (p % 8) → s ≠ 1 → opn (M 13) (p / 8) (p % 8) = false →
          kwL (d + 3) km_goOn P [88] (n9 + 20) 159 [(0, .ref 9), (1, .ref b), (2, .int z2), (3, .int (nI 1)), (4, .int (nI (20 + i))), (5, .int x5), (6, .int x6), (7, .int x7)] [] M := by
        intro n9 x5 x6 x7 h6 h7 hs1 e3
        subst h6; subst h7
        unfold mnr at h
        rw [if_neg (by rw [show (9 + 4 : Nat) = 13 from rfl, es]; exact fun z => hs1 ((nI_eq (by omega) (by decide)).mp z)), if_neg (by rw [show (9 + 4 : Nat) = 13 from rfl, e3]; decide)] at h
        refine ⟨fun e => absurd e (by decide), fun _ => ?_⟩
        refine m_sideOf hv6 hs es ?_
        have e : sidI s (nI 0) = nI (s - 2) := if_neg hs1
        show kC (d + 2) km_copyRegion [.ref 9, .int (nI (p / 8)), .int (nI (p % 8)), .int (sidI s (nI 0))] M _
        rw [e]
        refine m_copyRegion hv6 hr (by omega) ?_
        have hk2 := crn_hand 9 spM spM_keep (p / 8) (p % 8) (s - 2) 8 M
        refine bgo (fun M1 e4 => ?_) (fun M1 e4 => ?_)
        · rw [show crn 9 spM (p / 8) (p % 8) (s - 2) 8 M = (true, M1) from e4] at hk2
          rw [e4] at h
          refine ⟨fun _ => ?_, fun e => absurd e (by decide)⟩
          refine kJ_drop 5 (kJ_drop 6 (kJ_drop 7 (kJ_drop 8 ?_)))
          exact go M1 [] _ (nI_1 _) hk2 h
        · rw [e4] at h
          exact ⟨fun e => absurd rfl e, fun _ => ⟨rfl, h⟩⟩
      have skip : ∀ {n9 : Nat} {x5 x6 x7 : Int32}, mnr 9 spM M (p / 8) (p % 8) (s - 2) = (true, M) →
          kwL (d + 3) km_goOn P [88] (n9 + 10) 163 [(0, .ref 9), (1, .ref b), (2, .int z2), (3, .int (nI 1)), (4, .int (nI (20 + i))), (5, .int x5), (6, .int x6), (7, .int x7)] [] M := by
        intro n9 x5 x6 x7 e3
        rw [e3] at h
        refine ⟨fun _ => ?_, fun e => absurd rfl e⟩
        refine kJ_drop 5 (kJ_drop 6 (kJ_drop 7 (kJ_drop 8 ?_)))
        exact go M [] _ (nI_1 _) rfl h
      refine ⟨fun e2 => ?_, fun e2 => ?_⟩
      · have e2 : M 13 (2 + p / 8) = nI 0 := e2
        have s0 : s = 0 := (nI_eq (by omega) (by decide)).mp (es.symm.trans e2)
        exact cpr q8 r8 (by omega) (ho s0)
      · have e2 : ¬ M 13 (2 + p / 8) = nI 0 := e2
        show kC (d + 2) km_stateOf [.ref 9, .int (M 13 (20 + i) / nI 8)] M _
        rw [q8]
        refine m_stateOf hv6 ?_
        refine ⟨fun e3 => ?_, fun e3 => ?_⟩
        · have e3 : M 13 (2 + p / 8) < nI 2 := e3
          rw [es] at e3 e2
          have s1 : s = 1 := by
            have : s < 2 := (nI_ltI (by omega) (by decide)).mp e3
            have : s ≠ 0 := fun z => e2 (by rw [z])
            omega
          refine skip ?_
          unfold mnr
          rw [if_pos (by rw [show (9 + 4 : Nat) = 13 from rfl, es, s1])]
        · have e3 : ¬ M 13 (2 + p / 8) < nI 2 := e3
          rw [es] at e3
          have s2 : ¬ s < 2 := fun z => e3 ((nI_ltI (by omega) (by decide)).mpr z)
          show kC (d + 2) km_isOpen [.ref 9, .int (M 13 (20 + i) / nI 8), .int (M 13 (20 + i) - M 13 (20 + i) / nI 8 * nI 8)] M _
          rw [r8, q8]
          refine m_isOpen hv6 hr ?_
          refine ⟨fun e4 => ?_, fun e4 => ?_⟩
          · have e4 : opn (M 13) (p / 8) (p % 8) = true := kb_pos e4
            refine skip ?_
            unfold mnr
            rw [if_neg (by rw [show (9 + 4 : Nat) = 13 from rfl, es]; exact fun z => s2 (by have := (nI_eq (by omega) (by decide)).mp z; omega)), if_pos e4]
          · exact cpr q8 r8 (by omega) (kb_0.mp e4)
    · have e : M 13 (20 + i) = -1 := e
      rw [if_pos e] at h
      refine kJ_drop 5 ?_
      refine ih (i + 1) _ _ M (by omega) (nI_1 _) ?_ hM h
      congr 1
      by_cases h0 : i = 0
      · subst h0
        have e : M 13 20 = -1 := e
        rw [hM] at e
        simp [e]
      · simp [Nat.pos_of_ne_zero h0]
end MF
