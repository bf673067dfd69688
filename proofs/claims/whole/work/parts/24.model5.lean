/-! the reference's methods: split, the plain answers, the start -/
section ME
variable {d : Nat} {M : kMem} {P : kRes → Prop}
theorem m_split_st {N : Nat} (hN : N ≤ 6) {z : Int32} : ∀ (n c v : Nat) (x y : Int32) (h : Nat → Int32), v + n = N → c ≤ v → x = nI c → y = nI v → h 1 = nI N → P ((fun q : Nat × (Nat → Int32) => if q.1 = 0 then rI (nI 0) (va_up M 13 q.2) else mri (nx 9 spM (va_up M 13 q.2)) (nI q.1)) (spMn N n c h)) →
    kJ (d + 3) km_split P 97 [(0, .ref 9), (1, .int x), (2, .int z), (3, .int y)] [] (va_up M 13 h) := by
  intro n
  induction n with
  | zero =>
    intro c v x y h hv hc hx hy h1 hp
    have hv : v = N := by omega
    subst hv; subst hx; subst hy
    have hp : P (if c = 0 then rI (nI 0) (va_up M 13 h) else mri (nx 9 spM (va_up M 13 h)) (nI c)) := hp
    refine kJ_H [97] 20 ?_
    refine ⟨1, rfl, by decide, ?_⟩
    rw [va_up_self, h1]
    refine ⟨fun _ => ?_, fun e => absurd (nI_le (Nat.le_refl _) (by omega)) e⟩
    refine ⟨fun e => ?_, fun e => ?_⟩
    · have e : nI c = nI 0 := e
      have hc0 : c = 0 := (nI_eq (by omega) (by decide)).mp e
      rw [if_pos hc0] at hp
      subst hc0
      exact ⟨rfl, hp⟩
    · have hc0 : ¬ c = 0 := fun z => e (by rw [z]; rfl)
      rw [if_neg hc0] at hp
      refine m_next ?_
      refine bgo (fun M1 e4 => ?_) (fun M1 e4 => ?_)
      · rw [e4] at hp
        exact ⟨fun e => absurd e (by decide), fun _ => ⟨rfl, hp⟩⟩
      · rw [e4] at hp
        exact ⟨fun _ => m_fail ⟨rfl, hp⟩, fun e => absurd rfl e⟩
  | succ n ih =>
    intro c v x y h hv hc hx hy h1 hp
    subst hx; subst hy
    have hv2 : v = N - (n + 1) := by omega
    unfold spMn at hp
    rw [← hv2] at hp
    refine kJ_H [97] 60 ?_
    refine ⟨1, rfl, by decide, ?_⟩
    rw [va_up_self, h1]
    refine ⟨fun e => absurd e (nI_ge (by omega) (by omega)), fun _ => ?_⟩
    refine m_stateOf (by omega) ?_
    refine ⟨fun e => ?_, fun e => ?_⟩
    · have e : ¬ h (2 + v) = nI 0 := e
      rw [if_neg e] at hp
      exact ih c (v + 1) _ _ h (by omega) (by omega) rfl (nI_1 v) h1 hp
    · have e : h (2 + v) = nI 0 := e
      rw [if_pos e] at hp
      refine ⟨2 + v, nI_add 2 v, by omega, 8 + v, nI_add 8 v, by omega, 14 + v, nI_add 14 v, by omega, ?_⟩
      refine kJ_eq (M' := va_up M 13 (upd (upd (upd h (2 + v) (nI 1)) (8 + v) (nI 0)) (14 + v) (nI 0))) ?_ ?_
      · show mw (mw (mw (va_up M 13 h) 13 (2 + v) (nI 1)) 13 (8 + v) (nI 0)) 13 (14 + v) (nI 0) = _
        rw [mw_up, mw_up, mw_up]
      · exact ih (c + 1) (v + 1) _ _ _ (by omega) (by omega) (nI_1 c) (nI_1 v) (by rw [pk_un (by omega), pk_un (by omega), pk_un (by omega)]; exact h1) hp
theorem m_split_win {N : Nat} (hN : N ≤ 6) (h1 : M 13 1 = nI N) (hw : ∀ i, i < 4 → ¬ M 13 (20 + i) = -1 → ∃ p, p < 48 ∧ M 13 (20 + i) = nI p) (hp : P ((fun q : Nat × (Nat → Int32) => if q.1 = 0 then rI (nI 0) (va_up M 13 q.2) else mri (nx 9 spM (va_up M 13 q.2)) (nI q.1)) (spMn N N 0 (wkp (M 13) (kpM (M 13)))))) :
    ∀ (n i : Nat) (x y : Int32), i + n = 4 → x = nI (wkn (M 13) (kpM (M 13)) i).length → y = nI i →
    kJ (d + 3) km_split P 31 [(0, .ref 9), (1, .int (nI 0)), (2, .int x), (3, .int y)] [] (va_up M 13 (wnd (M 13) (wkn (M 13) (kpM (M 13)) i) i)) := by
  intro n
  induction n with
  | zero =>
    intro i x y hi hx hy
    have hi : i = 4 := by omega
    subst hi; subst hy
    refine kJ_H [31, 97] 10 ?_
    refine ⟨fun _ => ?_, fun e => absurd (by decide) e⟩
    refine m_split_st hN N 0 0 _ _ _ (by omega) (Nat.le_refl _) rfl rfl ?_ hp
    show wnd _ _ 4 1 = _
    unfold wnd
    rw [if_neg (by omega)]
    exact h1
  | succ n ih =>
    intro i x y hi hx hy
    subst hy
    have hl := wkn_len (M 13) (kpM (M 13)) i
    generalize hL : wkn (M 13) (kpM (M 13)) i = L at hx hl ⊢
    have hs : wkn (M 13) (kpM (M 13)) (i + 1) = if M 13 (20 + i) = -1 then L else if kpM (M 13) (M 13 (20 + i)) = true then L ++ [M 13 (20 + i)] else L := by
      rw [← hL]
      rfl
    have hg : va_up M 13 (wnd (M 13) L i) 13 (20 + i) = M 13 (20 + i) := by rw [va_up_self, wnd_at]
    have h1 : mw (va_up M 13 (wnd (M 13) L i)) 13 (20 + i) (-1) = va_up M 13 (wnd (M 13) L (i + 1)) := by rw [mw_up, wnd_go _ _ _ hl]
    refine kJ_H [31, 97] 60 ?_
    refine ⟨fun e => absurd e (nI_ge (by omega) (by decide)), fun _ => ?_⟩
    refine ⟨20 + i, nI_add 20 i, by omega, ?_⟩
    rw [hg]
    refine ⟨20 + i, nI_add 20 i, by omega, kwL_eq h1 ?_⟩
    refine ⟨fun e => ?_, fun e => ⟨by decide, ?_⟩⟩
    · have e : M 13 (20 + i) = -1 := e
      rw [if_pos e] at hs
      refine kJ_drop 4 (kJ_eq (M' := va_up M 13 (wnd (M 13) (wkn (M 13) (kpM (M 13)) (i + 1)) (i + 1))) (by rw [hs]) ?_)
      exact ih (i + 1) _ _ (by omega) (by rw [hs]; exact hx) (nI_1 i)
    · have e : ¬ M 13 (20 + i) = -1 := e
      rw [if_neg e] at hs
      obtain ⟨p, hp8, ep⟩ := hw i (by omega) e
      have hd8 : nI p / nI 8 = nI (p / 8) := pk_div (by omega) (by decide) (by decide)
      have hc : (nI p).toNatClampNeg = p := nI_clamp (by omega)
      show kC (d + 2) km_stateOf [.ref 9, .int (M 13 (20 + i) / nI 8)] (va_up M 13 (wnd (M 13) L (i + 1))) _
      have e7 : M 13 (20 + i) / nI 8 = nI (p / 8) := by rw [ep, hd8]
      rw [e7]
      refine m_stateOf (by omega) ?_
      have e8 : va_up M 13 (wnd (M 13) L (i + 1)) 13 (2 + p / 8) = M 13 (2 + p / 8) := by
        rw [va_up_self]
        unfold wnd
        rw [if_neg (by omega)]
      have e9 : kpM (M 13) (M 13 (20 + i)) = decide (¬ M 13 (2 + p / 8) = nI 0) := by
        unfold kpM
        rw [ep, hc]
      rw [e8]
      refine ⟨fun e2 => ?_, fun e2 => ?_⟩
      · have e2 : M 13 (2 + p / 8) = nI 0 := e2
        rw [if_neg (by rw [e9, decide_eq_false (fun z => z e2)]; decide)] at hs
        refine kJ_drop 4 (kJ_eq (M' := va_up M 13 (wnd (M 13) (wkn (M 13) (kpM (M 13)) (i + 1)) (i + 1))) (by rw [hs]) ?_)
        exact ih (i + 1) _ _ (by omega) (by rw [hs]; exact hx) (nI_1 i)
      · have e2 : ¬ M 13 (2 + p / 8) = nI 0 := e2
        rw [if_pos (by rw [e9, decide_eq_true e2])] at hs
        refine ⟨20 + L.length, ?_, by omega, ?_⟩
        · rw [hx]
          exact nI_add 20 _
        refine kJ_drop 4 (kJ_eq (M' := va_up M 13 (wnd (M 13) (wkn (M 13) (kpM (M 13)) (i + 1)) (i + 1))) (by rw [hs, ← wnd_keep _ _ _ hl, ← mw_up]) ?_)
        refine ih (i + 1) _ _ (by omega) ?_ (nI_1 i)
        rw [hs, hx, List.length_append]
        exact nI_1 _
theorem m_split {n : Nat} (hn : n ≤ 6) (hm : M 13 1 = nI n) (hw : ∀ i, i < 4 → ¬ M 13 (20 + i) = -1 → ∃ p, p < 48 ∧ M 13 (20 + i) = nI p) (h1 : ¬ M 9 0 = 0 → P (rI (nI 0) (mw M 9 4 (nI 1)))) (h2 : M 9 0 = 0 → P ((fun q : Nat × (Nat → Int32) => if q.1 = 0 then rI (nI 0) (va_up (mw M 9 4 (nI 0)) 13 q.2) else mri (nx 9 spM (va_up (mw M 9 4 (nI 0)) 13 q.2)) (nI q.1)) (spMn n n 0 (wkp (M 13) (kpM (M 13)))))) : kC (d + 3) km_split [.ref 9] M P := by
  refine kC_L [31] 30 (by decide) (Nat.le_of_ble_eq_true rfl) ?_
  refine ⟨fun e => ?_, fun e => ?_⟩
  · have e : M 9 0 = 0 := e
    refine ⟨rfl, rfl, fun _ => ?_, fun e2 => absurd e e2⟩
    have h0 := m_split_win (M := mw M 9 4 (nI 0)) (d := d) (P := P) hn hm hw (h2 e) 4 0 (nI 0) (nI 0) rfl rfl rfl
    rw [show wkn (mw M 9 4 (nI 0) 13) (kpM (mw M 9 4 (nI 0) 13)) 0 = [] from rfl, wnd_0, up_id] at h0
    exact h0
  · have e : ¬ M 9 0 = 0 := e
    exact ⟨rfl, rfl, fun e2 => absurd e2 e, fun _ => ⟨rfl, h1 e⟩⟩
theorem m_thrown (h : P (rI (M 9 4) M)) : kC d km_thrown [.ref 9] M P := by
  refine kC_of 10 (by decide) (Nat.le_of_ble_eq_true rfl) ?_
  exact ⟨rfl, h⟩
theorem m_state {x : Int32} (hw : wf (M 13)) (h1 : ¬ M 9 0 = 0 ∨ isV (M 13) x = false → P (rI (-1) (mw M 9 4 (nI 0)))) (h2 : ∀ v, M 9 0 = 0 → isV (M 13) x = true → v < 6 → x = nI v → P (rI (M 13 (2 + v)) (mw M 9 4 (nI 0)))) : kC (d + 1) km_state [.ref 9, .int x] M P := by
  obtain ⟨n, hn, hm, -⟩ := hw
  refine kC_of 40 (by decide) (Nat.le_of_ble_eq_true rfl) ?_
  refine ⟨rfl, rfl, fun e => ⟨rfl, h1 (Or.inl e)⟩, fun e => ?_⟩
  refine m_isVolume ?_
  refine ⟨fun e2 => ⟨rfl, h1 (Or.inr (kb_0.mp e2))⟩, fun e2 => ?_⟩
  have e2 : isV (M 13) x = true := kb_pos e2
  obtain ⟨v, hv, rfl⟩ := isV_t hn hm e2
  refine m_stateOf (by omega) ?_
  exact ⟨rfl, h2 v e e2 (by omega) rfl⟩
theorem m_marked {x t : Int32} (hw : wf (M 13)) (h1 : ¬ M 9 0 = 0 ∨ isV (M 13) x = false ∨ inR t 2 = false → P (rI (-1) (mw M 9 4 (nI 0)))) (h2 : ∀ v u, M 9 0 = 0 → isV (M 13) x = true → v < 6 → x = nI v → u < 2 → t = nI u → P (rI (M 13 (8 + u * 6 + v)) (mw M 9 4 (nI 0)))) : kC (d + 1) km_marked [.ref 9, .int x, .int t] M P := by
  obtain ⟨n, hn, hm, -⟩ := hw
  refine kC_of 40 (by decide) (Nat.le_of_ble_eq_true rfl) ?_
  refine ⟨rfl, rfl, fun e => ⟨rfl, h1 (Or.inl e)⟩, fun e => ?_⟩
  refine m_isVolume ?_
  refine ⟨fun e2 => ⟨rfl, h1 (Or.inr (Or.inl (kb_0.mp e2)))⟩, fun e2 => ?_⟩
  have e2 : isV (M 13) x = true := kb_pos e2
  obtain ⟨v, hv, rfl⟩ := isV_t hn hm e2
  refine ⟨fun e3 => ?_, fun e3 => ⟨fun e4 => ?_, fun e4 => ?_⟩⟩
  · have e3 : t = nI 0 := e3
    subst e3
    exact m_map (t := 0) (by omega) (by decide) ⟨rfl, h2 v 0 e e2 (by omega) rfl (by decide) rfl⟩
  · exact ⟨rfl, h1 (Or.inr (Or.inr (by rw [inR_2]; exact decide_eq_false (fun z => z.elim e3 e4))))⟩
  · have e4 : t = nI 1 := e4
    subst e4
    exact m_map (t := 1) (by omega) (by decide) ⟨rfl, h2 v 1 e e2 (by omega) rfl (by decide) rfl⟩
theorem m_windowed {x : Int32} (h1 : ¬ M 9 0 = 0 ∨ inR x 4 = false → P (rI (-1) (mw M 9 4 (nI 0)))) (h2 : ∀ i, M 9 0 = 0 → i < 4 → x = nI i → P (rI (M 13 (20 + i)) (mw M 9 4 (nI 0)))) : kC d km_windowed [.ref 9, .int x] M P := by
  refine kC_of 40 (by decide) (Nat.le_of_ble_eq_true rfl) ?_
  refine ⟨rfl, rfl, fun e => ⟨rfl, h1 (Or.inl e)⟩, fun e => ⟨fun e2 => ⟨rfl, h1 (Or.inr (decide_eq_false (fun z => z.1 e2)))⟩, fun e2 => ⟨fun e3 => ⟨rfl, h1 (Or.inr (decide_eq_false (fun z => z.2 e3)))⟩, fun e3 => ?_⟩⟩⟩
  obtain ⟨i, hi, rfl⟩ := inR_t (x := x) (n := 4) (by decide) (decide_eq_true ⟨e2, e3⟩)
  exact ⟨20 + i, nI_add 20 i, by omega, rfl, h2 i e hi rfl⟩
theorem m_volumes (h1 : ¬ M 9 0 = 0 → P (rI (-1) (mw M 9 4 (nI 0)))) (h2 : M 9 0 = 0 → P (rI (M 13 1) (mw M 9 4 (nI 0)))) : kC d km_volumes [.ref 9] M P := by
  refine kC_of 40 (by decide) (Nat.le_of_ble_eq_true rfl) ?_
  refine ⟨rfl, rfl, fun e => ⟨1, rfl, by decide, rfl, h2 e⟩, fun e => ⟨rfl, h1 e⟩⟩
theorem m_copied (h : P (rI (M 9 3) (mw M 9 4 (nI 0)))) : kC d km_copied [.ref 9] M P := by
  refine kC_of 10 (by decide) (Nat.le_of_ble_eq_true rfl) ?_
  exact ⟨rfl, rfl, rfl, h⟩
theorem m_writes (h : P (rI (M 9 2) (mw M 9 4 (nI 0)))) : kC d km_writes [.ref 9] M P := by
  refine kC_of 10 (by decide) (Nat.le_of_ble_eq_true rfl) ?_
  exact ⟨rfl, rfl, rfl, h⟩
theorem m_power (h1 : M 9 0 = 0 → P (rI (nI 1) (mw M 9 4 (nI 0)))) (h2 : ¬ M 9 0 = 0 → P (rI (nI 0) (mw M 9 4 (nI 0)))) : kC d km_power [.ref 9] M P := by
  refine kC_of 10 (by decide) (Nat.le_of_ble_eq_true rfl) ?_
  exact ⟨rfl, rfl, fun e => ⟨rfl, h1 e⟩, fun e => ⟨rfl, h2 e⟩⟩
theorem m_cutAfter {x : Int32} (h1 : (x < -1 ∨ nI 1000000 < x) → P (rV (mw (mw M 9 4 (nI 1)) 9 1 (M 9 1)))) (h2 : ¬ x < -1 → ¬ nI 1000000 < x → P (rV (mw (mw M 9 4 (nI 0)) 9 1 x))) : kC d km_cutAfter [.ref 9, .int x] M P := by
  refine kC_of 40 (by decide) (Nat.le_of_ble_eq_true rfl) ?_
  refine ⟨fun e => ⟨rfl, rfl, fun e3 => absurd e3 (show ¬ nI 1 ≤ 0 by decide), fun _ => ⟨rfl, rfl, h1 (Or.inl e)⟩⟩, fun e => ⟨fun e2 => ?_, fun e2 => ?_⟩⟩
  · exact ⟨rfl, rfl, fun _ => ⟨rfl, rfl, h2 e (Int32.not_lt.mpr e2)⟩, fun e3 => absurd (show nI 0 ≤ 0 by decide) e3⟩
  · exact ⟨rfl, rfl, fun e3 => absurd e3 (show ¬ nI 1 ≤ 0 by decide), fun _ => ⟨rfl, rfl, h1 (Or.inr (Int32.not_le.mp e2))⟩⟩
theorem inR2_gt {t : Int32} (h1 : ¬ t < 0) (h2 : ¬ nI 1 < t) : inR t 2 = true := by
  rcases pk_ix t (n := 2) (by decide) with z | z | ⟨j, hj, rfl⟩
  · exact absurd z h1
  · exact absurd (Int32.lt_of_lt_of_le (show nI 1 < nI 2 by decide) z) h2
  · exact inR_nI hj (by decide)
theorem inR2_f {t : Int32} (h2 : nI 1 < t) : inR t 2 = false := by
  cases hx : inR t 2
  · rfl
  · obtain ⟨u, hu, rfl⟩ := inR_t (by decide) hx
    exact absurd h2 (Int32.not_lt.mpr (nI_le (by omega) (by decide)))
theorem inRf1 {x : Int32} {n : Nat} (h : x < 0) : inR x n = false := decide_eq_false (fun z => z.1 h)
theorem inRf2 {x : Int32} {n : Nat} (h : nI n ≤ x) : inR x n = false := decide_eq_false (fun z => z.2 h)
theorem m_raw {x t k w : Int32} (h1 : (inR x 6 && inR t 2 && inR k 64 && inR w 4) = false → P (rI (nI 0) (mw M 9 4 (nI 1)))) (h2 : ∀ v u j i, v < 6 → x = nI v → u < 2 → t = nI u → j < 64 → k = nI j → i < 4 → w = nI i → P (rI (M 10 (pl u v j + i)) (mw M 9 4 (nI 0)))) : kC (d + 1) km_raw [.ref 9, .int x, .int t, .int k, .int w] M P := by
  have bad : (inR x 6 && inR t 2 && inR k 64 && inR w 4) = false → ∀ {n : Nat}, kwN (d + 1) km_raw P (n + 20) 41 (lv_args 0 [.ref 9, .int x, .int t, .int k, .int w]) [.ref 9] M := by
    intro e n
    exact ⟨rfl, rfl, fun e3 => absurd e3 (show ¬ nI 1 ≤ 0 by decide), fun _ => ⟨rfl, h1 e⟩⟩
  refine kC_of 60 (by decide) (Nat.le_of_ble_eq_true rfl) ?_
  refine ⟨fun e => bad (by rw [inRf1 e]; rfl), fun e1 => ⟨fun e => bad (by rw [inRf2 (n := 6) e]; rfl), fun e2 => ?_⟩⟩
  refine ⟨fun e => bad (by rw [inRf1 (n := 2) e, Bool.and_false]; rfl), fun e3 => ⟨fun e => bad (by rw [inR2_f e, Bool.and_false]; rfl), fun e4 => ?_⟩⟩
  refine ⟨fun e => bad (by rw [inRf1 (n := 64) e, Bool.and_false]; rfl), fun e5 => ⟨fun e => bad (by rw [inRf2 (n := 64) e, Bool.and_false]; rfl), fun e6 => ?_⟩⟩
  refine ⟨fun e => bad (by rw [inRf1 (n := 4) e, Bool.and_false]), fun e7 => ⟨fun e8 => ?_, fun e => bad (by rw [inRf2 (n := 4) (Int32.not_lt.mp e), Bool.and_false])⟩⟩
  obtain ⟨v, hv, rfl⟩ := inR_t (x := x) (n := 6) (by decide) (decide_eq_true ⟨e1, e2⟩)
  obtain ⟨u, hu, rfl⟩ := inR_t (by decide) (inR2_gt e3 e4)
  obtain ⟨j, hj, rfl⟩ := inR_t (x := k) (n := 64) (by decide) (decide_eq_true ⟨e5, e6⟩)
  obtain ⟨i, hi, rfl⟩ := inR_t (x := w) (n := 4) (by decide) (decide_eq_true ⟨e7, fun z => Int32.not_le.mpr e8 z⟩)
  have hp := pl_lt hu hv hj
  refine ⟨rfl, rfl, fun _ => ?_, fun e3 => absurd (show nI 0 ≤ 0 by decide) e3⟩
  refine m_place ?_
  exact ⟨pl u v j + i, nI_add _ _, by omega, rfl, h2 v u j i hv rfl hu rfl hj rfl hi rfl⟩
end ME
