/-! the system's methods: its face, the rest -/
def sp1 (h : Nat → Int32) (v : Nat) : Nat → Int32 := wkp (upd (upd (upd h (2 + v) (nI 1)) (8 + v) (nI 0)) (14 + v) (nI 0)) (fun a => decide (¬ a / nI 8 = nI v))
def spCn (N : Nat) : Nat → Nat → (Nat → Int32) → Nat × (Nat → Int32)
  | 0, c, h => (c, h)
  | n + 1, c, h => if h (2 + (N - (n + 1))) = nI 0 then spCn N n (c + 1) (sp1 h (N - (n + 1))) else spCn N n c h
section CF
variable {d : Nat} {M : kMem} {P : kRes → Prop}
theorem c_split_loop {N : Nat} (hN : N ≤ 6) : ∀ (n c v : Nat) (z x y : Int32) (h : Nat → Int32), v + n = N → c ≤ v → z = nI N → x = nI c → y = nI v → P ((fun q : Nat × (Nat → Int32) => if q.1 = 0 then rI (nI 0) (va_up M 4 q.2) else thi (nx 0 spC (va_up M 4 q.2)) (nI q.1)) (spCn N n c h)) →
    kJ (d + 3) kc_split P 16 [(0, .ref 0), (1, .int z), (2, .int x), (3, .int y)] [] (va_up M 4 h) := by
  intro n
  induction n with
  | zero =>
    intro c v z x y h hv hc hz hx hy hp
    have hv : v = N := by omega
    subst hv; subst hz; subst hx; subst hy
    have hp : P (if c = 0 then rI (nI 0) (va_up M 4 h) else thi (nx 0 spC (va_up M 4 h)) (nI c)) := hp
    refine kJ_H [16] 20 ?_
    refine ⟨fun _ => ?_, fun e => absurd (nI_le (Nat.le_refl _) (by omega)) e⟩
    refine ⟨fun e => ?_, fun e => ?_⟩
    · have e : nI c ≤ 0 := e
      have hc0 : c = 0 := by
        rcases Nat.eq_zero_or_pos c with z | z
        · exact z
        · exact absurd e (nI_nle z (by omega))
      rw [if_pos hc0] at hp
      subst hc0
      exact ⟨rfl, hp⟩
    · have hc0 : ¬ c = 0 := fun z => e (by rw [z]; decide)
      rw [if_neg hc0] at hp
      refine c_writeHeader ?_
      exact thr_go (fun M1 e3 => by rw [e3] at hp; exact ⟨rfl, hp⟩) (fun M1 e3 => by rw [e3] at hp; exact hp)
  | succ n ih =>
    intro c v z x y h hv hc hz hx hy hp
    subst hz; subst hx; subst hy
    have hv2 : v = N - (n + 1) := by omega
    unfold spCn at hp
    rw [← hv2] at hp
    refine kJ_H [16] 40 ?_
    refine ⟨fun e => absurd e (nI_ge (by omega) (by omega)), fun _ => ?_⟩
    refine h_stateOf (by omega) ?_
    refine ⟨fun e => ?_, fun e => ?_⟩
    · have e : ¬ h (2 + v) = nI 0 := e
      rw [if_neg e] at hp
      exact ih c (v + 1) _ _ _ h (by omega) (by omega) rfl rfl (nI_1 v) hp
    · have e : h (2 + v) = nI 0 := e
      rw [if_pos e] at hp
      refine h_setState (by omega) ?_
      refine h_clearMaps (by omega) ?_
      refine h_leaveWindow ?_
      refine kJ_eq (M' := va_up M 4 (sp1 h v)) ?_ ?_
      · show va_up (mw (mw (mw (va_up M 4 h) 4 (2 + v) (nI 1)) 4 (8 + v) (nI 0)) 4 (14 + v) (nI 0)) 4 (wkp (mw (mw (mw (va_up M 4 h) 4 (2 + v) (nI 1)) 4 (8 + v) (nI 0)) 4 (14 + v) (nI 0) 4) (fun a => decide (¬ a / nI 8 = nI v))) = _
        rw [mw_up, mw_up, mw_up, bx_uu, va_up_self]
        rfl
      · exact ih (c + 1) (v + 1) _ _ _ _ (by omega) (by omega) rfl (nI_1 c) (nI_1 v) hp
theorem c_split {n : Nat} (hn : n ≤ 6) (hm : M 4 1 = nI n) (h1 : M 0 0 = 0 → P (rX eS M)) (h2 : ¬ M 0 0 = 0 → P ((fun q : Nat × (Nat → Int32) => if q.1 = 0 then rI (nI 0) (va_up M 4 q.2) else thi (nx 0 spC (va_up M 4 q.2)) (nI q.1)) (spCn n n 0 (M 4)))) : kC (d + 3) kc_split [.ref 0] M P := by
  refine kC_L [16] 20 (by decide) (Nat.le_of_ble_eq_true rfl) ?_
  refine c_requirePower h1 (fun e => ?_)
  have e9 : M = va_up M 4 (M 4) := by
    funext k
    unfold va_up
    by_cases hk : k = 4
    · rw [if_pos hk, hk]
    · rw [if_neg hk]
  refine h_volumeCount ?_
  refine kJ_eq e9 ?_
  exact c_split_loop hn n 0 0 _ _ _ (M 4) (by omega) (Nat.le_refl _) hm rfl rfl (h2 e)
theorem c_stepF {x : Int32} (hw : wf (M 4)) (h1 : M 0 0 = 0 → P (rX eS M)) (h2 : ¬ M 0 0 = 0 → isV (M 4) x = false → P (rX eB M))
    (h3 : ∀ v s, ¬ M 0 0 = 0 → isV (M 4) x = true → v < 6 → x = nI v → s < 2 → M 4 (2 + v) = nI s → P (rX eU M))
    (h4 : ∀ v s, ¬ M 0 0 = 0 → isV (M 4) x = true → v < 6 → x = nI v → s < 4 → 2 ≤ s → M 4 (2 + v) = nI s → P ((fun q : Bool × kMem => thi q (bcn (q.2 4 (8 + v) ||| q.2 4 (14 + v)))) (stp 0 spC M v (s - 2)))) : kC (d + 6) kc_step [.ref 0, .int x] M P := by
  have hw' := hw
  obtain ⟨n, hn, hm, hv9, -⟩ := hw'
  refine kC_of 40 (by decide) (Nat.le_of_ble_eq_true rfl) ?_
  refine c_requirePower h1 (fun e => ?_)
  refine c_requireRejoining hw (h2 e) (fun v ex ev hv el => ?_) (fun v ex ev hv el => ?_)
  · subst ex
    obtain ⟨v', hv', ev'⟩ := isV_t hn hm ev
    have ev2 : v = v' := (nI_eq (by omega) (by omega)).mp ev'
    subst ev2
    obtain ⟨⟨s, hs, es⟩, -⟩ := hv9 v hv'
    have el : M 4 (2 + v) < nI 2 := el
    rw [es] at el
    exact h3 v s e ev hv rfl ((nI_ltI (by omega) (by decide)).mp el) es
  · subst ex
    obtain ⟨v', hv', ev'⟩ := isV_t hn hm ev
    have ev2 : v = v' := (nI_eq (by omega) (by omega)).mp ev'
    subst ev2
    obtain ⟨⟨s, hs, es⟩, -⟩ := hv9 v hv'
    have el : ¬ M 4 (2 + v) < nI 2 := el
    rw [es] at el
    have hs2 : 2 ≤ s := Nat.not_lt.mp (fun z => el ((nI_ltI (by omega) (by decide)).mpr z))
    have h := h4 v s e ev hv rfl hs hs2 es
    refine c_step hv hs hs2 es ?_
    refine thr_go (fun M1 e3 => ?_) (fun M1 e3 => by rw [e3] at h; exact h)
    rw [e3] at h
    refine h_marksOf hv ?_
    refine j_bitCount ?_
    exact ⟨rfl, h⟩
theorem c_run_loop {v s : Nat} (hv : v < 6) (hs : s < 4) (hs2 : 2 ≤ s) (hst : ∀ M M1, M 4 (2 + v) = nI s → stp 0 spC M v (s - 2) = (true, M1) → M1 4 (2 + v) = nI s ∨ M1 4 (2 + v) = nI 0) : ∀ (n c : Nat) (x : Int32) (M : kMem), c + n = 8 → x = nI c → (M 4 (2 + v) = nI s ∨ M 4 (2 + v) = nI 0) → P ((fun q : (Bool × Nat) × kMem => thi (q.1.1, q.2) (nI q.1.2)) (rnn 0 spC v (s - 2) n c M)) →
    kJ (d + 6) kc_run P 11 [(0, .ref 0), (1, .int (nI v)), (2, .int x)] [] M := by
  intro n
  induction n with
  | zero =>
    intro c x M hc hx hz h
    have hc : c = 8 := by omega
    subst hc; subst hx
    refine kJ_H [11] 20 ?_
    exact ⟨fun _ => ⟨rfl, h⟩, fun e => absurd (by decide) e⟩
  | succ n ih =>
    intro c x M hc hx hz h
    subst hx
    unfold rnn at h
    refine kJ_H [11] 20 ?_
    refine ⟨fun e => absurd e (nI_ge (by omega) (by decide)), fun _ => ?_⟩
    refine h_stateOf hv ?_
    refine ⟨fun e => ?_, fun e => ?_⟩
    · have e : M 4 (2 + v) = nI 0 := e
      rw [if_pos e] at h
      exact ⟨rfl, h⟩
    · have e : ¬ M 4 (2 + v) = nI 0 := e
      rw [if_neg e] at h
      have es : M 4 (2 + v) = nI s := hz.elim id (fun z => absurd z e)
      refine c_step hv hs hs2 es ?_
      refine thr_go (fun M1 e3 => ?_) (fun M1 e3 => by rw [e3] at h; exact h)
      rw [e3] at h
      exact ih (c + 1) _ M1 (by omega) (nI_1 c) (hst M M1 es e3) h
theorem c_run {x : Int32} (hw : wf (M 4)) (h1 : M 0 0 = 0 → P (rX eS M)) (h2 : ¬ M 0 0 = 0 → isV (M 4) x = false → P (rX eB M))
    (h3 : ∀ v s, ¬ M 0 0 = 0 → isV (M 4) x = true → v < 6 → x = nI v → s < 2 → M 4 (2 + v) = nI s → P (rX eU M))
    (hst : ∀ v s, v < 6 → s < 4 → 2 ≤ s → ∀ M M1, M 4 (2 + v) = nI s → stp 0 spC M v (s - 2) = (true, M1) → M1 4 (2 + v) = nI s ∨ M1 4 (2 + v) = nI 0)
    (h4 : ∀ v s, ¬ M 0 0 = 0 → isV (M 4) x = true → v < 6 → x = nI v → s < 4 → 2 ≤ s → M 4 (2 + v) = nI s → P ((fun q : (Bool × Nat) × kMem => thi (q.1.1, q.2) (nI q.1.2)) (rnn 0 spC v (s - 2) 8 0 M))) : kC (d + 6) kc_run [.ref 0, .int x] M P := by
  have hw' := hw
  obtain ⟨n, hn, hm, hv9, -⟩ := hw'
  refine kC_L [11] 40 (by decide) (Nat.le_of_ble_eq_true rfl) ?_
  refine c_requirePower h1 (fun e => ?_)
  refine c_requireRejoining hw (h2 e) (fun v ex ev hv el => ?_) (fun v ex ev hv el => ?_)
  · subst ex
    obtain ⟨v', hv', ev'⟩ := isV_t hn hm ev
    have ev2 : v = v' := (nI_eq (by omega) (by omega)).mp ev'
    subst ev2
    obtain ⟨⟨s, hs, es⟩, -⟩ := hv9 v hv'
    have el : M 4 (2 + v) < nI 2 := el
    rw [es] at el
    exact h3 v s e ev hv rfl ((nI_ltI (by omega) (by decide)).mp el) es
  · subst ex
    obtain ⟨v', hv', ev'⟩ := isV_t hn hm ev
    have ev2 : v = v' := (nI_eq (by omega) (by omega)).mp ev'
    subst ev2
    obtain ⟨⟨s, hs, es⟩, -⟩ := hv9 v hv'
    have el : ¬ M 4 (2 + v) < nI 2 := el
    rw [es] at el
    have hs2 : 2 ≤ s := Nat.not_lt.mp (fun z => el ((nI_ltI (by omega) (by decide)).mpr z))
    exact c_run_loop hv hs hs2 (hst v s hv hs hs2) 8 0 _ M rfl rfl (Or.inl es) (h4 v s e ev hv rfl hs hs2 es)
theorem c_state {x : Int32} (hw : wf (M 4)) (h1 : M 0 0 = 0 ∨ isV (M 4) x = false → P (rI (-1) M)) (h2 : ∀ v, ¬ M 0 0 = 0 → isV (M 4) x = true → v < 6 → x = nI v → P (rI (M 4 (2 + v)) M)) : kC (d + 2) kc_state [.ref 0, .int x] M P := by
  obtain ⟨n, hn, hm, -⟩ := hw
  refine kC_of 40 (by decide) (Nat.le_of_ble_eq_true rfl) ?_
  refine ⟨fun e => ⟨rfl, h1 (Or.inl e)⟩, fun e => ?_⟩
  refine c_isVolume ?_
  refine ⟨fun e2 => ⟨rfl, h1 (Or.inr (kb_0.mp e2))⟩, fun e2 => ?_⟩
  have e2 := kb_pos e2
  obtain ⟨v, hv, rfl⟩ := isV_t hn hm e2
  refine h_stateOf (by omega) ?_
  exact ⟨rfl, h2 v e e2 (by omega) rfl⟩
theorem c_marked {x t : Int32} (hw : wf (M 4)) (h1 : M 0 0 = 0 ∨ isV (M 4) x = false ∨ inR t 2 = false → P (rI (-1) M)) (h2 : ∀ v u, ¬ M 0 0 = 0 → isV (M 4) x = true → v < 6 → x = nI v → u < 2 → t = nI u → P (rI (M 4 (8 + u * 6 + v)) M)) : kC (d + 2) kc_marked [.ref 0, .int x, .int t] M P := by
  obtain ⟨n, hn, hm, -⟩ := hw
  refine kC_of 40 (by decide) (Nat.le_of_ble_eq_true rfl) ?_
  refine ⟨fun e => ⟨rfl, h1 (Or.inl e)⟩, fun e => ?_⟩
  refine c_isVolume ?_
  refine ⟨fun e2 => ⟨rfl, h1 (Or.inr (Or.inl (kb_0.mp e2)))⟩, fun e2 => ?_⟩
  have e2 := kb_pos e2
  refine c_isSide ?_
  refine ⟨fun e3 => ⟨rfl, h1 (Or.inr (Or.inr (kb_0.mp e3)))⟩, fun e3 => ?_⟩
  have e3 : inR t 2 = true := kb_pos e3
  obtain ⟨v, hv, rfl⟩ := isV_t hn hm e2
  obtain ⟨u, hu, rfl⟩ := inR_t (by decide) e3
  refine h_mapOf (by omega) hu ?_
  exact ⟨rfl, h2 v u e e2 (by omega) rfl hu rfl⟩
theorem c_windowed {x : Int32} (h1 : M 0 0 = 0 ∨ inR x 4 = false → P (rI (-1) M)) (h2 : ∀ i, ¬ M 0 0 = 0 → i < 4 → x = nI i → P (rI (M 4 (20 + i)) M)) : kC (d + 1) kc_windowed [.ref 0, .int x] M P := by
  refine kC_of 40 (by decide) (Nat.le_of_ble_eq_true rfl) ?_
  refine ⟨fun e => ⟨rfl, h1 (Or.inl e)⟩, fun e => ⟨fun e2 => ⟨rfl, h1 (Or.inr (decide_eq_false (fun z => z.1 e2)))⟩, fun e2 => ⟨fun e3 => ⟨rfl, h1 (Or.inr (decide_eq_false (fun z => z.2 e3)))⟩, fun e3 => ?_⟩⟩⟩
  obtain ⟨i, hi, rfl⟩ := inR_t (x := x) (n := 4) (by decide) (decide_eq_true ⟨e2, e3⟩)
  refine h_placeAt hi ?_
  exact ⟨rfl, h2 i e hi rfl⟩
theorem c_volumes (h1 : M 0 0 = 0 → P (rI (-1) M)) (h2 : ¬ M 0 0 = 0 → P (rI (M 4 1) M)) : kC (d + 1) kc_volumes [.ref 0] M P := by
  refine kC_of 40 (by decide) (Nat.le_of_ble_eq_true rfl) ?_
  refine ⟨fun e => ⟨rfl, h1 e⟩, fun e => ?_⟩
  refine h_volumeCount ?_
  exact ⟨rfl, h2 e⟩
theorem c_copied (h : P (rI (M 0 3) M)) : kC d kc_copied [.ref 0] M P := by
  refine kC_of 10 (by decide) (Nat.le_of_ble_eq_true rfl) ?_
  exact ⟨rfl, h⟩
theorem c_writes (h : P (rI (M 0 2) M)) : kC d kc_writes [.ref 0] M P := by
  refine kC_of 10 (by decide) (Nat.le_of_ble_eq_true rfl) ?_
  exact ⟨rfl, h⟩
theorem c_power (h1 : M 0 0 = 0 → P (rI (nI 0) M)) (h2 : ¬ M 0 0 = 0 → P (rI (nI 1) M)) : kC d kc_power [.ref 0] M P := by
  refine kC_of 10 (by decide) (Nat.le_of_ble_eq_true rfl) ?_
  exact ⟨fun e => ⟨rfl, h1 e⟩, fun e => ⟨rfl, h2 e⟩⟩
theorem c_cutAfter {x : Int32} (h1 : (x < -1 ∨ nI 1000000 < x) → P (rX eA M)) (h2 : ¬ x < -1 → ¬ nI 1000000 < x → P (rV (mw M 0 1 x))) : kC d kc_cutAfter [.ref 0, .int x] M P := by
  refine kC_of 20 (by decide) (Nat.le_of_ble_eq_true rfl) ?_
  exact ⟨fun e => h1 (Or.inl e), fun e => ⟨fun e2 => ⟨rfl, rfl, h2 e (Int32.not_lt.mpr e2)⟩, fun e2 => h1 (Or.inr (Int32.not_le.mp e2))⟩⟩
theorem c_raw {x t k w : Int32} (h1 : (inR x 6 && inR t 2 && inR k 64 && inR w 4) = false → P (rX eB M)) (h2 : ∀ v u j i, v < 6 → x = nI v → u < 2 → t = nI u → j < 64 → k = nI j → i < 4 → w = nI i → P (rI (M 1 (pl u v j + i)) M)) : kC (d + 2) kc_raw [.ref 0, .int x, .int t, .int k, .int w] M P := by
  refine kC_of 40 (by decide) (Nat.le_of_ble_eq_true rfl) ?_
  refine c_requireRoomOf (fun e => h1 (by rw [e]; rfl)) (fun e1 => ?_)
  refine c_requireSide (fun e => h1 (by rw [e, Bool.and_false]; rfl)) (fun e2 => ?_)
  refine c_requireBlockNumber (fun e => h1 (by rw [e, Bool.and_false]; rfl)) (fun e3 => ?_)
  refine c_requireWord (fun e => h1 (by rw [e, Bool.and_false])) (fun e4 => ?_)
  obtain ⟨v, hv, rfl⟩ := inR_t (by decide) e1
  obtain ⟨u, hu, rfl⟩ := inR_t (by decide) e2
  obtain ⟨j, hj, rfl⟩ := inR_t (by decide) e3
  obtain ⟨i, hi, rfl⟩ := inR_t (by decide) e4
  have hp := pl_lt hu hv hj
  refine c_blockAt ?_
  exact ⟨pl u v j + i, nI_add _ _, by omega, rfl, h2 v u j i hv rfl hu rfl hj rfl hi rfl⟩
theorem c_head {t w : Int32} (h1 : (inR t 2 && inR w 24) = false → P (rX eB M)) (h2 : ∀ i, t = nI 0 → i < 24 → w = nI i → P (rI (M 2 i) M)) (h3 : ∀ i, t = nI 1 → i < 24 → w = nI i → P (rI (M 3 i) M)) : kC (d + 2) kc_head [.ref 0, .int t, .int w] M P := by
  refine kC_of 40 (by decide) (Nat.le_of_ble_eq_true rfl) ?_
  refine c_requireSide (fun e => h1 (by rw [e]; rfl)) (fun e1 => ?_)
  obtain ⟨u, hu, rfl⟩ := inR_t (by decide) e1
  refine ⟨fun e => h1 (by rw [show inR w 24 = false from decide_eq_false (fun z => z.1 e), Bool.and_false]), fun e => ⟨fun e2 => ?_, fun e2 => h1 (by rw [show inR w 24 = false from decide_eq_false (fun z => z.2 (Int32.not_lt.mp e2)), Bool.and_false])⟩⟩
  obtain ⟨i, hi, rfl⟩ := inR_t (x := w) (n := 24) (by decide) (decide_eq_true ⟨e, fun z => Int32.not_le.mpr e2 z⟩)
  rcases (show u = 0 ∨ u = 1 by omega) with rfl | rfl
  · refine c_headerOn0 ?_
    refine h_itemAt6 hi ?_
    exact ⟨rfl, h2 i rfl hi rfl⟩
  · refine c_headerOn1 ?_
    refine h_itemAt7 hi ?_
    exact ⟨rfl, h3 i rfl hi rfl⟩
theorem c_diff_loop {v : Nat} (hv : v < 6) : ∀ (n i c : Nat) (x y : Int32), i + n = 64 → x = nI c → y = nI i → P (rI (nI (dfn (M 1) v n c)) M) → kJ (d + 2) kc_differing P 9 [(0, .ref 0), (1, .int (nI v)), (2, .int x), (3, .int y)] [] M := by
  intro n
  induction n with
  | zero =>
    intro i c x y hi hx hy h
    have hi : i = 64 := by omega
    subst hi; subst hx; subst hy
    refine kJ_H [9] 20 ?_
    exact ⟨fun _ => ⟨rfl, h⟩, fun e => absurd (by decide) e⟩
  | succ n ih =>
    intro i c x y hi hx hy h
    subst hx; subst hy
    have hi2 : i = 63 - n := by omega
    unfold dfn at h
    rw [← hi2] at h
    refine kJ_H [9] 20 ?_
    refine ⟨fun e => absurd e (nI_ge (by omega) (by decide)), fun _ => ?_⟩
    refine c_isSame hv (by omega) ?_
    refine ⟨fun e => ?_, fun e => ?_⟩
    · rw [if_pos (kb_pos e)] at h
      exact ih (i + 1) c _ _ (by omega) rfl (nI_1 i) h
    · rw [if_neg (by rw [kb_0.mp e]; decide)] at h
      exact ih (i + 1) (c + 1) _ _ (by omega) (nI_1 c) (nI_1 i) h
theorem c_differing {x : Int32} (h1 : inR x 6 = false → P (rX eB M)) (h2 : ∀ v, v < 6 → x = nI v → P (rI (nI (dfn (M 1) v 64 0)) M)) : kC (d + 2) kc_differing [.ref 0, .int x] M P := by
  refine kC_L [9] 20 (by decide) (Nat.le_of_ble_eq_true rfl) ?_
  refine c_requireRoomOf h1 (fun e1 => ?_)
  obtain ⟨v, hv, rfl⟩ := inR_t (by decide) e1
  exact c_diff_loop hv 64 0 0 _ _ rfl rfl rfl (h2 v hv rfl)
theorem c_start (hw : ∀ M1, tnh 0 spC (mw (mw M 0 0 (nI 1)) 0 3 (nI 0)) = (true, M1) → wf (M1 4)) (h : P ((fun q : Bool × kMem => thi q (q.2 4 1)) (srt 0 spC (mw (mw M 0 0 (nI 1)) 0 3 (nI 0))))) : kC (d + 6) kc_start [.ref 0] M P := by
  unfold srt at h
  refine kC_of 40 (by decide) (Nat.le_of_ble_eq_true rfl) ?_
  refine ⟨rfl, rfl, rfl, rfl, ?_⟩
  refine c_takeNewer ?_
  refine thr_go (fun M1 e3 => ?_) (fun M1 e3 => by rw [show tnh 0 spC (mw (mw M 0 0 (nI 1)) 0 3 (nI 0)) = (false, M1) from e3] at h; exact h)
  have e3 : tnh 0 spC (mw (mw M 0 0 (nI 1)) 0 3 (nI 0)) = (true, M1) := e3
  rw [e3] at h
  refine c_mendWindow (hw M1 e3) ?_
  have h : P ((fun q : Bool × kMem => thi q (q.2 4 1)) (mnd 0 spC M1)) := h
  refine thr_go (fun M2 e4 => ?_) (fun M2 e4 => by rw [e4] at h; exact h)
  rw [e4] at h
  refine h_volumeCount ?_
  exact ⟨rfl, h⟩
end CF
