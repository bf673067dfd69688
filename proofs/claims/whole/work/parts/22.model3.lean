/-! the reference's methods: put, write, fill, read -/
theorem wf_opn0 {h : Nat → Int32} {v n : Nat} (hv : v < n) (hV : ∀ v, v < n → wfV h v) (h0 : h (2 + v) = nI 0) (r : Nat) : opn h v r = false := by
  obtain ⟨-, -, -, g⟩ := hV v hv
  obtain ⟨g1, g2⟩ := g h0
  unfold opn
  rw [g1, g2]
  show (bt 0 r || bt 0 r) = false
  rw [b_0]
  rfl
section MC
variable {d : Nat} {M : kMem} {P : kRes → Prop}
theorem m_put {v s u k : Nat} {t : Int32} (hv : v < 6) (hs : s < 4) (hst : M 13 (2 + v) = nI s) (hu : u < 2) (eu : sidI s t = nI u) (hk : k < 64) (h0 : s = 0 → opn (M 13) v (k / 8) = false) (h : P (kbr (put 9 spM M v u k))) : kC (d + 3) km_put [.ref 9, .int (nI v), .int t, .int (nI k)] M P := by
  have hr : nI k / nI 8 = nI (k / 8) := pk_div (by omega) (by decide) (by decide)
  have hr8 : k / 8 < 8 := by omega
  unfold put at h
  refine kC_of 80 (by decide) (Nat.le_of_ble_eq_true rfl) ?_
  refine ⟨by decide, ?_⟩
  refine m_stateOf hv ?_
  refine m_sideOf hv hs hst ?_
  rw [eu]
  have wbl : ∀ {M1 : kMem} {y : Int32}, P (kbr (wb 9 spM M1 u v k)) → kC (d + 2) km_writeBlock [.ref 9, .int (nI u), .int (nI v), .int (nI k)] M1 (fun r => match r with | .inl (some (.int z), M2) => narrow .boolean (.int z) = .int z ∧ P (rI z M2) | _ => False) := by
    intro M1 y h
    refine m_writeBlock hv hu hk ?_
    exact ⟨kb_narrow _, h⟩
  refine ⟨fun e => ?_, fun e => ?_⟩
  · have e : ¬ M 13 (2 + v) = nI 1 := e
    rw [if_neg e] at h
    -- the pair of writes behind the window
    have tail : ∀ {n : Nat} {M1 : kMem} {y : Int32}, P (kbr (match wb 9 spM M1 u v k with | (true, M2) => wb 9 spM M2 (1 - u) v k | (false, M2) => (false, M2))) →
        kwN (d + 3) km_put P (n + 30) 129 [(0, .ref 9), (1, .int (nI v)), (2, .int t), (3, .int (nI k)), (4, .int y), (5, .int (M 13 (2 + v))), (6, .int (nI u))] [] M1 := by
      intro n M1 y h
      refine m_writeBlock hv hu hk ?_
      refine bgo (fun M2 e4 => ?_) (fun M2 e4 => ?_)
      · rw [e4] at h
        have h : P (kbr (wb 9 spM M2 (1 - u) v k)) := h
        refine ⟨fun e2 => absurd e2 (by decide), fun _ => ?_⟩
        show kC (d + 2) km_writeBlock [.ref 9, .int (nI 1 - nI u), .int (nI v), .int (nI k)] M2 _
        rw [pk_sub (by omega)]
        refine m_writeBlock hv (by omega) hk ?_
        refine bgo (fun M3 e5 => ?_) (fun M3 e5 => ?_)
        · rw [e5] at h
          exact ⟨fun e2 => absurd e2 (by decide), fun _ => ⟨rfl, h⟩⟩
        · rw [e5] at h
          exact ⟨fun _ => ⟨rfl, h⟩, fun e2 => absurd rfl e2⟩
      · rw [e4] at h
        exact ⟨fun _ => ⟨rfl, h⟩, fun e2 => absurd rfl e2⟩
    have mid : ∀ {n : Nat} {y : Int32}, y = nI (k / 8) → opn (M 13) v (k / 8) = false →
        kwN (d + 3) km_put P (n + 50) 103 [(0, .ref 9), (1, .int (nI v)), (2, .int t), (3, .int (nI k)), (4, .int y), (5, .int (M 13 (2 + v))), (6, .int (nI u))] [] M := by
      intro n y hy e2
      subst hy
      rw [if_neg (by rw [show (9 + 4 : Nat) = 13 from rfl, e2]; decide)] at h
      unfold enb at h
      refine m_isWindowed ?_
      refine ⟨fun e3 => ?_, fun e3 => ?_⟩
      · have e3 : inw (M 13) (nI (v * 8 + k / 8)) = true := kb_pos e3
        rw [if_pos e3] at h
        exact tail (n := n + 15) h
      · have e3 : inw (M 13) (nI (v * 8 + k / 8)) = false := kb_0.mp e3
        rw [if_neg (by rw [show (9 + 4 : Nat) = 13 from rfl, e3]; decide)] at h
        refine m_enter ?_
        refine m_next ?_
        have h : P (kbr (match nx 9 spM (va_up M 13 (ent (M 13) (nI (v * 8 + k / 8)))) with | (true, M1) => (match wb 9 spM M1 u v k with | (true, M2) => wb 9 spM M2 (1 - u) v k | (false, M2) => (false, M2)) | (false, M1) => (false, M1))) := h
        refine bgo (fun M1 e4 => ?_) (fun M1 e4 => ?_)
        · have e4 : nx 9 spM (va_up M 13 (ent (M 13) (nI (v * 8 + k / 8)))) = (true, M1) := e4
          rw [e4] at h
          exact ⟨fun _ => tail (n := n + 8) h, fun e => absurd e (by decide)⟩
        · have e4 : nx 9 spM (va_up M 13 (ent (M 13) (nI (v * 8 + k / 8)))) = (false, M1) := e4
          rw [e4] at h
          exact ⟨fun e => absurd rfl e, fun _ => ⟨rfl, h⟩⟩
    refine ⟨fun e2 => ?_, fun e2 => ?_⟩
    · have e2 : M 13 (2 + v) = nI 0 := e2
      exact mid (n := 12) hr (h0 ((nI_eq (by omega) (by decide)).mp (hst.symm.trans e2)))
    · show kC (d + 2) km_isOpen [.ref 9, .int (nI v), .int (nI k / nI 8)] M _
      rw [hr]
      refine m_isOpen hv hr8 ?_
      refine ⟨fun e3 => ?_, fun e3 => ?_⟩
      · exact mid (n := 7) hr (kb_0.mp e3)
      · have e3 : opn (M 13) v (k / 8) = true := kb_pos e3
        rw [if_pos e3] at h
        refine m_writeBlock hv hu hk ?_
        exact ⟨kb_narrow _, h⟩
  · have e : M 13 (2 + v) = nI 1 := e
    rw [if_pos e] at h
    unfold mkb at h
    show kC (d + 2) km_isMarked [.ref 9, .int (nI v), .int (nI k / nI 8), .int (nI u)] M _
    rw [hr]
    refine m_isMarked hv hr8 hu ?_
    refine ⟨fun e3 => ?_, fun e3 => ?_⟩
    · have e3 : bt (M 13 (8 + u * 6 + v)) (k / 8) = true := kb_pos e3
      rw [if_pos e3] at h
      refine m_writeBlock hv hu hk ?_
      exact ⟨kb_narrow _, h⟩
    · have e3 : bt (M 13 (8 + u * 6 + v)) (k / 8) = false := kb_0.mp e3
      rw [if_neg (by rw [show (9 + 4 : Nat) = 13 from rfl, e3]; decide)] at h
      have e9 : nI 8 + nI 6 * nI u + nI v = nI (8 + u * 6 + v) := by rw [pk_mul, nI_add, nI_add, Nat.mul_comm]
      refine ⟨8 + u * 6 + v, e9, by omega, 8 + u * 6 + v, e9, by omega, ?_⟩
      have h : P (kbr (match nx 9 spM (mw M 13 (8 + u * 6 + v) (M 13 (8 + u * 6 + v) ||| bit1 (k / 8))) with | (true, M1) => wb 9 spM M1 u v k | (false, M1) => (false, M1))) := h
      refine kwN_eq (M' := mw M 13 (8 + u * 6 + v) (M 13 (8 + u * 6 + v) ||| bit1 (k / 8))) ?_ ?_
      · show mw M 13 (8 + u * 6 + v) (M 13 (8 + u * 6 + v) ||| (nI 1 <<< (nI k / nI 8 &&& 31))) = _
        rw [hr]
        rfl
      refine m_next ?_
      refine bgo (fun M1 e4 => ?_) (fun M1 e4 => ?_)
      · rw [e4] at h
        refine ⟨fun _ => ?_, fun e => absurd e (by decide)⟩
        refine m_writeBlock hv hu hk ?_
        exact ⟨kb_narrow _, h⟩
      · rw [e4] at h
        exact ⟨fun e => absurd rfl e, fun _ => ⟨rfl, h⟩⟩
/-- a volume that is there, its state -/
theorem wf_vol {h : Nat → Int32} {x t k : Int32} (hw : wf h) (hb : isB h x t k = true) : ∃ v s u j, v < 6 ∧ x = nI v ∧ s < 4 ∧ h (2 + v) = nI s ∧ u < 2 ∧ sidI s t = nI u ∧ j < 64 ∧ k = nI j ∧ (s = 0 → ∀ r, opn h v r = false) := by
  have hw' := hw
  obtain ⟨n, hn, hm, hV, -⟩ := hw'
  obtain ⟨v, s, u, j, hv, rfl, hs, es, hu, eu, hj, ek, e⟩ := isB_t hw hb
  obtain ⟨v', hv', ev'⟩ := isV_t hn hm e
  have ev2 : v = v' := (nI_eq (by omega) (by omega)).mp ev'
  subst ev2
  exact ⟨v, s, u, j, hv, rfl, hs, es, hu, eu, hj, ek, fun z r => wf_opn0 hv' hV (by rw [es, z]) r⟩
theorem m_write {x t k w y : Int32} (hw : wf (M 13)) (h1 : ¬ M 9 0 = 0 → P (rV (mw M 9 4 (nI 1)))) (h2 : M 9 0 = 0 → (isB (M 13) x t k && inR w 4) = false → P (rV (mw M 9 4 (nI 2))))
    (h3 : ∀ v s u j i, M 9 0 = 0 → (isB (M 13) x t k && inR w 4) = true → v < 6 → x = nI v → s < 4 → M 13 (2 + v) = nI s → u < 2 → sidI s t = nI u → j < 64 → k = nI j → i < 4 → w = nI i → P (mrv (put 9 spM (mw (tk 9 (mw M 9 4 (nI 0)) u v j) 14 i y) v u j))) : kC (d + 4) km_write [.ref 9, .int x, .int t, .int k, .int w, .int y] M P := by
  refine kC_of 60 (by decide) (Nat.le_of_ble_eq_true rfl) ?_
  refine m_ask hw (fun e => ?_) (fun e e2 => ?_) (fun e e2 => ?_)
  · exact ⟨fun e3 => absurd e3 (show ¬ nI 1 ≤ 0 by decide), fun _ => h1 e⟩
  · exact ⟨fun e3 => absurd e3 (show ¬ nI 2 ≤ 0 by decide), fun _ => h2 e e2⟩
  · refine ⟨fun _ => ?_, fun e3 => absurd (show nI 0 ≤ 0 by decide) e3⟩
    have e99 := e2
    rw [Bool.and_eq_true] at e2
    obtain ⟨e2, e3⟩ := e2
    obtain ⟨v, s, u, j, hv, rfl, hs, es, hu, eu, hj, rfl, h0⟩ := wf_vol hw e2
    obtain ⟨i, hi, rfl⟩ := inR_t (by decide) e3
    have h := h3 v s u j i e e99 hv rfl hs es hu eu hj rfl hi rfl
    refine m_sideOf hv hs es ?_
    rw [eu]
    refine m_take hv hu hj ?_
    refine ⟨i, rfl, hi, ?_⟩
    refine m_put hv hs es hu eu hj (fun z => h0 z _) ?_
    refine bgo (fun M1 e4 => ?_) (fun M1 e4 => ?_)
    · have e4 : put 9 spM (mw (tk 9 (mw M 9 4 (nI 0)) u v j) 14 i y) v u j = (true, M1) := e4
      rw [e4] at h
      exact ⟨fun e => absurd e (by decide), fun _ => ⟨rfl, rfl, h⟩⟩
    · have e4 : put 9 spM (mw (tk 9 (mw M 9 4 (nI 0)) u v j) 14 i y) v u j = (false, M1) := e4
      rw [e4] at h
      exact ⟨fun _ => ⟨rfl, rfl, h⟩, fun e => absurd rfl e⟩
theorem m_fill {x t k a0 a1 a2 a3 : Int32} (hw : wf (M 13)) (h1 : ¬ M 9 0 = 0 → P (rV (mw M 9 4 (nI 1)))) (h2 : M 9 0 = 0 → isB (M 13) x t k = false → P (rV (mw M 9 4 (nI 2))))
    (h3 : ∀ v s u j, M 9 0 = 0 → isB (M 13) x t k = true → v < 6 → x = nI v → s < 4 → M 13 (2 + v) = nI s → u < 2 → sidI s t = nI u → j < 64 → k = nI j → P (mrv (put 9 spM (mw (mw (mw (mw (mw M 9 4 (nI 0)) 14 0 a0) 14 1 a1) 14 2 a2) 14 3 a3) v u j))) : kC (d + 4) km_fill [.ref 9, .int x, .int t, .int k, .int a0, .int a1, .int a2, .int a3] M P := by
  have e9 : inR (nI 0) 4 = true := by decide
  refine kC_of 60 (by decide) (Nat.le_of_ble_eq_true rfl) ?_
  refine m_ask hw (fun e => ?_) (fun e e2 => ?_) (fun e e2 => ?_)
  · exact ⟨fun e3 => absurd e3 (show ¬ nI 1 ≤ 0 by decide), fun _ => h1 e⟩
  · have e2 : (isB (M 13) x t k && inR (nI 0) 4) = false := e2
    rw [e9, Bool.and_true] at e2
    exact ⟨fun e3 => absurd e3 (show ¬ nI 2 ≤ 0 by decide), fun _ => h2 e e2⟩
  · refine ⟨fun _ => ?_, fun e3 => absurd (show nI 0 ≤ 0 by decide) e3⟩
    have e2 : (isB (M 13) x t k && inR (nI 0) 4) = true := e2
    rw [e9, Bool.and_true] at e2
    obtain ⟨v, s, u, j, hv, rfl, hs, es, hu, eu, hj, rfl, h0⟩ := wf_vol hw e2
    have h := h3 v s u j e e2 hv rfl hs es hu eu hj rfl
    refine ⟨0, rfl, by decide, 1, rfl, by decide, 2, rfl, by decide, 3, rfl, by decide, ?_⟩
    refine m_put hv hs es hu eu hj (fun z => h0 z _) ?_
    refine bgo (fun M1 e4 => ?_) (fun M1 e4 => ?_)
    · have e4 : put 9 spM (mw (mw (mw (mw (mw M 9 4 (nI 0)) 14 0 a0) 14 1 a1) 14 2 a2) 14 3 a3) v u j = (true, M1) := e4
      rw [e4] at h
      exact ⟨fun e => absurd e (by decide), fun _ => ⟨rfl, rfl, h⟩⟩
    · have e4 : put 9 spM (mw (mw (mw (mw (mw M 9 4 (nI 0)) 14 0 a0) 14 1 a1) 14 2 a2) 14 3 a3) v u j = (false, M1) := e4
      rw [e4] at h
      exact ⟨fun _ => ⟨rfl, rfl, h⟩, fun e => absurd rfl e⟩
theorem m_read {x t k w : Int32} (hw : wf (M 13)) (h1 : ¬ M 9 0 = 0 → P (rI (nI 0) (mw M 9 4 (nI 1)))) (h2 : M 9 0 = 0 → (isB (M 13) x t k && inR w 4) = false → P (rI (nI 0) (mw M 9 4 (nI 2))))
    (h3 : ∀ v s u j i, M 9 0 = 0 → (isB (M 13) x t k && inR w 4) = true → v < 6 → x = nI v → s < 4 → M 13 (2 + v) = nI s → u < 2 → sidI s t = nI u → j < 64 → k = nI j → i < 4 → w = nI i → P (rI (M 10 (pl u v j + i)) (mw M 9 4 (nI 0)))) : kC (d + 3) km_read [.ref 9, .int x, .int t, .int k, .int w] M P := by
  refine kC_of 60 (by decide) (Nat.le_of_ble_eq_true rfl) ?_
  refine m_ask hw (fun e => ?_) (fun e e2 => ?_) (fun e e2 => ?_)
  · exact ⟨fun e3 => absurd e3 (show ¬ nI 1 ≤ 0 by decide), fun _ => ⟨rfl, h1 e⟩⟩
  · exact ⟨fun e3 => absurd e3 (show ¬ nI 2 ≤ 0 by decide), fun _ => ⟨rfl, h2 e e2⟩⟩
  · refine ⟨fun _ => ?_, fun e3 => absurd (show nI 0 ≤ 0 by decide) e3⟩
    have e99 := e2
    rw [Bool.and_eq_true] at e2
    obtain ⟨e2, e3⟩ := e2
    obtain ⟨v, s, u, j, hv, rfl, hs, es, hu, eu, hj, rfl, h0⟩ := wf_vol hw e2
    obtain ⟨i, hi, rfl⟩ := inR_t (by decide) e3
    have h := h3 v s u j i e e99 hv rfl hs es hu eu hj rfl hi rfl
    have hp := pl_lt hu hv hj
    refine m_sideOf hv hs es ?_
    rw [eu]
    refine m_place ?_
    exact ⟨pl u v j + i, nI_add _ _, by omega, rfl, h⟩
end MC
