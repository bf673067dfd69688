/-! the reference's methods: the start -/
section MG
variable {d : Nat} {M : kMem} {P : kRes → Prop}
theorem mnd_F (hw : wf (M 13)) : mnF (M 13) (mwn 9 spM 4 M) = mnd 9 spM M := by
  by_cases e : M 13 20 = -1
  · have a : ∀ i, i < 4 → M 13 (20 + i) = -1 := fun i hi => Classical.byContradiction (fun z => wf_w0 hw hi z e)
    have a0 : M 13 20 = -1 := a 0 (by decide)
    have a1 : M 13 21 = -1 := a 1 (by decide)
    have a2 : M 13 22 = -1 := a 2 (by decide)
    have a3 : M 13 23 = -1 := a 3 (by decide)
    have e1 : mwn 9 spM 4 M = (true, M) := by simp [mwn, a0, a1, a2, a3]
    have e2 : wnd (M 13) [] 4 = M 13 := by
      funext k
      unfold wnd
      by_cases hk : 20 ≤ k ∧ k < 20 + 4
      · rw [if_pos hk]
        have := a (k - 20) (by omega)
        rw [show 20 + (k - 20) = k by omega] at this
        rw [this]
        rfl
      · rw [if_neg hk]
    rw [e1]
    show (if M 13 20 = -1 then (true, va_up M 13 (wnd (M 13) [] 4)) else _) = (if M 13 20 = -1 then (true, M) else _)
    rw [if_pos e, if_pos e, e2, up_id]
  · show _ = (if M 13 20 = -1 then (true, M) else _)
    rw [if_neg e]
    rcases hx : mwn 9 spM 4 M with ⟨ok, M1⟩
    cases ok
    · rfl
    · show (if M 13 20 = -1 then _ else nx 9 spM (va_up M1 13 (wnd (M1 13) [] 4))) = _
      rw [if_neg e]
theorem m_goOn (hw : ∀ M1, tnh 9 spM M = (true, M1) → wf (M1 13)) (h : P (kbr (srt 9 spM M))) : kC (d + 3) km_goOn [.ref 9] M P := by
  have fin : ∀ {b : Nat} {z2 : Int32} (M1 : kMem), tnh 9 spM M = (true, M1) → kJ (d + 3) km_goOn P 88 [(0, .ref 9), (1, .ref b), (2, .int z2), (3, .int (nI 0)), (4, .int (nI 20))] [] M1 := by
    intro b z2 M1 e
    unfold srt at h
    rw [e] at h
    have h : P (kbr (mnd 9 spM M1)) := h
    rw [← mnd_F (hw M1 e)] at h
    exact m_mend_loop (L := M1 13) (hw M1 e) 4 0 _ _ M1 rfl rfl (by rw [decide_eq_false (fun z => absurd z.1 (by decide))]; rfl) rfl h
  have bad : ∀ M1, tnh 9 spM M = (false, M1) → P (kbr (false, M1)) := by
    intro M1 e
    unfold srt at h
    rw [e] at h
    exact h
  unfold tnh at fin bad
  refine kC_L [88] 80 (by decide) (Nat.le_of_ble_eq_true rfl) ?_
  refine ⟨0, rfl, by decide, 0, rfl, by decide, fun e => ?_, fun e => ?_⟩
  · have e : M 12 0 ≤ M 11 0 := e
    refine ⟨0, rfl, by decide, 0, rfl, by decide, fun e2 => ?_, fun e2 => ?_⟩
    · have e2 : ¬ M 11 0 = M 12 0 := e2
      have e9 : tnh 9 spM M = wh 9 spM (va_up M 13 (va_cpy (M 11) (M 13) 0 0 24)) 1 := by
        unfold tnh
        rw [if_pos e, if_neg e2]
      refine m_copy rfl rfl (by decide) ?_
      refine ⟨fun e => absurd rfl e, fun _ => ?_⟩
      refine m_writeHeader (t := 1) (by decide) ?_
      refine bgo (fun M1 e4 => ?_) (fun M1 e4 => ?_)
      · exact ⟨fun _ => fin M1 (e9.trans e4), fun e => absurd e (by decide)⟩
      · exact ⟨fun e => absurd rfl e, fun _ => ⟨rfl, bad M1 (e9.trans e4)⟩⟩
    · have e2 : M 11 0 = M 12 0 := e2
      have e9 : tnh 9 spM M = (true, va_up M 13 (va_cpy (M 11) (M 13) 0 0 24)) := by
        unfold tnh
        rw [if_pos e, if_pos e2]
      refine m_copy rfl rfl (by decide) ?_
      exact ⟨fun _ => fin _ e9, fun e => absurd e (by decide)⟩
  · have e : ¬ M 12 0 ≤ M 11 0 := e
    refine ⟨0, rfl, by decide, 0, rfl, by decide, fun e2 => ?_, fun e2 => ?_⟩
    · have e9 : tnh 9 spM M = wh 9 spM (va_up M 13 (va_cpy (M 12) (M 13) 0 0 24)) 0 := by
        unfold tnh
        rw [if_neg e]
      refine m_copy rfl rfl (by decide) ?_
      refine ⟨fun e => absurd rfl e, fun _ => ?_⟩
      refine m_writeHeader (t := 0) (by decide) ?_
      refine bgo (fun M1 e4 => ?_) (fun M1 e4 => ?_)
      · exact ⟨fun _ => fin M1 (e9.trans e4), fun e => absurd e (by decide)⟩
      · exact ⟨fun e => absurd rfl e, fun _ => ⟨rfl, bad M1 (e9.trans e4)⟩⟩
    · have e2 : M 11 0 = M 12 0 := e2
      exact absurd (by rw [e2]; exact Int32.le_refl _) e
theorem m_start (hw : ∀ M1, tnh 9 spM (mw (mw (mw M 9 4 (nI 0)) 9 0 (nI 0)) 9 3 (nI 0)) = (true, M1) → wf (M1 13)) (h : P ((fun q : Bool × kMem => mri q (q.2 13 1)) (srt 9 spM (mw (mw (mw M 9 4 (nI 0)) 9 0 (nI 0)) 9 3 (nI 0))))) : kC (d + 4) km_start [.ref 9] M P := by
  refine kC_of 40 (by decide) (Nat.le_of_ble_eq_true rfl) ?_
  refine ⟨rfl, rfl, rfl, rfl, rfl, rfl, ?_⟩
  refine m_goOn (M := mw (mw (mw M 9 4 (nI 0)) 9 0 (nI 0)) 9 3 (nI 0)) hw ?_
  refine bgo (fun M1 e4 => ?_) (fun M1 e4 => ?_)
  · rw [e4] at h
    exact ⟨fun e => absurd e (by decide), fun _ => ⟨1, rfl, by decide, rfl, h⟩⟩
  · rw [e4] at h
    exact ⟨fun _ => m_fail ⟨rfl, h⟩, fun e => absurd rfl e⟩
end MG
