/-! a call of the system, and behind it the same call of the reference: the rest -/
section OPT
variable {d dm : Nat} {M : kMem}
theorem op_step {x : Int32} (r : R M M) : kC (d + 6) kc_step [.ref 0, .int x] M (pI cdSBU (dm + 5) km_step [.ref 9, .int x]) := by
  refine c_stepF r.hh.wfh (fun e => ?_) (fun e e2 => ?_) (fun v s e ev hv ex hs es => ?_) (fun v s e ev hv ex hs hs2 es => ?_)
  · exact pI_x rfl (m_step r.hh.wfg (fun _ => ⟨_, _, rfl, rfl, R_thr2 _ r⟩) (fun e2 => absurd e2 (R_off r e)) (fun _ _ e2 => absurd e2 (R_off r e)) (fun _ _ e2 => absurd e2 (R_off r e)))
  · have ro := R_on r e
    have e3 : isV (M 13) x = false := by rw [← r.hh.vv]; exact e2
    exact pI_x rfl (m_step r.hh.wfg (fun e9 => absurd ro.off e9) (fun _ _ => ⟨_, _, rfl, rfl, R_thr2 _ r⟩) (fun _ _ _ q => absurd (e3.symm.trans q) (by decide)) (fun _ _ _ q => absurd (e3.symm.trans q) (by decide)))
  · have ro := R_on r e
    subst ex
    have e3 : isV (M 13) (nI v) = true := by rw [← r.hh.vv]; exact ev
    refine pI_x rfl (m_step r.hh.wfg (fun e9 => absurd ro.off e9) (fun _ q => absurd (e3.symm.trans q) (by decide)) (fun _ _ _ _ _ _ _ _ => ⟨_, _, rfl, rfl, R_thr2 _ r⟩) (fun v' s' _ _ hv' ex' hs' hs2' es' => ?_))
    have q1 : v = v' := nI_inj (by omega) (by omega) ex'
    subst q1
    have q2 : s = s' := nI_inj (by omega) (by omega) (es.symm.trans ((r.stt hv ev).trans es'))
    omega
  · have ro := R_on r e
    subst ex
    have fr : ∀ q, stp 0 spC M v (s - 2) = q → Fr 0 M q.2 := fun q hq => by
      rw [← hq]
      exact Fr_stp Fr_spC _ _ _
    have go : ∀ M1 : kMem, Fr 0 M M1 → RB (stp 0 spC M v (s - 2)) (stp 9 spM (mw M1 9 4 (nI 0)) v (s - 2)) := fun M1 f1 => R_stp ⟨R_thr _ (R_fr0 r f1), ro.2⟩ hv ev _
    have fr9 : ∀ M1 : kMem, Fr 9 (mw M1 9 4 (nI 0)) (stp 9 spM (mw M1 9 4 (nI 0)) v (s - 2)).2 := fun M1 => Fr_stp Fr_spM _ _ _
    have run : ∀ (M1 : kMem) (P : kRes → Prop), Fr 0 M M1 → P ((fun q : Bool × kMem => mri q (nI (cnt (marks (q.2 13) v)))) (stp 9 spM (mw M1 9 4 (nI 0)) v (s - 2))) → kC (dm + 5) km_step [.ref 9, .int (nI v)] M1 P := by
      intro M1 P f1 h
      have r1 := R_fr0 r f1
      have e3 : isV (M1 13) (nI v) = true := by rw [← r1.hh.vv]; exact ev
      refine m_step r1.hh.wfg (fun e9 => absurd (R_on r1 e).off e9) (fun _ q => absurd (e3.symm.trans q) (by decide)) (fun v' s' _ _ hv' ex' hs' es' => ?_) (fun v' s' _ _ hv' ex' hs' hs2' es' => ?_)
      · have q1 : v = v' := nI_inj (by omega) (by omega) ex'
        subst q1
        have q2 : s = s' := nI_inj (by omega) (by omega) (es.symm.trans ((r1.stt hv ev).trans es'))
        omega
      · have q1 : v = v' := nI_inj (by omega) (by omega) ex'
        subst q1
        have q2 : s = s' := nI_inj (by omega) (by omega) (es.symm.trans ((r1.stt hv ev).trans es'))
        subst q2
        exact h
    refine pI_thi rfl (fun M1 hq => ?_) (fun M1 hq => ?_)
    · have f1 := fr _ hq
      have rb := go M1 f1
      have t1 : M1 4 = upd (sth (M 4) v) 0 (sth (M 4) v 0 + nI 1) := stp_true 0 spC spC_keep hq
      rw [hq] at rb
      refine run M1 _ f1 (mri_T rb (fr9 M1) ?_)
      rw [hq]
      obtain ⟨-, r2, -⟩ := rb
      have r2 : R M1 (stp 9 spM (mw M1 9 4 (nI 0)) v (s - 2)).2 := r2
      generalize (stp 9 spM (mw M1 9 4 (nI 0)) v (s - 2)).2 = N1 at r2 ⊢
      obtain ⟨n, rn, w⟩ := r2.hh
      have hvn : v < n := by
        refine w.lt hv ?_
        rw [t1]
        unfold isV
        rw [pk_un (by omega), sth_1]
        exact ev
      have em : marks (N1 13) v = M1 4 (8 + v) ||| M1 4 (14 + v) := by
        unfold marks
        rw [rn.m0 w.1 hvn, rn.m1 w.1 hvn]
      obtain ⟨-, l1, l2, -⟩ := w.2.2.1 v hvn
      obtain ⟨a, ha, ea⟩ := lo8_or l1 l2
      show nI (cnt (marks (N1 13) v)) = bcn (M1 4 (8 + v) ||| M1 4 (14 + v))
      rw [em, ea]
      exact (cnt_fact a ha).2.2.1.symm
    · have f1 := fr _ hq
      have rb := go M1 f1
      rw [hq] at rb
      exact run M1 _ f1 (mri_F rb (fr9 M1))
theorem op_run {x : Int32} (r : R M M) : kC (d + 6) kc_run [.ref 0, .int x] M (pI cdSBU (dm + 5) km_run [.ref 9, .int x]) := by
  have hst9 : ∀ v s, v < 6 → s < 4 → 2 ≤ s → ∀ M M1 : kMem, M 13 (2 + v) = nI s → lo8 (M 13 (8 + v)) → lo8 (M 13 (14 + v)) → stp 9 spM M v (s - 2) = (true, M1) → M1 13 (2 + v) = nI 0 ∨ (M1 13 (2 + v) = nI s ∧ lo8 (M1 13 (8 + v)) ∧ lo8 (M1 13 (14 + v)) ∧ 1 ≤ cnt (marks (M1 13) v) ∧ cnt (marks (M1 13) v) < cnt (marks (M 13) v)) := fun v s hv _ _ M M1 e1 e2 e3 e4 => stp_less 9 spM spM_keep hv e1 e2 e3 e4
  refine c_run r.hh.wfh (fun e => ?_) (fun e e2 => ?_) (fun v s e ev hv ex hs es => ?_) (fun v s _ _ _ M M1 es e => stp_state es e) (fun v s e ev hv ex hs hs2 es => ?_)
  · exact pI_x rfl (m_run r.hh.wfg (fun _ => ⟨_, _, rfl, rfl, R_thr2 _ r⟩) (fun e2 => absurd e2 (R_off r e)) (fun _ _ e2 => absurd e2 (R_off r e)) hst9 (fun _ _ e2 => absurd e2 (R_off r e)))
  · have ro := R_on r e
    have e3 : isV (M 13) x = false := by rw [← r.hh.vv]; exact e2
    exact pI_x rfl (m_run r.hh.wfg (fun e9 => absurd ro.off e9) (fun _ _ => ⟨_, _, rfl, rfl, R_thr2 _ r⟩) (fun _ _ _ q => absurd (e3.symm.trans q) (by decide)) hst9 (fun _ _ _ q => absurd (e3.symm.trans q) (by decide)))
  · have ro := R_on r e
    subst ex
    have e3 : isV (M 13) (nI v) = true := by rw [← r.hh.vv]; exact ev
    refine pI_x rfl (m_run r.hh.wfg (fun e9 => absurd ro.off e9) (fun _ q => absurd (e3.symm.trans q) (by decide)) (fun _ _ _ _ _ _ _ _ => ⟨_, _, rfl, rfl, R_thr2 _ r⟩) hst9 (fun v' s' _ _ hv' ex' hs' hs2' es' => ?_))
    have q1 : v = v' := nI_inj (by omega) (by omega) ex'
    subst q1
    have q2 : s = s' := nI_inj (by omega) (by omega) (es.symm.trans ((r.stt hv ev).trans es'))
    omega
  · have ro := R_on r e
    subst ex
    have run : ∀ (M1 : kMem) (P : kRes → Prop), Fr 0 M M1 → P ((fun q : (Bool × Nat) × kMem => mri (q.1.1, q.2) (nI q.1.2)) (rnn 9 spM v (s - 2) 8 0 (mw M1 9 4 (nI 0)))) → kC (dm + 5) km_run [.ref 9, .int (nI v)] M1 P := by
      intro M1 P f1 h
      have r1 := R_fr0 r f1
      have e3 : isV (M1 13) (nI v) = true := by rw [← r1.hh.vv]; exact ev
      refine m_run r1.hh.wfg (fun e9 => absurd (R_on r1 e).off e9) (fun _ q => absurd (e3.symm.trans q) (by decide)) (fun v' s' _ _ hv' ex' hs' es' => ?_) hst9 (fun v' s' _ _ hv' ex' hs' hs2' es' => ?_)
      · have q1 : v = v' := nI_inj (by omega) (by omega) ex'
        subst q1
        have q2 : s = s' := nI_inj (by omega) (by omega) (es.symm.trans ((r1.stt hv ev).trans es'))
        omega
      · have q1 : v = v' := nI_inj (by omega) (by omega) ex'
        subst q1
        have q2 : s = s' := nI_inj (by omega) (by omega) (es.symm.trans ((r1.stt hv ev).trans es'))
        subst q2
        exact h
    have fr : Fr 0 M (rnn 0 spC v (s - 2) 8 0 M).2 := Fr_rnn Fr_spC _ _ _ _ _
    have go : ∀ M1 : kMem, Fr 0 M M1 → _ := fun M1 f1 => R_rnn hv (s - 2) 8 0 (M := M) (N := mw M1 9 4 (nI 0)) ⟨R_thr _ (R_fr0 r f1), ro.2⟩ ev
    have fr9 : ∀ M1 : kMem, Fr 9 (mw M1 9 4 (nI 0)) (rnn 9 spM v (s - 2) 8 0 (mw M1 9 4 (nI 0))).2 := fun M1 => Fr_rnn Fr_spM _ _ _ _ _
    show pI cdSBU (dm + 5) km_run [.ref 9, .int (nI v)] (thi ((rnn 0 spC v (s - 2) 8 0 M).1.1, (rnn 0 spC v (s - 2) 8 0 M).2) (nI (rnn 0 spC v (s - 2) 8 0 M).1.2))
    generalize rnn 0 spC v (s - 2) 8 0 M = q at fr go ⊢
    obtain ⟨⟨ok, c⟩, M1⟩ := q
    have f1 : Fr 0 M M1 := fr
    obtain ⟨g1, g2⟩ := go M1 f1
    have f9 := fr9 M1
    have run := run M1
    generalize rnn 9 spM v (s - 2) 8 0 (mw M1 9 4 (nI 0)) = q' at g1 g2 f9 run
    obtain ⟨⟨ok', c'⟩, N1⟩ := q'
    have g1 : (ok, c) = (ok', c') := g1
    obtain ⟨rfl, rfl⟩ := Prod.mk.inj g1
    have g2 : R M1 N1 := g2
    have f9 : Fr 9 (mw M1 9 4 (nI 0)) N1 := f9
    cases ok
    · exact pI_x rfl (run _ f1 ⟨_, _, rfl, rfl, R_thr2 _ (R_ft g2 (Ft_thr f9))⟩)
    · exact pI_i (run _ f1 ⟨_, _, rfl, f9.2, rfl, R_ft g2 (Ft_thr f9)⟩)
theorem op_state {x : Int32} (r : R M M) : kC (d + 2) kc_state [.ref 0, .int x] M (pQ (dm + 1) km_state [.ref 9, .int x]) := by
  refine c_state r.hh.wfh (fun e => ?_) (fun v e ev hv ex => ?_)
  · refine pQ_i (m_state r.hh.wfg (fun _ => ⟨_, rfl, R_thr2 _ r⟩) (fun v e9 ev hv ex => ?_))
    rcases e with z | z
    · exact absurd e9 (R_off r z)
    · rw [← r.hh.vv, z] at ev
      exact Bool.noConfusion ev
  · have ro := R_on r e
    subst ex
    refine pQ_i (m_state r.hh.wfg (fun z => ?_) (fun v' e9 ev' hv' ex' => ?_))
    · rcases z with z | z
      · exact absurd ro.off z
      · rw [← r.hh.vv, ev] at z
        exact Bool.noConfusion z
    · have q1 : v = v' := nI_inj (by omega) (by omega) ex'
      subst q1
      exact ⟨_, by rw [r.stt hv ev], R_thr2 _ r⟩
theorem op_marked {x t : Int32} (r : R M M) : kC (d + 2) kc_marked [.ref 0, .int x, .int t] M (pQ (dm + 1) km_marked [.ref 9, .int x, .int t]) := by
  refine c_marked r.hh.wfh (fun e => ?_) (fun v u e ev hv ex hu et => ?_)
  · refine pQ_i (m_marked r.hh.wfg (fun _ => ⟨_, rfl, R_thr2 _ r⟩) (fun v u e9 ev hv ex hu et => ?_))
    rcases e with z | z | z
    · exact absurd e9 (R_off r z)
    · rw [← r.hh.vv, z] at ev
      exact Bool.noConfusion ev
    · rw [et, inR_nI hu (by decide)] at z
      exact Bool.noConfusion z
  · have ro := R_on r e
    subst ex
    subst et
    refine pQ_i (m_marked r.hh.wfg (fun z => ?_) (fun v' u' e9 ev' hv' ex' hu' et' => ?_))
    · rcases z with z | z | z
      · exact absurd ro.off z
      · rw [← r.hh.vv, ev] at z
        exact Bool.noConfusion z
      · rw [inR_nI hu (by decide)] at z
        exact Bool.noConfusion z
    · have q1 : v = v' := nI_inj (by omega) (by omega) ex'
      subst q1
      have q2 : u = u' := nI_inj (by omega) (by omega) et'
      subst q2
      obtain ⟨n, rn, w⟩ := r.hh
      exact ⟨_, by rw [rn.mt w.1 (w.lt hv ev) hu], R_thr2 _ r⟩
theorem op_windowed {x : Int32} (r : R M M) : kC (d + 1) kc_windowed [.ref 0, .int x] M (pQ dm km_windowed [.ref 9, .int x]) := by
  refine c_windowed (fun e => ?_) (fun i e hi ex => ?_)
  · refine pQ_i (m_windowed (fun _ => ⟨_, rfl, R_thr2 _ r⟩) (fun i e9 hi ex => ?_))
    rcases e with z | z
    · exact absurd e9 (R_off r z)
    · rw [ex, inR_nI hi (by decide)] at z
      exact Bool.noConfusion z
  · have ro := R_on r e
    subst ex
    refine pQ_i (m_windowed (fun z => ?_) (fun i' e9 hi' ex' => ?_))
    · rcases z with z | z
      · exact absurd ro.off z
      · rw [inR_nI hi (by decide)] at z
        exact Bool.noConfusion z
    · have q1 : i = i' := nI_inj (by omega) (by omega) ex'
      subst q1
      obtain ⟨n, rn, w⟩ := r.hh
      exact ⟨_, by rw [rn.wi hi], R_thr2 _ r⟩
theorem op_volumes (r : R M M) : kC (d + 1) kc_volumes [.ref 0] M (pQ dm km_volumes [.ref 9]) := by
  refine c_volumes (fun e => ?_) (fun e => ?_)
  · exact pQ_i (m_volumes (fun _ => ⟨_, rfl, R_thr2 _ r⟩) (fun e9 => absurd e9 (R_off r e)))
  · have ro := R_on r e
    obtain ⟨n, rn, w⟩ := r.hh
    exact pQ_i (m_volumes (fun z => absurd ro.off z) (fun _ => ⟨_, by rw [rn.ct], R_thr2 _ r⟩))
theorem op_copied (r : R M M) : kC d kc_copied [.ref 0] M (pQ dm km_copied [.ref 9]) := c_copied (pQ_i (m_copied ⟨_, by rw [r.2.2.2.1], R_thr2 _ r⟩))
theorem op_writes (r : R M M) : kC d kc_writes [.ref 0] M (pQ dm km_writes [.ref 9]) := c_writes (pQ_i (m_writes ⟨_, by rw [r.2.2.1], R_thr2 _ r⟩))
theorem op_power (r : R M M) : kC d kc_power [.ref 0] M (pQ dm km_power [.ref 9]) := by
  refine c_power (fun e => ?_) (fun e => ?_)
  · exact pQ_i (m_power (fun e9 => absurd e9 (R_off r e)) (fun _ => ⟨_, rfl, R_thr2 _ r⟩))
  · exact pQ_i (m_power (fun _ => ⟨_, rfl, R_thr2 _ r⟩) (fun z => absurd (R_on r e).off z))
theorem op_differing {x : Int32} (r : R M M) : kC (d + 2) kc_differing [.ref 0, .int x] M (pI cdB (dm + 2) km_differing [.ref 9, .int x]) := by
  refine c_differing (fun e => ?_) (fun v hv ex => ?_)
  · refine pI_x rfl (m_differing (fun _ => ⟨_, _, rfl, rfl, R_thr2 _ r⟩) (fun v hv ex => ?_))
    rw [ex, inR_nI hv (by decide)] at e
    exact Bool.noConfusion e
  · subst ex
    refine pI_i (m_differing (fun z => ?_) (fun v' hv' ex' => ?_))
    · rw [inR_nI hv (by decide)] at z
      exact Bool.noConfusion z
    · have q1 : v = v' := nI_inj (by omega) (by omega) ex'
      subst q1
      exact ⟨_, _, rfl, rfl, by rw [r.ww], R_thr2 _ r⟩
theorem op_raw {x t k w : Int32} (r : R M M) : kC (d + 2) kc_raw [.ref 0, .int x, .int t, .int k, .int w] M (pI cdB (dm + 1) km_raw [.ref 9, .int x, .int t, .int k, .int w]) := by
  refine c_raw (fun e => ?_) (fun v u j i hv ex hu et hj ek hi ew => ?_)
  · refine pI_x rfl (m_raw (fun _ => ⟨_, _, rfl, rfl, R_thr2 _ r⟩) (fun v u j i hv ex hu et hj ek hi ew => ?_))
    rw [ex, et, ek, ew, inR_nI hv (by decide), inR_nI hu (by decide), inR_nI hj (by decide), inR_nI hi (by decide)] at e
    exact Bool.noConfusion e
  · subst ex; subst et; subst ek; subst ew
    refine pI_i (m_raw (fun z => ?_) (fun v' u' j' i' hv' ex' hu' et' hj' ek' hi' ew' => ?_))
    · rw [inR_nI hv (by decide), inR_nI hu (by decide), inR_nI hj (by decide), inR_nI hi (by decide)] at z
      exact Bool.noConfusion z
    · have q1 : v = v' := nI_inj (by omega) (by omega) ex'
      subst q1
      have q2 : u = u' := nI_inj (by omega) (by omega) et'
      subst q2
      have q3 : j = j' := nI_inj (by omega) (by omega) ek'
      subst q3
      have q4 : i = i' := nI_inj (by omega) (by omega) ew'
      subst q4
      exact ⟨_, _, rfl, rfl, by rw [r.ww], R_thr2 _ r⟩
theorem hdv_eq {h g : Nat → Int32} (r : HR h g) {i : Nat} (hi : i < 24) : hdv g i = h i := by
  obtain ⟨n, rn, w⟩ := r
  have hn := w.1
  have e1 : g 1 = nI n := rn.ct.symm.trans w.2.1
  unfold hdv
  rw [e1]
  by_cases k : kab n i
  · have k' := k
    unfold kab at k'
    rw [if_pos ⟨k'.1, k'.2.1, (nI_leI (by omega) (by omega)).mpr k'.2.2⟩]
    exact ((rn i hi).1 k).1.symm
  · rw [if_neg (fun z => k ⟨z.1, z.2.1, (nI_leI (by omega) (by omega)).mp z.2.2⟩)]
    exact ((rn i hi).2 k).symm
theorem op_head {t w : Int32} (r : R M M) : kC (d + 2) kc_head [.ref 0, .int t, .int w] M (pI cdB dm km_head [.ref 9, .int t, .int w]) := by
  have g1 := r.2.2.2.2.2.2.1
  have g2 := r.2.2.2.2.2.2.2.1
  refine c_head (fun e => ?_) (fun i et hi ew => ?_) (fun i et hi ew => ?_)
  · refine pI_x rfl (m_head (fun _ => ⟨_, _, rfl, rfl, R_thr2 _ r⟩) (fun i et hi ew => ?_) (fun i et hi ew => ?_))
    · rw [et, ew, inR_nI (j := 0) (n := 2) (by decide) (by decide), inR_nI hi (by decide)] at e
      exact Bool.noConfusion e
    · rw [et, ew, inR_nI (j := 1) (n := 2) (by decide) (by decide), inR_nI hi (by decide)] at e
      exact Bool.noConfusion e
  · subst et; subst ew
    refine pI_i (m_head (fun z => ?_) (fun i' et' hi' ew' => ?_) (fun i' et' hi' ew' => absurd et' (by decide)))
    · rw [inR_nI (j := 0) (n := 2) (by decide) (by decide), inR_nI hi (by decide)] at z
      exact Bool.noConfusion z
    · have q1 : i = i' := nI_inj (by omega) (by omega) ew'
      subst q1
      exact ⟨_, _, rfl, rfl, hdv_eq g1 hi, R_thr2 _ r⟩
  · subst et; subst ew
    refine pI_i (m_head (fun z => ?_) (fun i' et' hi' ew' => absurd et' (by decide)) (fun i' et' hi' ew' => ?_))
    · rw [inR_nI (j := 1) (n := 2) (by decide) (by decide), inR_nI hi (by decide)] at z
      exact Bool.noConfusion z
    · have q1 : i = i' := nI_inj (by omega) (by omega) ew'
      subst q1
      exact ⟨_, _, rfl, rfl, hdv_eq g2 hi, R_thr2 _ r⟩
theorem op_cutAfter {x : Int32} (r : R M M) : kC d kc_cutAfter [.ref 0, .int x] M (pV cdA dm km_cutAfter [.ref 9, .int x]) := by
  refine c_cutAfter (fun e => ?_) (fun e1 e2 => ?_)
  · refine pV_x rfl (m_cutAfter (fun _ => ⟨_, rfl, rfl, ?_⟩) (fun e1 e2 => (e.elim e1 e2).elim))
    obtain ⟨p, a1, a2, a3, w, f, g1, g2, g3⟩ := r
    exact ⟨p, a1, a2, a3, w, f, g1, g2, g3⟩
  · refine pV_v (m_cutAfter (fun e => (e.elim e1 e2).elim) (fun _ _ => ⟨_, rfl, rfl, ?_⟩))
    obtain ⟨p, a1, a2, a3, w, f, g1, g2, g3⟩ := r
    exact ⟨p, rfl, a2, a3, w, f, g1, g2, g3⟩
theorem op_start (r : R M M) : kC (d + 6) kc_start [.ref 0] M (pI cdS (dm + 4) km_start [.ref 9]) := by
  have ro : ∀ M1 : kMem, Fr 0 M M1 → RO (mw (mw M 0 0 (nI 1)) 0 3 (nI 0)) (mw (mw (mw M1 9 4 (nI 0)) 9 0 (nI 0)) 9 3 (nI 0)) := by
    intro M1 f1
    obtain ⟨p, a1, a2, a3, w, f, g1, g2, g3⟩ := R_fr0 r f1
    exact ⟨⟨Or.inl ⟨rfl, rfl⟩, a1, a2, rfl, w, f, g1, g2, g3⟩, rfl⟩
  have wfs : ∀ {A B A1 : kMem}, RO A B → tnh 0 spC A = (true, A1) → wf (A1 4) := by
    intro A B A1 h e
    have rb := R_tnh h
    rw [e] at rb
    exact rb.2.1.hh.wfh
  have wfs9 : ∀ {A B B1 : kMem}, RO A B → tnh 9 spM B = (true, B1) → wf (B1 13) := by
    intro A B B1 h e
    have rb := R_tnh h
    rw [e] at rb
    exact rb.2.1.hh.wfg
  refine c_start (fun M1 e => wfs (ro M (Fr.refl _ _)) e) ?_
  have fr : Fr 0 M (srt 0 spC (mw (mw M 0 0 (nI 1)) 0 3 (nI 0))).2 := ((Fr_mb (by decide)).trans (Fr_mb (by decide))).trans (Fr_srt Fr_spC _)
  have fr9 : ∀ M1 : kMem, Fr 9 (mw M1 9 4 (nI 0)) (srt 9 spM (mw (mw (mw M1 9 4 (nI 0)) 9 0 (nI 0)) 9 3 (nI 0))).2 := fun M1 => ((Fr_mb (by decide)).trans (Fr_mb (by decide))).trans (Fr_srt Fr_spM _)
  have go : ∀ M1 : kMem, Fr 0 M M1 → RB (srt 0 spC (mw (mw M 0 0 (nI 1)) 0 3 (nI 0))) (srt 9 spM (mw (mw (mw M1 9 4 (nI 0)) 9 0 (nI 0)) 9 3 (nI 0))) := fun M1 f1 => R_srt (ro M1 f1)
  show pI cdS (dm + 4) km_start [.ref 9] (thi (srt 0 spC (mw (mw M 0 0 (nI 1)) 0 3 (nI 0))) ((srt 0 spC (mw (mw M 0 0 (nI 1)) 0 3 (nI 0))).2 4 1))
  refine pI_thi rfl (fun M1 hq => ?_) (fun M1 hq => ?_)
  · rw [hq] at fr
    have f1 : Fr 0 M M1 := fr
    have rb := go M1 f1
    rw [hq] at rb
    refine m_start (fun N1 e => wfs9 (ro M1 f1) e) (mri_T rb (fr9 M1) ?_)
    rw [hq]
    obtain ⟨n, rn, w⟩ := rb.2.1.hh
    exact rn.ct.symm
  · rw [hq] at fr
    have f1 : Fr 0 M M1 := fr
    have rb := go M1 f1
    rw [hq] at rb
    exact m_start (fun N1 e => wfs9 (ro M1 f1) e) (mri_F rb (fr9 M1))
end OPT
