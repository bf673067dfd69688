/-! the wrappers by contract (by wip/tools/genwrap.py) -/
def pX (dm mm : Nat) (as : List Value) : Int32 → kMem → Int64 → Prop := fun k M1 o' => kC dm mm as M1 (fun r' => ∃ y M2, r' = rI y M2 ∧ M2 9 4 = k ∧ (k = nI 0 → o' = y.toInt64) ∧ R M2 M2)
def pXv (dm mm : Nat) (as : List Value) : Int32 → kMem → Int64 → Prop := fun k M1 _ => kC dm mm as M1 (fun r' => ∃ M2, r' = rV M2 ∧ M2 9 4 = k ∧ R M2 M2)
theorem pX_i {dm mm : Nat} {as : List Value} {x : Int32} {M1 : kMem} (h : kC dm mm as M1 (fun r' => ∃ y M2, r' = rI y M2 ∧ M2 9 4 = nI 0 ∧ y = x ∧ R M2 M2)) : pX dm mm as (nI 0) M1 x.toInt64 := kC_imp (fun r ⟨y, M2, h1, h2, h3, h4⟩ => ⟨y, M2, h1, h2, fun _ => by rw [h3], h4⟩) h
theorem pX_x {dm mm kk : Nat} {as : List Value} {o : Int64} {M1 : kMem} (hk : 0 < kk ∧ kk < 4) (h : kC dm mm as M1 (fun r' => ∃ y M2, r' = rI y M2 ∧ M2 9 4 = nI kk ∧ R M2 M2)) : pX dm mm as (nI kk) M1 o := kC_imp (fun r ⟨y, M2, h1, h2, h4⟩ => ⟨y, M2, h1, h2, fun z => absurd ((nI_eq (by omega) (by decide)).mp z) (by omega), h4⟩) h
section XW
variable {dm : Nat} {M : kMem} {o : Int64} {as : List Value} {mm : Nat}
theorem x_makeVolume (h : kC 6 kc_makeVolume [.ref 0] M (pI cdS dm mm as)) : xC 7 ya_makeVolume [.ref 0, .ref 15] M o (pX dm mm as) := by
  have e0 : yHd (yW 0).2.2.2.2.2 (yW 0).2.2.1 (yW 0).2.2.2.1 3 eS = some 12 := by decide +kernel
  refine xC_body (by decide) (Nat.le_of_ble_eq_true rfl) yT_ok0 ?_
  refine ⟨by decide, ?_⟩
  refine kC_imp ?_ h
  intro r hr
  rcases r with ⟨v, M1⟩ | ⟨E, M1⟩
  · rcases v with _ | v
    · exact hr.elim
    · cases v with
      | int x => exact ⟨rfl, ⟨pX_i hr, by decide⟩⟩
      | _ => exact hr.elim
  · obtain ⟨kk, c1, c2⟩ := hr
    unfold cdS at c1
    split at c1
    · rename_i q0
      subst q0
      cases c1
      show (match yHd (yW 0).2.2.2.2.2 (yW 0).2.2.1 (yW 0).2.2.2.1 3 eS with | some h => _ | none => False)
      rw [e0]
      exact ⟨pX_x (by decide) c2, by decide⟩
    · cases c1
theorem x_write {a0 a1 a2 a3 a4 : Int32} (h : kC 6 kc_write [.ref 0, .int a0, .int a1, .int a2, .int a3, .int a4] M (pV cdSB dm mm as)) : xC 7 ya_write [.ref 0, .int a0, .int a1, .int a2, .int a3, .int a4] M o (pXv dm mm as) := by
  have e0 : yHd (yW 1).2.2.2.2.2 (yW 1).2.2.1 (yW 1).2.2.2.1 8 eS = some 16 := by decide +kernel
  have e1 : yHd (yW 1).2.2.2.2.2 (yW 1).2.2.1 (yW 1).2.2.2.1 8 eB = some 20 := by decide +kernel
  refine xC_body (by decide) (Nat.le_of_ble_eq_true rfl) yT_ok1 ?_
  refine ⟨by decide, ?_⟩
  refine kC_imp ?_ h
  intro r hr
  rcases r with ⟨v, M1⟩ | ⟨E, M1⟩
  · cases v with
    | some v => exact hr.elim
    | none => exact ⟨hr, by decide⟩
  · obtain ⟨kk, c1, c2⟩ := hr
    unfold cdSB at c1
    split at c1
    · rename_i q0
      subst q0
      cases c1
      show (match yHd (yW 1).2.2.2.2.2 (yW 1).2.2.1 (yW 1).2.2.2.1 8 eS with | some h => _ | none => False)
      rw [e0]
      exact ⟨c2, by decide⟩
    · skip
      split at c1
      · rename_i q1
        subst q1
        cases c1
        show (match yHd (yW 1).2.2.2.2.2 (yW 1).2.2.1 (yW 1).2.2.2.1 8 eB with | some h => _ | none => False)
        rw [e1]
        exact ⟨c2, by decide⟩
      · cases c1
theorem x_fill {a0 a1 a2 a3 a4 a5 a6 : Int32} (h : kC 6 kc_fill [.ref 0, .int a0, .int a1, .int a2, .int a3, .int a4, .int a5, .int a6] M (pV cdSB dm mm as)) : xC 7 ya_fill [.ref 0, .int a0, .int a1, .int a2, .int a3, .int a4, .int a5, .int a6] M o (pXv dm mm as) := by
  have e0 : yHd (yW 2).2.2.2.2.2 (yW 2).2.2.1 (yW 2).2.2.2.1 12 eS = some 20 := by decide +kernel
  have e1 : yHd (yW 2).2.2.2.2.2 (yW 2).2.2.1 (yW 2).2.2.2.1 12 eB = some 24 := by decide +kernel
  refine xC_body (by decide) (Nat.le_of_ble_eq_true rfl) yT_ok2 ?_
  refine ⟨by decide, ?_⟩
  refine kC_imp ?_ h
  intro r hr
  rcases r with ⟨v, M1⟩ | ⟨E, M1⟩
  · cases v with
    | some v => exact hr.elim
    | none => exact ⟨hr, by decide⟩
  · obtain ⟨kk, c1, c2⟩ := hr
    unfold cdSB at c1
    split at c1
    · rename_i q0
      subst q0
      cases c1
      show (match yHd (yW 2).2.2.2.2.2 (yW 2).2.2.1 (yW 2).2.2.2.1 12 eS with | some h => _ | none => False)
      rw [e0]
      exact ⟨c2, by decide⟩
    · skip
      split at c1
      · rename_i q1
        subst q1
        cases c1
        show (match yHd (yW 2).2.2.2.2.2 (yW 2).2.2.1 (yW 2).2.2.2.1 12 eB with | some h => _ | none => False)
        rw [e1]
        exact ⟨c2, by decide⟩
      · cases c1
theorem x_read {a0 a1 a2 a3 : Int32} (h : kC 6 kc_read [.ref 0, .int a0, .int a1, .int a2, .int a3] M (pI cdSB dm mm as)) : xC 7 ya_read [.ref 0, .int a0, .int a1, .int a2, .int a3, .ref 15] M o (pX dm mm as) := by
  have e0 : yHd (yW 3).2.2.2.2.2 (yW 3).2.2.1 (yW 3).2.2.2.1 9 eS = some 19 := by decide +kernel
  have e1 : yHd (yW 3).2.2.2.2.2 (yW 3).2.2.1 (yW 3).2.2.2.1 9 eB = some 23 := by decide +kernel
  refine xC_body (by decide) (Nat.le_of_ble_eq_true rfl) yT_ok3 ?_
  refine ⟨by decide, ?_⟩
  refine kC_imp ?_ h
  intro r hr
  rcases r with ⟨v, M1⟩ | ⟨E, M1⟩
  · rcases v with _ | v
    · exact hr.elim
    · cases v with
      | int x => exact ⟨rfl, ⟨pX_i hr, by decide⟩⟩
      | _ => exact hr.elim
  · obtain ⟨kk, c1, c2⟩ := hr
    unfold cdSB at c1
    split at c1
    · rename_i q0
      subst q0
      cases c1
      show (match yHd (yW 3).2.2.2.2.2 (yW 3).2.2.1 (yW 3).2.2.2.1 9 eS with | some h => _ | none => False)
      rw [e0]
      exact ⟨pX_x (by decide) c2, by decide⟩
    · skip
      split at c1
      · rename_i q1
        subst q1
        cases c1
        show (match yHd (yW 3).2.2.2.2.2 (yW 3).2.2.1 (yW 3).2.2.2.1 9 eB with | some h => _ | none => False)
        rw [e1]
        exact ⟨pX_x (by decide) c2, by decide⟩
      · cases c1
theorem x_split (h : kC 6 kc_split [.ref 0] M (pI cdS dm mm as)) : xC 7 ya_split [.ref 0, .ref 15] M o (pX dm mm as) := by
  have e0 : yHd (yW 4).2.2.2.2.2 (yW 4).2.2.1 (yW 4).2.2.2.1 3 eS = some 12 := by decide +kernel
  refine xC_body (by decide) (Nat.le_of_ble_eq_true rfl) yT_ok4 ?_
  refine ⟨by decide, ?_⟩
  refine kC_imp ?_ h
  intro r hr
  rcases r with ⟨v, M1⟩ | ⟨E, M1⟩
  · rcases v with _ | v
    · exact hr.elim
    · cases v with
      | int x => exact ⟨rfl, ⟨pX_i hr, by decide⟩⟩
      | _ => exact hr.elim
  · obtain ⟨kk, c1, c2⟩ := hr
    unfold cdS at c1
    split at c1
    · rename_i q0
      subst q0
      cases c1
      show (match yHd (yW 4).2.2.2.2.2 (yW 4).2.2.1 (yW 4).2.2.2.1 3 eS with | some h => _ | none => False)
      rw [e0]
      exact ⟨pX_x (by decide) c2, by decide⟩
    · cases c1
theorem x_rejoin {a0 a1 : Int32} (h : kC 6 kc_rejoin [.ref 0, .int a0, .int a1] M (pV cdSBU dm mm as)) : xC 7 ya_rejoin [.ref 0, .int a0, .int a1] M o (pXv dm mm as) := by
  have e0 : yHd (yW 5).2.2.2.2.2 (yW 5).2.2.1 (yW 5).2.2.2.1 3 eS = some 10 := by decide +kernel
  have e1 : yHd (yW 5).2.2.2.2.2 (yW 5).2.2.1 (yW 5).2.2.2.1 3 eB = some 13 := by decide +kernel
  have e2 : yHd (yW 5).2.2.2.2.2 (yW 5).2.2.1 (yW 5).2.2.2.1 3 eU = some 16 := by decide +kernel
  refine xC_body (by decide) (Nat.le_of_ble_eq_true rfl) yT_ok5 ?_
  refine ⟨by decide, ?_⟩
  refine kC_imp ?_ h
  intro r hr
  rcases r with ⟨v, M1⟩ | ⟨E, M1⟩
  · cases v with
    | some v => exact hr.elim
    | none => exact ⟨hr, by decide⟩
  · obtain ⟨kk, c1, c2⟩ := hr
    unfold cdSBU at c1
    split at c1
    · rename_i q0
      subst q0
      cases c1
      show (match yHd (yW 5).2.2.2.2.2 (yW 5).2.2.1 (yW 5).2.2.2.1 3 eS with | some h => _ | none => False)
      rw [e0]
      exact ⟨c2, by decide⟩
    · skip
      split at c1
      · rename_i q1
        subst q1
        cases c1
        show (match yHd (yW 5).2.2.2.2.2 (yW 5).2.2.1 (yW 5).2.2.2.1 3 eB with | some h => _ | none => False)
        rw [e1]
        exact ⟨c2, by decide⟩
      · skip
        split at c1
        · rename_i q2
          subst q2
          cases c1
          show (match yHd (yW 5).2.2.2.2.2 (yW 5).2.2.1 (yW 5).2.2.2.1 3 eU with | some h => _ | none => False)
          rw [e2]
          exact ⟨c2, by decide⟩
        · cases c1
theorem x_step {a0 : Int32} (h : kC 6 kc_step [.ref 0, .int a0] M (pI cdSBU dm mm as)) : xC 7 ya_step [.ref 0, .int a0, .ref 15] M o (pX dm mm as) := by
  have e0 : yHd (yW 6).2.2.2.2.2 (yW 6).2.2.1 (yW 6).2.2.2.1 4 eS = some 13 := by decide +kernel
  have e1 : yHd (yW 6).2.2.2.2.2 (yW 6).2.2.1 (yW 6).2.2.2.1 4 eB = some 16 := by decide +kernel
  have e2 : yHd (yW 6).2.2.2.2.2 (yW 6).2.2.1 (yW 6).2.2.2.1 4 eU = some 19 := by decide +kernel
  refine xC_body (by decide) (Nat.le_of_ble_eq_true rfl) yT_ok6 ?_
  refine ⟨by decide, ?_⟩
  refine kC_imp ?_ h
  intro r hr
  rcases r with ⟨v, M1⟩ | ⟨E, M1⟩
  · rcases v with _ | v
    · exact hr.elim
    · cases v with
      | int x => exact ⟨rfl, ⟨pX_i hr, by decide⟩⟩
      | _ => exact hr.elim
  · obtain ⟨kk, c1, c2⟩ := hr
    unfold cdSBU at c1
    split at c1
    · rename_i q0
      subst q0
      cases c1
      show (match yHd (yW 6).2.2.2.2.2 (yW 6).2.2.1 (yW 6).2.2.2.1 4 eS with | some h => _ | none => False)
      rw [e0]
      exact ⟨pX_x (by decide) c2, by decide⟩
    · skip
      split at c1
      · rename_i q1
        subst q1
        cases c1
        show (match yHd (yW 6).2.2.2.2.2 (yW 6).2.2.1 (yW 6).2.2.2.1 4 eB with | some h => _ | none => False)
        rw [e1]
        exact ⟨pX_x (by decide) c2, by decide⟩
      · skip
        split at c1
        · rename_i q2
          subst q2
          cases c1
          show (match yHd (yW 6).2.2.2.2.2 (yW 6).2.2.1 (yW 6).2.2.2.1 4 eU with | some h => _ | none => False)
          rw [e2]
          exact ⟨pX_x (by decide) c2, by decide⟩
        · cases c1
theorem x_run {a0 : Int32} (h : kC 6 kc_run [.ref 0, .int a0] M (pI cdSBU dm mm as)) : xC 7 ya_run [.ref 0, .int a0, .ref 15] M o (pX dm mm as) := by
  have e0 : yHd (yW 7).2.2.2.2.2 (yW 7).2.2.1 (yW 7).2.2.2.1 4 eS = some 13 := by decide +kernel
  have e1 : yHd (yW 7).2.2.2.2.2 (yW 7).2.2.1 (yW 7).2.2.2.1 4 eB = some 16 := by decide +kernel
  have e2 : yHd (yW 7).2.2.2.2.2 (yW 7).2.2.1 (yW 7).2.2.2.1 4 eU = some 19 := by decide +kernel
  refine xC_body (by decide) (Nat.le_of_ble_eq_true rfl) yT_ok7 ?_
  refine ⟨by decide, ?_⟩
  refine kC_imp ?_ h
  intro r hr
  rcases r with ⟨v, M1⟩ | ⟨E, M1⟩
  · rcases v with _ | v
    · exact hr.elim
    · cases v with
      | int x => exact ⟨rfl, ⟨pX_i hr, by decide⟩⟩
      | _ => exact hr.elim
  · obtain ⟨kk, c1, c2⟩ := hr
    unfold cdSBU at c1
    split at c1
    · rename_i q0
      subst q0
      cases c1
      show (match yHd (yW 7).2.2.2.2.2 (yW 7).2.2.1 (yW 7).2.2.2.1 4 eS with | some h => _ | none => False)
      rw [e0]
      exact ⟨pX_x (by decide) c2, by decide⟩
    · skip
      split at c1
      · rename_i q1
        subst q1
        cases c1
        show (match yHd (yW 7).2.2.2.2.2 (yW 7).2.2.1 (yW 7).2.2.2.1 4 eB with | some h => _ | none => False)
        rw [e1]
        exact ⟨pX_x (by decide) c2, by decide⟩
      · skip
        split at c1
        · rename_i q2
          subst q2
          cases c1
          show (match yHd (yW 7).2.2.2.2.2 (yW 7).2.2.1 (yW 7).2.2.2.1 4 eU with | some h => _ | none => False)
          rw [e2]
          exact ⟨pX_x (by decide) c2, by decide⟩
        · cases c1
theorem x_differing {a0 : Int32} (h : kC 6 kc_differing [.ref 0, .int a0] M (pI cdB dm mm as)) : xC 7 ya_differing [.ref 0, .int a0, .ref 15] M o (pX dm mm as) := by
  have e0 : yHd (yW 8).2.2.2.2.2 (yW 8).2.2.1 (yW 8).2.2.2.1 4 eB = some 13 := by decide +kernel
  refine xC_body (by decide) (Nat.le_of_ble_eq_true rfl) yT_ok8 ?_
  refine ⟨by decide, ?_⟩
  refine kC_imp ?_ h
  intro r hr
  rcases r with ⟨v, M1⟩ | ⟨E, M1⟩
  · rcases v with _ | v
    · exact hr.elim
    · cases v with
      | int x => exact ⟨rfl, ⟨pX_i hr, by decide⟩⟩
      | _ => exact hr.elim
  · obtain ⟨kk, c1, c2⟩ := hr
    unfold cdB at c1
    split at c1
    · rename_i q0
      subst q0
      cases c1
      show (match yHd (yW 8).2.2.2.2.2 (yW 8).2.2.1 (yW 8).2.2.2.1 4 eB with | some h => _ | none => False)
      rw [e0]
      exact ⟨pX_x (by decide) c2, by decide⟩
    · cases c1
theorem x_raw {a0 a1 a2 a3 : Int32} (h : kC 6 kc_raw [.ref 0, .int a0, .int a1, .int a2, .int a3] M (pI cdB dm mm as)) : xC 7 ya_raw [.ref 0, .int a0, .int a1, .int a2, .int a3, .ref 15] M o (pX dm mm as) := by
  have e0 : yHd (yW 9).2.2.2.2.2 (yW 9).2.2.1 (yW 9).2.2.2.1 9 eB = some 19 := by decide +kernel
  refine xC_body (by decide) (Nat.le_of_ble_eq_true rfl) yT_ok9 ?_
  refine ⟨by decide, ?_⟩
  refine kC_imp ?_ h
  intro r hr
  rcases r with ⟨v, M1⟩ | ⟨E, M1⟩
  · rcases v with _ | v
    · exact hr.elim
    · cases v with
      | int x => exact ⟨rfl, ⟨pX_i hr, by decide⟩⟩
      | _ => exact hr.elim
  · obtain ⟨kk, c1, c2⟩ := hr
    unfold cdB at c1
    split at c1
    · rename_i q0
      subst q0
      cases c1
      show (match yHd (yW 9).2.2.2.2.2 (yW 9).2.2.1 (yW 9).2.2.2.1 9 eB with | some h => _ | none => False)
      rw [e0]
      exact ⟨pX_x (by decide) c2, by decide⟩
    · cases c1
theorem x_head {a0 a1 : Int32} (h : kC 6 kc_head [.ref 0, .int a0, .int a1] M (pI cdB dm mm as)) : xC 7 ya_head [.ref 0, .int a0, .int a1, .ref 15] M o (pX dm mm as) := by
  have e0 : yHd (yW 10).2.2.2.2.2 (yW 10).2.2.1 (yW 10).2.2.2.1 5 eB = some 15 := by decide +kernel
  refine xC_body (by decide) (Nat.le_of_ble_eq_true rfl) yT_ok10 ?_
  refine ⟨by decide, ?_⟩
  refine kC_imp ?_ h
  intro r hr
  rcases r with ⟨v, M1⟩ | ⟨E, M1⟩
  · rcases v with _ | v
    · exact hr.elim
    · cases v with
      | int x => exact ⟨rfl, ⟨pX_i hr, by decide⟩⟩
      | _ => exact hr.elim
  · obtain ⟨kk, c1, c2⟩ := hr
    unfold cdB at c1
    split at c1
    · rename_i q0
      subst q0
      cases c1
      show (match yHd (yW 10).2.2.2.2.2 (yW 10).2.2.1 (yW 10).2.2.2.1 5 eB with | some h => _ | none => False)
      rw [e0]
      exact ⟨pX_x (by decide) c2, by decide⟩
    · cases c1
theorem x_cutAfter {a0 : Int32} (h : kC 6 kc_cutAfter [.ref 0, .int a0] M (pV cdA dm mm as)) : xC 7 ya_cutAfter [.ref 0, .int a0] M o (pXv dm mm as) := by
  have e0 : yHd (yW 11).2.2.2.2.2 (yW 11).2.2.1 (yW 11).2.2.2.1 2 eA = some 9 := by decide +kernel
  refine xC_body (by decide) (Nat.le_of_ble_eq_true rfl) yT_ok11 ?_
  refine ⟨by decide, ?_⟩
  refine kC_imp ?_ h
  intro r hr
  rcases r with ⟨v, M1⟩ | ⟨E, M1⟩
  · cases v with
    | some v => exact hr.elim
    | none => exact ⟨hr, by decide⟩
  · obtain ⟨kk, c1, c2⟩ := hr
    unfold cdA at c1
    split at c1
    · rename_i q0
      subst q0
      cases c1
      show (match yHd (yW 11).2.2.2.2.2 (yW 11).2.2.1 (yW 11).2.2.2.1 2 eA with | some h => _ | none => False)
      rw [e0]
      exact ⟨c2, by decide⟩
    · cases c1
theorem x_start (h : kC 6 kc_start [.ref 0] M (pI cdS dm mm as)) : xC 7 ya_start [.ref 0, .ref 15] M o (pX dm mm as) := by
  have e0 : yHd (yW 12).2.2.2.2.2 (yW 12).2.2.1 (yW 12).2.2.2.1 3 eS = some 12 := by decide +kernel
  refine xC_body (by decide) (Nat.le_of_ble_eq_true rfl) yT_ok12 ?_
  refine ⟨by decide, ?_⟩
  refine kC_imp ?_ h
  intro r hr
  rcases r with ⟨v, M1⟩ | ⟨E, M1⟩
  · rcases v with _ | v
    · exact hr.elim
    · cases v with
      | int x => exact ⟨rfl, ⟨pX_i hr, by decide⟩⟩
      | _ => exact hr.elim
  · obtain ⟨kk, c1, c2⟩ := hr
    unfold cdS at c1
    split at c1
    · rename_i q0
      subst q0
      cases c1
      show (match yHd (yW 12).2.2.2.2.2 (yW 12).2.2.1 (yW 12).2.2.2.1 3 eS with | some h => _ | none => False)
      rw [e0]
      exact ⟨pX_x (by decide) c2, by decide⟩
    · cases c1
end XW
