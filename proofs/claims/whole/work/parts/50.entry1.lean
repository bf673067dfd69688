/-! the law's entry: which exception is which; the statics; the classes -/
set_option maxRecDepth 100000 in
theorem kNot_in : ∀ E ∈ kEx, ∀ F ∈ kEx, E ≠ F → Cond.not (.castable E F) ∈ flatC (Jvm.Cond.and given_1 narrow_1) := by decide +kernel
set_option maxRecDepth 100000 in
theorem kCas_in : ∀ E ∈ kEx, Cond.castable E E ∈ lw_tbl := by decide +kernel
set_option maxRecDepth 100000 in
theorem kSta_in : Cond.laysStatic Bundle.tN "UNASSIGNED_STACK" Bundle.steD ∈ lw_tbl ∧ Cond.laysStatic Bundle.tN "SUPPRESSED_SENTINEL" Bundle.listD ∈ lw_tbl ∧ Cond.initialized Bundle.tN ∈ lw_tbl := by decide +kernel
set_option maxRecDepth 100000 in
theorem kSta2_in : Cond.isRef (.static Bundle.tN "UNASSIGNED_STACK" Bundle.steD) ∈ flatC (Jvm.Cond.and given_1 narrow_1) ∧ Cond.isRef (.static Bundle.tN "SUPPRESSED_SENTINEL" Bundle.listD) ∈ flatC (Jvm.Cond.and given_1 narrow_1) := by decide +kernel
set_option maxRecDepth 100000 in
theorem kStr_in : ∀ r ∈ kTh, Cond.stringRef RX1 r.2.2.2.1 r.2.2.2.2.2.2 ∈ lw_tbl := by decide +kernel
section EN
variable {s : State} {args : Array Value}
theorem kAs_of (h : (Jvm.Cond.and given_1 narrow_1).before args s = true) (hts : ∀ w ∈ lw_tbl, w.before args s = true) : kAs s := by
  have hs := flat_of_before _ h
  intro E hE F hF
  by_cases hEF : E = F
  · subst hEF
    obtain ⟨a, b, h1, h2, h3⟩ := Cond.castable_spec (hts _ (kCas_in E hE))
    exact ⟨a, b, h1, h2, by rw [h3]; simp⟩
  · obtain ⟨a, _, a1, _, _⟩ := Cond.castable_spec (hts _ (kCas_in E hE))
    obtain ⟨b, _, b1, _, _⟩ := Cond.castable_spec (hts _ (kCas_in F hF))
    have h9 := Cond.holds_not_iff.mp (hs _ (kNot_in E hE F hF hEF))
    have h9 : s.vm.assignable a b = false := by simpa [Cond.value, a1, b1] using h9
    exact ⟨a, b, a1, b1, by rw [h9]; simp [hEF]⟩
theorem kz_of {A : Nat → Prop} (h : (Jvm.Cond.and given_1 narrow_1).before args s = true) (hts : ∀ w ∈ lw_tbl, w.before args s = true) (hA : ∀ a : Nat, a < s.heap.size → ¬ A a) : kz A s s.heap := by
  have hs := flat_of_before _ h
  refine ⟨vx_Zqof (hts _ kSta_in.1) (hts _ kSta_in.2.2) (hs _ kSta2_in.1) hA, vx_Zqof (hts _ kSta_in.2.1) (hts _ kSta_in.2.2) (hs _ kSta2_in.2) hA, fun r hr => ?_, fun w hw a => kface_moved (Vm.Alike.refl s.vm) (List.mem_filter.mp hw).2 (hts w (List.mem_filter.mp hw).1)⟩
  have h1 := hts _ (kStr_in r hr)
  obtain ⟨cC, kC9, hfc, -, -, -⟩ := Cond.instantiable_spec (hts _ (List.mem_filter.mp kIn2_ok.2.2.2.2.2.2.1).1)
  obtain ⟨_, _, _, sa, _, _, _, _, _, h2⟩ := Cond.stringRef_spec hfc h1
  exact ⟨sa, vk_R.of h1 h2⟩
theorem va_K_of (hts : ∀ w ∈ kG, w.before args s = true) : ∃ (D : va_G) (cI cJ : ClassId), va_K D vwCl (kTy cI cJ) s := by
  obtain ⟨c0, i0, h0⟩ := u_known (C := RX0) (T := TX0) (N := 1) hts kWs0_ok.1 (hts _ kIn2_ok.2.1)
  obtain ⟨c1, i1, h1⟩ := u_known (C := RX1) (T := TX1) (N := 9) hts kWs0_ok.2.1 (hts _ kIn2_ok.2.2.2.2.2.2.1)
  obtain ⟨c2, i2, h2⟩ := u_known (C := RX2) (T := TX2) (N := 10) hts kWs0_ok.2.2 (hts _ kIn2_ok.2.2.2.2.2.2.2.1)
  obtain ⟨cI, kI, nI9, e1, e2, e3⟩ := Cond.arrayClass_spec (hts _ kIn_ok.2.2.2.2.2.1)
  obtain ⟨cJ, kJ9, nJ9, f1, f2, f3⟩ := Cond.arrayClass_spec (hts _ kIn_ok.2.2.2.2.2.2)
  refine ⟨(fun c => match c with | 0 => c0 | 1 => c1 | _ => c2, fun c => match c with | 0 => i0 | 1 => i1 | _ => i2), cI, cJ, fun c q hq => ?_, fun k q hk => ?_⟩
  · match c, hq with
    | 0, hq => cases hq; exact h0
    | 1, hq => cases hq; exact h1
    | 2, hq => cases hq; exact h2
    | (n + 3), hq => cases hq
  · match k, hk with
    | 0, hk => cases hk; exact ⟨fun n z => ⟨fun k h => (by cases h), kI, e2, nI9, e3⟩, e1⟩
    | 1, hk => cases hk; exact ⟨fun n z => ⟨fun k h => (by cases h), kJ9, f2, nJ9, f3⟩, f1⟩
    | (n + 2), hk => cases hk
end EN
