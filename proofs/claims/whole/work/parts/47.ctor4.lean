/-! constructors: MirrorGroup, its contract -/
set_option maxHeartbeats 8000000 in
set_option maxRecDepth 100000 in
theorem c_Grp (l : Launch) (D : va_G) (cI cJ : ClassId) (h0 sz : Nat) : Met l yX1_init wG ({ frames := 2, cells := 8, slots := 3151, locals := 40 }) (va_Pc [.ref h0] (fun U => U.heap.size = sz ∧ va_P D vwCl (gW0 h0) U.heap ∧ va_K D vwCl (kTy cI cJ) U ∧ va_D (fun _ => True) (gW0 h0)))
    (va_Qv (fun _ : Nat => True) (fun _ t => ∃ b h1 q1 h2 q2 h3 q3 f, va_P D vwCl (gW1 cI h0 b h1 h2 h3 q1 q2 q3 f) t.heap ∧ va_K D vwCl (kTy cI cJ) t ∧ va_D (va_A (gW0 h0) sz) (gW1 cI h0 b h1 h2 h3 q1 q2 q3 f)) (va_A (gW0 h0) sz)) 8 3151 (va_A (gW0 h0) sz) := by
  refine Met.ofW (cc := cX1_init) (maxL := 1) (ret := none) (by decide) rfl ?_
  intro p e s m args below meth c s₁ B hml hv
  obtain ⟨rfl, hsz, hP, hK, hD0⟩ := hv
  have hx := B.exec
  have hb := B.bytes
  have hr := B.returns
  have hts : ∀ w ∈ kG, w.before #[Value.ref h0] s = true := fun w hw => atoms_spec (ws := wG) B.pre w (List.mem_cons_of_mem _ hw)
  have hown : s.vm.findClass RX1 = some m.cls := findClass_of_methodNamed B.named
  have hlocks := B.notSynchronized
  have hin : meth.name = "<init>" := (name_of_methodNamed B.named B.method).1
  subst hsz
  have hD := hD0.self (sz := s.heap.size)
  generalize hAe : va_A (gW0 h0) s.heap.size = A at hD ⊢
  have hA : ∀ q : Nat, s.heap.size ≤ q → A q := fun q h => by rw [← hAe]; exact Or.inr h
  have hS : va_S A s.heap s.heap [] := va_S.rf
  have hP : va_P D vwCl (gW0 h0) s.heap := hP
  have hl := lv_entry ([.ref h0]) (n := 1) (Nat.le_of_ble_eq_true rfl)
  rw [lg_entry_eq]
  generalize (lg_sl ([.ref h0]) ++ List.replicate (1 - (lg_sl ([.ref h0])).length) Slot.unset).toArray = ls at hl ⊢
  have hl : lv_has ls 1 [(0, .ref h0)] := hl
  refine lv_aload_n hx hb dX1_init_0 rfl (lv_at hl 0 rfl) ?_
  refine W.objInit hx hb hown (hts _ kIn_ok.2.1) (hts _ kIn_ok.2.2.2.1) (hts _ kIn_ok.2.2.2.2.1) rfl (by rw [hml]; exact hl.1) rfl dX1_init_1 (Nat.le_of_ble_eq_true rfl) (Nat.le_of_ble_eq_true rfl) ?_
  refine W.eq (g2 := F0 m 4 ls []) rfl ?_
  refine lv_aload_n hx hb dX1_init_4 rfl (lv_at hl 0 rfl) ?_
  refine lv_sipush (v := nI 3072) hx hb dX1_init_5 (by decide) ?_
  refine va_newa (atype := .int) (n := nI 3072) (N' := 3072) (a0 := (3072, .inl (fun _ => 0))) hx hb (hts _ kIn_ok.2.2.2.2.2.1) rfl hK hP hD hS hA (fun _ => rfl) (by decide) (by decide) (by decide) (Nat.le_of_ble_eq_true rfl) (Nat.le_of_ble_eq_true rfl) dX1_init_8 (fun b cA H hK2 hP hD hS => ?_)
  have eA : cA = cI := va_one hK2 (i := 2) (j := 0) rfl rfl
  subst eA
  have hP : va_P D vwCl [(h0, .inr (1, [.null, .null, .null, .null, .null, .int 0, .int 0, .int 0, .int 0])), (b, .inl (cA, 3072, .inl (fun _ => 0)))] H := hP
  have hD : va_D A [(h0, .inr (1, [.null, .null, .null, .null, .null, .int 0, .int 0, .int 0, .int 0])), (b, .inl (cA, 3072, .inl (fun _ => 0)))] := hD
  have hK0 := hK
  refine va_putF (D := D) (ci := 1) (v := .ref b) (ty := tyX1 0) (C := RX1) (T := TX1) (N := 9) hx hb hts kWs0_ok.2.1 tyX1 tyX1_ok nmX1 hown hK hP hD hS 0 rfl rfl 0 (by decide) (hts _ (kFl_ok (1, 9, 1, 0) (by decide +kernel)).1) (fun _ h9 => h9) rfl hin rfl (by decide +kernel) rfl rfl (Nat.le_of_ble_eq_true rfl) dX1_init_10 (fun H locs hP hD hS => ?_)
  have hP : va_P D vwCl [(h0, .inr (1, [.ref b, .null, .null, .null, .null, .int 0, .int 0, .int 0, .int 0])), (b, .inl (cA, 3072, .inl (fun _ => 0)))] H := hP
  have hD : va_D A [(h0, .inr (1, [.ref b, .null, .null, .null, .null, .int 0, .int 0, .int 0, .int 0])), (b, .inl (cA, 3072, .inl (fun _ => 0)))] := hD
  refine lv_aload_n hx hb dX1_init_13 rfl (lv_at hl 0 rfl) ?_
  refine va_new (ci := 0) (fs := [.null]) (C := RX0) (T := TX0) (N := 1) hx hb hts kWs0_ok.1 tyX0 tyX0_ok hown (hts _ kIn2_ok.1) (hts _ kIn2_ok.2.1) (hts _ kIn2_ok.2.2.1) hK hP hD hS hA rfl (fun j hj => by rcases (show j = 0 by omega) with rfl <;> rfl) (Nat.le_of_ble_eq_true rfl) (Nat.le_of_ble_eq_true rfl) dX1_init_14 (fun h1 H hP hD hS => ?_)
  have hP : va_P D vwCl [(h0, .inr (1, [.ref b, .null, .null, .null, .null, .int 0, .int 0, .int 0, .int 0])), (b, .inl (cA, 3072, .inl (fun _ => 0))), (h1, .inr (0, [.null]))] H := hP
  have hD : va_D A [(h0, .inr (1, [.ref b, .null, .null, .null, .null, .int 0, .int 0, .int 0, .int 0])), (b, .inl (cA, 3072, .inl (fun _ => 0))), (h1, .inr (0, [.null]))] := hD
  refine lv_dup hx hb dX1_init_17 rfl ?_
  have hPc := hP.sub (ws' := hW0 h1) [2] rfl
  have hDc := hD.sub (ws' := hW0 h1) [2] (by decide) rfl
  have hFc := va_free (wc := hW0 h1) hD hS hA [2] rfl
  refine va_callv (va_runI (As := []) (rest := [.ref h1, .ref h0]) ⟨hx, hb, hml, hown, hts⟩ (c_Hdr l D cA cJ h1 H.size) (cwI 0 hts wH_in rfl rfl rfl (hts _ kIn2_ok.2.2.1) (hts _ kIn2_ok.2.2.2.1) (hts _ kIn2_ok.2.2.2.2.1) rfl (by decide +kernel) ⟨Nat.le_of_ble_eq_true rfl, Nat.le_of_ble_eq_true rfl⟩) ⟨fun a U g mk q => by obtain ⟨q0, q1, qP, qK, qD⟩ := q; exact ⟨q0, q1, qP, va_K.moved (u := U) (U := U.calling g mk a) (Vm.Alike.refl U.vm) qK, qD⟩, fun U hU hW => ⟨rfl, by rw [hU], by rw [hU]; exact hPc, va_K.moved hW.alike hK, hDc.weaken (fun _ _ _ _ => trivial)⟩⟩ rfl rfl hl.1 rfl (lv_room (Nat.le_of_ble_eq_true rfl)) dX1_init_18 ⟨Nat.le_of_ble_eq_true rfl, Nat.le_of_ble_eq_true rfl⟩) hS (fun q _ h => hFc q h) hFc (fun q1 t H1 locs ht hvm hw hB hz1 hk1 hS => ?_)
  obtain ⟨hP1, hK1, hD1⟩ := hB
  rw [ht] at hP1
  obtain ⟨hP, hD⟩ := va_join (wr := [(h0, .inr (1, [.ref b, .null, .null, .null, .null, .int 0, .int 0, .int 0, .int 0])), (b, .inl (cA, 3072, .inl (fun _ => 0)))]) (w1 := hW1 cA h1 q1 (hd0 22)) hP hD [2] [0, 1] rfl rfl (by decide) (by decide) hk1 hFc hP1 hD1
  generalize H1 = H at hP hS ⊢
  have hP : va_P D vwCl [(h0, .inr (1, [.ref b, .null, .null, .null, .null, .int 0, .int 0, .int 0, .int 0])), (b, .inl (cA, 3072, .inl (fun _ => 0))), (h1, .inr (0, [.ref q1])), (q1, .inl (cA, 24, .inl (hd0 22)))] H := hP
  have hD : va_D A [(h0, .inr (1, [.ref b, .null, .null, .null, .null, .int 0, .int 0, .int 0, .int 0])), (b, .inl (cA, 3072, .inl (fun _ => 0))), (h1, .inr (0, [.ref q1])), (q1, .inl (cA, 24, .inl (hd0 22)))] := hD
  refine va_putF (D := D) (ci := 1) (v := .ref h1) (ty := tyX1 1) (C := RX1) (T := TX1) (N := 9) hx hb hts kWs0_ok.2.1 tyX1 tyX1_ok nmX1 hown hK hP hD hS 0 rfl rfl 1 (by decide) (hts _ (kFl_ok (1, 16, 1, 1) (by decide +kernel)).1) (fun _ h9 => h9) rfl hin rfl (by decide +kernel) rfl rfl (Nat.le_of_ble_eq_true rfl) dX1_init_21 (fun H locs hP hD hS => ?_)
  have hP : va_P D vwCl [(h0, .inr (1, [.ref b, .ref h1, .null, .null, .null, .int 0, .int 0, .int 0, .int 0])), (b, .inl (cA, 3072, .inl (fun _ => 0))), (h1, .inr (0, [.ref q1])), (q1, .inl (cA, 24, .inl (hd0 22)))] H := hP
  have hD : va_D A [(h0, .inr (1, [.ref b, .ref h1, .null, .null, .null, .int 0, .int 0, .int 0, .int 0])), (b, .inl (cA, 3072, .inl (fun _ => 0))), (h1, .inr (0, [.ref q1])), (q1, .inl (cA, 24, .inl (hd0 22)))] := hD
  refine lv_aload_n hx hb dX1_init_24 rfl (lv_at hl 0 rfl) ?_
  refine va_new (ci := 0) (fs := [.null]) (C := RX0) (T := TX0) (N := 1) hx hb hts kWs0_ok.1 tyX0 tyX0_ok hown (hts _ kIn2_ok.1) (hts _ kIn2_ok.2.1) (hts _ kIn2_ok.2.2.1) hK hP hD hS hA rfl (fun j hj => by rcases (show j = 0 by omega) with rfl <;> rfl) (Nat.le_of_ble_eq_true rfl) (Nat.le_of_ble_eq_true rfl) dX1_init_25 (fun h2 H hP hD hS => ?_)
  have hP : va_P D vwCl [(h0, .inr (1, [.ref b, .ref h1, .null, .null, .null, .int 0, .int 0, .int 0, .int 0])), (b, .inl (cA, 3072, .inl (fun _ => 0))), (h1, .inr (0, [.ref q1])), (q1, .inl (cA, 24, .inl (hd0 22))), (h2, .inr (0, [.null]))] H := hP
  have hD : va_D A [(h0, .inr (1, [.ref b, .ref h1, .null, .null, .null, .int 0, .int 0, .int 0, .int 0])), (b, .inl (cA, 3072, .inl (fun _ => 0))), (h1, .inr (0, [.ref q1])), (q1, .inl (cA, 24, .inl (hd0 22))), (h2, .inr (0, [.null]))] := hD
  refine lv_dup hx hb dX1_init_28 rfl ?_
  have hPc := hP.sub (ws' := hW0 h2) [4] rfl
  have hDc := hD.sub (ws' := hW0 h2) [4] (by decide) rfl
  have hFc := va_free (wc := hW0 h2) hD hS hA [4] rfl
  refine va_callv (va_runI (As := []) (rest := [.ref h2, .ref h0]) ⟨hx, hb, hml, hown, hts⟩ (c_Hdr l D cA cJ h2 H.size) (cwI 0 hts wH_in rfl rfl rfl (hts _ kIn2_ok.2.2.1) (hts _ kIn2_ok.2.2.2.1) (hts _ kIn2_ok.2.2.2.2.1) rfl (by decide +kernel) ⟨Nat.le_of_ble_eq_true rfl, Nat.le_of_ble_eq_true rfl⟩) ⟨fun a U g mk q => by obtain ⟨q0, q1, qP, qK, qD⟩ := q; exact ⟨q0, q1, qP, va_K.moved (u := U) (U := U.calling g mk a) (Vm.Alike.refl U.vm) qK, qD⟩, fun U hU hW => ⟨rfl, by rw [hU], by rw [hU]; exact hPc, va_K.moved hW.alike hK, hDc.weaken (fun _ _ _ _ => trivial)⟩⟩ rfl rfl hl.1 rfl (lv_room (Nat.le_of_ble_eq_true rfl)) dX1_init_29 ⟨Nat.le_of_ble_eq_true rfl, Nat.le_of_ble_eq_true rfl⟩) hS (fun q _ h => hFc q h) hFc (fun q2 t H1 locs ht hvm hw hB hz1 hk1 hS => ?_)
  obtain ⟨hP1, hK1, hD1⟩ := hB
  rw [ht] at hP1
  obtain ⟨hP, hD⟩ := va_join (wr := [(h0, .inr (1, [.ref b, .ref h1, .null, .null, .null, .int 0, .int 0, .int 0, .int 0])), (b, .inl (cA, 3072, .inl (fun _ => 0))), (h1, .inr (0, [.ref q1])), (q1, .inl (cA, 24, .inl (hd0 22)))]) (w1 := hW1 cA h2 q2 (hd0 22)) hP hD [4] [0, 1, 2, 3] rfl rfl (by decide) (by decide) hk1 hFc hP1 hD1
  generalize H1 = H at hP hS ⊢
  have hP : va_P D vwCl [(h0, .inr (1, [.ref b, .ref h1, .null, .null, .null, .int 0, .int 0, .int 0, .int 0])), (b, .inl (cA, 3072, .inl (fun _ => 0))), (h1, .inr (0, [.ref q1])), (q1, .inl (cA, 24, .inl (hd0 22))), (h2, .inr (0, [.ref q2])), (q2, .inl (cA, 24, .inl (hd0 22)))] H := hP
  have hD : va_D A [(h0, .inr (1, [.ref b, .ref h1, .null, .null, .null, .int 0, .int 0, .int 0, .int 0])), (b, .inl (cA, 3072, .inl (fun _ => 0))), (h1, .inr (0, [.ref q1])), (q1, .inl (cA, 24, .inl (hd0 22))), (h2, .inr (0, [.ref q2])), (q2, .inl (cA, 24, .inl (hd0 22)))] := hD
  refine va_putF (D := D) (ci := 1) (v := .ref h2) (ty := tyX1 2) (C := RX1) (T := TX1) (N := 9) hx hb hts kWs0_ok.2.1 tyX1 tyX1_ok nmX1 hown hK hP hD hS 0 rfl rfl 2 (by decide) (hts _ (kFl_ok (1, 20, 1, 2) (by decide +kernel)).1) (fun _ h9 => h9) rfl hin rfl (by decide +kernel) rfl rfl (Nat.le_of_ble_eq_true rfl) dX1_init_32 (fun H locs hP hD hS => ?_)
  have hP : va_P D vwCl [(h0, .inr (1, [.ref b, .ref h1, .ref h2, .null, .null, .int 0, .int 0, .int 0, .int 0])), (b, .inl (cA, 3072, .inl (fun _ => 0))), (h1, .inr (0, [.ref q1])), (q1, .inl (cA, 24, .inl (hd0 22))), (h2, .inr (0, [.ref q2])), (q2, .inl (cA, 24, .inl (hd0 22)))] H := hP
  have hD : va_D A [(h0, .inr (1, [.ref b, .ref h1, .ref h2, .null, .null, .int 0, .int 0, .int 0, .int 0])), (b, .inl (cA, 3072, .inl (fun _ => 0))), (h1, .inr (0, [.ref q1])), (q1, .inl (cA, 24, .inl (hd0 22))), (h2, .inr (0, [.ref q2])), (q2, .inl (cA, 24, .inl (hd0 22)))] := hD
  refine lv_aload_n hx hb dX1_init_35 rfl (lv_at hl 0 rfl) ?_
  refine va_new (ci := 0) (fs := [.null]) (C := RX0) (T := TX0) (N := 1) hx hb hts kWs0_ok.1 tyX0 tyX0_ok hown (hts _ kIn2_ok.1) (hts _ kIn2_ok.2.1) (hts _ kIn2_ok.2.2.1) hK hP hD hS hA rfl (fun j hj => by rcases (show j = 0 by omega) with rfl <;> rfl) (Nat.le_of_ble_eq_true rfl) (Nat.le_of_ble_eq_true rfl) dX1_init_36 (fun h3 H hP hD hS => ?_)
  have hP : va_P D vwCl [(h0, .inr (1, [.ref b, .ref h1, .ref h2, .null, .null, .int 0, .int 0, .int 0, .int 0])), (b, .inl (cA, 3072, .inl (fun _ => 0))), (h1, .inr (0, [.ref q1])), (q1, .inl (cA, 24, .inl (hd0 22))), (h2, .inr (0, [.ref q2])), (q2, .inl (cA, 24, .inl (hd0 22))), (h3, .inr (0, [.null]))] H := hP
  have hD : va_D A [(h0, .inr (1, [.ref b, .ref h1, .ref h2, .null, .null, .int 0, .int 0, .int 0, .int 0])), (b, .inl (cA, 3072, .inl (fun _ => 0))), (h1, .inr (0, [.ref q1])), (q1, .inl (cA, 24, .inl (hd0 22))), (h2, .inr (0, [.ref q2])), (q2, .inl (cA, 24, .inl (hd0 22))), (h3, .inr (0, [.null]))] := hD
  refine lv_dup hx hb dX1_init_39 rfl ?_
  have hPc := hP.sub (ws' := hW0 h3) [6] rfl
  have hDc := hD.sub (ws' := hW0 h3) [6] (by decide) rfl
  have hFc := va_free (wc := hW0 h3) hD hS hA [6] rfl
  refine va_callv (va_runI (As := []) (rest := [.ref h3, .ref h0]) ⟨hx, hb, hml, hown, hts⟩ (c_Hdr l D cA cJ h3 H.size) (cwI 0 hts wH_in rfl rfl rfl (hts _ kIn2_ok.2.2.1) (hts _ kIn2_ok.2.2.2.1) (hts _ kIn2_ok.2.2.2.2.1) rfl (by decide +kernel) ⟨Nat.le_of_ble_eq_true rfl, Nat.le_of_ble_eq_true rfl⟩) ⟨fun a U g mk q => by obtain ⟨q0, q1, qP, qK, qD⟩ := q; exact ⟨q0, q1, qP, va_K.moved (u := U) (U := U.calling g mk a) (Vm.Alike.refl U.vm) qK, qD⟩, fun U hU hW => ⟨rfl, by rw [hU], by rw [hU]; exact hPc, va_K.moved hW.alike hK, hDc.weaken (fun _ _ _ _ => trivial)⟩⟩ rfl rfl hl.1 rfl (lv_room (Nat.le_of_ble_eq_true rfl)) dX1_init_40 ⟨Nat.le_of_ble_eq_true rfl, Nat.le_of_ble_eq_true rfl⟩) hS (fun q _ h => hFc q h) hFc (fun q3 t H1 locs ht hvm hw hB hz1 hk1 hS => ?_)
  obtain ⟨hP1, hK1, hD1⟩ := hB
  rw [ht] at hP1
  obtain ⟨hP, hD⟩ := va_join (wr := [(h0, .inr (1, [.ref b, .ref h1, .ref h2, .null, .null, .int 0, .int 0, .int 0, .int 0])), (b, .inl (cA, 3072, .inl (fun _ => 0))), (h1, .inr (0, [.ref q1])), (q1, .inl (cA, 24, .inl (hd0 22))), (h2, .inr (0, [.ref q2])), (q2, .inl (cA, 24, .inl (hd0 22)))]) (w1 := hW1 cA h3 q3 (hd0 22)) hP hD [6] [0, 1, 2, 3, 4, 5] rfl rfl (by decide) (by decide) hk1 hFc hP1 hD1
  generalize H1 = H at hP hS ⊢
  have hP : va_P D vwCl [(h0, .inr (1, [.ref b, .ref h1, .ref h2, .null, .null, .int 0, .int 0, .int 0, .int 0])), (b, .inl (cA, 3072, .inl (fun _ => 0))), (h1, .inr (0, [.ref q1])), (q1, .inl (cA, 24, .inl (hd0 22))), (h2, .inr (0, [.ref q2])), (q2, .inl (cA, 24, .inl (hd0 22))), (h3, .inr (0, [.ref q3])), (q3, .inl (cA, 24, .inl (hd0 22)))] H := hP
  have hD : va_D A [(h0, .inr (1, [.ref b, .ref h1, .ref h2, .null, .null, .int 0, .int 0, .int 0, .int 0])), (b, .inl (cA, 3072, .inl (fun _ => 0))), (h1, .inr (0, [.ref q1])), (q1, .inl (cA, 24, .inl (hd0 22))), (h2, .inr (0, [.ref q2])), (q2, .inl (cA, 24, .inl (hd0 22))), (h3, .inr (0, [.ref q3])), (q3, .inl (cA, 24, .inl (hd0 22)))] := hD
  refine va_putF (D := D) (ci := 1) (v := .ref h3) (ty := tyX1 3) (C := RX1) (T := TX1) (N := 9) hx hb hts kWs0_ok.2.1 tyX1 tyX1_ok nmX1 hown hK hP hD hS 0 rfl rfl 3 (by decide) (hts _ (kFl_ok (1, 23, 1, 3) (by decide +kernel)).1) (fun _ h9 => h9) rfl hin rfl (by decide +kernel) rfl rfl (Nat.le_of_ble_eq_true rfl) dX1_init_43 (fun H locs hP hD hS => ?_)
  have hP : va_P D vwCl [(h0, .inr (1, [.ref b, .ref h1, .ref h2, .ref h3, .null, .int 0, .int 0, .int 0, .int 0])), (b, .inl (cA, 3072, .inl (fun _ => 0))), (h1, .inr (0, [.ref q1])), (q1, .inl (cA, 24, .inl (hd0 22))), (h2, .inr (0, [.ref q2])), (q2, .inl (cA, 24, .inl (hd0 22))), (h3, .inr (0, [.ref q3])), (q3, .inl (cA, 24, .inl (hd0 22)))] H := hP
  have hD : va_D A [(h0, .inr (1, [.ref b, .ref h1, .ref h2, .ref h3, .null, .int 0, .int 0, .int 0, .int 0])), (b, .inl (cA, 3072, .inl (fun _ => 0))), (h1, .inr (0, [.ref q1])), (q1, .inl (cA, 24, .inl (hd0 22))), (h2, .inr (0, [.ref q2])), (q2, .inl (cA, 24, .inl (hd0 22))), (h3, .inr (0, [.ref q3])), (q3, .inl (cA, 24, .inl (hd0 22)))] := hD
  refine lv_aload_n hx hb dX1_init_46 rfl (lv_at hl 0 rfl) ?_
  refine lv_iconst (v := nI 4) hx hb dX1_init_47 (by decide) ?_
  refine va_newa (atype := .int) (n := nI 4) (N' := 4) (a0 := (4, .inl (fun _ => 0))) hx hb (hts _ kIn_ok.2.2.2.2.2.1) rfl hK hP hD hS hA (fun _ => rfl) (by decide) (by decide) (by decide) (Nat.le_of_ble_eq_true rfl) (Nat.le_of_ble_eq_true rfl) dX1_init_48 (fun f cB H hK2 hP hD hS => ?_)
  have eB : cB = cA := va_one hK2 (i := 2) (j := 0) rfl rfl
  subst eB
  have hP : va_P D vwCl [(h0, .inr (1, [.ref b, .ref h1, .ref h2, .ref h3, .null, .int 0, .int 0, .int 0, .int 0])), (b, .inl (cB, 3072, .inl (fun _ => 0))), (h1, .inr (0, [.ref q1])), (q1, .inl (cB, 24, .inl (hd0 22))), (h2, .inr (0, [.ref q2])), (q2, .inl (cB, 24, .inl (hd0 22))), (h3, .inr (0, [.ref q3])), (q3, .inl (cB, 24, .inl (hd0 22))), (f, .inl (cB, 4, .inl (fun _ => 0)))] H := hP
  have hD : va_D A [(h0, .inr (1, [.ref b, .ref h1, .ref h2, .ref h3, .null, .int 0, .int 0, .int 0, .int 0])), (b, .inl (cB, 3072, .inl (fun _ => 0))), (h1, .inr (0, [.ref q1])), (q1, .inl (cB, 24, .inl (hd0 22))), (h2, .inr (0, [.ref q2])), (q2, .inl (cB, 24, .inl (hd0 22))), (h3, .inr (0, [.ref q3])), (q3, .inl (cB, 24, .inl (hd0 22))), (f, .inl (cB, 4, .inl (fun _ => 0)))] := hD
  refine va_putF (D := D) (ci := 1) (v := .ref f) (ty := tyX1 4) (C := RX1) (T := TX1) (N := 9) hx hb hts kWs0_ok.2.1 tyX1 tyX1_ok nmX1 hown hK hP hD hS 0 rfl rfl 4 (by decide) (hts _ (kFl_ok (1, 26, 1, 4) (by decide +kernel)).1) (fun _ h9 => h9) rfl hin rfl (by decide +kernel) rfl rfl (Nat.le_of_ble_eq_true rfl) dX1_init_50 (fun H locs hP hD hS => ?_)
  have hP : va_P D vwCl [(h0, .inr (1, [.ref b, .ref h1, .ref h2, .ref h3, .ref f, .int 0, .int 0, .int 0, .int 0])), (b, .inl (cB, 3072, .inl (fun _ => 0))), (h1, .inr (0, [.ref q1])), (q1, .inl (cB, 24, .inl (hd0 22))), (h2, .inr (0, [.ref q2])), (q2, .inl (cB, 24, .inl (hd0 22))), (h3, .inr (0, [.ref q3])), (q3, .inl (cB, 24, .inl (hd0 22))), (f, .inl (cB, 4, .inl (fun _ => 0)))] H := hP
  have hD : va_D A [(h0, .inr (1, [.ref b, .ref h1, .ref h2, .ref h3, .ref f, .int 0, .int 0, .int 0, .int 0])), (b, .inl (cB, 3072, .inl (fun _ => 0))), (h1, .inr (0, [.ref q1])), (q1, .inl (cB, 24, .inl (hd0 22))), (h2, .inr (0, [.ref q2])), (q2, .inl (cB, 24, .inl (hd0 22))), (h3, .inr (0, [.ref q3])), (q3, .inl (cB, 24, .inl (hd0 22))), (f, .inl (cB, 4, .inl (fun _ => 0)))] := hD
  refine lv_aload_n hx hb dX1_init_53 rfl (lv_at hl 0 rfl) ?_
  refine lv_iconst (v := nI 1) hx hb dX1_init_54 (by decide) ?_
  refine va_put (D := D) (ci := 1) (v := .int (nI 1)) (ty := tyX1 5) (C := RX1) (T := TX1) (N := 9) hx hb hts kWs0_ok.2.1 tyX1 tyX1_ok nmX1 hown hK hP hD hS 0 rfl rfl 5 (by decide) (hts _ (kFl_ok (1, 29, 1, 5) (by decide +kernel)).1) (fun _ h9 => h9) rfl (by decide +kernel) rfl rfl (Nat.le_of_ble_eq_true rfl) dX1_init_55 (fun H locs hP hD hS => ?_)
  have hP : va_P D vwCl [(h0, .inr (1, [.ref b, .ref h1, .ref h2, .ref h3, .ref f, .int (nI 1), .int 0, .int 0, .int 0])), (b, .inl (cB, 3072, .inl (fun _ => 0))), (h1, .inr (0, [.ref q1])), (q1, .inl (cB, 24, .inl (hd0 22))), (h2, .inr (0, [.ref q2])), (q2, .inl (cB, 24, .inl (hd0 22))), (h3, .inr (0, [.ref q3])), (q3, .inl (cB, 24, .inl (hd0 22))), (f, .inl (cB, 4, .inl (fun _ => 0)))] H := hP
  have hD : va_D A [(h0, .inr (1, [.ref b, .ref h1, .ref h2, .ref h3, .ref f, .int (nI 1), .int 0, .int 0, .int 0])), (b, .inl (cB, 3072, .inl (fun _ => 0))), (h1, .inr (0, [.ref q1])), (q1, .inl (cB, 24, .inl (hd0 22))), (h2, .inr (0, [.ref q2])), (q2, .inl (cB, 24, .inl (hd0 22))), (h3, .inr (0, [.ref q3])), (q3, .inl (cB, 24, .inl (hd0 22))), (f, .inl (cB, 4, .inl (fun _ => 0)))] := hD
  refine lv_aload_n hx hb dX1_init_58 rfl (lv_at hl 0 rfl) ?_
  refine lv_iconst (v := -1) hx hb dX1_init_59 (by decide) ?_
  refine va_put (D := D) (ci := 1) (v := .int (-1)) (ty := tyX1 6) (C := RX1) (T := TX1) (N := 9) hx hb hts kWs0_ok.2.1 tyX1 tyX1_ok nmX1 hown hK hP hD hS 0 rfl rfl 6 (by decide) (hts _ (kFl_ok (1, 33, 1, 6) (by decide +kernel)).1) (fun _ h9 => h9) rfl (by decide +kernel) rfl rfl (Nat.le_of_ble_eq_true rfl) dX1_init_60 (fun H locs hP hD hS => ?_)
  have hP : va_P D vwCl [(h0, .inr (1, [.ref b, .ref h1, .ref h2, .ref h3, .ref f, .int (nI 1), .int (-1), .int 0, .int 0])), (b, .inl (cB, 3072, .inl (fun _ => 0))), (h1, .inr (0, [.ref q1])), (q1, .inl (cB, 24, .inl (hd0 22))), (h2, .inr (0, [.ref q2])), (q2, .inl (cB, 24, .inl (hd0 22))), (h3, .inr (0, [.ref q3])), (q3, .inl (cB, 24, .inl (hd0 22))), (f, .inl (cB, 4, .inl (fun _ => 0)))] H := hP
  have hD : va_D A [(h0, .inr (1, [.ref b, .ref h1, .ref h2, .ref h3, .ref f, .int (nI 1), .int (-1), .int 0, .int 0])), (b, .inl (cB, 3072, .inl (fun _ => 0))), (h1, .inr (0, [.ref q1])), (q1, .inl (cB, 24, .inl (hd0 22))), (h2, .inr (0, [.ref q2])), (q2, .inl (cB, 24, .inl (hd0 22))), (h3, .inr (0, [.ref q3])), (q3, .inl (cB, 24, .inl (hd0 22))), (f, .inl (cB, 4, .inl (fun _ => 0)))] := hD
  refine lv_aload_n hx hb dX1_init_63 rfl (lv_at hl 0 rfl) ?_
  refine lv_iconst (v := nI 0) hx hb dX1_init_64 (by decide) ?_
  refine va_put (D := D) (ci := 1) (v := .int (nI 0)) (ty := tyX1 7) (C := RX1) (T := TX1) (N := 9) hx hb hts kWs0_ok.2.1 tyX1 tyX1_ok nmX1 hown hK hP hD hS 0 rfl rfl 7 (by decide) (hts _ (kFl_ok (1, 37, 1, 7) (by decide +kernel)).1) (fun _ h9 => h9) rfl (by decide +kernel) rfl rfl (Nat.le_of_ble_eq_true rfl) dX1_init_65 (fun H locs hP hD hS => ?_)
  have hP : va_P D vwCl [(h0, .inr (1, [.ref b, .ref h1, .ref h2, .ref h3, .ref f, .int (nI 1), .int (-1), .int (nI 0), .int 0])), (b, .inl (cB, 3072, .inl (fun _ => 0))), (h1, .inr (0, [.ref q1])), (q1, .inl (cB, 24, .inl (hd0 22))), (h2, .inr (0, [.ref q2])), (q2, .inl (cB, 24, .inl (hd0 22))), (h3, .inr (0, [.ref q3])), (q3, .inl (cB, 24, .inl (hd0 22))), (f, .inl (cB, 4, .inl (fun _ => 0)))] H := hP
  have hD : va_D A [(h0, .inr (1, [.ref b, .ref h1, .ref h2, .ref h3, .ref f, .int (nI 1), .int (-1), .int (nI 0), .int 0])), (b, .inl (cB, 3072, .inl (fun _ => 0))), (h1, .inr (0, [.ref q1])), (q1, .inl (cB, 24, .inl (hd0 22))), (h2, .inr (0, [.ref q2])), (q2, .inl (cB, 24, .inl (hd0 22))), (h3, .inr (0, [.ref q3])), (q3, .inl (cB, 24, .inl (hd0 22))), (f, .inl (cB, 4, .inl (fun _ => 0)))] := hD
  refine lv_aload_n hx hb dX1_init_68 rfl (lv_at hl 0 rfl) ?_
  refine lv_iconst (v := nI 0) hx hb dX1_init_69 (by decide) ?_
  refine va_put (D := D) (ci := 1) (v := .int (nI 0)) (ty := tyX1 8) (C := RX1) (T := TX1) (N := 9) hx hb hts kWs0_ok.2.1 tyX1 tyX1_ok nmX1 hown hK hP hD hS 0 rfl rfl 8 (by decide) (hts _ (kFl_ok (1, 40, 1, 8) (by decide +kernel)).1) (fun _ h9 => h9) rfl (by decide +kernel) rfl rfl (Nat.le_of_ble_eq_true rfl) dX1_init_70 (fun H locs hP hD hS => ?_)
  have hP : va_P D vwCl [(h0, .inr (1, [.ref b, .ref h1, .ref h2, .ref h3, .ref f, .int (nI 1), .int (-1), .int (nI 0), .int (nI 0)])), (b, .inl (cB, 3072, .inl (fun _ => 0))), (h1, .inr (0, [.ref q1])), (q1, .inl (cB, 24, .inl (hd0 22))), (h2, .inr (0, [.ref q2])), (q2, .inl (cB, 24, .inl (hd0 22))), (h3, .inr (0, [.ref q3])), (q3, .inl (cB, 24, .inl (hd0 22))), (f, .inl (cB, 4, .inl (fun _ => 0)))] H := hP
  have hD : va_D A [(h0, .inr (1, [.ref b, .ref h1, .ref h2, .ref h3, .ref f, .int (nI 1), .int (-1), .int (nI 0), .int (nI 0)])), (b, .inl (cB, 3072, .inl (fun _ => 0))), (h1, .inr (0, [.ref q1])), (q1, .inl (cB, 24, .inl (hd0 22))), (h2, .inr (0, [.ref q2])), (q2, .inl (cB, 24, .inl (hd0 22))), (h3, .inr (0, [.ref q3])), (q3, .inl (cB, 24, .inl (hd0 22))), (f, .inl (cB, 4, .inl (fun _ => 0)))] := hD
  have hP : va_P D vwCl (gW1 cB h0 b h1 h2 h3 q1 q2 q3 f) H := hP
  have hD : va_D A (gW1 cB h0 b h1 h2 h3 q1 q2 q3 f) := hD
  refine W.widen (k := 8) (n := 3151) (Nat.le_of_ble_eq_true rfl) (Nat.le_of_ble_eq_true rfl) ?_
  exact W.vret hx hb hr (fun t ht hW => ⟨⟨0, rfl, trivial, b, h1, q1, h2, q2, h3, q3, f, by rw [ht]; exact hP, va_K.moved hW.alike hK, hD⟩, hS.F ht⟩) hS.2.2 dX1_init_73
