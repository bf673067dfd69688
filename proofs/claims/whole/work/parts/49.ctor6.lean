/-! constructors: MirrorGroupModel, its contract -/
set_option maxHeartbeats 8000000 in
set_option maxRecDepth 100000 in
theorem c_Mdl (l : Launch) (D : va_G) (cI cJ : ClassId) (h0 sz : Nat) : Met l yX2_init wM ({ frames := 1, cells := 5, slots := 3148, locals := 12 }) (va_Pc [.ref h0] (fun U => U.heap.size = sz ∧ va_P D vwCl (mW0 h0) U.heap ∧ va_K D vwCl (kTy cI cJ) U ∧ va_D (fun _ => True) (mW0 h0)))
    (va_Qv (fun _ : Nat => True) (fun _ t => ∃ b q1 q2 q3 f, va_P D vwCl (mW1 cI h0 b q1 q2 q3 f (ho0 4) (ho0 4) (ho0 4)) t.heap ∧ va_K D vwCl (kTy cI cJ) t ∧ va_D (va_A (mW0 h0) sz) (mW1 cI h0 b q1 q2 q3 f (ho0 4) (ho0 4) (ho0 4))) (va_A (mW0 h0) sz)) 5 3148 (va_A (mW0 h0) sz) := by
  refine Met.ofW (cc := cX2_init) (maxL := 2) (ret := none) (by decide) rfl ?_
  intro p e s m args below meth c s₁ B hml hv
  obtain ⟨rfl, hsz, hP, hK, hD0⟩ := hv
  have hx := B.exec
  have hb := B.bytes
  have hr := B.returns
  have hts : ∀ w ∈ kG, w.before #[Value.ref h0] s = true := fun w hw => atoms_spec (ws := wM) B.pre w (List.mem_cons_of_mem _ hw)
  have hown : s.vm.findClass RX2 = some m.cls := findClass_of_methodNamed B.named
  have hlocks := B.notSynchronized
  have hin : meth.name = "<init>" := (name_of_methodNamed B.named B.method).1
  subst hsz
  have hD := hD0.self (sz := s.heap.size)
  generalize hAe : va_A (mW0 h0) s.heap.size = A at hD ⊢
  have hA : ∀ q : Nat, s.heap.size ≤ q → A q := fun q h => by rw [← hAe]; exact Or.inr h
  have hS : va_S A s.heap s.heap [] := va_S.rf
  have hP : va_P D vwCl (mW0 h0) s.heap := hP
  have hl := lv_entry ([.ref h0]) (n := 2) (Nat.le_of_ble_eq_true rfl)
  rw [lg_entry_eq]
  generalize (lg_sl ([.ref h0]) ++ List.replicate (2 - (lg_sl ([.ref h0])).length) Slot.unset).toArray = ls at hl ⊢
  have hl : lv_has ls 2 [(0, .ref h0)] := hl
  refine lv_aload_n hx hb dX2_init_0 rfl (lv_at hl 0 rfl) ?_
  refine W.objInit hx hb hown (hts _ kIn_ok.2.2.1) (hts _ kIn_ok.2.2.2.1) (hts _ kIn_ok.2.2.2.2.1) rfl (by rw [hml]; exact hl.1) rfl dX2_init_1 (Nat.le_of_ble_eq_true rfl) (Nat.le_of_ble_eq_true rfl) ?_
  refine W.eq (g2 := F0 m 4 ls []) rfl ?_
  refine lv_aload_n hx hb dX2_init_4 rfl (lv_at hl 0 rfl) ?_
  refine lv_sipush (v := nI 3072) hx hb dX2_init_5 (by decide) ?_
  refine va_newa (atype := .int) (n := nI 3072) (N' := 3072) (a0 := (3072, .inl (fun _ => 0))) hx hb (hts _ kIn_ok.2.2.2.2.2.1) rfl hK hP hD hS hA (fun _ => rfl) (by decide) (by decide) (by decide) (Nat.le_of_ble_eq_true rfl) (Nat.le_of_ble_eq_true rfl) dX2_init_8 (fun b c0 H hK2 hP hD hS => ?_)
  have eA : c0 = cI := va_one hK2 (i := 2) (j := 0) rfl rfl
  subst eA
  have hP : va_P D vwCl [(h0, .inr (2, [.int 0, .null, .null, .null, .null, .int 0, .int 0, .int 0, .int 0, .null])), (b, .inl (c0, 3072, .inl (fun _ => 0)))] H := hP
  have hD : va_D A [(h0, .inr (2, [.int 0, .null, .null, .null, .null, .int 0, .int 0, .int 0, .int 0, .null])), (b, .inl (c0, 3072, .inl (fun _ => 0)))] := hD
  refine va_putF (D := D) (ci := 2) (v := .ref b) (ty := tyX2 1) (C := RX2) (T := TX2) (N := 10) hx hb hts kWs0_ok.2.2 tyX2 tyX2_ok nmX2 hown hK hP hD hS 0 rfl rfl 1 (by decide) (hts _ (kFl_ok (2, 7, 2, 1) (by decide +kernel)).1) (fun _ h9 => h9) rfl hin rfl (by decide +kernel) rfl rfl (Nat.le_of_ble_eq_true rfl) dX2_init_10 (fun H locs hP hD hS => ?_)
  have hP : va_P D vwCl [(h0, .inr (2, [.int 0, .ref b, .null, .null, .null, .int 0, .int 0, .int 0, .int 0, .null])), (b, .inl (c0, 3072, .inl (fun _ => 0)))] H := hP
  have hD : va_D A [(h0, .inr (2, [.int 0, .ref b, .null, .null, .null, .int 0, .int 0, .int 0, .int 0, .null])), (b, .inl (c0, 3072, .inl (fun _ => 0)))] := hD
  refine lv_aload_n hx hb dX2_init_13 rfl (lv_at hl 0 rfl) ?_
  refine lv_bipush (v := nI 24) hx hb dX2_init_14 (by decide) ?_
  refine va_newa (atype := .int) (n := nI 24) (N' := 24) (a0 := (24, .inl (fun _ => 0))) hx hb (hts _ kIn_ok.2.2.2.2.2.1) rfl hK hP hD hS hA (fun _ => rfl) (by decide) (by decide) (by decide) (Nat.le_of_ble_eq_true rfl) (Nat.le_of_ble_eq_true rfl) dX2_init_16 (fun q1 c1 H hK2 hP hD hS => ?_)
  have eA : c1 = c0 := va_one hK2 (i := 2) (j := 0) rfl rfl
  subst eA
  have hP : va_P D vwCl [(h0, .inr (2, [.int 0, .ref b, .null, .null, .null, .int 0, .int 0, .int 0, .int 0, .null])), (b, .inl (c1, 3072, .inl (fun _ => 0))), (q1, .inl (c1, 24, .inl (fun _ => 0)))] H := hP
  have hD : va_D A [(h0, .inr (2, [.int 0, .ref b, .null, .null, .null, .int 0, .int 0, .int 0, .int 0, .null])), (b, .inl (c1, 3072, .inl (fun _ => 0))), (q1, .inl (c1, 24, .inl (fun _ => 0)))] := hD
  refine va_putF (D := D) (ci := 2) (v := .ref q1) (ty := tyX2 2) (C := RX2) (T := TX2) (N := 10) hx hb hts kWs0_ok.2.2 tyX2 tyX2_ok nmX2 hown hK hP hD hS 0 rfl rfl 2 (by decide) (hts _ (kFl_ok (2, 13, 2, 2) (by decide +kernel)).1) (fun _ h9 => h9) rfl hin rfl (by decide +kernel) rfl rfl (Nat.le_of_ble_eq_true rfl) dX2_init_18 (fun H locs hP hD hS => ?_)
  have hP : va_P D vwCl [(h0, .inr (2, [.int 0, .ref b, .ref q1, .null, .null, .int 0, .int 0, .int 0, .int 0, .null])), (b, .inl (c1, 3072, .inl (fun _ => 0))), (q1, .inl (c1, 24, .inl (fun _ => 0)))] H := hP
  have hD : va_D A [(h0, .inr (2, [.int 0, .ref b, .ref q1, .null, .null, .int 0, .int 0, .int 0, .int 0, .null])), (b, .inl (c1, 3072, .inl (fun _ => 0))), (q1, .inl (c1, 24, .inl (fun _ => 0)))] := hD
  refine lv_aload_n hx hb dX2_init_21 rfl (lv_at hl 0 rfl) ?_
  refine lv_bipush (v := nI 24) hx hb dX2_init_22 (by decide) ?_
  refine va_newa (atype := .int) (n := nI 24) (N' := 24) (a0 := (24, .inl (fun _ => 0))) hx hb (hts _ kIn_ok.2.2.2.2.2.1) rfl hK hP hD hS hA (fun _ => rfl) (by decide) (by decide) (by decide) (Nat.le_of_ble_eq_true rfl) (Nat.le_of_ble_eq_true rfl) dX2_init_24 (fun q2 c2 H hK2 hP hD hS => ?_)
  have eA : c2 = c1 := va_one hK2 (i := 2) (j := 0) rfl rfl
  subst eA
  have hP : va_P D vwCl [(h0, .inr (2, [.int 0, .ref b, .ref q1, .null, .null, .int 0, .int 0, .int 0, .int 0, .null])), (b, .inl (c2, 3072, .inl (fun _ => 0))), (q1, .inl (c2, 24, .inl (fun _ => 0))), (q2, .inl (c2, 24, .inl (fun _ => 0)))] H := hP
  have hD : va_D A [(h0, .inr (2, [.int 0, .ref b, .ref q1, .null, .null, .int 0, .int 0, .int 0, .int 0, .null])), (b, .inl (c2, 3072, .inl (fun _ => 0))), (q1, .inl (c2, 24, .inl (fun _ => 0))), (q2, .inl (c2, 24, .inl (fun _ => 0)))] := hD
  refine va_putF (D := D) (ci := 2) (v := .ref q2) (ty := tyX2 3) (C := RX2) (T := TX2) (N := 10) hx hb hts kWs0_ok.2.2 tyX2 tyX2_ok nmX2 hown hK hP hD hS 0 rfl rfl 3 (by decide) (hts _ (kFl_ok (2, 16, 2, 3) (by decide +kernel)).1) (fun _ h9 => h9) rfl hin rfl (by decide +kernel) rfl rfl (Nat.le_of_ble_eq_true rfl) dX2_init_26 (fun H locs hP hD hS => ?_)
  have hP : va_P D vwCl [(h0, .inr (2, [.int 0, .ref b, .ref q1, .ref q2, .null, .int 0, .int 0, .int 0, .int 0, .null])), (b, .inl (c2, 3072, .inl (fun _ => 0))), (q1, .inl (c2, 24, .inl (fun _ => 0))), (q2, .inl (c2, 24, .inl (fun _ => 0)))] H := hP
  have hD : va_D A [(h0, .inr (2, [.int 0, .ref b, .ref q1, .ref q2, .null, .int 0, .int 0, .int 0, .int 0, .null])), (b, .inl (c2, 3072, .inl (fun _ => 0))), (q1, .inl (c2, 24, .inl (fun _ => 0))), (q2, .inl (c2, 24, .inl (fun _ => 0)))] := hD
  refine lv_aload_n hx hb dX2_init_29 rfl (lv_at hl 0 rfl) ?_
  refine lv_bipush (v := nI 24) hx hb dX2_init_30 (by decide) ?_
  refine va_newa (atype := .int) (n := nI 24) (N' := 24) (a0 := (24, .inl (fun _ => 0))) hx hb (hts _ kIn_ok.2.2.2.2.2.1) rfl hK hP hD hS hA (fun _ => rfl) (by decide) (by decide) (by decide) (Nat.le_of_ble_eq_true rfl) (Nat.le_of_ble_eq_true rfl) dX2_init_32 (fun q3 c3 H hK2 hP hD hS => ?_)
  have eA : c3 = c2 := va_one hK2 (i := 2) (j := 0) rfl rfl
  subst eA
  have hP : va_P D vwCl [(h0, .inr (2, [.int 0, .ref b, .ref q1, .ref q2, .null, .int 0, .int 0, .int 0, .int 0, .null])), (b, .inl (c3, 3072, .inl (fun _ => 0))), (q1, .inl (c3, 24, .inl (fun _ => 0))), (q2, .inl (c3, 24, .inl (fun _ => 0))), (q3, .inl (c3, 24, .inl (fun _ => 0)))] H := hP
  have hD : va_D A [(h0, .inr (2, [.int 0, .ref b, .ref q1, .ref q2, .null, .int 0, .int 0, .int 0, .int 0, .null])), (b, .inl (c3, 3072, .inl (fun _ => 0))), (q1, .inl (c3, 24, .inl (fun _ => 0))), (q2, .inl (c3, 24, .inl (fun _ => 0))), (q3, .inl (c3, 24, .inl (fun _ => 0)))] := hD
  refine va_putF (D := D) (ci := 2) (v := .ref q3) (ty := tyX2 4) (C := RX2) (T := TX2) (N := 10) hx hb hts kWs0_ok.2.2 tyX2 tyX2_ok nmX2 hown hK hP hD hS 0 rfl rfl 4 (by decide) (hts _ (kFl_ok (2, 19, 2, 4) (by decide +kernel)).1) (fun _ h9 => h9) rfl hin rfl (by decide +kernel) rfl rfl (Nat.le_of_ble_eq_true rfl) dX2_init_34 (fun H locs hP hD hS => ?_)
  have hP : va_P D vwCl [(h0, .inr (2, [.int 0, .ref b, .ref q1, .ref q2, .ref q3, .int 0, .int 0, .int 0, .int 0, .null])), (b, .inl (c3, 3072, .inl (fun _ => 0))), (q1, .inl (c3, 24, .inl (fun _ => 0))), (q2, .inl (c3, 24, .inl (fun _ => 0))), (q3, .inl (c3, 24, .inl (fun _ => 0)))] H := hP
  have hD : va_D A [(h0, .inr (2, [.int 0, .ref b, .ref q1, .ref q2, .ref q3, .int 0, .int 0, .int 0, .int 0, .null])), (b, .inl (c3, 3072, .inl (fun _ => 0))), (q1, .inl (c3, 24, .inl (fun _ => 0))), (q2, .inl (c3, 24, .inl (fun _ => 0))), (q3, .inl (c3, 24, .inl (fun _ => 0)))] := hD
  refine lv_aload_n hx hb dX2_init_37 rfl (lv_at hl 0 rfl) ?_
  refine lv_iconst (v := -1) hx hb dX2_init_38 (by decide) ?_
  refine va_put (D := D) (ci := 2) (v := .int (-1)) (ty := tyX2 6) (C := RX2) (T := TX2) (N := 10) hx hb hts kWs0_ok.2.2 tyX2 tyX2_ok nmX2 hown hK hP hD hS 0 rfl rfl 6 (by decide) (hts _ (kFl_ok (2, 22, 2, 6) (by decide +kernel)).1) (fun _ h9 => h9) rfl (by decide +kernel) rfl rfl (Nat.le_of_ble_eq_true rfl) dX2_init_39 (fun H locs hP hD hS => ?_)
  have hP : va_P D vwCl [(h0, .inr (2, [.int 0, .ref b, .ref q1, .ref q2, .ref q3, .int 0, .int (-1), .int 0, .int 0, .null])), (b, .inl (c3, 3072, .inl (fun _ => 0))), (q1, .inl (c3, 24, .inl (fun _ => 0))), (q2, .inl (c3, 24, .inl (fun _ => 0))), (q3, .inl (c3, 24, .inl (fun _ => 0)))] H := hP
  have hD : va_D A [(h0, .inr (2, [.int 0, .ref b, .ref q1, .ref q2, .ref q3, .int 0, .int (-1), .int 0, .int 0, .null])), (b, .inl (c3, 3072, .inl (fun _ => 0))), (q1, .inl (c3, 24, .inl (fun _ => 0))), (q2, .inl (c3, 24, .inl (fun _ => 0))), (q3, .inl (c3, 24, .inl (fun _ => 0)))] := hD
  refine lv_aload_n hx hb dX2_init_42 rfl (lv_at hl 0 rfl) ?_
  refine lv_iconst (v := nI 4) hx hb dX2_init_43 (by decide) ?_
  refine va_newa (atype := .int) (n := nI 4) (N' := 4) (a0 := (4, .inl (fun _ => 0))) hx hb (hts _ kIn_ok.2.2.2.2.2.1) rfl hK hP hD hS hA (fun _ => rfl) (by decide) (by decide) (by decide) (Nat.le_of_ble_eq_true rfl) (Nat.le_of_ble_eq_true rfl) dX2_init_44 (fun f c4 H hK2 hP hD hS => ?_)
  have eA : c4 = c3 := va_one hK2 (i := 2) (j := 0) rfl rfl
  subst eA
  have hP : va_P D vwCl [(h0, .inr (2, [.int 0, .ref b, .ref q1, .ref q2, .ref q3, .int 0, .int (-1), .int 0, .int 0, .null])), (b, .inl (c4, 3072, .inl (fun _ => 0))), (q1, .inl (c4, 24, .inl (fun _ => 0))), (q2, .inl (c4, 24, .inl (fun _ => 0))), (q3, .inl (c4, 24, .inl (fun _ => 0))), (f, .inl (c4, 4, .inl (fun _ => 0)))] H := hP
  have hD : va_D A [(h0, .inr (2, [.int 0, .ref b, .ref q1, .ref q2, .ref q3, .int 0, .int (-1), .int 0, .int 0, .null])), (b, .inl (c4, 3072, .inl (fun _ => 0))), (q1, .inl (c4, 24, .inl (fun _ => 0))), (q2, .inl (c4, 24, .inl (fun _ => 0))), (q3, .inl (c4, 24, .inl (fun _ => 0))), (f, .inl (c4, 4, .inl (fun _ => 0)))] := hD
  refine va_putF (D := D) (ci := 2) (v := .ref f) (ty := tyX2 9) (C := RX2) (T := TX2) (N := 10) hx hb hts kWs0_ok.2.2 tyX2 tyX2_ok nmX2 hown hK hP hD hS 0 rfl rfl 9 (by decide) (hts _ (kFl_ok (2, 26, 2, 9) (by decide +kernel)).1) (fun _ h9 => h9) rfl hin rfl (by decide +kernel) rfl rfl (Nat.le_of_ble_eq_true rfl) dX2_init_46 (fun H locs hP hD hS => ?_)
  have hP : va_P D vwCl [(h0, .inr (2, [.int 0, .ref b, .ref q1, .ref q2, .ref q3, .int 0, .int (-1), .int 0, .int 0, .ref f])), (b, .inl (c4, 3072, .inl (fun _ => 0))), (q1, .inl (c4, 24, .inl (fun _ => 0))), (q2, .inl (c4, 24, .inl (fun _ => 0))), (q3, .inl (c4, 24, .inl (fun _ => 0))), (f, .inl (c4, 4, .inl (fun _ => 0)))] H := hP
  have hD : va_D A [(h0, .inr (2, [.int 0, .ref b, .ref q1, .ref q2, .ref q3, .int 0, .int (-1), .int 0, .int 0, .ref f])), (b, .inl (c4, 3072, .inl (fun _ => 0))), (q1, .inl (c4, 24, .inl (fun _ => 0))), (q2, .inl (c4, 24, .inl (fun _ => 0))), (q3, .inl (c4, 24, .inl (fun _ => 0))), (f, .inl (c4, 4, .inl (fun _ => 0)))] := hD
  have hP : va_P D vwCl (mW1 c4 h0 b q1 q2 q3 f (fun _ => 0) (fun _ => 0) (fun _ => 0)) H := hP
  have hD : va_D A (mW1 c4 h0 b q1 q2 q3 f (fun _ => 0) (fun _ => 0) (fun _ => 0)) := hD
  have hP : va_P D vwCl (mW1 c4 h0 b q1 q2 q3 f (ho0 0) (ho0 0) (ho0 0)) H := by rw [ho0_0]; exact hP
  have hD : va_D A (mW1 c4 h0 b q1 q2 q3 f (ho0 0) (ho0 0) (ho0 0)) := by rw [ho0_0]; exact hD
  refine lv_bipush (v := nI 20) hx hb dX2_init_49 (by decide) ?_
  refine lv_istore_n (lv' := [(1, .int (nI 20)), (0, .ref h0)]) hx hb dX2_init_51 rfl hl (by decide) rfl (fun ls hl => ?_)
  refine c_Mdl_loop hx hb hts hown hK (fun H locs ls hP hD hS => ?_) 4 0 (nI 20) H locs ls rfl rfl hP hD hS hl
  refine W.widen (k := 5) (n := 3148) (Nat.le_of_ble_eq_true rfl) (Nat.le_of_ble_eq_true rfl) ?_
  exact W.vret hx hb hr (fun t ht hW => ⟨⟨0, rfl, trivial, b, q1, q2, q3, f, by rw [ht]; exact hP, va_K.moved hW.alike hK, hD⟩, hS.F ht⟩) hS.2.2 dX2_init_85
