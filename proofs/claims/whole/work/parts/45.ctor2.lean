/-! constructors: Header, its contract -/
set_option maxHeartbeats 4000000 in
set_option maxRecDepth 100000 in
theorem c_Hdr (l : Launch) (D : va_G) (cI cJ : ClassId) (h0 sz : Nat) : Met l yX0_init wH ({ frames := 1, cells := 1, slots := 24, locals := 12 }) (va_Pc [.ref h0] (fun U => U.heap.size = sz ∧ va_P D vwCl (hW0 h0) U.heap ∧ va_K D vwCl (kTy cI cJ) U ∧ va_D (fun _ => True) (hW0 h0)))
    (va_Qv (fun _ : Nat => True) (fun q t => va_P D vwCl (hW1 cI h0 q (hd0 22)) t.heap ∧ va_K D vwCl (kTy cI cJ) t ∧ va_D (va_A (hW0 h0) sz) (hW1 cI h0 q (hd0 22))) (va_A (hW0 h0) sz)) 1 24 (va_A (hW0 h0) sz) := by
  refine Met.ofW (cc := cX0_init) (maxL := 2) (ret := none) (by decide) rfl ?_
  intro p e s m args below meth c s₁ B hml hv
  obtain ⟨rfl, hsz, hP, hK, hD0⟩ := hv
  have hx := B.exec
  have hb := B.bytes
  have hr := B.returns
  have hts : ∀ w ∈ kG, w.before #[Value.ref h0] s = true := fun w hw => atoms_spec (ws := wH) B.pre w (List.mem_cons_of_mem _ hw)
  have hown : s.vm.findClass RX0 = some m.cls := findClass_of_methodNamed B.named
  have hlocks := B.notSynchronized
  have hin : meth.name = "<init>" := (name_of_methodNamed B.named B.method).1
  subst hsz
  have hD := hD0.self (sz := s.heap.size)
  generalize hAe : va_A (hW0 h0) s.heap.size = A at hD ⊢
  have hA : ∀ q : Nat, s.heap.size ≤ q → A q := fun q h => by rw [← hAe]; exact Or.inr h
  have hS : va_S A s.heap s.heap [] := va_S.rf
  have hP : va_P D vwCl (hW0 h0) s.heap := hP
  have hl := lv_entry ([.ref h0]) (n := 2) (Nat.le_of_ble_eq_true rfl)
  rw [lg_entry_eq]
  generalize (lg_sl ([.ref h0]) ++ List.replicate (2 - (lg_sl ([.ref h0])).length) Slot.unset).toArray = ls at hl ⊢
  have hl : lv_has ls 2 [(0, .ref h0)] := hl
  refine lv_aload_n hx hb dX0_init_0 rfl (lv_at hl 0 rfl) ?_
  refine W.objInit hx hb hown (hts _ kIn_ok.1) (hts _ kIn_ok.2.2.2.1) (hts _ kIn_ok.2.2.2.2.1) rfl (by rw [hml]; exact hl.1) rfl dX0_init_1 (Nat.le_of_ble_eq_true rfl) (Nat.le_of_ble_eq_true rfl) ?_
  refine W.eq (g2 := F0 m 4 ls []) rfl ?_
  refine lv_aload_n hx hb dX0_init_4 rfl (lv_at hl 0 rfl) ?_
  refine lv_bipush (v := nI 24) hx hb dX0_init_5 (by decide) ?_
  refine va_newa (atype := .int) (n := nI 24) (N' := 24) (a0 := (24, .inl (fun _ => 0))) hx hb (hts _ kIn_ok.2.2.2.2.2.1) rfl hK hP hD hS hA (fun _ => rfl) (by decide) (by decide) (by decide) (Nat.le_of_ble_eq_true rfl) (Nat.le_of_ble_eq_true rfl) dX0_init_7 (fun q cA H hK2 hP hD hS => ?_)
  have eA : cA = cI := va_one hK2 (i := 2) (j := 0) rfl rfl
  subst eA
  have hP : va_P D vwCl [(h0, .inr (0, [.null])), (q, .inl (cA, 24, .inl (fun _ => 0)))] H := hP
  have hD : va_D A [(h0, .inr (0, [.null])), (q, .inl (cA, 24, .inl (fun _ => 0)))] := hD
  refine va_putF (D := D) (ci := 0) (v := .ref q) (ty := tyX0 0) (C := RX0) (T := TX0) (N := 1) hx hb hts kWs0_ok.1 tyX0 tyX0_ok nmX0 hown hK hP hD hS 0 rfl rfl 0 (by decide) (hts _ (kFl_ok (0, 11, 0, 0) (by decide +kernel)).1) (fun _ h9 => h9) rfl hin rfl (by decide +kernel) rfl rfl (Nat.le_of_ble_eq_true rfl) dX0_init_9 (fun H locs hP hD hS => ?_)
  have hP : va_P D vwCl (hW1 cA h0 q (fun _ => 0)) H := hP
  have hD : va_D A (hW1 cA h0 q (fun _ => 0)) := hD
  rw [← hd0_0] at hP hD
  refine lv_iconst (v := nI 2) hx hb dX0_init_12 (by decide) ?_
  refine lv_istore_n (lv' := [(1, .int (nI 2)), (0, .ref h0)]) hx hb dX0_init_13 rfl hl (by decide) rfl (fun ls hl => ?_)
  refine c_Hdr_loop hx hb hts hown hK (fun H locs ls hP hD hS => ?_) 22 0 (nI 2) H locs ls rfl rfl hP hD hS hl
  refine W.widen (k := 1) (n := 24) (Nat.le_of_ble_eq_true rfl) (Nat.le_of_ble_eq_true rfl) ?_
  exact W.vret hx hb hr (fun t ht hW => ⟨⟨q, rfl, trivial, by rw [ht]; exact hP, va_K.moved hW.alike hK, hD⟩, hS.F ht⟩) hS.2.2 dX0_init_33
