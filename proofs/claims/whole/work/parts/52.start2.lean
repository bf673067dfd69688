/-! the law's start -/
def R_law : String := "MirrorGroupLaw"
def lw_P (b : Addr) (xs : List Int32) (args : Array Value) (s : State) : Prop := args = #[.ref b] ∧ s.IntsAt b xs ∧ xs.length ≤ 4096 ∧ (Jvm.Cond.and given_1 narrow_1).before args s = true
def lw_Q (_ : Array Value) (s : State) (o : Outcome) (t : State) : Prop := o = .returned (some (.int 1)) ∧ Framed s o t [] 1051 14577
def lw_Z (below : List Frame) (a : Array Value) (s : State) : State → Prop := fun t => ∃ o, t.status = .running ∧ Ended t below o ∧ lw_Q a s o t
theorem lw_ret {p : Program} {l : Launch} {e : Env} {s : State} {m : MethodId} {below : List Frame} {meth : Method} {c : Code} {b : Nat} (hx : p.tables.exec = Jvm.exec) (hb : c.code = code) (hr : meth.sig.returnType = ret) (hlocks : meth.locks = false) {pc : Nat} {H : Heap} {ls : Array Slot} (hdg : decode code pc = .ok (.ireturn, 1)) : W p l e room_1 s m #[Value.ref b] below meth c H [] 1051 14577 (lw_Z below #[Value.ref b] s) (F0 m pc ls [.int 1]) := by
  intro T hT X
  obtain ⟨fs, hret, hrun, hended, hW, hframe⟩ := X.leave (v := some (.int 1)) (hlocks := hlocks) (fun h => by rw [hr] at h; cases h)
  have hmeth' : T.vm.method? m = some meth := X.method'
  refine ⟨T.setFrames fs, ?_, .returned (some (.int 1)), hrun, hended, rfl, ⟨_, rfl⟩, hW, hframe⟩
  jvm_step X.here [X.here.top, hx, hb, hdg, hmeth', hr, ret, narrow_b1]
  (try refine ⟨rfl, ?_⟩); (try refine ⟨rfl, ?_⟩)
  first | (intro acts; rw [hret _ acts rfl rfl rfl]) | rw [hret _ _ rfl rfl rfl]
  exact Steps.refl _
def lw_At (p : Program) (s : State) (m : MethodId) (meth : Method) (c : Code) (b L : Nat) (xs : Nat → Int32) : Prop :=
  p.tables.exec = Jvm.exec ∧ c.code = code ∧ meth.sig.returnType = ret ∧ c.maxLocals = 7 ∧ s.vm.findClass R_law = some m.cls ∧ (∀ w ∈ lw_tbl, w.before #[Value.ref b] s = true) ∧ va_X b L xs s s.heap ∧ b < s.heap.size ∧ meth.locks = false ∧ (Jvm.Cond.and given_1 narrow_1).before #[Value.ref b] s = true
set_option maxHeartbeats 8000000 in
set_option maxRecDepth 100000 in
theorem whole_start {p : Program} {e : Env} {s : State} {m : MethodId} {below : List Frame} {meth : Method} {c : Code} (l : Launch) (hst : l.stackTraces = false) {b L : Nat} {xs : Nat → Int32} (hL : L ≤ 4096) (C0 : lw_At p s m meth c b L xs) : W p l e room_1 s m #[Value.ref b] below meth c s.heap [] 0 0 (lw_Z below #[Value.ref b] s) (entryFrame m ([Value.ref b] : List Value).toArray 7) := by
  obtain ⟨hx, hb, hr, hml, hown, hts0, hX, hbl, hlocks, hgv⟩ := C0
  have hb : c.code = cL_law := hb
  have hown : s.vm.findClass RL = some m.cls := hown
  have hts : ∀ w ∈ kG, w.before #[Value.ref b] s = true := fun w hw => hts0 w (List.mem_filter.mp hw).1
  have hA : ∀ q : Nat, s.heap.size ≤ q → (fun q : Nat => s.heap.size ≤ q) q := fun _ h => h
  obtain ⟨D, cI, cJ, hK⟩ := va_K_of hts
  have hS : va_S (fun q : Nat => s.heap.size ≤ q) s.heap s.heap [] := va_S.rf
  have hP : va_P D vwCl [] s.heap := fun k q h => by simp at h
  have hD : va_D (fun q : Nat => s.heap.size ≤ q) [] := ⟨fun i j p q h => by simp at h, fun k q h => by simp at h⟩
  have hl := lv_entry ([.ref b]) (n := 7) (Nat.le_of_ble_eq_true rfl)
  rw [lg_entry_eq]
  generalize (lg_sl ([.ref b]) ++ List.replicate (7 - (lg_sl ([.ref b])).length) Slot.unset).toArray = ls at hl ⊢
  have hl : lv_has ls 7 [(0, .ref b)] := hl
  refine va_new (ci := 1) (fs := [.null, .null, .null, .null, .null, .int 0, .int 0, .int 0, .int 0]) (C := RX1) (T := TX1) (N := 9) hx hb hts kWs0_ok.2.1 tyX1 tyX1_ok hown (hts _ kIn3_ok.1) (hts _ kIn2_ok.2.2.2.2.2.2.1) (hts _ kIn2_ok.2.2.2.2.2.2.2.2.1) hK hP hD hS hA rfl (fun j hj => by rcases (show j = 0 ∨ j = 1 ∨ j = 2 ∨ j = 3 ∨ j = 4 ∨ j = 5 ∨ j = 6 ∨ j = 7 ∨ j = 8 by omega) with rfl | rfl | rfl | rfl | rfl | rfl | rfl | rfl | rfl <;> rfl) (Nat.le_of_ble_eq_true rfl) (Nat.le_of_ble_eq_true rfl) dL_law_0 (fun a H hP hD hS => ?_)
  have hP : va_P D vwCl (gW0 a) H := hP
  have hD : va_D (fun q : Nat => s.heap.size ≤ q) (gW0 a) := hD
  refine lv_dup hx hb dL_law_3 rfl ?_
  have hFc := va_free (wc := gW0 a) hD hS hA [0] rfl
  refine va_callv (va_runI (As := []) (rest := [.ref a]) ⟨hx, hb, hml, hown, hts⟩ (c_Grp l D cI cJ a H.size) (cwI 0 hts wG_in rfl rfl rfl (hts _ kIn2_ok.2.2.2.2.2.2.2.2.1) (hts _ kIn3_ok.2.2.1) (hts _ kIn2_ok.2.2.2.2.2.2.2.2.2.2.2.2.1) rfl (by decide +kernel) ⟨Nat.le_of_ble_eq_true rfl, Nat.le_of_ble_eq_true rfl⟩) ⟨fun a U g mk q => by obtain ⟨q0, q1, qP, qK, qD⟩ := q; exact ⟨q0, q1, qP, va_K.moved (u := U) (U := U.calling g mk a) (Vm.Alike.refl U.vm) qK, qD⟩, fun U hU hW => ⟨rfl, by rw [hU], by rw [hU]; exact hP, va_K.moved hW.alike hK, hD.weaken (fun _ _ _ _ => trivial)⟩⟩ rfl rfl hl.1 rfl (lv_room (Nat.le_of_ble_eq_true rfl)) dL_law_4 ⟨Nat.le_of_ble_eq_true rfl, Nat.le_of_ble_eq_true rfl⟩) hS (fun q _ h => hFc q h) hFc (fun u t H1 locs ht hvm hw hB hz1 hk1 hS => ?_)
  obtain ⟨b1, h1, q1, h2, q2, h3, q3, f, hP1, hK1, hD1⟩ := hB
  rw [ht] at hP1
  obtain ⟨hP, hD⟩ := va_join (wr := []) (w1 := gW1 cI a b1 h1 h2 h3 q1 q2 q3 f) hP hD [0] [] rfl rfl (by decide) (by decide) hk1 hFc hP1 hD1
  generalize H1 = H at hP hS ⊢
  have hP : va_P D vwCl (gW1 cI a b1 h1 h2 h3 q1 q2 q3 f) H := hP
  have hD : va_D (fun q : Nat => s.heap.size ≤ q) (gW1 cI a b1 h1 h2 h3 q1 q2 q3 f) := hD
  refine W.widen (k := 9) (n := 3160) (Nat.le_of_ble_eq_true rfl) (Nat.le_of_ble_eq_true rfl) ?_
  refine lv_astore_n (lv' := [(1, .ref a), (0, .ref b)]) hx hb dL_law_7 rfl hl (by decide) rfl (fun ls hl => ?_)
  refine va_new (ci := 2) (fs := [.int 0, .null, .null, .null, .null, .int 0, .int 0, .int 0, .int 0, .null]) (C := RX2) (T := TX2) (N := 10) hx hb hts kWs0_ok.2.2 tyX2 tyX2_ok hown (hts _ kIn3_ok.2.1) (hts _ kIn2_ok.2.2.2.2.2.2.2.1) (hts _ kIn2_ok.2.2.2.2.2.2.2.2.2.1) hK hP hD hS hA rfl (fun j hj => by rcases (show j = 0 ∨ j = 1 ∨ j = 2 ∨ j = 3 ∨ j = 4 ∨ j = 5 ∨ j = 6 ∨ j = 7 ∨ j = 8 ∨ j = 9 by omega) with rfl | rfl | rfl | rfl | rfl | rfl | rfl | rfl | rfl | rfl <;> rfl) (Nat.le_of_ble_eq_true rfl) (Nat.le_of_ble_eq_true rfl) dL_law_8 (fun a2 H hP hD hS => ?_)
  have hP : va_P D vwCl (gW1 cI a b1 h1 h2 h3 q1 q2 q3 f ++ mW0 a2) H := hP
  have hD : va_D (fun q : Nat => s.heap.size ≤ q) (gW1 cI a b1 h1 h2 h3 q1 q2 q3 f ++ mW0 a2) := hD
  refine lv_dup hx hb dL_law_11 rfl ?_
  have hPc := hP.sub (ws' := mW0 a2) [9] rfl
  have hDc := hD.sub (ws' := mW0 a2) [9] (by decide) rfl
  have hFc := va_free (wc := mW0 a2) hD hS hA [9] rfl
  refine va_callv (va_runI (As := []) (rest := [.ref a2]) ⟨hx, hb, hml, hown, hts⟩ (c_Mdl l D cI cJ a2 H.size) (cwI 0 hts wM_in rfl rfl rfl (hts _ kIn2_ok.2.2.2.2.2.2.2.2.2.1) (hts _ kIn3_ok.2.2.2) (hts _ kIn2_ok.2.2.2.2.2.2.2.2.2.2.2.2.2) rfl (by decide +kernel) ⟨Nat.le_of_ble_eq_true rfl, Nat.le_of_ble_eq_true rfl⟩) ⟨fun a U g mk q => by obtain ⟨q0, q1, qP, qK, qD⟩ := q; exact ⟨q0, q1, qP, va_K.moved (u := U) (U := U.calling g mk a) (Vm.Alike.refl U.vm) qK, qD⟩, fun U hU hW => ⟨rfl, by rw [hU], by rw [hU]; exact hPc, va_K.moved hW.alike hK, hDc.weaken (fun _ _ _ _ => trivial)⟩⟩ rfl rfl hl.1 rfl (lv_room (Nat.le_of_ble_eq_true rfl)) dL_law_12 ⟨Nat.le_of_ble_eq_true rfl, Nat.le_of_ble_eq_true rfl⟩) hS (fun q _ h => hFc q h) hFc (fun u t H1 locs ht hvm hw hB hz1 hk1 hS => ?_)
  obtain ⟨b2, p1, p2, p3, f2, hP1, hK1, hD1⟩ := hB
  rw [ht] at hP1
  obtain ⟨hP, hD⟩ := va_join (wr := gW1 cI a b1 h1 h2 h3 q1 q2 q3 f) (w1 := mW1 cI a2 b2 p1 p2 p3 f2 (ho0 4) (ho0 4) (ho0 4)) hP hD [9] [0, 1, 2, 3, 4, 5, 6, 7, 8] rfl rfl (by decide) (by decide) hk1 hFc hP1 hD1
  generalize H1 = H at hP hS ⊢
  refine W.widen (k := 15) (n := 6318) (Nat.le_of_ble_eq_true rfl) (Nat.le_of_ble_eq_true rfl) ?_
  refine lv_astore_n (lv' := [(2, .ref a2), (1, .ref a), (0, .ref b)]) hx hb dL_law_15 rfl hl (by decide) rfl (fun ls hl => ?_)
  refine lv_iconst (v := nI 1) hx hb dL_law_16 (by decide) ?_
  refine va_newa (atype := .long) (n := nI 1) (N' := 1) (a0 := (1, .inr (.inl (fun _ => 0)))) hx hb (hts _ kIn_ok.2.2.2.2.2.2) rfl hK hP hD hS hA (fun _ => rfl) (by decide) (by decide) (by decide) (Nat.le_of_ble_eq_true rfl) (Nat.le_of_ble_eq_true rfl) dL_law_17 (fun o cB H hK2 hP hD hS => ?_)
  have eB : cB = cJ := by
    have e1 : s.vm.findClass ("[" ++ FieldType.long.toString) = some cB := (hK2.2 2 _ rfl).2
    have e2 : s.vm.findClass ("[" ++ FieldType.long.toString) = some cJ := (hK2.2 1 _ rfl).2
    exact Option.some.inj (e1.symm.trans e2)
  subst eB
  refine lv_astore_n (lv' := [(3, .ref o), (2, .ref a2), (1, .ref a), (0, .ref b)]) hx hb dL_law_19 rfl hl (by decide) rfl (fun ls hl => ?_)
  refine lv_iconst (v := nI 0) hx hb dL_law_20 (by decide) ?_
  refine lv_istore (lv' := [(4, .int (nI 0)), (3, .ref o), (2, .ref a2), (1, .ref a), (0, .ref b)]) hx hb dL_law_21 hl (by decide) rfl (fun ls hl => ?_)
  obtain ⟨hP, hD⟩ := sW_kW (q1 := q1) (q2 := q2) (q3 := q3) (f := f) (h1 := h1) (h2 := h2) (h3 := h3) (a := a) (b := b1) (a2 := a2) (b2 := b2) (p1 := p1) (p2 := p2) (p3 := p3) (f2 := f2) (o := o) b hP hD
  have had : ad0 a b1 q1 q2 q3 f h1 h2 h3 a2 b2 p1 p2 p3 f2 o b 16 = b := rfl
  have hl : lv_has ls 7 ((lLv 0).map (fun q => (q.1, kv (ad0 a b1 q1 q2 q3 f h1 h2 h3 a2 b2 p1 p2 p3 f2 o b) q.2))) := lv_sub hl [4, 3, 2, 1, 0] rfl
  generalize ad0 a b1 q1 q2 q3 f h1 h2 h3 a2 b2 p1 p2 p3 f2 o b = ad at hP hD had hl
  obtain ⟨hi, hge⟩ := kW_inj hD
  have hkA : ∀ q : Nat, kA ad s.heap.size q → s.heap.size ≤ q := fun q h => h.elim (fun ⟨k, h1, h2⟩ => by rw [h2]; exact hge k h1) (fun h => h)
  have hS : va_S (kA ad s.heap.size) s.heap H locs := ⟨hS.1, fun q h1 h2 => hS.2.1 q h1 (fun z => absurd z (Nat.not_le.mpr h1)), fun q hq => Or.inr (hS.2.2 q hq)⟩
  have hz := kz_of (A := kA ad s.heap.size) hgv hts0 (fun q h1 h2 => absurd (hkA q h2) (Nat.not_le.mpr h1))
  have C : yCx cL_law 7 7 600 16 6319 p l room_1 s m #[Value.ref b] c D ad cI cB := ⟨hx, hb, hml, hown, hts, hK, hz, hst, hi, Nat.le_of_ble_eq_true rfl, Nat.le_of_ble_eq_true rfl, Nat.le_of_ble_eq_true rfl, Nat.le_of_ble_eq_true rfl⟩
  have hScr : yScr s ad L true xs := fun _ => by rw [had]; exact ⟨hX, hbl, fun z => absurd (hkA b z) (Nat.not_le.mpr hbl)⟩
  refine law_loop (L := L) (xs := xs) C (kAs_of hgv hts0) hScr hL ?_ 512 0 0 M0 0 R0 (Nat.zero_le _) (Nat.zero_le _) (by omega) H locs ls hP hS hl
  rintro v M o n pc ls H locs ⟨rfl, hn⟩ hdg hP hS
  refine va_forget (fun q hq => hkA q.base (hS.2.2 q hq)) ?_
  refine W.widen (k := 1051) (n := 14577) (by omega) (by omega) ?_
  exact lw_ret hx hb hr hlocks hdg
