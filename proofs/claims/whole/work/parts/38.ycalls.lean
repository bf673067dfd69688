/-! bodies of the law's class: the computed questions are enough -/
section YK
variable {p : Program} {l : Launch} {e : Env} {R : Room} {s : State} {m : MethodId} {args : Array Value} {below : List Frame} {meth : Method} {c : Code} {D : va_G} {ad : Nat → Nat} {cI cJ : ClassId} {o : Int64} {cc : ByteArray} {nL d nm c0 s0 : Nat} {Q : State → Prop}
theorem xCode {i : Nat} (h : i < 13) : Cond.codeWith (yW i).1 (yW i).2.1 (yW i).2.2.1 (some .int) (yW i).2.2.2.1 ∈ kG := (yWs_in i h).1
theorem y_metX {i n : Nat} (C : yCx cc nL d nm c0 s0 p l R s m args c D ad cI cJ) (hA : kAs s) (hnm : n < nm) (hc : i < 13) {av : List Value} {M : kMem} {P' : Int32 → kMem → Int64 → Prop} (hC : xC d i av M o P') {T : State} {locs : List Loc} (X : Stand p l e R s m args below meth c T locs (c0 + n) (s0 + 6 * n)) (hP : va_P D vwCl (kW ad cI cJ o M) T.heap) (hS : va_S (kA ad s.heap.size) s.heap T.heap locs)
    {g : JFrame} (hg : g.method = m) (hsize : g.locals.size = c.maxLocals) {ig : Instr} (hdg : decode c.code g.pc = .ok (ig, 3)) (hW : 2 * g.monitorRoom + (g.stack.map fun v => v.category).sum ≤ 8) {mk : MethodId} (hn : T.methodNamed? (yW i).1 = some mk) :
    ∃ (k : Int32) (M' : kMem) (o' : Int64) (B : State) (L : List Loc), P' k M' o' ∧ va_P D vwCl (kW ad cI cJ o' M') B.heap ∧ va_S (kA ad s.heap.size) s.heap B.heap (locs ++ L) ∧ Stand p l e R s m args below meth c B (locs ++ L) (c0 + (n + 1)) (s0 + 6 * (n + 1)) ∧
      Steps p.tables e below (doInvoke e (T.setTop g) [] mk (av.map (kv ad)).toArray).1 (B.setTop { g with pc := g.pc + 3, stack := .int k :: g.stack }) := by
  obtain ⟨hx, hb, hml, hown, hts, hK, hz, hst, hi, r1, r2, r3, r4⟩ := C
  obtain ⟨a1, a2, a3, a4, a5, a6, a7⟩ := yWs_in i hc
  have hM := hC l D ad cI cJ hst hi
  have hat : ∀ w ∈ kG, ∀ (a' : Array Value), w.before a' T = true := fun w hw a' => kG_at hw X.warmed (hts w hw)
  have h1 : (headSpec (xWd i) (kR d)).pre.before (av.map (kv ad)).toArray T = true := atoms_intro fun w hw => (List.mem_cons.mp hw).elim (fun e9 => by rw [e9]; exact hat _ a1 _) (fun h9 => hat w h9 _)
  have h3 : (Cond.initialized (yW i).1.cls).before (av.map (kv ad)).toArray T = true := by rw [a3]; exact hat _ yRL_ok.1 _
  obtain ⟨m9, methY, cY, hn9, hmY, hcY, -, hlY, -, -, -, -⟩ := Cond.codeWith_spec (hat _ a1 #[])
  cases Option.some.inj (hn9.symm.trans hn)
  obtain ⟨kY9, hkY, -⟩ := className_of_methodNamed hn
  have hinitY : kY9.init = .initialized := Cond.initialized_spec (findClass_of_methodNamed hn) hkY h3
  have h : At T g.method c below := by rw [hg]; exact X.here
  have hrl : (headSpec (xWd i) (kR d)).room = kR d := rfl
  have hroom : (T.calling g mk (av.map (kv ad)).toArray).hasRoom e.platform (kR d) = true :=
    X.room_calling (g := g) (R' := kR d) hsize hmY hcY (by show 6 + d + 1 ≤ _; omega) (by rw [hlY]; show _ + (90 + 28 * d) ≤ _; omega) (by show _ + 1 ≤ _; omega) (by show _ + 6 ≤ _; omega)
  have happ : (headSpec (xWd i) (kR d)).appliesLoose (yW i).1 e.platform (T.calling g mk (av.map (kv ad)).toArray) = true :=
    Spec.appliesLoose_calling (g := g) h hdg hn hkY hinitY (by rw [hrl]; exact hroom) h1
  obtain ⟨mid9, hmid⟩ := h.above
  have hfr : (T.setTop g).frames = (.java g :: mid9) ++ below := by rw [State.frames_setTop' g h.top, hmid]; rfl
  have hPc : kPc D ad cI cJ o av M (av.map (kv ad)).toArray (T.calling g mk (av.map (kv ad)).toArray) ∧ kAs (T.calling g mk (av.map (kv ad)).toArray) :=
    ⟨⟨rfl, hP, va_K.moved (u := s) (U := T.calling g mk (av.map (kv ad)).toArray) X.warmed.alike hK, kz.moved (u := s) (U := T.calling g mk (av.map (kv ad)).toArray) X.warmed ((hz.kept hS.2.1).narrow (fun q hq => kA_mono hS.1 hq))⟩, hA.moved (U := T.calling g mk (av.map (kv ad)).toArray) X.warmed.alike⟩
  obtain ⟨oc, t, hsteps, -, hend, hq⟩ := Steps.callFree hM p X.admits X.cas X.clock (acts := []) hfr happ hPc trivial
  have hq' : xEnd D ad cI cJ P' (T.calling g mk (av.map (kv ad)).toArray) oc t := hq
  obtain ⟨k, M', o', rfl, hp, f1, f2, f3, L, f4, f5⟩ := hq'
  obtain ⟨B, b1, b2, X', b3, -⟩ := k_back X hg hdg hsteps hend f3 f4
  have X'' : Stand p l e R s m args below meth c B (locs ++ L) (c0 + (n + 1)) (s0 + 6 * (n + 1)) := by
    rw [show c0 + (n + 1) = c0 + n + 1 by omega, show s0 + 6 * (n + 1) = s0 + 6 * n + 6 by omega]
    exact X'
  exact ⟨k, M', o', B, L, hp, by rw [b1]; exact f1, kS_on hS (U := T.calling g mk (av.map (kv ad)).toArray) rfl f2 f5 b1, X'', b3 _ rfl⟩
/-- what the body's table of handlers does -/
def yHn (e : Env) (s : State) (m : MethodId) (c : Code) (cc : ByteArray) (nL : Nat) (Hn : Nat → String → Option Nat) : Prop :=
  ∀ pc E h, Hn pc E = some h → ∀ th, s.vm.findClass E = some th → ∃ hp i, kct e.platform s m.cls pc th hp c.exceptionTable.toList ∧ i < nL ∧ ((decode cc hp = .ok (.astore i, 2) ∧ h = hp + 2) ∨ (∃ k : Fin 4, (k : Nat) = i ∧ decode cc hp = .ok (.astore_n k, 1) ∧ h = hp + 1))
theorem yj_callV {Hn : Nat → String → Option Nat} {K : yKt} (C : yCx cc nL d nm c0 s0 p l R s m args c D ad cI cJ) (hH : yHn e s m c cc nL Hn) (hK9 : ∀ pc lv st M o n, K pc lv st M o n → yJ p l e R s m args below meth c D ad cI cJ nL c0 s0 Q pc lv st M o n)
    {pc n : Nat} {lv : List (Nat × Value)} {st : List Value} {M : kMem} {idx callee a : Nat} {fs as : List Value} (hnm : n < nm) (hd : decode cc pc = .ok (.invokevirtual idx, 3)) (hl : (idx, callee) ∈ yVl) (hv : callee ∈ kVi) (ho : kob M a = some (kO callee, fs)) (hn : as.length = kN callee) (hw : (st.map fun v => v.category).sum ≤ 8)
    (k : kC d callee (.ref a :: as) M (ygo K Hn pc lv st o n)) : yJ p l e R s m args below meth c D ad cI cJ nL c0 s0 Q pc lv (as.reverse ++ .ref a :: st) M o n := by
  intro H locs ls hP hS hll
  have hc := kVi_lt callee hv
  obtain ⟨v1, v2, v3⟩ := kVi_ok callee hv
  obtain ⟨a1, a2, a3, a4, a5, a6⟩ := kAll_ok callee hc
  have hl1 := yVl_ok _ hl
  have C' := C
  obtain ⟨hx, hb, hml, hown, hts, hK, hz, hst, hi, r1, r2, r3, r4⟩ := C
  intro T hT X
  subst hT
  obtain ⟨cellB, hcB, hoB, hclB⟩ := va_recv hK hP (ci := kO callee) (q0 := a) (kcl (kO callee) v3) (kW_at (ad := ad) (kob_ok (cI := cI) (cJ := cJ) (o := o) ho))
  have hclB : s.vm.findClass (kCn (kO callee)) = some cellB.cls := hclB
  obtain ⟨mk, methM, hnamed, hmethM, hstM, habM⟩ := Cond.instanceMethod_spec (hts _ v1)
  obtain ⟨methM', cM, hmethM', -, -, -, -, -, -, hsigM⟩ := Cond.code_spec hnamed (hts _ (kCode_in hc))
  cases hmethM.symm.trans hmethM'
  obtain ⟨c2, r2', m2, q1, q2, q3, q4, kP, hkP, hkPi⟩ := Cond.selects_spec (hts _ v2)
  cases hclB.symm.trans q1
  cases (State.methodFound?_of_named hnamed a4).symm.trans q2
  cases hnamed.symm.trans q3
  have hselP : selectMethod e.platform s.vm cellB.cls mk = .method mk := by rw [Launch.admits_selectMethod X.admits]; exact q4
  have hlen : (as.map (kv ad)).length = methM.sig.parameters.length := by
    rw [hsigM] at a5
    rw [List.length_map, hn]
    exact (Option.some.inj a5).symm
  have hdg : decode c.code pc = .ok (.invokevirtual idx, 3) := by rw [hb]; exact hd
  obtain ⟨vm₁, X₁, hstep₁⟩ := X.invokevirtual hx hown (hts _ hl1) hnamed hmethM hstM hkP hkPi a4 (a := ad a) (cell := cellB) hcB
    (fun z h => by rw [h] at hoB; cases hoB) hselP hmethM habM hkP hkPi (g := F0 m pc ls ((as.reverse ++ .ref a :: st).map (kv ad))) rfl (argsL := as.map (kv ad)) (rest := st.map (kv ad)) hlen (by simp [kv]) hdg
  rcases y_met (o := o) C' hnm hc k X₁ hP hS (g := F0 m pc ls (st.map (kv ad))) rfl (hll.1.trans hml.symm) hdg (by show 2 * 0 + _ ≤ 8; rw [Nat.zero_add]; exact kst_cat hw) (X₁.named hnamed) with ⟨v, M', B, L, hp, g1, g2, X', g3⟩ | ⟨q, E, M', ce, B, L, hp, g1, g2, X', g4, g5, g6, g3⟩
  · have hp' : K (pc + 3) lv (v.toList ++ st) M' o n := hp
    obtain ⟨t, b1, b2⟩ := hK9 _ _ _ _ _ _ hp' B.heap (locs ++ L) ls g1 g2 hll B rfl X'
    refine ⟨t, hstep₁ _ (fun acts => ?_), b2⟩
    rw [doInvoke_state]
    refine Steps.trans g3 ?_
    have e9 : (v.toList ++ st).map (kv ad) = (v.map (kv ad)).toList ++ st.map (kv ad) := by cases v <;> simp
    rw [e9] at b1
    exact b1
  · have hp' : (match Hn pc E with | some h => K h [] [] M' o (n + 1) | none => False) := hp
    cases hh : Hn pc E with
    | none => rw [hh] at hp'; exact hp'.elim
    | some h =>
      rw [hh] at hp'
      have hp' : K h [] [] M' o (n + 1) := hp'
      obtain ⟨hp0, i, hk0, hiL, hdec⟩ := hH pc E h hh ce.cls g6
      obtain ⟨vm', X2, hst2⟩ := kct_steps X' (g := F0 m pc ls (st.map (kv ad))) rfl g4 g5 (by obtain ⟨k9, h9, -⟩ := Vm.findClass_spec g6; exact ⟨k9, h9⟩) hk0
      have hW : W p l e R s m args below meth c B.heap (locs ++ L) (c0 + (n + 1)) (s0 + 6 * (n + 1)) Q (F0 m hp0 ls [.ref q]) := by
        have nil : ∀ ls' : Array Slot, ls'.size = nL → lv_has ls nL (lv.map (fun q => (q.1, kv ad q.2))) → True := fun _ _ _ => trivial
        rcases hdec with ⟨h1, h2⟩ | ⟨k9, h0, h1, h2⟩
        · subst h2
          exact lv_astore hx hb h1 hll hiL rfl (fun ls' h' => hK9 _ _ _ _ _ _ hp' B.heap (locs ++ L) ls' g1 g2 ⟨h'.1, h'.2.1, fun q hq => absurd hq List.not_mem_nil⟩)
        · subst h2
          exact lv_astore_n hx hb h1 h0 hll hiL rfl (fun ls' h' => hK9 _ _ _ _ _ _ hp' B.heap (locs ++ L) ls' g1 g2 ⟨h'.1, h'.2.1, fun q hq => absurd hq List.not_mem_nil⟩)
      obtain ⟨t, b1, b2⟩ := hW (B.setVm vm') rfl X2
      refine ⟨t, hstep₁ _ (fun acts => ?_), b2⟩
      rw [doInvoke_state]
      exact Steps.trans g3 (hst2 _ b1)
theorem yj_callS {K : yKt} (C : yCx cc nL d nm c0 s0 p l R s m args c D ad cI cJ) (hA : kAs s) (hK9 : ∀ pc lv st M o n, K pc lv st M o n → yJ p l e R s m args below meth c D ad cI cJ nL c0 s0 Q pc lv st M o n)
    {pc n : Nat} {lv : List (Nat × Value)} {st : List Value} {M : kMem} {idx i : Nat} {as : List Value} (hnm : n < nm) (hd : decode cc pc = .ok (.invokestatic idx, 3)) (hl : (idx, i) ∈ ySl) (hn : as.length = (yW i).2.2.2.2.1) (hw : (st.map fun v => v.category).sum ≤ 8)
    (k : xC d i as M o (fun k M' o' => K (pc + 3) lv (.int k :: st) M' o' (n + 1))) : yJ p l e R s m args below meth c D ad cI cJ nL c0 s0 Q pc lv (as.reverse ++ st) M o n := by
  intro H locs ls hP hS hll
  obtain ⟨hl1, hc⟩ := ySl_ok _ hl
  obtain ⟨a1, a2, a3, a4, a5, a6, a7⟩ := yWs_in i hc
  have C' := C
  obtain ⟨hx, hb, hml, hown, hts, hK, hz, hst, hi, r1, r2, r3, r4⟩ := C
  intro T hT X
  subst hT
  obtain ⟨mk, methM, cM, hnamed, hmethM, -, -, -, -, -, -, hsigM⟩ := Cond.codeWith_spec (hts _ a1)
  have hstatic : methM.isStatic = true := Cond.static_spec hnamed hmethM (hts _ a2)
  obtain ⟨kP, hkP, -⟩ := className_of_methodNamed hnamed
  have hinitP : kP.init = .initialized := Cond.initialized_spec (findClass_of_methodNamed hnamed) hkP (by rw [a3]; exact hts _ yRL_ok.1)
  have hlen : (as.map (kv ad)).length = methM.sig.parameters.length := by
    rw [hsigM] at a6
    rw [List.length_map, hn]
    exact (Option.some.inj a6).symm
  have hdg : decode c.code pc = .ok (.invokestatic idx, 3) := by rw [hb]; exact hd
  obtain ⟨vm₁, X₁, hstep₁⟩ := X.invokestatic hx hown (hts _ hl1) hnamed hmethM hstatic hkP hinitP a5 (g := F0 m pc ls ((as.reverse ++ st).map (kv ad))) rfl (argsL := as.map (kv ad)) (rest := st.map (kv ad)) hlen (by simp) hdg
  obtain ⟨k9, M', o', B, L, hp, g1, g2, X', g3⟩ := y_metX (o := o) C' hA hnm hc k X₁ hP hS (g := F0 m pc ls (st.map (kv ad))) rfl (hll.1.trans hml.symm) hdg (by show 2 * 0 + _ ≤ 8; rw [Nat.zero_add]; exact kst_cat hw) (X₁.named hnamed)
  obtain ⟨t, b1, b2⟩ := hK9 _ _ _ _ _ _ hp B.heap (locs ++ L) ls g1 g2 hll B rfl X'
  refine ⟨t, hstep₁ _ (fun acts => ?_), b2⟩
  rw [doInvoke_state]
  exact Steps.trans g3 b1
end YK
