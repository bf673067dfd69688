/-! rows of the judgement: calls by contract, a method's body -/
theorem kVi_lt : ∀ i ∈ kVi, i < 118 := by decide +kernel
theorem kSi_lt : ∀ i ∈ kSi, i < 118 := by decide +kernel
section KL
variable {p : Program} {l : Launch} {e : Env} {R : Room} {s : State} {m : MethodId} {args : Array Value} {below : List Frame} {meth : Method} {c : Code} {D : va_G} {ad : Nat → Nat} {cI cJ : ClassId} {o : Int64}
theorem kS_on {T t : State} {locs L : List Loc} (hS : va_S (kA ad s.heap.size) s.heap T.heap locs) {U : State} (hU : U.heap = T.heap) (hF : va_F (kA ad U.heap.size) U t) (hL : ∀ q ∈ L, kA ad U.heap.size q.base) {B : State} (hB : B.heap = t.heap) : va_S (kA ad s.heap.size) s.heap B.heap (locs ++ L) := by
  rw [hU] at hL
  obtain ⟨f1, f2⟩ := hF
  rw [hU] at f1 f2
  refine ⟨Nat.le_trans hS.1 (by rw [hB]; exact f1), fun q h1 h2 => ?_, fun q hq => ?_⟩
  · rw [hB, f2 q (Nat.lt_of_lt_of_le h1 hS.1) (fun z => h2 (kA_mono hS.1 z))]
    exact hS.2.1 q h1 h2
  · rcases List.mem_append.mp hq with h | h
    · exact hS.2.2 q h
    · exact kA_mono hS.1 (hL q h)
theorem k_met {d mid callee : Nat} (C : kCx (d + 1) mid p l R s m args meth c D ad cI cJ) (hc : callee < 118) {av : List Value} {M : kMem} {P' : kRes → Prop} (hC : kC d callee av M P') {T : State} {locs : List Loc} (X : Stand p l e R s m args below meth c T locs 0 0) (hP : va_P D vwCl (kW ad cI cJ o M) T.heap) (hS : va_S (kA ad s.heap.size) s.heap T.heap locs)
    {g : JFrame} (hg : g.method = m) (hsize : g.locals.size = c.maxLocals) {ig : Instr} (hdg : decode c.code g.pc = .ok (ig, 3)) (hW : 2 * g.monitorRoom + (g.stack.map fun v => v.category).sum ≤ 8) {mk : MethodId} (hn : T.methodNamed? (kY callee) = some mk) :
    (∃ (v : Option Value) (M' : kMem) (B : State) (L : List Loc), P' (.inl (v, M')) ∧ va_P D vwCl (kW ad cI cJ o M') B.heap ∧ va_S (kA ad s.heap.size) s.heap B.heap (locs ++ L) ∧ Stand p l e R s m args below meth c B (locs ++ L) 0 0 ∧
      Steps p.tables e below (doInvoke e (T.setTop g) [] mk (av.map (kv ad)).toArray).1 (B.setTop { g with pc := g.pc + 3, stack := (v.map (kv ad)).toList ++ g.stack })) ∨
    (∃ (q : Addr) (E : String) (M' : kMem) (ce : Cell) (B : State) (L : List Loc), P' (.inr (E, M')) ∧ va_P D vwCl (kW ad cI cJ o M') B.heap ∧ va_S (kA ad s.heap.size) s.heap B.heap (locs ++ L) ∧ Stand p l e R s m args below meth c B (locs ++ L) 1 6 ∧ B.heap[q]? = some ce ∧ ce.vm = .none ∧ s.vm.findClass E = some ce.cls ∧
      Steps p.tables e below (doInvoke e (T.setTop g) [] mk (av.map (kv ad)).toArray).1 ((B.setTop g).pushFrame (.throwing q))) := by
  obtain ⟨hx, hb, hml, hown, hts, hK, hz, hlk, htab, hst, hrt, hR, hi⟩ := C
  subst hR
  obtain ⟨a1, a2, a3, a4, a5, a6⟩ := kAll_ok callee hc
  have hM := hC l D ad cI cJ o hst hi
  have hat : ∀ w ∈ kG, ∀ (a' : Array Value), w.before a' T = true := fun w hw a' => kG_at hw X.warmed (hts w hw)
  have h1 : (headSpec (kWs callee) (kR d)).pre.before (av.map (kv ad)).toArray T = true := atoms_intro fun w hw => (List.mem_cons.mp hw).elim (fun e9 => by rw [e9]; exact hat _ (kCode_in hc) _) (fun h9 => hat w h9 _)
  have h2 : (Cond.code (kY callee) (kB callee) (kL callee) (kRt callee)).before (av.map (kv ad)).toArray T = true := hat _ (kCode_in hc) _
  have h3 : (Cond.initialized (kY callee).cls).before (av.map (kv ad)).toArray T = true := by rw [a2]; exact hat _ a1 _
  obtain ⟨methY, cY, hmY, hcY, -, hlY, -, -, -, -⟩ := Cond.code_spec hn h2
  obtain ⟨kY9, hkY, -⟩ := className_of_methodNamed hn
  have hinitY : kY9.init = .initialized := Cond.initialized_spec (findClass_of_methodNamed hn) hkY h3
  have h : At T g.method c below := by rw [hg]; exact X.here
  have hrl : (headSpec (kWs callee) (kR d)).room = kR d := rfl
  have happ : (headSpec (kWs callee) (kR d)).appliesLoose (kY callee) e.platform (T.calling g mk (av.map (kv ad)).toArray) = true :=
    Spec.appliesLoose_calling (g := g) h hdg hn hkY hinitY
      (X.room_calling (g := g) (R' := (headSpec (kWs callee) (kR d)).room) hsize hmY hcY (by rw [hrl]; show 6 + d + 1 ≤ 6 + (d + 1); omega) (by rw [hlY, hrl]; show _ + (90 + 28 * d) ≤ 90 + 28 * (d + 1); omega) (by rw [hrl]; exact Nat.le_refl _) (by rw [hrl]; exact Nat.le_refl _)) h1
  obtain ⟨mid9, hmid⟩ := h.above
  have hfr : (T.setTop g).frames = (.java g :: mid9) ++ below := by rw [State.frames_setTop' g h.top, hmid]; rfl
  have hPc : kPc D ad cI cJ o av M (av.map (kv ad)).toArray (T.calling g mk (av.map (kv ad)).toArray) :=
    ⟨rfl, hP, va_K.moved (u := s) (U := T.calling g mk (av.map (kv ad)).toArray) X.warmed.alike hK, kz.moved (u := s) (U := T.calling g mk (av.map (kv ad)).toArray) X.warmed ((hz.kept hS.2.1).narrow (fun q hq => kA_mono hS.1 hq))⟩
  obtain ⟨oc, t, hsteps, -, hend, hq⟩ := Steps.callFree hM p X.admits X.cas X.clock (acts := []) hfr happ hPc trivial
  have hq' : kEnd D ad cI cJ o P' (T.calling g mk (av.map (kv ad)).toArray) oc t := hq
  rcases hq' with ⟨v, M', rfl, hp, f1, f2, f3, L, f4, f5⟩ | ⟨q, E, M', ce, rfl, hp, hce, hcv, hcl, f1, f2, f3, L, f4, f5⟩
  · obtain ⟨B, b1, b2, X', b3, -⟩ := k_back X hg hdg hsteps hend f3 f4
    exact Or.inl ⟨v, M', B, L, hp, by rw [b1]; exact f1, kS_on hS (U := T.calling g mk (av.map (kv ad)).toArray) rfl f2 f5 b1, X', b3 _ rfl⟩
  · obtain ⟨B, b1, b2, X', -, b3⟩ := k_back X hg hdg hsteps hend f3 f4
    have hcl' : s.vm.findClass E = some ce.cls := by
      have h9 : T.vm.findClass E = some ce.cls := hcl
      rw [X.warmed.alike.findClass] at h9
      exact h9
    exact Or.inr ⟨q, E, M', ce, B, L, hp, by rw [b1]; exact f1, kS_on hS (U := T.calling g mk (av.map (kv ad)).toArray) rfl f2 f5 b1, X', by rw [b1]; exact hce, hcv, hcl', b3 _ rfl⟩
/-- thrown by a callee, and not caught: the method throws it on -/
theorem k_on {d mid : Nat} {P : kRes → Prop} (C : kCx d mid p l R s m args meth c D ad cI cJ) {B : State} {locs : List Loc} (X : Stand p l e R s m args below meth c B locs 1 6) {q : Addr} {E : String} {M : kMem} {ce : Cell} (hp : P (.inr (E, M))) (hP : va_P D vwCl (kW ad cI cJ o M) B.heap) (hS : va_S (kA ad s.heap.size) s.heap B.heap locs) (hce : B.heap[q]? = some ce) (hcv : ce.vm = .none) (hcl : s.vm.findClass E = some ce.cls) {g : JFrame} (hg : g.method = m) (hl : g.locked = none) (he : g.entered = []) :
    ∃ t, Steps p.tables e below ((B.setTop g).pushFrame (.throwing q)) t ∧ kMQ below D ad cI cJ o P s t := by
  obtain ⟨hx, hb, hml, hown, hts, hK, hz, hlk, htab, hst, hrt, hR, hi⟩ := C
  obtain ⟨h1, h2, h3, h4, h5⟩ := X.leaveThrown q (g := g) hg hl he (fun x hx => (htab x hx).elim) hlk
  exact ⟨_, h1, _, h2, h3, Or.inr ⟨q, E, M, ce, rfl, hp, hce, hcv, hcl, hP, hS.F rfl, h4, _, h5, hS.2.2⟩⟩
end KL
section KK
variable {d mid : Nat} {P : kRes → Prop} {pc : Nat} {lv : List (Nat × Value)} {st : List Value} {M : kMem}
/-- what is left to do behind a call -/
def kgo (d mid : Nat) (P : kRes → Prop) (K : Nat → List (Nat × Value) → List Value → kMem → Prop) (pc : Nat) (lv : List (Nat × Value)) (st : List Value) : kRes → Prop := fun r => match r with
  | .inl q => K (pc + 3) lv (q.1.toList ++ st) q.2
  | .inr q => P (.inr q)
theorem kst_cat {ad : Nat → Nat} (hw : (st.map fun v => v.category).sum ≤ 8) : ((st.map (kv ad)).map fun v => v.category).sum ≤ 8 := by
  have e1 : ((st.map (kv ad)).map fun v => v.category) = st.map fun v => v.category := by
    rw [List.map_map]
    exact List.map_congr_left fun v _ => kv_cat ad v
  rw [e1]
  exact hw
theorem kj_callV {idx callee a : Nat} {fs : List Value} {as : List Value} {K : Nat → List (Nat × Value) → List Value → kMem → Prop} (hK9 : ∀ pc lv st M, K pc lv st M → kJ (d + 1) mid P pc lv st M) (hd : kDec mid pc (.invokevirtual idx) 3) (hl : (kO mid, idx, callee) ∈ kMl) (hv : callee ∈ kVi) (ho : kob M a = some (kO callee, fs)) (hn : as.length = kN callee) (hw : (st.map fun v => v.category).sum ≤ 8)
    (k : kC d callee (.ref a :: as) M (kgo d mid P K pc lv st)) : kJ (d + 1) mid P pc lv (as.reverse ++ .ref a :: st) M := by
  intro p l e R s m args below meth c D ad cI cJ o C H locs ls hP hS hll
  have hc := kVi_lt callee hv
  obtain ⟨v1, v2, v3⟩ := kVi_ok callee hv
  obtain ⟨a1, a2, a3, a4, a5, a6⟩ := kAll_ok callee hc
  have hl1 := kMl_ok _ hl
  have C' := C
  obtain ⟨hx, hb, hml, hown, hts, hK, hz, hlk, htab, hst, hrt, hR, hi⟩ := C
  intro T hT X
  subst hT
  obtain ⟨cellB, hcB, hoB, hclB⟩ := va_recv hK hP (ci := kO callee) (q0 := a) (kcl (kO callee) v3) (kW_at (ad := ad) (kob_ok (cI := cI) (cJ := cJ) (o := o) ho))
  have hclB : s.vm.findClass (kCn (kO callee)) = some cellB.cls := hclB
  obtain ⟨mk, methM, hnamed, hmethM, hstM, habM⟩ := Cond.instanceMethod_spec (hts _ v1)
  obtain ⟨methM', cM, hmethM', -, -, -, -, -, -, hsigM⟩ := Cond.code_spec hnamed (hts _ (kCode_in hc))
  cases hmethM.symm.trans hmethM'
  obtain ⟨c2, r2, m2, q1, q2, q3, q4, kP, hkP, hkPi⟩ := Cond.selects_spec (hts _ v2)
  cases hclB.symm.trans q1
  cases (State.methodFound?_of_named hnamed a4).symm.trans q2
  cases hnamed.symm.trans q3
  have hselP : selectMethod e.platform s.vm cellB.cls mk = .method mk := by rw [Launch.admits_selectMethod X.admits]; exact q4
  have hlen : (as.map (kv ad)).length = methM.sig.parameters.length := by
    rw [hsigM] at a5
    rw [List.length_map, hn]
    exact (Option.some.inj a5).symm
  have hdg : decode c.code pc = .ok (.invokevirtual idx, 3) := by rw [hb]; exact hd
  obtain ⟨vm₁, X₁, hstep₁⟩ := X.invokevirtual hx hown (hts _ hl1) hnamed hmethM hstM hkP hkPi a4 (a := ad a) (cell := cellB) hcB
    (fun z h => by rw [h] at hoB; cases hoB) hselP hmethM habM hkP hkPi (g := F0 m pc ls ((as.reverse ++ .ref a :: st).map (kv ad))) rfl (argsL := as.map (kv ad)) (rest := st.map (kv ad)) hlen (by simp [kv]) hdg
  rcases k_met (o := o) C' hc k X₁ hP hS (g := F0 m pc ls (st.map (kv ad))) rfl (hll.1.trans hml.symm) hdg (by show 2 * 0 + _ ≤ 8; rw [Nat.zero_add]; exact kst_cat hw) (X₁.named hnamed) with ⟨v, M', B, L, hp, g1, g2, X', g3⟩ | ⟨q, E, M', ce, B, L, hp, g1, g2, X', g4, g5, g6, g3⟩
  · have hp' : K (pc + 3) lv (v.toList ++ st) M' := hp
    obtain ⟨t, b1, b2⟩ := hK9 _ _ _ _ hp' p l e R s m args below meth c D ad cI cJ o C' B.heap (locs ++ L) ls g1 g2 hll B rfl X'
    refine ⟨t, hstep₁ _ (fun acts => ?_), b2⟩
    rw [doInvoke_state]
    refine Steps.trans g3 ?_
    have e9 : (v.toList ++ st).map (kv ad) = (v.map (kv ad)).toList ++ st.map (kv ad) := by cases v <;> simp
    rw [e9] at b1
    exact b1
  · have hp' : P (.inr (E, M')) := hp
    obtain ⟨t, b1, b2⟩ := k_on (o := o) C' X' hp' g1 g2 g4 g5 g6 (g := F0 m pc ls (st.map (kv ad))) rfl rfl rfl
    refine ⟨t, hstep₁ _ (fun acts => ?_), b2⟩
    rw [doInvoke_state]
    exact Steps.trans g3 b1
theorem kj_callS {idx callee : Nat} {as : List Value} {K : Nat → List (Nat × Value) → List Value → kMem → Prop} (hK9 : ∀ pc lv st M, K pc lv st M → kJ (d + 1) mid P pc lv st M) (hd : kDec mid pc (.invokestatic idx) 3) (hl : (kO mid, idx, callee) ∈ kMl) (hv : callee ∈ kSi) (hn : as.length = kN callee) (hw : (st.map fun v => v.category).sum ≤ 8)
    (k : kC d callee as M (kgo d mid P K pc lv st)) : kJ (d + 1) mid P pc lv (as.reverse ++ st) M := by
  intro p l e R s m args below meth c D ad cI cJ o C H locs ls hP hS hll
  have hc := kSi_lt callee hv
  have v1 := kSi_ok callee hv
  obtain ⟨a1, a2, a3, a4, a5, a6⟩ := kAll_ok callee hc
  have hl1 := kMl_ok _ hl
  have C' := C
  obtain ⟨hx, hb, hml, hown, hts, hK, hz, hlk, htab, hst, hrt, hR, hi⟩ := C
  intro T hT X
  subst hT
  obtain ⟨mk, hnamed⟩ := Cond.code_named (hts _ (kCode_in hc))
  obtain ⟨methM, cM, hmethM, -, -, -, -, -, -, hsigM⟩ := Cond.code_spec hnamed (hts _ (kCode_in hc))
  have hstatic : methM.isStatic = true := Cond.static_spec hnamed hmethM (hts _ v1)
  obtain ⟨kP, hkP, -⟩ := className_of_methodNamed hnamed
  have hinitP : kP.init = .initialized := Cond.initialized_spec (findClass_of_methodNamed hnamed) hkP (by rw [a2]; exact hts _ a1)
  have hlen : (as.map (kv ad)).length = methM.sig.parameters.length := by
    rw [hsigM] at a5
    rw [List.length_map, hn]
    exact (Option.some.inj a5).symm
  have hdg : decode c.code pc = .ok (.invokestatic idx, 3) := by rw [hb]; exact hd
  obtain ⟨vm₁, X₁, hstep₁⟩ := X.invokestatic hx hown (hts _ hl1) hnamed hmethM hstatic hkP hinitP a4 (g := F0 m pc ls ((as.reverse ++ st).map (kv ad))) rfl (argsL := as.map (kv ad)) (rest := st.map (kv ad)) hlen (by simp) hdg
  rcases k_met (o := o) C' hc k X₁ hP hS (g := F0 m pc ls (st.map (kv ad))) rfl (hll.1.trans hml.symm) hdg (by show 2 * 0 + _ ≤ 8; rw [Nat.zero_add]; exact kst_cat hw) (X₁.named hnamed) with ⟨v, M', B, L, hp, g1, g2, X', g3⟩ | ⟨q, E, M', ce, B, L, hp, g1, g2, X', g4, g5, g6, g3⟩
  · have hp' : K (pc + 3) lv (v.toList ++ st) M' := hp
    obtain ⟨t, b1, b2⟩ := hK9 _ _ _ _ hp' p l e R s m args below meth c D ad cI cJ o C' B.heap (locs ++ L) ls g1 g2 hll B rfl X'
    refine ⟨t, hstep₁ _ (fun acts => ?_), b2⟩
    rw [doInvoke_state]
    refine Steps.trans g3 ?_
    have e9 : (v.toList ++ st).map (kv ad) = (v.map (kv ad)).toList ++ st.map (kv ad) := by cases v <;> simp
    rw [e9] at b1
    exact b1
  · have hp' : P (.inr (E, M')) := hp
    obtain ⟨t, b1, b2⟩ := k_on (o := o) C' X' hp' g1 g2 g4 g5 g6 (g := F0 m pc ls (st.map (kv ad))) rfl rfl rfl
    refine ⟨t, hstep₁ _ (fun acts => ?_), b2⟩
    rw [doInvoke_state]
    exact Steps.trans g3 b1
end KK
theorem kv_sl (ad : Nat → Nat) : ∀ av : List Value, (lg_sl (av.map (kv ad))).length = (lg_sl av).length := by
  intro av
  induction av with
  | nil => rfl
  | cons v r ih =>
    simp only [lg_sl, List.map_cons, List.flatMap_cons, List.length_append] at ih ⊢
    rw [ih, kv_cat]
    congr 1
    split <;> rfl
theorem kv_args (ad : Nat → Nat) : ∀ (av : List Value) (i : Nat), lv_args i (av.map (kv ad)) = (lv_args i av).map (fun q => (q.1, kv ad q.2)) := by
  intro av
  induction av with
  | nil => intro i; rfl
  | cons v r ih =>
    intro i
    simp only [lv_args, List.map_cons, kv_cat, ih]
/-- a method's contract out of its body -/
theorem kC_body {d mid : Nat} {av : List Value} {M : kMem} {P : kRes → Prop} (hc : mid < 118) (hn : (lg_sl av).length ≤ kL mid) (k : kJ d mid P 0 (lv_args 0 av) [] M) : kC d mid av M P := by
  intro l D ad cI cJ o hst hi
  obtain ⟨a1, a2, a3, a4, a5, a6⟩ := kAll_ok mid hc
  have hw : ∀ {args : Array Value} {s : State}, (headSpec (kWs mid) (kR d)).pre.before args s = true → (Cond.code (kY mid) (kB mid) (kL mid) (kRt mid)).before args s = true := fun h => atoms_spec (ws := kWs mid) h _ List.mem_cons_self
  refine MetFree.of_bodyS (code := kB mid) (maxLocals := kL mid) (ret := kRt mid) a3 ?_ ?_
  · intro args s m h hn9
    obtain ⟨meth, c, h1, h2, h3, h4, h5, h6, -, -⟩ := Cond.code_spec hn9 (hw h)
    exact ⟨meth, c, h1, h2, h3, h4, h5, h6⟩
  · intro p e s m args below meth c s₁ B hml hP _
    obtain ⟨rfl, hP1, hK, hz⟩ := hP
    have hh0 : s₁.heap = s.heap := by rw [B.state]; rfl
    have hown : s.vm.findClass (kCn (kO mid)) = some m.cls := by rw [← a2]; exact findClass_of_methodNamed B.named
    have hts := atoms_spec (ws := kWs mid) B.pre
    have ht : ∀ x ∈ c.exceptionTable.toList, False := by
      obtain ⟨meth9, c9, h1, h2, -, -, -, -, h7, -⟩ := Cond.code_spec B.named (hw B.pre)
      cases Option.some.inj (h1.symm.trans B.method)
      cases Option.some.inj (h2.symm.trans (Stand.of_body B).code)
      intro x hx
      rw [Array.isEmpty_iff.mp h7] at hx
      cases hx
    have C : kCx d mid p l (kR d) s m (av.map (kv ad)).toArray meth c D ad cI cJ := ⟨B.exec, B.bytes, hml, hown, fun w hw9 => hts w (List.mem_cons_of_mem _ hw9), hK, hz, B.notSynchronized, ht, hst, B.returns, rfl, hi⟩
    have hl := lv_entry (av.map (kv ad)) (n := kL mid) (by rw [kv_sl]; exact hn)
    rw [kv_args] at hl
    obtain ⟨t, b1, oc, b2, b3, b4⟩ := k p l e (kR d) s m (av.map (kv ad)).toArray below meth c D ad cI cJ o C s.heap [] _ hP1 va_S.rf hl s₁ hh0 (Stand.of_body B)
    rw [lg_entry_eq]
    exact ⟨t, oc, b1, b2, b3, b4⟩
