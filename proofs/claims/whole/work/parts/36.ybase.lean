/-! bodies of the law's class: a call by contract from whichever room; what stands fast -/
def yCx (cc : ByteArray) (nL d nm c0 s0 : Nat) (p : Program) (l : Launch) (R : Room) (s : State) (m : MethodId) (args : Array Value) (c : Code) (D : va_G) (ad : Nat → Nat) (cI cJ : ClassId) : Prop :=
  p.tables.exec = Jvm.exec ∧ c.code = cc ∧ c.maxLocals = nL ∧ s.vm.findClass RL = some m.cls ∧ (∀ w ∈ kG, w.before args s = true) ∧ va_K D vwCl (kTy cI cJ) s ∧ kz (kA ad s.heap.size) s s.heap ∧ l.stackTraces = false ∧ kInj ad ∧
  6 + d + 1 ≤ R.frames ∧ 90 + 28 * (d + 1) ≤ R.locals ∧ c0 + nm ≤ R.cells ∧ s0 + 6 * nm ≤ R.slots
section YL
variable {p : Program} {l : Launch} {e : Env} {R : Room} {s : State} {m : MethodId} {args : Array Value} {below : List Frame} {meth : Method} {c : Code} {D : va_G} {ad : Nat → Nat} {cI cJ : ClassId} {o : Int64} {cc : ByteArray} {nL d nm c0 s0 : Nat}
theorem y_met {callee n : Nat} (C : yCx cc nL d nm c0 s0 p l R s m args c D ad cI cJ) (hnm : n < nm) (hc : callee < 118) {av : List Value} {M : kMem} {P' : kRes → Prop} (hC : kC d callee av M P') {T : State} {locs : List Loc} (X : Stand p l e R s m args below meth c T locs (c0 + n) (s0 + 6 * n)) (hP : va_P D vwCl (kW ad cI cJ o M) T.heap) (hS : va_S (kA ad s.heap.size) s.heap T.heap locs)
    {g : JFrame} (hg : g.method = m) (hsize : g.locals.size = c.maxLocals) {ig : Instr} (hdg : decode c.code g.pc = .ok (ig, 3)) (hW : 2 * g.monitorRoom + (g.stack.map fun v => v.category).sum ≤ 8) {mk : MethodId} (hn : T.methodNamed? (kY callee) = some mk) :
    (∃ (v : Option Value) (M' : kMem) (B : State) (L : List Loc), P' (.inl (v, M')) ∧ va_P D vwCl (kW ad cI cJ o M') B.heap ∧ va_S (kA ad s.heap.size) s.heap B.heap (locs ++ L) ∧ Stand p l e R s m args below meth c B (locs ++ L) (c0 + n) (s0 + 6 * n) ∧
      Steps p.tables e below (doInvoke e (T.setTop g) [] mk (av.map (kv ad)).toArray).1 (B.setTop { g with pc := g.pc + 3, stack := (v.map (kv ad)).toList ++ g.stack })) ∨
    (∃ (q : Addr) (E : String) (M' : kMem) (ce : Cell) (B : State) (L : List Loc), P' (.inr (E, M')) ∧ va_P D vwCl (kW ad cI cJ o M') B.heap ∧ va_S (kA ad s.heap.size) s.heap B.heap (locs ++ L) ∧ Stand p l e R s m args below meth c B (locs ++ L) (c0 + (n + 1)) (s0 + 6 * (n + 1)) ∧ B.heap[q]? = some ce ∧ ce.vm = .none ∧ s.vm.findClass E = some ce.cls ∧
      Steps p.tables e below (doInvoke e (T.setTop g) [] mk (av.map (kv ad)).toArray).1 ((B.setTop g).pushFrame (.throwing q))) := by
  obtain ⟨hx, hb, hml, hown, hts, hK, hz, hst, hi, r1, r2, r3, r4⟩ := C
  obtain ⟨a1, a2, a3, a4, a5, a6⟩ := kAll_ok callee hc
  have hM := hC l D ad cI cJ o hst hi
  have hat : ∀ w ∈ kG, ∀ (a' : Array Value), w.before a' T = true := fun w hw a' => kG_at hw X.warmed (hts w hw)
  have h1 : (headSpec (kWs callee) (kR d)).pre.before (av.map (kv ad)).toArray T = true := atoms_intro fun w hw => (List.mem_cons.mp hw).elim (fun e9 => by rw [e9]; exact hat _ (kCode_in hc) _) (fun h9 => hat w h9 _)
  have h2 : (Cond.code (kY callee) (kB callee) (kL callee) (kRt callee)).before (av.map (kv ad)).toArray T = true := hat _ (kCode_in hc) _
  have h3 : (Cond.initialized (kY callee).cls).before (av.map (kv ad)).toArray T = true := by rw [a2]; exact hat _ a1 _
  obtain ⟨methY, cY, hmY, hcY, -, hlY, -, -, -, -⟩ := Cond.code_spec hn h2
  obtain ⟨kY9, hkY, -⟩ := className_of_methodNamed hn
  have hinitY : kY9.init = .initialized := Cond.initialized_spec (findClass_of_methodNamed hn) hkY h3
  have h : At T g.method c below := by rw [hg]; exact X.here
  have hrl : (headSpec (kWs callee) (kR d)).room = kR d := rfl
  have hroom : (T.calling g mk (av.map (kv ad)).toArray).hasRoom e.platform (kR d) = true :=
    X.room_calling (g := g) (R' := kR d) hsize hmY hcY (by show 6 + d + 1 ≤ _; omega) (by rw [hlY]; show _ + (90 + 28 * d) ≤ _; omega) (by show _ + 1 ≤ _; omega) (by show _ + 6 ≤ _; omega)
  have happ : (headSpec (kWs callee) (kR d)).appliesLoose (kY callee) e.platform (T.calling g mk (av.map (kv ad)).toArray) = true :=
    Spec.appliesLoose_calling (g := g) h hdg hn hkY hinitY (by rw [hrl]; exact hroom) h1
  obtain ⟨mid9, hmid⟩ := h.above
  have hfr : (T.setTop g).frames = (.java g :: mid9) ++ below := by rw [State.frames_setTop' g h.top, hmid]; rfl
  have hPc : kPc D ad cI cJ o av M (av.map (kv ad)).toArray (T.calling g mk (av.map (kv ad)).toArray) :=
    ⟨rfl, hP, va_K.moved (u := s) (U := T.calling g mk (av.map (kv ad)).toArray) X.warmed.alike hK, kz.moved (u := s) (U := T.calling g mk (av.map (kv ad)).toArray) X.warmed ((hz.kept hS.2.1).narrow (fun q hq => kA_mono hS.1 hq))⟩
  obtain ⟨oc, t, hsteps, -, hend, hq⟩ := Steps.callFree hM p X.admits X.cas X.clock (acts := []) hfr happ hPc trivial
  have hq' : kEnd D ad cI cJ o P' (T.calling g mk (av.map (kv ad)).toArray) oc t := hq
  rcases hq' with ⟨v, M', rfl, hp, f1, f2, f3, L, f4, f5⟩ | ⟨q, E, M', ce, rfl, hp, hce, hcv, hcl, f1, f2, f3, L, f4, f5⟩
  · obtain ⟨B, b1, b2, X', b3, -⟩ := k_back X hg hdg hsteps hend f3 f4
    exact Or.inl ⟨v, M', B, L, hp, by rw [b1]; exact f1, kS_on hS (U := T.calling g mk (av.map (kv ad)).toArray) rfl f2 f5 b1, X', b3 _ rfl⟩
  · obtain ⟨B, b1, b2, X', -, b3⟩ := k_back X hg hdg hsteps hend f3 f4
    have hcl' : s.vm.findClass E = some ce.cls := by
      have h9 : T.vm.findClass E = some ce.cls := hcl
      rw [X.warmed.alike.findClass] at h9
      exact h9
    have X'' : Stand p l e R s m args below meth c B (locs ++ L) (c0 + (n + 1)) (s0 + 6 * (n + 1)) := by
      rw [show c0 + (n + 1) = c0 + n + 1 by omega, show s0 + 6 * (n + 1) = s0 + 6 * n + 6 by omega]
      exact X'
    exact Or.inr ⟨q, E, M', ce, B, L, hp, by rw [b1]; exact f1, kS_on hS (U := T.calling g mk (av.map (kv ad)).toArray) rfl f2 f5 b1, X'', by rw [b1]; exact hce, hcv, hcl', b3 _ rfl⟩
/-- THE JUDGEMENT for bodies of the law's class -/
def yJ (p : Program) (l : Launch) (e : Env) (R : Room) (s : State) (m : MethodId) (args : Array Value) (below : List Frame) (meth : Method) (c : Code) (D : va_G) (ad : Nat → Nat) (cI cJ : ClassId) (nL c0 s0 : Nat) (Q : State → Prop) (pc : Nat) (lv : List (Nat × Value)) (st : List Value) (M : kMem) (o : Int64) (n : Nat) : Prop :=
  ∀ (H : Heap) (locs : List Loc) (ls : Array Slot), va_P D vwCl (kW ad cI cJ o M) H → va_S (kA ad s.heap.size) s.heap H locs → lv_has ls nL (lv.map (fun q => (q.1, kv ad q.2))) →
    W p l e R s m args below meth c H locs (c0 + n) (s0 + 6 * n) Q (F0 m pc ls (st.map (kv ad)))
end YL
