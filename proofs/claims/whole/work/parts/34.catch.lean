/-! a throw that a row of the method's own table takes; the classes that the rows name are linked there and then -/
/-- the rows of a table, one behind the other, all around pc: the first whose class takes th leads to h -/
def kct (pl : Platform) (s₀ : State) (d pc : Nat) (th : ClassId) (h : Nat) : List ExceptionTableEntry → Prop
  | [] => False
  | x :: t => covers x pc = true ∧ x.catchType ≠ 0 ∧ ∃ c, s₀.vm.ClassLinks pl d x.catchType c ∧ ((s₀.vm.assignable th c = true ∧ x.handlerPc = h) ∨ (s₀.vm.assignable th c = false ∧ kct pl s₀ d pc th h t))
theorem kct_go {e : Env} {s₀ : State} {f : JFrame} {q : Addr} {ce : Cell} {h : Nat} (hv : ce.vm = .none) (hk0 : ∃ k, s₀.vm.classes[ce.cls]? = some k) :
    ∀ (es : List ExceptionTableEntry) (S : State), s₀.WarmedH S.vm → S.heap[q]? = some ce → kct e.platform s₀ f.method.cls f.pc ce.cls h es →
      ∃ vm', s₀.WarmedH vm' ∧ ∀ (Q : Handler → Pre) (E : CtlPost) (d : Bool) (acts : List Action), wp (findHandler.go f q es) Q E e d acts S ↔ Q (.found h) d acts (S.setVm vm') := by
  obtain ⟨k0, hk0⟩ := hk0
  have hobj : ∀ k, ce.vm ≠ .statics k := fun k z => by rw [hv] at z; cases z
  intro es
  induction es with
  | nil => intro S _ _ hz; exact hz.elim
  | cons x t ih =>
    intro S hW hcell hz
    obtain ⟨hx, h0, c, hl, hfit⟩ := hz
    obtain ⟨dk, _, _, kt, hd, _, _, _, _, hkt, _, hopen⟩ := hl.here
    have hW1 : s₀.WarmedH (S.vm.noted f.method.cls x.catchType (.cls c)) := hW.noted hd hopen (State.rightAt_cls hl)
    obtain ⟨k1, hk1, -⟩ := hW1.alike.2.2 _ _ hk0
    obtain ⟨k2, hk2, -⟩ := hW1.alike.2.2 _ _ hkt
    have has : (S.vm.noted f.method.cls x.catchType (.cls c)).assignable ce.cls c = s₀.vm.assignable ce.cls c := hW1.alike.assignable _ _
    obtain ⟨ha, ht⟩ := (resolveClass_links e.toSetting (hW.classLinks hl)).op (op := VmOp.resolveClass f.method.cls x.catchType) rfl
    have hcov := hx
    simp only [covers] at hcov
    rcases hfit with ⟨hy, hh⟩ | ⟨hn, hrest⟩
    · rw [hy] at has
      subst hh
      exact ⟨_, hW1, fun Q E d acts => by
        simp [findHandler.go, hcov, h0, ha, ht, hcell, hobj, hk1, hk2, has, VmOp.dirties, VmOp.acts]⟩
    · rw [hn] at has
      obtain ⟨vm', hW', hq⟩ := ih (S.setVm (S.vm.noted f.method.cls x.catchType (.cls c))) hW1 hcell hrest
      refine ⟨vm', hW', fun Q E d acts => Iff.trans ?_ (hq Q E d acts)⟩
      simp [findHandler.go, hcov, h0, ha, ht, hcell, hobj, hk1, hk2, has, VmOp.dirties, VmOp.acts]
theorem kct_steps {p : Program} {l : Launch} {e : Env} {R : Room} {s : State} {m : MethodId} {args : Array Value} {below : List Frame} {meth : Method} {c : Code} {T : State} {locs : List Loc} {cells slots : Nat} (X : Stand p l e R s m args below meth c T locs cells slots)
    {g : JFrame} (hg : g.method = m) {q : Addr} {ce : Cell} {h : Nat} (hcell : T.heap[q]? = some ce) (hv : ce.vm = .none) (hk0 : ∃ k, s.vm.classes[ce.cls]? = some k) (hes : kct e.platform s m.cls g.pc ce.cls h c.exceptionTable.toList) :
    ∃ vm', Stand p l e R s m args below meth c (T.setVm vm') locs cells slots ∧ ∀ target, Steps p.tables e below ((T.setVm vm').setTop { g with pc := h, stack := [.ref q] }) target → Steps p.tables e below ((T.setTop g).pushFrame (.throwing q)) target := by
  subst hg
  have hat := X.here
  obtain ⟨vm', hW', hq⟩ := kct_go (e := e) (f := g) (q := q) hv hk0 c.exceptionTable.toList ((T.setTop g).pushFrame (.throwing q)) X.warmed hcell hes
  refine ⟨vm', X.noted hW', fun target hrest => ?_⟩
  obtain ⟨hgo, hw⟩ := hat.throwing q
  refine Steps.head hgo hw ?_
  obtain ⟨g₀, hg0⟩ := Option.isSome_iff_exists.mp hat.top
  obtain ⟨r, hr⟩ := State.topJava?_eq_some.mp hg0
  have hf : ∀ (Q : Handler → Pre) (E : CtlPost) (d : Bool) (acts : List Action), wp (findHandler g q) Q E e d acts ((T.setTop g).pushFrame (.throwing q)) ↔ Q (.found h) d acts (((T.setTop g).pushFrame (.throwing q)).setVm vm') := fun Q E d acts => (W.findHandler_eq (s := (T.setTop g).pushFrame (.throwing q)) (meth := meth) (code := c) X.method' X.code).trans (hq Q E d acts)
  have hstep : ∀ rr : List Frame, (stepThrowing e ((T.setTop g).pushFrame (.throwing q)) q (.java g :: rr)).Is ((((T.setTop g).pushFrame (.throwing q)).setVm vm').setFrames (.java { g with pc := h, stack := [.ref q] } :: rr)) [] := by
    intro rr
    simp only [stepThrowing, searchFrame, vmDo]
    generalize hgen : Sem.go _ e false [] ((T.setTop g).pushFrame (.throwing q)) = res
    obtain ⟨as, rfl, ha⟩ := Sem.eq_ok_of hgen (a := Handler.found h) (s' := ((T.setTop g).pushFrame (.throwing q)).setVm vm') (acts' := []) (by simp [hf _ _ _ _])
    exact ⟨rfl, ha⟩
  rw [stepThread_throwing (frames_entered hat.top _), (hstep _).1]
  have hr2 : (T.setVm vm').frames = .java g₀ :: r := hr
  rw [State.setTop_of_frames _ hr2] at hrest
  rw [State.pushFrame, State.setTop_of_frames _ hr, State.setFrames_setFrames]
  rw [hr]
  show Steps p.tables e below (((T.setVm vm').setFrames _).setFrames _) target
  rw [State.setFrames_setFrames]
  exact hrest
