/-! ONE WORLD of sixteen cells for the system, the reference and the law's out: a memory M says what they hold (component = place of the array; 0 and 9: the numbers of the two objects) -/
abbrev kMem : Type := Nat → Nat → Int32
abbrev kRes : Type := (Option Value × kMem) ⊕ (String × kMem)
def mw (M : kMem) (k j : Nat) (x : Int32) : kMem := va_up M k (upd (M k) j x)
def kob (M : kMem) (a : Nat) : Option (Nat × List Value) := match a with
  | 0 => some (1, [.ref 1, .ref 6, .ref 7, .ref 8, .ref 5, .int (M 0 0), .int (M 0 1), .int (M 0 2), .int (M 0 3)])
  | 6 => some (0, [.ref 2])
  | 7 => some (0, [.ref 3])
  | 8 => some (0, [.ref 4])
  | 9 => some (2, [.int (M 9 4), .ref 10, .ref 11, .ref 12, .ref 13, .int (M 9 0), .int (M 9 1), .int (M 9 2), .int (M 9 3), .ref 14])
  | _ => none
def kar (a : Nat) : Option Nat := match a with
  | 1 => some 3072
  | 2 => some 24
  | 3 => some 24
  | 4 => some 24
  | 5 => some 4
  | 10 => some 3072
  | 11 => some 24
  | 12 => some 24
  | 13 => some 24
  | 14 => some 4
  | _ => none
def kaw (cI cJ : ClassId) (o : Int64) (M : kMem) : List va_E := [
  .inr (1, [.ref 1, .ref 6, .ref 7, .ref 8, .ref 5, .int (M 0 0), .int (M 0 1), .int (M 0 2), .int (M 0 3)]),
  .inl (cI, 3072, .inl (M 1)), .inl (cI, 24, .inl (M 2)), .inl (cI, 24, .inl (M 3)), .inl (cI, 24, .inl (M 4)), .inl (cI, 4, .inl (M 5)),
  .inr (0, [.ref 2]), .inr (0, [.ref 3]), .inr (0, [.ref 4]),
  .inr (2, [.int (M 9 4), .ref 10, .ref 11, .ref 12, .ref 13, .int (M 9 0), .int (M 9 1), .int (M 9 2), .int (M 9 3), .ref 14]),
  .inl (cI, 3072, .inl (M 10)), .inl (cI, 24, .inl (M 11)), .inl (cI, 24, .inl (M 12)), .inl (cI, 24, .inl (M 13)), .inl (cI, 4, .inl (M 14)),
  .inl (cJ, 1, .inr (.inl (fun _ => o)))]
theorem kob_ok {cI cJ : ClassId} {o : Int64} {M : kMem} {a : Nat} {q : Nat × List Value} (h : kob M a = some q) : (kaw cI cJ o M)[a]? = some (.inr q) := by
  unfold kob at h
  split at h <;> first | (cases h; rfl) | cases h
theorem kar_ok {cI cJ : ClassId} {o : Int64} {M : kMem} {a n : Nat} (h : kar a = some n) : (kaw cI cJ o M)[a]? = some (.inl (cI, n, .inl (M a))) := by
  unfold kar at h
  split at h <;> first | (cases h; rfl) | cases h
def kv (ad : Nat → Nat) (v : Value) : Value := match v with
  | .ref k => .ref (ad k)
  | v => v
def ke (ad : Nat → Nat) (x : va_E) : va_E := match x with
  | .inr q => .inr (q.1, q.2.map (kv ad))
  | .inl q => .inl q
def kww (ad : Nat → Nat) : Nat → List va_E → va_W
  | _, [] => []
  | n, x :: r => (ad n, ke ad x) :: kww ad (n + 1) r
def kW (ad : Nat → Nat) (cI cJ : ClassId) (o : Int64) (M : kMem) : va_W := kww ad 0 (kaw cI cJ o M)
theorem kww_get (ad : Nat → Nat) : ∀ (es : List va_E) (n k : Nat), (kww ad n es)[k]? = es[k]?.map (fun x => (ad (n + k), ke ad x)) := by
  intro es
  induction es with
  | nil => intro n k; simp [kww]
  | cons x r ih =>
    intro n k
    cases k with
    | zero => simp [kww]
    | succ k =>
      simp only [kww, List.getElem?_cons_succ, ih]
      congr 1
      funext y
      rw [Nat.add_assoc, Nat.add_comm 1 k]
theorem kww_set (ad : Nat → Nat) (x : va_E) : ∀ (es : List va_E) (n k : Nat), (kww ad n es).set k (ad (n + k), ke ad x) = kww ad n (es.set k x) := by
  intro es
  induction es with
  | nil => intro n k; simp [kww]
  | cons y r ih =>
    intro n k
    cases k with
    | zero => simp [kww]
    | succ k =>
      simp only [kww, List.set_cons_succ]
      rw [← ih (n + 1) k, Nat.add_assoc, Nat.add_comm 1 k]
theorem kW_at {ad : Nat → Nat} {cI cJ : ClassId} {o : Int64} {M : kMem} {k : Nat} {x : va_E} (h : (kaw cI cJ o M)[k]? = some x) : (kW ad cI cJ o M)[k]? = some (ad k, ke ad x) := by
  unfold kW
  rw [kww_get, h, Nat.zero_add]
  rfl
theorem kW_set {ad : Nat → Nat} {cI cJ : ClassId} {o : Int64} {M M' : kMem} {k : Nat} {x : va_E} (h : (kaw cI cJ o M).set k x = kaw cI cJ o M') : (kW ad cI cJ o M).set k (ad k, ke ad x) = kW ad cI cJ o M' := by
  unfold kW
  have h1 := kww_set ad x (kaw cI cJ o M) 0 k
  rw [Nat.zero_add] at h1
  rw [h1, h]
/-- what may be written: the sixteen, and what is new -/
def kA (ad : Nat → Nat) (sz : Nat) : Nat → Prop := fun q => (∃ k, k < 16 ∧ q = ad k) ∨ sz ≤ q
def kInj (ad : Nat → Nat) : Prop := ∀ i j, i < 16 → j < 16 → ad i = ad j → i = j
theorem kA_mono {ad : Nat → Nat} {a b : Nat} (h : a ≤ b) {q : Nat} (hq : kA ad b q) : kA ad a q := hq.elim Or.inl (fun z => Or.inr (Nat.le_trans h z))
theorem kW_lt {ad : Nat → Nat} {cI cJ : ClassId} {o : Int64} {M : kMem} {k : Nat} {q : Nat × va_E} (h : (kW ad cI cJ o M)[k]? = some q) : k < 16 ∧ q.1 = ad k := by
  unfold kW at h
  rw [kww_get, Nat.zero_add] at h
  cases hx : (kaw cI cJ o M)[k]? with
  | none => rw [hx] at h; cases h
  | some x =>
    rw [hx] at h
    cases h
    exact ⟨(List.getElem?_eq_some_iff.mp hx).1, rfl⟩
theorem kD {ad : Nat → Nat} (hi : kInj ad) (cI cJ : ClassId) (o : Int64) (M : kMem) (sz : Nat) : va_D (kA ad sz) (kW ad cI cJ o M) := by
  refine ⟨fun i j p q h1 h2 h3 => ?_, fun k q h => ?_⟩
  · obtain ⟨a1, a2⟩ := kW_lt h1
    obtain ⟨b1, b2⟩ := kW_lt h2
    exact hi i j a1 b1 (by rw [← a2, ← b2]; exact h3)
  · obtain ⟨a1, a2⟩ := kW_lt h
    exact Or.inl ⟨k, a1, a2⟩
/-! the words that all methods have, and what a throw needs beside them -/
def kCn (k : Nat) : String := if k = 0 then RX0 else if k = 1 then RX1 else if k = 2 then RX2 else RJ6
def kG : List Cond := lw_tbl.filter goodWord
def kFace : List Cond := lw_tbl.filter Cond.faceAtom
def kC0 (mid : Nat) : ByteArray × List kRow := kTc.getD mid (cX0_takeFrom, [])
def kM0 (mid : Nat) : MethodName × Nat × Option FieldType × Nat × Nat := kMs.getD mid (yX0_takeFrom, 2, none, 0, 1)
abbrev kB (mid : Nat) : ByteArray := (kC0 mid).1
abbrev kY (mid : Nat) : MethodName := (kM0 mid).1
abbrev kL (mid : Nat) : Nat := (kM0 mid).2.1
abbrev kRt (mid : Nat) : Option FieldType := (kM0 mid).2.2.1
abbrev kO (mid : Nat) : Nat := (kM0 mid).2.2.2.1
abbrev kN (mid : Nat) : Nat := (kM0 mid).2.2.2.2
def kWs (mid : Nat) : List Cond := .code (kY mid) (kB mid) (kL mid) (kRt mid) :: kG
def kR (d : Nat) : Room := { frames := 6 + d, cells := 1, slots := 6, locals := 90 + 28 * d }
def kLook (mid pc : Nat) : Option kRow := (kC0 mid).2.find? (fun r => r.1 == pc)
theorem kLook_ok {mid pc : Nat} {r : kRow} (h : kLook mid pc = some r) : r.1 = pc ∧ decode (kB mid) pc = .ok (r.2.1, r.2.2.1) ∧ kBr r = true := by
  have h1 : r.1 = pc := by
    have := List.find?_some h
    simpa using this
  have h2 : r ∈ (kC0 mid).2 := List.mem_of_find?_eq_some h
  have h3 : kOkT (kC0 mid) := by
    unfold kC0 at h2 ⊢
    rw [List.getD_eq_getElem?_getD] at h2 ⊢
    cases hx : kTc[mid]? with
    | none =>
      rw [hx] at h2
      exact absurd h2 List.not_mem_nil
    | some q =>
      exact kTc_ok q (List.mem_of_getElem? hx)
  have h4 := h3 r h2
  rw [h1] at h4
  exact ⟨h1, h4⟩
def kz (A : Nat → Prop) (U : State) (H : Heap) : Prop :=
  vx_Zq Bundle.tN "UNASSIGNED_STACK" Bundle.steD A U H ∧ vx_Zq Bundle.tN "SUPPRESSED_SENTINEL" Bundle.listD A U H ∧ (∀ r ∈ kTh, ∃ sa : Nat, vk_R RX1 r.2.2.2.1 r.2.2.2.2.2.2 sa U) ∧ ∀ w ∈ kFace, ∀ a : Array Value, w.before a U = true
theorem kz.kept {A : Nat → Prop} {U : State} {H H1 : Heap} (h : kz A U H) (hq : ∀ a : Nat, a < H.size → ¬ A a → H1[a]? = H[a]?) : kz A U H1 := ⟨h.1.kept hq, h.2.1.kept hq, h.2.2⟩
theorem kz.narrow {A B : Nat → Prop} {U : State} {H : Heap} (h : kz A U H) (hAB : ∀ q, B q → A q) : kz B U H := ⟨h.1.narrow hAB, h.2.1.narrow hAB, h.2.2⟩
theorem kface_moved {u U : State} (hvm : u.vm.Alike U.vm) {w : Cond} (hw : w.faceAtom = true) {a b : Array Value} (h : w.before a u = true) : w.before b U = true := by
  have h1 := Cond.faceAtom_setVm (args := a) hvm w hw h
  have ho : w.onTables = true := by cases w <;> first | rfl | (simp [Cond.faceAtom] at hw)
  rw [Cond.onTables_vm (A' := b) (U' := U) U.vm w ho, State.setVm_self] at h1
  exact h1
theorem kz.moved {A : Nat → Prop} {u U : State} {H : Heap} (hW : u.WarmedH U.vm) (h : kz A u H) : kz A U H :=
  ⟨h.1.moved hW.alike, h.2.1.moved hW.alike, fun r hr => (h.2.2.1 r hr).imp fun _ z => vk_R.warm hW z, fun w hw b => kface_moved hW.alike (List.mem_filter.mp hw).2 (h.2.2.2 w hw b)⟩
/-! how a method ends -/
def kFin (D : va_G) (ad : Nat → Nat) (cI cJ : ClassId) (o : Int64) (s t : State) (M : kMem) (a b : Nat) : Prop :=
  va_P D vwCl (kW ad cI cJ o M) t.heap ∧ va_F (kA ad s.heap.size) s t ∧ s.WarmedH t.vm ∧ ∃ L : List Loc, s.sameButNew ({ t with vm := s.vm } : State) L a b ∧ ∀ q ∈ L, kA ad s.heap.size q.base
def kEnd (D : va_G) (ad : Nat → Nat) (cI cJ : ClassId) (o : Int64) (P : kRes → Prop) (s : State) (oc : Outcome) (t : State) : Prop :=
  (∃ (v : Option Value) (M : kMem), oc = .returned (v.map (kv ad)) ∧ P (.inl (v, M)) ∧ kFin D ad cI cJ o s t M 0 0) ∨
  (∃ (q : Addr) (E : String) (M : kMem) (ce : Cell), oc = .threw q ∧ P (.inr (E, M)) ∧ t.heap[q]? = some ce ∧ ce.vm = .none ∧ s.vm.findClass E = some ce.cls ∧ kFin D ad cI cJ o s t M 1 6)
def kMQ (below : List Frame) (D : va_G) (ad : Nat → Nat) (cI cJ : ClassId) (o : Int64) (P : kRes → Prop) (s : State) : State → Prop := fun t => ∃ oc, t.status = .running ∧ Ended t below oc ∧ kEnd D ad cI cJ o P s oc t
abbrev kTy (cI cJ : ClassId) : List (ClassId × FieldType) := [(cI, .int), (cJ, .long)]
def kPc (D : va_G) (ad : Nat → Nat) (cI cJ : ClassId) (o : Int64) (av : List Value) (M : kMem) : Array Value → State → Prop := fun v U =>
  v = (av.map (kv ad)).toArray ∧ va_P D vwCl (kW ad cI cJ o M) U.heap ∧ va_K D vwCl (kTy cI cJ) U ∧ kz (kA ad U.heap.size) U U.heap
/-- THE CONTRACT: method mid, called with av in a world that holds M, comes to an end with P; d: how deep it may call -/
def kC (d mid : Nat) (av : List Value) (M : kMem) (P : kRes → Prop) : Prop :=
  ∀ (l : Launch) (D : va_G) (ad : Nat → Nat) (cI cJ : ClassId) (o : Int64), l.stackTraces = false → kInj ad →
    MetFree l (kY mid) (headSpec (kWs mid) (kR d)) (kPc D ad cI cJ o av M) (fun _ _ _ _ _ => True) (fun _ st oc t => kEnd D ad cI cJ o P st oc t)
/-- what stands fast in a method's body -/
def kCx (d mid : Nat) (p : Program) (l : Launch) (R : Room) (s : State) (m : MethodId) (args : Array Value) (meth : Method) (c : Code) (D : va_G) (ad : Nat → Nat) (cI cJ : ClassId) : Prop :=
  p.tables.exec = Jvm.exec ∧ c.code = kB mid ∧ c.maxLocals = kL mid ∧ s.vm.findClass (kCn (kO mid)) = some m.cls ∧ (∀ w ∈ kG, w.before args s = true) ∧ va_K D vwCl (kTy cI cJ) s ∧ kz (kA ad s.heap.size) s s.heap ∧ meth.locks = false ∧
  (∀ x ∈ c.exceptionTable.toList, False) ∧ l.stackTraces = false ∧ meth.sig.returnType = kRt mid ∧ R = kR d ∧ kInj ad
/-- THE JUDGEMENT: from pc, with the locals lv, the operands st and a world that holds M, the method comes to its end with P -/
def kJ (d mid : Nat) (P : kRes → Prop) (pc : Nat) (lv : List (Nat × Value)) (st : List Value) (M : kMem) : Prop :=
  ∀ (p : Program) (l : Launch) (e : Env) (R : Room) (s : State) (m : MethodId) (args : Array Value) (below : List Frame) (meth : Method) (c : Code) (D : va_G) (ad : Nat → Nat) (cI cJ : ClassId) (o : Int64),
    kCx d mid p l R s m args meth c D ad cI cJ → ∀ (H : Heap) (locs : List Loc) (ls : Array Slot), va_P D vwCl (kW ad cI cJ o M) H → va_S (kA ad s.heap.size) s.heap H locs → lv_has ls (kL mid) (lv.map (fun q => (q.1, kv ad q.2))) →
      W p l e R s m args below meth c H locs 0 0 (kMQ below D ad cI cJ o P s) (F0 m pc ls (st.map (kv ad)))
section KC
variable {p : Program} {l : Launch} {e : Env} {R : Room} {s : State} {m : MethodId} {args : Array Value} {below : List Frame} {meth : Method} {c : Code}
theorem k_imp {H : Heap} {locs : List Loc} {cells slots : Nat} {Q Q' : State → Prop} {g : JFrame} (h : ∀ t, Q t → Q' t) (k : W p l e R s m args below meth c H locs cells slots Q g) : W p l e R s m args below meth c H locs cells slots Q' g := by
  intro T hT X
  obtain ⟨t, a, b⟩ := k T hT X
  exact ⟨t, a, h t b⟩
/-- the invocation behind a call that has come back, or has thrown -/
theorem k_back {U : State} {locs : List Loc} {cells slots : Nat} (X : Stand p l e R s m args below meth c U locs cells slots) {g : JFrame} (hg : g.method = m) {mk : MethodId} {a : Array Value} {oc : Outcome} {t : State} {ig : Instr} {len : Nat} (hdg : decode c.code g.pc = .ok (ig, len))
    (hst : Steps p.tables e below (doInvoke e (U.setTop g) [] mk a).1 t) (hend : Ended t (U.setTop g).frames oc) (hW : (U.calling g mk a).WarmedH t.vm) {L : List Loc} {k n : Nat} (hs : (U.calling g mk a).sameButNew ({ t with vm := (U.calling g mk a).vm } : State) L k n) :
    ∃ B : State, B.heap = t.heap ∧ B.vm = t.vm ∧ Stand p l e R s m args below meth c B (locs ++ L) (cells + k) (slots + n) ∧
      (∀ v, oc = .returned v → Steps p.tables e below (doInvoke e (U.setTop g) [] mk a).1 (B.setTop { g with pc := g.pc + len, stack := v.toList ++ g.stack })) ∧
      (∀ q, oc = .threw q → Steps p.tables e below (doInvoke e (U.setTop g) [] mk a).1 ((B.setTop g).pushFrame (.throwing q))) := by
  subst hg
  have hat := X.here
  obtain ⟨g₀, hg0⟩ := Option.isSome_iff_exists.mp hat.top
  obtain ⟨r, hr⟩ := State.topJava?_eq_some.mp hg0
  have hW' : U.WarmedH t.vm := hW
  obtain ⟨e1, q2, q3, q4, q5, q6⟩ := id hs
  have ht : t = ({ (U.calling g mk a).setFrames t.frames with heap := t.heap, slotsUsed := t.slotsUsed } : State).setVm t.vm := by
    have h1 : t = ({ t with vm := (U.calling g mk a).vm } : State).setVm t.vm := rfl
    rw [e1] at h1
    exact h1
  generalize hB : (({ U with heap := t.heap, slotsUsed := t.slotsUsed } : State).setVm t.vm) = B
  have hrB : B.frames = .java g₀ :: r := by rw [← hB]; exact hr
  have hsame : U.sameButNew ({ U with heap := t.heap, slotsUsed := t.slotsUsed } : State) L k n := by
    refine ⟨?_, q2, q3, q4, q5, q6⟩
    obtain ⟨th, hth, -⟩ := State.frames_cons hr
    show ({ U with heap := t.heap, slotsUsed := t.slotsUsed } : State) = { U.setFrames U.frames with heap := t.heap, slotsUsed := t.slotsUsed }
    rw [State.setFrames_self hth]
  have X' : Stand p l e R s g.method args below meth c B (locs ++ L) (cells + k) (slots + n) := by
    rw [← hB]
    exact ⟨X.admits, X.cas, X.clock, X.frames, X.room, X.hears, X.method, X.code, (X.here.setHeapUsed t.heap t.slotsUsed).setVm hW'.alike, X.tail, State.WarmedH.trans X.warmed hW', X.limits, X.bytes, X.same.trans (hsame.setVm s.vm)⟩
  rw [State.frames_setTop' g hat.top] at hend
  refine ⟨B, by rw [← hB]; rfl, by rw [← hB]; rfl, X', fun v hv => ?_, fun q hq => ?_⟩
  · subst hv
    obtain ⟨c₂, i₂, len₂, hc₂, hd₂, hf₂⟩ := hend
    have hcc : c₂ = c := by
      have h1 : t.code? g.method = U.code? g.method := by
        rw [State.code?_eq, State.code?_eq, hW'.alike.method?]
      exact Option.some.inj (hc₂.symm.trans (h1.trans hat.code))
    subst hcc
    have hlen : len₂ = len := by rw [hdg] at hd₂; cases hd₂; rfl
    subst hlen
    have h9 : t = B.setTop { g with pc := g.pc + len₂, stack := v.toList ++ g.stack } := by
      refine ht.trans ?_
      rw [hf₂, State.calling_eq hat.top, State.setFrames_setFrames, State.setTop_of_frames _ hrB, hr, ← hB]
      rfl
    rw [← h9]
    exact hst
  · subst hq
    have hf₂ : t.frames = .throwing q :: .java g :: U.frames.tail := hend
    have h9 : t = (B.setTop g).pushFrame (.throwing q) := by
      refine ht.trans ?_
      rw [hf₂, State.calling_eq hat.top, State.setFrames_setFrames, State.pushFrame, State.frames_setTop _ hrB, State.setTop_of_frames _ hrB, State.setFrames_setFrames, hr, ← hB]
      rfl
    rw [← h9]
    exact hst
end KC
