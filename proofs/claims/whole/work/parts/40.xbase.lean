/-! wrappers: their handlers, their contract out of their body -/
def yCt (ct : Nat) : String := if ct = 13 then eS else if ct = 19 then eB else if ct = 36 then eU else eA
def yFind (rows : List kRow) (E : String) : List (Nat × Nat × Nat × Nat) → Option Nat
  | [] => none
  | q :: t => if yCt q.2.2.2 = E then (yLook rows q.2.2.1).map (fun r => r.1 + r.2.2.1) else yFind rows E t
def yHk (rows : List kRow) (nL pc : Nat) (q : Nat × Nat × Nat × Nat) : Bool := decide (q.1 ≤ pc) && decide (pc < q.2.1) && decide (q.2.2.2 ∈ [13, 19, 36, 59]) && (match yLook rows q.2.2.1 with
  | some (_, .astore i, _, _, _) => decide (i < nL)
  | some (_, .astore_n k, _, _, _) => decide (k.val < nL)
  | _ => false)
def yHd (rows : List kRow) (nL : Nat) (hh : List (Nat × Nat × Nat × Nat)) (pc : Nat) (E : String) : Option Nat := if hh.all (yHk rows nL pc) = true ∧ E ∈ kEx then yFind rows E hh else none
theorem yCt_ok {ct : Nat} (h : ct ∈ [13, 19, 36, 59]) : Cond.classLink RL ct (yCt ct) ∈ kG ∧ yCt ct ∈ kEx ∧ ct ≠ 0 := by
  obtain ⟨-, w1, w2, w3, w4⟩ := yRL_ok
  simp only [List.mem_cons, List.not_mem_nil, or_false] at h
  rcases h with rfl | rfl | rfl | rfl
  · exact ⟨w1, by decide +kernel, by decide⟩
  · exact ⟨w2, by decide +kernel, by decide⟩
  · exact ⟨w3, by decide +kernel, by decide⟩
  · exact ⟨w4, by decide +kernel, by decide⟩
theorem yHd_ok {e : Env} {s : State} {m : MethodId} {args : Array Value} {c : Code} {cc : ByteArray} {nL : Nat} {rows : List kRow} {hh : List (Nat × Nat × Nat × Nat)} (hts : ∀ w ∈ kG, w.before args s = true) (hA : kAs s) (hown : s.vm.findClass RL = some m.cls) (hpl : e.platform.magicAccessors = ({} : Platform).magicAccessors) (htab : c.exceptionTable.toList = tableOf hh) (hrows : kOkT (cc, rows)) : yHn e s m c cc nL (yHd rows nL hh) := by
  intro pc E h hh0 th hth
  unfold yHd at hh0
  split at hh0
  · rename_i hc
    obtain ⟨h1, hE⟩ := hc
    rw [htab]
    have go : ∀ q : List (Nat × Nat × Nat × Nat), (∀ x ∈ q, yHk rows nL pc x = true) → yFind rows E q = some h → ∃ hp i, kct e.platform s m.cls pc th hp (tableOf q) ∧ i < nL ∧ ((decode cc hp = .ok (.astore i, 2) ∧ h = hp + 2) ∨ (∃ k : Fin 4, (k : Nat) = i ∧ decode cc hp = .ok (.astore_n k, 1) ∧ h = hp + 1)) := by
      intro q
      induction q with
      | nil => intro _ hf; cases hf
      | cons x t ih =>
        intro hall hf
        have hx := hall x List.mem_cons_self
        unfold yHk at hx
        rw [Bool.and_eq_true, Bool.and_eq_true, Bool.and_eq_true] at hx
        obtain ⟨⟨⟨x1, x2⟩, x3⟩, x4⟩ := hx
        have x3 := of_decide_eq_true x3
        obtain ⟨w1, w2, w3⟩ := yCt_ok x3
        obtain ⟨c', hc', hcl⟩ := Cond.classLink_spec hown (hts _ w1) e.platform hpl
        obtain ⟨a, b, g1, g2, g3⟩ := hA E hE (yCt x.2.2.2) w2
        cases Option.some.inj (g1.symm.trans hth)
        cases Option.some.inj (g2.symm.trans hc')
        have hcov : covers ⟨x.1, x.2.1, x.2.2.1, x.2.2.2⟩ pc = true := by
          show (decide (x.1 ≤ pc) && decide (pc < x.2.1)) = true
          rw [x1, x2]
          rfl
        unfold yFind at hf
        by_cases he : yCt x.2.2.2 = E
        · rw [if_pos he] at hf
          rw [decide_eq_true he.symm] at g3
          cases hl : yLook rows x.2.2.1 with
          | none => rw [hl] at hf; cases hf
          | some r =>
            rw [hl] at hf x4
            have hf : r.1 + r.2.2.1 = h := Option.some.inj hf
            have r1 : r.1 = x.2.2.1 := by
              have := List.find?_some hl
              simpa using this
            obtain ⟨d1, d2⟩ := hrows r (List.mem_of_find?_eq_some hl)
            obtain ⟨rp, ri, rl, rx, ry⟩ := r
            have r1 : rp = x.2.2.1 := r1
            have d1 : decode cc rp = .ok (ri, rl) := d1
            have d2 : (rl == kLn ri && _) = true := d2
            rw [Bool.and_eq_true] at d2
            have d3 : rl = kLn ri := by simpa using d2.1
            have hf : rp + rl = h := hf
            subst r1
            refine ⟨x.2.2.1, ?_⟩
            split at x4
            · rename_i z1 i z3 z4 z5 heq
              cases heq
              have d3 : rl = 2 := d3
              subst d3
              exact ⟨i, ⟨hcov, w3, _, hcl, Or.inl ⟨g3, rfl⟩⟩, of_decide_eq_true x4, Or.inl ⟨d1, hf.symm⟩⟩
            · rename_i z1 k z3 z4 z5 heq
              cases heq
              have d3 : rl = 1 := d3
              subst d3
              exact ⟨k.val, ⟨hcov, w3, _, hcl, Or.inl ⟨g3, rfl⟩⟩, of_decide_eq_true x4, Or.inr ⟨k, rfl, d1, hf.symm⟩⟩
            · cases x4
        · rw [if_neg he] at hf
          rw [decide_eq_false (fun z => he z.symm)] at g3
          obtain ⟨hp, i, k1, k2, k3⟩ := ih (fun y hy => hall y (List.mem_cons_of_mem _ hy)) hf
          exact ⟨hp, i, ⟨hcov, w3, _, hcl, Or.inr ⟨g3, k1⟩⟩, k2, k3⟩
    exact go hh (fun x hx => List.all_eq_true.mp h1 x hx) hh0
  · cases hh0
theorem kEnd_imp {D : va_G} {ad : Nat → Nat} {cI cJ : ClassId} {o : Int64} {P P' : kRes → Prop} (h : ∀ r, P r → P' r) {s : State} {oc : Outcome} {t : State} (k : kEnd D ad cI cJ o P s oc t) : kEnd D ad cI cJ o P' s oc t := by
  rcases k with ⟨v, M, h1, h2, h3⟩ | ⟨q, E, M, ce, h1, h2, h3⟩
  · exact Or.inl ⟨v, M, h1, h _ h2, h3⟩
  · exact Or.inr ⟨q, E, M, ce, h1, h _ h2, h3⟩
theorem kC_imp {d mid : Nat} {av : List Value} {M : kMem} {P P' : kRes → Prop} (h : ∀ r, P r → P' r) (k : kC d mid av M P) : kC d mid av M P' := by
  intro l D ad cI cJ o hst hi p e ha hc hk s m args below hf happ hP ht
  obtain ⟨k9, oc, h1, h2, h3, hQ⟩ := k l D ad cI cJ o hst hi p e ha hc hk s m args below hf happ hP ht
  exact ⟨k9, oc, h1, h2, h3, kEnd_imp h hQ⟩
abbrev yNo : yKt := fun _ _ _ _ _ _ => False
theorem xC_body {i : Nat} (hi : i < 13) {av : List Value} {M : kMem} {o : Int64} {P : Int32 → kMem → Int64 → Prop} (hn : (lg_sl av).length ≤ (yW i).2.2.1) (hrows : kOkT ((yW i).2.1, (yW i).2.2.2.2.2))
    (k : ywL (yW i).2.2.1 6 1 0 false (fun _ => 0) (yHd (yW i).2.2.2.2.2 (yW i).2.2.1 (yW i).2.2.2.1) (fun v M o n => P v M o ∧ n ≤ 1) yNo (yW i).2.2.2.2.2 [] 40 0 (lv_args 0 av) [] M o 0) : xC 7 i av M o P := by
  intro l D ad cI cJ hst hij
  obtain ⟨a1, a2, a3, a4, a5, a6, a7⟩ := yWs_in i hi
  have hw : ∀ {args : Array Value} {s : State}, (headSpec (xWd i) (kR 7)).pre.before args s = true → (Cond.codeWith (yW i).1 (yW i).2.1 (yW i).2.2.1 (some .int) (yW i).2.2.2.1).before args s = true := fun h => atoms_spec (ws := xWd i) h _ List.mem_cons_self
  refine MetFree.of_bodyS (code := (yW i).2.1) (maxLocals := (yW i).2.2.1) (ret := some .int) a4 ?_ ?_
  · intro args s m h hn9
    obtain ⟨m9, meth, c, h0, h1, h2, h3, h4, -, h5, h6, -⟩ := Cond.codeWith_spec (hw h)
    cases Option.some.inj (h0.symm.trans hn9)
    exact ⟨meth, c, h1, h2, h3, h4, h5, h6⟩
  · intro p e s m args below meth c s₁ B hml hP _
    obtain ⟨⟨rfl, hP1, hK, hz⟩, hA⟩ := hP
    have hh0 : s₁.heap = s.heap := by rw [B.state]; rfl
    have hown : s.vm.findClass RL = some m.cls := by rw [← a3]; exact findClass_of_methodNamed B.named
    have hts := atoms_spec (ws := xWd i) B.pre
    have htab : c.exceptionTable.toList = tableOf (yW i).2.2.2.1 := vx_table (x := yL_law) B (hw B.pre)
    have X0 := Stand.of_body B
    have hpl : e.platform.magicAccessors = ({} : Platform).magicAccessors := by rw [X0.admits.platform]
    have C : yCx (yW i).2.1 (yW i).2.2.1 6 1 0 0 p l (kR 7) s m (av.map (kv ad)).toArray c D ad cI cJ := ⟨B.exec, B.bytes, hml, hown, fun w hw9 => hts w (List.mem_cons_of_mem _ hw9), hK, hz, hst, hij, by show 6 + 6 + 1 ≤ 6 + 7; decide, by show 90 + 28 * (6 + 1) ≤ 90 + 28 * 7; decide, by show 0 + 1 ≤ 1; decide, by show 0 + 6 * 1 ≤ 6; decide⟩
    have hl := lv_entry (av.map (kv ad)) (n := (yW i).2.2.1) (by rw [kv_sl]; exact hn)
    rw [kv_args] at hl
    have hF : ∀ (v : Int32) (M : kMem) (o : Int64) (n pc : Nat) (ls : Array Slot) (H : Heap) (locs : List Loc), (P v M o ∧ n ≤ 1) → decode (yW i).2.1 pc = .ok (.ireturn, 1) → va_P D vwCl (kW ad cI cJ o M) H → va_S (kA ad s.heap.size) s.heap H locs → W p l e (kR 7) s m (av.map (kv ad)).toArray below meth c H locs (0 + n) (0 + 6 * n) (fun t => ∃ oc, t.status = .running ∧ Ended t below oc ∧ xEnd D ad cI cJ P s oc t) (F0 m pc ls [.int v]) := by
      intro v M o n pc ls H locs hp hd hP hS
      refine k_imp (fun t h => ?_) (W.iret (Qc := fun _ s' oc t => oc = .returned (some (.int v)) ∧ va_P D vwCl (kW ad cI cJ o M) t.heap ∧ va_F (kA ad s'.heap.size) s' t) (free := kA ad s.heap.size) B.exec B.bytes B.returns (fun t ht hW => ⟨rfl, by rw [ht]; exact hP, hS.F ht⟩) hS.2.2 hd B.notSynchronized)
      obtain ⟨oc, h1, h2, ⟨h3, h4, h5⟩, L, ⟨-, h6, h7⟩, h8⟩ := h
      exact ⟨oc, h1, h2, v, M, o, h3, hp.1, h4, h5, h6, L, h7.mono (by omega) (by omega), h8⟩
    have hS0 : yScr s ad 0 false (fun _ => 0) := fun z => absurd z (by decide)
    have hH0 : yHn e s m c (yW i).2.1 (yW i).2.2.1 (yHd (yW i).2.2.2.2.2 (yW i).2.2.1 (yW i).2.2.2.1) := yHd_ok (fun w hw9 => hts w (List.mem_cons_of_mem _ hw9)) hA hown hpl htab hrows
    have hG0 : ∀ (pc : Nat) (lv : List (Nat × Value)) (st : List Value) (M : kMem) (o : Int64) (n : Nat), yNo pc lv st M o n → yJ p l e (kR 7) s m (av.map (kv ad)).toArray below meth c D ad cI cJ (yW i).2.2.1 0 0 (fun t => ∃ oc, t.status = .running ∧ Ended t below oc ∧ xEnd D ad cI cJ P s oc t) pc lv st M o n := fun _ _ _ _ _ _ z => False.elim z
    have hj := ywL_ok (L := 0) (sc := false) (xs := fun _ => 0) (Hn := yHd (yW i).2.2.2.2.2 (yW i).2.2.1 (yW i).2.2.2.1) (F := fun v M o n => P v M o ∧ n ≤ 1) (G := yNo) C hA hH0 hS0 hF hG0 hrows (sl := []) 40 0 (lv_args 0 av) [] M o 0 k
    obtain ⟨t, b1, oc, b2, b3, b4⟩ := hj s.heap [] _ hP1 va_S.rf hl s₁ hh0 X0
    rw [lg_entry_eq]
    exact ⟨t, oc, b1, b2, b3, b4⟩
