/-! rows of the judgement: an instruction a row -/
def kget (lv : List (Nat × Value)) (i : Nat) : Option Value := (lv.find? (fun q => q.1 == i)).map (fun q => q.2)
theorem kget_ok {lv : List (Nat × Value)} {i : Nat} {v : Value} (h : kget lv i = some v) : (i, v) ∈ lv := by
  unfold kget at h
  cases hx : lv.find? (fun q => q.1 == i) with
  | none => rw [hx] at h; cases h
  | some q =>
    rw [hx] at h
    have h1 := List.find?_some hx
    have h2 := List.mem_of_find?_eq_some hx
    have h3 : q.2 = v := Option.some.inj h
    have h4 : q.1 = i := by simpa using h1
    rw [← h3, ← h4]
    exact h2
def kins : List (Nat × Value) → Nat → Value → List (Nat × Value)
  | [], i, v => [(i, v)]
  | q :: r, i, v => if i < q.1 then (i, v) :: q :: r else q :: kins r i v
def kset (lv : List (Nat × Value)) (i : Nat) (v : Value) : List (Nat × Value) := kins (lv.filter (fun q => q.1 != i)) i v
theorem kins_mem {i : Nat} {v : Value} : ∀ (lv : List (Nat × Value)) (q : Nat × Value), q ∈ kins lv i v → q = (i, v) ∨ q ∈ lv := by
  intro lv
  induction lv with
  | nil => intro q h; exact Or.inl (by simpa [kins] using h)
  | cons x r ih =>
    intro q h
    unfold kins at h
    split at h
    · exact (List.mem_cons.mp h).elim Or.inl Or.inr
    · rcases List.mem_cons.mp h with h | h
      · exact Or.inr (by rw [h]; exact List.mem_cons_self)
      · exact (ih q h).elim Or.inl (fun z => Or.inr (List.mem_cons_of_mem _ z))
theorem kset_mem {lv : List (Nat × Value)} {i : Nat} {v : Value} {q : Nat × Value} (h : q ∈ kset lv i v) : q = (i, v) ∨ (q ∈ lv ∧ q.1 ≠ i) := by
  rcases kins_mem _ q h with h | h
  · exact Or.inl h
  · obtain ⟨h1, h2⟩ := List.mem_filter.mp h
    exact Or.inr ⟨h1, by simpa using h2⟩
def kcat (lv : List (Nat × Value)) : Bool := lv.all (fun q => q.2.category == 1)
theorem kv_cat (ad : Nat → Nat) (v : Value) : (kv ad v).category = v.category := by cases v <;> rfl
theorem kset_has {ad : Nat → Nat} {lv : List (Nat × Value)} {i nL : Nat} {v : Value} {ls : Array Slot} (hc : kcat lv = true)
    (h : lv_has ls nL ((i, kv ad v) :: (lv.map (fun q => (q.1, kv ad q.2))).filter (fun q => !(q.1 == i) && !(q.1 + 1 == i && q.2.category == 2)))) : lv_has ls nL ((kset lv i v).map (fun q => (q.1, kv ad q.2))) := by
  refine ⟨h.1, h.2.1, fun q hq => ?_⟩
  obtain ⟨q0, hq0, rfl⟩ := List.mem_map.mp hq
  rcases kset_mem hq0 with rfl | ⟨h1, h2⟩
  · exact h.2.2 _ List.mem_cons_self
  · refine h.2.2 _ (List.mem_cons_of_mem _ (List.mem_filter.mpr ⟨List.mem_map.mpr ⟨q0, h1, rfl⟩, ?_⟩))
    have h3 := List.all_eq_true.mp hc q0 h1
    have h4 : q0.2.category = 1 := by simpa using h3
    have h5 : (kv ad q0.2).category = 1 := by rw [kv_cat]; exact h4
    simp [h2, h5]
theorem kget_has {ad : Nat → Nat} {lv : List (Nat × Value)} {i nL : Nat} {v : Value} {ls : Array Slot} (hl : lv_has ls nL (lv.map (fun q => (q.1, kv ad q.2)))) (h : kget lv i = some v) : ls[i]? = some (.val (kv ad v)) :=
  hl.2.2 (i, kv ad v) (List.mem_map.mpr ⟨(i, v), kget_ok h, rfl⟩)
section KR
variable {d mid : Nat} {P : kRes → Prop} {pc : Nat} {lv : List (Nat × Value)} {st : List Value} {M : kMem}
abbrev kDec (mid pc : Nat) (i : Instr) (len : Nat) : Prop := decode (kB mid) pc = .ok (i, len)
theorem kj_iconst {n : Int} {v : Int32} (hd : kDec mid pc (.iconst n) 1) (hv : Int32.ofInt n = v) (k : kJ d mid P (pc + 1) lv (.int v :: st) M) : kJ d mid P pc lv st M := by
  intro p l e R s m args below meth c D ad cI cJ o C H locs ls hP hS hl
  exact lv_iconst C.1 C.2.1 hd hv (k p l e R s m args below meth c D ad cI cJ o C H locs ls hP hS hl)
theorem kj_bipush {n : Int} {v : Int32} (hd : kDec mid pc (.bipush n) 2) (hv : (Int8.ofInt n).toInt32 = v) (k : kJ d mid P (pc + 2) lv (.int v :: st) M) : kJ d mid P pc lv st M := by
  intro p l e R s m args below meth c D ad cI cJ o C H locs ls hP hS hl
  exact lv_bipush C.1 C.2.1 hd hv (k p l e R s m args below meth c D ad cI cJ o C H locs ls hP hS hl)
theorem kj_sipush {n : Int} {v : Int32} (hd : kDec mid pc (.sipush n) 3) (hv : (Int16.ofInt n).toInt32 = v) (k : kJ d mid P (pc + 3) lv (.int v :: st) M) : kJ d mid P pc lv st M := by
  intro p l e R s m args below meth c D ad cI cJ o C H locs ls hP hS hl
  exact lv_sipush C.1 C.2.1 hd hv (k p l e R s m args below meth c D ad cI cJ o C H locs ls hP hS hl)
theorem kj_ldc {idx x : Nat} (hd : kDec mid pc (.ldc idx) 2) (hc : (kO mid, idx, x) ∈ kKc) (k : kJ d mid P (pc + 2) lv (.int (nI x) :: st) M) : kJ d mid P pc lv st M := by
  intro p l e R s m args below meth c D ad cI cJ o C H locs ls hP hS hl
  exact lv_ldc C.1 C.2.1 C.2.2.2.1 (C.2.2.2.2.1 _ (kKc_ok _ hc)) hd (k p l e R s m args below meth c D ad cI cJ o C H locs ls hP hS hl)
theorem kj_ldcw {idx x : Nat} (hd : kDec mid pc (.ldc_w idx) 3) (hc : (kO mid, idx, x) ∈ kKc) (k : kJ d mid P (pc + 3) lv (.int (nI x) :: st) M) : kJ d mid P pc lv st M := by
  intro p l e R s m args below meth c D ad cI cJ o C H locs ls hP hS hl
  exact lv_ldcw C.1 C.2.1 C.2.2.2.1 (C.2.2.2.2.1 _ (kKc_ok _ hc)) hd (k p l e R s m args below meth c D ad cI cJ o C H locs ls hP hS hl)
theorem kj_iload_n {i : Fin 4} {x : Int32} (hd : kDec mid pc (.iload_n i) 1) (hg : kget lv i.val = some (.int x)) (k : kJ d mid P (pc + 1) lv (.int x :: st) M) : kJ d mid P pc lv st M := by
  intro p l e R s m args below meth c D ad cI cJ o C H locs ls hP hS hl
  exact lv_iload_n C.1 C.2.1 hd rfl (kget_has hl hg) (k p l e R s m args below meth c D ad cI cJ o C H locs ls hP hS hl)
theorem kj_iload {i : Nat} {x : Int32} (hd : kDec mid pc (.iload i) 2) (hg : kget lv i = some (.int x)) (k : kJ d mid P (pc + 2) lv (.int x :: st) M) : kJ d mid P pc lv st M := by
  intro p l e R s m args below meth c D ad cI cJ o C H locs ls hP hS hl
  exact lv_iload C.1 C.2.1 hd (kget_has hl hg) (k p l e R s m args below meth c D ad cI cJ o C H locs ls hP hS hl)
theorem kj_aload_n {i : Fin 4} {x : Nat} (hd : kDec mid pc (.aload_n i) 1) (hg : kget lv i.val = some (.ref x)) (k : kJ d mid P (pc + 1) lv (.ref x :: st) M) : kJ d mid P pc lv st M := by
  intro p l e R s m args below meth c D ad cI cJ o C H locs ls hP hS hl
  exact lv_aload_n C.1 C.2.1 hd rfl (kget_has hl hg) (k p l e R s m args below meth c D ad cI cJ o C H locs ls hP hS hl)
theorem kj_aload {i : Nat} {x : Nat} (hd : kDec mid pc (.aload i) 2) (hg : kget lv i = some (.ref x)) (k : kJ d mid P (pc + 2) lv (.ref x :: st) M) : kJ d mid P pc lv st M := by
  intro p l e R s m args below meth c D ad cI cJ o C H locs ls hP hS hl
  exact lv_aload C.1 C.2.1 hd (kget_has hl hg) (k p l e R s m args below meth c D ad cI cJ o C H locs ls hP hS hl)
theorem kj_istore_n {i : Fin 4} {x : Int32} (hd : kDec mid pc (.istore_n i) 1) (hc : kcat lv = true) (hn : i.val < kL mid) (k : kJ d mid P (pc + 1) (kset lv i.val (.int x)) st M) : kJ d mid P pc lv (.int x :: st) M := by
  intro p l e R s m args below meth c D ad cI cJ o C H locs ls hP hS hl
  exact lv_istore_n C.1 C.2.1 hd rfl hl hn rfl (fun ls' h' => k p l e R s m args below meth c D ad cI cJ o C H locs ls' hP hS (kset_has (v := .int x) hc h'))
theorem kj_istore {i : Nat} {x : Int32} (hd : kDec mid pc (.istore i) 2) (hc : kcat lv = true) (hn : i < kL mid) (k : kJ d mid P (pc + 2) (kset lv i (.int x)) st M) : kJ d mid P pc lv (.int x :: st) M := by
  intro p l e R s m args below meth c D ad cI cJ o C H locs ls hP hS hl
  exact lv_istore C.1 C.2.1 hd hl hn rfl (fun ls' h' => k p l e R s m args below meth c D ad cI cJ o C H locs ls' hP hS (kset_has (v := .int x) hc h'))
theorem kj_astore_n {i : Fin 4} {x : Nat} (hd : kDec mid pc (.astore_n i) 1) (hc : kcat lv = true) (hn : i.val < kL mid) (k : kJ d mid P (pc + 1) (kset lv i.val (.ref x)) st M) : kJ d mid P pc lv (.ref x :: st) M := by
  intro p l e R s m args below meth c D ad cI cJ o C H locs ls hP hS hl
  exact lv_astore_n C.1 C.2.1 hd rfl hl hn rfl (fun ls' h' => k p l e R s m args below meth c D ad cI cJ o C H locs ls' hP hS (kset_has (v := .ref x) hc h'))
theorem kj_astore {i : Nat} {x : Nat} (hd : kDec mid pc (.astore i) 2) (hc : kcat lv = true) (hn : i < kL mid) (k : kJ d mid P (pc + 2) (kset lv i (.ref x)) st M) : kJ d mid P pc lv (.ref x :: st) M := by
  intro p l e R s m args below meth c D ad cI cJ o C H locs ls hP hS hl
  exact lv_astore C.1 C.2.1 hd hl hn rfl (fun ls' h' => k p l e R s m args below meth c D ad cI cJ o C H locs ls' hP hS (kset_has (v := .ref x) hc h'))
theorem kj_iinc {i : Nat} {n : Int} {x v : Int32} (hd : kDec mid pc (.iinc i n) 3) (hc : kcat lv = true) (hn : i < kL mid) (hg : kget lv i = some (.int x)) (hv : x + Int32.ofInt n = v) (k : kJ d mid P (pc + 3) (kset lv i (.int v)) st M) : kJ d mid P pc lv st M := by
  intro p l e R s m args below meth c D ad cI cJ o C H locs ls hP hS hl
  obtain ⟨j, hj⟩ := List.getElem?_of_mem (List.mem_map.mpr ⟨(i, Value.int x), kget_ok hg, rfl⟩ : (i, kv ad (.int x)) ∈ lv.map (fun q => (q.1, kv ad q.2)))
  exact lv_iinc C.1 C.2.1 hd hl hj hv hn rfl (fun ls' h' => k p l e R s m args below meth c D ad cI cJ o C H locs ls' hP hS (kset_has (v := .int v) hc h'))
theorem kj_iadd {x y : Int32} (hd : kDec mid pc .iadd 1) (k : kJ d mid P (pc + 1) lv (.int (x + y) :: st) M) : kJ d mid P pc lv (.int y :: .int x :: st) M := by
  intro p l e R s m args below meth c D ad cI cJ o C H locs ls hP hS hl
  exact lv_iadd C.1 C.2.1 hd (k p l e R s m args below meth c D ad cI cJ o C H locs ls hP hS hl)
theorem kj_isub {x y : Int32} (hd : kDec mid pc .isub 1) (k : kJ d mid P (pc + 1) lv (.int (x - y) :: st) M) : kJ d mid P pc lv (.int y :: .int x :: st) M := by
  intro p l e R s m args below meth c D ad cI cJ o C H locs ls hP hS hl
  exact lv_isub C.1 C.2.1 hd (k p l e R s m args below meth c D ad cI cJ o C H locs ls hP hS hl)
theorem kj_imul {x y : Int32} (hd : kDec mid pc .imul 1) (k : kJ d mid P (pc + 1) lv (.int (x * y) :: st) M) : kJ d mid P pc lv (.int y :: .int x :: st) M := by
  intro p l e R s m args below meth c D ad cI cJ o C H locs ls hP hS hl
  exact lv_imul C.1 C.2.1 hd (k p l e R s m args below meth c D ad cI cJ o C H locs ls hP hS hl)
theorem kj_iand {x y : Int32} (hd : kDec mid pc .iand 1) (k : kJ d mid P (pc + 1) lv (.int (x &&& y) :: st) M) : kJ d mid P pc lv (.int y :: .int x :: st) M := by
  intro p l e R s m args below meth c D ad cI cJ o C H locs ls hP hS hl
  exact lv_iand C.1 C.2.1 hd (k p l e R s m args below meth c D ad cI cJ o C H locs ls hP hS hl)
theorem kj_ior {x y : Int32} (hd : kDec mid pc .ior 1) (k : kJ d mid P (pc + 1) lv (.int (x ||| y) :: st) M) : kJ d mid P pc lv (.int y :: .int x :: st) M := by
  intro p l e R s m args below meth c D ad cI cJ o C H locs ls hP hS hl
  exact lv_ior C.1 C.2.1 hd (k p l e R s m args below meth c D ad cI cJ o C H locs ls hP hS hl)
theorem kj_ixor {x y : Int32} (hd : kDec mid pc .ixor 1) (k : kJ d mid P (pc + 1) lv (.int (x ^^^ y) :: st) M) : kJ d mid P pc lv (.int y :: .int x :: st) M := by
  intro p l e R s m args below meth c D ad cI cJ o C H locs ls hP hS hl
  exact lv_ixor C.1 C.2.1 hd (k p l e R s m args below meth c D ad cI cJ o C H locs ls hP hS hl)
theorem kj_idiv {x y : Int32} (hd : kDec mid pc .idiv 1) (hne : ¬ y = 0) (k : kJ d mid P (pc + 1) lv (.int (x / y) :: st) M) : kJ d mid P pc lv (.int y :: .int x :: st) M := by
  intro p l e R s m args below meth c D ad cI cJ o C H locs ls hP hS hl
  exact lv_idiv C.1 C.2.1 hd hne (k p l e R s m args below meth c D ad cI cJ o C H locs ls hP hS hl)
theorem kj_irem {x y : Int32} (hd : kDec mid pc .irem 1) (hne : ¬ y = 0) (k : kJ d mid P (pc + 1) lv (.int (x - x / y * y) :: st) M) : kJ d mid P pc lv (.int y :: .int x :: st) M := by
  intro p l e R s m args below meth c D ad cI cJ o C H locs ls hP hS hl
  exact lv_irem C.1 C.2.1 hd hne (k p l e R s m args below meth c D ad cI cJ o C H locs ls hP hS hl)
theorem kj_ishl {x y : Int32} (hd : kDec mid pc .ishl 1) (k : kJ d mid P (pc + 1) lv (.int (x <<< (y &&& 31)) :: st) M) : kJ d mid P pc lv (.int y :: .int x :: st) M := by
  intro p l e R s m args below meth c D ad cI cJ o C H locs ls hP hS hl
  exact lv_ishl C.1 C.2.1 hd (k p l e R s m args below meth c D ad cI cJ o C H locs ls hP hS hl)
theorem kj_ishr {x y : Int32} (hd : kDec mid pc .ishr 1) (k : kJ d mid P (pc + 1) lv (.int (x >>> (y &&& 31)) :: st) M) : kJ d mid P pc lv (.int y :: .int x :: st) M := by
  intro p l e R s m args below meth c D ad cI cJ o C H locs ls hP hS hl
  exact lv_ishr C.1 C.2.1 hd (k p l e R s m args below meth c D ad cI cJ o C H locs ls hP hS hl)
theorem kj_iushr {x y : Int32} (hd : kDec mid pc .iushr 1) (k : kJ d mid P (pc + 1) lv (.int ((x.toUInt32 >>> (y.toUInt32 &&& Int32.toUInt32 31)).toInt32) :: st) M) : kJ d mid P pc lv (.int y :: .int x :: st) M := by
  intro p l e R s m args below meth c D ad cI cJ o C H locs ls hP hS hl
  exact lv_iushr C.1 C.2.1 hd rfl (k p l e R s m args below meth c D ad cI cJ o C H locs ls hP hS hl)
theorem kj_dup {v : Value} (hd : kDec mid pc .dup 1) (hv : v.category = 1) (k : kJ d mid P (pc + 1) lv (v :: v :: st) M) : kJ d mid P pc lv (v :: st) M := by
  intro p l e R s m args below meth c D ad cI cJ o C H locs ls hP hS hl
  exact lv_dup C.1 C.2.1 hd (by rw [kv_cat]; exact hv) (k p l e R s m args below meth c D ad cI cJ o C H locs ls hP hS hl)
theorem kj_dup2 {v w : Value} (hd : kDec mid pc .dup2 1) (hv : v.category = 1) (hw : w.category = 1) (k : kJ d mid P (pc + 1) lv (v :: w :: v :: w :: st) M) : kJ d mid P pc lv (v :: w :: st) M := by
  intro p l e R s m args below meth c D ad cI cJ o C H locs ls hP hS hl
  exact lv_dup2_11 C.1 C.2.1 hd (by rw [kv_cat]; exact hv) (by rw [kv_cat]; exact hw) (k p l e R s m args below meth c D ad cI cJ o C H locs ls hP hS hl)
theorem kj_goto {off : Int} {tgt : Nat} (hd : kDec mid pc (.goto off) 3) (ht : (pc : Int) + off = (tgt : Int)) (k : kJ d mid P tgt lv st M) : kJ d mid P pc lv st M := by
  intro p l e R s m args below meth c D ad cI cJ o C H locs ls hP hS hl
  exact lv_goto C.1 C.2.1 hd ht (k p l e R s m args below meth c D ad cI cJ o C H locs ls hP hS hl)
theorem kj_if_eq {x : Int32} {off : Int} {tgt : Nat} (hd : kDec mid pc (.ifCond .eq off) 3) (ht : (pc : Int) + off = (tgt : Int)) (k1 : x = 0 → kJ d mid P tgt lv st M) (k2 : ¬ x = 0 → kJ d mid P (pc + 3) lv st M) : kJ d mid P pc lv (.int x :: st) M := by
  intro p l e R s m args below meth c D ad cI cJ o C H locs ls hP hS hl
  exact lv_if_eq C.1 C.2.1 hd ht (fun h => k1 h p l e R s m args below meth c D ad cI cJ o C H locs ls hP hS hl) (fun h => k2 h p l e R s m args below meth c D ad cI cJ o C H locs ls hP hS hl)
theorem kj_if_ne {x : Int32} {off : Int} {tgt : Nat} (hd : kDec mid pc (.ifCond .ne off) 3) (ht : (pc : Int) + off = (tgt : Int)) (k1 : ¬ x = 0 → kJ d mid P tgt lv st M) (k2 : x = 0 → kJ d mid P (pc + 3) lv st M) : kJ d mid P pc lv (.int x :: st) M := by
  intro p l e R s m args below meth c D ad cI cJ o C H locs ls hP hS hl
  exact lv_if_ne C.1 C.2.1 hd ht (fun h => k1 h p l e R s m args below meth c D ad cI cJ o C H locs ls hP hS hl) (fun h => k2 h p l e R s m args below meth c D ad cI cJ o C H locs ls hP hS hl)
theorem kj_if_lt {x : Int32} {off : Int} {tgt : Nat} (hd : kDec mid pc (.ifCond .lt off) 3) (ht : (pc : Int) + off = (tgt : Int)) (k1 : x < 0 → kJ d mid P tgt lv st M) (k2 : ¬ x < 0 → kJ d mid P (pc + 3) lv st M) : kJ d mid P pc lv (.int x :: st) M := by
  intro p l e R s m args below meth c D ad cI cJ o C H locs ls hP hS hl
  exact lv_if_lt C.1 C.2.1 hd ht (fun h => k1 h p l e R s m args below meth c D ad cI cJ o C H locs ls hP hS hl) (fun h => k2 h p l e R s m args below meth c D ad cI cJ o C H locs ls hP hS hl)
theorem kj_if_le {x : Int32} {off : Int} {tgt : Nat} (hd : kDec mid pc (.ifCond .le off) 3) (ht : (pc : Int) + off = (tgt : Int)) (k1 : x ≤ 0 → kJ d mid P tgt lv st M) (k2 : ¬ x ≤ 0 → kJ d mid P (pc + 3) lv st M) : kJ d mid P pc lv (.int x :: st) M := by
  intro p l e R s m args below meth c D ad cI cJ o C H locs ls hP hS hl
  exact lv_if_le C.1 C.2.1 hd ht (fun h => k1 h p l e R s m args below meth c D ad cI cJ o C H locs ls hP hS hl) (fun h => k2 h p l e R s m args below meth c D ad cI cJ o C H locs ls hP hS hl)
theorem kj_icmp_eq {x y : Int32} {off : Int} {tgt : Nat} (hd : kDec mid pc (.if_icmp .eq off) 3) (ht : (pc : Int) + off = (tgt : Int)) (k1 : x = y → kJ d mid P tgt lv st M) (k2 : ¬ x = y → kJ d mid P (pc + 3) lv st M) : kJ d mid P pc lv (.int y :: .int x :: st) M := by
  intro p l e R s m args below meth c D ad cI cJ o C H locs ls hP hS hl
  exact lv_icmp_eq C.1 C.2.1 hd ht (fun h => k1 h p l e R s m args below meth c D ad cI cJ o C H locs ls hP hS hl) (fun h => k2 h p l e R s m args below meth c D ad cI cJ o C H locs ls hP hS hl)
theorem kj_icmp_ne {x y : Int32} {off : Int} {tgt : Nat} (hd : kDec mid pc (.if_icmp .ne off) 3) (ht : (pc : Int) + off = (tgt : Int)) (k1 : ¬ x = y → kJ d mid P tgt lv st M) (k2 : x = y → kJ d mid P (pc + 3) lv st M) : kJ d mid P pc lv (.int y :: .int x :: st) M := by
  intro p l e R s m args below meth c D ad cI cJ o C H locs ls hP hS hl
  exact lv_icmp_ne C.1 C.2.1 hd ht (fun h => k1 h p l e R s m args below meth c D ad cI cJ o C H locs ls hP hS hl) (fun h => k2 h p l e R s m args below meth c D ad cI cJ o C H locs ls hP hS hl)
theorem kj_icmp_lt {x y : Int32} {off : Int} {tgt : Nat} (hd : kDec mid pc (.if_icmp .lt off) 3) (ht : (pc : Int) + off = (tgt : Int)) (k1 : x < y → kJ d mid P tgt lv st M) (k2 : ¬ x < y → kJ d mid P (pc + 3) lv st M) : kJ d mid P pc lv (.int y :: .int x :: st) M := by
  intro p l e R s m args below meth c D ad cI cJ o C H locs ls hP hS hl
  exact lv_icmp_lt C.1 C.2.1 hd ht (fun h => k1 h p l e R s m args below meth c D ad cI cJ o C H locs ls hP hS hl) (fun h => k2 h p l e R s m args below meth c D ad cI cJ o C H locs ls hP hS hl)
theorem kj_icmp_ge {x y : Int32} {off : Int} {tgt : Nat} (hd : kDec mid pc (.if_icmp .ge off) 3) (ht : (pc : Int) + off = (tgt : Int)) (k1 : y ≤ x → kJ d mid P tgt lv st M) (k2 : ¬ y ≤ x → kJ d mid P (pc + 3) lv st M) : kJ d mid P pc lv (.int y :: .int x :: st) M := by
  intro p l e R s m args below meth c D ad cI cJ o C H locs ls hP hS hl
  exact lv_icmp_ge C.1 C.2.1 hd ht (fun h => k1 h p l e R s m args below meth c D ad cI cJ o C H locs ls hP hS hl) (fun h => k2 h p l e R s m args below meth c D ad cI cJ o C H locs ls hP hS hl)
theorem kj_icmp_gt {x y : Int32} {off : Int} {tgt : Nat} (hd : kDec mid pc (.if_icmp .gt off) 3) (ht : (pc : Int) + off = (tgt : Int)) (k1 : y < x → kJ d mid P tgt lv st M) (k2 : ¬ y < x → kJ d mid P (pc + 3) lv st M) : kJ d mid P pc lv (.int y :: .int x :: st) M := by
  intro p l e R s m args below meth c D ad cI cJ o C H locs ls hP hS hl
  exact lv_icmp_gt C.1 C.2.1 hd ht (fun h => k1 h p l e R s m args below meth c D ad cI cJ o C H locs ls hP hS hl) (fun h => k2 h p l e R s m args below meth c D ad cI cJ o C H locs ls hP hS hl)
theorem kj_icmp_le {x y : Int32} {off : Int} {tgt : Nat} (hd : kDec mid pc (.if_icmp .le off) 3) (ht : (pc : Int) + off = (tgt : Int)) (k1 : x ≤ y → kJ d mid P tgt lv st M) (k2 : ¬ x ≤ y → kJ d mid P (pc + 3) lv st M) : kJ d mid P pc lv (.int y :: .int x :: st) M := by
  intro p l e R s m args below meth c D ad cI cJ o C H locs ls hP hS hl
  exact lv_icmp_le C.1 C.2.1 hd ht (fun h => k1 h p l e R s m args below meth c D ad cI cJ o C H locs ls hP hS hl) (fun h => k2 h p l e R s m args below meth c D ad cI cJ o C H locs ls hP hS hl)
theorem kj_acmp_ne {a b : Nat} {off : Int} {tgt : Nat} (hd : kDec mid pc (.if_acmp .ne off) 3) (ht : (pc : Int) + off = (tgt : Int)) (ha : a < 16) (hb : b < 16) (k1 : ¬ a = b → kJ d mid P tgt lv st M) (k2 : a = b → kJ d mid P (pc + 3) lv st M) : kJ d mid P pc lv (.ref b :: .ref a :: st) M := by
  intro p l e R s m args below meth c D ad cI cJ o C H locs ls hP hS hl
  have hi : kInj ad := C.2.2.2.2.2.2.2.2.2.2.2.2
  exact lv_acmp_ne (rx := some (ad a)) (ry := some (ad b)) C.1 C.2.1 hd ht (fun h => k1 (fun z => h (by rw [z])) p l e R s m args below meth c D ad cI cJ o C H locs ls hP hS hl) (fun h => k2 (hi a b ha hb (Option.some.inj h)) p l e R s m args below meth c D ad cI cJ o C H locs ls hP hS hl)
end KR
