/-! constructors: MirrorGroup -/
def wG : List Cond := Cond.code yX1_init cX1_init 1 none :: kG
abbrev gW0 (a : Nat) : va_W := [(a, .inr (1, [.null, .null, .null, .null, .null, .int 0, .int 0, .int 0, .int 0]))]
abbrev gW1 (cI : ClassId) (a b h1 h2 h3 q1 q2 q3 f : Nat) : va_W := [(a, .inr (1, [.ref b, .ref h1, .ref h2, .ref h3, .ref f, .int (nI 1), .int (-1), .int (nI 0), .int (nI 0)])), (b, .inl (cI, 3072, .inl (fun _ => 0))), (h1, .inr (0, [.ref q1])), (q1, .inl (cI, 24, .inl (hd0 22))), (h2, .inr (0, [.ref q2])), (q2, .inl (cI, 24, .inl (hd0 22))), (h3, .inr (0, [.ref q3])), (q3, .inl (cI, 24, .inl (hd0 22))), (f, .inl (cI, 4, .inl (fun _ => 0)))]
set_option maxRecDepth 100000 in
theorem kIn2_ok : Cond.classLink RX1 13 RX0 ∈ kG ∧ Cond.instantiable RX0 1 ∈ kG ∧ Cond.initialized RX0 ∈ kG ∧ Cond.methodLink RX1 15 yX0_init ∈ kG ∧ Cond.instanceMethod yX0_init ∈ kG ∧ Cond.code yX0_init cX0_init 2 none ∈ kG ∧ Cond.instantiable RX1 9 ∈ kG ∧ Cond.instantiable RX2 10 ∈ kG ∧ Cond.initialized RX1 ∈ kG ∧ Cond.initialized RX2 ∈ kG ∧ Cond.code yX1_init cX1_init 1 none ∈ kG ∧ Cond.code yX2_init cX2_init 2 none ∈ kG ∧ Cond.instanceMethod yX1_init ∈ kG ∧ Cond.instanceMethod yX2_init ∈ kG := by decide +kernel
theorem kG_in : GoodIn kG kG := fun w hw => ⟨hw, kG_good hw⟩
theorem wH_in : GoodIn kG wH := fun w hw => (List.mem_cons.mp hw).elim (fun e => by rw [e]; exact ⟨kIn2_ok.2.2.2.2.2.1, kG_good kIn2_ok.2.2.2.2.2.1⟩) (fun h => ⟨h, kG_good h⟩)
