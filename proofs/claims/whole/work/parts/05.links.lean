/-! the links that the methods' instructions have, among the words of all -/
def kTf (ci k : Nat) : String × String × String × Bool := if ci = 0 then TX0 k else if ci = 1 then TX1 k else TX2 k
def kNf (ci : Nat) : Nat := if ci = 0 then 1 else if ci = 1 then 9 else 10
def kty (ci k : Nat) : FieldType := if ci = 0 then tyX0 k else if ci = 1 then tyX1 k else tyX2 k
set_option maxRecDepth 100000 in
theorem kFl_ok : ∀ r ∈ kFl, Cond.fieldLink (kCn r.1) r.2.1 (kTf r.2.2.1 r.2.2.2).1 (kTf r.2.2.1 r.2.2.2).2.1 (kTf r.2.2.1 r.2.2.2).2.2.1 ∈ kG ∧ r.2.2.2 < kNf r.2.2.1 ∧ r.2.2.1 < 3 := by decide +kernel
set_option maxRecDepth 100000 in
theorem kMl_ok : ∀ r ∈ kMl, Cond.methodLink (kCn r.1) r.2.1 (kY r.2.2) ∈ kG := by decide +kernel
set_option maxRecDepth 100000 in
theorem kVi_ok : ∀ i ∈ kVi, Cond.instanceMethod (kY i) ∈ kG ∧ Cond.selects (kCn (kO i)) (kY i) (kY i) ∈ kG ∧ kO i < 3 := by decide +kernel
set_option maxRecDepth 100000 in
theorem kSi_ok : ∀ i ∈ kSi, Cond.static (kY i) ∈ kG := by decide +kernel
set_option maxRecDepth 100000 in
theorem kAll_ok : ∀ i, i < 118 → Cond.initialized (kCn (kO i)) ∈ kG ∧ (kY i).cls = kCn (kO i) ∧ plainName (kY i).cls = true ∧ ((kY i).cls ≠ "java/lang/invoke/MethodHandle" ∧ (kY i).cls ≠ "java/lang/invoke/VarHandle") ∧ (parseMethodDescriptor (kY i).desc).map (fun d => d.parameters.length) = some (kN i) ∧ kL i ≤ 9 := by decide +kernel
set_option maxRecDepth 100000 in
theorem kPl_ok : (List.range 118).map (fun i => some (Cond.code (kY i) (kB i) (kL i) (kRt i))) = kPl.map (fun i => lw_tbl[i]?) := by decide +kernel
theorem kCode_in {i : Nat} (h : i < 118) : Cond.code (kY i) (kB i) (kL i) (kRt i) ∈ kG := by
  have h1 : ((List.range 118).map (fun i => some (Cond.code (kY i) (kB i) (kL i) (kRt i))))[i]? = some (some (Cond.code (kY i) (kB i) (kL i) (kRt i))) := by simp [h]
  rw [kPl_ok, List.getElem?_map] at h1
  cases hx : kPl[i]? with
  | none => rw [hx] at h1; cases h1
  | some j =>
    rw [hx] at h1
    exact List.mem_filter.mpr ⟨List.mem_of_getElem? (Option.some.inj h1), rfl⟩
set_option maxRecDepth 100000 in
theorem kAc_ok : ∀ r ∈ kAc, Cond.methodLink (kCn r.1) r.2 arraycopyName ∈ kG := by decide +kernel
set_option maxRecDepth 100000 in
theorem kAcs_ok : Cond.native arraycopyName ∈ kG ∧ Cond.static arraycopyName ∈ kG ∧ Cond.initialized "java/lang/System" ∈ kG := by decide +kernel
set_option maxRecDepth 100000 in
theorem kKc_ok : ∀ r ∈ kKc, Cond.constant (kCn r.1) r.2.1 (nI r.2.2) ∈ kG := by decide +kernel
set_option maxRecDepth 100000 in
theorem kWs0_ok : (∀ w ∈ u_ws RX0 TX0 1, w ∈ kG) ∧ (∀ w ∈ u_ws RX1 TX1 9, w ∈ kG) ∧ (∀ w ∈ u_ws RX2 TX2 10, w ∈ kG) := by decide +kernel
abbrev kThN : List String := ["java/lang/RuntimeException", "java/lang/Exception"]
set_option maxRecDepth 100000 in
theorem kTh_ok : ∀ r ∈ kTh, Cond.classLink RX1 r.2.2.1 r.2.2.2.2.2.1 ∈ kG ∧ Cond.initialized r.2.2.2.2.2.1 ∈ kG ∧ (∀ w ∈ vx_atS RX1 r.2.2.2.2.1 r.2.2.2.2.2.1 kThN, w ∈ kG ∨ w ∈ kFace) ∧ (∀ w ∈ Cond.classLink RX1 r.2.2.1 r.2.2.2.2.2.1 :: Cond.initialized r.2.2.2.2.2.1 :: vx_atS RX1 r.2.2.2.2.1 r.2.2.2.2.2.1 kThN, vx_ot w = true) ∧ Bundle.fit r.2.2.2.2.2.1 = true := by decide +kernel
theorem kThN_ok : ∀ n ∈ kThN, Bundle.fit n = true := by decide +kernel
set_option maxRecDepth 100000 in
theorem kTh_dec : ∀ r ∈ kTh, decode (kB r.1) r.2.1 = .ok (.new r.2.2.1, 3) ∧ decode (kB r.1) (r.2.1 + 3) = .ok (.dup, 1) ∧ decode (kB r.1) (r.2.1 + 4) = .ok (.ldc r.2.2.2.1, 2) ∧ decode (kB r.1) (r.2.1 + 6) = .ok (.invokespecial r.2.2.2.2.1, 3) ∧ decode (kB r.1) (r.2.1 + 9) = .ok (.athrow, 1) ∧ kO r.1 = 1 := by decide +kernel
theorem kG_good {w : Cond} (h : w ∈ kG) : (w.onTables && w.keeps) = true ∨ ∃ ty, w = .arrayClass ty := good_of_word (List.mem_filter.mp h).2
theorem kG_at {w : Cond} (h : w ∈ kG) {args a' : Array Value} {s U : State} (hW : s.WarmedH U.vm) (hw : w.before args s = true) : w.before a' U = true := word_at hW (kG_good h) hw
