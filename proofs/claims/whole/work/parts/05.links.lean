/-! the links that the methods' instructions have, among the words of all -/
def kTf (ci k : Nat) : String × String × String × Bool := if ci = 0 then TX0 k else if ci = 1 then TX1 k else TX2 k
def kNf (ci : Nat) : Nat := if ci = 0 then 1 else if ci = 1 then 9 else 10
def kty (ci k : Nat) : FieldType := if ci = 0 then tyX0 k else if ci = 1 then tyX1 k else tyX2 k
set_option maxRecDepth 100000 in
theorem kFl_ok : ∀ r ∈ kFl, Cond.fieldLink (kCn r.1) r.2.1 (kTf r.2.2.1 r.2.2.2).1 (kTf r.2.2.1 r.2.2.2).2.1 (kTf r.2.2.1 r.2.2.2).2.2.1 ∈ kG ∧ r.2.2.2 < kNf r.2.2.1 ∧ r.2.2.1 < 3 := by decide +kernel
set_option maxRecDepth 100000 in
theorem kMl_ok : ∀ r ∈ kMl, Cond.methodLink (kCn r.1) r.2.1 (kY r.2.2) ∈ kG := by decide +kernel
set_option maxRecDepth 100000 in
theorem kVi_c0 : ∀ i ∈ ([0, 1, 2, 3, 4, 5, 6, 7, 8, 9, 10, 11] : List Nat), Cond.instanceMethod (kY i) ∈ kG ∧ Cond.selects (kCn (kO i)) (kY i) (kY i) ∈ kG ∧ kO i < 3 := by decide +kernel
set_option maxRecDepth 100000 in
theorem kVi_c1 : ∀ i ∈ ([12, 13, 14, 16, 17, 18, 19, 20, 21, 22, 23, 24] : List Nat), Cond.instanceMethod (kY i) ∈ kG ∧ Cond.selects (kCn (kO i)) (kY i) (kY i) ∈ kG ∧ kO i < 3 := by decide +kernel
set_option maxRecDepth 100000 in
theorem kVi_c2 : ∀ i ∈ ([25, 26, 27, 28, 29, 30, 31, 32, 33, 34, 35, 36] : List Nat), Cond.instanceMethod (kY i) ∈ kG ∧ Cond.selects (kCn (kO i)) (kY i) (kY i) ∈ kG ∧ kO i < 3 := by decide +kernel
set_option maxRecDepth 100000 in
theorem kVi_c3 : ∀ i ∈ ([37, 38, 39, 40, 41, 42, 43, 44, 45, 46, 47, 48] : List Nat), Cond.instanceMethod (kY i) ∈ kG ∧ Cond.selects (kCn (kO i)) (kY i) (kY i) ∈ kG ∧ kO i < 3 := by decide +kernel
set_option maxRecDepth 100000 in
theorem kVi_c4 : ∀ i ∈ ([49, 50, 51, 55, 56, 57, 58, 59, 60, 61, 62, 63] : List Nat), Cond.instanceMethod (kY i) ∈ kG ∧ Cond.selects (kCn (kO i)) (kY i) (kY i) ∈ kG ∧ kO i < 3 := by decide +kernel
set_option maxRecDepth 100000 in
theorem kVi_c5 : ∀ i ∈ ([64, 65, 66, 67, 68, 69, 70, 71, 72, 74, 75, 77] : List Nat), Cond.instanceMethod (kY i) ∈ kG ∧ Cond.selects (kCn (kO i)) (kY i) (kY i) ∈ kG ∧ kO i < 3 := by decide +kernel
set_option maxRecDepth 100000 in
theorem kVi_c6 : ∀ i ∈ ([78, 79, 80, 81, 82, 83, 84, 85, 86, 87, 88, 89] : List Nat), Cond.instanceMethod (kY i) ∈ kG ∧ Cond.selects (kCn (kO i)) (kY i) (kY i) ∈ kG ∧ kO i < 3 := by decide +kernel
set_option maxRecDepth 100000 in
theorem kVi_c7 : ∀ i ∈ ([90, 91, 92, 93, 94, 95, 96, 97, 98, 99, 100, 101] : List Nat), Cond.instanceMethod (kY i) ∈ kG ∧ Cond.selects (kCn (kO i)) (kY i) (kY i) ∈ kG ∧ kO i < 3 := by decide +kernel
set_option maxRecDepth 100000 in
theorem kVi_c8 : ∀ i ∈ ([102, 103, 104, 105, 106, 107, 108, 109, 110, 111, 112, 113] : List Nat), Cond.instanceMethod (kY i) ∈ kG ∧ Cond.selects (kCn (kO i)) (kY i) (kY i) ∈ kG ∧ kO i < 3 := by decide +kernel
set_option maxRecDepth 100000 in
theorem kVi_c9 : ∀ i ∈ ([114, 115, 116] : List Nat), Cond.instanceMethod (kY i) ∈ kG ∧ Cond.selects (kCn (kO i)) (kY i) (kY i) ∈ kG ∧ kO i < 3 := by decide +kernel
theorem kVi_ok : ∀ i ∈ kVi, Cond.instanceMethod (kY i) ∈ kG ∧ Cond.selects (kCn (kO i)) (kY i) (kY i) ∈ kG ∧ kO i < 3 := by
  rw [show kVi = ([0, 1, 2, 3, 4, 5, 6, 7, 8, 9, 10, 11] ++ ([12, 13, 14, 16, 17, 18, 19, 20, 21, 22, 23, 24] ++ ([25, 26, 27, 28, 29, 30, 31, 32, 33, 34, 35, 36] ++ ([37, 38, 39, 40, 41, 42, 43, 44, 45, 46, 47, 48] ++ ([49, 50, 51, 55, 56, 57, 58, 59, 60, 61, 62, 63] ++ ([64, 65, 66, 67, 68, 69, 70, 71, 72, 74, 75, 77] ++ ([78, 79, 80, 81, 82, 83, 84, 85, 86, 87, 88, 89] ++ ([90, 91, 92, 93, 94, 95, 96, 97, 98, 99, 100, 101] ++ ([102, 103, 104, 105, 106, 107, 108, 109, 110, 111, 112, 113] ++ ([114, 115, 116]))))))))) : List Nat) from rfl]
  exact List.forall_mem_append.mpr ⟨kVi_c0, List.forall_mem_append.mpr ⟨kVi_c1, List.forall_mem_append.mpr ⟨kVi_c2, List.forall_mem_append.mpr ⟨kVi_c3, List.forall_mem_append.mpr ⟨kVi_c4, List.forall_mem_append.mpr ⟨kVi_c5, List.forall_mem_append.mpr ⟨kVi_c6, List.forall_mem_append.mpr ⟨kVi_c7, List.forall_mem_append.mpr ⟨kVi_c8, kVi_c9⟩⟩⟩⟩⟩⟩⟩⟩⟩
set_option maxRecDepth 100000 in
theorem kSi_ok : ∀ i ∈ kSi, Cond.static (kY i) ∈ kG := by decide +kernel
set_option maxRecDepth 100000 in
theorem kAll_ok : ∀ i, i < 118 → Cond.initialized (kCn (kO i)) ∈ kG ∧ (kY i).cls = kCn (kO i) ∧ plainName (kY i).cls = true ∧ ((kY i).cls ≠ "java/lang/invoke/MethodHandle" ∧ (kY i).cls ≠ "java/lang/invoke/VarHandle") ∧ (parseMethodDescriptor (kY i).desc).map (fun d => d.parameters.length) = some (kN i) ∧ kL i ≤ 9 := by decide +kernel
set_option maxRecDepth 100000 in
theorem kPl_c0 : ([0, 1, 2, 3, 4, 5, 6, 7, 8, 9, 10, 11] : List Nat).map (fun i => some (Cond.code (kY i) (kB i) (kL i) (kRt i))) = ([282, 522, 562, 265, 122, 249, 126, 253, 137, 364, 360, 460] : List Nat).map (fun i => lw_tbl[i]?) := by decide +kernel
set_option maxRecDepth 100000 in
theorem kPl_c1 : ([12, 13, 14, 15, 16, 17, 18, 19, 20, 21, 22, 23] : List Nat).map (fun i => some (Cond.code (kY i) (kB i) (kL i) (kRt i))) = ([352, 477, 257, 140, 148, 373, 378, 382, 412, 574, 172, 293] : List Nat).map (fun i => lw_tbl[i]?) := by decide +kernel
set_option maxRecDepth 100000 in
theorem kPl_c2 : ([24, 25, 26, 27, 28, 29, 30, 31, 32, 33, 34, 35] : List Nat).map (fun i => some (Cond.code (kY i) (kB i) (kL i) (kRt i))) = ([392, 399, 406, 420, 443, 491, 114, 130, 144, 152, 498, 510] : List Nat).map (fun i => lw_tbl[i]?) := by decide +kernel
set_option maxRecDepth 100000 in
theorem kPl_c3 : ([36, 37, 38, 39, 40, 41, 42, 43, 44, 45, 46, 47] : List Nat).map (fun i => some (Cond.code (kY i) (kB i) (kL i) (kRt i))) = ([517, 156, 160, 164, 530, 554, 176, 301, 502, 321, 326, 331] : List Nat).map (fun i => lw_tbl[i]?) := by decide +kernel
set_option maxRecDepth 100000 in
theorem kPl_c4 : ([48, 49, 50, 51, 52, 53, 54, 55, 56, 57, 58, 59] : List Nat).map (fun i => some (Cond.code (kY i) (kB i) (kL i) (kRt i))) = ([297, 447, 118, 451, 133, 339, 385, 278, 336, 469, 273, 261] : List Nat).map (fun i => lw_tbl[i]?) := by decide +kernel
set_option maxRecDepth 100000 in
theorem kPl_c5 : ([60, 61, 62, 63, 64, 65, 66, 67, 68, 69, 70, 71] : List Nat).map (fun i => some (Cond.code (kY i) (kB i) (kL i) (kRt i))) = ([269, 356, 473, 344, 348, 369, 456, 465, 558, 566, 570, 615] : List Nat).map (fun i => lw_tbl[i]?) := by decide +kernel
set_option maxRecDepth 100000 in
theorem kPl_c6 : ([72, 73, 74, 75, 76, 77, 78, 79, 80, 81, 82, 83] : List Nat).map (fun i => some (Cond.code (kY i) (kB i) (kL i) (kRt i))) = ([631, 634, 627, 623, 669, 685, 666, 733, 729, 658, 654, 681] : List Nat).map (fun i => lw_tbl[i]?) := by decide +kernel
set_option maxRecDepth 100000 in
theorem kPl_c7 : ([84, 85, 86, 87, 88, 89, 90, 91, 92, 93, 94, 95] : List Nat).map (fun i => some (Cond.code (kY i) (kB i) (kL i) (kRt i))) = ([677, 689, 638, 619, 650, 646, 662, 693, 697, 673, 642, 701] : List Nat).map (fun i => lw_tbl[i]?) := by decide +kernel
set_option maxRecDepth 100000 in
theorem kPl_c8 : ([96, 97, 98, 99, 100, 101, 102, 103, 104, 105, 106, 107] : List Nat).map (fun i => some (Cond.code (kY i) (kB i) (kL i) (kRt i))) = ([705, 709, 713, 721, 737, 725, 717, 741, 745, 749, 753, 757] : List Nat).map (fun i => lw_tbl[i]?) := by decide +kernel
set_option maxRecDepth 100000 in
theorem kPl_c9 : ([108, 109, 110, 111, 112, 113, 114, 115, 116, 117] : List Nat).map (fun i => some (Cond.code (kY i) (kB i) (kL i) (kRt i))) = ([761, 765, 769, 773, 777, 781, 785, 794, 790, 481] : List Nat).map (fun i => lw_tbl[i]?) := by decide +kernel
theorem kPl_ok : (List.range 118).map (fun i => some (Cond.code (kY i) (kB i) (kL i) (kRt i))) = kPl.map (fun i => lw_tbl[i]?) := by
  rw [show List.range 118 = ([0, 1, 2, 3, 4, 5, 6, 7, 8, 9, 10, 11] ++ ([12, 13, 14, 15, 16, 17, 18, 19, 20, 21, 22, 23] ++ ([24, 25, 26, 27, 28, 29, 30, 31, 32, 33, 34, 35] ++ ([36, 37, 38, 39, 40, 41, 42, 43, 44, 45, 46, 47] ++ ([48, 49, 50, 51, 52, 53, 54, 55, 56, 57, 58, 59] ++ ([60, 61, 62, 63, 64, 65, 66, 67, 68, 69, 70, 71] ++ ([72, 73, 74, 75, 76, 77, 78, 79, 80, 81, 82, 83] ++ ([84, 85, 86, 87, 88, 89, 90, 91, 92, 93, 94, 95] ++ ([96, 97, 98, 99, 100, 101, 102, 103, 104, 105, 106, 107] ++ ([108, 109, 110, 111, 112, 113, 114, 115, 116, 117]))))))))) : List Nat) from by decide +kernel, show kPl = ([282, 522, 562, 265, 122, 249, 126, 253, 137, 364, 360, 460] ++ ([352, 477, 257, 140, 148, 373, 378, 382, 412, 574, 172, 293] ++ ([392, 399, 406, 420, 443, 491, 114, 130, 144, 152, 498, 510] ++ ([517, 156, 160, 164, 530, 554, 176, 301, 502, 321, 326, 331] ++ ([297, 447, 118, 451, 133, 339, 385, 278, 336, 469, 273, 261] ++ ([269, 356, 473, 344, 348, 369, 456, 465, 558, 566, 570, 615] ++ ([631, 634, 627, 623, 669, 685, 666, 733, 729, 658, 654, 681] ++ ([677, 689, 638, 619, 650, 646, 662, 693, 697, 673, 642, 701] ++ ([705, 709, 713, 721, 737, 725, 717, 741, 745, 749, 753, 757] ++ ([761, 765, 769, 773, 777, 781, 785, 794, 790, 481]))))))))) : List Nat) from rfl]
  simp only [List.map_append, kPl_c0, kPl_c1, kPl_c2, kPl_c3, kPl_c4, kPl_c5, kPl_c6, kPl_c7, kPl_c8, kPl_c9]
theorem kCode_in {i : Nat} (h : i < 118) : Cond.code (kY i) (kB i) (kL i) (kRt i) ∈ kG := by
  have h1 : ((List.range 118).map (fun i => some (Cond.code (kY i) (kB i) (kL i) (kRt i))))[i]? = some (some (Cond.code (kY i) (kB i) (kL i) (kRt i))) := by simp [h]
  rw [kPl_ok, List.getElem?_map] at h1
  cases hx : kPl[i]? with
  | none => rw [hx] at h1; cases h1
  | some j =>
    rw [hx] at h1
    exact List.mem_filter.mpr ⟨List.mem_of_getElem? (Option.some.inj h1), rfl⟩
set_option maxRecDepth 100000 in
theorem kAc_ok : ∀ r ∈ kAc, Cond.methodLink (kCn r.1) r.2 arraycopyName ∈ kG := by decide +kernel
set_option maxRecDepth 100000 in
theorem kAcs_ok : Cond.native arraycopyName ∈ kG ∧ Cond.static arraycopyName ∈ kG ∧ Cond.initialized "java/lang/System" ∈ kG := by decide +kernel
set_option maxRecDepth 100000 in
theorem kKc_ok : ∀ r ∈ kKc, Cond.constant (kCn r.1) r.2.1 (nI r.2.2) ∈ kG := by decide +kernel
set_option maxRecDepth 100000 in
theorem kWs0_ok : (∀ w ∈ u_ws RX0 TX0 1, w ∈ kG) ∧ (∀ w ∈ u_ws RX1 TX1 9, w ∈ kG) ∧ (∀ w ∈ u_ws RX2 TX2 10, w ∈ kG) := by decide +kernel
abbrev kThN : List String := ["java/lang/RuntimeException", "java/lang/Exception"]
set_option maxRecDepth 100000 in
theorem kTh_ok : ∀ r ∈ kTh, Cond.classLink RX1 r.2.2.1 r.2.2.2.2.2.1 ∈ kG ∧ Cond.initialized r.2.2.2.2.2.1 ∈ kG ∧ (∀ w ∈ vx_atS RX1 r.2.2.2.2.1 r.2.2.2.2.2.1 kThN, w ∈ kG ∨ w ∈ kFace) ∧ (∀ w ∈ Cond.classLink RX1 r.2.2.1 r.2.2.2.2.2.1 :: Cond.initialized r.2.2.2.2.2.1 :: vx_atS RX1 r.2.2.2.2.1 r.2.2.2.2.2.1 kThN, vx_ot w = true) ∧ Bundle.fit r.2.2.2.2.2.1 = true := by decide +kernel
theorem kThN_ok : ∀ n ∈ kThN, Bundle.fit n = true := by decide +kernel
set_option maxRecDepth 100000 in
theorem kTh_dec : ∀ r ∈ kTh, decode (kB r.1) r.2.1 = .ok (.new r.2.2.1, 3) ∧ decode (kB r.1) (r.2.1 + 3) = .ok (.dup, 1) ∧ decode (kB r.1) (r.2.1 + 4) = .ok (.ldc r.2.2.2.1, 2) ∧ decode (kB r.1) (r.2.1 + 6) = .ok (.invokespecial r.2.2.2.2.1, 3) ∧ decode (kB r.1) (r.2.1 + 9) = .ok (.athrow, 1) ∧ kO r.1 = 1 := by decide +kernel
theorem kG_good {w : Cond} (h : w ∈ kG) : (w.onTables && w.keeps) = true ∨ ∃ ty, w = .arrayClass ty := good_of_word (List.mem_filter.mp h).2
theorem kG_at {w : Cond} (h : w ∈ kG) {args a' : Array Value} {s U : State} (hW : s.WarmedH U.vm) (hw : w.before args s = true) : w.before a' U = true := word_at hW (kG_good h) hw
