/-! what an instruction asks, computed: kwN unfolds by itself; n instructions, then the judgement again -/
def kwp (d mid : Nat) (P : kRes → Prop) (K : Nat → List (Nat × Value) → List Value → kMem → Prop) (r : kRow) (lv : List (Nat × Value)) (st : List Value) (M : kMem) : Prop :=
  match r with
  | (pc, i, _, x, y) => match i with
    | .iconst _ => K (pc + 1) lv (.int (kcv x y) :: st) M
    | .bipush _ => K (pc + 2) lv (.int (kcv x y) :: st) M
    | .sipush _ => K (pc + 3) lv (.int (kcv x y) :: st) M
    | .ldc idx => if (kO mid, idx, x) ∈ kKc then K (pc + 2) lv (.int (nI x) :: st) M else False
    | .ldc_w idx => if (kO mid, idx, x) ∈ kKc then K (pc + 3) lv (.int (nI x) :: st) M else False
    | .iload_n k => match kget lv k.val with
      | some (.int v) => K (pc + 1) lv (.int v :: st) M
      | _ => False
    | .iload k => match kget lv k with
      | some (.int v) => K (pc + 2) lv (.int v :: st) M
      | _ => False
    | .aload_n k => match kget lv k.val with
      | some (.ref v) => K (pc + 1) lv (.ref v :: st) M
      | _ => False
    | .aload k => match kget lv k with
      | some (.ref v) => K (pc + 2) lv (.ref v :: st) M
      | _ => False
    | .istore_n k => match st with
      | .int v :: st => if kcat lv = true ∧ k.val < kL mid then K (pc + 1) (kset lv k.val (.int v)) st M else False
      | _ => False
    | .istore k => match st with
      | .int v :: st => if kcat lv = true ∧ k < kL mid then K (pc + 2) (kset lv k (.int v)) st M else False
      | _ => False
    | .astore_n k => match st with
      | .ref v :: st => if kcat lv = true ∧ k.val < kL mid then K (pc + 1) (kset lv k.val (.ref v)) st M else False
      | _ => False
    | .astore k => match st with
      | .ref v :: st => if kcat lv = true ∧ k < kL mid then K (pc + 2) (kset lv k (.ref v)) st M else False
      | _ => False
    | .iinc k _ => match kget lv k with
      | some (.int v) => if kcat lv = true ∧ k < kL mid then K (pc + 3) (kset lv k (.int (v + nI x))) st M else False
      | _ => False
    | .iadd => match st with
      | .int b :: .int a :: st => K (pc + 1) lv (.int (a + b) :: st) M
      | _ => False
    | .isub => match st with
      | .int b :: .int a :: st => K (pc + 1) lv (.int (a - b) :: st) M
      | _ => False
    | .imul => match st with
      | .int b :: .int a :: st => K (pc + 1) lv (.int (a * b) :: st) M
      | _ => False
    | .iand => match st with
      | .int b :: .int a :: st => K (pc + 1) lv (.int (a &&& b) :: st) M
      | _ => False
    | .ior => match st with
      | .int b :: .int a :: st => K (pc + 1) lv (.int (a ||| b) :: st) M
      | _ => False
    | .ixor => match st with
      | .int b :: .int a :: st => K (pc + 1) lv (.int (a ^^^ b) :: st) M
      | _ => False
    | .idiv => match st with
      | .int b :: .int a :: st => ¬ b = 0 ∧ K (pc + 1) lv (.int (a / b) :: st) M
      | _ => False
    | .irem => match st with
      | .int b :: .int a :: st => ¬ b = 0 ∧ K (pc + 1) lv (.int (a - a / b * b) :: st) M
      | _ => False
    | .ishl => match st with
      | .int b :: .int a :: st => K (pc + 1) lv (.int (a <<< (b &&& 31)) :: st) M
      | _ => False
    | .ishr => match st with
      | .int b :: .int a :: st => K (pc + 1) lv (.int (a >>> (b &&& 31)) :: st) M
      | _ => False
    | .iushr => match st with
      | .int b :: .int a :: st => K (pc + 1) lv (.int ((a.toUInt32 >>> (b.toUInt32 &&& Int32.toUInt32 31)).toInt32) :: st) M
      | _ => False
    | .dup => match st with
      | v :: st => if v.category = 1 then K (pc + 1) lv (v :: v :: st) M else False
      | _ => False
    | .dup2 => match st with
      | v :: w :: st => if v.category = 1 ∧ w.category = 1 then K (pc + 1) lv (v :: w :: v :: w :: st) M else False
      | _ => False
    | .goto _ => K x lv st M
    | .ifCond .eq _ => match st with
      | .int a :: st => (a = 0 → K x lv st M) ∧ (¬ a = 0 → K (pc + 3) lv st M)
      | _ => False
    | .ifCond .ne _ => match st with
      | .int a :: st => (¬ a = 0 → K x lv st M) ∧ (a = 0 → K (pc + 3) lv st M)
      | _ => False
    | .ifCond .lt _ => match st with
      | .int a :: st => (a < 0 → K x lv st M) ∧ (¬ a < 0 → K (pc + 3) lv st M)
      | _ => False
    | .ifCond .le _ => match st with
      | .int a :: st => (a ≤ 0 → K x lv st M) ∧ (¬ a ≤ 0 → K (pc + 3) lv st M)
      | _ => False
    | .if_icmp .eq _ => match st with
      | .int b :: .int a :: st => (a = b → K x lv st M) ∧ (¬ a = b → K (pc + 3) lv st M)
      | _ => False
    | .if_icmp .ne _ => match st with
      | .int b :: .int a :: st => (¬ a = b → K x lv st M) ∧ (a = b → K (pc + 3) lv st M)
      | _ => False
    | .if_icmp .lt _ => match st with
      | .int b :: .int a :: st => (a < b → K x lv st M) ∧ (¬ a < b → K (pc + 3) lv st M)
      | _ => False
    | .if_icmp .ge _ => match st with
      | .int b :: .int a :: st => (b ≤ a → K x lv st M) ∧ (¬ b ≤ a → K (pc + 3) lv st M)
      | _ => False
    | .if_icmp .gt _ => match st with
      | .int b :: .int a :: st => (b < a → K x lv st M) ∧ (¬ b < a → K (pc + 3) lv st M)
      | _ => False
    | .if_icmp .le _ => match st with
      | .int b :: .int a :: st => (a ≤ b → K x lv st M) ∧ (¬ a ≤ b → K (pc + 3) lv st M)
      | _ => False
    | .if_acmp .ne _ => match st with
      | .ref b :: .ref a :: st => if a < 16 ∧ b < 16 then (if a = b then K (pc + 3) lv st M else K x lv st M) else False
      | _ => False
    | .getfield idx => match st with
      | .ref a :: st => match kob M a with
        | some q => if (kO mid, idx, x, y) ∈ kFl ∧ q.1 = x then (match q.2[y]? with
          | some v => K (pc + 3) lv (v :: st) M
          | none => False) else False
        | none => False
      | _ => False
    | .putfield idx => match st with
      | .int v :: .ref a :: st => match ksc x y with
        | some q => if (kO mid, idx, x, y) ∈ kFl ∧ q.1 = a then (narrow (kty x y) (.int v) = .int v ∧ fits (kty x y) (.int v) = true ∧ K (pc + 3) lv st (mw M q.2.1 q.2.2 v)) else False
        | none => False
      | _ => False
    | .iaload => match st with
      | .int i :: .ref a :: st => match kar a with
        | some n => ∃ j, i = nI j ∧ j < n ∧ K (pc + 1) lv (.int (M a j) :: st) M
        | none => False
      | _ => False
    | .iastore => match st with
      | .int v :: .int i :: .ref a :: st => match kar a with
        | some n => ∃ j, i = nI j ∧ j < n ∧ K (pc + 1) lv st (mw M a j v)
        | none => False
      | _ => False
    | .ireturn => match st with
      | [.int v] => match kRt mid with
        | some ty => narrow ty (.int v) = .int v ∧ P (.inl (some (.int v), M))
        | none => False
      | _ => False
    | .areturn => match st with
      | [.ref a] => match kRt mid with
        | some (.object _) => P (.inl (some (.ref a), M))
        | _ => False
      | _ => False
    | .return_ => match st with
      | [] => match kRt mid with
        | none => P (.inl (none, M))
        | some _ => False
      | _ => False
    | .new _ => match kTh[y]? with
      | some t => if t.1 = mid ∧ t.2.1 = pc ∧ (st.map fun v => v.category).sum ≤ 7 then P (.inr (t.2.2.2.2.2.1, M)) else False
      | none => False
    | .invokevirtual idx => match d with
      | 0 => False
      | d' + 1 => match st.drop (kN x) with
        | .ref a :: st' => match kob M a with
          | some q => if (kO mid, idx, x) ∈ kMl ∧ x ∈ kVi ∧ q.1 = kO x ∧ (st'.map fun v => v.category).sum ≤ 8 then kC d' x (.ref a :: (st.take (kN x)).reverse) M (kgo d' mid P K pc lv st') else False
          | none => False
        | _ => False
    | .invokestatic idx => if x = 999 then (match st with
        | .int z :: .int v :: .ref b :: .int u :: .ref a :: st => match kar a, kar b with
          | some na, some nb => if (kO mid, idx) ∈ kAc ∧ (st.map fun v => v.category).sum ≤ 8 then (∃ i j n, u = nI i ∧ v = nI j ∧ z = nI n ∧ i + n ≤ na ∧ j + n ≤ nb ∧ K (pc + 3) lv st (va_up M b (va_cpy (M a) (M b) i j n))) else False
          | _, _ => False
        | _ => False) else (match d with
        | 0 => False
        | d' + 1 => if (kO mid, idx, x) ∈ kMl ∧ x ∈ kSi ∧ kN x ≤ st.length ∧ ((st.drop (kN x)).map fun v => v.category).sum ≤ 8 then kC d' x (st.take (kN x)).reverse M (kgo d' mid P K pc lv (st.drop (kN x))) else False)
    | _ => False
def kwN (d mid : Nat) (P : kRes → Prop) : Nat → Nat → List (Nat × Value) → List Value → kMem → Prop
  | 0, pc, lv, st, M => kJ d mid P pc lv st M
  | n + 1, pc, lv, st, M => match kLook mid pc with
    | some r => kwp d mid P (kwN d mid P n) r lv st M
    | none => False
set_option maxHeartbeats 4000000 in
set_option maxRecDepth 100000 in
theorem kwp_ok {d mid : Nat} {P : kRes → Prop} {K : Nat → List (Nat × Value) → List Value → kMem → Prop} (hK : ∀ pc lv st M, K pc lv st M → kJ d mid P pc lv st M) {r : kRow} {pc : Nat} {lv : List (Nat × Value)} {st : List Value} {M : kMem} (hr : kLook mid pc = some r) (h : kwp d mid P K r lv st M) : kJ d mid P pc lv st M := by
  obtain ⟨h1, h2, h3⟩ := kLook_ok hr
  obtain ⟨pc', i, len, x, y⟩ := r
  have h1 : pc' = pc := h1
  subst h1
  have h3 : (len == kLn i && _) = true := h3
  rw [Bool.and_eq_true] at h3
  obtain ⟨h4, h5⟩ := h3
  have h4 : len = kLn i := by simpa using h4
  have h2 : decode (kB mid) pc' = .ok (i, len) := h2
  rw [h4] at h2
  clear h4 hr
  unfold kwp at h
  dsimp only at h h5
  split at h
  case h_1 n => exact kj_iconst h2 (by simpa using h5) (hK _ _ _ _ h)
  case h_2 n => exact kj_bipush h2 (by simpa using h5) (hK _ _ _ _ h)
  case h_3 n => exact kj_sipush h2 (by simpa using h5) (hK _ _ _ _ h)
  case h_4 n =>
    split at h
    · rename_i h6; exact kj_ldc h2 h6 (hK _ _ _ _ h)
    · exact h.elim
  case h_5 n =>
    split at h
    · rename_i h6; exact kj_ldcw h2 h6 (hK _ _ _ _ h)
    · exact h.elim
  case h_6 n =>
    split at h
    · rename_i v h6; exact kj_iload_n h2 h6 (hK _ _ _ _ h)
    · exact h.elim
  case h_7 n =>
    split at h
    · rename_i v h6; exact kj_iload h2 h6 (hK _ _ _ _ h)
    · exact h.elim
  case h_8 n =>
    split at h
    · rename_i v h6; exact kj_aload_n h2 h6 (hK _ _ _ _ h)
    · exact h.elim
  case h_9 n =>
    split at h
    · rename_i v h6; exact kj_aload h2 h6 (hK _ _ _ _ h)
    · exact h.elim
  case h_10 n =>
    split at h
    · split at h
      · rename_i h6; exact kj_istore_n h2 h6.1 h6.2 (hK _ _ _ _ h)
      · exact h.elim
    · exact h.elim
  case h_11 n =>
    split at h
    · split at h
      · rename_i h6; exact kj_istore h2 h6.1 h6.2 (hK _ _ _ _ h)
      · exact h.elim
    · exact h.elim
  case h_12 n =>
    split at h
    · split at h
      · rename_i h6; exact kj_astore_n h2 h6.1 h6.2 (hK _ _ _ _ h)
      · exact h.elim
    · exact h.elim
  case h_13 n =>
    split at h
    · split at h
      · rename_i h6; exact kj_astore h2 h6.1 h6.2 (hK _ _ _ _ h)
      · exact h.elim
    · exact h.elim
  case h_14 n z =>
    split at h
    · rename_i v h6
      split at h
      · rename_i h7; exact kj_iinc h2 h7.1 h7.2 h6 (by rw [show Int32.ofInt n = nI x by simpa using h5]) (hK _ _ _ _ h)
      · exact h.elim
    · exact h.elim
  case h_15 =>
    split at h
    · exact kj_iadd h2 (hK _ _ _ _ h)
    · exact h.elim
  case h_16 =>
    split at h
    · exact kj_isub h2 (hK _ _ _ _ h)
    · exact h.elim
  case h_17 =>
    split at h
    · exact kj_imul h2 (hK _ _ _ _ h)
    · exact h.elim
  case h_18 =>
    split at h
    · exact kj_iand h2 (hK _ _ _ _ h)
    · exact h.elim
  case h_19 =>
    split at h
    · exact kj_ior h2 (hK _ _ _ _ h)
    · exact h.elim
  case h_20 =>
    split at h
    · exact kj_ixor h2 (hK _ _ _ _ h)
    · exact h.elim
  case h_21 =>
    split at h
    · exact kj_idiv h2 h.1 (hK _ _ _ _ h.2)
    · exact h.elim
  case h_22 =>
    split at h
    · exact kj_irem h2 h.1 (hK _ _ _ _ h.2)
    · exact h.elim
  case h_23 =>
    split at h
    · exact kj_ishl h2 (hK _ _ _ _ h)
    · exact h.elim
  case h_24 =>
    split at h
    · exact kj_ishr h2 (hK _ _ _ _ h)
    · exact h.elim
  case h_25 =>
    split at h
    · exact kj_iushr h2 (hK _ _ _ _ h)
    · exact h.elim
  case h_26 =>
    split at h
    · split at h
      · rename_i h6; exact kj_dup h2 h6 (hK _ _ _ _ h)
      · exact h.elim
    · exact h.elim
  case h_27 =>
    split at h
    · split at h
      · rename_i h6; exact kj_dup2 h2 h6.1 h6.2 (hK _ _ _ _ h)
      · exact h.elim
    · exact h.elim
  case h_28 off => exact kj_goto h2 (by simpa using h5) (hK _ _ _ _ h)
  case h_29 off =>
    split at h
    · exact kj_if_eq h2 (by simpa using h5) (fun z => hK _ _ _ _ (h.1 z)) (fun z => hK _ _ _ _ (h.2 z))
    · exact h.elim
  case h_30 off =>
    split at h
    · exact kj_if_ne h2 (by simpa using h5) (fun z => hK _ _ _ _ (h.1 z)) (fun z => hK _ _ _ _ (h.2 z))
    · exact h.elim
  case h_31 off =>
    split at h
    · exact kj_if_lt h2 (by simpa using h5) (fun z => hK _ _ _ _ (h.1 z)) (fun z => hK _ _ _ _ (h.2 z))
    · exact h.elim
  case h_32 off =>
    split at h
    · exact kj_if_le h2 (by simpa using h5) (fun z => hK _ _ _ _ (h.1 z)) (fun z => hK _ _ _ _ (h.2 z))
    · exact h.elim
  case h_33 off =>
    split at h
    · exact kj_icmp_eq h2 (by simpa using h5) (fun z => hK _ _ _ _ (h.1 z)) (fun z => hK _ _ _ _ (h.2 z))
    · exact h.elim
  case h_34 off =>
    split at h
    · exact kj_icmp_ne h2 (by simpa using h5) (fun z => hK _ _ _ _ (h.1 z)) (fun z => hK _ _ _ _ (h.2 z))
    · exact h.elim
  case h_35 off =>
    split at h
    · exact kj_icmp_lt h2 (by simpa using h5) (fun z => hK _ _ _ _ (h.1 z)) (fun z => hK _ _ _ _ (h.2 z))
    · exact h.elim
  case h_36 off =>
    split at h
    · exact kj_icmp_ge h2 (by simpa using h5) (fun z => hK _ _ _ _ (h.1 z)) (fun z => hK _ _ _ _ (h.2 z))
    · exact h.elim
  case h_37 off =>
    split at h
    · exact kj_icmp_gt h2 (by simpa using h5) (fun z => hK _ _ _ _ (h.1 z)) (fun z => hK _ _ _ _ (h.2 z))
    · exact h.elim
  case h_38 off =>
    split at h
    · exact kj_icmp_le h2 (by simpa using h5) (fun z => hK _ _ _ _ (h.1 z)) (fun z => hK _ _ _ _ (h.2 z))
    · exact h.elim
  case h_39 off =>
    split at h
    · split at h
      · rename_i h6
        split at h
        · rename_i h7; exact kj_acmp_ne h2 (by simpa using h5) h6.1 h6.2 (fun z => absurd h7 z) (fun _ => hK _ _ _ _ h)
        · rename_i h7; exact kj_acmp_ne h2 (by simpa using h5) h6.1 h6.2 (fun _ => hK _ _ _ _ h) (fun z => absurd z h7)
      · exact h.elim
    · exact h.elim
  case h_40 idx =>
    split at h
    · split at h
      · rename_i q h6
        split at h
        · rename_i h7
          split at h
          · rename_i v h8
            obtain ⟨q1, q2⟩ := q
            obtain ⟨h7, h9⟩ := h7
            have h9 : q1 = x := h9
            subst h9
            exact kj_get h2 h7 h6 h8 (hK _ _ _ _ h)
          · exact h.elim
        · exact h.elim
      · exact h.elim
    · exact h.elim
  case h_41 idx =>
    split at h
    · split at h
      · rename_i q h6
        split at h
        · rename_i h7
          obtain ⟨h7, h9⟩ := h7
          subst h9
          exact kj_put h2 h7 h6 h.1 h.2.1 (hK _ _ _ _ h.2.2)
        · exact h.elim
      · exact h.elim
    · exact h.elim
  case h_42 =>
    split at h
    · split at h
      · rename_i n h6
        obtain ⟨j, g1, g2, g3⟩ := h
        exact kj_ald h2 h6 g1 g2 (hK _ _ _ _ g3)
      · exact h.elim
    · exact h.elim
  case h_43 =>
    split at h
    · split at h
      · rename_i n h6
        obtain ⟨j, g1, g2, g3⟩ := h
        exact kj_ast h2 h6 g1 g2 (hK _ _ _ _ g3)
      · exact h.elim
    · exact h.elim
  case h_44 =>
    split at h
    · split at h
      · rename_i ty h6; exact kj_iret h2 h6 h.1 h.2
      · exact h.elim
    · exact h.elim
  case h_45 =>
    split at h
    · split at h
      · rename_i nm h6; exact kj_aret h2 h6 h
      · exact h.elim
    · exact h.elim
  case h_46 =>
    split at h
    · split at h
      · rename_i h6; exact kj_vret h2 h6 h
      · exact h.elim
    · exact h.elim
  case h_47 idx =>
    split at h
    · rename_i t h6
      split at h
      · rename_i h7; exact kj_throw (List.mem_of_getElem? h6) h7.1 h7.2.1 h7.2.2 h
      · exact h.elim
    · exact h.elim
  case h_48 idx =>
    split at h
    · exact h.elim
    · rename_i d'
      split at h
      · rename_i a st' h6
        split at h
        · rename_i q h7
          split at h
          · rename_i h8
            obtain ⟨g1, g2, g3, g4⟩ := h8
            obtain ⟨q1, q2⟩ := q
            have g3 : q1 = kO x := g3
            subst g3
            have e1 : st = ((st.take (kN x)).reverse).reverse ++ .ref a :: st' := by rw [List.reverse_reverse, ← h6, List.take_append_drop]
            have e2 : (st.take (kN x)).reverse.length = kN x := by
              rw [List.length_reverse, List.length_take]
              have e3 : (st.drop (kN x)).length = (Value.ref a :: st').length := by rw [h6]
              rw [List.length_drop, List.length_cons] at e3
              omega
            rw [e1]
            exact kj_callV hK h2 g1 g2 h7 e2 g4 h
          · exact h.elim
        · exact h.elim
      · exact h.elim
  case h_49 idx =>
    split at h
    · split at h
      · split at h
        · rename_i na nb h6 h7
          split at h
          · rename_i h8
            obtain ⟨i9, j9, n9, g1, g2, g3, g4, g5, g6⟩ := h
            exact kj_copy h2 h8.1 h6 h7 g1 g2 g3 g4 g5 h8.2 (hK _ _ _ _ g6)
          · exact h.elim
        · exact h.elim
      · exact h.elim
    · split at h
      · exact h.elim
      · rename_i d'
        split at h
        · rename_i h8
          obtain ⟨g1, g2, g3, g4⟩ := h8
          have e1 : st = ((st.take (kN x)).reverse).reverse ++ st.drop (kN x) := by rw [List.reverse_reverse, List.take_append_drop]
          have e2 : (st.take (kN x)).reverse.length = kN x := by rw [List.length_reverse, List.length_take]; omega
          rw [e1]
          exact kj_callS hK h2 g1 g2 e2 g4 h
        · exact h.elim
  case h_50 => exact h.elim
theorem kw_ok {d mid : Nat} {P : kRes → Prop} : ∀ (n pc : Nat) (lv : List (Nat × Value)) (st : List Value) (M : kMem), kwN d mid P n pc lv st M → kJ d mid P pc lv st M := by
  intro n
  induction n with
  | zero => exact fun _ _ _ _ h => h
  | succ n ih =>
    intro pc lv st M h
    unfold kwN at h
    cases hx : kLook mid pc with
    | none => rw [hx] at h; exact h.elim
    | some r =>
      rw [hx] at h
      exact kwp_ok ih hx h
theorem kC_of {d mid : Nat} {av : List Value} {M : kMem} {P : kRes → Prop} (n : Nat) (hc : mid < 118) (hn : (lg_sl av).length ≤ kL mid) (k : kwN d mid P n 0 (lv_args 0 av) [] M) : kC d mid av M P := kC_body hc hn (kw_ok n _ _ _ _ k)
