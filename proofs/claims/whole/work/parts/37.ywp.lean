/-! bodies of the law's class: what an instruction asks, computed -/
abbrev yKt : Type := Nat → List (Nat × Value) → List Value → kMem → Int64 → Nat → Prop
def kEx : List String := [eS, eB, eU, eA]
/-- which exception is which -/
def kAs (U : State) : Prop := ∀ E ∈ kEx, ∀ F ∈ kEx, ∃ a b, U.vm.findClass E = some a ∧ U.vm.findClass F = some b ∧ U.vm.assignable a b = decide (E = F)
theorem kAs.moved {u U : State} (h : u.vm.Alike U.vm) (k : kAs u) : kAs U := by
  intro E hE F hF
  obtain ⟨a, b, h1, h2, h3⟩ := k E hE F hF
  exact ⟨a, b, by rw [h.findClass]; exact h1, by rw [h.findClass]; exact h2, by rw [h.assignable]; exact h3⟩
def xEnd (D : va_G) (ad : Nat → Nat) (cI cJ : ClassId) (P : Int32 → kMem → Int64 → Prop) (s : State) (oc : Outcome) (t : State) : Prop :=
  ∃ (k : Int32) (M : kMem) (o : Int64), oc = .returned (some (.int k)) ∧ P k M o ∧ kFin D ad cI cJ o s t M 1 6
def xWd (i : Nat) : List Cond := Cond.codeWith (yW i).1 (yW i).2.1 (yW i).2.2.1 (some .int) (yW i).2.2.2.1 :: kG
/-- THE CONTRACT of a wrapper: its answer, the memory, what out holds -/
def xC (d i : Nat) (av : List Value) (M : kMem) (o : Int64) (P : Int32 → kMem → Int64 → Prop) : Prop :=
  ∀ (l : Launch) (D : va_G) (ad : Nat → Nat) (cI cJ : ClassId), l.stackTraces = false → kInj ad →
    MetFree l (yW i).1 (headSpec (xWd i) (kR d)) (fun v U => kPc D ad cI cJ o av M v U ∧ kAs U) (fun _ _ _ _ _ => True) (fun _ st oc t => xEnd D ad cI cJ P st oc t)
def ygo (K : yKt) (Hn : Nat → String → Option Nat) (pc : Nat) (lv : List (Nat × Value)) (st : List Value) (o : Int64) (n : Nat) : kRes → Prop := fun r => match r with
  | .inl q => K (pc + 3) lv (q.1.toList ++ st) q.2 o n
  | .inr q => match Hn pc q.1 with
    | some h => K h [] [] q.2 o (n + 1)
    | none => False
def ywp (nL d nm L : Nat) (sc : Bool) (xs : Nat → Int32) (Hn : Nat → String → Option Nat) (F : Int32 → kMem → Int64 → Nat → Prop) (K : yKt) (r : kRow) (lv : List (Nat × Value)) (st : List Value) (M : kMem) (o : Int64) (n : Nat) : Prop :=
  match r with
  | (pc, i, _, x, y) => match i with
    | .iconst _ => K (pc + 1) lv (.int (kcv x y) :: st) M o n
    | .bipush _ => K (pc + 2) lv (.int (kcv x y) :: st) M o n
    | .iload_n k => match kget lv k.val with
      | some (.int v) => K (pc + 1) lv (.int v :: st) M o n
      | _ => False
    | .iload k => match kget lv k with
      | some (.int v) => K (pc + 2) lv (.int v :: st) M o n
      | _ => False
    | .aload_n k => match kget lv k.val with
      | some (.ref v) => K (pc + 1) lv (.ref v :: st) M o n
      | _ => False
    | .aload k => match kget lv k with
      | some (.ref v) => K (pc + 2) lv (.ref v :: st) M o n
      | _ => False
    | .istore k => match st with
      | .int v :: st => if kcat lv = true ∧ k < nL then K (pc + 2) (kset lv k (.int v)) st M o n else False
      | _ => False
    | .iinc k _ => match kget lv k with
      | some (.int v) => if kcat lv = true ∧ k < nL then K (pc + 3) (kset lv k (.int (v + nI x))) st M o n else False
      | _ => False
    | .iadd => match st with
      | .int b :: .int a :: st => K (pc + 1) lv (.int (a + b) :: st) M o n
      | _ => False
    | .isub => match st with
      | .int b :: .int a :: st => K (pc + 1) lv (.int (a - b) :: st) M o n
      | _ => False
    | .iand => match st with
      | .int b :: .int a :: st => K (pc + 1) lv (.int (a &&& b) :: st) M o n
      | _ => False
    | .goto _ => K x lv st M o n
    | .ifCond .eq _ => match st with
      | .int a :: st => (a = 0 → K x lv st M o n) ∧ (¬ a = 0 → K (pc + 3) lv st M o n)
      | _ => False
    | .ifCond .ne _ => match st with
      | .int a :: st => (¬ a = 0 → K x lv st M o n) ∧ (a = 0 → K (pc + 3) lv st M o n)
      | _ => False
    | .if_icmp .eq _ => match st with
      | .int b :: .int a :: st => (a = b → K x lv st M o n) ∧ (¬ a = b → K (pc + 3) lv st M o n)
      | _ => False
    | .if_icmp .gt _ => match st with
      | .int b :: .int a :: st => (b < a → K x lv st M o n) ∧ (¬ b < a → K (pc + 3) lv st M o n)
      | _ => False
    | .iaload => match st with
      | .int i :: .ref 16 :: st => sc = true ∧ ∃ j, i = nI j ∧ j < L ∧ j < 2 ^ 31 ∧ K (pc + 1) lv (.int (xs j) :: st) M o n
      | _ => False
    | .arraylength => match st with
      | .ref 16 :: st => sc = true ∧ K (pc + 1) lv (.int (nI L) :: st) M o n
      | _ => False
    | .i2l => match st with
      | .int v :: st => K (pc + 1) lv (.long v.toInt64 :: st) M o n
      | _ => False
    | .lcmp => match st with
      | .long b :: .long a :: st => K (pc + 1) lv (.int (lg_cmp a b) :: st) M o n
      | _ => False
    | .laload => match st with
      | .int i :: .ref 15 :: st => i = nI 0 ∧ K (pc + 1) lv (.long o :: st) M o n
      | _ => False
    | .lastore => match st with
      | .long v :: .int i :: .ref 15 :: st => i = nI 0 ∧ K (pc + 1) lv st M v n
      | _ => False
    | .ireturn => match st with
      | [.int v] => F v M o n
      | _ => False
    | .invokevirtual idx => match st.drop (kN x) with
      | .ref a :: st' => match kob M a with
        | some q => n < nm ∧ (if (idx, x) ∈ yVl ∧ x ∈ kVi ∧ q.1 = kO x ∧ (st'.map fun v => v.category).sum ≤ 8 then kC d x (.ref a :: (st.take (kN x)).reverse) M (ygo K Hn pc lv st' o n) else False)
        | none => False
      | _ => False
    | .invokestatic idx => n < nm ∧ (if (idx, x) ∈ ySl ∧ (yW x).2.2.2.2.1 ≤ st.length ∧ ((st.drop (yW x).2.2.2.2.1).map fun v => v.category).sum ≤ 8 then xC d x (st.take (yW x).2.2.2.2.1).reverse M o (fun k M' o' => K (pc + 3) lv (.int k :: st.drop (yW x).2.2.2.2.1) M' o' (n + 1)) else False)
    | _ => False
