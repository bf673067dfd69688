/-! the same, halting at the heads of loops: sl, a list of pcs -/
def kwL (d mid : Nat) (P : kRes → Prop) (sl : List Nat) : Nat → Nat → List (Nat × Value) → List Value → kMem → Prop
  | 0, pc, lv, st, M => kJ d mid P pc lv st M
  | n + 1, pc, lv, st, M => if pc ∈ sl then kJ d mid P pc lv st M else (match kLook mid pc with
    | some r => kwp d mid P (kwL d mid P sl n) r lv st M
    | none => False)
theorem kwL_ok {d mid : Nat} {P : kRes → Prop} {sl : List Nat} : ∀ (n pc : Nat) (lv : List (Nat × Value)) (st : List Value) (M : kMem), kwL d mid P sl n pc lv st M → kJ d mid P pc lv st M := by
  intro n
  induction n with
  | zero => exact fun _ _ _ _ h => h
  | succ n ih =>
    intro pc lv st M h
    unfold kwL at h
    split at h
    · exact h
    · cases hx : kLook mid pc with
      | none => rw [hx] at h; exact h.elim
      | some r =>
        rw [hx] at h
        exact kwp_ok ih hx h
def kwH (d mid : Nat) (P : kRes → Prop) (sl : List Nat) (n pc : Nat) (lv : List (Nat × Value)) (st : List Value) (M : kMem) : Prop := match kLook mid pc with
  | some r => kwp d mid P (kwL d mid P sl n) r lv st M
  | none => False
/-- from the head of a loop: on to the next time that a head is reached -/
theorem kJ_H {d mid : Nat} {P : kRes → Prop} (sl : List Nat) (n : Nat) {pc : Nat} {lv : List (Nat × Value)} {st : List Value} {M : kMem} (h : kwH d mid P sl n pc lv st M) : kJ d mid P pc lv st M := by
  unfold kwH at h
  cases hx : kLook mid pc with
  | none => rw [hx] at h; exact h.elim
  | some r =>
    rw [hx] at h
    exact kwp_ok (kwL_ok n) hx h
theorem kC_L {d mid : Nat} {av : List Value} {M : kMem} {P : kRes → Prop} (sl : List Nat) (n : Nat) (hc : mid < 118) (hn : (lg_sl av).length ≤ kL mid) (k : kwL d mid P sl n 0 (lv_args 0 av) [] M) : kC d mid av M P := kC_body hc hn (kwL_ok n _ _ _ _ k)
