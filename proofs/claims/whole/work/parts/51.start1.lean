/-! the law's start: its world -/
set_option maxRecDepth 100000 in
theorem kIn3_ok : Cond.classLink RL 8 RX1 ∈ kG ∧ Cond.classLink RL 65 RX2 ∈ kG ∧ Cond.methodLink RL 64 yX1_init ∈ kG ∧ Cond.methodLink RL 67 yX2_init ∈ kG := by decide +kernel
def M0 : kMem := fun k j => match k with
  | 0 => if j = 0 then nI 1 else if j = 1 then -1 else nI 0
  | 2 => hd0 22 j
  | 3 => hd0 22 j
  | 4 => hd0 22 j
  | 9 => if j = 1 then -1 else 0
  | 11 => ho0 4 j
  | 12 => ho0 4 j
  | 13 => ho0 4 j
  | _ => 0
theorem HR0 : HR (hd0 22) (ho0 4) := by
  refine ⟨0, fun k hk => ⟨fun h => ?_, fun h => ?_⟩, Nat.zero_le _, rfl, fun v hv => absurd hv (Nat.not_lt_zero v), 0, Nat.zero_le _, fun i hi => absurd hi (Nat.not_lt_zero i), fun i _ hi => ?_⟩
  · obtain ⟨h1, h2, -⟩ := h
    refine ⟨?_, fun _ => ?_⟩
    · unfold hd0
      rw [if_pos ⟨h1, by omega⟩]
    · unfold ho0
      rw [if_neg (by omega)]
      rfl
  · have h9 : ¬ (2 ≤ k ∧ k < 20) := fun z => h ⟨z.1, z.2, Nat.zero_le _⟩
    unfold hd0 ho0
    by_cases h20 : 20 ≤ k
    · rw [if_pos ⟨by omega, by omega⟩, if_pos ⟨h20, by omega⟩]
    · rw [if_neg (by omega), if_neg (by omega)]
  · unfold hd0
    rw [if_pos ⟨by omega, by omega⟩]
theorem R0 : R M0 M0 := ⟨Or.inl ⟨rfl, rfl⟩, rfl, rfl, rfl, rfl, rfl, HR0, HR0, HR0⟩
abbrev ad0 (a b q1 q2 q3 f h1 h2 h3 a2 b2 p1 p2 p3 f2 o sc : Nat) : Nat → Nat := fun k => ([a, b, q1, q2, q3, f, h1, h2, h3, a2, b2, p1, p2, p3, f2, o, sc] : List Nat).getD k 0
abbrev sW (cI cJ : ClassId) (a b q1 q2 q3 f h1 h2 h3 a2 b2 p1 p2 p3 f2 o : Nat) : va_W := gW1 cI a b h1 h2 h3 q1 q2 q3 f ++ mW1 cI a2 b2 p1 p2 p3 f2 (ho0 4) (ho0 4) (ho0 4) ++ [(o, .inl (cJ, 1, .inr (.inl (fun _ => 0))))]
theorem kW_inj {ad : Nat → Nat} {cI cJ : ClassId} {o : Int64} {M : kMem} {A : Nat → Prop} (h : va_D A (kW ad cI cJ o M)) : kInj ad ∧ ∀ k, k < 16 → A (ad k) := by
  have key : ∀ k, k < 16 → ∃ x, (kW ad cI cJ o M)[k]? = some (ad k, x) := fun k hk => by
    have h1 : (kaw cI cJ o M)[k]? = some ((kaw cI cJ o M)[k]'hk) := List.getElem?_eq_getElem hk
    exact ⟨_, kW_at h1⟩
  refine ⟨fun i j hi hj e => ?_, fun k hk => ?_⟩
  · obtain ⟨x, h1⟩ := key i hi
    obtain ⟨y, h2⟩ := key j hj
    exact h.1 i j _ _ h1 h2 e
  · obtain ⟨x, h1⟩ := key k hk
    exact h.2 k _ h1
theorem sW_kW {D : va_G} {cI cJ : ClassId} {a b q1 q2 q3 f h1 h2 h3 a2 b2 p1 p2 p3 f2 o : Nat} (sc : Nat) {H : Heap} {A : Nat → Prop} (hP : va_P D vwCl (sW cI cJ a b q1 q2 q3 f h1 h2 h3 a2 b2 p1 p2 p3 f2 o) H) (hD : va_D A (sW cI cJ a b q1 q2 q3 f h1 h2 h3 a2 b2 p1 p2 p3 f2 o)) :
    va_P D vwCl (kW (ad0 a b q1 q2 q3 f h1 h2 h3 a2 b2 p1 p2 p3 f2 o sc) cI cJ 0 M0) H ∧ va_D A (kW (ad0 a b q1 q2 q3 f h1 h2 h3 a2 b2 p1 p2 p3 f2 o sc) cI cJ 0 M0) :=
  ⟨hP.sub [0, 1, 3, 5, 7, 8, 2, 4, 6, 9, 10, 11, 12, 13, 14, 15] rfl, hD.sub [0, 1, 3, 5, 7, 8, 2, 4, 6, 9, 10, 11, 12, 13, 14, 15] (by decide) rfl⟩
