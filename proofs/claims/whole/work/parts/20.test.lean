section T1
variable {d : Nat} {M : kMem} {P : kRes → Prop}
theorem s_stateOf {v : Nat} (hv : v < 6) (h : P (.inl (some (.int (M 4 (2 + v))), M))) : kC d kh_stateOf [.ref 8, .int (nI v)] M P := by
  refine kC_of 10 (by decide) (Nat.le_of_ble_eq_true rfl) ?_
  exact ⟨2 + v, nI_add 2 v, by omega, rfl, h⟩
theorem s_mapAt {v t : Nat} (h : P (.inl (some (.int (nI (8 + t * 6 + v))), M))) : kC d kh_mapAt [.int (nI v), .int (nI t)] M P := by
  refine kC_of 10 (by decide) (Nat.le_of_ble_eq_true rfl) ?_
  refine ⟨rfl, ?_⟩
  show P (.inl (some (.int (nI 8 + nI t * nI 6 + nI v)), M))
  rw [pk_mul, nI_add, nI_add]
  exact h
theorem s_mapOf {v t : Nat} (hv : v < 6) (ht : t < 2) (h : P (.inl (some (.int (M 4 (8 + t * 6 + v))), M))) : kC (d + 1) kh_mapOf [.ref 8, .int (nI v), .int (nI t)] M P := by
  refine kC_of 10 (by decide) (Nat.le_of_ble_eq_true rfl) ?_
  refine s_mapAt ?_
  exact ⟨_, rfl, by omega, rfl, h⟩
theorem s_requirePower (h1 : M 0 0 = 0 → P (.inr ("java/lang/IllegalStateException", M))) (h2 : ¬ M 0 0 = 0 → P (.inl (none, M))) : kC d kc_requirePower [.ref 0] M P := by
  refine kC_of 10 (by decide) (Nat.le_of_ble_eq_true rfl) ?_
  exact ⟨fun h => h2 h, fun h => h1 h⟩
end T1
