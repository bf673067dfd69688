/-! the header's methods -/
theorem mw_up (M : kMem) (k : Nat) (f : Nat → Int32) (j : Nat) (x : Int32) : mw (va_up M k f) k j x = va_up M k (upd f j x) := by
  unfold mw
  rw [bx_uu, va_up_self]
theorem kJ_drop {d mid : Nat} {P : kRes → Prop} (k : Nat) {pc : Nat} {lv : List (Nat × Value)} {st : List Value} {M : kMem} (h : kJ d mid P pc (lv.filter (fun q => q.1 != k)) st M) : kJ d mid P pc lv st M := by
  intro p l e R s m args below meth c D ad cI cJ o C H locs ls hP hS hl
  refine h p l e R s m args below meth c D ad cI cJ o C H locs ls hP hS ⟨hl.1, hl.2.1, fun q hq => ?_⟩
  obtain ⟨q0, h0, rfl⟩ := List.mem_map.mp hq
  exact hl.2.2 _ (List.mem_map.mpr ⟨q0, (List.mem_filter.mp h0).1, rfl⟩)
theorem wnd_0 (h : Nat → Int32) : wnd h [] 0 = h := by
  funext k
  unfold wnd
  rw [if_neg (by omega)]
theorem wnd_at (h : Nat → Int32) (l : List Int32) (i : Nat) : wnd h l i (20 + i) = h (20 + i) := by
  unfold wnd
  rw [if_neg (by omega)]
theorem wnd_go (h : Nat → Int32) (l : List Int32) (i : Nat) (hl : l.length ≤ i) : upd (wnd h l i) (20 + i) (-1) = wnd h l (i + 1) := by
  funext k
  unfold wnd upd
  dsimp only
  by_cases h1 : k = 20 + i
  · subst h1
    rw [if_pos rfl, if_pos (by omega), List.getD_eq_getElem?_getD, List.getElem?_eq_none (by omega)]
    rfl
  · rw [if_neg h1]
    by_cases h2 : 20 ≤ k ∧ k < 20 + i
    · rw [if_pos h2, if_pos (by omega)]
    · rw [if_neg h2, if_neg (by omega)]
theorem wnd_keep (h : Nat → Int32) (l : List Int32) (i : Nat) (hl : l.length ≤ i) (x : Int32) : upd (wnd h l (i + 1)) (20 + l.length) x = wnd h (l ++ [x]) (i + 1) := by
  funext k
  unfold wnd upd
  dsimp only
  by_cases h1 : k = 20 + l.length
  · subst h1
    rw [if_pos rfl, if_pos (by omega), List.getD_eq_getElem?_getD, show 20 + l.length - 20 = l.length by omega, List.getElem?_append_right (Nat.le_refl _)]
    simp
  · rw [if_neg h1]
    by_cases h2 : 20 ≤ k ∧ k < 20 + (i + 1)
    · rw [if_pos h2, if_pos h2, List.getD_eq_getElem?_getD, List.getD_eq_getElem?_getD]
      by_cases h3 : k - 20 < l.length
      · rw [List.getElem?_append_left h3]
      · rw [List.getElem?_eq_none (by omega), List.getElem?_eq_none (by simp; omega)]
    · rw [if_neg h2, if_neg h2]
theorem wkn_len (h : Nat → Int32) (kp : Int32 → Bool) : ∀ i, (wkn h kp i).length ≤ i := by
  intro i
  induction i with
  | zero => exact Nat.le_refl _
  | succ i ih =>
    unfold wkn
    split
    · omega
    · split
      · simp; omega
      · omega
theorem wsn_le (h : Nat → Int32) : ∀ n, n ≤ 4 → wsn h n ≤ 4 := by
  intro n
  induction n with
  | zero => intro _; exact Nat.le_refl _
  | succ n ih =>
    intro hn
    unfold wsn
    split
    · omega
    · exact ih (by omega)
theorem wsz_le (h : Nat → Int32) : wsz h ≤ 4 := wsn_le h 4 (Nat.le_refl _)
def lowI (l : Nat) : Int32 := if l < 8 then nI l else -1
section HD
variable {d : Nat} {M : kMem} {P : kRes → Prop}
theorem h_takeFrom68 (h : P (rV (va_up M 2 (va_cpy (M 4) (M 2) 0 0 24)))) : kC d kh_takeFrom [.ref 6, .ref 8] M P := by
  refine kC_of 12 (by decide) (Nat.le_of_ble_eq_true rfl) ?_
  exact ⟨0, 0, 24, rfl, rfl, rfl, by decide, by decide, h⟩
theorem h_takeFrom78 (h : P (rV (va_up M 3 (va_cpy (M 4) (M 3) 0 0 24)))) : kC d kh_takeFrom [.ref 7, .ref 8] M P := by
  refine kC_of 12 (by decide) (Nat.le_of_ble_eq_true rfl) ?_
  exact ⟨0, 0, 24, rfl, rfl, rfl, by decide, by decide, h⟩
theorem h_takeFrom86 (h : P (rV (va_up M 4 (va_cpy (M 2) (M 4) 0 0 24)))) : kC d kh_takeFrom [.ref 8, .ref 6] M P := by
  refine kC_of 12 (by decide) (Nat.le_of_ble_eq_true rfl) ?_
  exact ⟨0, 0, 24, rfl, rfl, rfl, by decide, by decide, h⟩
theorem h_takeFrom87 (h : P (rV (va_up M 4 (va_cpy (M 3) (M 4) 0 0 24)))) : kC d kh_takeFrom [.ref 8, .ref 7] M P := by
  refine kC_of 12 (by decide) (Nat.le_of_ble_eq_true rfl) ?_
  exact ⟨0, 0, 24, rfl, rfl, rfl, by decide, by decide, h⟩
theorem h_itemAt6 {w : Nat} (hw : w < 24) (h : P (rI (M 2 w) M)) : kC d kh_itemAt [.ref 6, .int (nI w)] M P := by
  refine kC_of 12 (by decide) (Nat.le_of_ble_eq_true rfl) ?_
  exact ⟨w, rfl, hw, rfl, h⟩
theorem h_itemAt7 {w : Nat} (hw : w < 24) (h : P (rI (M 3 w) M)) : kC d kh_itemAt [.ref 7, .int (nI w)] M P := by
  refine kC_of 12 (by decide) (Nat.le_of_ble_eq_true rfl) ?_
  exact ⟨w, rfl, hw, rfl, h⟩
theorem h_number6 (h : P (rI (M 2 0) M)) : kC d kh_number [.ref 6] M P := by
  refine kC_of 12 (by decide) (Nat.le_of_ble_eq_true rfl) ?_
  exact ⟨0, rfl, by decide, rfl, h⟩
theorem h_number7 (h : P (rI (M 3 0) M)) : kC d kh_number [.ref 7] M P := by
  refine kC_of 12 (by decide) (Nat.le_of_ble_eq_true rfl) ?_
  exact ⟨0, rfl, by decide, rfl, h⟩
theorem h_countUp (h : P (rV (mw M 4 0 (M 4 0 + nI 1)))) : kC d kh_countUp [.ref 8] M P := by
  refine kC_of 12 (by decide) (Nat.le_of_ble_eq_true rfl) ?_
  exact ⟨0, rfl, by decide, 0, rfl, by decide, h⟩
theorem h_volumeCount (h : P (rI (M 4 1) M)) : kC d kh_volumeCount [.ref 8] M P := by
  refine kC_of 12 (by decide) (Nat.le_of_ble_eq_true rfl) ?_
  exact ⟨1, rfl, by decide, rfl, h⟩
theorem h_stateOf {v : Nat} (hv : v < 6) (h : P (rI (M 4 (2 + v)) M)) : kC d kh_stateOf [.ref 8, .int (nI v)] M P := by
  refine kC_of 10 (by decide) (Nat.le_of_ble_eq_true rfl) ?_
  exact ⟨2 + v, nI_add 2 v, by omega, rfl, h⟩
theorem h_setState {v : Nat} {x : Int32} (hv : v < 6) (h : P (rV (mw M 4 (2 + v) x))) : kC d kh_setState [.ref 8, .int (nI v), .int x] M P := by
  refine kC_of 10 (by decide) (Nat.le_of_ble_eq_true rfl) ?_
  exact ⟨2 + v, nI_add 2 v, by omega, h⟩
theorem h_mapAt {v t : Nat} (h : P (rI (nI (8 + t * 6 + v)) M)) : kC d kh_mapAt [.int (nI v), .int (nI t)] M P := by
  refine kC_of 10 (by decide) (Nat.le_of_ble_eq_true rfl) ?_
  refine ⟨rfl, ?_⟩
  show P (rI (nI 8 + nI t * nI 6 + nI v) M)
  rw [pk_mul, nI_add, nI_add]
  exact h
theorem h_mapOf {v t : Nat} (hv : v < 6) (ht : t < 2) (h : P (rI (M 4 (8 + t * 6 + v)) M)) : kC (d + 1) kh_mapOf [.ref 8, .int (nI v), .int (nI t)] M P := by
  refine kC_of 10 (by decide) (Nat.le_of_ble_eq_true rfl) ?_
  refine h_mapAt ?_
  exact ⟨_, rfl, by omega, rfl, h⟩
theorem h_marksOf {v : Nat} (hv : v < 6) (h : P (rI (M 4 (8 + v) ||| M 4 (14 + v)) M)) : kC (d + 2) kh_marksOf [.ref 8, .int (nI v)] M P := by
  refine kC_of 12 (by decide) (Nat.le_of_ble_eq_true rfl) ?_
  refine h_mapOf (t := 0) hv (by decide) ?_
  refine h_mapOf (t := 1) hv (by decide) ?_
  exact ⟨rfl, h⟩
theorem h_isMarked {v r : Nat} (hv : v < 6) (hr : r < 8) (h : P (rI (kb (opn (M 4) v r)) M)) : kC (d + 3) kh_isMarked [.ref 8, .int (nI v), .int (nI r)] M P := by
  refine kC_of 14 (by decide) (Nat.le_of_ble_eq_true rfl) ?_
  refine h_marksOf hv ?_
  have hb : ((M 4 (8 + v) ||| M 4 (14 + v)) >>> (nI r &&& 31)) &&& nI 1 = kb (opn (M 4) v r) := by rw [bit_at (by omega), opn_or]
  refine ⟨fun e => ?_, fun e => ?_⟩
  · have e2 : kb (opn (M 4) v r) = 0 := hb.symm.trans e
    rw [kb_0.mp e2] at h
    exact ⟨rfl, h⟩
  · have e2 : ¬ kb (opn (M 4) v r) = 0 := fun z => e (hb.trans z)
    rw [kb_0, Bool.not_eq_false] at e2
    rw [e2] at h
    exact ⟨rfl, h⟩
theorem h_low_loop {v : Nat} (hv : v < 6) : ∀ (n i : Nat) (x : Int32), i + n = 8 → x = nI i → P (rI (lowI (lown (M 4) v n)) M) → kJ (d + 4) kh_lowestMarked P 2 [(0, .ref 8), (1, .int (nI v)), (2, .int x)] [] M := by
  intro n
  induction n with
  | zero =>
    intro i x hi hx h
    have hi : i = 8 := by omega
    subst hi; subst hx
    refine kJ_H [2] 10 ?_
    exact ⟨fun _ => ⟨rfl, h⟩, fun e => absurd (by decide) e⟩
  | succ n ih =>
    intro i x hi hx h
    subst hx
    have hi2 : i = 7 - n := by omega
    refine kJ_H [2] 20 ?_
    refine ⟨fun e => absurd e (nI_ge (by omega) (by decide)), fun _ => ?_⟩
    refine h_isMarked hv (by omega) ?_
    unfold lown at h
    rw [← hi2] at h
    refine ⟨fun e => ?_, fun e => ?_⟩
    · rw [if_neg (by rw [kb_0.mp e]; decide)] at h
      exact ih (i + 1) _ (by omega) (nI_1 i) h
    · have e2 : opn (M 4) v i = true := by
        have e3 : ¬ kb (opn (M 4) v i) = 0 := e
        rw [kb_0, Bool.not_eq_false] at e3
        exact e3
      rw [if_pos e2] at h
      unfold lowI at h
      rw [if_pos (by omega)] at h
      exact ⟨rfl, h⟩
theorem h_lowestMarked {v : Nat} (hv : v < 6) (h : P (rI (lowI (low (M 4) v)) M)) : kC (d + 4) kh_lowestMarked [.ref 8, .int (nI v)] M P := by
  refine kC_L [2] 10 (by decide) (Nat.le_of_ble_eq_true rfl) ?_
  exact h_low_loop hv 8 0 _ rfl rfl h
theorem h_mark {v t r : Nat} (hv : v < 6) (ht : t < 2) (h : P (rV (mw M 4 (8 + t * 6 + v) (M 4 (8 + t * 6 + v) ||| bit1 r)))) : kC (d + 1) kh_mark [.ref 8, .int (nI v), .int (nI t), .int (nI r)] M P := by
  refine kC_of 20 (by decide) (Nat.le_of_ble_eq_true rfl) ?_
  refine h_mapAt ?_
  exact ⟨_, rfl, by omega, _, rfl, by omega, h⟩
theorem h_clearRegion {v r : Nat} (hv : v < 6) (h : P (rV ((fun M1 : kMem => mw M1 4 (14 + v) (M1 4 (14 + v) &&& (bit1 r ^^^ -1))) (mw M 4 (8 + v) (M 4 (8 + v) &&& (bit1 r ^^^ -1)))))) : kC (d + 1) kh_clearRegion [.ref 8, .int (nI v), .int (nI r)] M P := by
  refine kC_of 40 (by decide) (Nat.le_of_ble_eq_true rfl) ?_
  refine h_mapAt (t := 0) ?_
  refine ⟨8 + 0 * 6 + v, rfl, by omega, 8 + 0 * 6 + v, rfl, by omega, ?_⟩
  refine h_mapAt (t := 1) ?_
  exact ⟨8 + 1 * 6 + v, rfl, by omega, 8 + 1 * 6 + v, rfl, by omega, h⟩
theorem h_clearMaps {v : Nat} (hv : v < 6) (h : P (rV (mw (mw M 4 (8 + v) (nI 0)) 4 (14 + v) (nI 0)))) : kC (d + 1) kh_clearMaps [.ref 8, .int (nI v)] M P := by
  refine kC_of 40 (by decide) (Nat.le_of_ble_eq_true rfl) ?_
  refine h_mapAt (t := 0) ?_
  refine ⟨8 + 0 * 6 + v, rfl, by omega, ?_⟩
  refine h_mapAt (t := 1) ?_
  exact ⟨8 + 1 * 6 + v, rfl, by omega, h⟩
theorem h_addVolume {n : Nat} (hn : n < 6) (h1 : M 4 1 = nI n) (h : P (rI (nI n) (mw (mw (mw (mw M 4 1 (nI n + nI 1)) 4 (2 + n) (nI 0)) 4 (8 + n) (nI 0)) 4 (14 + n) (nI 0)))) : kC (d + 2) kh_addVolume [.ref 8] M P := by
  refine kC_of 40 (by decide) (Nat.le_of_ble_eq_true rfl) ?_
  refine ⟨1, rfl, by decide, ?_⟩
  rw [h1]
  refine ⟨1, rfl, by decide, ?_⟩
  refine h_setState hn ?_
  refine h_clearMaps hn ?_
  exact ⟨rfl, h⟩
theorem h_placeAt {i : Nat} (hi : i < 4) (h : P (rI (M 4 (20 + i)) M)) : kC d kh_placeAt [.ref 8, .int (nI i)] M P := by
  refine kC_of 10 (by decide) (Nat.le_of_ble_eq_true rfl) ?_
  exact ⟨20 + i, nI_add 20 i, by omega, rfl, h⟩
end HD
