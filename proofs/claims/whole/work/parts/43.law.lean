/-! the law's loop -/
theorem and31 (x : Int32) : ∃ w, w < 32 ∧ x &&& nI 31 = nI w := by
  have h1 : (x &&& nI 31).toBitVec.toNat < 32 := by
    rw [Int32.toBitVec_and, BitVec.toNat_and]
    exact Nat.lt_of_le_of_lt Nat.and_le_right (by decide)
  refine ⟨(x &&& nI 31).toBitVec.toNat, h1, ?_⟩
  apply Int32.toBitVec_inj.mp
  show (x &&& nI 31).toBitVec = BitVec.ofNat 32 (x &&& nI 31).toBitVec.toNat
  rw [BitVec.ofNat_toNat, BitVec.setWidth_eq]
theorem end_gt {L i : Nat} (hL : L ≤ 4096) (hi : i ≤ 8192) : (nI L - nI 8 < nI i) ↔ L < i + 8 := by
  rw [Int32.lt_iff_toInt_lt, pk_sub_toInt (by omega) (by omega)]
  have : (nI i).toInt = (i : Int) := Int32.toInt_ofNat_of_lt (by omega)
  rw [this]
  omega
def lHd (xs : Nat → Int32) (L i n0 : Nat) (M0 : kMem) (o0 : Int64) : yKt := fun pc lv st M o n => lv = lLv i ∧ M = M0 ∧ o = o0 ∧ n = n0 ∧ ((pc = 1113 ∧ st = []) ∨ (pc = 40 ∧ st = [.int (xs i &&& nI 31)] ∧ i + 8 ≤ L))
section LW
variable {L i n : Nat} {xs : Nat → Int32} {M : kMem} {o : Int64}
theorem l_head (hL : L ≤ 4096) (hi : i ≤ 8192) : ywL 7 7 600 L true xs lHn lF (lHd xs L i n M o) yLH [40, 1113] 20 23 (lLv i) [] M o n := by
  refine ⟨rfl, fun e => ⟨rfl, rfl, rfl, rfl, Or.inl ⟨rfl, rfl⟩⟩, fun e => ?_⟩
  have e : ¬ nI L - nI 8 < nI i := e
  rw [end_gt hL hi] at e
  exact ⟨rfl, i, rfl, by omega, by omega, rfl, rfl, rfl, rfl, Or.inr ⟨rfl, rfl, by omega⟩⟩
theorem l_end (hn : n ≤ 600) : ywL 7 7 600 L true xs lHn lF yNo yLE [] 10 1113 (lLv i) [] M o n := ⟨rfl, hn⟩
theorem l_next : ywL 7 7 600 L true xs lHn lF (fun pc lv st M' o' n' => pc = 23 ∧ lv = lLv (i + 8) ∧ st = [] ∧ M' = M ∧ o' = o ∧ n' = n) yLE [23] 10 1107 (lLv i) [] M o n := by
  refine ⟨rfl, ?_, rfl, rfl, rfl, rfl⟩
  show [(0, Value.ref 16), (1, .ref 0), (2, .ref 9), (3, .ref 15), (4, .int (nI i + nI 8))] = lLv (i + 8)
  rw [nI_add]
end LW
theorem d40 : decode cL_law 40 = .ok (.tableswitch 1067 0 19 #[96, 140, 224, 336, 428, 472, 520, 576, 632, 657, 694, 719, 732, 788, 880, 948, 961, 974, 987, 1023], 96) := by decide +kernel
section LO
variable {p : Program} {l : Launch} {e : Env} {R9 : Room} {s : State} {m : MethodId} {args : Array Value} {below : List Frame} {meth : Method} {c : Code} {D : va_G} {ad : Nat → Nat} {cI cJ : ClassId} {c0 s0 : Nat} {Q : State → Prop}
theorem yJ_sub {nL pc n : Nat} {lv lv' : List (Nat × Value)} {st : List Value} {M : kMem} {o : Int64} {f : Nat × Value → Bool} (h : lv.filter f = lv') (k : yJ p l e R9 s m args below meth c D ad cI cJ nL c0 s0 Q pc lv' st M o n) : yJ p l e R9 s m args below meth c D ad cI cJ nL c0 s0 Q pc lv st M o n := by
  intro H locs ls hP hS hl
  refine k H locs ls hP hS ⟨hl.1, hl.2.1, fun q hq => ?_⟩
  obtain ⟨q0, h0, rfl⟩ := List.mem_map.mp hq
  rw [← h] at h0
  exact hl.2.2 _ (List.mem_map.mpr ⟨q0, (List.mem_filter.mp h0).1, rfl⟩)
set_option maxHeartbeats 4000000 in
theorem law_loop {L : Nat} {xs : Nat → Int32} (C : yCx cL_law 7 7 600 c0 s0 p l R9 s m args c D ad cI cJ) (hA : kAs s) (hScr : yScr s ad L true xs) (hL : L ≤ 4096)
    (hF : ∀ v M o n pc ls H locs, lF v M o n → decode cL_law pc = .ok (.ireturn, 1) → va_P D vwCl (kW ad cI cJ o M) H → va_S (kA ad s.heap.size) s.heap H locs → W p l e R9 s m args below meth c H locs (c0 + n) (s0 + 6 * n) Q (F0 m pc ls [.int v])) :
    ∀ (k it n : Nat) (M : kMem) (o : Int64), R M M → n ≤ it → 8 * it ≤ L → L < 8 * it + 8 * k + 8 → yJ p l e R9 s m args below meth c D ad cI cJ 7 c0 s0 Q 23 (lLv (8 * it)) [] M o n := by
  have hH : yHn e s m c cL_law 7 lHn := fun _ _ _ h => by cases h
  intro k
  induction k with
  | zero =>
    intro it n M o r hn hi hk
    refine ywL_ok (G := lHd xs L (8 * it) n M o) C hA hH hScr hF ?_ yL_okH (sl := [40, 1113]) 20 23 (lLv (8 * it)) [] M o n (l_head hL (by omega))
    rintro pc lv st M' o' n' ⟨rfl, rfl, rfl, rfl, h⟩
    rcases h with ⟨rfl, rfl⟩ | ⟨rfl, rfl, h8⟩
    · exact ywL_ok (G := yNo) C hA hH hScr hF (fun _ _ _ _ _ _ z => False.elim z) yL_okE (sl := []) 10 1113 (lLv (8 * it)) [] M' o' n' (l_end (by omega))
    · omega
  | succ k ih =>
    intro it n M o r hn hi hk
    refine ywL_ok (G := lHd xs L (8 * it) n M o) C hA hH hScr hF ?_ yL_okH (sl := [40, 1113]) 20 23 (lLv (8 * it)) [] M o n (l_head hL (by omega))
    rintro pc lv st M' o' n' ⟨rfl, rfl, rfl, rfl, h⟩
    rcases h with ⟨rfl, rfl⟩ | ⟨rfl, rfl, h8⟩
    · exact ywL_ok (G := yNo) C hA hH hScr hF (fun _ _ _ _ _ _ z => False.elim z) yL_okE (sl := []) 10 1113 (lLv (8 * it)) [] M' o' n' (l_end (by omega))
    · obtain ⟨w, hw, ew⟩ := and31 (xs (8 * it))
      rw [ew]
      have nxt : ∀ (pc : Nat) (lv : List (Nat × Value)) (st : List Value) (M1 : kMem) (o1 : Int64) (n1 : Nat), lG (8 * it) (n' + 1) pc lv st M1 o1 n1 → yJ p l e R9 s m args below meth c D ad cI cJ 7 c0 s0 Q pc lv st M1 o1 n1 := by
        rintro pc lv st M1 o1 n1 ⟨rfl, rfl, r1, hn1, hlv⟩
        refine yJ_sub hlv ?_
        refine ywL_ok (G := fun pc lv st M9 o9 n9 => pc = 23 ∧ lv = lLv (8 * it + 8) ∧ st = [] ∧ M9 = M1 ∧ o9 = o1 ∧ n9 = n1) C hA hH hScr hF ?_ yL_okE (sl := [23]) 10 1107 (lLv (8 * it)) [] M1 o1 n1 l_next
        rintro pc lv st M2 o2 n2 ⟨rfl, rfl, rfl, rfl, rfl, rfl⟩
        exact ih (it + 1) n2 M2 o2 r1 (by omega) (by omega) (by omega)
      have hx := C.1
      have hb := C.2.1
      intro H locs ls hP hS hl
      by_cases h20 : w < 20
      · rcases (show w = 0 ∨ w = 1 ∨ w = 2 ∨ w = 3 ∨ w = 4 ∨ w = 5 ∨ w = 6 ∨ w = 7 ∨ w = 8 ∨ w = 9 ∨ w = 10 ∨ w = 11 ∨ w = 12 ∨ w = 13 ∨ w = 14 ∨ w = 15 ∨ w = 16 ∨ w = 17 ∨ w = 18 ∨ w = 19 by omega) with rfl | rfl | rfl | rfl | rfl | rfl | rfl | rfl | rfl | rfl | rfl | rfl | rfl | rfl | rfl | rfl | rfl | rfl | rfl | rfl
        · exact lv_tableIn (tgt := 136) hx hb d40 (by decide) (by decide) rfl (by decide) (ywL_ok (G := lG (8 * it) (n' + 1)) C hA hH hScr hF nxt yL_okC0 (sl := [1107]) 90 136 (lLv (8 * it)) [] M' o' n' (l_case0 (by omega) hL (by omega) r) H locs ls hP hS hl)
        · exact lv_tableIn (tgt := 180) hx hb d40 (by decide) (by decide) rfl (by decide) (ywL_ok (G := lG (8 * it) (n' + 1)) C hA hH hScr hF nxt yL_okC1 (sl := [1107]) 90 180 (lLv (8 * it)) [] M' o' n' (l_case1 (by omega) hL (by omega) r) H locs ls hP hS hl)
        · exact lv_tableIn (tgt := 264) hx hb d40 (by decide) (by decide) rfl (by decide) (ywL_ok (G := lG (8 * it) (n' + 1)) C hA hH hScr hF nxt yL_okC2 (sl := [1107]) 90 264 (lLv (8 * it)) [] M' o' n' (l_case2 (by omega) hL (by omega) r) H locs ls hP hS hl)
        · exact lv_tableIn (tgt := 376) hx hb d40 (by decide) (by decide) rfl (by decide) (ywL_ok (G := lG (8 * it) (n' + 1)) C hA hH hScr hF nxt yL_okC3 (sl := [1107]) 90 376 (lLv (8 * it)) [] M' o' n' (l_case3 (by omega) hL (by omega) r) H locs ls hP hS hl)
        · exact lv_tableIn (tgt := 468) hx hb d40 (by decide) (by decide) rfl (by decide) (ywL_ok (G := lG (8 * it) (n' + 1)) C hA hH hScr hF nxt yL_okC4 (sl := [1107]) 90 468 (lLv (8 * it)) [] M' o' n' (l_case4 (by omega) hL (by omega) r) H locs ls hP hS hl)
        · exact lv_tableIn (tgt := 512) hx hb d40 (by decide) (by decide) rfl (by decide) (ywL_ok (G := lG (8 * it) (n' + 1)) C hA hH hScr hF nxt yL_okC5 (sl := [1107]) 90 512 (lLv (8 * it)) [] M' o' n' (l_case5 (by omega) hL (by omega) r) H locs ls hP hS hl)
        · exact lv_tableIn (tgt := 560) hx hb d40 (by decide) (by decide) rfl (by decide) (ywL_ok (G := lG (8 * it) (n' + 1)) C hA hH hScr hF nxt yL_okC6 (sl := [1107]) 90 560 (lLv (8 * it)) [] M' o' n' (l_case6 (by omega) hL (by omega) r) H locs ls hP hS hl)
        · exact lv_tableIn (tgt := 616) hx hb d40 (by decide) (by decide) rfl (by decide) (ywL_ok (G := lG (8 * it) (n' + 1)) C hA hH hScr hF nxt yL_okC7 (sl := [1107]) 90 616 (lLv (8 * it)) [] M' o' n' (l_case7 (by omega) hL (by omega) r) H locs ls hP hS hl)
        · exact lv_tableIn (tgt := 672) hx hb d40 (by decide) (by decide) rfl (by decide) (ywL_ok (G := lG (8 * it) (n' + 1)) C hA hH hScr hF nxt yL_okC8 (sl := [1107]) 90 672 (lLv (8 * it)) [] M' o' n' (l_case8 (by omega) hL (by omega) r) H locs ls hP hS hl)
        · exact lv_tableIn (tgt := 697) hx hb d40 (by decide) (by decide) rfl (by decide) (ywL_ok (G := lG (8 * it) (n' + 1)) C hA hH hScr hF nxt yL_okC9 (sl := [1107]) 90 697 (lLv (8 * it)) [] M' o' n' (l_case9 (by omega) hL (by omega) r) H locs ls hP hS hl)
        · exact lv_tableIn (tgt := 734) hx hb d40 (by decide) (by decide) rfl (by decide) (ywL_ok (G := lG (8 * it) (n' + 1)) C hA hH hScr hF nxt yL_okC10 (sl := [1107]) 90 734 (lLv (8 * it)) [] M' o' n' (l_case10 (by omega) hL (by omega) r) H locs ls hP hS hl)
        · exact lv_tableIn (tgt := 759) hx hb d40 (by decide) (by decide) rfl (by decide) (ywL_ok (G := lG (8 * it) (n' + 1)) C hA hH hScr hF nxt yL_okC11 (sl := [1107]) 90 759 (lLv (8 * it)) [] M' o' n' (l_case11 (by omega) hL (by omega) r) H locs ls hP hS hl)
        · exact lv_tableIn (tgt := 772) hx hb d40 (by decide) (by decide) rfl (by decide) (ywL_ok (G := lG (8 * it) (n' + 1)) C hA hH hScr hF nxt yL_okC12 (sl := [1107]) 90 772 (lLv (8 * it)) [] M' o' n' (l_case12 (by omega) hL (by omega) r) H locs ls hP hS hl)
        · exact lv_tableIn (tgt := 828) hx hb d40 (by decide) (by decide) rfl (by decide) (ywL_ok (G := lG (8 * it) (n' + 1)) C hA hH hScr hF nxt yL_okC13 (sl := [1107]) 90 828 (lLv (8 * it)) [] M' o' n' (l_case13 (by omega) hL (by omega) r) H locs ls hP hS hl)
        · exact lv_tableIn (tgt := 920) hx hb d40 (by decide) (by decide) rfl (by decide) (ywL_ok (G := lG (8 * it) (n' + 1)) C hA hH hScr hF nxt yL_okC14 (sl := [1107]) 90 920 (lLv (8 * it)) [] M' o' n' (l_case14 (by omega) hL (by omega) r) H locs ls hP hS hl)
        · exact lv_tableIn (tgt := 988) hx hb d40 (by decide) (by decide) rfl (by decide) (ywL_ok (G := lG (8 * it) (n' + 1)) C hA hH hScr hF nxt yL_okC15 (sl := [1107]) 90 988 (lLv (8 * it)) [] M' o' n' (l_case15 (by omega) hL (by omega) r) H locs ls hP hS hl)
        · exact lv_tableIn (tgt := 1001) hx hb d40 (by decide) (by decide) rfl (by decide) (ywL_ok (G := lG (8 * it) (n' + 1)) C hA hH hScr hF nxt yL_okC16 (sl := [1107]) 90 1001 (lLv (8 * it)) [] M' o' n' (l_case16 (by omega) hL (by omega) r) H locs ls hP hS hl)
        · exact lv_tableIn (tgt := 1014) hx hb d40 (by decide) (by decide) rfl (by decide) (ywL_ok (G := lG (8 * it) (n' + 1)) C hA hH hScr hF nxt yL_okC17 (sl := [1107]) 90 1014 (lLv (8 * it)) [] M' o' n' (l_case17 (by omega) hL (by omega) r) H locs ls hP hS hl)
        · exact lv_tableIn (tgt := 1027) hx hb d40 (by decide) (by decide) rfl (by decide) (ywL_ok (G := lG (8 * it) (n' + 1)) C hA hH hScr hF nxt yL_okC18 (sl := [1107]) 90 1027 (lLv (8 * it)) [] M' o' n' (l_case18 (by omega) hL (by omega) r) H locs ls hP hS hl)
        · exact lv_tableIn (tgt := 1063) hx hb d40 (by decide) (by decide) rfl (by decide) (ywL_ok (G := lG (8 * it) (n' + 1)) C hA hH hScr hF nxt yL_okC19 (sl := [1107]) 90 1063 (lLv (8 * it)) [] M' o' n' (l_case19 (by omega) hL (by omega) r) H locs ls hP hS hl)
      · have ht : (nI w).toInt = (w : Int) := Int32.toInt_ofNat_of_lt (by omega)
        exact lv_tableOut (tgt := 1107) hx hb d40 (Or.inr (by rw [ht]; omega)) (by decide) (nxt 1107 (lLv (8 * it)) [] M' o' n' ⟨rfl, rfl, r, by omega, rfl⟩ H locs ls hP hS hl)
end LO
