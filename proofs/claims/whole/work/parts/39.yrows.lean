/-! bodies of the law's class: the rows -/
theorem arr1 (cA : ClassId) {f g : Nat → Value} (h : f 0 = g 0) : arrV cA 1 f = arrV cA 1 g := by
  unfold arrV
  congr 1
  apply Array.ext
  · simp
  · intro i h1 h2
    simp at h1
    subst h1
    simp [h]
theorem kW_out {D : va_G} {ad : Nat → Nat} {cI cJ : ClassId} {o v : Int64} {M : kMem} {f : Nat → Int64} {H : Heap} (h : va_P D vwCl ((kW ad cI cJ o M).set 15 (ad 15, .inl (cJ, 1, .inr (.inl f)))) H) (hf : f 0 = v) : va_P D vwCl (kW ad cI cJ v M) H := by
  have e : kW ad cI cJ v M = (kW ad cI cJ o M).set 15 (ad 15, ke ad (.inl (cJ, 1, .inr (.inl (fun _ => v))))) := by
    unfold kW
    have h1 := kww_set ad (.inl (cJ, 1, .inr (.inl (fun _ => v)))) (kaw cI cJ o M) 0 15
    rw [Nat.zero_add] at h1
    rw [h1]
    rfl
  have hlen : 15 < (kW ad cI cJ o M).length := by
    have : (kW ad cI cJ o M)[15]? = some (ad 15, ke ad (.inl (cJ, 1, .inr (.inl (fun _ => o))))) := kW_at rfl
    exact (List.getElem?_eq_some_iff.mp this).1
  intro k q hq
  rw [e] at hq
  by_cases hk : k = 15
  · subst hk
    rw [List.getElem?_set_self hlen] at hq
    cases hq
    have h9 := h 15 _ (List.getElem?_set_self hlen)
    have h9 : H[ad 15]? = some (arrV cJ 1 (fun j => .long (f j))) := h9
    show H[ad 15]? = some (arrV cJ 1 (fun j => .long v))
    rw [h9]
    exact congrArg some (arr1 cJ (by rw [hf]))
  · rw [List.getElem?_set_ne (Ne.symm hk)] at hq
    exact h k q (by rw [List.getElem?_set_ne (Ne.symm hk)]; exact hq)
def yLook (rows : List kRow) (pc : Nat) : Option kRow := rows.find? (fun r => r.1 == pc)
section YR
variable {p : Program} {l : Launch} {e : Env} {R : Room} {s : State} {m : MethodId} {args : Array Value} {below : List Frame} {meth : Method} {c : Code} {D : va_G} {ad : Nat → Nat} {cI cJ : ClassId} {cc : ByteArray} {nL d nm c0 s0 : Nat} {Q : State → Prop}
/-- the law's script, where there is one -/
def yScr (s : State) (ad : Nat → Nat) (L : Nat) (sc : Bool) (xs : Nat → Int32) : Prop := sc = true → va_X (ad 16) L xs s s.heap ∧ ad 16 < s.heap.size ∧ ¬ kA ad s.heap.size (ad 16)
set_option maxHeartbeats 4000000 in
set_option maxRecDepth 100000 in
theorem ywp_ok {L : Nat} {sc : Bool} {xs : Nat → Int32} {Hn : Nat → String → Option Nat} {F : Int32 → kMem → Int64 → Nat → Prop} {K : yKt} (C : yCx cc nL d nm c0 s0 p l R s m args c D ad cI cJ) (hA : kAs s) (hH : yHn e s m c cc nL Hn) (hScr : yScr s ad L sc xs)
    (hF : ∀ v M o n pc ls H locs, F v M o n → decode cc pc = .ok (.ireturn, 1) → va_P D vwCl (kW ad cI cJ o M) H → va_S (kA ad s.heap.size) s.heap H locs → W p l e R s m args below meth c H locs (c0 + n) (s0 + 6 * n) Q (F0 m pc ls [.int v]))
    (hK : ∀ pc lv st M o n, K pc lv st M o n → yJ p l e R s m args below meth c D ad cI cJ nL c0 s0 Q pc lv st M o n)
    {rows : List kRow} (hrows : kOkT (cc, rows)) {r : kRow} {pc n : Nat} {lv : List (Nat × Value)} {st : List Value} {M : kMem} {o : Int64} (hr : yLook rows pc = some r) (h : ywp nL d nm L sc xs Hn F K r lv st M o n) : yJ p l e R s m args below meth c D ad cI cJ nL c0 s0 Q pc lv st M o n := by
  have h1 : r.1 = pc := by
    have := List.find?_some hr
    simpa using this
  obtain ⟨h2, h3⟩ := hrows r (List.mem_of_find?_eq_some hr)
  obtain ⟨pc', i, len, x, y⟩ := r
  have h1 : pc' = pc := h1
  subst h1
  have h3 : (len == kLn i && _) = true := h3
  rw [Bool.and_eq_true] at h3
  obtain ⟨h4, h5⟩ := h3
  have h4 : len = kLn i := by simpa using h4
  have h2 : decode cc pc' = .ok (i, len) := h2
  rw [h4] at h2
  clear h4 hr
  have C' := C
  obtain ⟨hx, hb, hml, hown, hts, hKv, hz, hst, hi, -⟩ := C
  unfold ywp at h
  dsimp only at h h5
  split at h
  case h_1 n9 => exact fun H locs ls hP hS hl => lv_iconst hx hb h2 (by simpa using h5) (hK _ _ _ _ _ _ h H locs ls hP hS hl)
  case h_2 n9 => exact fun H locs ls hP hS hl => lv_bipush hx hb h2 (by simpa using h5) (hK _ _ _ _ _ _ h H locs ls hP hS hl)
  case h_3 k9 =>
    split at h
    · rename_i v h6; exact fun H locs ls hP hS hl => lv_iload_n hx hb h2 rfl (kget_has hl h6) (hK _ _ _ _ _ _ h H locs ls hP hS hl)
    · exact h.elim
  case h_4 k9 =>
    split at h
    · rename_i v h6; exact fun H locs ls hP hS hl => lv_iload hx hb h2 (kget_has hl h6) (hK _ _ _ _ _ _ h H locs ls hP hS hl)
    · exact h.elim
  case h_5 k9 =>
    split at h
    · rename_i v h6; exact fun H locs ls hP hS hl => lv_aload_n hx hb h2 rfl (kget_has hl h6) (hK _ _ _ _ _ _ h H locs ls hP hS hl)
    · exact h.elim
  case h_6 k9 =>
    split at h
    · rename_i v h6; exact fun H locs ls hP hS hl => lv_aload hx hb h2 (kget_has hl h6) (hK _ _ _ _ _ _ h H locs ls hP hS hl)
    · exact h.elim
  case h_7 k9 =>
    split at h
    · split at h
      · rename_i v st9 h6; exact fun H locs ls hP hS hl => lv_istore hx hb h2 hl h6.2 rfl (fun ls' h' => hK _ _ _ _ _ _ h H locs ls' hP hS (kset_has (v := .int v) h6.1 h'))
      · exact h.elim
    · exact h.elim
  case h_8 k9 n9 z9 =>
    split at h
    · rename_i v h6
      split at h
      · rename_i h7
        refine fun H locs ls hP hS hl => ?_
        obtain ⟨j, hj⟩ := List.getElem?_of_mem (List.mem_map.mpr ⟨(k9, Value.int v), kget_ok h6, rfl⟩ : (k9, kv ad (.int v)) ∈ lv.map (fun q => (q.1, kv ad q.2)))
        have h8 : Int32.ofInt n9 = nI x := by simpa using h5
        exact lv_iinc hx hb h2 hl hj rfl h7.2 rfl (fun ls' h' => hK _ _ _ _ _ _ h H locs ls' hP hS (kset_has (v := .int (v + nI x)) h7.1 (by rw [h8] at h'; exact h')))
      · exact h.elim
    · exact h.elim
  case h_9 =>
    split at h
    · exact fun H locs ls hP hS hl => lv_iadd hx hb h2 (hK _ _ _ _ _ _ h H locs ls hP hS hl)
    · exact h.elim
  case h_10 =>
    split at h
    · exact fun H locs ls hP hS hl => lv_isub hx hb h2 (hK _ _ _ _ _ _ h H locs ls hP hS hl)
    · exact h.elim
  case h_11 =>
    split at h
    · exact fun H locs ls hP hS hl => lv_iand hx hb h2 (hK _ _ _ _ _ _ h H locs ls hP hS hl)
    · exact h.elim
  case h_12 off => exact fun H locs ls hP hS hl => lv_goto hx hb h2 (by simpa using h5) (hK _ _ _ _ _ _ h H locs ls hP hS hl)
  case h_13 off =>
    split at h
    · exact fun H locs ls hP hS hl => lv_if_eq hx hb h2 (by simpa using h5) (fun z => hK _ _ _ _ _ _ (h.1 z) H locs ls hP hS hl) (fun z => hK _ _ _ _ _ _ (h.2 z) H locs ls hP hS hl)
    · exact h.elim
  case h_14 off =>
    split at h
    · exact fun H locs ls hP hS hl => lv_if_ne hx hb h2 (by simpa using h5) (fun z => hK _ _ _ _ _ _ (h.1 z) H locs ls hP hS hl) (fun z => hK _ _ _ _ _ _ (h.2 z) H locs ls hP hS hl)
    · exact h.elim
  case h_15 off =>
    split at h
    · exact fun H locs ls hP hS hl => lv_icmp_eq hx hb h2 (by simpa using h5) (fun z => hK _ _ _ _ _ _ (h.1 z) H locs ls hP hS hl) (fun z => hK _ _ _ _ _ _ (h.2 z) H locs ls hP hS hl)
    · exact h.elim
  case h_16 off =>
    split at h
    · exact fun H locs ls hP hS hl => lv_icmp_gt hx hb h2 (by simpa using h5) (fun z => hK _ _ _ _ _ _ (h.1 z) H locs ls hP hS hl) (fun z => hK _ _ _ _ _ _ (h.2 z) H locs ls hP hS hl)
    · exact h.elim
  case h_17 =>
    split at h
    · obtain ⟨hs, j, rfl, hj, hj9, hk⟩ := h
      obtain ⟨x1, x2, x3⟩ := hScr hs
      refine fun H locs ls hP hS hl => ?_
      have hc : (nI j).toNatClampNeg = j := nI_clamp hj9
      have hk9 := hK _ _ _ _ _ _ hk H locs ls hP hS hl
      rw [← hc] at hk9
      rw [hc] at hk9
      exact va_sld hx hb x1 x2 x3 hS (i := nI j) (fun z => z.elim (nI_pos hj9) (fun z => by rw [hc] at z; omega)) h2 (by rw [hc]; exact hk9)
    · exact h.elim
  case h_18 =>
    split at h
    · obtain ⟨hs, hk⟩ := h
      obtain ⟨x1, x2, x3⟩ := hScr hs
      exact fun H locs ls hP hS hl => va_slen hx hb x1 x2 x3 hS h2 (hK _ _ _ _ _ _ hk H locs ls hP hS hl)
    · exact h.elim
  case h_19 =>
    split at h
    · exact fun H locs ls hP hS hl => lv_i2l hx hb h2 rfl (hK _ _ _ _ _ _ h H locs ls hP hS hl)
    · exact h.elim
  case h_20 =>
    split at h
    · exact fun H locs ls hP hS hl => W.lcmp hx hb h2 (hK _ _ _ _ _ _ h H locs ls hP hS hl)
    · exact h.elim
  case h_21 =>
    split at h
    · obtain ⟨rfl, hk⟩ := h
      exact fun H locs ls hP hS hl => va_lald hx hb hKv hP 15 1 (kW_at (x := .inl (cJ, 1, .inr (.inl (fun _ => o)))) rfl) rfl (show vp_in (nI 0) 1 by unfold vp_in; decide) h2 (hK _ _ _ _ _ _ hk H locs ls hP hS hl)
    · exact h.elim
  case h_22 =>
    split at h
    · obtain ⟨rfl, hk⟩ := h
      exact fun H locs ls hP hS hl => va_last hx hb hKv hP (kD hi cI cJ o M s.heap.size) hS 15 1 (kW_at (x := .inl (cJ, 1, .inr (.inl (fun _ => o)))) rfl) rfl (show vp_in (nI 0) 1 by unfold vp_in; decide) h2 (fun H1 locs1 p1 _ p3 => hK _ _ _ _ _ _ hk H1 locs1 ls (kW_out p1 rfl) p3 hl)
    · exact h.elim
  case h_23 =>
    split at h
    · exact fun H locs ls hP hS hl => hF _ _ _ _ _ _ _ _ h h2 hP hS
    · exact h.elim
  case h_24 idx =>
    split at h
    · rename_i a st' hst'
      split at h
      · rename_i q hq
        obtain ⟨hn9, h⟩ := h
        split at h
        · rename_i h6
          obtain ⟨q1, q2⟩ := q
          have e1 : q1 = kO x := h6.2.2.1
          subst e1
          have hlen : (st.take (kN x)).reverse.length = kN x := by
            have h7 : 0 < (st.drop (kN x)).length := by rw [hst']; exact Nat.succ_pos _
            rw [List.length_drop] at h7
            rw [List.length_reverse, List.length_take]
            omega
          have e2 : st = (st.take (kN x)).reverse.reverse ++ .ref a :: st' := by
            rw [List.reverse_reverse, ← hst', List.take_append_drop]
          rw [e2]
          exact yj_callV (o := o) C' hH hK hn9 h2 h6.1 h6.2.1 hq hlen h6.2.2.2 h
        · exact h.elim
      · exact h.elim
    · exact h.elim
  case h_25 idx =>
    obtain ⟨hn9, h⟩ := h
    split at h
    · rename_i h6
      have hlen : (st.take (yW x).2.2.2.2.1).reverse.length = (yW x).2.2.2.2.1 := by
        rw [List.length_reverse, List.length_take]
        omega
      have e2 : st = (st.take (yW x).2.2.2.2.1).reverse.reverse ++ st.drop (yW x).2.2.2.2.1 := by rw [List.reverse_reverse, List.take_append_drop]
      have h9 := yj_callS (o := o) (lv := lv) (e := e) (below := below) (meth := meth) (Q := Q) C' hA hK hn9 h2 h6.1 hlen h6.2.2 h
      rw [← e2] at h9
      exact h9
    · exact h.elim
  case h_26 => exact h.elim
/-- from pc, halting at the pcs of sl -/
def ywL (nL d nm L : Nat) (sc : Bool) (xs : Nat → Int32) (Hn : Nat → String → Option Nat) (F : Int32 → kMem → Int64 → Nat → Prop) (G : yKt) (rows : List kRow) (sl : List Nat) : Nat → yKt
  | 0, pc, lv, st, M, o, n => G pc lv st M o n
  | k + 1, pc, lv, st, M, o, n => if pc ∈ sl then G pc lv st M o n else (match yLook rows pc with
    | some r => ywp nL d nm L sc xs Hn F (ywL nL d nm L sc xs Hn F G rows sl k) r lv st M o n
    | none => False)
theorem ywL_ok {L : Nat} {sc : Bool} {xs : Nat → Int32} {Hn : Nat → String → Option Nat} {F : Int32 → kMem → Int64 → Nat → Prop} {G : yKt} (C : yCx cc nL d nm c0 s0 p l R s m args c D ad cI cJ) (hA : kAs s) (hH : yHn e s m c cc nL Hn) (hScr : yScr s ad L sc xs)
    (hF : ∀ v M o n pc ls H locs, F v M o n → decode cc pc = .ok (.ireturn, 1) → va_P D vwCl (kW ad cI cJ o M) H → va_S (kA ad s.heap.size) s.heap H locs → W p l e R s m args below meth c H locs (c0 + n) (s0 + 6 * n) Q (F0 m pc ls [.int v]))
    (hG : ∀ pc lv st M o n, G pc lv st M o n → yJ p l e R s m args below meth c D ad cI cJ nL c0 s0 Q pc lv st M o n)
    {rows : List kRow} (hrows : kOkT (cc, rows)) {sl : List Nat} : ∀ (k pc : Nat) (lv : List (Nat × Value)) (st : List Value) (M : kMem) (o : Int64) (n : Nat), ywL nL d nm L sc xs Hn F G rows sl k pc lv st M o n → yJ p l e R s m args below meth c D ad cI cJ nL c0 s0 Q pc lv st M o n := by
  intro k
  induction k with
  | zero => exact fun _ _ _ _ _ _ h => hG _ _ _ _ _ _ h
  | succ k ih =>
    intro pc lv st M o n h
    unfold ywL at h
    split at h
    · exact hG _ _ _ _ _ _ h
    · cases hx : yLook rows pc with
      | none => rw [hx] at h; exact h.elim
      | some r =>
        rw [hx] at h
        exact ywp_ok C hA hH hScr hF ih hrows hx h
end YR
