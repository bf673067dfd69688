/-! rows of the judgement: fields, arrays, ends, throws, calls -/
theorem kcl (ci : Nat) (h : ci < 3) : vwCl[ci]? = some (kCn ci, kTf ci, kNf ci) := by
  rcases (show ci = 0 ∨ ci = 1 ∨ ci = 2 by omega) with rfl | rfl | rfl <;> rfl
theorem kuw (ci : Nat) (h : ci < 3) : ∀ w ∈ u_ws (kCn ci) (kTf ci) (kNf ci), w ∈ kG := by
  rcases (show ci = 0 ∨ ci = 1 ∨ ci = 2 by omega) with rfl | rfl | rfl
  · exact kWs0_ok.1
  · exact kWs0_ok.2.1
  · exact kWs0_ok.2.2
theorem knm (ci : Nat) (h : ci < 3) : ∀ a, a < kNf ci → ∀ b, b < kNf ci → a ≠ b → (kTf ci a).2.1 ≠ (kTf ci b).2.1 := by
  rcases (show ci = 0 ∨ ci = 1 ∨ ci = 2 by omega) with rfl | rfl | rfl
  · exact nmX0
  · exact nmX1
  · exact nmX2
theorem ktyok (ci : Nat) (h : ci < 3) : ∀ k, k < kNf ci → parseFieldDescriptor (kTf ci k).2.2.1 = some (kty ci k) := by
  rcases (show ci = 0 ∨ ci = 1 ∨ ci = 2 by omega) with rfl | rfl | rfl
  · exact tyX0_ok
  · exact tyX1_ok
  · exact tyX2_ok
/-- where a number of an object stands in the memory: its place, the component, the index -/
def ksc (ci f : Nat) : Option (Nat × Nat × Nat) := match ci, f with
  | 1, 5 => some (0, 0, 0)
  | 1, 6 => some (0, 0, 1)
  | 1, 7 => some (0, 0, 2)
  | 1, 8 => some (0, 0, 3)
  | 2, 0 => some (9, 9, 4)
  | 2, 5 => some (9, 9, 0)
  | 2, 6 => some (9, 9, 1)
  | 2, 7 => some (9, 9, 2)
  | 2, 8 => some (9, 9, 3)
  | _, _ => none
theorem ksc_ok {ci f : Nat} {q : Nat × Nat × Nat} (h : ksc ci f = some q) (M : kMem) (x : Int32) (cI cJ : ClassId) (o : Int64) :
    ∃ fs : List Value, (kaw cI cJ o M)[q.1]? = some (.inr (ci, fs)) ∧ f < fs.length ∧ (kTf ci f).2.2.2 = false ∧ f < kNf ci ∧ ci < 3 ∧ (kaw cI cJ o M).set q.1 (.inr (ci, fs.set f (.int x))) = kaw cI cJ o (mw M q.2.1 q.2.2 x) := by
  unfold ksc at h
  split at h <;> first | (cases h; exact ⟨_, rfl, Nat.le_of_ble_eq_true rfl, rfl, Nat.le_of_ble_eq_true rfl, Nat.le_of_ble_eq_true rfl, rfl⟩) | cases h
theorem kar_set {a n : Nat} (h : kar a = some n) (M : kMem) (f : Nat → Int32) (cI cJ : ClassId) (o : Int64) : (kaw cI cJ o M).set a (.inl (cI, n, .inl f)) = kaw cI cJ o (va_up M a f) := by
  unfold kar at h
  split at h <;> first | (cases h; rfl) | cases h
theorem kmap_set (ad : Nat → Nat) (fs : List Value) (f : Nat) (x : Int32) : (fs.set f (.int x)).map (kv ad) = (fs.map (kv ad)).set f (.int x) := by
  rw [List.map_set]
  rfl
section KM
variable {d mid : Nat} {P : kRes → Prop} {pc : Nat} {lv : List (Nat × Value)} {st : List Value} {M : kMem}
theorem kj_get {idx ci f a : Nat} {fs : List Value} {v : Value} (hd : kDec mid pc (.getfield idx) 3) (hl : (kO mid, idx, ci, f) ∈ kFl) (ho : kob M a = some (ci, fs)) (hv : fs[f]? = some v) (k : kJ d mid P (pc + 3) lv (v :: st) M) : kJ d mid P pc lv (.ref a :: st) M := by
  intro p l e R s m args below meth c D ad cI cJ o C H locs ls hP hS hll
  obtain ⟨h1, h2, h3⟩ := kFl_ok _ hl
  have he := kW_at (ad := ad) (kob_ok (cI := cI) (cJ := cJ) (o := o) ho)
  exact va_get (D := D) (ci := ci) (v := kv ad v) (C := kCn ci) (T := kTf ci) (N := kNf ci) C.1 C.2.1 C.2.2.2.2.1 (kuw ci h3) C.2.2.2.1 C.2.2.2.2.2.1 hP a he (kcl ci h3) f h2 (C.2.2.2.2.1 _ h1) (fun _ h9 => h9) (by rw [List.getElem?_map, hv]; rfl) hd (k p l e R s m args below meth c D ad cI cJ o C H locs ls hP hS hll)
theorem kj_put {idx ci f : Nat} {q : Nat × Nat × Nat} {x : Int32} (hd : kDec mid pc (.putfield idx) 3) (hl : (kO mid, idx, ci, f) ∈ kFl) (hq : ksc ci f = some q) (hn : narrow (kty ci f) (.int x) = .int x) (hf : fits (kty ci f) (.int x) = true) (k : kJ d mid P (pc + 3) lv st (mw M q.2.1 q.2.2 x)) : kJ d mid P pc lv (.int x :: .ref q.1 :: st) M := by
  intro p l e R s m args below meth c D ad cI cJ o C H locs ls hP hS hll
  obtain ⟨h1, h2, h3⟩ := kFl_ok _ hl
  obtain ⟨fs, g1, g2, g3, g4, g5, g6⟩ := ksc_ok hq M x cI cJ o
  have he := kW_at (ad := ad) g1
  refine va_put (D := D) (ci := ci) (v := .int x) (C := kCn ci) (T := kTf ci) (N := kNf ci) C.1 C.2.1 C.2.2.2.2.1 (kuw ci h3) (kty ci) (ktyok ci h3) (knm ci h3) C.2.2.2.1 C.2.2.2.2.2.1 hP (kD C.2.2.2.2.2.2.2.2.2.2.2.2 cI cJ o M s.heap.size) hS q.1 he (kcl ci h3) f h2 (C.2.2.2.2.1 _ h1) (fun _ h9 => h9) g3 (ktyok ci h3 f h2) hn hf (by rw [List.length_map]; exact g2) hd (fun H1 locs1 hP1 _ hS1 => ?_)
  have e9 : (kW ad cI cJ o M).set q.1 (ad q.1, .inr (ci, (fs.map (kv ad)).set f (.int x))) = kW ad cI cJ o (mw M q.2.1 q.2.2 x) := by
    rw [← kmap_set]
    exact kW_set (x := .inr (ci, fs.set f (.int x))) g6
  have hP2 : va_P D vwCl ((kW ad cI cJ o M).set q.1 (ad q.1, .inr (ci, (fs.map (kv ad)).set f (.int x)))) H1 := hP1
  rw [e9] at hP2
  exact k p l e R s m args below meth c D ad cI cJ o C H1 locs1 ls hP2 hS1 hll
theorem kj_ald {a n j : Nat} {i : Int32} (hd : kDec mid pc .iaload 1) (ha : kar a = some n) (hi : i = nI j) (hj : j < n) (k : kJ d mid P (pc + 1) lv (.int (M a j) :: st) M) : kJ d mid P pc lv (.int i :: .ref a :: st) M := by
  intro p l e R s m args below meth c D ad cI cJ o C H locs ls hP hS hll
  subst hi
  have hn : n < 2 ^ 31 := by
    unfold kar at ha
    split at ha <;> first | (cases ha; decide) | cases ha
  have he := kW_at (ad := ad) (kar_ok (cI := cI) (cJ := cJ) (o := o) (M := M) ha)
  have hc : (nI j).toNatClampNeg = j := nI_clamp (by omega)
  refine va_iald C.1 C.2.1 C.2.2.2.2.2.1 hP a 0 he rfl (vp_in_nI hj hn) hd ?_
  rw [hc]
  exact k p l e R s m args below meth c D ad cI cJ o C H locs ls hP hS hll
theorem kj_ast {a n j : Nat} {i x : Int32} (hd : kDec mid pc .iastore 1) (ha : kar a = some n) (hi : i = nI j) (hj : j < n) (k : kJ d mid P (pc + 1) lv st (mw M a j x)) : kJ d mid P pc lv (.int x :: .int i :: .ref a :: st) M := by
  intro p l e R s m args below meth c D ad cI cJ o C H locs ls hP hS hll
  subst hi
  have hn : n < 2 ^ 31 := by
    unfold kar at ha
    split at ha <;> first | (cases ha; decide) | cases ha
  have he := kW_at (ad := ad) (kar_ok (cI := cI) (cJ := cJ) (o := o) (M := M) ha)
  have hc : (nI j).toNatClampNeg = j := nI_clamp (by omega)
  refine va_iast C.1 C.2.1 C.2.2.2.2.2.1 hP (kD C.2.2.2.2.2.2.2.2.2.2.2.2 cI cJ o M s.heap.size) hS a 0 he rfl (vp_in_nI hj hn) hd (fun H1 locs1 hP1 _ hS1 => ?_)
  rw [hc] at hP1
  have e9 : (kW ad cI cJ o M).set a (ad a, .inl (cI, n, .inl (upd (M a) j x))) = kW ad cI cJ o (mw M a j x) := kW_set (x := .inl (cI, n, .inl (upd (M a) j x))) (kar_set ha M _ cI cJ o)
  rw [e9] at hP1
  exact k p l e R s m args below meth c D ad cI cJ o C H1 locs1 ls hP1 hS1 hll
theorem kj_copy {idx a b na nb i j n : Nat} {x y z : Int32} (hd : kDec mid pc (.invokestatic idx) 3) (hl : (kO mid, idx) ∈ kAc) (ha : kar a = some na) (hb : kar b = some nb) (hx : x = nI i) (hy : y = nI j) (hz : z = nI n) (h1 : i + n ≤ na) (h2 : j + n ≤ nb) (hw : (st.map fun v => v.category).sum ≤ 8) (k : kJ d mid P (pc + 3) lv st (va_up M b (va_cpy (M a) (M b) i j n))) : kJ d mid P pc lv (.int z :: .int y :: .ref b :: .int x :: .ref a :: st) M := by
  intro p l e R s m args below meth c D ad cI cJ o C H locs ls hP hS hll
  subst hx; subst hy; subst hz
  have hlt : ∀ {a n : Nat}, kar a = some n → n ≤ 3072 := by
    intro a n ha
    unfold kar at ha
    split at ha <;> first | (cases ha; decide) | cases ha
  have hna := hlt ha
  have hnb := hlt hb
  have hea := kW_at (ad := ad) (kar_ok (cI := cI) (cJ := cJ) (o := o) (M := M) ha)
  have heb := kW_at (ad := ad) (kar_ok (cI := cI) (cJ := cJ) (o := o) (M := M) hb)
  have ci : (nI i).toNatClampNeg = i := nI_clamp (by omega)
  have cj : (nI j).toNatClampNeg = j := nI_clamp (by omega)
  have cn : (nI n).toNatClampNeg = n := nI_clamp (by omega)
  have hR : R = kR d := C.2.2.2.2.2.2.2.2.2.2.2.1
  refine va_copyi C.1 C.2.1 (by rw [C.2.2.1]; exact hll.1.symm) C.2.2.2.1 (C.2.2.2.2.1 _ (kAc_ok (kO mid, idx) hl)) (C.2.2.2.2.1 _ kAcs_ok.1) (C.2.2.2.2.1 _ kAcs_ok.2.1) (C.2.2.2.2.1 _ kAcs_ok.2.2) C.2.2.2.2.2.1 hP (kD C.2.2.2.2.2.2.2.2.2.2.2.2 cI cJ o M s.heap.size) hS a b 0 0 hea heb rfl rfl rfl (nI_pos (by omega)) (nI_pos (by omega)) (nI_pos (by omega)) (by rw [ci, cn]; exact h1) (by rw [cj, cn]; exact h2) (fun _ _ => rfl) (by rw [hR]; show 1 ≤ 6 + d; omega) ?_ hd (fun H1 locs1 hP1 _ hS1 => ?_)
  · rw [hR]
    have e1 : ((st.map (kv ad)).map fun v => v.category) = st.map fun v => v.category := by
      rw [List.map_map]
      exact List.map_congr_left fun v _ => kv_cat ad v
    have e2 : nativeFrameWords "java/lang/System" "arraycopy" 5 = 7 := by decide +kernel
    rw [e1, e2]
    show _ ≤ 90 + 28 * d
    omega
  · rw [ci, cj, cn] at hP1
    have e9 : (kW ad cI cJ o M).set b (ad b, .inl (cI, nb, .inl (va_cpy (M a) (M b) i j n))) = kW ad cI cJ o (va_up M b (va_cpy (M a) (M b) i j n)) := kW_set (x := .inl (cI, nb, .inl (va_cpy (M a) (M b) i j n))) (kar_set hb M _ cI cJ o)
    rw [e9] at hP1
    exact k p l e R s m args below meth c D ad cI cJ o C H1 locs1 ls hP1 hS1 hll
theorem kj_ends {below : List Frame} {D : va_G} {ad : Nat → Nat} {cI cJ : ClassId} {o : Int64} {s : State} {args : Array Value} {v : Option Value} (hp : P (.inl (v, M))) {t : State}
    (h : MQ below (fun _ s' oc t => oc = .returned (v.map (kv ad)) ∧ va_P D vwCl (kW ad cI cJ o M) t.heap ∧ va_F (kA ad s'.heap.size) s' t) args s 0 0 (kA ad s.heap.size) t) : kMQ below D ad cI cJ o P s t := by
  obtain ⟨oc, h1, h2, ⟨h3, h4, h5⟩, L, ⟨-, h6, h7⟩, h8⟩ := h
  exact ⟨oc, h1, h2, Or.inl ⟨v, M, h3, hp, h4, h5, h6, L, h7, h8⟩⟩
theorem kj_iret {x : Int32} {ty : FieldType} (hd : kDec mid pc .ireturn 1) (hr : kRt mid = some ty) (hn : narrow ty (.int x) = .int x) (hp : P (.inl (some (.int x), M))) : kJ d mid P pc lv [.int x] M := by
  intro p l e R s m args below meth c D ad cI cJ o C H locs ls hP hS hll
  have hr' : meth.sig.returnType = some ty := by rw [C.2.2.2.2.2.2.2.2.2.2.1]; exact hr
  have hlk : meth.locks = false := C.2.2.2.2.2.2.2.1
  refine k_imp (fun t h => kj_ends (args := args) (v := some (.int x)) hp h) ?_
  exact W.zret C.1 C.2.1 hr' hn (fun t ht hW => ⟨rfl, by rw [ht]; exact hP, hS.F ht⟩) hS.2.2 hd hlk
theorem kj_vret (hd : kDec mid pc .return_ 1) (hr : kRt mid = none) (hp : P (.inl (none, M))) : kJ d mid P pc lv [] M := by
  intro p l e R s m args below meth c D ad cI cJ o C H locs ls hP hS hll
  have hr' : meth.sig.returnType = none := by rw [C.2.2.2.2.2.2.2.2.2.2.1]; exact hr
  have hlk : meth.locks = false := C.2.2.2.2.2.2.2.1
  refine k_imp (fun t h => kj_ends (args := args) (v := none) hp h) ?_
  exact W.vret C.1 C.2.1 hr' (fun t ht hW => ⟨rfl, by rw [ht]; exact hP, hS.F ht⟩) hS.2.2 hd hlk
theorem kj_aret {a : Nat} {nm : String} (hd : kDec mid pc .areturn 1) (hr : kRt mid = some (.object nm)) (hp : P (.inl (some (.ref a), M))) : kJ d mid P pc lv [.ref a] M := by
  intro p l e R s m args below meth c D ad cI cJ o C H locs ls hP hS hll
  have hr' : meth.sig.returnType = some (.object nm) := by rw [C.2.2.2.2.2.2.2.2.2.2.1]; exact hr
  have hlk : meth.locks = false := C.2.2.2.2.2.2.2.1
  refine k_imp (fun t h => kj_ends (args := args) (v := some (.ref a)) hp h) ?_
  exact W.aret C.1 C.2.1 hr' (Or.inl ⟨_, rfl⟩) (Or.inr ⟨_, rfl⟩) (fun t ht hW => ⟨rfl, by rw [ht]; exact hP, hS.F ht⟩) hS.2.2 hd hlk
theorem kj_throw {r : Nat × Nat × Nat × Nat × Nat × String × String} (hr : r ∈ kTh) (hm : r.1 = mid) (hpc : r.2.1 = pc) (hw : (st.map fun v => v.category).sum ≤ 7) (hp : P (.inr (r.2.2.2.2.2.1, M))) : kJ d mid P pc lv st M := by
  intro p l e R s m args below meth c D ad cI cJ o C H locs ls hP hS hll
  obtain ⟨w1, w2, w3, w4, w5⟩ := kTh_ok r hr
  obtain ⟨d0, d3, d4, d6, d9, hO⟩ := kTh_dec r hr
  rw [hm, hpc] at d0 d3 d4 d6 d9
  rw [hm] at hO
  obtain ⟨hx, hb, hml, hown, hts, hK, hz, hlk, htab, hst, hrt, hR, hi⟩ := C
  obtain ⟨z1, z2, z3, z4⟩ := hz
  obtain ⟨sa, hsa⟩ := z3 r hr
  have hown1 : s.vm.findClass RX1 = some m.cls := by rw [hO] at hown; exact hown
  have e1 : ((st.map (kv ad)).map fun v => v.category) = st.map fun v => v.category := by
    rw [List.map_map]
    exact List.map_congr_left fun v _ => kv_cat ad v
  refine k_imp (Q := vx_MQ below (fun _ _ _ _ => False) (fun E s' t => E = r.2.2.2.2.2.1 ∧ va_P D vwCl (kW ad cI cJ o M) t.heap ∧ va_F (kA ad s'.heap.size) s' t) args s 1 6 (kA ad s.heap.size)) (fun t h => ?_) ?_
  · obtain ⟨oc, h1, h2, h3⟩ := h
    rcases h3 with ⟨h3, -⟩ | ⟨q, rfl, E, ce, L, ⟨rfl, g1, g2⟩, g3, g4, g5, g6, g7, g8⟩
    · exact h3.elim
    · exact ⟨_, h1, h2, Or.inr ⟨q, _, M, ce, rfl, hp, g3, g4, g5, g1, g2, g6, L, g7, g8⟩⟩
  · refine vx_throwS (A := kA ad s.heap.size) (names := kThN) (is := r.2.2.2.1) (ic := r.2.2.2.2.1) (ik := r.2.2.1) (text := r.2.2.2.2.2.2) (sa := sa) hx hb hst hown1 w5 kThN_ok (hts _ w1) (hts _ w2) hsa (fun w hw9 => (w3 w hw9).elim (hts w) (fun h9 => z4 w h9 args)) w4 z1 z2 hS (by rw [hml]; exact hll.1) d0 d3 d4 d6 d9 (fun x hx9 => (htab x hx9).elim) (by rw [hR]; show 2 + 3 < 6 + d; omega) ?_ (by rw [hR]; exact Nat.le_refl _) (by rw [hR]; exact Nat.le_refl _) hlk (fun t _ h2 h3 => ?_) hS.2.2 (Nat.le_refl _) (Nat.le_refl _)
    · rw [hR, e1]
      show _ + (13 * (2 + 1) + 43) ≤ 90 + 28 * d
      omega
    · refine ⟨rfl, hP.kept (fun k q hk => h3 q.1 ((hP k q hk).lt)), Nat.le_trans hS.1 h2, fun q hq hA => ?_⟩
      rw [h3 q (Nat.lt_of_lt_of_le hq hS.1)]
      exact hS.2.1 q hq hA
end KM
