/-! constructors: MirrorGroupModel -/
def wM : List Cond := Cond.code yX2_init cX2_init 2 none :: kG
theorem wM_in : GoodIn kG wM := fun w hw => (List.mem_cons.mp hw).elim (fun e => by rw [e]; exact ⟨kIn2_ok.2.2.2.2.2.2.2.2.2.2.2.1, kG_good kIn2_ok.2.2.2.2.2.2.2.2.2.2.2.1⟩) (fun h => ⟨h, kG_good h⟩)
theorem wG_in : GoodIn kG wG := fun w hw => (List.mem_cons.mp hw).elim (fun e => by rw [e]; exact ⟨kIn2_ok.2.2.2.2.2.2.2.2.2.2.1, kG_good kIn2_ok.2.2.2.2.2.2.2.2.2.2.1⟩) (fun h => ⟨h, kG_good h⟩)
def ho0 (i : Nat) : Nat → Int32 := fun k => if 20 ≤ k ∧ k < 20 + i then -1 else 0
theorem ho0_0 : ho0 0 = fun _ => 0 := by
  funext k
  unfold ho0
  rw [if_neg (by omega)]
theorem ho0_go (i : Nat) : upd (ho0 i) (20 + i) (-1) = ho0 (i + 1) := by
  funext k
  unfold ho0 upd
  by_cases h : k = 20 + i
  · rw [if_pos h, if_pos (by omega)]
  · rw [if_neg h]
    by_cases h2 : 20 ≤ k ∧ k < 20 + i
    · show (if 20 ≤ k ∧ k < 20 + i then (-1 : Int32) else 0) = _
      rw [if_pos h2, if_pos (by omega)]
    · show (if 20 ≤ k ∧ k < 20 + i then (-1 : Int32) else 0) = _
      rw [if_neg h2, if_neg (by omega)]
abbrev mW0 (a : Nat) : va_W := [(a, .inr (2, [.int 0, .null, .null, .null, .null, .int 0, .int 0, .int 0, .int 0, .null]))]
abbrev mW1 (cI : ClassId) (a b q1 q2 q3 f : Nat) (g : Nat → Int32) (g2 : Nat → Int32) (g3 : Nat → Int32) : va_W := [(a, .inr (2, [.int 0, .ref b, .ref q1, .ref q2, .ref q3, .int 0, .int (-1), .int 0, .int 0, .ref f])), (b, .inl (cI, 3072, .inl (fun _ => 0))), (q1, .inl (cI, 24, .inl g)), (q2, .inl (cI, 24, .inl g2)), (q3, .inl (cI, 24, .inl g3)), (f, .inl (cI, 4, .inl (fun _ => 0)))]
set_option maxHeartbeats 8000000 in
set_option maxRecDepth 100000 in
theorem c_Mdl_loop {p : Program} {l : Launch} {e : Env} {R9 : Room} {s : State} {m : MethodId} {args : Array Value} {below : List Frame} {meth : Method} {c : Code} {D : va_G} {cI cJ : ClassId} {A : Nat → Prop} {h0 b q1 q2 q3 f : Nat} {cells slots : Nat} {Q : State → Prop} (hx : p.tables.exec = Jvm.exec) (hb : c.code = cX2_init) (hts : ∀ w ∈ kG, w.before args s = true) (hown : s.vm.findClass RX2 = some m.cls) (hK : va_K D vwCl (kTy cI cJ) s)
    (hend : ∀ (H : Heap) (locs : List Loc) (ls : Array Slot), va_P D vwCl (mW1 cI h0 b q1 q2 q3 f (ho0 4) (ho0 4) (ho0 4)) H → va_D A (mW1 cI h0 b q1 q2 q3 f (ho0 4) (ho0 4) (ho0 4)) → va_S A s.heap H locs → W p l e R9 s m args below meth c H locs cells slots Q (F0 m 85 ls [])) :
    ∀ (n i : Nat) (x : Int32) (H : Heap) (locs : List Loc) (ls : Array Slot), i + n = 4 → x = nI (20 + i) → va_P D vwCl (mW1 cI h0 b q1 q2 q3 f (ho0 i) (ho0 i) (ho0 i)) H → va_D A (mW1 cI h0 b q1 q2 q3 f (ho0 i) (ho0 i) (ho0 i)) → va_S A s.heap H locs → lv_has ls 2 [(1, .int x), (0, .ref h0)] → W p l e R9 s m args below meth c H locs cells slots Q (F0 m 52 ls []) := by
  intro n
  induction n with
  | zero =>
    intro i x H locs ls hi hxx hP hD hS hl
    have hi : i = 4 := by omega
    subst hi; subst hxx
    refine lv_iload_n hx hb dX2_init_52 rfl (lv_at hl 0 rfl) ?_
    refine lv_bipush (v := nI 24) hx hb dX2_init_53 (by decide) ?_
    refine lv_icmp_ge (tgt := 85) hx hb dX2_init_55 (by decide) (fun _ => hend H locs ls hP hD hS) (fun z => absurd (by decide) z)
  | succ n ih =>
    intro i x H locs ls hi hxx hP hD hS hl
    subst hxx
    have hc : (nI (20 + i)).toNatClampNeg = 20 + i := nI_clamp (by omega)
    refine lv_iload_n hx hb dX2_init_52 rfl (lv_at hl 0 rfl) ?_
    refine lv_bipush (v := nI 24) hx hb dX2_init_53 (by decide) ?_
    refine lv_icmp_ge (tgt := 85) hx hb dX2_init_55 (by decide) (fun z => absurd z (nI_ge (by omega) (by decide))) (fun _ => ?_)
    refine lv_aload_n hx hb dX2_init_58 rfl (lv_at hl 1 rfl) ?_
    refine va_get (D := D) (ci := 2) (v := .ref q1) (C := RX2) (T := TX2) (N := 10) hx hb hts kWs0_ok.2.2 hown hK hP 0 rfl rfl 2 (by decide) (hts _ (kFl_ok (2, 13, 2, 2) (by decide +kernel)).1) (fun _ h9 => h9) rfl dX2_init_59 ?_
    refine lv_iload_n hx hb dX2_init_62 rfl (lv_at hl 0 rfl) ?_
    refine lv_iconst (v := -1) hx hb dX2_init_63 (by decide) ?_
    refine va_iast hx hb hK hP hD hS 2 0 rfl rfl (i := nI (20 + i)) (x := -1) (fun z => z.elim (nI_pos (by omega)) (fun z => by rw [hc] at z; omega)) dX2_init_64 (fun H locs hP hD hS => ?_)
    rw [hc] at hP hD
    have hP : va_P D vwCl (mW1 cI h0 b q1 q2 q3 f (upd (ho0 i) (20 + i) (-1)) (ho0 i) (ho0 i)) H := hP
    have hD : va_D A (mW1 cI h0 b q1 q2 q3 f (upd (ho0 i) (20 + i) (-1)) (ho0 i) (ho0 i)) := hD
    rw [ho0_go] at hP hD
    refine lv_aload_n hx hb dX2_init_65 rfl (lv_at hl 1 rfl) ?_
    refine va_get (D := D) (ci := 2) (v := .ref q2) (C := RX2) (T := TX2) (N := 10) hx hb hts kWs0_ok.2.2 hown hK hP 0 rfl rfl 3 (by decide) (hts _ (kFl_ok (2, 16, 2, 3) (by decide +kernel)).1) (fun _ h9 => h9) rfl dX2_init_66 ?_
    refine lv_iload_n hx hb dX2_init_69 rfl (lv_at hl 0 rfl) ?_
    refine lv_iconst (v := -1) hx hb dX2_init_70 (by decide) ?_
    refine va_iast hx hb hK hP hD hS 3 0 rfl rfl (i := nI (20 + i)) (x := -1) (fun z => z.elim (nI_pos (by omega)) (fun z => by rw [hc] at z; omega)) dX2_init_71 (fun H locs hP hD hS => ?_)
    rw [hc] at hP hD
    have hP : va_P D vwCl (mW1 cI h0 b q1 q2 q3 f (ho0 (i + 1)) (upd (ho0 i) (20 + i) (-1)) (ho0 i)) H := hP
    have hD : va_D A (mW1 cI h0 b q1 q2 q3 f (ho0 (i + 1)) (upd (ho0 i) (20 + i) (-1)) (ho0 i)) := hD
    rw [ho0_go] at hP hD
    refine lv_aload_n hx hb dX2_init_72 rfl (lv_at hl 1 rfl) ?_
    refine va_get (D := D) (ci := 2) (v := .ref q3) (C := RX2) (T := TX2) (N := 10) hx hb hts kWs0_ok.2.2 hown hK hP 0 rfl rfl 4 (by decide) (hts _ (kFl_ok (2, 19, 2, 4) (by decide +kernel)).1) (fun _ h9 => h9) rfl dX2_init_73 ?_
    refine lv_iload_n hx hb dX2_init_76 rfl (lv_at hl 0 rfl) ?_
    refine lv_iconst (v := -1) hx hb dX2_init_77 (by decide) ?_
    refine va_iast hx hb hK hP hD hS 4 0 rfl rfl (i := nI (20 + i)) (x := -1) (fun z => z.elim (nI_pos (by omega)) (fun z => by rw [hc] at z; omega)) dX2_init_78 (fun H locs hP hD hS => ?_)
    rw [hc] at hP hD
    have hP : va_P D vwCl (mW1 cI h0 b q1 q2 q3 f (ho0 (i + 1)) (ho0 (i + 1)) (upd (ho0 i) (20 + i) (-1))) H := hP
    have hD : va_D A (mW1 cI h0 b q1 q2 q3 f (ho0 (i + 1)) (ho0 (i + 1)) (upd (ho0 i) (20 + i) (-1))) := hD
    rw [ho0_go] at hP hD
    refine lv_iinc (v := nI (20 + (i + 1))) (lv' := [(1, .int (nI (20 + (i + 1)))), (0, .ref h0)]) hx hb dX2_init_79 hl (k := 0) rfl (nI_1 _) (by decide) rfl (fun ls hl => ?_)
    refine lv_goto (tgt := 52) hx hb dX2_init_82 (by decide) ?_
    exact ih (i + 1) _ H locs ls (by omega) rfl hP hD hS hl
