/-! constructors: Header -/
theorem dX0_init_0 : decode cX0_init 0 = .ok (.aload_n 0, 1) := by decide +kernel
theorem dX0_init_1 : decode cX0_init 1 = .ok (.invokespecial 3, 3) := by decide +kernel
theorem dX0_init_4 : decode cX0_init 4 = .ok (.aload_n 0, 1) := by decide +kernel
theorem dX0_init_5 : decode cX0_init 5 = .ok (.bipush 24, 2) := by decide +kernel
theorem dX0_init_7 : decode cX0_init 7 = .ok (.newarray .int, 2) := by decide +kernel
theorem dX0_init_9 : decode cX0_init 9 = .ok (.putfield 11, 3) := by decide +kernel
theorem dX0_init_12 : decode cX0_init 12 = .ok (.iconst 2, 1) := by decide +kernel
theorem dX0_init_13 : decode cX0_init 13 = .ok (.istore_n 1, 1) := by decide +kernel
theorem dX0_init_14 : decode cX0_init 14 = .ok (.iload_n 1, 1) := by decide +kernel
theorem dX0_init_15 : decode cX0_init 15 = .ok (.bipush 24, 2) := by decide +kernel
theorem dX0_init_17 : decode cX0_init 17 = .ok (.if_icmp .ge 16, 3) := by decide +kernel
theorem dX0_init_20 : decode cX0_init 20 = .ok (.aload_n 0, 1) := by decide +kernel
theorem dX0_init_21 : decode cX0_init 21 = .ok (.getfield 11, 3) := by decide +kernel
theorem dX0_init_24 : decode cX0_init 24 = .ok (.iload_n 1, 1) := by decide +kernel
theorem dX0_init_25 : decode cX0_init 25 = .ok (.iconst (-1), 1) := by decide +kernel
theorem dX0_init_26 : decode cX0_init 26 = .ok (.iastore, 1) := by decide +kernel
theorem dX0_init_27 : decode cX0_init 27 = .ok (.iinc 1 1, 3) := by decide +kernel
theorem dX0_init_30 : decode cX0_init 30 = .ok (.goto (-16), 3) := by decide +kernel
theorem dX0_init_33 : decode cX0_init 33 = .ok (.return_, 1) := by decide +kernel
theorem dX1_init_0 : decode cX1_init 0 = .ok (.aload_n 0, 1) := by decide +kernel
theorem dX1_init_1 : decode cX1_init 1 = .ok (.invokespecial 1, 3) := by decide +kernel
theorem dX1_init_4 : decode cX1_init 4 = .ok (.aload_n 0, 1) := by decide +kernel
theorem dX1_init_5 : decode cX1_init 5 = .ok (.sipush 3072, 3) := by decide +kernel
theorem dX1_init_8 : decode cX1_init 8 = .ok (.newarray .int, 2) := by decide +kernel
theorem dX1_init_10 : decode cX1_init 10 = .ok (.putfield 9, 3) := by decide +kernel
theorem dX1_init_13 : decode cX1_init 13 = .ok (.aload_n 0, 1) := by decide +kernel
theorem dX1_init_14 : decode cX1_init 14 = .ok (.new 13, 3) := by decide +kernel
theorem dX1_init_17 : decode cX1_init 17 = .ok (.dup, 1) := by decide +kernel
theorem dX1_init_18 : decode cX1_init 18 = .ok (.invokespecial 15, 3) := by decide +kernel
theorem dX1_init_21 : decode cX1_init 21 = .ok (.putfield 16, 3) := by decide +kernel
theorem dX1_init_24 : decode cX1_init 24 = .ok (.aload_n 0, 1) := by decide +kernel
theorem dX1_init_25 : decode cX1_init 25 = .ok (.new 13, 3) := by decide +kernel
theorem dX1_init_28 : decode cX1_init 28 = .ok (.dup, 1) := by decide +kernel
theorem dX1_init_29 : decode cX1_init 29 = .ok (.invokespecial 15, 3) := by decide +kernel
theorem dX1_init_32 : decode cX1_init 32 = .ok (.putfield 20, 3) := by decide +kernel
theorem dX1_init_35 : decode cX1_init 35 = .ok (.aload_n 0, 1) := by decide +kernel
theorem dX1_init_36 : decode cX1_init 36 = .ok (.new 13, 3) := by decide +kernel
theorem dX1_init_39 : decode cX1_init 39 = .ok (.dup, 1) := by decide +kernel
theorem dX1_init_40 : decode cX1_init 40 = .ok (.invokespecial 15, 3) := by decide +kernel
theorem dX1_init_43 : decode cX1_init 43 = .ok (.putfield 23, 3) := by decide +kernel
theorem dX1_init_46 : decode cX1_init 46 = .ok (.aload_n 0, 1) := by decide +kernel
theorem dX1_init_47 : decode cX1_init 47 = .ok (.iconst 4, 1) := by decide +kernel
theorem dX1_init_48 : decode cX1_init 48 = .ok (.newarray .int, 2) := by decide +kernel
theorem dX1_init_50 : decode cX1_init 50 = .ok (.putfield 26, 3) := by decide +kernel
theorem dX1_init_53 : decode cX1_init 53 = .ok (.aload_n 0, 1) := by decide +kernel
theorem dX1_init_54 : decode cX1_init 54 = .ok (.iconst 1, 1) := by decide +kernel
theorem dX1_init_55 : decode cX1_init 55 = .ok (.putfield 29, 3) := by decide +kernel
theorem dX1_init_58 : decode cX1_init 58 = .ok (.aload_n 0, 1) := by decide +kernel
theorem dX1_init_59 : decode cX1_init 59 = .ok (.iconst (-1), 1) := by decide +kernel
theorem dX1_init_60 : decode cX1_init 60 = .ok (.putfield 33, 3) := by decide +kernel
theorem dX1_init_63 : decode cX1_init 63 = .ok (.aload_n 0, 1) := by decide +kernel
theorem dX1_init_64 : decode cX1_init 64 = .ok (.iconst 0, 1) := by decide +kernel
theorem dX1_init_65 : decode cX1_init 65 = .ok (.putfield 37, 3) := by decide +kernel
theorem dX1_init_68 : decode cX1_init 68 = .ok (.aload_n 0, 1) := by decide +kernel
theorem dX1_init_69 : decode cX1_init 69 = .ok (.iconst 0, 1) := by decide +kernel
theorem dX1_init_70 : decode cX1_init 70 = .ok (.putfield 40, 3) := by decide +kernel
theorem dX1_init_73 : decode cX1_init 73 = .ok (.return_, 1) := by decide +kernel
theorem dX2_init_0 : decode cX2_init 0 = .ok (.aload_n 0, 1) := by decide +kernel
theorem dX2_init_1 : decode cX2_init 1 = .ok (.invokespecial 1, 3) := by decide +kernel
theorem dX2_init_4 : decode cX2_init 4 = .ok (.aload_n 0, 1) := by decide +kernel
theorem dX2_init_5 : decode cX2_init 5 = .ok (.sipush 3072, 3) := by decide +kernel
theorem dX2_init_8 : decode cX2_init 8 = .ok (.newarray .int, 2) := by decide +kernel
theorem dX2_init_10 : decode cX2_init 10 = .ok (.putfield 7, 3) := by decide +kernel
theorem dX2_init_13 : decode cX2_init 13 = .ok (.aload_n 0, 1) := by decide +kernel
theorem dX2_init_14 : decode cX2_init 14 = .ok (.bipush 24, 2) := by decide +kernel
theorem dX2_init_16 : decode cX2_init 16 = .ok (.newarray .int, 2) := by decide +kernel
theorem dX2_init_18 : decode cX2_init 18 = .ok (.putfield 13, 3) := by decide +kernel
theorem dX2_init_21 : decode cX2_init 21 = .ok (.aload_n 0, 1) := by decide +kernel
theorem dX2_init_22 : decode cX2_init 22 = .ok (.bipush 24, 2) := by decide +kernel
theorem dX2_init_24 : decode cX2_init 24 = .ok (.newarray .int, 2) := by decide +kernel
theorem dX2_init_26 : decode cX2_init 26 = .ok (.putfield 16, 3) := by decide +kernel
theorem dX2_init_29 : decode cX2_init 29 = .ok (.aload_n 0, 1) := by decide +kernel
theorem dX2_init_30 : decode cX2_init 30 = .ok (.bipush 24, 2) := by decide +kernel
theorem dX2_init_32 : decode cX2_init 32 = .ok (.newarray .int, 2) := by decide +kernel
theorem dX2_init_34 : decode cX2_init 34 = .ok (.putfield 19, 3) := by decide +kernel
theorem dX2_init_37 : decode cX2_init 37 = .ok (.aload_n 0, 1) := by decide +kernel
theorem dX2_init_38 : decode cX2_init 38 = .ok (.iconst (-1), 1) := by decide +kernel
theorem dX2_init_39 : decode cX2_init 39 = .ok (.putfield 22, 3) := by decide +kernel
theorem dX2_init_42 : decode cX2_init 42 = .ok (.aload_n 0, 1) := by decide +kernel
theorem dX2_init_43 : decode cX2_init 43 = .ok (.iconst 4, 1) := by decide +kernel
theorem dX2_init_44 : decode cX2_init 44 = .ok (.newarray .int, 2) := by decide +kernel
theorem dX2_init_46 : decode cX2_init 46 = .ok (.putfield 26, 3) := by decide +kernel
theorem dX2_init_49 : decode cX2_init 49 = .ok (.bipush 20, 2) := by decide +kernel
theorem dX2_init_51 : decode cX2_init 51 = .ok (.istore_n 1, 1) := by decide +kernel
theorem dX2_init_52 : decode cX2_init 52 = .ok (.iload_n 1, 1) := by decide +kernel
theorem dX2_init_53 : decode cX2_init 53 = .ok (.bipush 24, 2) := by decide +kernel
theorem dX2_init_55 : decode cX2_init 55 = .ok (.if_icmp .ge 30, 3) := by decide +kernel
theorem dX2_init_58 : decode cX2_init 58 = .ok (.aload_n 0, 1) := by decide +kernel
theorem dX2_init_59 : decode cX2_init 59 = .ok (.getfield 13, 3) := by decide +kernel
theorem dX2_init_62 : decode cX2_init 62 = .ok (.iload_n 1, 1) := by decide +kernel
theorem dX2_init_63 : decode cX2_init 63 = .ok (.iconst (-1), 1) := by decide +kernel
theorem dX2_init_64 : decode cX2_init 64 = .ok (.iastore, 1) := by decide +kernel
theorem dX2_init_65 : decode cX2_init 65 = .ok (.aload_n 0, 1) := by decide +kernel
theorem dX2_init_66 : decode cX2_init 66 = .ok (.getfield 16, 3) := by decide +kernel
theorem dX2_init_69 : decode cX2_init 69 = .ok (.iload_n 1, 1) := by decide +kernel
theorem dX2_init_70 : decode cX2_init 70 = .ok (.iconst (-1), 1) := by decide +kernel
theorem dX2_init_71 : decode cX2_init 71 = .ok (.iastore, 1) := by decide +kernel
theorem dX2_init_72 : decode cX2_init 72 = .ok (.aload_n 0, 1) := by decide +kernel
theorem dX2_init_73 : decode cX2_init 73 = .ok (.getfield 19, 3) := by decide +kernel
theorem dX2_init_76 : decode cX2_init 76 = .ok (.iload_n 1, 1) := by decide +kernel
theorem dX2_init_77 : decode cX2_init 77 = .ok (.iconst (-1), 1) := by decide +kernel
theorem dX2_init_78 : decode cX2_init 78 = .ok (.iastore, 1) := by decide +kernel
theorem dX2_init_79 : decode cX2_init 79 = .ok (.iinc 1 1, 3) := by decide +kernel
theorem dX2_init_82 : decode cX2_init 82 = .ok (.goto (-30), 3) := by decide +kernel
theorem dX2_init_85 : decode cX2_init 85 = .ok (.return_, 1) := by decide +kernel
theorem dL_law_0 : decode cL_law 0 = .ok (.new 8, 3) := by decide +kernel
theorem dL_law_3 : decode cL_law 3 = .ok (.dup, 1) := by decide +kernel
theorem dL_law_4 : decode cL_law 4 = .ok (.invokespecial 64, 3) := by decide +kernel
theorem dL_law_7 : decode cL_law 7 = .ok (.astore_n 1, 1) := by decide +kernel
theorem dL_law_8 : decode cL_law 8 = .ok (.new 65, 3) := by decide +kernel
theorem dL_law_11 : decode cL_law 11 = .ok (.dup, 1) := by decide +kernel
theorem dL_law_12 : decode cL_law 12 = .ok (.invokespecial 67, 3) := by decide +kernel
theorem dL_law_15 : decode cL_law 15 = .ok (.astore_n 2, 1) := by decide +kernel
theorem dL_law_16 : decode cL_law 16 = .ok (.iconst 1, 1) := by decide +kernel
theorem dL_law_17 : decode cL_law 17 = .ok (.newarray .long, 2) := by decide +kernel
theorem dL_law_19 : decode cL_law 19 = .ok (.astore_n 3, 1) := by decide +kernel
theorem dL_law_20 : decode cL_law 20 = .ok (.iconst 0, 1) := by decide +kernel
theorem dL_law_21 : decode cL_law 21 = .ok (.istore 4, 2) := by decide +kernel
def hd0 (i : Nat) : Nat → Int32 := fun k => if 2 ≤ k ∧ k < 2 + i then -1 else 0
theorem hd0_0 : hd0 0 = fun _ => 0 := by
  funext k
  unfold hd0
  rw [if_neg (by omega)]
theorem hd0_go (i : Nat) : upd (hd0 i) (2 + i) (-1) = hd0 (i + 1) := by
  funext k
  unfold hd0 upd
  by_cases h : k = 2 + i
  · rw [if_pos h, if_pos (by omega)]
  · rw [if_neg h]
    by_cases h2 : 2 ≤ k ∧ k < 2 + i
    · show (if 2 ≤ k ∧ k < 2 + i then (-1 : Int32) else 0) = _
      rw [if_pos h2, if_pos (by omega)]
    · show (if 2 ≤ k ∧ k < 2 + i then (-1 : Int32) else 0) = _
      rw [if_neg h2, if_neg (by omega)]
set_option maxRecDepth 100000 in
theorem kIn_ok : Cond.methodLink RX0 3 Lib.objectInit ∈ kG ∧ Cond.methodLink RX1 1 Lib.objectInit ∈ kG ∧ Cond.methodLink RX2 1 Lib.objectInit ∈ kG ∧ Cond.instanceMethod Lib.objectInit ∈ kG ∧ Cond.code Lib.objectInit ⟨#[0xb1]⟩ 1 none ∈ kG ∧ Cond.arrayClass .int ∈ kG ∧ Cond.arrayClass .long ∈ kG := by decide +kernel
theorem va_one {D : va_G} {tys : List (ClassId × FieldType)} {s : State} {cA cI : ClassId} (h : va_K D vwCl tys s) {i j : Nat} (h1 : tys[i]? = some (cA, .int)) (h2 : tys[j]? = some (cI, .int)) : cA = cI := by
  have e1 : s.vm.findClass ("[" ++ FieldType.int.toString) = some cA := (h.2 i _ h1).2
  have e2 : s.vm.findClass ("[" ++ FieldType.int.toString) = some cI := (h.2 j _ h2).2
  exact Option.some.inj (e1.symm.trans e2)
def wH : List Cond := Cond.code yX0_init cX0_init 2 none :: kG
abbrev hW0 (h0 : Nat) : va_W := [(h0, .inr (0, [.null]))]
abbrev hW1 (cI : ClassId) (h0 q : Nat) (f : Nat → Int32) : va_W := [(h0, .inr (0, [.ref q])), (q, .inl (cI, 24, .inl f))]
set_option maxHeartbeats 4000000 in
set_option maxRecDepth 100000 in
theorem c_Hdr_loop {p : Program} {l : Launch} {e : Env} {R9 : Room} {s : State} {m : MethodId} {args : Array Value} {below : List Frame} {meth : Method} {c : Code} {D : va_G} {cI cJ : ClassId} {A : Nat → Prop} {h0 q : Nat} {cells slots : Nat} {Q : State → Prop} (hx : p.tables.exec = Jvm.exec) (hb : c.code = cX0_init) (hts : ∀ w ∈ kG, w.before args s = true) (hown : s.vm.findClass RX0 = some m.cls) (hK : va_K D vwCl (kTy cI cJ) s)
    (hend : ∀ (H : Heap) (locs : List Loc) (ls : Array Slot), va_P D vwCl (hW1 cI h0 q (hd0 22)) H → va_D A (hW1 cI h0 q (hd0 22)) → va_S A s.heap H locs → W p l e R9 s m args below meth c H locs cells slots Q (F0 m 33 ls [])) :
    ∀ (n i : Nat) (x : Int32) (H : Heap) (locs : List Loc) (ls : Array Slot), i + n = 22 → x = nI (2 + i) → va_P D vwCl (hW1 cI h0 q (hd0 i)) H → va_D A (hW1 cI h0 q (hd0 i)) → va_S A s.heap H locs → lv_has ls 2 [(1, .int x), (0, .ref h0)] → W p l e R9 s m args below meth c H locs cells slots Q (F0 m 14 ls []) := by
  intro n
  induction n with
  | zero =>
    intro i x H locs ls hi hxx hP hD hS hl
    have hi : i = 22 := by omega
    subst hi; subst hxx
    refine lv_iload_n hx hb dX0_init_14 rfl (lv_at hl 0 rfl) ?_
    refine lv_bipush (v := nI 24) hx hb dX0_init_15 (by decide) ?_
    refine lv_icmp_ge (tgt := 33) hx hb dX0_init_17 (by decide) (fun _ => hend H locs ls hP hD hS) (fun z => absurd (by decide) z)
  | succ n ih =>
    intro i x H locs ls hi hxx hP hD hS hl
    subst hxx
    refine lv_iload_n hx hb dX0_init_14 rfl (lv_at hl 0 rfl) ?_
    refine lv_bipush (v := nI 24) hx hb dX0_init_15 (by decide) ?_
    refine lv_icmp_ge (tgt := 33) hx hb dX0_init_17 (by decide) (fun z => absurd z (nI_ge (by omega) (by decide))) (fun _ => ?_)
    refine lv_aload_n hx hb dX0_init_20 rfl (lv_at hl 1 rfl) ?_
    refine va_get (D := D) (ci := 0) (v := .ref q) (C := RX0) (T := TX0) (N := 1) hx hb hts kWs0_ok.1 hown hK hP 0 rfl rfl 0 (by decide) (hts _ (kFl_ok (0, 11, 0, 0) (by decide +kernel)).1) (fun _ h9 => h9) rfl dX0_init_21 ?_
    refine lv_iload_n hx hb dX0_init_24 rfl (lv_at hl 0 rfl) ?_
    refine lv_iconst (v := -1) hx hb dX0_init_25 (by decide) ?_
    have hc : (nI (2 + i)).toNatClampNeg = 2 + i := nI_clamp (by omega)
    refine va_iast hx hb hK hP hD hS 1 0 rfl rfl (i := nI (2 + i)) (x := -1) (fun z => z.elim (nI_pos (by omega)) (fun z => by rw [hc] at z; omega)) dX0_init_26 (fun H locs hP hD hS => ?_)
    rw [hc] at hP hD
    have hP : va_P D vwCl (hW1 cI h0 q (upd (hd0 i) (2 + i) (-1))) H := hP
    have hD : va_D A (hW1 cI h0 q (upd (hd0 i) (2 + i) (-1))) := hD
    rw [hd0_go] at hP hD
    refine lv_iinc (v := nI (2 + (i + 1))) (lv' := [(1, .int (nI (2 + (i + 1)))), (0, .ref h0)]) hx hb dX0_init_27 hl (k := 0) rfl (nI_1 _) (by decide) rfl (fun ls hl => ?_)
    refine lv_goto (tgt := 14) hx hb dX0_init_30 (by decide) ?_
    exact ih (i + 1) _ H locs ls (by omega) rfl hP hD hS hl
