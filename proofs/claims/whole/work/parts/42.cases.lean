/-! the cases of the law's switch (by wip/tools/gencase.py) -/
theorem xC_imp {d i : Nat} {av : List Value} {M : kMem} {o : Int64} {P P' : Int32 → kMem → Int64 → Prop} (h : ∀ k M o, P k M o → P' k M o) (k : xC d i av M o P) : xC d i av M o P' := by
  intro l D ad cI cJ hst hi p e ha hc hk s m args below hf happ hP ht
  obtain ⟨k9, oc, h1, h2, h3, v, M1, o1, q1, q2, q3⟩ := k l D ad cI cJ hst hi p e ha hc hk s m args below hf happ hP ht
  exact ⟨k9, oc, h1, h2, h3, v, M1, o1, q1, h _ _ _ q2, q3⟩
abbrev lLv (i : Nat) : List (Nat × Value) := [(0, .ref 16), (1, .ref 0), (2, .ref 9), (3, .ref 15), (4, .int (nI i))]
def lG (i n1 : Nat) : yKt := fun pc lv st M _ n => pc = 1107 ∧ st = [] ∧ R M M ∧ n ≤ n1 ∧ lv.filter (fun q => decide (q.1 < 5)) = lLv i
abbrev lHn : Nat → String → Option Nat := fun _ _ => none
abbrev lF : Int32 → kMem → Int64 → Nat → Prop := fun v _ _ n => v = nI 1 ∧ n ≤ 600
theorem cmp_self (x : Int64) : lg_cmp x x = 0 := by
  unfold lg_cmp
  simp
section LC
variable {L i n : Nat} {xs : Nat → Int32} {M : kMem} {o : Int64}
theorem l_case0 (hL : i + 8 ≤ L) (h4 : L ≤ 4096) (hn : n < 590) (r : R M M) : ywL 7 7 600 L true xs lHn lF (lG i (n + 1)) yLC0 [1107] 90 136 (lLv i) [] M o n := by
  refine ⟨by omega, ?_⟩
  refine xC_imp ?_ (x_makeVolume (op_makeVolume (d := 3) (dm := 4) r))
  intro k M1 o1 h1
  refine ⟨by omega, ?_⟩
  refine kC_imp ?_ h1
  rintro r' ⟨y, M2, rfl, hk, ho, r2⟩
  refine ⟨by omega, ?_⟩
  refine m_thrown ?_
  refine ⟨fun _ => ⟨fun _ => ⟨rfl, rfl, r2, Nat.le_refl _, rfl⟩, fun e => ⟨rfl, fun _ => ⟨rfl, rfl, r2, Nat.le_refl _, rfl⟩, fun e2 => absurd ?_ e2⟩⟩, fun e => absurd hk e⟩
  have e3 : o1 = y.toInt64 := ho e
  show lg_cmp o1 y.toInt64 = 0
  rw [e3]
  exact cmp_self _
theorem l_case1 (hL : i + 8 ≤ L) (h4 : L ≤ 4096) (hn : n < 590) (r : R M M) : ywL 7 7 600 L true xs lHn lF (lG i (n + 1)) yLC1 [1107] 90 180 (lLv i) [] M o n := by
  refine ⟨rfl, i + 1, nI_add i 1, by omega, by omega, rfl, i + 2, nI_add i 2, by omega, by omega, rfl, i + 3, nI_add i 3, by omega, by omega, rfl, i + 4, nI_add i 4, by omega, by omega, rfl, i + 5, nI_add i 5, by omega, by omega, by omega, ?_⟩
  refine xC_imp ?_ (x_write (op_write (d := 1) (dm := 3) r))
  intro k M1 o1 h1
  refine ⟨rfl, i + 1, nI_add i 1, by omega, by omega, rfl, i + 2, nI_add i 2, by omega, by omega, rfl, i + 3, nI_add i 3, by omega, by omega, rfl, i + 4, nI_add i 4, by omega, by omega, rfl, i + 5, nI_add i 5, by omega, by omega, by omega, ?_⟩
  refine kC_imp ?_ h1
  rintro r' ⟨M2, rfl, hk, r2⟩
  refine ⟨by omega, ?_⟩
  refine m_thrown ?_
  exact ⟨fun _ => ⟨rfl, rfl, r2, Nat.le_refl _, rfl⟩, fun e => absurd hk e⟩
theorem l_case2 (hL : i + 8 ≤ L) (h4 : L ≤ 4096) (hn : n < 590) (r : R M M) : ywL 7 7 600 L true xs lHn lF (lG i (n + 1)) yLC2 [1107] 90 264 (lLv i) [] M o n := by
  refine ⟨rfl, i + 1, nI_add i 1, by omega, by omega, rfl, i + 2, nI_add i 2, by omega, by omega, rfl, i + 3, nI_add i 3, by omega, by omega, rfl, i + 4, nI_add i 4, by omega, by omega, rfl, i + 5, nI_add i 5, by omega, by omega, rfl, i + 6, nI_add i 6, by omega, by omega, rfl, i + 7, nI_add i 7, by omega, by omega, by omega, ?_⟩
  refine xC_imp ?_ (x_fill (op_fill (d := 1) (dm := 3) r))
  intro k M1 o1 h1
  refine ⟨rfl, i + 1, nI_add i 1, by omega, by omega, rfl, i + 2, nI_add i 2, by omega, by omega, rfl, i + 3, nI_add i 3, by omega, by omega, rfl, i + 4, nI_add i 4, by omega, by omega, rfl, i + 5, nI_add i 5, by omega, by omega, rfl, i + 6, nI_add i 6, by omega, by omega, rfl, i + 7, nI_add i 7, by omega, by omega, by omega, ?_⟩
  refine kC_imp ?_ h1
  rintro r' ⟨M2, rfl, hk, r2⟩
  refine ⟨by omega, ?_⟩
  refine m_thrown ?_
  exact ⟨fun _ => ⟨rfl, rfl, r2, Nat.le_refl _, rfl⟩, fun e => absurd hk e⟩
theorem l_case3 (hL : i + 8 ≤ L) (h4 : L ≤ 4096) (hn : n < 590) (r : R M M) : ywL 7 7 600 L true xs lHn lF (lG i (n + 1)) yLC3 [1107] 90 376 (lLv i) [] M o n := by
  refine ⟨rfl, i + 1, nI_add i 1, by omega, by omega, rfl, i + 2, nI_add i 2, by omega, by omega, rfl, i + 3, nI_add i 3, by omega, by omega, rfl, i + 4, nI_add i 4, by omega, by omega, by omega, ?_⟩
  refine xC_imp ?_ (x_read (op_read (d := 1) (dm := 4) r))
  intro k M1 o1 h1
  refine ⟨rfl, i + 1, nI_add i 1, by omega, by omega, rfl, i + 2, nI_add i 2, by omega, by omega, rfl, i + 3, nI_add i 3, by omega, by omega, rfl, i + 4, nI_add i 4, by omega, by omega, by omega, ?_⟩
  refine kC_imp ?_ h1
  rintro r' ⟨y, M2, rfl, hk, ho, r2⟩
  refine ⟨by omega, ?_⟩
  refine m_thrown ?_
  refine ⟨fun _ => ⟨fun _ => ⟨rfl, rfl, r2, Nat.le_refl _, rfl⟩, fun e => ⟨rfl, fun _ => ⟨rfl, rfl, r2, Nat.le_refl _, rfl⟩, fun e2 => absurd ?_ e2⟩⟩, fun e => absurd hk e⟩
  have e3 : o1 = y.toInt64 := ho e
  show lg_cmp o1 y.toInt64 = 0
  rw [e3]
  exact cmp_self _
theorem l_case4 (hL : i + 8 ≤ L) (h4 : L ≤ 4096) (hn : n < 590) (r : R M M) : ywL 7 7 600 L true xs lHn lF (lG i (n + 1)) yLC4 [1107] 90 468 (lLv i) [] M o n := by
  refine ⟨by omega, ?_⟩
  refine xC_imp ?_ (x_split (op_split (d := 3) (dm := 4) r))
  intro k M1 o1 h1
  refine ⟨by omega, ?_⟩
  refine kC_imp ?_ h1
  rintro r' ⟨y, M2, rfl, hk, ho, r2⟩
  refine ⟨by omega, ?_⟩
  refine m_thrown ?_
  refine ⟨fun _ => ⟨fun _ => ⟨rfl, rfl, r2, Nat.le_refl _, rfl⟩, fun e => ⟨rfl, fun _ => ⟨rfl, rfl, r2, Nat.le_refl _, rfl⟩, fun e2 => absurd ?_ e2⟩⟩, fun e => absurd hk e⟩
  have e3 : o1 = y.toInt64 := ho e
  show lg_cmp o1 y.toInt64 = 0
  rw [e3]
  exact cmp_self _
theorem l_case5 (hL : i + 8 ≤ L) (h4 : L ≤ 4096) (hn : n < 590) (r : R M M) : ywL 7 7 600 L true xs lHn lF (lG i (n + 1)) yLC5 [1107] 90 512 (lLv i) [] M o n := by
  refine ⟨rfl, i + 1, nI_add i 1, by omega, by omega, rfl, i + 2, nI_add i 2, by omega, by omega, by omega, ?_⟩
  refine xC_imp ?_ (x_rejoin (op_rejoin (d := 3) (dm := 4) r))
  intro k M1 o1 h1
  refine ⟨rfl, i + 1, nI_add i 1, by omega, by omega, rfl, i + 2, nI_add i 2, by omega, by omega, by omega, ?_⟩
  refine kC_imp ?_ h1
  rintro r' ⟨M2, rfl, hk, r2⟩
  refine ⟨by omega, ?_⟩
  refine m_thrown ?_
  exact ⟨fun _ => ⟨rfl, rfl, r2, Nat.le_refl _, rfl⟩, fun e => absurd hk e⟩
theorem l_case6 (hL : i + 8 ≤ L) (h4 : L ≤ 4096) (hn : n < 590) (r : R M M) : ywL 7 7 600 L true xs lHn lF (lG i (n + 1)) yLC6 [1107] 90 560 (lLv i) [] M o n := by
  refine ⟨rfl, i + 1, nI_add i 1, by omega, by omega, by omega, ?_⟩
  refine xC_imp ?_ (x_step (op_step (d := 0) (dm := 2) r))
  intro k M1 o1 h1
  refine ⟨rfl, i + 1, nI_add i 1, by omega, by omega, by omega, ?_⟩
  refine kC_imp ?_ h1
  rintro r' ⟨y, M2, rfl, hk, ho, r2⟩
  refine ⟨by omega, ?_⟩
  refine m_thrown ?_
  refine ⟨fun _ => ⟨fun _ => ⟨rfl, rfl, r2, Nat.le_refl _, rfl⟩, fun e => ⟨rfl, fun _ => ⟨rfl, rfl, r2, Nat.le_refl _, rfl⟩, fun e2 => absurd ?_ e2⟩⟩, fun e => absurd hk e⟩
  have e3 : o1 = y.toInt64 := ho e
  show lg_cmp o1 y.toInt64 = 0
  rw [e3]
  exact cmp_self _
theorem l_case7 (hL : i + 8 ≤ L) (h4 : L ≤ 4096) (hn : n < 590) (r : R M M) : ywL 7 7 600 L true xs lHn lF (lG i (n + 1)) yLC7 [1107] 90 616 (lLv i) [] M o n := by
  refine ⟨rfl, i + 1, nI_add i 1, by omega, by omega, by omega, ?_⟩
  refine xC_imp ?_ (x_run (op_run (d := 0) (dm := 2) r))
  intro k M1 o1 h1
  refine ⟨rfl, i + 1, nI_add i 1, by omega, by omega, by omega, ?_⟩
  refine kC_imp ?_ h1
  rintro r' ⟨y, M2, rfl, hk, ho, r2⟩
  refine ⟨by omega, ?_⟩
  refine m_thrown ?_
  refine ⟨fun _ => ⟨fun _ => ⟨rfl, rfl, r2, Nat.le_refl _, rfl⟩, fun e => ⟨rfl, fun _ => ⟨rfl, rfl, r2, Nat.le_refl _, rfl⟩, fun e2 => absurd ?_ e2⟩⟩, fun e => absurd hk e⟩
  have e3 : o1 = y.toInt64 := ho e
  show lg_cmp o1 y.toInt64 = 0
  rw [e3]
  exact cmp_self _
theorem l_case8 (hL : i + 8 ≤ L) (h4 : L ≤ 4096) (hn : n < 590) (r : R M M) : ywL 7 7 600 L true xs lHn lF (lG i (n + 1)) yLC8 [1107] 90 672 (lLv i) [] M o n := by
  refine ⟨rfl, i + 1, nI_add i 1, by omega, by omega, by omega, ?_⟩
  refine kC_imp ?_ (op_state (d := 5) (dm := 6) r)
  intro q hq
  rcases q with ⟨v, M1⟩ | ⟨E, M1⟩
  · rcases v with _ | v
    · exact hq.elim
    · cases v with
      | int x =>
        refine ⟨rfl, i + 1, nI_add i 1, by omega, by omega, by omega, ?_⟩
        refine kC_imp ?_ hq
        rintro r' ⟨M2, rfl, r2⟩
        exact ⟨fun _ => ⟨rfl, rfl, r2, Nat.le_succ _, rfl⟩, fun e => absurd rfl e⟩
      | _ => exact hq.elim
  · exact hq.elim
theorem l_case9 (hL : i + 8 ≤ L) (h4 : L ≤ 4096) (hn : n < 590) (r : R M M) : ywL 7 7 600 L true xs lHn lF (lG i (n + 1)) yLC9 [1107] 90 697 (lLv i) [] M o n := by
  refine ⟨rfl, i + 1, nI_add i 1, by omega, by omega, rfl, i + 2, nI_add i 2, by omega, by omega, by omega, ?_⟩
  refine kC_imp ?_ (op_marked (d := 5) (dm := 6) r)
  intro q hq
  rcases q with ⟨v, M1⟩ | ⟨E, M1⟩
  · rcases v with _ | v
    · exact hq.elim
    · cases v with
      | int x =>
        refine ⟨rfl, i + 1, nI_add i 1, by omega, by omega, rfl, i + 2, nI_add i 2, by omega, by omega, by omega, ?_⟩
        refine kC_imp ?_ hq
        rintro r' ⟨M2, rfl, r2⟩
        exact ⟨fun _ => ⟨rfl, rfl, r2, Nat.le_succ _, rfl⟩, fun e => absurd rfl e⟩
      | _ => exact hq.elim
  · exact hq.elim
theorem l_case10 (hL : i + 8 ≤ L) (h4 : L ≤ 4096) (hn : n < 590) (r : R M M) : ywL 7 7 600 L true xs lHn lF (lG i (n + 1)) yLC10 [1107] 90 734 (lLv i) [] M o n := by
  refine ⟨rfl, i + 1, nI_add i 1, by omega, by omega, by omega, ?_⟩
  refine kC_imp ?_ (op_windowed (d := 6) (dm := 7) r)
  intro q hq
  rcases q with ⟨v, M1⟩ | ⟨E, M1⟩
  · rcases v with _ | v
    · exact hq.elim
    · cases v with
      | int x =>
        refine ⟨rfl, i + 1, nI_add i 1, by omega, by omega, by omega, ?_⟩
        refine kC_imp ?_ hq
        rintro r' ⟨M2, rfl, r2⟩
        exact ⟨fun _ => ⟨rfl, rfl, r2, Nat.le_succ _, rfl⟩, fun e => absurd rfl e⟩
      | _ => exact hq.elim
  · exact hq.elim
theorem l_case11 (hL : i + 8 ≤ L) (h4 : L ≤ 4096) (hn : n < 590) (r : R M M) : ywL 7 7 600 L true xs lHn lF (lG i (n + 1)) yLC11 [1107] 90 759 (lLv i) [] M o n := by
  refine ⟨by omega, ?_⟩
  refine kC_imp ?_ (op_volumes (d := 6) (dm := 7) r)
  intro q hq
  rcases q with ⟨v, M1⟩ | ⟨E, M1⟩
  · rcases v with _ | v
    · exact hq.elim
    · cases v with
      | int x =>
        refine ⟨by omega, ?_⟩
        refine kC_imp ?_ hq
        rintro r' ⟨M2, rfl, r2⟩
        exact ⟨fun _ => ⟨rfl, rfl, r2, Nat.le_succ _, rfl⟩, fun e => absurd rfl e⟩
      | _ => exact hq.elim
  · exact hq.elim
theorem l_case12 (hL : i + 8 ≤ L) (h4 : L ≤ 4096) (hn : n < 590) (r : R M M) : ywL 7 7 600 L true xs lHn lF (lG i (n + 1)) yLC12 [1107] 90 772 (lLv i) [] M o n := by
  refine ⟨rfl, i + 1, nI_add i 1, by omega, by omega, by omega, ?_⟩
  refine xC_imp ?_ (x_differing (op_differing (d := 4) (dm := 5) r))
  intro k M1 o1 h1
  refine ⟨rfl, i + 1, nI_add i 1, by omega, by omega, by omega, ?_⟩
  refine kC_imp ?_ h1
  rintro r' ⟨y, M2, rfl, hk, ho, r2⟩
  refine ⟨by omega, ?_⟩
  refine m_thrown ?_
  refine ⟨fun _ => ⟨fun _ => ⟨rfl, rfl, r2, Nat.le_refl _, rfl⟩, fun e => ⟨rfl, fun _ => ⟨rfl, rfl, r2, Nat.le_refl _, rfl⟩, fun e2 => absurd ?_ e2⟩⟩, fun e => absurd hk e⟩
  have e3 : o1 = y.toInt64 := ho e
  show lg_cmp o1 y.toInt64 = 0
  rw [e3]
  exact cmp_self _
theorem l_case13 (hL : i + 8 ≤ L) (h4 : L ≤ 4096) (hn : n < 590) (r : R M M) : ywL 7 7 600 L true xs lHn lF (lG i (n + 1)) yLC13 [1107] 90 828 (lLv i) [] M o n := by
  refine ⟨rfl, i + 1, nI_add i 1, by omega, by omega, rfl, i + 2, nI_add i 2, by omega, by omega, rfl, i + 3, nI_add i 3, by omega, by omega, rfl, i + 4, nI_add i 4, by omega, by omega, by omega, ?_⟩
  refine xC_imp ?_ (x_raw (op_raw (d := 4) (dm := 6) r))
  intro k M1 o1 h1
  refine ⟨rfl, i + 1, nI_add i 1, by omega, by omega, rfl, i + 2, nI_add i 2, by omega, by omega, rfl, i + 3, nI_add i 3, by omega, by omega, rfl, i + 4, nI_add i 4, by omega, by omega, by omega, ?_⟩
  refine kC_imp ?_ h1
  rintro r' ⟨y, M2, rfl, hk, ho, r2⟩
  refine ⟨by omega, ?_⟩
  refine m_thrown ?_
  refine ⟨fun _ => ⟨fun _ => ⟨rfl, rfl, r2, Nat.le_refl _, rfl⟩, fun e => ⟨rfl, fun _ => ⟨rfl, rfl, r2, Nat.le_refl _, rfl⟩, fun e2 => absurd ?_ e2⟩⟩, fun e => absurd hk e⟩
  have e3 : o1 = y.toInt64 := ho e
  show lg_cmp o1 y.toInt64 = 0
  rw [e3]
  exact cmp_self _
theorem l_case14 (hL : i + 8 ≤ L) (h4 : L ≤ 4096) (hn : n < 590) (r : R M M) : ywL 7 7 600 L true xs lHn lF (lG i (n + 1)) yLC14 [1107] 90 920 (lLv i) [] M o n := by
  refine ⟨rfl, i + 1, nI_add i 1, by omega, by omega, rfl, i + 2, nI_add i 2, by omega, by omega, by omega, ?_⟩
  refine xC_imp ?_ (x_head (op_head (d := 4) (dm := 7) r))
  intro k M1 o1 h1
  refine ⟨rfl, i + 1, nI_add i 1, by omega, by omega, rfl, i + 2, nI_add i 2, by omega, by omega, by omega, ?_⟩
  refine kC_imp ?_ h1
  rintro r' ⟨y, M2, rfl, hk, ho, r2⟩
  refine ⟨by omega, ?_⟩
  refine m_thrown ?_
  refine ⟨fun _ => ⟨fun _ => ⟨rfl, rfl, r2, Nat.le_refl _, rfl⟩, fun e => ⟨rfl, fun _ => ⟨rfl, rfl, r2, Nat.le_refl _, rfl⟩, fun e2 => absurd ?_ e2⟩⟩, fun e => absurd hk e⟩
  have e3 : o1 = y.toInt64 := ho e
  show lg_cmp o1 y.toInt64 = 0
  rw [e3]
  exact cmp_self _
theorem l_case15 (hL : i + 8 ≤ L) (h4 : L ≤ 4096) (hn : n < 590) (r : R M M) : ywL 7 7 600 L true xs lHn lF (lG i (n + 1)) yLC15 [1107] 90 988 (lLv i) [] M o n := by
  refine ⟨by omega, ?_⟩
  refine kC_imp ?_ (op_copied (d := 7) (dm := 7) r)
  intro q hq
  rcases q with ⟨v, M1⟩ | ⟨E, M1⟩
  · rcases v with _ | v
    · exact hq.elim
    · cases v with
      | int x =>
        refine ⟨by omega, ?_⟩
        refine kC_imp ?_ hq
        rintro r' ⟨M2, rfl, r2⟩
        exact ⟨fun _ => ⟨rfl, rfl, r2, Nat.le_succ _, rfl⟩, fun e => absurd rfl e⟩
      | _ => exact hq.elim
  · exact hq.elim
theorem l_case16 (hL : i + 8 ≤ L) (h4 : L ≤ 4096) (hn : n < 590) (r : R M M) : ywL 7 7 600 L true xs lHn lF (lG i (n + 1)) yLC16 [1107] 90 1001 (lLv i) [] M o n := by
  refine ⟨by omega, ?_⟩
  refine kC_imp ?_ (op_writes (d := 7) (dm := 7) r)
  intro q hq
  rcases q with ⟨v, M1⟩ | ⟨E, M1⟩
  · rcases v with _ | v
    · exact hq.elim
    · cases v with
      | int x =>
        refine ⟨by omega, ?_⟩
        refine kC_imp ?_ hq
        rintro r' ⟨M2, rfl, r2⟩
        exact ⟨fun _ => ⟨rfl, rfl, r2, Nat.le_succ _, rfl⟩, fun e => absurd rfl e⟩
      | _ => exact hq.elim
  · exact hq.elim
theorem l_case17 (hL : i + 8 ≤ L) (h4 : L ≤ 4096) (hn : n < 590) (r : R M M) : ywL 7 7 600 L true xs lHn lF (lG i (n + 1)) yLC17 [1107] 90 1014 (lLv i) [] M o n := by
  refine ⟨by omega, ?_⟩
  refine kC_imp ?_ (op_power (d := 7) (dm := 7) r)
  intro q hq
  rcases q with ⟨v, M1⟩ | ⟨E, M1⟩
  · rcases v with _ | v
    · exact hq.elim
    · cases v with
      | int x =>
        refine ⟨by omega, ?_⟩
        refine kC_imp ?_ hq
        rintro r' ⟨M2, rfl, r2⟩
        exact ⟨fun _ => ⟨rfl, rfl, r2, Nat.le_succ _, rfl⟩, fun e => absurd rfl e⟩
      | _ => exact hq.elim
  · exact hq.elim
theorem l_case18 (hL : i + 8 ≤ L) (h4 : L ≤ 4096) (hn : n < 590) (r : R M M) : ywL 7 7 600 L true xs lHn lF (lG i (n + 1)) yLC18 [1107] 90 1027 (lLv i) [] M o n := by
  refine ⟨rfl, i + 1, nI_add i 1, by omega, by omega, by omega, ?_⟩
  refine xC_imp ?_ (x_cutAfter (op_cutAfter (d := 6) (dm := 7) r))
  intro k M1 o1 h1
  refine ⟨rfl, i + 1, nI_add i 1, by omega, by omega, by omega, ?_⟩
  refine kC_imp ?_ h1
  rintro r' ⟨M2, rfl, hk, r2⟩
  refine ⟨by omega, ?_⟩
  refine m_thrown ?_
  exact ⟨fun _ => ⟨rfl, rfl, r2, Nat.le_refl _, rfl⟩, fun e => absurd hk e⟩
theorem l_case19 (hL : i + 8 ≤ L) (h4 : L ≤ 4096) (hn : n < 590) (r : R M M) : ywL 7 7 600 L true xs lHn lF (lG i (n + 1)) yLC19 [1107] 90 1063 (lLv i) [] M o n := by
  refine ⟨by omega, ?_⟩
  refine xC_imp ?_ (x_start (op_start (d := 0) (dm := 3) r))
  intro k M1 o1 h1
  refine ⟨by omega, ?_⟩
  refine kC_imp ?_ h1
  rintro r' ⟨y, M2, rfl, hk, ho, r2⟩
  refine ⟨by omega, ?_⟩
  refine m_thrown ?_
  refine ⟨fun _ => ⟨fun _ => ⟨rfl, rfl, r2, Nat.le_refl _, rfl⟩, fun e => ⟨rfl, fun _ => ⟨rfl, rfl, r2, Nat.le_refl _, rfl⟩, fun e2 => absurd ?_ e2⟩⟩, fun e => absurd hk e⟩
  have e3 : o1 = y.toInt64 := ho e
  show lg_cmp o1 y.toInt64 = 0
  rw [e3]
  exact cmp_self _
end LC
