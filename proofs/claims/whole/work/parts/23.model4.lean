/-! the reference's methods: split, rejoin, a step, run -/
def lo8 (x : Int32) : Prop := ∃ a, a < 256 ∧ x = nI a
def cntn (x : Int32) : Nat → Nat → Nat
  | 0, c => c
  | n + 1, c => if bt x (7 - n) = true then cntn x n (c + 1) else cntn x n c
def cnt (x : Int32) : Nat := cntn x 8 0
def lowzn (x : Int32) : Nat → Nat
  | 0 => 8
  | n + 1 => if bt x (7 - n) = true then 7 - n else lowzn x n
def marks (h : Nat → Int32) (v : Nat) : Int32 := h (8 + v) ||| h (14 + v)
theorem low_z (h : Nat → Int32) (v : Nat) : ∀ n, lown h v n = lowzn (marks h v) n := by
  intro n
  induction n with
  | zero => rfl
  | succ n ih =>
    unfold lown lowzn marks
    rw [opn_or, ih]
    rfl
theorem cnt_fact : ∀ a, a < 256 → (cnt (nI a) = 0 ↔ nI a = 0) ∧ cnt (nI a) ≤ 8 ∧ bcn (nI a) = nI (cnt (nI a)) ∧ (lowzn (nI a) 8 < 8 → bt (nI a) (lowzn (nI a) 8) = true) ∧ (¬ lowzn (nI a) 8 < 8 → nI a = 0) := by decide +kernel
theorem cnt_clr : ∀ a, a < 256 → ∀ r, r < 8 → bt (nI a) r = true → cnt (nI a &&& (bit1 r ^^^ -1)) + 1 = cnt (nI a) := by decide +kernel
theorem lo8_and {x : Int32} (hx : lo8 x) (r : Nat) (hr : r < 8) : lo8 (x &&& (bit1 r ^^^ -1)) := by
  obtain ⟨a, ha, rfl⟩ := hx
  have e : ∀ a, a < 256 → ∀ r, r < 8 → ∃ b, b < 256 ∧ nI a &&& (bit1 r ^^^ -1) = nI b := by
    have e0 : ∀ a, a < 256 → ∀ r, r < 8 → nI a &&& (bit1 r ^^^ -1) = nI (nI a &&& (bit1 r ^^^ -1)).toNatClampNeg ∧ (nI a &&& (bit1 r ^^^ -1)).toNatClampNeg < 256 := by decide +kernel
    exact fun a ha r hr => ⟨_, (e0 a ha r hr).2, (e0 a ha r hr).1⟩
  exact e a ha r hr
theorem lo8_set {x : Int32} (hx : lo8 x) (r : Nat) (hr : r < 8) : lo8 (x ||| bit1 r) := by
  obtain ⟨a, ha, rfl⟩ := hx
  have e0 : ∀ a, a < 256 → ∀ r, r < 8 → nI a ||| bit1 r = nI (nI a ||| bit1 r).toNatClampNeg ∧ (nI a ||| bit1 r).toNatClampNeg < 256 := by decide +kernel
  exact ⟨_, (e0 a ha r hr).2, (e0 a ha r hr).1⟩
theorem nI_or (a b : Nat) (ha : a < 256) (hb : b < 256) : nI a ||| nI b = nI (a ||| b) := by
  apply Int32.toBitVec_inj.mp
  rw [Int32.toBitVec_or]
  apply BitVec.eq_of_toNat_eq
  show ((BitVec.ofNat 32 a) ||| (BitVec.ofNat 32 b)).toNat = (BitVec.ofNat 32 (a ||| b)).toNat
  rw [BitVec.toNat_or, BitVec.toNat_ofNat, BitVec.toNat_ofNat, BitVec.toNat_ofNat]
  have h : a ||| b < 2 ^ 8 := Nat.or_lt_two_pow ha hb
  rw [Nat.mod_eq_of_lt (by omega), Nat.mod_eq_of_lt (by omega), Nat.mod_eq_of_lt (by omega)]
theorem lo8_or {x y : Int32} (hx : lo8 x) (hy : lo8 y) : lo8 (x ||| y) := by
  obtain ⟨a, ha, rfl⟩ := hx
  obtain ⟨b, hb, rfl⟩ := hy
  exact ⟨a ||| b, Nat.or_lt_two_pow (n := 8) ha hb, nI_or a b ha hb⟩
theorem and_or (x y m : Int32) : (x &&& m) ||| (y &&& m) = (x ||| y) &&& m := by
  apply b_ext
  intro i hi
  rw [b_or, b_and, b_and, b_and, b_or, Bool.and_or_distrib_right]
theorem mw_id (M : kMem) (k j : Nat) : mw M k j (M k j) = M := by
  unfold mw
  have e : upd (M k) j (M k j) = M k := by
    funext i
    unfold upd
    by_cases hi : i = j
    · rw [if_pos hi, hi]
    · rw [if_neg hi]
  rw [e, up_id]
theorem I_add0 (x : Int32) : x + nI 0 = x := Int32.add_zero x
/-- the states' part of a split -/
def spMn (N : Nat) : Nat → Nat → (Nat → Int32) → Nat × (Nat → Int32)
  | 0, c, h => (c, h)
  | n + 1, c, h => if h (2 + (N - (n + 1))) = nI 0 then spMn N n (c + 1) (upd (upd (upd h (2 + (N - (n + 1))) (nI 1)) (8 + (N - (n + 1))) (nI 0)) (14 + (N - (n + 1))) (nI 0)) else spMn N n c h
def kpM (h : Nat → Int32) : Int32 → Bool := fun a => decide (¬ h (2 + a.toNatClampNeg / 8) = nI 0)
theorem clr_hand (b : Nat) (M : kMem) (v r : Nat) : clr b M v r (b + 4) = upd (upd (M (b + 4)) (8 + v) (M (b + 4) (8 + v) &&& (bit1 r ^^^ -1))) (14 + v) (M (b + 4) (14 + v) &&& (bit1 r ^^^ -1)) := by
  show va_up (va_up M (b + 4) _) (b + 4) _ (b + 4) = _
  unfold mw
  rw [va_up_self, va_up_self, pk_un (k := 8 + v) (j := 14 + v) (by omega)]
section MD
variable {d : Nat} {M : kMem} {P : kRes → Prop}
theorem m_askStep {x : Int32} (hw : wf (M 13)) (h1 : ¬ M 9 0 = 0 → P (rV (mw M 9 4 (nI 1)))) (h2 : M 9 0 = 0 → isV (M 13) x = false → P (rV (mw M 9 4 (nI 2))))
    (h3 : ∀ v s, M 9 0 = 0 → isV (M 13) x = true → v < 6 → x = nI v → s < 2 → M 13 (2 + v) = nI s → P (rV (mw M 9 4 (nI 3))))
    (h4 : ∀ v s, M 9 0 = 0 → isV (M 13) x = true → v < 6 → x = nI v → s < 4 → 2 ≤ s → M 13 (2 + v) = nI s → P (rV (mw M 9 4 (nI 0)))) : kC (d + 1) km_askStep [.ref 9, .int x] M P := by
  obtain ⟨n, hn, hm, hV, -⟩ := hw
  refine kC_of 40 (by decide) (Nat.le_of_ble_eq_true rfl) ?_
  refine ⟨fun e => ?_, fun e => ⟨rfl, rfl, h1 e⟩⟩
  refine m_isVolume ?_
  refine ⟨fun e2 => ?_, fun e2 => ⟨rfl, rfl, h2 e (kb_0.mp e2)⟩⟩
  have e2 := kb_pos e2
  obtain ⟨v, hv, rfl⟩ := isV_t hn hm e2
  obtain ⟨⟨s, hs, es⟩, -⟩ := hV v hv
  refine m_stateOf (by omega) ?_
  rw [show (some (Value.int (kb (isV (M 13) (nI v)))), M).snd 13 (2 + v) = nI s from es]
  refine ⟨fun e3 => ?_, fun e3 => ?_⟩
  · exact ⟨rfl, rfl, h4 v s e e2 (by omega) rfl hs ((nI_leI (by decide) (by omega)).mp e3) es⟩
  · have h9 : s < 2 := Nat.not_le.mp (fun z => e3 ((nI_leI (by decide) (by omega)).mpr z))
    exact ⟨rfl, rfl, h3 v s e e2 (by omega) rfl h9 es⟩
theorem m_marks_loop {v : Nat} (hv : v < 6) : ∀ (n i c : Nat) (x y : Int32), i + n = 8 → x = nI c → y = nI i → P (rI (nI (cntn (marks (M 13) v) n c)) M) → kJ (d + 3) km_marks P 4 [(0, .ref 9), (1, .int (nI v)), (2, .int x), (3, .int y)] [] M := by
  intro n
  induction n with
  | zero =>
    intro i c x y hi hx hy h
    have hi : i = 8 := by omega
    subst hi; subst hx; subst hy
    refine kJ_H [4] 20 ?_
    exact ⟨fun _ => ⟨rfl, h⟩, fun e => absurd (by decide) e⟩
  | succ n ih =>
    intro i c x y hi hx hy h
    subst hx; subst hy
    have hi2 : i = 7 - n := by omega
    unfold cntn at h
    rw [← hi2] at h
    have eo : bt (marks (M 13) v) i = opn (M 13) v i := opn_or
    refine kJ_H [4] 30 ?_
    refine ⟨fun e => absurd e (nI_ge (by omega) (by decide)), fun _ => ?_⟩
    refine m_isOpen hv (by omega) ?_
    refine ⟨fun e => ?_, fun e => ?_⟩
    · rw [if_neg (by rw [eo, kb_0.mp e]; decide)] at h
      exact ih (i + 1) c _ _ (by omega) rfl (nI_1 i) h
    · rw [if_pos (by rw [eo]; exact kb_pos e)] at h
      exact ih (i + 1) (c + 1) _ _ (by omega) (nI_1 c) (nI_1 i) h
theorem m_marks {v : Nat} (hv : v < 6) (h : P (rI (nI (cnt (marks (M 13) v))) M)) : kC (d + 3) km_marks [.ref 9, .int (nI v)] M P := by
  refine kC_L [4] 20 (by decide) (Nat.le_of_ble_eq_true rfl) ?_
  exact m_marks_loop hv 8 0 0 _ _ rfl rfl rfl h
theorem m_low_loop {v : Nat} (hv : v < 6) (h23 : kJ (d + 4) km_goStep P 23 [(0, .ref 9), (1, .int (nI v)), (2, .int (nI (low (M 13) v)))] [] M) : ∀ (n i : Nat) (x : Int32), i + n = 8 → x = nI i → lown (M 13) v n = low (M 13) v →
    kJ (d + 4) km_goStep P 2 [(0, .ref 9), (1, .int (nI v)), (2, .int x)] [] M := by
  intro n
  induction n with
  | zero =>
    intro i x hi hx h
    have hi : i = 8 := by omega
    subst hi; subst hx
    have h : 8 = low (M 13) v := h
    rw [← h] at h23
    refine kJ_H [2, 23] 10 ?_
    exact ⟨fun _ => h23, fun e => absurd (by decide) e⟩
  | succ n ih =>
    intro i x hi hx h
    subst hx
    have hi2 : i = 7 - n := by omega
    unfold lown at h
    rw [← hi2] at h
    refine kJ_H [2, 23] 20 ?_
    refine ⟨fun e => absurd e (nI_ge (by omega) (by decide)), fun _ => ?_⟩
    refine m_isOpen hv (by omega) ?_
    refine ⟨fun e => ?_, fun e => ?_⟩
    · rw [if_pos (kb_pos e)] at h
      rw [← h] at h23
      exact h23
    · rw [if_neg (by rw [kb_0.mp e]; decide)] at h
      exact ih (i + 1) _ (by omega) (nI_1 _) h
theorem m_stq {v : Nat} {c : Bool} {y : Int32} (hv : v < 6) (hl : lo8 (marks (M 13) v)) (h : P (kbr (stq 9 spM M v (kb c)))) : kJ (d + 4) km_goStep P 91 [(0, .ref 9), (1, .int (nI v)), (2, .int y), (3, .int (kb c))] [] M := by
  unfold stq at h
  have tail : ∀ {M0 : kMem}, P (kbr (match nx 9 spM M0 with | (true, M2) => (true, mw M2 9 3 (M2 9 3 + kb c)) | (false, M2) => (false, M2))) → kJ (d + 4) km_goStep P 108 [(0, .ref 9), (1, .int (nI v)), (2, .int y), (3, .int (kb c))] [] M0 := by
    intro M0 h
    refine kw_ok 40 _ _ _ _ ?_
    refine m_next ?_
    refine bgo (fun M1 e => ?_) (fun M1 e => ?_)
    · rw [e] at h
      cases c
      · have h : P (kbr (true, mw M1 9 3 (M1 9 3 + nI 0))) := h
        rw [I_add0] at h
        exact ⟨fun _ => ⟨rfl, rfl, rfl, h⟩, fun e => absurd rfl e⟩
      · exact ⟨fun e => absurd e (by decide), fun _ => ⟨fun e => absurd e (by decide), fun _ => ⟨rfl, rfl, rfl, h⟩⟩⟩
    · rw [e] at h
      have h9 : P (kbr (false, mw M1 9 3 (M1 9 3))) := by rw [mw_id]; exact h
      cases c
      · exact ⟨fun _ => ⟨rfl, rfl, rfl, h9⟩, fun e => absurd rfl e⟩
      · exact ⟨fun e => absurd e (by decide), fun _ => ⟨fun _ => ⟨rfl, rfl, rfl, h9⟩, fun e => absurd rfl e⟩⟩
  refine kJ_H [108] 20 ?_
  refine m_marks hv ?_
  obtain ⟨a, ha, ea⟩ := hl
  obtain ⟨f1, f2, -⟩ := cnt_fact a ha
  rw [← ea] at f1 f2
  unfold jn at h
  refine ⟨fun e => ?_, fun e => ?_⟩
  · have e : ¬ nI (cnt (marks (M 13) v)) = 0 := e
    have e2 : ¬ M (9 + 4) (8 + v) ||| M (9 + 4) (14 + v) = 0 := fun z => e (by rw [f1.mpr z]; rfl)
    rw [if_neg e2] at h
    exact tail h
  · have e : nI (cnt (marks (M 13) v)) = nI 0 := e
    have e2 : M (9 + 4) (8 + v) ||| M (9 + 4) (14 + v) = 0 := f1.mp ((nI_eq (by omega) (by decide)).mp e)
    rw [if_pos e2] at h
    refine ⟨2 + v, nI_add 2 v, by omega, ?_⟩
    exact tail h
theorem spM_keep (M : kMem) (k : Nat) (hk : k = 9 + 1 ∨ k = 9 + 2 ∨ k = 9 + 3 ∨ k = 9 + 4 ∨ k = 9 + 5) : (spM M).2 k = M k := by
  have h0 : k ≠ 9 := by omega
  unfold spM
  split
  · rfl
  · split
    · show mw (mw M 9 0 _) 9 1 _ k = _
      unfold mw
      rw [va_up_ne _ _ h0, va_up_ne _ _ h0]
    · show mw _ 9 2 _ k = _
      unfold mw
      rw [va_up_ne _ _ h0, va_up_ne _ _ h0]
theorem m_goStep {v s : Nat} (hv : v < 6) (hs : s < 4) (hs2 : 2 ≤ s) (hst : M 13 (2 + v) = nI s) (l1 : lo8 (M 13 (8 + v))) (l2 : lo8 (M 13 (14 + v))) (h : P (kbr (stp 9 spM M v (s - 2)))) : kC (d + 4) km_goStep [.ref 9, .int (nI v)] M P := by
  unfold stp at h
  refine kC_L [2] 10 (by decide) (Nat.le_of_ble_eq_true rfl) ?_
  refine m_low_loop hv ?_ 8 0 _ rfl rfl rfl
  refine kJ_H [91] 60 ?_
  have hl : low (M 13) v ≤ 8 := by
    have e : ∀ n, lown (M 13) v n ≤ 8 := by
      intro n
      induction n with
      | zero => exact Nat.le_refl _
      | succ n ih =>
        unfold lown
        split
        · omega
        · exact ih
    exact e 8
  refine ⟨fun e => ?_, fun e => ?_⟩
  · have e2 : ¬ low (M 13) v < 8 := Nat.not_lt.mpr ((nI_leI (by decide) (by omega)).mp e)
    rw [if_neg e2] at h
    refine ⟨fun _ => ?_, fun e => absurd rfl e⟩
    exact m_stq (c := false) hv (lo8_or l1 l2) h
  · have e2 : low (M 13) v < 8 := Nat.not_le.mp (fun z => e ((nI_leI (by decide) (by omega)).mpr z))
    rw [if_pos e2] at h
    refine ⟨fun e => absurd e (by decide), fun _ => ?_⟩
    refine m_stateOf hv ?_
    show kC (d + 3) km_copyRegion [.ref 9, .int (nI v), .int (nI (low (M 13) v)), .int (M 13 (2 + v) - nI 2)] M _
    rw [hst, pk_sub hs2]
    refine m_copyRegion hv e2 (by omega) ?_
    have hk := crn_hand 9 spM spM_keep v (low (M 13) v) (s - 2) 8 M
    refine bgo (fun M1 e4 => ?_) (fun M1 e4 => ?_)
    · rw [e4] at h
      have hk : M1 13 = M 13 := by rw [show crn 9 spM v (low (M 13) v) (s - 2) 8 M = (true, M1) from e4] at hk; exact hk
      refine ⟨fun _ => ?_, fun e => absurd e (by decide)⟩
      refine ⟨8 + v, nI_add 8 v, by omega, 8 + v, nI_add 8 v, by omega, ?_⟩
      refine ⟨14 + v, nI_add 14 v, by omega, 14 + v, nI_add 14 v, by omega, ?_⟩
      refine m_stq (M := clr 9 M1 v (low (M 13) v)) (c := true) hv ?_ h
      have k0 : clr 9 M1 v (low (M 13) v) 13 = _ := clr_hand 9 M1 v (low (M 13) v)
      have k1 : clr 9 M1 v (low (M 13) v) 13 (8 + v) = M1 13 (8 + v) &&& (bit1 (low (M 13) v) ^^^ -1) := by
        rw [k0, pk_un (by omega), pk_us]
      have k2 : clr 9 M1 v (low (M 13) v) 13 (14 + v) = M1 13 (14 + v) &&& (bit1 (low (M 13) v) ^^^ -1) := by
        rw [k0, pk_us]
      unfold marks
      rw [k1, k2, hk]
      exact lo8_or (lo8_and l1 _ e2) (lo8_and l2 _ e2)
    · rw [e4] at h
      exact ⟨fun e => absurd rfl e, fun _ => ⟨rfl, h⟩⟩
theorem m_step {x : Int32} (hw : wf (M 13)) (h1 : ¬ M 9 0 = 0 → P (rI (nI 0) (mw M 9 4 (nI 1)))) (h2 : M 9 0 = 0 → isV (M 13) x = false → P (rI (nI 0) (mw M 9 4 (nI 2))))
    (h3 : ∀ v s, M 9 0 = 0 → isV (M 13) x = true → v < 6 → x = nI v → s < 2 → M 13 (2 + v) = nI s → P (rI (nI 0) (mw M 9 4 (nI 3))))
    (h4 : ∀ v s, M 9 0 = 0 → isV (M 13) x = true → v < 6 → x = nI v → s < 4 → 2 ≤ s → M 13 (2 + v) = nI s → P ((fun q : Bool × kMem => mri q (nI (cnt (marks (q.2 13) v)))) (stp 9 spM (mw M 9 4 (nI 0)) v (s - 2)))) : kC (d + 5) km_step [.ref 9, .int x] M P := by
  have hw' := hw
  obtain ⟨n, hn, hm, hV, -⟩ := hw'
  refine kC_of 40 (by decide) (Nat.le_of_ble_eq_true rfl) ?_
  refine m_askStep hw (fun e => ?_) (fun e e2 => ?_) (fun v s e ev hv ex hs es => ?_) (fun v s e ev hv ex hs hs2 es => ?_)
  · exact ⟨fun e3 => absurd e3 (show ¬ nI 1 ≤ 0 by decide), fun _ => ⟨rfl, h1 e⟩⟩
  · exact ⟨fun e3 => absurd e3 (show ¬ nI 2 ≤ 0 by decide), fun _ => ⟨rfl, h2 e e2⟩⟩
  · exact ⟨fun e3 => absurd e3 (show ¬ nI 3 ≤ 0 by decide), fun _ => ⟨rfl, h3 v s e ev hv ex hs es⟩⟩
  · refine ⟨fun _ => ?_, fun e3 => absurd (show nI 0 ≤ 0 by decide) e3⟩
    have h := h4 v s e ev hv ex hs hs2 es
    subst ex
    obtain ⟨v', hv', ev'⟩ := isV_t hn hm ev
    have ev2 : v = v' := (nI_eq (by omega) (by omega)).mp ev'
    subst ev2
    obtain ⟨-, l1, l2, -⟩ := hV v hv'
    refine m_goStep hv hs hs2 es l1 l2 ?_
    refine bgo (fun M1 e4 => ?_) (fun M1 e4 => ?_)
    · have e4 : stp 9 spM (mw M 9 4 (nI 0)) v (s - 2) = (true, M1) := e4
      rw [e4] at h
      refine ⟨fun e => absurd e (by decide), fun _ => ?_⟩
      refine m_marks hv ?_
      exact ⟨rfl, h⟩
    · have e4 : stp 9 spM (mw M 9 4 (nI 0)) v (s - 2) = (false, M1) := e4
      rw [e4] at h
      exact ⟨fun _ => m_fail ⟨rfl, h⟩, fun e => absurd rfl e⟩
theorem m_run_loop {v s : Nat} (hv : v < 6) (hs : s < 4) (hs2 : 2 ≤ s) (hst : ∀ M M1, M 13 (2 + v) = nI s → lo8 (M 13 (8 + v)) → lo8 (M 13 (14 + v)) → stp 9 spM M v (s - 2) = (true, M1) → M1 13 (2 + v) = nI 0 ∨ (M1 13 (2 + v) = nI s ∧ lo8 (M1 13 (8 + v)) ∧ lo8 (M1 13 (14 + v)) ∧ 1 ≤ cnt (marks (M1 13) v) ∧ cnt (marks (M1 13) v) < cnt (marks (M 13) v))) :
    ∀ (n c : Nat) (x : Int32) (M : kMem), c + n = 8 → x = nI c → (M 13 (2 + v) = nI 0 ∨ (M 13 (2 + v) = nI s ∧ lo8 (M 13 (8 + v)) ∧ lo8 (M 13 (14 + v)) ∧ 1 ≤ n ∧ cnt (marks (M 13) v) ≤ n)) → P ((fun q : (Bool × Nat) × kMem => mri (q.1.1, q.2) (nI q.1.2)) (rnn 9 spM v (s - 2) n c M)) →
    kJ (d + 5) km_run P 16 [(0, .ref 9), (1, .int (nI v)), (2, .int x)] [] M := by
  intro n
  induction n with
  | zero =>
    intro c x M hc hx hz h
    subst hx
    have e : M 13 (2 + v) = nI 0 := hz.elim id (fun z => absurd z.2.2.2.1 (by omega))
    refine kJ_H [16] 20 ?_
    refine m_stateOf hv ?_
    exact ⟨fun _ => ⟨rfl, h⟩, fun e2 => absurd e e2⟩
  | succ n ih =>
    intro c x M hc hx hz h
    subst hx
    unfold rnn at h
    refine kJ_H [16] 20 ?_
    refine m_stateOf hv ?_
    refine ⟨fun e => ?_, fun e => ?_⟩
    · have e : M 13 (2 + v) = nI 0 := e
      rw [if_pos e] at h
      exact ⟨rfl, h⟩
    · have e : ¬ M 13 (2 + v) = nI 0 := e
      rw [if_neg e] at h
      obtain ⟨es, l1, l2, hn1, hn2⟩ := hz.elim (fun z => absurd z e) id
      refine m_goStep hv hs hs2 es l1 l2 ?_
      refine bgo (fun M1 e4 => ?_) (fun M1 e4 => ?_)
      · rw [e4] at h
        refine ⟨fun _ => ?_, fun e => absurd e (by decide)⟩
        refine ih (c + 1) _ M1 (by omega) (nI_1 c) ?_ h
        rcases hst M M1 es l1 l2 e4 with z | ⟨z1, z2, z3, z4, z5⟩
        · exact Or.inl z
        · exact Or.inr ⟨z1, z2, z3, by omega, by omega⟩
      · rw [e4] at h
        exact ⟨fun e => absurd rfl e, fun _ => m_fail ⟨rfl, h⟩⟩
theorem m_run {x : Int32} (hw : wf (M 13)) (h1 : ¬ M 9 0 = 0 → P (rI (nI 0) (mw M 9 4 (nI 1)))) (h2 : M 9 0 = 0 → isV (M 13) x = false → P (rI (nI 0) (mw M 9 4 (nI 2))))
    (h3 : ∀ v s, M 9 0 = 0 → isV (M 13) x = true → v < 6 → x = nI v → s < 2 → M 13 (2 + v) = nI s → P (rI (nI 0) (mw M 9 4 (nI 3))))
    (hst : ∀ v s, v < 6 → s < 4 → 2 ≤ s → ∀ M M1, M 13 (2 + v) = nI s → lo8 (M 13 (8 + v)) → lo8 (M 13 (14 + v)) → stp 9 spM M v (s - 2) = (true, M1) → M1 13 (2 + v) = nI 0 ∨ (M1 13 (2 + v) = nI s ∧ lo8 (M1 13 (8 + v)) ∧ lo8 (M1 13 (14 + v)) ∧ 1 ≤ cnt (marks (M1 13) v) ∧ cnt (marks (M1 13) v) < cnt (marks (M 13) v)))
    (h4 : ∀ v s, M 9 0 = 0 → isV (M 13) x = true → v < 6 → x = nI v → s < 4 → 2 ≤ s → M 13 (2 + v) = nI s → P ((fun q : (Bool × Nat) × kMem => mri (q.1.1, q.2) (nI q.1.2)) (rnn 9 spM v (s - 2) 8 0 (mw M 9 4 (nI 0))))) : kC (d + 5) km_run [.ref 9, .int x] M P := by
  have hw' := hw
  obtain ⟨n, hn, hm, hV, -⟩ := hw'
  refine kC_L [16] 40 (by decide) (Nat.le_of_ble_eq_true rfl) ?_
  refine m_askStep hw (fun e => ?_) (fun e e2 => ?_) (fun v s e ev hv ex hs es => ?_) (fun v s e ev hv ex hs hs2 es => ?_)
  · exact ⟨fun e3 => absurd e3 (show ¬ nI 1 ≤ 0 by decide), fun _ => ⟨rfl, h1 e⟩⟩
  · exact ⟨fun e3 => absurd e3 (show ¬ nI 2 ≤ 0 by decide), fun _ => ⟨rfl, h2 e e2⟩⟩
  · exact ⟨fun e3 => absurd e3 (show ¬ nI 3 ≤ 0 by decide), fun _ => ⟨rfl, h3 v s e ev hv ex hs es⟩⟩
  · refine ⟨fun _ => ?_, fun e3 => absurd (show nI 0 ≤ 0 by decide) e3⟩
    have h := h4 v s e ev hv ex hs hs2 es
    subst ex
    obtain ⟨v', hv', ev'⟩ := isV_t hn hm ev
    have ev2 : v = v' := (nI_eq (by omega) (by omega)).mp ev'
    subst ev2
    obtain ⟨-, l1, l2, -⟩ := hV v hv'
    have l3 : cnt (marks (M 13) v) ≤ 8 := by
      obtain ⟨a, ha, ea⟩ := lo8_or l1 l2
      unfold marks
      rw [ea]
      exact (cnt_fact a ha).2.1
    exact m_run_loop hv hs hs2 (hst v s hv hs hs2) 8 0 _ _ rfl rfl (Or.inr ⟨es, l1, l2, by decide, l3⟩) h
theorem m_rejoin {x t : Int32} (hw : wf (M 13)) (h1 : ¬ M 9 0 = 0 → P (rV (mw M 9 4 (nI 1)))) (h2 : M 9 0 = 0 → (isV (M 13) x && inR t 2) = false → P (rV (mw M 9 4 (nI 2))))
    (h3 : ∀ v u, M 9 0 = 0 → isV (M 13) x = true → v < 6 → x = nI v → u < 2 → t = nI u → ¬ M 13 (2 + v) = nI 1 → P (rV (mw M 9 4 (nI 3))))
    (h4 : ∀ v u, M 9 0 = 0 → isV (M 13) x = true → v < 6 → x = nI v → u < 2 → t = nI u → M 13 (2 + v) = nI 1 → P (mrv (nx 9 spM (mw (mw M 9 4 (nI 0)) 13 (2 + v) (nI (2 + u)))))) : kC (d + 3) km_rejoin [.ref 9, .int x, .int t] M P := by
  obtain ⟨n, hn, hm, -, -⟩ := hw
  refine kC_of 60 (by decide) (Nat.le_of_ble_eq_true rfl) ?_
  refine ⟨fun e => ?_, fun e => ?_⟩
  · refine m_isVolume ?_
    refine ⟨fun e2 => ?_, fun e2 => ?_⟩
    · refine ⟨rfl, rfl, fun _ => h2 e (by rw [kb_0.mp e2]; rfl), fun e3 => absurd e3 (show ¬ nI 2 = 0 by decide)⟩
    · have e2 := kb_pos e2
      obtain ⟨v, hv, rfl⟩ := isV_t hn hm e2
      have hb : inR t 2 = false → P (rV (mw M 9 4 (nI 2))) := fun z => h2 e (by rw [z, Bool.and_false])
      refine ⟨fun e3 => ⟨rfl, rfl, fun _ => hb (decide_eq_false (fun z => z.1 e3)), fun e3 => absurd e3 (show ¬ nI 2 = 0 by decide)⟩, fun e3 => ⟨fun e4 => ?_, fun e4 => ⟨rfl, rfl, fun _ => hb ?_, fun e3 => absurd e3 (show ¬ nI 2 = 0 by decide)⟩⟩⟩
      · have e5 : inR t 2 = true := by
          rcases pk_ix t (n := 2) (by decide) with z | z | ⟨j, hj, rfl⟩
          · exact absurd z e3
          · exact absurd (Int32.le_trans z e4) (by decide)
          · exact inR_nI hj (by decide)
        obtain ⟨u, hu, rfl⟩ := inR_t (by decide) e5
        refine m_stateOf (by omega) ?_
        refine ⟨fun e6 => ?_, fun e6 => ?_⟩
        · have h := h4 v u e e2 (by omega) rfl hu rfl e6
          refine ⟨rfl, rfl, fun e7 => absurd rfl e7, fun _ => ?_⟩
          refine ⟨2 + v, nI_add 2 v, by omega, ?_⟩
          refine kwN_eq (M' := mw (mw M 9 4 (nI 0)) 13 (2 + v) (nI (2 + u))) ?_ ?_
          · show mw (mw M 9 4 (nI 0)) 13 (2 + v) (nI 2 + nI u) = _
            rw [nI_add]
          refine m_next ?_
          refine bgo (fun M1 e4 => ?_) (fun M1 e4 => ?_)
          · rw [e4] at h
            exact ⟨fun e => absurd e (by decide), fun _ => ⟨rfl, rfl, h⟩⟩
          · rw [e4] at h
            exact ⟨fun _ => ⟨rfl, rfl, h⟩, fun e => absurd rfl e⟩
        · exact ⟨rfl, rfl, fun _ => h3 v u e e2 (by omega) rfl hu rfl e6, fun e7 => absurd e7 (show ¬ nI 3 = 0 by decide)⟩
      · cases hx : inR t 2
        · rfl
        · obtain ⟨u, hu, rfl⟩ := inR_t (by decide) hx
          exact absurd (nI_le (a := u) (b := 1) (by omega) (by decide)) e4
  · exact ⟨rfl, rfl, fun _ => h1 e, fun e3 => absurd e3 (show ¬ nI 1 = 0 by decide)⟩
end MD
