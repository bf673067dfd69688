/-! the system's methods: its face -/
/-- a system's call with an answer -/
def thi (q : Bool × kMem) (x : Int32) : kRes := if q.1 = true then rI x q.2 else rX eS q.2
def srt (b : Nat) (sp : kMem → Bool × kMem) (M : kMem) : Bool × kMem := match tnh b sp M with
  | (true, M1) => mnd b sp M1
  | (false, M1) => (false, M1)
def rnn (b : Nat) (sp : kMem → Bool × kMem) (v t : Nat) : Nat → Nat → kMem → (Bool × Nat) × kMem
  | 0, c, M => ((true, c), M)
  | n + 1, c, M => if M (b + 4) (2 + v) = nI 0 then ((true, c), M) else match stp b sp M v t with
    | (true, M1) => rnn b sp v t n (c + 1) M1
    | (false, M1) => ((false, c), M1)
def dfn (W : Nat → Int32) (v : Nat) : Nat → Nat → Nat
  | 0, c => c
  | n + 1, c => if sm W v (63 - n) = true then dfn W v n c else dfn W v n (c + 1)
def bcn (x : Int32) : Int32 :=
  (fun x : Int32 => (fun x : Int32 => (fun x : Int32 => (fun x : Int32 => (fun x : Int32 => x &&& nI 63) (x + (x.toUInt32 >>> ((nI 16).toUInt32 &&& Int32.toUInt32 31)).toInt32)) (x + (x.toUInt32 >>> ((nI 8).toUInt32 &&& Int32.toUInt32 31)).toInt32)) ((x + (x.toUInt32 >>> ((nI 4).toUInt32 &&& Int32.toUInt32 31)).toInt32) &&& nI 252645135)) ((x &&& nI 858993459) + ((x.toUInt32 >>> ((nI 2).toUInt32 &&& Int32.toUInt32 31)).toInt32 &&& nI 858993459))) (x - ((x.toUInt32 >>> ((nI 1).toUInt32 &&& Int32.toUInt32 31)).toInt32 &&& nI 1431655765))
section CE
variable {d : Nat} {M : kMem} {P : kRes → Prop}
theorem j_bitCount {x : Int32} (h : P (rI (bcn x) M)) : kC d kj_bitCount_0f7a4 [.int x] M P := by
  refine kC_of 60 (by decide) (Nat.le_of_ble_eq_true rfl) ?_
  exact ⟨rfl, h⟩
theorem c_makeVolume {n : Nat} (hn : n ≤ 6) (hm : M 4 1 = nI n) (h1 : M 0 0 = 0 → P (rX eS M)) (h2 : ¬ M 0 0 = 0 → n = 6 → P (rI (-1) M))
    (h3 : ¬ M 0 0 = 0 → n < 6 → P (thi (nx 0 spC (mw (mw (mw (mw M 4 1 (nI n + nI 1)) 4 (2 + n) (nI 0)) 4 (8 + n) (nI 0)) 4 (14 + n) (nI 0))) (nI n))) : kC (d + 3) kc_makeVolume [.ref 0] M P := by
  refine kC_of 40 (by decide) (Nat.le_of_ble_eq_true rfl) ?_
  refine c_requirePower h1 (fun e => ?_)
  refine h_volumeCount ?_
  refine ⟨fun e2 => ?_, fun e2 => ?_⟩
  · have e2 : ¬ M 4 1 = nI 6 := e2
    have hn6 : n < 6 := by
      rcases Nat.lt_or_ge n 6 with z | z
      · exact z
      · exact absurd (by rw [hm, show n = 6 by omega]) e2
    have h := h3 e hn6
    refine h_addVolume hn6 hm ?_
    refine c_writeHeader ?_
    exact thr_go (fun M1 e3 => by rw [e3] at h; exact ⟨rfl, h⟩) (fun M1 e3 => by rw [e3] at h; exact h)
  · have e2 : M 4 1 = nI 6 := e2
    have hn6 : n = 6 := (nI_eq (by omega) (by decide)).mp (hm.symm.trans e2)
    exact ⟨rfl, h2 e hn6⟩
/-- the side in use, a number -/
theorem sid_u {s : Nat} {t : Int32} (hs : s < 4) (h : (decide (¬ nI s = nI 1) || inR t 2) = true) : ∃ u, u < 2 ∧ sidI s t = nI u := by
  unfold sidI
  by_cases h1 : s = 1
  · subst h1
    rw [if_pos rfl]
    rw [decide_eq_false (fun z => z rfl), Bool.false_or] at h
    exact inR_t (by decide) h
  · rw [if_neg h1]
    exact ⟨s - 2, by omega, rfl⟩
theorem isB_t {h : Nat → Int32} {x t k : Int32} (hw : wf h) (hb : isB h x t k = true) : ∃ v s u j, v < 6 ∧ x = nI v ∧ s < 4 ∧ h (2 + v) = nI s ∧ u < 2 ∧ sidI s t = nI u ∧ j < 64 ∧ k = nI j ∧ isV h x = true := by
  obtain ⟨n, hn, hm, hv, -⟩ := hw
  unfold isB at hb
  rw [Bool.and_eq_true, Bool.and_eq_true] at hb
  obtain ⟨⟨b1, b2⟩, b3⟩ := hb
  obtain ⟨v, hvn, rfl⟩ := isV_t hn hm b1
  obtain ⟨⟨s, hs, es⟩, -⟩ := hv v hvn
  have hc : (nI v).toNatClampNeg = v := nI_clamp (by omega)
  rw [hc, es] at b2
  obtain ⟨u, hu, eu⟩ := sid_u hs b2
  obtain ⟨j, hj, ej⟩ := inR_t (by decide) b3
  exact ⟨v, s, u, j, by omega, rfl, hs, es, hu, eu, hj, ej, b1⟩
theorem c_write {x t k w y : Int32} (hw : wf (M 4)) (h1 : M 0 0 = 0 → P (rX eS M)) (h2 : ¬ M 0 0 = 0 → (isB (M 4) x t k && inR w 4) = false → P (rX eB M))
    (h3 : ∀ v s u j i, ¬ M 0 0 = 0 → isB (M 4) x t k = true → inR w 4 = true → v < 6 → x = nI v → s < 4 → M 4 (2 + v) = nI s → u < 2 → sidI s t = nI u → j < 64 → k = nI j → i < 4 → w = nI i → P (thr (put 0 spC (mw (tk 0 M u v j) 5 i y) v u j))) : kC (d + 5) kc_write [.ref 0, .int x, .int t, .int k, .int w, .int y] M P := by
  refine kC_of 60 (by decide) (Nat.le_of_ble_eq_true rfl) ?_
  refine c_requirePower h1 (fun e => ?_)
  refine c_requireBlock hw (fun e2 => h2 e (by rw [e2]; rfl)) (fun e2 => ?_)
  refine c_requireWord (fun e3 => h2 e (by rw [e3, Bool.and_false])) (fun e3 => ?_)
  obtain ⟨v, s, u, j, hv, rfl, hs, es, hu, eu, hj, rfl, -⟩ := isB_t hw e2
  obtain ⟨i, hi, rfl⟩ := inR_t (by decide) e3
  have h := h3 v s u j i e e2 e3 hv rfl hs es hu eu hj rfl hi rfl
  refine c_sideInUse hv hs es ?_
  rw [eu]
  refine c_blockAt ?_
  refine ⟨pl u v j, 0, 4, rfl, rfl, rfl, pl_lt hu hv hj, by decide, ?_⟩
  refine ⟨i, rfl, hi, ?_⟩
  refine c_putFresh hv hu hj ?_
  exact thr_go (fun M1 e => thr_t (by rw [← e]; exact h)) (fun M1 e => thr_f (by rw [← e]; exact h))
theorem c_fill {x t k a0 a1 a2 a3 : Int32} (hw : wf (M 4)) (h1 : M 0 0 = 0 → P (rX eS M)) (h2 : ¬ M 0 0 = 0 → isB (M 4) x t k = false → P (rX eB M))
    (h3 : ∀ v s u j, ¬ M 0 0 = 0 → isB (M 4) x t k = true → v < 6 → x = nI v → s < 4 → M 4 (2 + v) = nI s → u < 2 → sidI s t = nI u → j < 64 → k = nI j → P (thr (put 0 spC (mw (mw (mw (mw M 5 0 a0) 5 1 a1) 5 2 a2) 5 3 a3) v u j))) : kC (d + 5) kc_fill [.ref 0, .int x, .int t, .int k, .int a0, .int a1, .int a2, .int a3] M P := by
  refine kC_of 60 (by decide) (Nat.le_of_ble_eq_true rfl) ?_
  refine c_requirePower h1 (fun e => ?_)
  refine c_requireBlock hw (fun e2 => h2 e e2) (fun e2 => ?_)
  obtain ⟨v, s, u, j, hv, rfl, hs, es, hu, eu, hj, rfl, -⟩ := isB_t hw e2
  have h := h3 v s u j e e2 hv rfl hs es hu eu hj rfl
  refine ⟨0, rfl, by decide, 1, rfl, by decide, 2, rfl, by decide, 3, rfl, by decide, ?_⟩
  refine c_sideInUse hv hs es ?_
  rw [eu]
  refine c_putFresh hv hu hj ?_
  exact thr_go (fun M1 e => thr_t (by rw [← e]; exact h)) (fun M1 e => thr_f (by rw [← e]; exact h))
theorem c_read {x t k w : Int32} (hw : wf (M 4)) (h1 : M 0 0 = 0 → P (rX eS M)) (h2 : ¬ M 0 0 = 0 → (isB (M 4) x t k && inR w 4) = false → P (rX eB M))
    (h3 : ∀ v s u j i, ¬ M 0 0 = 0 → isB (M 4) x t k = true → inR w 4 = true → v < 6 → x = nI v → s < 4 → M 4 (2 + v) = nI s → u < 2 → sidI s t = nI u → j < 64 → k = nI j → i < 4 → w = nI i → P (rI (M 1 (pl u v j + i)) M)) : kC (d + 5) kc_read [.ref 0, .int x, .int t, .int k, .int w] M P := by
  refine kC_of 60 (by decide) (Nat.le_of_ble_eq_true rfl) ?_
  refine c_requirePower h1 (fun e => ?_)
  refine c_requireBlock hw (fun e2 => h2 e (by rw [e2]; rfl)) (fun e2 => ?_)
  refine c_requireWord (fun e3 => h2 e (by rw [e3, Bool.and_false])) (fun e3 => ?_)
  obtain ⟨v, s, u, j, hv, rfl, hs, es, hu, eu, hj, rfl, -⟩ := isB_t hw e2
  obtain ⟨i, hi, rfl⟩ := inR_t (by decide) e3
  have h := h3 v s u j i e e2 e3 hv rfl hs es hu eu hj rfl hi rfl
  have hp := pl_lt hu hv hj
  refine c_sideInUse hv hs es ?_
  rw [eu]
  refine c_blockAt ?_
  exact ⟨pl u v j + i, nI_add _ _, by omega, rfl, h⟩
theorem c_rejoin {x t : Int32} (hw : wf (M 4)) (h1 : M 0 0 = 0 → P (rX eS M)) (h2 : ¬ M 0 0 = 0 → (isV (M 4) x && inR t 2) = false → P (rX eB M))
    (h3 : ∀ v u, ¬ M 0 0 = 0 → isV (M 4) x = true → v < 6 → x = nI v → u < 2 → t = nI u → ¬ M 4 (2 + v) = nI 1 → P (rX eU M))
    (h4 : ∀ v u, ¬ M 0 0 = 0 → isV (M 4) x = true → v < 6 → x = nI v → u < 2 → t = nI u → M 4 (2 + v) = nI 1 → P (thr (nx 0 spC (mw M 4 (2 + v) (nI (2 + u)))))) : kC (d + 3) kc_rejoin [.ref 0, .int x, .int t] M P := by
  have hw' := hw
  obtain ⟨n, hn, hm, -, -⟩ := hw'
  refine kC_of 60 (by decide) (Nat.le_of_ble_eq_true rfl) ?_
  refine c_requirePower h1 (fun e => ?_)
  refine c_requireVolume (fun e2 => h2 e (by rw [e2]; rfl)) (fun e2 => ?_)
  refine c_requireSide (fun e3 => h2 e (by rw [e3, Bool.and_false])) (fun e3 => ?_)
  obtain ⟨v, hv, rfl⟩ := isV_t hn hm e2
  obtain ⟨u, hu, rfl⟩ := inR_t (by decide) e3
  refine h_stateOf (by omega) ?_
  refine ⟨fun e4 => ?_, fun e4 => ?_⟩
  · have h := h4 v u e e2 (by omega) rfl hu rfl e4
    show kC (d + 2) kh_setState [.ref 8, .int (nI v), .int (nI 2 + nI u)] M _
    rw [nI_add]
    refine h_setState (by omega) ?_
    refine c_writeHeader ?_
    exact thr_go (fun M1 e => thr_t (by rw [← e]; exact h)) (fun M1 e => thr_f (by rw [← e]; exact h))
  · exact h3 v u e e2 (by omega) rfl hu rfl e4
end CE
