/-! a call of the system, and behind it the same call of the reference -/
def pI (cd : String → Option Nat) (dm mm : Nat) (as : List Value) : kRes → Prop := fun r => match r with
  | .inl (some (.int x), M1) => kC dm mm as M1 (fun r' => ∃ y M2, r' = rI y M2 ∧ M2 9 4 = nI 0 ∧ y = x ∧ R M2 M2)
  | .inr (E, M1) => ∃ k, cd E = some k ∧ kC dm mm as M1 (fun r' => ∃ y M2, r' = rI y M2 ∧ M2 9 4 = nI k ∧ R M2 M2)
  | _ => False
def pV (cd : String → Option Nat) (dm mm : Nat) (as : List Value) : kRes → Prop := fun r => match r with
  | .inl (none, M1) => kC dm mm as M1 (fun r' => ∃ M2, r' = rV M2 ∧ M2 9 4 = nI 0 ∧ R M2 M2)
  | .inr (E, M1) => ∃ k, cd E = some k ∧ kC dm mm as M1 (fun r' => ∃ M2, r' = rV M2 ∧ M2 9 4 = nI k ∧ R M2 M2)
  | _ => False
def pQ (dm mm : Nat) (as : List Value) : kRes → Prop := fun r => match r with
  | .inl (some (.int x), M1) => kC dm mm as M1 (fun r' => ∃ M2, r' = rI x M2 ∧ R M2 M2)
  | _ => False
def cdS (E : String) : Option Nat := if E = eS then some 1 else none
def cdB (E : String) : Option Nat := if E = eB then some 1 else none
def cdA (E : String) : Option Nat := if E = eA then some 1 else none
def cdSB (E : String) : Option Nat := if E = eS then some 1 else if E = eB then some 2 else none
def cdSBU (E : String) : Option Nat := if E = eS then some 1 else if E = eB then some 2 else if E = eU then some 3 else none
theorem pI_x {cd : String → Option Nat} {dm mm k : Nat} {as : List Value} {E : String} {M1 : kMem} (h : cd E = some k) (hk : kC dm mm as M1 (fun r' => ∃ y M2, r' = rI y M2 ∧ M2 9 4 = nI k ∧ R M2 M2)) : pI cd dm mm as (rX E M1) := ⟨k, h, hk⟩
theorem pI_i {cd : String → Option Nat} {dm mm : Nat} {as : List Value} {x : Int32} {M1 : kMem} (hk : kC dm mm as M1 (fun r' => ∃ y M2, r' = rI y M2 ∧ M2 9 4 = nI 0 ∧ y = x ∧ R M2 M2)) : pI cd dm mm as (rI x M1) := hk
theorem pV_x {cd : String → Option Nat} {dm mm k : Nat} {as : List Value} {E : String} {M1 : kMem} (h : cd E = some k) (hk : kC dm mm as M1 (fun r' => ∃ M2, r' = rV M2 ∧ M2 9 4 = nI k ∧ R M2 M2)) : pV cd dm mm as (rX E M1) := ⟨k, h, hk⟩
theorem pV_v {cd : String → Option Nat} {dm mm : Nat} {as : List Value} {M1 : kMem} (hk : kC dm mm as M1 (fun r' => ∃ M2, r' = rV M2 ∧ M2 9 4 = nI 0 ∧ R M2 M2)) : pV cd dm mm as (rV M1) := hk
theorem pQ_i {dm mm : Nat} {as : List Value} {x : Int32} {M1 : kMem} (hk : kC dm mm as M1 (fun r' => ∃ M2, r' = rI x M2 ∧ R M2 M2)) : pQ dm mm as (rI x M1) := hk
/-- the system's call, its answer split -/
theorem pI_thi {cd : String → Option Nat} {dm mm : Nat} {as : List Value} {q : Bool × kMem} {x : Int32} (hc : cd eS = some 1) (h1 : ∀ M1, q = (true, M1) → kC dm mm as M1 (fun r' => ∃ y M2, r' = rI y M2 ∧ M2 9 4 = nI 0 ∧ y = x ∧ R M2 M2)) (h2 : ∀ M1, q = (false, M1) → kC dm mm as M1 (fun r' => ∃ y M2, r' = rI y M2 ∧ M2 9 4 = nI 1 ∧ R M2 M2)) : pI cd dm mm as (thi q x) := by
  obtain ⟨ok, M1⟩ := q
  cases ok
  · exact pI_x hc (h2 M1 rfl)
  · exact pI_i (h1 M1 rfl)
theorem pV_thr {cd : String → Option Nat} {dm mm : Nat} {as : List Value} {q : Bool × kMem} (hc : cd eS = some 1) (h1 : ∀ M1, q = (true, M1) → kC dm mm as M1 (fun r' => ∃ M2, r' = rV M2 ∧ M2 9 4 = nI 0 ∧ R M2 M2)) (h2 : ∀ M1, q = (false, M1) → kC dm mm as M1 (fun r' => ∃ M2, r' = rV M2 ∧ M2 9 4 = nI 1 ∧ R M2 M2)) : pV cd dm mm as (thr q) := by
  obtain ⟨ok, M1⟩ := q
  cases ok
  · exact pV_x hc (h2 M1 rfl)
  · exact pV_v (h1 M1 rfl)
theorem mri_t {M1 : kMem} {q : Bool × kMem} {x y : Int32} (rb : RB (true, M1) q) (fr : Fr 9 M1 q.2) (h0 : q.2 9 4 = nI 0) (e : y = x) : ∃ y' M2, mri q y = rI y' M2 ∧ M2 9 4 = nI 0 ∧ y' = x ∧ R M2 M2 := by
  obtain ⟨ok, N⟩ := q
  obtain ⟨r1, r2, -⟩ := rb
  have r1 : true = ok := r1
  subst r1
  exact ⟨y, N, rfl, h0, e, R_fr9 r2 fr⟩
theorem mri_f {M1 : kMem} {q : Bool × kMem} {y : Int32} (rb : RB (false, M1) q) (fr : Fr 9 M1 q.2) : ∃ y' M2, mri q y = rI y' M2 ∧ M2 9 4 = nI 1 ∧ R M2 M2 := by
  obtain ⟨ok, N⟩ := q
  obtain ⟨r1, r2, -⟩ := rb
  have r1 : false = ok := r1
  subst r1
  exact ⟨nI 0, _, rfl, rfl, R_thr2 _ (R_fr9 r2 fr)⟩
theorem mrv_t {M1 : kMem} {q : Bool × kMem} (rb : RB (true, M1) q) (fr : Fr 9 M1 q.2) : ∃ M2, mrv q = rV M2 ∧ M2 9 4 = nI 0 ∧ R M2 M2 := by
  obtain ⟨ok, N⟩ := q
  obtain ⟨r1, r2, -⟩ := rb
  have r1 : true = ok := r1
  subst r1
  exact ⟨_, rfl, rfl, R_thr2 _ (R_fr9 r2 fr)⟩
theorem mrv_f {M1 : kMem} {q : Bool × kMem} (rb : RB (false, M1) q) (fr : Fr 9 M1 q.2) : ∃ M2, mrv q = rV M2 ∧ M2 9 4 = nI 1 ∧ R M2 M2 := by
  obtain ⟨ok, N⟩ := q
  obtain ⟨r1, r2, -⟩ := rb
  have r1 : false = ok := r1
  subst r1
  exact ⟨_, rfl, rfl, R_thr2 _ (R_fr9 r2 fr)⟩
/-- thrown is written, the rest stays -/
def Ft (M N : kMem) : Prop := ∀ k, (k < 9 ∨ 14 < k) → N k = M k
theorem R_ft {M1 N1 : kMem} (r : R M1 N1) (f : Ft M1 N1) : R N1 N1 := by
  unfold R at r ⊢
  rw [f 0 (by omega), f 1 (by omega), f 2 (by omega), f 3 (by omega), f 4 (by omega), f 5 (by omega)]
  exact r
theorem Ft_thr {M1 N : kMem} {c : Int32} (f : Fr 9 (mw M1 9 4 c) N) : Ft M1 N := fun k hk => (f.1 k (by omega)).trans (va_up_ne _ _ (by omega))
theorem mri_T {M1 : kMem} {q : Bool × kMem} {x y : Int32} (rb : RB (true, M1) q) (fr : Fr 9 (mw M1 9 4 (nI 0)) q.2) (e : y = x) : ∃ y' M2, mri q y = rI y' M2 ∧ M2 9 4 = nI 0 ∧ y' = x ∧ R M2 M2 := by
  obtain ⟨ok, N⟩ := q
  obtain ⟨r1, r2, -⟩ := rb
  have r1 : true = ok := r1
  subst r1
  exact ⟨y, N, rfl, fr.2, e, R_ft r2 (Ft_thr fr)⟩
theorem mri_F {M1 : kMem} {q : Bool × kMem} {y : Int32} (rb : RB (false, M1) q) (fr : Fr 9 (mw M1 9 4 (nI 0)) q.2) : ∃ y' M2, mri q y = rI y' M2 ∧ M2 9 4 = nI 1 ∧ R M2 M2 := by
  obtain ⟨ok, N⟩ := q
  obtain ⟨r1, r2, -⟩ := rb
  have r1 : false = ok := r1
  subst r1
  exact ⟨nI 0, _, rfl, rfl, R_thr2 _ (R_ft r2 (Ft_thr fr))⟩
theorem mrv_T {M1 : kMem} {q : Bool × kMem} (rb : RB (true, M1) q) (fr : Fr 9 (mw M1 9 4 (nI 0)) q.2) : ∃ M2, mrv q = rV M2 ∧ M2 9 4 = nI 0 ∧ R M2 M2 := by
  obtain ⟨ok, N⟩ := q
  obtain ⟨r1, r2, -⟩ := rb
  have r1 : true = ok := r1
  subst r1
  exact ⟨_, rfl, rfl, R_thr2 _ (R_ft r2 (Ft_thr fr))⟩
theorem mrv_F {M1 : kMem} {q : Bool × kMem} (rb : RB (false, M1) q) (fr : Fr 9 (mw M1 9 4 (nI 0)) q.2) : ∃ M2, mrv q = rV M2 ∧ M2 9 4 = nI 1 ∧ R M2 M2 := by
  obtain ⟨ok, N⟩ := q
  obtain ⟨r1, r2, -⟩ := rb
  have r1 : false = ok := r1
  subst r1
  exact ⟨_, rfl, rfl, R_thr2 _ (R_ft r2 (Ft_thr fr))⟩
section OPS
variable {d dm : Nat} {M : kMem}
theorem op_makeVolume (r : R M M) : kC (d + 3) kc_makeVolume [.ref 0] M (pI cdS (dm + 3) km_makeVolume [.ref 9]) := by
  obtain ⟨n, rn, w⟩ := r.hh
  have w' := wn.other rn w
  refine c_makeVolume w.1 w.2.1 (fun e => ?_) (fun e en => ?_) (fun e hn => ?_)
  · refine pI_x rfl (m_makeVolume w'.1 w'.2.1 (fun _ => ⟨_, _, rfl, rfl, R_thr2 _ r⟩) (fun e2 => absurd e2 (R_off r e)) (fun e2 => absurd e2 (R_off r e)))
  · have ro := R_on r e
    refine pI_i (m_makeVolume w'.1 w'.2.1 (fun e2 => absurd ro.off e2) (fun _ _ => ⟨_, _, rfl, rfl, rfl, R_thr2 _ r⟩) (fun _ hn => absurd hn (by omega)))
  · have ro := R_on r e
    have fr : ∀ q, nx 0 spC (mw (mw (mw (mw M 4 1 (nI n + nI 1)) 4 (2 + n) (nI 0)) 4 (8 + n) (nI 0)) 4 (14 + n) (nI 0)) = q → Fr 0 M q.2 := by
      intro q hq
      rw [← hq]
      exact ((((Fr_mw (by omega) (by omega)).trans (Fr_mw (by omega) (by omega))).trans (Fr_mw (by omega) (by omega))).trans (Fr_mw (by omega) (by omega))).trans (Fr_nx Fr_spC _)
    have go : ∀ M1 : kMem, Fr 0 M M1 → RB (nx 0 spC (mw (mw (mw (mw M 4 1 (nI n + nI 1)) 4 (2 + n) (nI 0)) 4 (8 + n) (nI 0)) 4 (14 + n) (nI 0))) (nx 9 spM (mw (mw (mw M1 9 4 (nI 0)) 13 1 (nI n + nI 1)) 13 (2 + n) (nI 0))) := by
      intro M1 f1
      refine R_nx ?_
      have e1 : mw (mw (mw (mw M 4 1 (nI n + nI 1)) 4 (2 + n) (nI 0)) 4 (8 + n) (nI 0)) 4 (14 + n) (nI 0) = va_up M 4 (upd (upd (upd (upd (M 4) 1 (nI n + nI 1)) (2 + n) (nI 0)) (8 + n) (nI 0)) (14 + n) (nI 0)) := by
        show mw (mw (mw (va_up M 4 _) 4 _ _) 4 _ _) 4 _ _ = _
        rw [mw_up, mw_up, mw_up]
      have e2 : mw (mw (mw M1 9 4 (nI 0)) 13 1 (nI n + nI 1)) 13 (2 + n) (nI 0) = va_up (mw M1 9 4 (nI 0)) 13 (upd (upd (M1 13) 1 (nI n + nI 1)) (2 + n) (nI 0)) := by
        show mw (va_up (mw M1 9 4 (nI 0)) 13 _) 13 _ _ = _
        rw [mw_up]
        rfl
      rw [e1, e2, f1.1 13 (by omega)]
      have r2 : RO M (mw M1 9 4 (nI 0)) := ⟨R_thr _ (R_fr0 r f1), ro.2⟩
      obtain ⟨q1, q2⟩ := add_HR rn w hn
      exact R_hand r2 ⟨n + 1, q1, q2⟩
    have fr9 : ∀ M1 : kMem, Fr 9 (mw M1 9 4 (nI 0)) (nx 9 spM (mw (mw (mw M1 9 4 (nI 0)) 13 1 (nI n + nI 1)) 13 (2 + n) (nI 0))).2 := fun M1 => ((Fr_mw (by omega) (by omega)).trans (Fr_mw (by omega) (by omega))).trans (Fr_nx Fr_spM _)
    have mc : ∀ M1 : kMem, Fr 0 M M1 → M1 13 1 = nI n := fun M1 f1 => by rw [f1.1 13 (by omega)]; exact w'.2.1
    have mo : ∀ M1 : kMem, Fr 0 M M1 → M1 9 0 = 0 := fun M1 f1 => by rw [f1.1 9 (by omega)]; exact ro.off
    refine pI_thi rfl (fun M1 hq => ?_) (fun M1 hq => ?_)
    · have f1 := fr _ hq
      have rb := go M1 f1
      rw [hq] at rb
      exact m_makeVolume w'.1 (mc M1 f1) (fun e2 => absurd (mo M1 f1) e2) (fun _ z => absurd z (by omega)) (fun _ _ => mri_T rb (fr9 M1) rfl)
    · have f1 := fr _ hq
      have rb := go M1 f1
      rw [hq] at rb
      exact m_makeVolume w'.1 (mc M1 f1) (fun e2 => absurd (mo M1 f1) e2) (fun _ z => absurd z (by omega)) (fun _ _ => mri_F rb (fr9 M1))
theorem nI_inj {a b : Nat} (ha : a < 1000) (hb : b < 1000) (h : nI a = nI b) : a = b := (nI_eq (by omega) (by omega)).mp h
theorem op_write {x t k w y : Int32} (r : R M M) : kC (d + 5) kc_write [.ref 0, .int x, .int t, .int k, .int w, .int y] M (pV cdSB (dm + 4) km_write [.ref 9, .int x, .int t, .int k, .int w, .int y]) := by
  refine c_write r.hh.wfh (fun e => ?_) (fun e e2 => ?_) (fun v s u j i e e2 e3 hv ex hs es hu eu hj ek hi ew => ?_)
  · exact pV_x rfl (m_write r.hh.wfg (fun _ => ⟨_, rfl, rfl, R_thr2 _ r⟩) (fun e2 => absurd e2 (R_off r e)) (fun _ _ _ _ _ e2 => absurd e2 (R_off r e)))
  · have ro := R_on r e
    refine pV_x rfl (m_write r.hh.wfg (fun e3 => absurd ro.off e3) (fun _ _ => ⟨_, rfl, rfl, R_thr2 _ r⟩) (fun v s u j i _ e9 => ?_))
    rw [← r.hh.bb, e2] at e9
    exact Bool.noConfusion e9
  · have ro := R_on r e
    have ev : isV (M 4) (nI v) = true := by
      unfold isB at e2
      rw [Bool.and_eq_true, Bool.and_eq_true] at e2
      rw [← ex]
      exact e2.1.1
    have fr : ∀ q, put 0 spC (mw (tk 0 M u v j) 5 i y) v u j = q → Fr 0 M q.2 := by
      intro q hq
      rw [← hq]
      exact ((Fr_tk _ _ _ _).trans (Fr_mw (by omega) (by omega))).trans (Fr_put Fr_spC _ _ _ _)
    have go : ∀ M1 : kMem, Fr 0 M M1 → RB (put 0 spC (mw (tk 0 M u v j) 5 i y) v u j) (put 9 spM (mw (tk 9 (mw M1 9 4 (nI 0)) u v j) 14 i y) v u j) := by
      intro M1 f1
      have r2 : RO M (mw M1 9 4 (nI 0)) := ⟨R_thr _ (R_fr0 r f1), ro.2⟩
      have r3 := R_tk r2 u v j
      have r4 : RO (mw (tk 0 M u v j) 5 i y) (mw (tk 9 (mw M1 9 4 (nI 0)) u v j) 14 i y) := R_fresh r3 (by rw [r3.1.ff])
      exact R_put r4 hv ev hu hj es hs
    have fr9 : ∀ M1 : kMem, Fr 9 (mw M1 9 4 (nI 0)) (put 9 spM (mw (tk 9 (mw M1 9 4 (nI 0)) u v j) 14 i y) v u j).2 := fun M1 => ((Fr_tk _ _ _ _).trans (Fr_mw (by omega) (by omega))).trans (Fr_put Fr_spM _ _ _ _)
    have run : ∀ (M1 : kMem) (P : kRes → Prop), Fr 0 M M1 → P (mrv (put 9 spM (mw (tk 9 (mw M1 9 4 (nI 0)) u v j) 14 i y) v u j)) → kC (dm + 4) km_write [.ref 9, .int x, .int t, .int k, .int w, .int y] M1 P := by
      intro M1 P f1 h
      have r1 := R_fr0 r f1
      refine m_write r1.hh.wfg (fun e9 => absurd (R_on r1 e).off e9) (fun _ e9 => ?_) (fun v' s' u' j' i' _ _ hv' ex' hs' es' hu' eu' hj' ek' hi' ew' => ?_)
      · rw [← r1.hh.bb, e2, e3] at e9
        exact Bool.noConfusion e9
      · have q1 : v = v' := nI_inj (by omega) (by omega) (ex.symm.trans ex')
        subst q1
        have q2 : s = s' := nI_inj (by omega) (by omega) (es.symm.trans ((r1.stt hv ev).trans es'))
        subst q2
        have q3 : u = u' := nI_inj (by omega) (by omega) (eu.symm.trans eu')
        subst q3
        have q4 : j = j' := nI_inj (by omega) (by omega) (ek.symm.trans ek')
        subst q4
        have q5 : i = i' := nI_inj (by omega) (by omega) (ew.symm.trans ew')
        subst q5
        exact h
    refine pV_thr rfl (fun M1 hq => ?_) (fun M1 hq => ?_)
    · have f1 := fr _ hq
      have rb := go M1 f1
      rw [hq] at rb
      exact run M1 _ f1 (mrv_T rb (fr9 M1))
    · have f1 := fr _ hq
      have rb := go M1 f1
      rw [hq] at rb
      exact run M1 _ f1 (mrv_F rb (fr9 M1))
theorem op_fill {x t k a0 a1 a2 a3 : Int32} (r : R M M) : kC (d + 5) kc_fill [.ref 0, .int x, .int t, .int k, .int a0, .int a1, .int a2, .int a3] M (pV cdSB (dm + 4) km_fill [.ref 9, .int x, .int t, .int k, .int a0, .int a1, .int a2, .int a3]) := by
  refine c_fill r.hh.wfh (fun e => ?_) (fun e e2 => ?_) (fun v s u j e e2 hv ex hs es hu eu hj ek => ?_)
  · exact pV_x rfl (m_fill r.hh.wfg (fun _ => ⟨_, rfl, rfl, R_thr2 _ r⟩) (fun e2 => absurd e2 (R_off r e)) (fun _ _ _ _ e2 => absurd e2 (R_off r e)))
  · have ro := R_on r e
    refine pV_x rfl (m_fill r.hh.wfg (fun e3 => absurd ro.off e3) (fun _ _ => ⟨_, rfl, rfl, R_thr2 _ r⟩) (fun v s u j _ e9 => ?_))
    rw [← r.hh.bb, e2] at e9
    exact Bool.noConfusion e9
  · have ro := R_on r e
    have ev : isV (M 4) (nI v) = true := by
      unfold isB at e2
      rw [Bool.and_eq_true, Bool.and_eq_true] at e2
      rw [← ex]
      exact e2.1.1
    have fr : ∀ q, put 0 spC (mw (mw (mw (mw M 5 0 a0) 5 1 a1) 5 2 a2) 5 3 a3) v u j = q → Fr 0 M q.2 := by
      intro q hq
      rw [← hq]
      exact ((((Fr_mw (by omega) (by omega)).trans (Fr_mw (by omega) (by omega))).trans (Fr_mw (by omega) (by omega))).trans (Fr_mw (by omega) (by omega))).trans (Fr_put Fr_spC _ _ _ _)
    have go : ∀ M1 : kMem, Fr 0 M M1 → RB (put 0 spC (mw (mw (mw (mw M 5 0 a0) 5 1 a1) 5 2 a2) 5 3 a3) v u j) (put 9 spM (mw (mw (mw (mw (mw M1 9 4 (nI 0)) 14 0 a0) 14 1 a1) 14 2 a2) 14 3 a3) v u j) := by
      intro M1 f1
      have r2 : RO M (mw M1 9 4 (nI 0)) := ⟨R_thr _ (R_fr0 r f1), ro.2⟩
      have step : ∀ {A B : kMem} (i : Nat) (a : Int32), RO A B → RO (mw A 5 i a) (mw B 14 i a) := fun i a h => R_fresh h (by rw [h.1.ff])
      exact R_put (step 3 a3 (step 2 a2 (step 1 a1 (step 0 a0 r2)))) hv ev hu hj es hs
    have fr9 : ∀ M1 : kMem, Fr 9 (mw M1 9 4 (nI 0)) (put 9 spM (mw (mw (mw (mw (mw M1 9 4 (nI 0)) 14 0 a0) 14 1 a1) 14 2 a2) 14 3 a3) v u j).2 := fun M1 => ((((Fr_mw (by omega) (by omega)).trans (Fr_mw (by omega) (by omega))).trans (Fr_mw (by omega) (by omega))).trans (Fr_mw (by omega) (by omega))).trans (Fr_put Fr_spM _ _ _ _)
    have run : ∀ (M1 : kMem) (P : kRes → Prop), Fr 0 M M1 → P (mrv (put 9 spM (mw (mw (mw (mw (mw M1 9 4 (nI 0)) 14 0 a0) 14 1 a1) 14 2 a2) 14 3 a3) v u j)) → kC (dm + 4) km_fill [.ref 9, .int x, .int t, .int k, .int a0, .int a1, .int a2, .int a3] M1 P := by
      intro M1 P f1 h
      have r1 := R_fr0 r f1
      refine m_fill r1.hh.wfg (fun e9 => absurd (R_on r1 e).off e9) (fun _ e9 => ?_) (fun v' s' u' j' _ _ hv' ex' hs' es' hu' eu' hj' ek' => ?_)
      · rw [← r1.hh.bb, e2] at e9
        exact Bool.noConfusion e9
      · have q1 : v = v' := nI_inj (by omega) (by omega) (ex.symm.trans ex')
        subst q1
        have q2 : s = s' := nI_inj (by omega) (by omega) (es.symm.trans ((r1.stt hv ev).trans es'))
        subst q2
        have q3 : u = u' := nI_inj (by omega) (by omega) (eu.symm.trans eu')
        subst q3
        have q4 : j = j' := nI_inj (by omega) (by omega) (ek.symm.trans ek')
        subst q4
        exact h
    refine pV_thr rfl (fun M1 hq => ?_) (fun M1 hq => ?_)
    · have f1 := fr _ hq
      have rb := go M1 f1
      rw [hq] at rb
      exact run M1 _ f1 (mrv_T rb (fr9 M1))
    · have f1 := fr _ hq
      have rb := go M1 f1
      rw [hq] at rb
      exact run M1 _ f1 (mrv_F rb (fr9 M1))
theorem op_read {x t k w : Int32} (r : R M M) : kC (d + 5) kc_read [.ref 0, .int x, .int t, .int k, .int w] M (pI cdSB (dm + 3) km_read [.ref 9, .int x, .int t, .int k, .int w]) := by
  refine c_read r.hh.wfh (fun e => ?_) (fun e e2 => ?_) (fun v s u j i e e2 e3 hv ex hs es hu eu hj ek hi ew => ?_)
  · exact pI_x rfl (m_read r.hh.wfg (fun _ => ⟨_, _, rfl, rfl, R_thr2 _ r⟩) (fun e2 => absurd e2 (R_off r e)) (fun _ _ _ _ _ e2 => absurd e2 (R_off r e)))
  · have ro := R_on r e
    refine pI_x rfl (m_read r.hh.wfg (fun e3 => absurd ro.off e3) (fun _ _ => ⟨_, _, rfl, rfl, R_thr2 _ r⟩) (fun v s u j i _ e9 => ?_))
    rw [← r.hh.bb, e2] at e9
    exact Bool.noConfusion e9
  · have ro := R_on r e
    have ev : isV (M 4) (nI v) = true := by
      unfold isB at e2
      rw [Bool.and_eq_true, Bool.and_eq_true] at e2
      rw [← ex]
      exact e2.1.1
    refine pI_i (m_read r.hh.wfg (fun e9 => absurd ro.off e9) (fun _ e9 => ?_) (fun v' s' u' j' i' _ _ hv' ex' hs' es' hu' eu' hj' ek' hi' ew' => ?_))
    · rw [← r.hh.bb, e2, e3] at e9
      exact Bool.noConfusion e9
    · have q1 : v = v' := nI_inj (by omega) (by omega) (ex.symm.trans ex')
      subst q1
      have q2 : s = s' := nI_inj (by omega) (by omega) (es.symm.trans ((r.stt hv ev).trans es'))
      subst q2
      have q3 : u = u' := nI_inj (by omega) (by omega) (eu.symm.trans eu')
      subst q3
      have q4 : j = j' := nI_inj (by omega) (by omega) (ek.symm.trans ek')
      subst q4
      have q5 : i = i' := nI_inj (by omega) (by omega) (ew.symm.trans ew')
      subst q5
      exact ⟨_, _, rfl, rfl, by rw [r.ww], R_thr2 _ r⟩
theorem op_split (r : R M M) : kC (d + 3) kc_split [.ref 0] M (pI cdS (dm + 3) km_split [.ref 9]) := by
  obtain ⟨n, rn, w⟩ := r.hh
  have w' := wn.other rn w
  have hn6 := w.1
  have hW : ∀ i, i < 4 → ¬ M 13 (20 + i) = -1 → ∃ p, p < 48 ∧ M 13 (20 + i) = nI p := by
    intro i hi e
    obtain ⟨c, hc, g1, g2⟩ := w'.2.2.2
    rcases Nat.lt_or_ge i c with z | z
    · obtain ⟨p, hp, ep⟩ := g1 i z
      exact ⟨p, by omega, ep⟩
    · exact absurd (g2 i z hi) e
  refine c_split w.1 w.2.1 (fun e => ?_) (fun e => ?_)
  · exact pI_x rfl (m_split w'.1 w'.2.1 hW (fun _ => ⟨_, _, rfl, rfl, R_thr2 _ r⟩) (fun e2 => absurd e2 (R_off r e)))
  · have ro := R_on r e
    obtain ⟨s1, s2⟩ := split_HR rn w
    generalize hq : spCn n n 0 (M 4) = q at s1 s2
    generalize hq' : spMn n n 0 (wkp (M 13) (kpM (M 13))) = q' at s1 s2
    have run : ∀ (M1 : kMem) (P : kRes → Prop), Fr 0 M M1 → P (if q'.1 = 0 then rI (nI 0) (va_up (mw M1 9 4 (nI 0)) 13 q'.2) else mri (nx 9 spM (va_up (mw M1 9 4 (nI 0)) 13 q'.2)) (nI q'.1)) → kC (dm + 3) km_split [.ref 9] M1 P := by
      intro M1 P f1 h
      have e13 : M1 13 = M 13 := f1.1 13 (by omega)
      refine m_split w'.1 (by rw [e13]; exact w'.2.1) (by rw [e13]; exact hW) (fun e9 => absurd ?_ e9) (fun _ => ?_)
      · rw [f1.1 9 (by omega)]
        exact ro.off
      · rw [e13, hq']
        exact h
    show pI cdS (dm + 3) km_split [.ref 9] (if q.1 = 0 then rI (nI 0) (va_up M 4 q.2) else thi (nx 0 spC (va_up M 4 q.2)) (nI q.1))
    rw [← s1] at run
    by_cases e0 : q.1 = 0
    · rw [if_pos e0]
      simp only [if_pos e0] at run
      have f1 : Fr 0 M (va_up M 4 q.2) := Fr_up (by omega) (by omega)
      refine pI_i (run _ _ f1 ⟨_, _, rfl, rfl, rfl, ?_⟩)
      have r2 : R (va_up M 4 q.2) (va_up (mw (va_up M 4 q.2) 9 4 (nI 0)) 13 q'.2) := by
        obtain ⟨p, a1, a2, a3, w, f, g1, g2, g3⟩ := r
        exact ⟨p, a1, a2, a3, w, f, g1, g2, s2⟩
      exact R_ft r2 (fun k hk => by rw [va_up_ne _ _ (by omega)]; exact va_up_ne _ _ (by omega))
    · rw [if_neg e0]
      simp only [if_neg e0] at run
      have fr : ∀ q9, nx 0 spC (va_up M 4 q.2) = q9 → Fr 0 M q9.2 := fun q9 h9 => by
        rw [← h9]
        exact (Fr_up (by omega) (by omega)).trans (Fr_nx Fr_spC _)
      have go : ∀ M1 : kMem, Fr 0 M M1 → RB (nx 0 spC (va_up M 4 q.2)) (nx 9 spM (va_up (mw M1 9 4 (nI 0)) 13 q'.2)) := fun M1 f1 => R_nx (R_hand ⟨R_thr _ (R_fr0 r f1), ro.2⟩ s2)
      have fr9 : ∀ M1 : kMem, Fr 9 (mw M1 9 4 (nI 0)) (nx 9 spM (va_up (mw M1 9 4 (nI 0)) 13 q'.2)).2 := fun M1 => (Fr_up (by omega) (by omega)).trans (Fr_nx Fr_spM _)
      refine pI_thi rfl (fun M1 h9 => ?_) (fun M1 h9 => ?_)
      · have f1 := fr _ h9
        have rb := go M1 f1
        rw [h9] at rb
        exact run M1 _ f1 (mri_T rb (fr9 M1) rfl)
      · have f1 := fr _ h9
        have rb := go M1 f1
        rw [h9] at rb
        exact run M1 _ f1 (mri_F rb (fr9 M1))
theorem op_rejoin {x t : Int32} (r : R M M) : kC (d + 3) kc_rejoin [.ref 0, .int x, .int t] M (pV cdSBU (dm + 3) km_rejoin [.ref 9, .int x, .int t]) := by
  refine c_rejoin r.hh.wfh (fun e => ?_) (fun e e2 => ?_) (fun v u e ev hv ex hu et es => ?_) (fun v u e ev hv ex hu et es => ?_)
  · exact pV_x rfl (m_rejoin r.hh.wfg (fun _ => ⟨_, rfl, rfl, R_thr2 _ r⟩) (fun e2 => absurd e2 (R_off r e)) (fun _ _ e2 => absurd e2 (R_off r e)) (fun _ _ e2 => absurd e2 (R_off r e)))
  · have ro := R_on r e
    have bad : ∀ {v u : Nat}, isV (M 13) x = true → u < 2 → t = nI u → False := by
      intro v u q1 q2 q3
      rw [← r.hh.vv] at q1
      rw [q1, q3, inR_nI q2 (by decide)] at e2
      exact Bool.noConfusion e2
    exact pV_x rfl (m_rejoin r.hh.wfg (fun e9 => absurd ro.off e9) (fun _ _ => ⟨_, rfl, rfl, R_thr2 _ r⟩) (fun v u _ q1 _ _ q2 q3 _ => (bad (v := v) q1 q2 q3).elim) (fun v u _ q1 _ _ q2 q3 _ => (bad (v := v) q1 q2 q3).elim))
  · have ro := R_on r e
    have e9 : (isV (M 13) x && inR t 2) = true := by rw [← r.hh.vv, ev, et, inR_nI hu (by decide)]; rfl
    subst ex
    refine pV_x rfl (m_rejoin r.hh.wfg (fun e9 => absurd ro.off e9) (fun _ q => absurd (e9.symm.trans q) (by decide)) (fun v' u' _ _ _ _ _ _ _ => ⟨_, rfl, rfl, R_thr2 _ r⟩) (fun v' u' _ _ hv' ex' _ _ q => ?_))
    have q1 : v = v' := nI_inj (by omega) (by omega) ex'
    subst q1
    exact absurd ((r.stt hv ev).trans q) es
  · have ro := R_on r e
    subst ex
    have fr : ∀ q, nx 0 spC (mw M 4 (2 + v) (nI (2 + u))) = q → Fr 0 M q.2 := fun q hq => by
      rw [← hq]
      exact (Fr_mw (by omega) (by omega)).trans (Fr_nx Fr_spC _)
    have go : ∀ M1 : kMem, Fr 0 M M1 → RB (nx 0 spC (mw M 4 (2 + v) (nI (2 + u)))) (nx 9 spM (mw (mw M1 9 4 (nI 0)) 13 (2 + v) (nI (2 + u)))) := by
      intro M1 f1
      have r2 : RO M (mw M1 9 4 (nI 0)) := ⟨R_thr _ (R_fr0 r f1), ro.2⟩
      refine R_nx (R_hand r2 ?_)
      obtain ⟨n, rn, w⟩ := r2.1.hh
      have hn := w.1
      have hvn := w.lt hv ev
      exact ⟨n, rn.up (by unfold kab; omega), w.st hvn (by omega) (fun z => absurd z (by omega))⟩
    have fr9 : ∀ M1 : kMem, Fr 9 (mw M1 9 4 (nI 0)) (nx 9 spM (mw (mw M1 9 4 (nI 0)) 13 (2 + v) (nI (2 + u)))).2 := fun M1 => (Fr_mw (by omega) (by omega)).trans (Fr_nx Fr_spM _)
    have run : ∀ (M1 : kMem) (P : kRes → Prop), Fr 0 M M1 → P (mrv (nx 9 spM (mw (mw M1 9 4 (nI 0)) 13 (2 + v) (nI (2 + u))))) → kC (dm + 3) km_rejoin [.ref 9, .int (nI v), .int t] M1 P := by
      intro M1 P f1 h
      have r1 := R_fr0 r f1
      have e9 : (isV (M1 13) (nI v) && inR t 2) = true := by rw [← r1.hh.vv, ev, et, inR_nI hu (by decide)]; rfl
      refine m_rejoin r1.hh.wfg (fun e9 => absurd (R_on r1 e).off e9) (fun _ q => absurd (e9.symm.trans q) (by decide)) (fun v' u' _ _ hv' ex' _ _ q => ?_) (fun v' u' _ _ hv' ex' hu' et' q => ?_)
      · have q1 : v = v' := nI_inj (by omega) (by omega) ex'
        subst q1
        exact absurd ((r1.stt hv ev).symm.trans es) q
      · have q1 : v = v' := nI_inj (by omega) (by omega) ex'
        subst q1
        have q2 : u = u' := nI_inj (by omega) (by omega) (et.symm.trans et')
        subst q2
        exact h
    refine pV_thr rfl (fun M1 hq => ?_) (fun M1 hq => ?_)
    · have f1 := fr _ hq
      have rb := go M1 f1
      rw [hq] at rb
      exact run M1 _ f1 (mrv_T rb (fr9 M1))
    · have f1 := fr _ hq
      have rb := go M1 f1
      rw [hq] at rb
      exact run M1 _ f1 (mrv_F rb (fr9 M1))
end OPS
