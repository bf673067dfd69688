/-! the relation R: the system's part of M, the reference's part of N; what both do keeps it -/
def R (M N : kMem) : Prop := ((M 0 0 = nI 1 ∧ N 9 0 = nI 0) ∨ (M 0 0 = nI 0 ∧ N 9 0 = nI 1)) ∧ M 0 1 = N 9 1 ∧ M 0 2 = N 9 2 ∧ M 0 3 = N 9 3 ∧ M 1 = N 10 ∧ M 5 = N 14 ∧ HR (M 2) (N 11) ∧ HR (M 3) (N 12) ∧ HR (M 4) (N 13)
def RO (M N : kMem) : Prop := R M N ∧ M 0 0 = nI 1
def RB (q q' : Bool × kMem) : Prop := q.1 = q'.1 ∧ R q.2 q'.2 ∧ (q.1 = true → q.2 0 0 = nI 1)
section RS
variable {M N : kMem}
theorem RO.off (r : RO M N) : N 9 0 = nI 0 := r.1.1.elim (fun z => z.2) (fun z => absurd (r.2.symm.trans z.1) (by decide))
theorem RB_f (r : R M N) : RB (false, M) (false, N) := ⟨rfl, r, fun z => Bool.noConfusion (show false = true from z)⟩
theorem RB_t (r : RO M N) : RB (true, M) (true, N) := ⟨rfl, r.1, fun _ => r.2⟩
theorem RB_cases {q q' : Bool × kMem} (h : RB q q') : (∃ M N, q = (true, M) ∧ q' = (true, N) ∧ RO M N) ∨ (∃ M N, q = (false, M) ∧ q' = (false, N) ∧ R M N) := by
  obtain ⟨b, M⟩ := q
  obtain ⟨b', N⟩ := q'
  obtain ⟨h1, h2, h3⟩ := h
  have h1 : b = b' := h1
  subst h1
  cases b
  · exact Or.inr ⟨M, N, rfl, rfl, h2⟩
  · exact Or.inl ⟨M, N, rfl, rfl, h2, h3 rfl⟩
theorem R_sp (r : RO M N) : RB (spC M) (spM N) := by
  have off := r.off
  obtain ⟨⟨p, a1, a2, a3, w, f, g1, g2, g3⟩, on⟩ := r
  unfold spC spM
  rw [if_neg (show ¬ ¬ N 9 0 = 0 from fun z => z off)]
  by_cases e : M 0 1 = 0
  · have e' : N 9 1 = 0 := a1 ▸ e
    rw [if_pos e, if_pos e']
    exact ⟨rfl, ⟨Or.inr ⟨rfl, rfl⟩, rfl, a2, a3, w, f, g1, g2, g3⟩, fun z => Bool.noConfusion (show false = true from z)⟩
  · have e' : ¬ N 9 1 = 0 := a1 ▸ e
    rw [if_neg e, if_neg e']
    have a2' : M 0 2 + nI 1 = N 9 2 + nI 1 := by rw [a2]
    by_cases e2 : M 0 1 ≤ 0
    · have e2' : N 9 1 ≤ 0 := a1 ▸ e2
      rw [if_pos e2, if_pos e2']
      exact ⟨rfl, ⟨Or.inl ⟨on, off⟩, a1, a2', a3, w, f, g1, g2, g3⟩, fun _ => on⟩
    · have e2' : ¬ N 9 1 ≤ 0 := a1 ▸ e2
      rw [if_neg e2, if_neg e2']
      have a1' : M 0 1 - nI 1 = N 9 1 - nI 1 := by rw [a1]
      exact ⟨rfl, ⟨Or.inl ⟨on, off⟩, a1', a2', a3, w, f, g1, g2, g3⟩, fun _ => on⟩
theorem R_hand {h g : Nat → Int32} (r : RO M N) (hg : HR h g) : RO (va_up M 4 h) (va_up N 13 g) := by
  obtain ⟨⟨p, a1, a2, a3, w, f, g1, g2, g3⟩, on⟩ := r
  exact ⟨⟨p, a1, a2, a3, w, f, g1, g2, hg⟩, on⟩
theorem R_hand' {h g : Nat → Int32} (r : R M N) (hg : HR h g) : R (va_up M 4 h) (va_up N 13 g) := by
  obtain ⟨p, a1, a2, a3, w, f, g1, g2, g3⟩ := r
  exact ⟨p, a1, a2, a3, w, f, g1, g2, hg⟩
theorem R_words {X Y : Nat → Int32} (r : RO M N) (hg : X = Y) : RO (va_up M 1 X) (va_up N 10 Y) := by
  obtain ⟨⟨p, a1, a2, a3, w, f, g1, g2, g3⟩, on⟩ := r
  exact ⟨⟨p, a1, a2, a3, hg, f, g1, g2, g3⟩, on⟩
theorem R_fresh {X Y : Nat → Int32} (r : RO M N) (hg : X = Y) : RO (va_up M 5 X) (va_up N 14 Y) := by
  obtain ⟨⟨p, a1, a2, a3, w, f, g1, g2, g3⟩, on⟩ := r
  exact ⟨⟨p, a1, a2, a3, w, hg, g1, g2, g3⟩, on⟩
theorem R.hh (r : R M N) : HR (M 4) (N 13) := r.2.2.2.2.2.2.2.2
theorem R.ww (r : R M N) : M 1 = N 10 := r.2.2.2.2.1
theorem R.ff (r : R M N) : M 5 = N 14 := r.2.2.2.2.2.1
theorem R_wh (r : RO M N) {t : Nat} (ht : t < 2) : RB (wh 0 spC M t) (wh 9 spM N t) := by
  have cp : ∀ (s f : Nat → Int32) (k : Nat), k < 24 → va_cpy s f 0 0 24 k = s k := fun s f k hk => by
    unfold va_cpy
    rw [if_pos (by omega), show 0 + (k - 0) = k by omega]
  unfold wh
  rcases RB_cases (R_sp r) with ⟨M1, N1, e1, e2, r1⟩ | ⟨M1, N1, e1, e2, r1⟩
  · rw [e1, e2]
    obtain ⟨⟨p, a1, a2, a3, w, f, g1, g2, g3⟩, on⟩ := r1
    have g9 := fun f1 f2 => g3.cong (h' := va_cpy (M1 4) f1 0 0 24) (g' := va_cpy (N1 13) f2 0 0 24) (cp _ _) (cp _ _)
    rcases (show t = 0 ∨ t = 1 by omega) with rfl | rfl
    · exact ⟨rfl, ⟨p, a1, a2, a3, w, f, g9 _ _, g2, g3⟩, fun _ => on⟩
    · exact ⟨rfl, ⟨p, a1, a2, a3, w, f, g1, g9 _ _, g3⟩, fun _ => on⟩
  · rw [e1, e2]
    exact RB_f r1
theorem R_nx (r : RO M N) : RB (nx 0 spC M) (nx 9 spM N) := by
  have r0 : RO (mw M 4 0 (M 4 0 + nI 1)) (mw N 13 0 (N 13 0 + nI 1)) := by
    refine R_hand r ?_
    obtain ⟨n, rn, w⟩ := r.1.hh
    rw [← rn.nr]
    exact ⟨n, rn.up (by unfold kab; omega), w.nr _⟩
  have h := R_wh r0 (t := 0) (by decide)
  show RB (match wh 0 spC (mw M 4 0 (M 4 0 + nI 1)) 0 with | (true, M1) => wh 0 spC M1 1 | (false, M1) => (false, M1)) (match wh 9 spM (mw N 13 0 (N 13 0 + nI 1)) 0 with | (true, M1) => wh 9 spM M1 1 | (false, M1) => (false, M1))
  rcases RB_cases h with ⟨M1, N1, e1, e2, r1⟩ | ⟨M1, N1, e1, e2, r1⟩
  · rw [e1, e2]
    exact R_wh r1 (by decide)
  · rw [e1, e2]
    exact RB_f r1
theorem R_wb (r : RO M N) (t v k : Nat) : RB (wb 0 spC M t v k) (wb 9 spM N t v k) := by
  unfold wb
  rcases RB_cases (R_sp r) with ⟨M1, N1, e1, e2, r1⟩ | ⟨M1, N1, e1, e2, r1⟩
  · rw [e1, e2]
    refine RB_t (R_words r1 ?_)
    show va_cpy (M1 5) (M1 1) 0 (pl t v k) 4 = va_cpy (N1 14) (N1 10) 0 (pl t v k) 4
    rw [r1.1.ff, r1.1.ww]
  · rw [e1, e2]
    exact RB_f r1
theorem R_tk (r : RO M N) (t v k : Nat) : RO (tk 0 M t v k) (tk 9 N t v k) := by
  refine R_fresh r ?_
  show va_cpy (M 1) (M 5) (pl t v k) 0 4 = va_cpy (N 10) (N 14) (pl t v k) 0 4
  rw [r.1.ff, r.1.ww]
theorem R_crn (v r t : Nat) : ∀ (n : Nat) {M N : kMem}, RO M N → RB (crn 0 spC v r t n M) (crn 9 spM v r t n N) := by
  intro n
  induction n with
  | zero => intro M N h; exact RB_t h
  | succ n ih =>
    intro M N h
    unfold crn
    have e : sm (M (0 + 1)) v (8 * r + (7 - n)) = sm (N (9 + 1)) v (8 * r + (7 - n)) := by
      show sm (M 1) _ _ = sm (N 10) _ _
      rw [h.1.ww]
    rw [e]
    split
    · exact ih h
    · rcases RB_cases (R_wb (R_tk h t v (8 * r + (7 - n))) (1 - t) v (8 * r + (7 - n))) with ⟨M1, N1, e1, e2, r1⟩ | ⟨M1, N1, e1, e2, r1⟩
      · rw [e1, e2]
        exact ih r1
      · rw [e1, e2]
        exact RB_f r1
theorem R_cr (h : RO M N) (v r t : Nat) : RB (cr 0 spC M v r t) (cr 9 spM N v r t) := R_crn v r t 8 h
theorem R_mkb (h : RO M N) {v t r s : Nat} (hv : v < 6) (ev : isV (M 4) (nI v) = true) (ht : t < 2) (hr : r < 8) (es : M 4 (2 + v) = nI s) (hs : s < 4) (hs0 : s ≠ 0) : RB (mkb 0 spC M v t r) (mkb 9 spM N v t r) := by
  obtain ⟨n, rn, w⟩ := h.1.hh
  have hn := w.lt hv ev
  have e := rn.mt w.1 hn ht
  unfold mkb
  have e0 : bt (M (0 + 4) (8 + t * 6 + v)) r = bt (N (9 + 4) (8 + t * 6 + v)) r := by
    show bt (M 4 _) _ = bt (N 13 _) _
    rw [e]
  rw [e0]
  split
  · exact RB_t h
  · refine R_nx (R_hand h ?_)
    show HR (upd (M 4) (8 + t * 6 + v) (M 4 (8 + t * 6 + v) ||| bit1 r)) (upd (N 13) (8 + t * 6 + v) (N 13 (8 + t * 6 + v) ||| bit1 r))
    rw [← e]
    have hn6 := w.1
    refine ⟨n, rn.up (by unfold kab; omega), w.mp hn ht ?_ (fun z => ?_)⟩
    · obtain ⟨-, l1, l2, -⟩ := w.2.2.1 v hn
      refine lo8_set ?_ r hr
      rcases (show t = 0 ∨ t = 1 by omega) with rfl | rfl
      · rw [show 8 + 0 * 6 + v = 8 + v by omega]
        exact l1
      · rw [show 8 + 1 * 6 + v = 14 + v by omega]
        exact l2
    · rw [es] at z
      exact absurd ((nI_eq (by omega) (by decide)).mp z) hs0
theorem R_enb (h : RO M N) {v r : Nat} (hv : v < 6) (ev : isV (M 4) (nI v) = true) (hr : r < 8) : RB (enb 0 spC M v r) (enb 9 spM N v r) := by
  obtain ⟨n, rn, w⟩ := h.1.hh
  have hn := w.lt hv ev
  unfold enb
  have e0 : inw (M (0 + 4)) (nI (v * 8 + r)) = inw (N (9 + 4)) (nI (v * 8 + r)) := rn.iw _
  rw [e0]
  split
  · exact RB_t h
  · refine R_nx (R_hand h ?_)
    obtain ⟨q1, q2⟩ := ent_HR rn w (p := v * 8 + r) (by omega)
    exact ⟨n, q1, q2⟩
theorem R.opn (h : R M N) {v : Nat} (hv : v < 6) (ev : isV (M 4) (nI v) = true) (r : Nat) : opn (M 4) v r = opn (N 13) v r := by
  obtain ⟨n, rn, w⟩ := h.hh
  have hn := w.lt hv ev
  show (bt (M 4 (8 + v)) r || bt (M 4 (14 + v)) r) = (bt (N 13 (8 + v)) r || bt (N 13 (14 + v)) r)
  rw [rn.m0 w.1 hn, rn.m1 w.1 hn]
theorem R.stt (h : R M N) {v : Nat} (hv : v < 6) (ev : isV (M 4) (nI v) = true) : M 4 (2 + v) = N 13 (2 + v) := by
  obtain ⟨n, rn, w⟩ := h.hh
  exact rn.st w.1 (w.lt hv ev)
theorem R_put (h : RO M N) {v t k s : Nat} (hv : v < 6) (ev : isV (M 4) (nI v) = true) (ht : t < 2) (hk : k < 64) (es : M 4 (2 + v) = nI s) (hs : s < 4) : RB (put 0 spC M v t k) (put 9 spM N v t k) := by
  have e0 : M (0 + 4) (2 + v) = N (9 + 4) (2 + v) := h.1.stt hv ev
  unfold put
  rw [← e0]
  by_cases e1 : M (0 + 4) (2 + v) = nI 1
  · rw [if_pos e1, if_pos e1]
    have hs1 : s = 1 := (nI_eq (by omega) (by decide)).mp (es.symm.trans e1)
    rcases RB_cases (R_mkb h hv ev ht (r := k / 8) (by omega) es hs (by omega)) with ⟨M1, N1, f1, f2, r1⟩ | ⟨M1, N1, f1, f2, r1⟩
    · rw [f1, f2]
      exact R_wb r1 _ _ _
    · rw [f1, f2]
      exact RB_f r1
  · rw [if_neg e1, if_neg e1]
    have e2 : opn (M (0 + 4)) v (k / 8) = opn (N (9 + 4)) v (k / 8) := h.1.opn hv ev _
    rw [← e2]
    split
    · exact R_wb h _ _ _
    · rcases RB_cases (R_enb h hv ev (r := k / 8) (by omega)) with ⟨M1, N1, f1, f2, r1⟩ | ⟨M1, N1, f1, f2, r1⟩
      · rw [f1, f2]
        show RB (match wb 0 spC M1 t v k with | (true, M2) => wb 0 spC M2 (1 - t) v k | (false, M2) => (false, M2)) (match wb 9 spM N1 t v k with | (true, M2) => wb 9 spM M2 (1 - t) v k | (false, M2) => (false, M2))
        rcases RB_cases (R_wb r1 t v k) with ⟨M2, N2, p1, p2, r2⟩ | ⟨M2, N2, p1, p2, r2⟩
        · rw [p1, p2]
          exact R_wb r2 _ _ _
        · rw [p1, p2]
          exact RB_f r2
      · rw [f1, f2]
        exact RB_f r1
end RS
