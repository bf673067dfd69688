/-! the relation: split -/
abbrev kT : Int32 → Bool := fun _ => true
section RU
variable {h g : Nat → Int32}
theorem wkn_filter (h : Nat → Int32) (kp : Int32 → Bool) : ∀ i, wkn h kp i = (wkn h kT i).filter kp := by
  intro i
  induction i with
  | zero => rfl
  | succ i ih =>
    unfold wkn
    by_cases e : h (20 + i) = -1
    · rw [if_pos e, if_pos e]
      exact ih
    · rw [if_neg e, if_neg e, if_pos rfl, List.filter_append, ← ih]
      by_cases e2 : kp (h (20 + i)) = true
      · rw [if_pos e2]
        simp [e2]
      · rw [if_neg e2]
        simp [e2]
theorem wkn_cong {h' : Nat → Int32} (e : ∀ i, i < 4 → h' (20 + i) = h (20 + i)) (kp : Int32 → Bool) : ∀ i, i ≤ 4 → wkn h' kp i = wkn h kp i := by
  intro i
  induction i with
  | zero => intro _; rfl
  | succ i ih =>
    intro hi
    unfold wkn
    rw [ih (by omega), e i (by omega)]
theorem wkn_mem (h : Nat → Int32) (kp : Int32 → Bool) : ∀ i, ∀ a, a ∈ wkn h kp i → ¬ a = -1 ∧ ∃ j, j < i ∧ a = h (20 + j) := by
  intro i
  induction i with
  | zero => intro a ha; exact absurd ha List.not_mem_nil
  | succ i ih =>
    intro a ha
    unfold wkn at ha
    have up : a ∈ wkn h kp i → ¬ a = -1 ∧ ∃ j, j < i + 1 ∧ a = h (20 + j) := fun z => by
      obtain ⟨p1, j, hj, p2⟩ := ih a z
      exact ⟨p1, j, by omega, p2⟩
    split at ha
    · exact up ha
    · rename_i e
      split at ha
      · rcases List.mem_append.mp ha with z | z
        · exact up z
        · have z : a = h (20 + i) := by simpa using z
          exact ⟨by rw [z]; exact e, i, by omega, z⟩
      · exact up ha
theorem wkn_wnd (l : List Int32) (hl : l.length ≤ 4) (hne : ∀ a, a ∈ l → ¬ a = -1) : wkn (wnd h l 4) kT 4 = l := by
  have e : ∀ i, i ≤ 4 → wkn (wnd h l 4) kT i = l.take i := by
    intro i
    induction i with
    | zero => intro _; simp [wkn]
    | succ i ih =>
      intro hi
      unfold wkn
      rw [ih (by omega), wnd_hi (by omega)]
      rcases Nat.lt_or_ge i l.length with z | z
      · have e1 : l.getD i (-1) = l[i] := by rw [List.getD_eq_getElem?_getD, List.getElem?_eq_getElem z]; rfl
        rw [e1, if_neg (hne _ (List.getElem_mem z)), if_pos rfl, List.take_succ, List.getElem?_eq_getElem z]
        rfl
      · have e1 : l.getD i (-1) = -1 := by rw [List.getD_eq_getElem?_getD, List.getElem?_eq_none z]; rfl
        rw [e1, if_pos rfl, List.take_of_length_le z, List.take_of_length_le (by omega)]
  rw [e 4 (Nat.le_refl _), List.take_of_length_le hl]
theorem wfW.cmp {n : Nat} (w : wfW h n) (hn : n ≤ 6) {i : Nat} (hi : i < 4) : h (20 + i) = (wkn h kT 4).getD i (-1) := by
  obtain ⟨c, hc, g1, g2⟩ := w
  have e9 : ∀ j, j < 48 → ¬ nI j = -1 := by decide +kernel
  have g3 : ∀ i, i < c → ¬ h (20 + i) = -1 := fun i hi => by
    obtain ⟨p, hp, e⟩ := g1 i hi
    rw [e]
    exact e9 p (by omega)
  have f0 : 0 < c → ¬ h 20 = -1 := g3 0
  have f1 : 1 < c → ¬ h 21 = -1 := g3 1
  have f2 : 2 < c → ¬ h 22 = -1 := g3 2
  have f3 : 3 < c → ¬ h 23 = -1 := g3 3
  have q0 : c ≤ 0 → h 20 = -1 := fun z => g2 0 z (by decide)
  have q1 : c ≤ 1 → h 21 = -1 := fun z => g2 1 z (by decide)
  have q2 : c ≤ 2 → h 22 = -1 := fun z => g2 2 z (by decide)
  have q3 : c ≤ 3 → h 23 = -1 := fun z => g2 3 z (by decide)
  have e : wkn h kT 4 = (if h 20 = -1 then [] else [h 20]) ++ (if h 21 = -1 then [] else [h 21]) ++ (if h 22 = -1 then [] else [h 22]) ++ (if h 23 = -1 then [] else [h 23]) := by
    simp only [wkn, if_true, Nat.add_zero]
    by_cases a0 : h 20 = -1 <;> by_cases a1 : h 21 = -1 <;> by_cases a2 : h 22 = -1 <;> by_cases a3 : h 23 = -1 <;> simp [a0, a1, a2, a3]
  rw [e]
  rcases (show c = 0 ∨ c = 1 ∨ c = 2 ∨ c = 3 ∨ c = 4 by omega) with rfl | rfl | rfl | rfl | rfl
  · rw [if_pos (q0 (by decide)), if_pos (q1 (by decide)), if_pos (q2 (by decide)), if_pos (q3 (by decide))]
    exact g2 i (by omega) hi
  · rw [if_neg (f0 (by decide)), if_pos (q1 (by decide)), if_pos (q2 (by decide)), if_pos (q3 (by decide))]
    rcases (show i = 0 ∨ i = 1 ∨ i = 2 ∨ i = 3 by omega) with rfl | rfl | rfl | rfl
    · rfl
    · exact q1 (by decide)
    · exact q2 (by decide)
    · exact q3 (by decide)
  · rw [if_neg (f0 (by decide)), if_neg (f1 (by decide)), if_pos (q2 (by decide)), if_pos (q3 (by decide))]
    rcases (show i = 0 ∨ i = 1 ∨ i = 2 ∨ i = 3 by omega) with rfl | rfl | rfl | rfl
    · rfl
    · rfl
    · exact q2 (by decide)
    · exact q3 (by decide)
  · rw [if_neg (f0 (by decide)), if_neg (f1 (by decide)), if_neg (f2 (by decide)), if_pos (q3 (by decide))]
    rcases (show i = 0 ∨ i = 1 ∨ i = 2 ∨ i = 3 by omega) with rfl | rfl | rfl | rfl
    · rfl
    · rfl
    · rfl
    · exact q3 (by decide)
  · rw [if_neg (f0 (by decide)), if_neg (f1 (by decide)), if_neg (f2 (by decide)), if_neg (f3 (by decide))]
    rcases (show i = 0 ∨ i = 1 ∨ i = 2 ∨ i = 3 by omega) with rfl | rfl | rfl | rfl
    · rfl
    · rfl
    · rfl
    · rfl
/-- what a place of the window is -/
theorem wfW.pl {n : Nat} (w : wfW h n) {a : Int32} (kp : Int32 → Bool) (ha : a ∈ wkn h kp 4) : ∃ p, p < 8 * n ∧ a = nI p := by
  obtain ⟨c, hc, g1, g2⟩ := w
  obtain ⟨p1, j, hj, p2⟩ := wkn_mem h kp 4 a ha
  rcases Nat.lt_or_ge j c with z | z
  · obtain ⟨p, hp, e⟩ := g1 j z
    exact ⟨p, hp, p2.trans e⟩
  · exact absurd (p2.trans (g2 j z hj)) p1
theorem wfW.kp {n : Nat} (w : wfW h n) (kp : Int32 → Bool) : wfW (wkp h kp) n := by
  refine ⟨(wkn h kp 4).length, wkn_len h kp 4, fun i hi => ?_, fun i hi hi4 => ?_⟩
  · have hl := wkn_len h kp 4
    have e : wkp h kp (20 + i) = (wkn h kp 4).getD i (-1) := wnd_hi (by omega)
    rw [e, List.getD_eq_getElem?_getD, List.getElem?_eq_getElem hi]
    exact w.pl kp (List.getElem_mem hi)
  · have e : wkp h kp (20 + i) = (wkn h kp 4).getD i (-1) := wnd_hi hi4
    rw [e, List.getD_eq_getElem?_getD, List.getElem?_eq_none hi]
    rfl
theorem wn.sp1 {n v : Nat} (w : wn n h) (hv : v < n) : wn n (sp1 h v) := by
  have hn := w.1
  have w1 := w.st (s := 1) hv (by decide) (fun z => absurd z (by decide))
  have w2 := w1.mp (t := 0) (x := nI 0) hv (by decide) ⟨0, by decide, rfl⟩ (fun _ => rfl)
  rw [show 8 + 0 * 6 + v = 8 + v by omega] at w2
  have w3 := w2.mp (t := 1) (x := nI 0) hv (by decide) ⟨0, by decide, rfl⟩ (fun _ => rfl)
  rw [show 8 + 1 * 6 + v = 14 + v by omega] at w3
  exact w3.win (fun k hk => wnd_lo hk) (w3.2.2.2.kp _)
theorem split_rel {N : Nat} : ∀ (n c : Nat) (h g : Nat → Int32), n ≤ N → (∀ k, k < 20 → (kab N k → h k = -1 ∧ (8 ≤ k → g k = nI 0)) ∧ (¬ kab N k → h k = g k)) → wn N h → (∀ u, u < N - n → ¬ h (2 + u) = nI 0) → (∀ i, i < 4 → g (20 + i) = ((wkn h kT 4).filter (kpM h)).getD i (-1)) →
    (spCn N n c h).1 = (spMn N n c g).1 ∧ HRn N (spCn N n c h).2 (spMn N n c g).2 ∧ wn N (spCn N n c h).2 := by
  intro n
  induction n with
  | zero =>
    intro c h g hn lo w hst hg
    refine ⟨rfl, fun k hk => ?_, w⟩
    have hn6 := w.1
    rcases Nat.lt_or_ge k 20 with z | z
    · exact lo k z
    · refine ⟨fun a => absurd a (by unfold kab; omega), fun _ => ?_⟩
      have e : (wkn h kT 4).filter (kpM h) = wkn h kT 4 := by
        refine List.filter_eq_self.mpr (fun a ha => ?_)
        obtain ⟨p, hp, rfl⟩ := w.2.2.2.pl kT ha
        unfold kpM
        rw [nI_clamp (show p < 2 ^ 31 by omega)]
        exact decide_eq_true (hst (p / 8) (by omega))
      have e2 := hg (k - 20) (by omega)
      rw [e, ← w.2.2.2.cmp w.1 (by omega), show 20 + (k - 20) = k by omega] at e2
      exact e2.symm
  | succ n ih =>
    intro c h g hn lo w hst hg
    have hn6 := w.1
    generalize hv : N - (n + 1) = v at hst
    have hvN : v < N := by omega
    have e0 : h (2 + v) = g (2 + v) := (lo (2 + v) (by omega)).2 (by unfold kab; omega)
    unfold spCn spMn
    rw [hv, ← e0]
    by_cases e : h (2 + v) = nI 0
    · rw [if_pos e, if_pos e]
      have lo' : ∀ k, k < 20 → sp1 h v k = upd (upd (upd h (2 + v) (nI 1)) (8 + v) (nI 0)) (14 + v) (nI 0) k := fun k hk => wnd_lo hk
      have up : ∀ {h g : Nat → Int32} {j : Nat} {x : Int32}, ¬ kab N j → (∀ k, k < 20 → (kab N k → h k = -1 ∧ (8 ≤ k → g k = nI 0)) ∧ (¬ kab N k → h k = g k)) → ∀ k, k < 20 → (kab N k → upd h j x k = -1 ∧ (8 ≤ k → upd g j x k = nI 0)) ∧ (¬ kab N k → upd h j x k = upd g j x k) := by
        intro h g j x hj r k hk
        by_cases e : k = j
        · subst e
          rw [pk_us, pk_us]
          exact ⟨fun z => absurd z hj, fun _ => rfl⟩
        · rw [pk_un e, pk_un e]
          exact r k hk
      refine ih (c + 1) (sp1 h v) _ (by omega) (fun k hk => ?_) (w.sp1 hvN) (fun u hu => ?_) (fun i hi => ?_)
      · rw [lo' k hk]
        exact up (by unfold kab; omega) (up (by unfold kab; omega) (up (by unfold kab; omega) lo)) k hk
      · rw [lo' _ (by omega), pk_un (by omega), pk_un (by omega)]
        by_cases eu : u = v
        · subst eu
          rw [pk_us]
          decide
        · rw [pk_un (by omega)]
          exact hst u (by omega)
      · rw [pk_un (by omega), pk_un (by omega), pk_un (by omega), hg i hi]
        congr 1
        have e1 : wkn (sp1 h v) kT 4 = (wkn h kT 4).filter (fun a => decide (¬ a / nI 8 = nI v)) := by
          unfold sp1 wkp
          rw [wkn_wnd _ (wkn_len _ _ 4) (fun a ha => (wkn_mem _ _ 4 a ha).1), wkn_filter]
          congr 1
          exact wkn_cong (fun i hi => by rw [pk_un (by omega), pk_un (by omega), pk_un (by omega)]) _ 4 (Nat.le_refl _)
        rw [e1, List.filter_filter]
        refine List.filter_congr (fun a ha => ?_)
        obtain ⟨p, hp, rfl⟩ := w.2.2.2.pl kT ha
        have hc : (nI p).toNatClampNeg = p := nI_clamp (by omega)
        have hd8 : nI p / nI 8 = nI (p / 8) := pk_div (by omega) (by decide) (by decide)
        unfold kpM
        rw [hc, hd8]
        by_cases ep : p / 8 = v
        · rw [ep, e]
          simp
        · have ne : ¬ nI (p / 8) = nI v := fun z => ep ((nI_eq (by omega) (by omega)).mp z)
          rw [lo' _ (by omega), pk_un (by omega), pk_un (by omega), pk_un (by omega), decide_eq_true ne, Bool.and_true]
    · rw [if_neg e, if_neg e]
      refine ih c h g (by omega) lo w (fun u hu => ?_) hg
      by_cases eu : u = v
      · subst eu
        exact e
      · exact hst u (by omega)
theorem split_HR {N : Nat} (r : HRn N h g) (w : wn N h) : (spCn N N 0 h).1 = (spMn N N 0 (wkp g (kpM g))).1 ∧ HR (spCn N N 0 h).2 (spMn N N 0 (wkp g (kpM g))).2 := by
  have hn6 := w.1
  obtain ⟨q1, q2, q3⟩ := split_rel (N := N) N 0 h (wkp g (kpM g)) (Nat.le_refl _) (fun k hk => by rw [show wkp g (kpM g) k = g k from wnd_lo hk]; exact r k (by omega)) w (fun u hu => absurd hu (by omega)) (fun i hi => by
    have e : wkp g (kpM g) (20 + i) = (wkn g (kpM g) 4).getD i (-1) := wnd_hi hi
    rw [e, wkn_filter, wkn_cong (h := h) (fun i hi => (r.wi hi).symm) _ 4 (Nat.le_refl _)]
    congr 1
    refine List.filter_congr (fun a ha => ?_)
    obtain ⟨p, hp, rfl⟩ := w.2.2.2.pl kT ha
    unfold kpM
    rw [nI_clamp (show p < 2 ^ 31 by omega), r.st hn6 (show p / 8 < N by omega)])
  exact ⟨q1, N, q2, q3⟩
end RU
