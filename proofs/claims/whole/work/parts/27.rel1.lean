/-! the relation between the system's header and the reference's -/
def kab (n k : Nat) : Prop := 2 ≤ k ∧ k < 20 ∧ n ≤ (k - 2) % 6
def HRn (n : Nat) (h g : Nat → Int32) : Prop := ∀ k, k < 24 → (kab n k → h k = -1 ∧ (8 ≤ k → g k = nI 0)) ∧ (¬ kab n k → h k = g k)
def wn (n : Nat) (h : Nat → Int32) : Prop := n ≤ 6 ∧ h 1 = nI n ∧ (∀ v, v < n → wfV h v) ∧ wfW h n
def HR (h g : Nat → Int32) : Prop := ∃ n, HRn n h g ∧ wn n h
theorem HR.wfh {h g : Nat → Int32} (r : HR h g) : wf h := r.imp (fun _ z => z.2)
section HRS
variable {n : Nat} {h g : Nat → Int32}
theorem HRn.at (r : HRn n h g) {k : Nat} (hk : k < 24) (ha : ¬ kab n k) : h k = g k := (r k hk).2 ha
theorem HRn.st (r : HRn n h g) (hn : n ≤ 6) {v : Nat} (hv : v < n) : h (2 + v) = g (2 + v) := r.at (by omega) (by unfold kab; omega)
theorem HRn.m0 (r : HRn n h g) (hn : n ≤ 6) {v : Nat} (hv : v < n) : h (8 + v) = g (8 + v) := r.at (by omega) (by unfold kab; omega)
theorem HRn.m1 (r : HRn n h g) (hn : n ≤ 6) {v : Nat} (hv : v < n) : h (14 + v) = g (14 + v) := r.at (by omega) (by unfold kab; omega)
theorem HRn.mt (r : HRn n h g) (hn : n ≤ 6) {v t : Nat} (hv : v < n) (ht : t < 2) : h (8 + t * 6 + v) = g (8 + t * 6 + v) := r.at (by omega) (by unfold kab; omega)
theorem HRn.wi (r : HRn n h g) {i : Nat} (hi : i < 4) : h (20 + i) = g (20 + i) := r.at (by omega) (by unfold kab; omega)
theorem HRn.nr (r : HRn n h g) : h 0 = g 0 := r.at (by omega) (by unfold kab; omega)
theorem HRn.ct (r : HRn n h g) : h 1 = g 1 := r.at (by omega) (by unfold kab; omega)
theorem HRn.cong {h' g' : Nat → Int32} (r : HRn n h g) (e1 : ∀ k, k < 24 → h' k = h k) (e2 : ∀ k, k < 24 → g' k = g k) : HRn n h' g' := by
  intro k hk
  rw [e1 k hk, e2 k hk]
  exact r k hk
theorem wfV.cong {h' : Nat → Int32} {v : Nat} (w : wfV h v) (e1 : h' (2 + v) = h (2 + v)) (e2 : h' (8 + v) = h (8 + v)) (e3 : h' (14 + v) = h (14 + v)) : wfV h' v := by
  unfold wfV
  rw [e1, e2, e3]
  exact w
theorem wfW.cong {h' : Nat → Int32} (w : wfW h n) (e : ∀ i, i < 4 → h' (20 + i) = h (20 + i)) : wfW h' n := by
  obtain ⟨c, hc, g1, g2⟩ := w
  refine ⟨c, hc, fun i hi => ?_, fun i hi hi4 => ?_⟩
  · rw [e i (by omega)]
    exact g1 i hi
  · rw [e i hi4]
    exact g2 i hi hi4
theorem wn.cong {h' : Nat → Int32} (w : wn n h) (e : ∀ k, k < 24 → h' k = h k) : wn n h' := by
  obtain ⟨hn, h1, hV, hW⟩ := w
  exact ⟨hn, (e 1 (by omega)).trans h1, fun v hv => (hV v hv).cong (e _ (by omega)) (e _ (by omega)) (e _ (by omega)), hW.cong (fun i hi => e _ (by omega))⟩
theorem HR.cong {h' g' : Nat → Int32} (r : HR h g) (e1 : ∀ k, k < 24 → h' k = h k) (e2 : ∀ k, k < 24 → g' k = g k) : HR h' g' := r.imp (fun _ z => ⟨z.1.cong e1 e2, z.2.cong e1⟩)
theorem wn.other (r : HRn n h g) (w : wn n h) : wn n g := by
  obtain ⟨hn, h1, hV, hW⟩ := w
  exact ⟨hn, r.ct.symm.trans h1, fun v hv => (hV v hv).cong (r.st hn hv).symm (r.m0 hn hv).symm (r.m1 hn hv).symm, hW.cong (fun i hi => (r.wi hi).symm)⟩
theorem HR.wfg (r : HR h g) : wf g := r.imp (fun _ z => wn.other z.1 z.2)
theorem HRn.up (r : HRn n h g) {j : Nat} {x : Int32} (hj : ¬ kab n j) : HRn n (upd h j x) (upd g j x) := by
  intro k hk
  by_cases e : k = j
  · subst e
    rw [pk_us, pk_us]
    exact ⟨fun z => absurd z hj, fun _ => rfl⟩
  · rw [pk_un e, pk_un e]
    exact r k hk
theorem wn.nr (w : wn n h) (x : Int32) : wn n (upd h 0 x) := by
  obtain ⟨hn, h1, hV, hW⟩ := w
  exact ⟨hn, (pk_un (by omega)).trans h1, fun v hv => (hV v hv).cong (pk_un (by omega)) (pk_un (by omega)) (pk_un (by omega)), hW.cong (fun i hi => pk_un (by omega))⟩
theorem wn.st (w : wn n h) {v s : Nat} (hv : v < n) (hs : s < 4) (h0 : s = 0 → h (8 + v) = nI 0 ∧ h (14 + v) = nI 0) : wn n (upd h (2 + v) (nI s)) := by
  obtain ⟨hn, h1, hV, hW⟩ := w
  refine ⟨hn, (pk_un (by omega)).trans h1, fun u hu => ?_, hW.cong (fun i hi => pk_un (by omega))⟩
  by_cases e : u = v
  · subst e
    obtain ⟨-, a, b, -⟩ := hV u hu
    refine ⟨⟨s, hs, pk_us⟩, by rw [pk_un (by omega)]; exact a, by rw [pk_un (by omega)]; exact b, fun z => ?_⟩
    rw [pk_us] at z
    rw [pk_un (by omega), pk_un (by omega)]
    exact h0 ((nI_eq (by omega) (by decide)).mp z)
  · exact (hV u hu).cong (pk_un (by omega)) (pk_un (by omega)) (pk_un (by omega))
theorem wn.mp (w : wn n h) {v t : Nat} {x : Int32} (hv : v < n) (ht : t < 2) (hx : lo8 x) (h0 : h (2 + v) = nI 0 → x = nI 0) : wn n (upd h (8 + t * 6 + v) x) := by
  obtain ⟨hn, h1, hV, hW⟩ := w
  refine ⟨hn, (pk_un (by omega)).trans h1, fun u hu => ?_, hW.cong (fun i hi => pk_un (by omega))⟩
  by_cases e : u = v
  · subst e
    obtain ⟨a, b, c, f⟩ := hV u hu
    rcases (show t = 0 ∨ t = 1 by omega) with rfl | rfl
    · have e1 : 8 + 0 * 6 + u = 8 + u := by omega
      rw [e1]
      refine ⟨by rw [pk_un (by omega)]; exact a, by rw [pk_us]; exact hx, by rw [pk_un (by omega)]; exact c, fun z => ?_⟩
      rw [pk_un (by omega)] at z
      rw [pk_us, pk_un (by omega)]
      exact ⟨h0 z, (f z).2⟩
    · have e1 : 8 + 1 * 6 + u = 14 + u := by omega
      rw [e1]
      refine ⟨by rw [pk_un (by omega)]; exact a, by rw [pk_un (by omega)]; exact b, by rw [pk_us]; exact hx, fun z => ?_⟩
      rw [pk_un (by omega)] at z
      rw [pk_un (by omega), pk_us]
      exact ⟨(f z).1, h0 z⟩
  · exact (hV u hu).cong (pk_un (by omega)) (pk_un (by omega)) (pk_un (by omega))
/-- only the window has changed -/
theorem wn.win {h' : Nat → Int32} (w : wn n h) (e : ∀ k, k < 20 → h' k = h k) (hW' : wfW h' n) : wn n h' := by
  obtain ⟨hn, h1, hV, hW⟩ := w
  exact ⟨hn, (e 1 (by omega)).trans h1, fun v hv => (hV v hv).cong (e _ (by omega)) (e _ (by omega)) (e _ (by omega)), hW'⟩
theorem HRn.win {h' g' : Nat → Int32} (r : HRn n h g) (e1 : ∀ k, k < 20 → h' k = h k) (e2 : ∀ k, k < 20 → g' k = g k) (e3 : ∀ i, i < 4 → h' (20 + i) = g' (20 + i)) : HRn n h' g' := by
  intro k hk
  rcases Nat.lt_or_ge k 20 with z | z
  · rw [e1 k z, e2 k z]
    exact r k hk
  · refine ⟨fun a => absurd a (by unfold kab; omega), fun _ => ?_⟩
    have := e3 (k - 20) (by omega)
    rw [show 20 + (k - 20) = k by omega] at this
    exact this
theorem HRn.sz (r : HRn n h g) : wsz h = wsz g := by
  have e0 : h 20 = g 20 := r.wi (i := 0) (by decide)
  have e1 : h 21 = g 21 := r.wi (i := 1) (by decide)
  have e2 : h 22 = g 22 := r.wi (i := 2) (by decide)
  have e3 : h 23 = g 23 := r.wi (i := 3) (by decide)
  simp [wsz, wsn, e0, e1, e2, e3]
theorem HRn.iw (r : HRn n h g) (x : Int32) : inw h x = inw g x := by
  have e0 : h 20 = g 20 := r.wi (i := 0) (by decide)
  have e1 : h 21 = g 21 := r.wi (i := 1) (by decide)
  have e2 : h 22 = g 22 := r.wi (i := 2) (by decide)
  have e3 : h 23 = g 23 := r.wi (i := 3) (by decide)
  simp [inw, e0, e1, e2, e3]
/-- a window without gaps: its size -/
theorem wfW.sz (w : wfW h n) (hn : n ≤ 6) : (∀ i, i < wsz h → ∃ p, p < 8 * n ∧ h (20 + i) = nI p) ∧ ∀ i, wsz h ≤ i → i < 4 → h (20 + i) = -1 := by
  obtain ⟨c, hc, g1, g2⟩ := w
  have e9 : ∀ j, j < 48 → ¬ nI j = -1 := by decide +kernel
  have g3 : ∀ i, i < c → ¬ h (20 + i) = -1 := fun i hi => by
    obtain ⟨p, hp, e⟩ := g1 i hi
    rw [e]
    exact e9 p (by omega)
  have e : wsz h = c := by
    have f0 : 0 < c → ¬ h 20 = -1 := g3 0
    have f1 : 1 < c → ¬ h 21 = -1 := g3 1
    have f2 : 2 < c → ¬ h 22 = -1 := g3 2
    have f3 : 3 < c → ¬ h 23 = -1 := g3 3
    have q0 : c ≤ 0 → h 20 = -1 := fun z => g2 0 z (by decide)
    have q1 : c ≤ 1 → h 21 = -1 := fun z => g2 1 z (by decide)
    have q2 : c ≤ 2 → h 22 = -1 := fun z => g2 2 z (by decide)
    have q3 : c ≤ 3 → h 23 = -1 := fun z => g2 3 z (by decide)
    unfold wsz
    show (if h 20 = -1 then 0 else if h 21 = -1 then 1 else if h 22 = -1 then 2 else if h 23 = -1 then 3 else 4) = c
    rcases (show c = 0 ∨ c = 1 ∨ c = 2 ∨ c = 3 ∨ c = 4 by omega) with rfl | rfl | rfl | rfl | rfl
    · rw [if_pos (q0 (by decide))]
    · rw [if_neg (f0 (by decide)), if_pos (q1 (by decide))]
    · rw [if_neg (f0 (by decide)), if_neg (f1 (by decide)), if_pos (q2 (by decide))]
    · rw [if_neg (f0 (by decide)), if_neg (f1 (by decide)), if_neg (f2 (by decide)), if_pos (q3 (by decide))]
    · rw [if_neg (f0 (by decide)), if_neg (f1 (by decide)), if_neg (f2 (by decide)), if_neg (f3 (by decide))]
  rw [e]
  exact ⟨g1, g2⟩
theorem ent_lo {x : Int32} {k : Nat} (hk : k < 20) : ent h x k = h k := by
  unfold ent
  split
  · rw [pk_un (by omega)]
    unfold va_cpy
    rw [if_neg (by omega)]
  · rw [pk_un (by omega)]
theorem ent_HR (r : HRn n h g) (w : wn n h) {p : Nat} (hp : p < 8 * n) : HRn n (ent h (nI p)) (ent g (nI p)) ∧ wn n (ent h (nI p)) := by
  have hl := wsz_le h
  obtain ⟨s1, s2⟩ := w.2.2.2.sz w.1
  refine ⟨r.win (fun k hk => ent_lo hk) (fun k hk => ent_lo hk) (fun i hi => ?_), w.win (fun k hk => ent_lo hk) ?_⟩
  · unfold ent
    rw [← r.sz]
    split
    · by_cases e : i = 3
      · subst e
        rw [pk_us, pk_us]
      · rw [pk_un (by omega), pk_un (by omega)]
        unfold va_cpy
        rw [if_pos (by omega), if_pos (by omega)]
        have := r.wi (i := i + 1) (by omega)
        rw [show 21 + (20 + i - 20) = 20 + (i + 1) by omega]
        exact this
    · by_cases e : 20 + i = 20 + wsz h
      · rw [e, pk_us, pk_us]
      · rw [pk_un e, pk_un e]
        exact r.wi hi
  · unfold ent
    by_cases e4 : wsz h = 4
    · rw [if_pos e4]
      refine ⟨4, by decide, fun i hi => ?_, fun i h1 h2 => absurd h2 (by omega)⟩
      by_cases e : i = 3
      · subst e
        exact ⟨p, hp, pk_us⟩
      · rw [pk_un (by omega)]
        unfold va_cpy
        rw [if_pos (by omega), show 21 + (20 + i - 20) = 20 + (i + 1) by omega]
        exact s1 (i + 1) (by omega)
    · rw [if_neg e4]
      refine ⟨wsz h + 1, by omega, fun i hi => ?_, fun i h1 h2 => ?_⟩
      · by_cases e : i = wsz h
        · subst e
          exact ⟨p, hp, pk_us⟩
        · rw [pk_un (by omega)]
          exact s1 i (by omega)
      · rw [pk_un (by omega)]
        exact s2 i (by omega) h2
theorem wnd_lo {l : List Int32} {k : Nat} (hk : k < 20) : wnd h l 4 k = h k := by
  unfold wnd
  rw [if_neg (by omega)]
theorem wnd_hi {l : List Int32} {i : Nat} (hi : i < 4) : wnd h l 4 (20 + i) = l.getD i (-1) := by
  unfold wnd
  rw [if_pos (by omega), show 20 + i - 20 = i by omega]
theorem wnd_HR (r : HRn n h g) (w : wn n h) : HRn n (wnd h [] 4) (wnd g [] 4) ∧ wn n (wnd h [] 4) := by
  refine ⟨r.win (fun k hk => wnd_lo hk) (fun k hk => wnd_lo hk) (fun i hi => ?_), w.win (fun k hk => wnd_lo hk) ⟨0, by decide, fun i hi => absurd hi (by omega), fun i _ hi => ?_⟩⟩
  · rw [wnd_hi hi, wnd_hi hi]
  · rw [wnd_hi hi]
    rfl
theorem add_HR (r : HRn n h g) (w : wn n h) (hn6 : n < 6) : HRn (n + 1) (upd (upd (upd (upd h 1 (nI n + nI 1)) (2 + n) (nI 0)) (8 + n) (nI 0)) (14 + n) (nI 0)) (upd (upd g 1 (nI n + nI 1)) (2 + n) (nI 0)) ∧ wn (n + 1) (upd (upd (upd (upd h 1 (nI n + nI 1)) (2 + n) (nI 0)) (8 + n) (nI 0)) (14 + n) (nI 0)) := by
  obtain ⟨hn, h1, hV, hW⟩ := w
  refine ⟨fun k hk => ?_, by omega, ?_, fun v hv => ?_, ?_⟩
  · by_cases k1 : k = 1
    · subst k1
      refine ⟨fun z => absurd z (by unfold kab; omega), fun _ => ?_⟩
      rw [pk_un (by omega), pk_un (by omega), pk_un (by omega), pk_us, pk_un (by omega), pk_us]
    by_cases k2 : k = 2 + n
    · subst k2
      refine ⟨fun z => absurd z (by unfold kab; omega), fun _ => ?_⟩
      rw [pk_un (by omega), pk_un (by omega), pk_us, pk_us]
    by_cases k3 : k = 8 + n
    · subst k3
      refine ⟨fun z => absurd z (by unfold kab; omega), fun _ => ?_⟩
      rw [pk_un (by omega), pk_us, pk_un (by omega), pk_un (by omega)]
      exact (((r (8 + n) hk).1 (by unfold kab; omega)).2 (by omega)).symm
    by_cases k4 : k = 14 + n
    · subst k4
      refine ⟨fun z => absurd z (by unfold kab; omega), fun _ => ?_⟩
      rw [pk_us, pk_un (by omega), pk_un (by omega)]
      exact (((r (14 + n) hk).1 (by unfold kab; omega)).2 (by omega)).symm
    rw [pk_un k4, pk_un k3, pk_un k2, pk_un k1, pk_un k2, pk_un k1]
    have e : kab (n + 1) k ↔ kab n k := by unfold kab; omega
    rw [e]
    exact r k hk
  · rw [pk_un (by omega), pk_un (by omega), pk_un (by omega), pk_us]
    exact nI_1 n
  · by_cases e : v = n
    · subst e
      refine ⟨⟨0, by decide, ?_⟩, ⟨0, by decide, ?_⟩, ⟨0, by decide, pk_us⟩, fun _ => ⟨?_, pk_us⟩⟩
      · rw [pk_un (by omega), pk_un (by omega), pk_us]
      · rw [pk_un (by omega), pk_us]
      · rw [pk_un (by omega), pk_us]
    · refine (hV v (by omega)).cong ?_ ?_ ?_
      · rw [pk_un (by omega), pk_un (by omega), pk_un (by omega), pk_un (by omega)]
      · rw [pk_un (by omega), pk_un (by omega), pk_un (by omega), pk_un (by omega)]
      · rw [pk_un (by omega), pk_un (by omega), pk_un (by omega), pk_un (by omega)]
  · obtain ⟨c, hc, g1, g2⟩ := hW
    refine ⟨c, hc, fun i hi => ?_, fun i hi hi4 => ?_⟩
    · rw [pk_un (by omega), pk_un (by omega), pk_un (by omega), pk_un (by omega)]
      obtain ⟨p, hp, e⟩ := g1 i hi
      exact ⟨p, by omega, e⟩
    · rw [pk_un (by omega), pk_un (by omega), pk_un (by omega), pk_un (by omega)]
      exact g2 i hi hi4
end HRS
theorem HR.vv {h g : Nat → Int32} (r : HR h g) (x : Int32) : isV h x = isV g x := by
  obtain ⟨n, r, -⟩ := r
  unfold isV
  rw [r.ct]
theorem wn.lt {n : Nat} {h : Nat → Int32} (w : wn n h) {v : Nat} (hv : v < 6) (e : isV h (nI v) = true) : v < n := by
  obtain ⟨v', hv', ev'⟩ := isV_t w.1 w.2.1 e
  have hn := w.1
  have ev2 : v = v' := (nI_eq (by omega) (by omega)).mp ev'
  omega
theorem HR.bb {h g : Nat → Int32} (r : HR h g) (x t k : Int32) : isB h x t k = isB g x t k := by
  unfold isB
  rw [← r.vv]
  cases e : isV h x
  · rfl
  · obtain ⟨n, r, w⟩ := r
    obtain ⟨v, hv, rfl⟩ := isV_t w.1 w.2.1 e
    have hn := w.1
    rw [nI_clamp (show v < 2 ^ 31 by omega), r.st w.1 hv]
