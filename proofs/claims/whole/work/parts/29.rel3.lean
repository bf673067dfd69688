/-! the relation: a step, run, the start -/
section RT
variable {M N : kMem}
theorem nx_hand (b : Nat) (sp : kMem → Bool × kMem) (hsp : ∀ M k, (k = b + 1 ∨ k = b + 2 ∨ k = b + 3 ∨ k = b + 4 ∨ k = b + 5) → (sp M).2 k = M k) (M : kMem) : (nx b sp M).2 (b + 4) = upd (M (b + 4)) 0 (M (b + 4) 0 + nI 1) := by
  have e1 : ∀ (M' : kMem) (t : Nat), t < 2 → (wh b sp M' t).2 (b + 4) = M' (b + 4) := by
    intro M' t ht
    have h9 := hsp M' (b + 4) (Or.inr (Or.inr (Or.inr (Or.inl rfl))))
    unfold wh
    rcases hx : sp M' with ⟨ok, M1⟩
    rw [hx] at h9
    cases ok
    · exact h9
    · show va_up M1 (b + 2 + t) _ (b + 4) = _
      rw [va_up_ne _ _ (by omega)]
      exact h9
  have e2 := e1 (mw M (b + 4) 0 (M (b + 4) 0 + nI 1)) 0 (by decide)
  unfold nx
  rcases hx : wh b sp (mw M (b + 4) 0 (M (b + 4) 0 + nI 1)) 0 with ⟨ok, M1⟩
  rw [hx] at e2
  have e3 : M1 (b + 4) = upd (M (b + 4)) 0 (M (b + 4) 0 + nI 1) := e2.trans (va_up_self _ _ _)
  cases ok
  · exact e3
  · exact (e1 M1 1 (by decide)).trans e3
/-- the header behind a step's clearing -/
def clh (h : Nat → Int32) (v r : Nat) : Nat → Int32 := upd (upd h (8 + v) (h (8 + v) &&& (bit1 r ^^^ -1))) (14 + v) (h (14 + v) &&& (bit1 r ^^^ -1))
def jnh (h : Nat → Int32) (v : Nat) : Nat → Int32 := if marks h v = 0 then upd h (2 + v) (nI 0) else h
theorem clr_up (b : Nat) (M : kMem) (v r : Nat) : clr b M v r = va_up M (b + 4) (clh (M (b + 4)) v r) := by
  unfold clr clh mw
  dsimp only
  rw [bx_uu, va_up_self, pk_un (k := 8 + v) (j := 14 + v) (by omega)]
theorem jn_up (b : Nat) (M : kMem) (v : Nat) : jn b M v = va_up M (b + 4) (jnh (M (b + 4)) v) := by
  unfold jn jnh marks
  split
  · rfl
  · exact (up_id _ _).symm
theorem clh_marks (h : Nat → Int32) (v r : Nat) : marks (clh h v r) v = marks h v &&& (bit1 r ^^^ -1) := by
  unfold marks clh
  rw [pk_un (show 8 + v ≠ 14 + v by omega), pk_us, pk_us, and_or]
theorem clh_un {h : Nat → Int32} {v r k : Nat} (h1 : k ≠ 8 + v) (h2 : k ≠ 14 + v) : clh h v r k = h k := by
  unfold clh
  rw [pk_un h2, pk_un h1]
theorem jnh_un {h : Nat → Int32} {v k : Nat} (h1 : k ≠ 2 + v) : jnh h v k = h k := by
  unfold jnh
  split
  · rw [pk_un h1]
  · rfl
/-- the header behind a whole step -/
def sth (h : Nat → Int32) (v : Nat) : Nat → Int32 := if low h v < 8 then jnh (clh h v (low h v)) v else jnh h v
theorem stp_true (b : Nat) (sp : kMem → Bool × kMem) (hsp : ∀ M k, (k = b + 1 ∨ k = b + 2 ∨ k = b + 3 ∨ k = b + 4 ∨ k = b + 5) → (sp M).2 k = M k) {M M1 : kMem} {v t : Nat} (e : stp b sp M v t = (true, M1)) : M1 (b + 4) = upd (sth (M (b + 4)) v) 0 (sth (M (b + 4)) v 0 + nI 1) := by
  have q : ∀ {M M1 : kMem} {c : Int32}, stq b sp M v c = (true, M1) → M1 (b + 4) = upd (jnh (M (b + 4)) v) 0 (jnh (M (b + 4)) v 0 + nI 1) := by
    intro M M1 c e
    have h9 := nx_hand b sp hsp (jn b M v)
    unfold stq at e
    rcases hx : nx b sp (jn b M v) with ⟨ok, M2⟩
    rw [hx] at e h9
    cases ok
    · exact Bool.noConfusion (show false = true from congrArg Prod.fst e)
    · have e : (true, mw M2 b 3 (M2 b 3 + c)) = (true, M1) := e
      have e := congrArg Prod.snd e
      have e : mw M2 b 3 (M2 b 3 + c) = M1 := e
      rw [← e]
      show va_up M2 b _ (b + 4) = _
      rw [va_up_ne _ _ (by omega)]
      rw [jn_up, va_up_self] at h9
      exact h9
  unfold stp at e
  unfold sth
  by_cases hl : low (M (b + 4)) v < 8
  · rw [if_pos hl] at e
    rw [if_pos hl]
    have h9 := crn_hand b sp hsp v (low (M (b + 4)) v) t 8 M
    rcases hx : cr b sp M v (low (M (b + 4)) v) t with ⟨ok, M2⟩
    rw [hx] at e
    rw [show crn b sp v (low (M (b + 4)) v) t 8 M = (ok, M2) from hx] at h9
    cases ok
    · exact Bool.noConfusion (show false = true from congrArg Prod.fst e)
    · have e := q e
      have h9 : M2 (b + 4) = M (b + 4) := h9
      rw [clr_up, va_up_self, h9] at e
      exact e
  · rw [if_neg hl] at e
    rw [if_neg hl]
    exact q e
theorem marks_un {h : Nat → Int32} {v k : Nat} {x : Int32} (h1 : k ≠ 8 + v) (h2 : k ≠ 14 + v) : marks (upd h k x) v = marks h v := by
  unfold marks
  rw [pk_un (Ne.symm h1), pk_un (Ne.symm h2)]
/-- a step makes the regions to do fewer -/
theorem sth_less {h : Nat → Int32} {v s : Nat} (hv : v < 6) (es : h (2 + v) = nI s) (l1 : lo8 (h (8 + v))) (l2 : lo8 (h (14 + v))) : sth h v (2 + v) = nI 0 ∨ (sth h v (2 + v) = nI s ∧ lo8 (sth h v (8 + v)) ∧ lo8 (sth h v (14 + v)) ∧ 1 ≤ cnt (marks (sth h v) v) ∧ cnt (marks (sth h v) v) < cnt (marks h v)) := by
  obtain ⟨a, ha, ea⟩ := lo8_or l1 l2
  have ea : marks h v = nI a := ea
  obtain ⟨f1, f2, f3, f4, f5⟩ := cnt_fact a ha
  have el : low h v = lowzn (nI a) 8 := by rw [← ea]; exact low_z h v 8
  unfold sth
  by_cases hl : low h v < 8
  · rw [if_pos hl]
    rw [el] at hl
    have q1 := f4 hl
    have q2 := cnt_clr a ha _ hl q1
    rw [← el] at hl q1 q2
    have q3 : marks (clh h v (low h v)) v = nI a &&& (bit1 (low h v) ^^^ -1) := by rw [clh_marks, ea]
    unfold jnh
    by_cases z : marks (clh h v (low h v)) v = 0
    · rw [if_pos z]
      exact Or.inl pk_us
    · rw [if_neg z]
      refine Or.inr ⟨?_, ?_, ?_, ?_, ?_⟩
      · rw [clh_un (by omega) (by omega)]
        exact es
      · unfold clh
        rw [pk_un (by omega), pk_us]
        exact lo8_and l1 _ hl
      · unfold clh
        rw [pk_us]
        exact lo8_and l2 _ hl
      · obtain ⟨a', ha', ea'⟩ := lo8_and ⟨a, ha, rfl⟩ (low h v) hl
        rw [q3, ea']
        rw [q3, ea'] at z
        exact Nat.pos_of_ne_zero (fun z2 => z ((cnt_fact a' ha').1.mp z2))
      · rw [q3, ea]
        omega
  · rw [if_neg hl]
    rw [el] at hl
    have z : marks h v = 0 := ea.trans (f5 hl)
    unfold jnh
    rw [if_pos z]
    exact Or.inl pk_us
theorem stp_less (b : Nat) (sp : kMem → Bool × kMem) (hsp : ∀ M k, (k = b + 1 ∨ k = b + 2 ∨ k = b + 3 ∨ k = b + 4 ∨ k = b + 5) → (sp M).2 k = M k) {M M1 : kMem} {v t s : Nat} (hv : v < 6) (es : M (b + 4) (2 + v) = nI s) (l1 : lo8 (M (b + 4) (8 + v))) (l2 : lo8 (M (b + 4) (14 + v))) (e : stp b sp M v t = (true, M1)) : M1 (b + 4) (2 + v) = nI 0 ∨ (M1 (b + 4) (2 + v) = nI s ∧ lo8 (M1 (b + 4) (8 + v)) ∧ lo8 (M1 (b + 4) (14 + v)) ∧ 1 ≤ cnt (marks (M1 (b + 4)) v) ∧ cnt (marks (M1 (b + 4)) v) < cnt (marks (M (b + 4)) v)) := by
  have h9 := stp_true b sp hsp e
  have hl := sth_less hv es l1 l2
  rw [h9, marks_un (by omega) (by omega), pk_un (by omega), pk_un (by omega), pk_un (by omega)]
  exact hl
/-- the state only, of whichever maps -/
theorem stp_state {M M1 : kMem} {v t s : Nat} (es : M 4 (2 + v) = nI s) (e : stp 0 spC M v t = (true, M1)) : M1 4 (2 + v) = nI s ∨ M1 4 (2 + v) = nI 0 := by
  have h9 : M1 4 = upd (sth (M 4) v) 0 (sth (M 4) v 0 + nI 1) := stp_true 0 spC spC_keep e
  rw [h9, pk_un (by omega)]
  have j : ∀ h : Nat → Int32, h (2 + v) = nI s → jnh h v (2 + v) = nI s ∨ jnh h v (2 + v) = nI 0 := by
    intro h e
    unfold jnh
    split
    · exact Or.inr pk_us
    · exact Or.inl e
  unfold sth
  split
  · refine j _ ?_
    rw [clh_un (by omega) (by omega)]
    exact es
  · exact j _ es
theorem sth_1 (h : Nat → Int32) (v : Nat) : sth h v 1 = h 1 := by
  unfold sth
  split
  · rw [jnh_un (by omega), clh_un (by omega) (by omega)]
  · rw [jnh_un (by omega)]
/-- the headers behind clearing, and behind joining -/
theorem clh_HR {n : Nat} {h g : Nat → Int32} (r : HRn n h g) (w : wn n h) {v z : Nat} (hv : v < n) (hz : z < 8) : HRn n (clh h v z) (clh g v z) ∧ wn n (clh h v z) := by
  have hn := w.1
  obtain ⟨-, l1, l2, f⟩ := w.2.2.1 v hv
  have zz : ∀ m : Int32, nI 0 &&& m = nI 0 := fun m => by
    apply b_ext
    intro i hi
    rw [b_and]
    show (bt 0 i && _) = bt 0 i
    rw [b_0]
    rfl
  constructor
  · unfold clh
    rw [← r.m0 hn hv, ← r.m1 hn hv]
    exact (r.up (by unfold kab; omega)).up (by unfold kab; omega)
  · unfold clh
    have w1 := w.mp (t := 0) (x := h (8 + v) &&& (bit1 z ^^^ -1)) hv (by decide) (lo8_and l1 _ hz) (fun q => by rw [(f q).1]; exact zz _)
    rw [show 8 + 0 * 6 + v = 8 + v by omega] at w1
    have w2 := w1.mp (t := 1) (x := h (14 + v) &&& (bit1 z ^^^ -1)) hv (by decide) (lo8_and l2 _ hz) (fun q => by rw [pk_un (by omega)] at q; rw [(f q).2]; exact zz _)
    rw [show 8 + 1 * 6 + v = 14 + v by omega] at w2
    exact w2
theorem or_0 {a b : Nat} (ha : a < 256) (hb : b < 256) (h : nI a ||| nI b = 0) : nI a = nI 0 ∧ nI b = nI 0 := by
  rw [nI_or a b ha hb] at h
  have h1 : a ||| b < 2 ^ 8 := Nat.or_lt_two_pow ha hb
  have h2 : a ||| b = 0 := (nI_eq (by omega) (by decide)).mp (show nI (a ||| b) = nI 0 from h)
  have h3 := Nat.or_eq_zero_iff.mp h2
  rw [h3.1, h3.2]
  exact ⟨rfl, rfl⟩
theorem jnh_HR {n : Nat} {h g : Nat → Int32} (r : HRn n h g) (w : wn n h) {v : Nat} (hv : v < n) : HRn n (jnh h v) (jnh g v) ∧ wn n (jnh h v) := by
  have hn := w.1
  obtain ⟨-, ⟨a, ha, ea⟩, ⟨b, hb, eb⟩, f⟩ := w.2.2.1 v hv
  have e : marks h v = marks g v := by
    unfold marks
    rw [r.m0 hn hv, r.m1 hn hv]
  unfold jnh
  rw [← e]
  by_cases z : marks h v = 0
  · rw [if_pos z, if_pos z]
    refine ⟨r.up (by unfold kab; omega), w.st (s := 0) hv (by decide) (fun _ => ?_)⟩
    unfold marks at z
    rw [ea, eb] at z
    rw [ea, eb]
    exact or_0 ha hb z
  · rw [if_neg z, if_neg z]
    exact ⟨r, w⟩
theorem R_stq (h : RO M N) {v : Nat} (hv : v < 6) (ev : isV (M 4) (nI v) = true) (c : Int32) : RB (stq 0 spC M v c) (stq 9 spM N v c) := by
  have r0 : RO (jn 0 M v) (jn 9 N v) := by
    rw [jn_up, jn_up]
    refine R_hand h ?_
    obtain ⟨n, rn, w⟩ := h.1.hh
    obtain ⟨q1, q2⟩ := jnh_HR rn w (w.lt hv ev)
    exact ⟨n, q1, q2⟩
  unfold stq
  rcases RB_cases (R_nx r0) with ⟨M1, N1, f1, f2, r1⟩ | ⟨M1, N1, f1, f2, r1⟩
  · rw [f1, f2]
    obtain ⟨⟨p, a1, a2, a3, w, f, g1, g2, g3⟩, on⟩ := r1
    have a3' : M1 0 3 + c = N1 9 3 + c := by rw [a3]
    exact ⟨rfl, ⟨p, a1, a2, a3', w, f, g1, g2, g3⟩, fun _ => on⟩
  · rw [f1, f2]
    exact RB_f r1
theorem R_stp (h : RO M N) {v : Nat} (hv : v < 6) (ev : isV (M 4) (nI v) = true) (t : Nat) : RB (stp 0 spC M v t) (stp 9 spM N v t) := by
  have el : low (M (0 + 4)) v = low (N (9 + 4)) v := by
    obtain ⟨n, rn, w⟩ := h.1.hh
    have hn := w.lt hv ev
    have e : marks (M 4) v = marks (N 13) v := by
      unfold marks
      rw [rn.m0 w.1 hn, rn.m1 w.1 hn]
    show lown (M 4) v 8 = lown (N 13) v 8
    rw [low_z, low_z, e]
  unfold stp
  rw [← el]
  by_cases hl : low (M (0 + 4)) v < 8
  · rw [if_pos hl, if_pos hl]
    have k1 := crn_hand 0 spC spC_keep v (low (M (0 + 4)) v) t 8 M
    rcases RB_cases (R_cr h v (low (M (0 + 4)) v) t) with ⟨M1, N1, f1, f2, r1⟩ | ⟨M1, N1, f1, f2, r1⟩
    · rw [show crn 0 spC v (low (M (0 + 4)) v) t 8 M = (true, M1) from f1] at k1
      have k1 : M1 4 = M 4 := k1
      rw [f1, f2]
      have r2 : RO (clr 0 M1 v (low (M (0 + 4)) v)) (clr 9 N1 v (low (M (0 + 4)) v)) := by
        rw [clr_up, clr_up]
        refine R_hand r1 ?_
        obtain ⟨n, rn, w⟩ := r1.1.hh
        obtain ⟨q1, q2⟩ := clh_HR rn w (w.lt hv (by rw [k1]; exact ev)) hl
        exact ⟨n, q1, q2⟩
      refine R_stq r2 hv ?_ _
      rw [clr_up]
      show isV (clh (M1 4) v (low (M (0 + 4)) v)) (nI v) = true
      unfold isV
      rw [clh_un (by omega) (by omega), k1]
      exact ev
    · rw [f1, f2]
      exact RB_f r1
  · rw [if_neg hl, if_neg hl]
    exact R_stq h hv ev _
theorem R_rnn {v : Nat} (hv : v < 6) (t : Nat) : ∀ (n c : Nat) {M N : kMem}, RO M N → isV (M 4) (nI v) = true → (rnn 0 spC v t n c M).1 = (rnn 9 spM v t n c N).1 ∧ R (rnn 0 spC v t n c M).2 (rnn 9 spM v t n c N).2 := by
  intro n
  induction n with
  | zero => intro c M N h _; exact ⟨rfl, h.1⟩
  | succ n ih =>
    intro c M N h ev
    have e0 : M (0 + 4) (2 + v) = N (9 + 4) (2 + v) := h.1.stt hv ev
    unfold rnn
    rw [← e0]
    split
    · exact ⟨rfl, h.1⟩
    · rcases RB_cases (R_stp h hv ev t) with ⟨M1, N1, f1, f2, r1⟩ | ⟨M1, N1, f1, f2, r1⟩
      · have k1 : M1 4 = upd (sth (M 4) v) 0 (sth (M 4) v 0 + nI 1) := stp_true 0 spC spC_keep f1
        rw [f1, f2]
        refine ih (c + 1) r1 ?_
        rw [k1]
        unfold isV
        rw [pk_un (by omega), sth_1]
        exact ev
      · rw [f1, f2]
        exact ⟨rfl, r1⟩
theorem R_mnr (h : RO M N) {v r : Nat} (hv : v < 6) (ev : isV (M 4) (nI v) = true) (t : Nat) : RB (mnr 0 spC M v r t) (mnr 9 spM N v r t) := by
  have e0 : M (0 + 4) (2 + v) = N (9 + 4) (2 + v) := h.1.stt hv ev
  have e2 : opn (M (0 + 4)) v r = opn (N (9 + 4)) v r := h.1.opn hv ev _
  unfold mnr
  rw [← e0, ← e2]
  split
  · exact RB_t h
  · split
    · exact RB_t h
    · exact R_cr h _ _ _
theorem R_mwn : ∀ (n : Nat), n ≤ 4 → ∀ {M N : kMem}, RO M N → RB (mwn 0 spC n M) (mwn 9 spM n N) := by
  intro n
  induction n with
  | zero => intro _ M N h; exact RB_t h
  | succ n ih =>
    intro hn4 M N h
    obtain ⟨m, rn, w⟩ := h.1.hh
    have e0 : M (0 + 4) (20 + (3 - n)) = N (9 + 4) (20 + (3 - n)) := rn.wi (by omega)
    unfold mwn
    rw [← e0]
    by_cases e : M (0 + 4) (20 + (3 - n)) = -1
    · rw [if_pos e, if_pos e]
      exact ih (by omega) h
    · rw [if_neg e, if_neg e]
      obtain ⟨p, hp, ep⟩ := (show ∃ p, p < 8 * m ∧ M 4 (20 + (3 - n)) = nI p by
        obtain ⟨c, hc, g1, g2⟩ := w.2.2.2
        rcases Nat.lt_or_ge (3 - n) c with z | z
        · exact g1 _ z
        · exact absurd (g2 _ z (by omega)) e)
      have hm6 := w.1
      have hc : (nI p).toNatClampNeg = p := nI_clamp (by omega)
      have hv : p / 8 < m := by omega
      have ev : isV (M 4) (nI (p / 8)) = true := by
        unfold isV
        rw [w.2.1]
        exact inR_nI (n := m) hv (by omega)
      have e1 : M (0 + 4) (2 + p / 8) = N (9 + 4) (2 + p / 8) := h.1.stt (by omega) ev
      have ep : M (0 + 4) (20 + (3 - n)) = nI p := ep
      rw [ep, hc, ← e1]
      rcases RB_cases (R_mnr h (r := p % 8) (by omega) ev ((M (0 + 4) (2 + p / 8)).toNatClampNeg - 2)) with ⟨M1, N1, f1, f2, r1⟩ | ⟨M1, N1, f1, f2, r1⟩
      · rw [f1, f2]
        exact ih (by omega) r1
      · rw [f1, f2]
        exact RB_f r1
theorem R_mnd (h : RO M N) : RB (mnd 0 spC M) (mnd 9 spM N) := by
  obtain ⟨m, rn, w⟩ := h.1.hh
  have e0 : M (0 + 4) 20 = N (9 + 4) 20 := rn.wi (i := 0) (by decide)
  unfold mnd
  rw [← e0]
  split
  · exact RB_t h
  · rcases RB_cases (R_mwn 4 (Nat.le_refl _) h) with ⟨M1, N1, f1, f2, r1⟩ | ⟨M1, N1, f1, f2, r1⟩
    · rw [f1, f2]
      refine R_nx (R_hand r1 ?_)
      obtain ⟨n, rn, w⟩ := r1.1.hh
      obtain ⟨q1, q2⟩ := wnd_HR rn w
      exact ⟨n, q1, q2⟩
    · rw [f1, f2]
      exact RB_f r1
theorem R_tnh (h : RO M N) : RB (tnh 0 spC M) (tnh 9 spM N) := by
  have cp : ∀ (s f : Nat → Int32) (k : Nat), k < 24 → va_cpy s f 0 0 24 k = s k := fun s f k hk => by
    unfold va_cpy
    rw [if_pos (by omega), show 0 + (k - 0) = k by omega]
  have g1 := h.1.2.2.2.2.2.2.1
  have g2 := h.1.2.2.2.2.2.2.2.1
  have e1 : M (0 + 2) 0 = N (9 + 2) 0 := by obtain ⟨m, rn, w⟩ := g1; exact rn.nr
  have e2 : M (0 + 3) 0 = N (9 + 3) 0 := by obtain ⟨m, rn, w⟩ := g2; exact rn.nr
  have c1 : RO (va_up M 4 (va_cpy (M 2) (M 4) 0 0 24)) (va_up N 13 (va_cpy (N 11) (N 13) 0 0 24)) := R_hand h (g1.cong (cp _ _) (cp _ _))
  have c2 : RO (va_up M 4 (va_cpy (M 3) (M 4) 0 0 24)) (va_up N 13 (va_cpy (N 12) (N 13) 0 0 24)) := R_hand h (g2.cong (cp _ _) (cp _ _))
  unfold tnh
  rw [← e1, ← e2]
  split
  · split
    · exact RB_t c1
    · exact R_wh c1 (by decide)
  · exact R_wh c2 (by decide)
theorem R_srt (h : RO M N) : RB (srt 0 spC M) (srt 9 spM N) := by
  unfold srt
  rcases RB_cases (R_tnh h) with ⟨M1, N1, f1, f2, r1⟩ | ⟨M1, N1, f1, f2, r1⟩
  · rw [f1, f2]
    exact R_mnd r1
  · rw [f1, f2]
    exact RB_f r1
end RT
