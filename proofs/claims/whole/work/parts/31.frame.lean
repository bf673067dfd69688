/-! what a part of the memory's functions leave alone -/
def Fr (b : Nat) (M N : kMem) : Prop := (∀ k, (k < b ∨ b + 5 < k) → N k = M k) ∧ N b 4 = M b 4
theorem Fr.refl (b : Nat) (M : kMem) : Fr b M M := ⟨fun _ _ => rfl, rfl⟩
theorem Fr.trans {b : Nat} {M N L : kMem} (h1 : Fr b M N) (h2 : Fr b N L) : Fr b M L := ⟨fun k hk => (h2.1 k hk).trans (h1.1 k hk), h2.2.trans h1.2⟩
theorem Fr_up {b k : Nat} {M : kMem} {f : Nat → Int32} (h1 : b < k) (h2 : k ≤ b + 5) : Fr b M (va_up M k f) := ⟨fun j hj => va_up_ne _ _ (by omega), by rw [va_up_ne _ _ (by omega)]⟩
theorem Fr_mw {b k j : Nat} {M : kMem} {x : Int32} (h1 : b < k) (h2 : k ≤ b + 5) : Fr b M (mw M k j x) := Fr_up h1 h2
theorem Fr_mb {b j : Nat} {M : kMem} {x : Int32} (hj : j < 4) : Fr b M (mw M b j x) := ⟨fun k hk => va_up_ne _ _ (by omega), by
  unfold mw
  rw [va_up_self, pk_un (by omega)]⟩
theorem Fr_spC (M : kMem) : Fr 0 M (spC M).2 := by
  unfold spC
  split
  · exact (Fr_mb (by decide)).trans (Fr_mb (by decide))
  · split
    · exact Fr_mb (M := M) (b := 0) (by decide)
    · exact (Fr_mb (M := M) (b := 0) (j := 1) (by decide)).trans (Fr_mb (by decide))
theorem Fr_spM (M : kMem) : Fr 9 M (spM M).2 := by
  unfold spM
  split
  · exact Fr.refl _ _
  · split
    · exact (Fr_mb (by decide)).trans (Fr_mb (by decide))
    · exact (Fr_mb (M := M) (b := 9) (j := 1) (by decide)).trans (Fr_mb (by decide))
section FRS
variable {b : Nat} {sp : kMem → Bool × kMem}
theorem Fr_wh (hsp : ∀ M, Fr b M (sp M).2) (M : kMem) {t : Nat} (ht : t < 2) : Fr b M (wh b sp M t).2 := by
  have h := hsp M
  unfold wh
  rcases hx : sp M with ⟨ok, M1⟩
  rw [hx] at h
  cases ok
  · exact h
  · exact h.trans (Fr_up (by omega) (by omega))
theorem Fr_nx (hsp : ∀ M, Fr b M (sp M).2) (M : kMem) : Fr b M (nx b sp M).2 := by
  have h0 : Fr b M (mw M (b + 4) 0 (M (b + 4) 0 + nI 1)) := Fr_mw (by omega) (by omega)
  have h := Fr_wh hsp (mw M (b + 4) 0 (M (b + 4) 0 + nI 1)) (t := 0) (by decide)
  unfold nx
  rcases hx : wh b sp (mw M (b + 4) 0 (M (b + 4) 0 + nI 1)) 0 with ⟨ok, M1⟩
  rw [hx] at h
  cases ok
  · exact h0.trans h
  · exact (h0.trans h).trans (Fr_wh hsp M1 (by decide))
theorem Fr_wb (hsp : ∀ M, Fr b M (sp M).2) (M : kMem) (t v k : Nat) : Fr b M (wb b sp M t v k).2 := by
  have h := hsp M
  unfold wb
  rcases hx : sp M with ⟨ok, M1⟩
  rw [hx] at h
  cases ok
  · exact h
  · exact h.trans (Fr_up (by omega) (by omega))
theorem Fr_tk (M : kMem) (t v k : Nat) : Fr b M (tk b M t v k) := Fr_up (by omega) (by omega)
theorem Fr_crn (hsp : ∀ M, Fr b M (sp M).2) (v r t : Nat) : ∀ (n : Nat) (M : kMem), Fr b M (crn b sp v r t n M).2 := by
  intro n
  induction n with
  | zero => intro M; exact Fr.refl _ _
  | succ n ih =>
    intro M
    unfold crn
    split
    · exact ih M
    · have h := (Fr_tk (b := b) M t v (8 * r + (7 - n))).trans (Fr_wb hsp (tk b M t v (8 * r + (7 - n))) (1 - t) v (8 * r + (7 - n)))
      rcases hx : wb b sp (tk b M t v (8 * r + (7 - n))) (1 - t) v (8 * r + (7 - n)) with ⟨ok, M1⟩
      rw [hx] at h
      cases ok
      · exact h
      · exact h.trans (ih M1)
theorem Fr_put (hsp : ∀ M, Fr b M (sp M).2) (M : kMem) (v t k : Nat) : Fr b M (put b sp M v t k).2 := by
  unfold put
  split
  · have h : Fr b M (mkb b sp M v t (k / 8)).2 := by
      unfold mkb
      split
      · exact Fr.refl _ _
      · exact (Fr_mw (by omega) (by omega)).trans (Fr_nx hsp _)
    rcases hx : mkb b sp M v t (k / 8) with ⟨ok, M1⟩
    rw [hx] at h
    cases ok
    · exact h
    · exact h.trans (Fr_wb hsp _ _ _ _)
  · split
    · exact Fr_wb hsp _ _ _ _
    · have h : Fr b M (enb b sp M v (k / 8)).2 := by
        unfold enb
        split
        · exact Fr.refl _ _
        · exact (Fr_up (by omega) (by omega)).trans (Fr_nx hsp _)
      rcases hx : enb b sp M v (k / 8) with ⟨ok, M1⟩
      rw [hx] at h
      cases ok
      · exact h
      · have h2 := h.trans (Fr_wb hsp M1 t v k)
        show Fr b M (match wb b sp M1 t v k with | (true, M2) => wb b sp M2 (1 - t) v k | (false, M2) => (false, M2)).2
        rcases hy : wb b sp M1 t v k with ⟨ok, M2⟩
        rw [hy] at h2
        cases ok
        · exact h2
        · exact h2.trans (Fr_wb hsp _ _ _ _)
theorem Fr_stq (hsp : ∀ M, Fr b M (sp M).2) (M : kMem) (v : Nat) (c : Int32) : Fr b M (stq b sp M v c).2 := by
  have h0 : Fr b M (jn b M v) := by
    rw [jn_up]
    exact Fr_up (by omega) (by omega)
  have h := h0.trans (Fr_nx hsp (jn b M v))
  unfold stq
  rcases hx : nx b sp (jn b M v) with ⟨ok, M1⟩
  rw [hx] at h
  cases ok
  · exact h
  · exact h.trans (Fr_mb (by decide))
theorem Fr_stp (hsp : ∀ M, Fr b M (sp M).2) (M : kMem) (v t : Nat) : Fr b M (stp b sp M v t).2 := by
  unfold stp
  split
  · have h := Fr_crn hsp v (low (M (b + 4)) v) t 8 M
    rcases hx : cr b sp M v (low (M (b + 4)) v) t with ⟨ok, M1⟩
    rw [show crn b sp v (low (M (b + 4)) v) t 8 M = (ok, M1) from hx] at h
    cases ok
    · exact h
    · refine h.trans ?_
      show Fr b M1 (stq b sp (clr b M1 v (low (M (b + 4)) v)) v (nI 1)).2
      rw [clr_up]
      exact (Fr_up (by omega) (by omega)).trans (Fr_stq hsp _ _ _)
  · exact Fr_stq hsp _ _ _
theorem Fr_rnn (hsp : ∀ M, Fr b M (sp M).2) (v t : Nat) : ∀ (n c : Nat) (M : kMem), Fr b M (rnn b sp v t n c M).2 := by
  intro n
  induction n with
  | zero => intro c M; exact Fr.refl _ _
  | succ n ih =>
    intro c M
    unfold rnn
    split
    · exact Fr.refl _ _
    · have h := Fr_stp hsp M v t
      rcases hx : stp b sp M v t with ⟨ok, M1⟩
      rw [hx] at h
      cases ok
      · exact h
      · exact h.trans (ih (c + 1) M1)
theorem Fr_mwn (hsp : ∀ M, Fr b M (sp M).2) : ∀ (n : Nat) (M : kMem), Fr b M (mwn b sp n M).2 := by
  intro n
  induction n with
  | zero => intro M; exact Fr.refl _ _
  | succ n ih =>
    intro M
    unfold mwn
    split
    · exact ih M
    · have h : ∀ v r t, Fr b M (mnr b sp M v r t).2 := by
        intro v r t
        unfold mnr
        split
        · exact Fr.refl _ _
        · split
          · exact Fr.refl _ _
          · exact Fr_crn hsp _ _ _ _ _
      generalize hq : mnr b sp M _ _ _ = q
      have h9 : Fr b M q.2 := by rw [← hq]; exact h _ _ _
      obtain ⟨ok, M1⟩ := q
      cases ok
      · exact h9
      · exact h9.trans (ih M1)
theorem Fr_srt (hsp : ∀ M, Fr b M (sp M).2) (M : kMem) : Fr b M (srt b sp M).2 := by
  have h : Fr b M (tnh b sp M).2 := by
    unfold tnh
    split
    · split
      · exact Fr_up (by omega) (by omega)
      · exact (Fr_up (by omega) (by omega)).trans (Fr_wh hsp _ (by decide))
    · exact (Fr_up (by omega) (by omega)).trans (Fr_wh hsp _ (by decide))
  unfold srt
  rcases hx : tnh b sp M with ⟨ok, M1⟩
  rw [hx] at h
  cases ok
  · exact h
  · refine h.trans ?_
    show Fr b M1 (mnd b sp M1).2
    unfold mnd
    split
    · exact Fr.refl _ _
    · have h2 := Fr_mwn hsp 4 M1
      rcases hy : mwn b sp 4 M1 with ⟨ok, M2⟩
      rw [hy] at h2
      cases ok
      · exact h2
      · exact h2.trans ((Fr_up (by omega) (by omega)).trans (Fr_nx hsp _))
end FRS
theorem R_fr9 {M1 N1 : kMem} (r : R M1 N1) (f : Fr 9 M1 N1) : R N1 N1 := by
  unfold R at r ⊢
  rw [f.1 0 (by omega), f.1 1 (by omega), f.1 2 (by omega), f.1 3 (by omega), f.1 4 (by omega), f.1 5 (by omega)]
  exact r
theorem R_fr0 {M M1 N : kMem} (r : R M N) (f : Fr 0 N M1) : R M M1 := by
  unfold R at r ⊢
  rw [f.1 9 (by omega), f.1 10 (by omega), f.1 11 (by omega), f.1 12 (by omega), f.1 13 (by omega), f.1 14 (by omega)]
  exact r
theorem R_thr {M N : kMem} (c : Int32) (r : R M N) : R M (mw N 9 4 c) := by
  obtain ⟨p, a1, a2, a3, w, f, g1, g2, g3⟩ := r
  exact ⟨p, a1, a2, a3, w, f, g1, g2, g3⟩
theorem R_thr2 {M : kMem} (c : Int32) (r : R M M) : R (mw M 9 4 c) (mw M 9 4 c) := by
  obtain ⟨p, a1, a2, a3, w, f, g1, g2, g3⟩ := r
  exact ⟨p, a1, a2, a3, w, f, g1, g2, g3⟩
theorem R_off {M N : kMem} (r : R M N) (e : M 0 0 = 0) : ¬ N 9 0 = 0 := r.1.elim (fun z => absurd (z.1.symm.trans e) (by decide)) (fun z z2 => absurd (z.2.symm.trans z2) (by decide))
theorem R_on {M N : kMem} (r : R M N) (e : ¬ M 0 0 = 0) : RO M N := ⟨r, r.1.elim (fun z => z.1) (fun z => absurd z.1 e)⟩
