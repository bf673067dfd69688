/-! the header's window -/
theorem kwL_eq {d mid : Nat} {P : kRes → Prop} {sl : List Nat} {n pc : Nat} {lv : List (Nat × Value)} {st : List Value} {M M' : kMem} (e : M = M') (h : kwL d mid P sl n pc lv st M') : kwL d mid P sl n pc lv st M := by rw [e]; exact h
theorem kwN_eq {d mid : Nat} {P : kRes → Prop} {n pc : Nat} {lv : List (Nat × Value)} {st : List Value} {M M' : kMem} (e : M = M') (h : kwN d mid P n pc lv st M') : kwN d mid P n pc lv st M := by rw [e]; exact h
theorem kJ_eq {d mid : Nat} {P : kRes → Prop} {pc : Nat} {lv : List (Nat × Value)} {st : List Value} {M M' : kMem} (e : M = M') (h : kJ d mid P pc lv st M') : kJ d mid P pc lv st M := by rw [e]; exact h
theorem kC_eq {d mid : Nat} {P : kRes → Prop} {av : List Value} {M M' : kMem} (e : M = M') (h : kC d mid av M' P) : kC d mid av M P := by rw [e]; exact h
section HW
variable {d : Nat} {M : kMem} {P : kRes → Prop}
theorem kb_pos {x : Bool} (h : ¬ kb x = 0) : x = true := by
  cases x
  · exact absurd rfl h
  · rfl
theorem h_isInWindow {x : Int32} (h : P (rI (kb (inw (M 4) x)) M)) : kC (d + 1) kh_isInWindow [.ref 8, .int x] M P := by
  have ht : (M 4 20 = x ∨ M 4 21 = x ∨ M 4 22 = x ∨ M 4 23 = x) → P (rI (nI 1) M) := fun z => by
    have e : inw (M 4) x = true := decide_eq_true z
    rw [e] at h
    exact h
  refine kC_of 80 (by decide) (Nat.le_of_ble_eq_true rfl) ?_
  refine ⟨fun e => absurd e (by decide), fun _ => h_placeAt (i := 0) (by decide) ⟨fun e0 => ?_, fun e0 => ⟨rfl, ht (Or.inl e0)⟩⟩⟩
  refine ⟨fun e => absurd e (by decide), fun _ => h_placeAt (i := 1) (by decide) ⟨fun e1 => ?_, fun e1 => ⟨rfl, ht (Or.inr (Or.inl e1))⟩⟩⟩
  refine ⟨fun e => absurd e (by decide), fun _ => h_placeAt (i := 2) (by decide) ⟨fun e2 => ?_, fun e2 => ⟨rfl, ht (Or.inr (Or.inr (Or.inl e2)))⟩⟩⟩
  refine ⟨fun e => absurd e (by decide), fun _ => h_placeAt (i := 3) (by decide) ⟨fun e3 => ?_, fun e3 => ⟨rfl, ht (Or.inr (Or.inr (Or.inr e3)))⟩⟩⟩
  refine ⟨fun _ => ⟨rfl, ?_⟩, fun e => absurd (by decide) e⟩
  have e : inw (M 4) x = false := decide_eq_false (fun z => z.elim e0 (fun z => z.elim e1 (fun z => z.elim e2 e3)))
  rw [e] at h
  exact h
theorem h_windowSize (h : P (rI (nI (wsz (M 4))) M)) : kC (d + 1) kh_windowSize [.ref 8] M P := by
  have h : P (rI (nI (if M 4 20 = -1 then 0 else if M 4 21 = -1 then 1 else if M 4 22 = -1 then 2 else if M 4 23 = -1 then 3 else 4)) M) := h
  refine kC_of 80 (by decide) (Nat.le_of_ble_eq_true rfl) ?_
  refine ⟨fun e => absurd e (by decide), fun _ => h_placeAt (i := 0) (by decide) ⟨fun e0 => ?_, fun e0 => ?_⟩⟩
  · have e0 : M 4 20 = -1 := e0
    rw [if_pos e0] at h
    exact ⟨rfl, h⟩
  have e0 : ¬ M 4 20 = -1 := e0
  rw [if_neg e0] at h
  refine ⟨fun e => absurd e (by decide), fun _ => h_placeAt (i := 1) (by decide) ⟨fun e1 => ?_, fun e1 => ?_⟩⟩
  · have e1 : M 4 21 = -1 := e1
    rw [if_pos e1] at h
    exact ⟨rfl, h⟩
  have e1 : ¬ M 4 21 = -1 := e1
  rw [if_neg e1] at h
  refine ⟨fun e => absurd e (by decide), fun _ => h_placeAt (i := 2) (by decide) ⟨fun e2 => ?_, fun e2 => ?_⟩⟩
  · have e2 : M 4 22 = -1 := e2
    rw [if_pos e2] at h
    exact ⟨rfl, h⟩
  have e2 : ¬ M 4 22 = -1 := e2
  rw [if_neg e2] at h
  refine ⟨fun e => absurd e (by decide), fun _ => h_placeAt (i := 3) (by decide) ⟨fun e3 => ?_, fun e3 => ?_⟩⟩
  · have e3 : M 4 23 = -1 := e3
    rw [if_pos e3] at h
    exact ⟨rfl, h⟩
  have e3 : ¬ M 4 23 = -1 := e3
  rw [if_neg e3] at h
  exact ⟨fun _ => ⟨rfl, h⟩, fun e => absurd (by decide) e⟩
theorem h_enterWindow {x : Int32} (h : P (rV (va_up M 4 (ent (M 4) x)))) : kC (d + 2) kh_enterWindow [.ref 8, .int x] M P := by
  have hw := wsz_le (M 4)
  unfold ent at h
  refine kC_of 40 (by decide) (Nat.le_of_ble_eq_true rfl) ?_
  refine h_windowSize ?_
  refine ⟨fun e => ?_, fun e => ?_⟩
  · have hne : ¬ wsz (M 4) = 4 := fun z => e (by rw [z]; rfl)
    rw [if_neg hne] at h
    exact ⟨20 + wsz (M 4), nI_add 20 _, by omega, h⟩
  · have he : wsz (M 4) = 4 := (nI_eq (by omega) (by decide)).mp e
    rw [if_pos he] at h
    refine ⟨21, 20, 3, rfl, rfl, rfl, by decide, by decide, ?_⟩
    refine ⟨23, rfl, by decide, ?_⟩
    rw [← mw_up] at h
    exact h
theorem h_leave_loop {v : Nat} : ∀ (n i : Nat) (x y : Int32), i + n = 4 → x = nI (wkn (M 4) (fun a => decide (¬ a / nI 8 = nI v)) i).length → y = nI i → P (rV (va_up M 4 (wkp (M 4) (fun a => decide (¬ a / nI 8 = nI v))))) →
    kJ (d + 1) kh_leaveWindow P 4 [(0, .ref 8), (1, .int (nI v)), (2, .int x), (3, .int y)] [] (va_up M 4 (wnd (M 4) (wkn (M 4) (fun a => decide (¬ a / nI 8 = nI v)) i) i)) := by
  intro n
  induction n with
  | zero =>
    intro i x y hi hx hy h
    have hi : i = 4 := by omega
    subst hi; subst hy
    refine kJ_H [4] 10 ?_
    exact ⟨fun _ => h, fun e => absurd (by decide) e⟩
  | succ n ih =>
    intro i x y hi hx hy h
    subst hy
    have hl := wkn_len (M 4) (fun a => decide (¬ a / nI 8 = nI v)) i
    generalize hL : wkn (M 4) (fun a => decide (¬ a / nI 8 = nI v)) i = L at hx hl ⊢
    have hs : wkn (M 4) (fun a => decide (¬ a / nI 8 = nI v)) (i + 1) = if M 4 (20 + i) = -1 then L else if (fun a => decide (¬ a / nI 8 = nI v)) (M 4 (20 + i)) = true then L ++ [M 4 (20 + i)] else L := by
      rw [← hL]
      rfl
    have hg : va_up M 4 (wnd (M 4) L i) 4 (20 + i) = M 4 (20 + i) := by rw [va_up_self, wnd_at]
    have h1 : mw (va_up M 4 (wnd (M 4) L i)) 4 (20 + i) (-1) = va_up M 4 (wnd (M 4) L (i + 1)) := by rw [mw_up, wnd_go _ _ _ hl]
    refine kJ_H [4] 50 ?_
    refine ⟨fun e => absurd e (nI_ge (by omega) (by decide)), fun _ => ?_⟩
    refine h_placeAt (by omega) ?_
    rw [hg]
    refine ⟨20 + i, nI_add 20 i, by omega, kwL_eq h1 ?_⟩
    refine ⟨fun e => ?_, fun e => ⟨by decide, fun e2 => ?_, fun e2 => ?_⟩⟩
    · have e : M 4 (20 + i) = -1 := e
      rw [if_pos e] at hs
      refine kJ_drop 4 (kJ_eq (M' := va_up M 4 (wnd (M 4) (wkn (M 4) (fun a => decide (¬ a / nI 8 = nI v)) (i + 1)) (i + 1))) (by rw [hs]) ?_)
      exact ih (i + 1) _ _ (by omega) (by rw [hs]; exact hx) (nI_1 i) h
    · have e : ¬ M 4 (20 + i) = -1 := e
      have e2 : M 4 (20 + i) / nI 8 = nI v := e2
      rw [if_neg e, if_neg (by simp; exact e2)] at hs
      refine kJ_drop 4 (kJ_eq (M' := va_up M 4 (wnd (M 4) (wkn (M 4) (fun a => decide (¬ a / nI 8 = nI v)) (i + 1)) (i + 1))) (by rw [hs]) ?_)
      exact ih (i + 1) _ _ (by omega) (by rw [hs]; exact hx) (nI_1 i) h
    · have e : ¬ M 4 (20 + i) = -1 := e
      have e2 : ¬ M 4 (20 + i) / nI 8 = nI v := e2
      rw [if_neg e, if_pos (by simp; exact e2)] at hs
      refine ⟨20 + L.length, ?_, by omega, ?_⟩
      · rw [hx]
        exact nI_add 20 _
      refine kJ_drop 4 (kJ_eq (M' := va_up M 4 (wnd (M 4) (wkn (M 4) (fun a => decide (¬ a / nI 8 = nI v)) (i + 1)) (i + 1))) (by rw [hs, ← wnd_keep _ _ _ hl, ← mw_up]) ?_)
      refine ih (i + 1) _ _ (by omega) ?_ (nI_1 i) h
      rw [hs, hx, List.length_append]
      exact nI_1 _
theorem h_leaveWindow {v : Nat} (h : P (rV (va_up M 4 (wkp (M 4) (fun a => decide (¬ a / nI 8 = nI v)))))) : kC (d + 1) kh_leaveWindow [.ref 8, .int (nI v)] M P := by
  refine kC_L [4] 20 (by decide) (Nat.le_of_ble_eq_true rfl) ?_
  have h0 := h_leave_loop (d := d) (v := v) 4 0 (nI 0) (nI 0) rfl rfl rfl h
  rw [show wkn (M 4) (fun a => decide (¬ a / nI 8 = nI v)) 0 = [] from rfl, wnd_0] at h0
  have e : va_up M 4 (M 4) = M := by
    funext k
    unfold va_up
    by_cases hk : k = 4
    · rw [if_pos hk, hk]
    · rw [if_neg hk]
  rw [e] at h0
  exact h0
theorem wnd_nil (h : Nat → Int32) : upd (upd (upd (upd h 20 (-1)) 21 (-1)) 22 (-1)) 23 (-1) = wnd h [] 4 := by
  have h1 := wnd_go h [] 0 (Nat.le_refl _)
  have h2 := wnd_go h [] 1 (by simp)
  have h3 := wnd_go h [] 2 (by simp)
  have h4 := wnd_go h [] 3 (by simp)
  rw [wnd_0] at h1
  rw [← h4, ← h3, ← h2, ← h1]
theorem h_emptyWindow (h : P (rV (va_up M 4 (wnd (M 4) [] 4)))) : kC d kh_emptyWindow [.ref 8] M P := by
  refine kC_of 80 (by decide) (Nat.le_of_ble_eq_true rfl) ?_
  refine ⟨fun e => absurd e (by decide), fun _ => ⟨20, rfl, by decide, ?_⟩⟩
  refine ⟨fun e => absurd e (by decide), fun _ => ⟨21, rfl, by decide, ?_⟩⟩
  refine ⟨fun e => absurd e (by decide), fun _ => ⟨22, rfl, by decide, ?_⟩⟩
  refine ⟨fun e => absurd e (by decide), fun _ => ⟨23, rfl, by decide, ?_⟩⟩
  refine ⟨fun _ => ?_, fun e => absurd (by decide) e⟩
  rw [← wnd_nil, ← mw_up, ← mw_up, ← mw_up] at h
  exact h
end HW
