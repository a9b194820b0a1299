section
variable {fp ft fr fs fn yd yr ys : Int32} {stk st L LS R RS sub gS gE nx bg bd : Nat → Int32}
theorem xe_loop {post : Int32 → Prop} {n : Nat} (hn : n ≤ 31) : ∀ (c m e f : Nat), n ≤ c + e → c < f → m + c ≤ 1000 → e ≤ n → post (nI (eP_ sub n c m e)) →
    wX_endOfPart_4 post fp ft fr (nI n) fn stk st L LS R RS sub gS gE nx f (nI m) (nI e) := by
  intro c
  induction c with
  | zero =>
    intro m e f h1 h2 h3 h5 h4
    obtain ⟨f, rfl⟩ : ∃ g, f = g + 1 := ⟨f - 1, by omega⟩
    exact br_c (fun _ => h4) (fun _ => br_t (nI_le (by omega) (by omega)) h4)
  | succ c ih =>
    intro m e f h1 h2 h3 h5 h4
    obtain ⟨f, rfl⟩ : ∃ g, f = g + 1 := ⟨f - 1, by omega⟩
    unfold eP_ at h4
    refine pk_le m 0 (fun h0 => ?_) (fun h0 => pk_le n e (fun h6 => ?_) (fun h6 => ⟨vp_in_nI (by omega) (by omega), ?_⟩))
    · rw [if_pos (by omega)] at h4; exact h4
    · rw [if_neg (by omega), if_pos h6] at h4; exact h4
    · rw [if_neg (by omega), if_neg (by omega)] at h4
      rw [nI_clamp (n := e) (by omega)]
      refine xp_parts ?_
      obtain ⟨m, rfl⟩ : ∃ g, m = g + 1 := ⟨m - 1, by omega⟩
      have hp := pa_le (sub e)
      exact nm_r (ar_1 _ _) (nm_r (nI_1 e) (ih _ _ _ (by omega) (by omega) (by omega) (by omega) h4))
theorem xe_end {post : Int32 → Prop} {n i : Nat} (hn : n ≤ 31) (hi : i ≤ n) (h : post (nI (en_ sub n i))) :
    wpX_endOfPart post (fp, ft, fr, nI n, fn, stk, st, L, LS, R, RS, sub, gS, gE, nx) (nI i) :=
  ⟨n + 1, xe_loop hn n 1 i (n + 1) (by omega) (by omega) (by omega) hi h⟩
theorem ye_loop {post : Int32 → Prop} {n : Nat} (hn : n ≤ 31) : ∀ (c m e f : Nat), n ≤ c + e → c < f → m + c ≤ 1000 → e ≤ n → post (nI (eP_ sub n c m e)) →
    wY_behind_4 post yd yr (nI n) stk bg L LS R RS sub nx bd f (nI m) (nI e) := by
  intro c
  induction c with
  | zero =>
    intro m e f h1 h2 h3 h5 h4
    obtain ⟨f, rfl⟩ : ∃ g, f = g + 1 := ⟨f - 1, by omega⟩
    exact br_t (nI_le (by omega) (by omega)) h4
  | succ c ih =>
    intro m e f h1 h2 h3 h5 h4
    obtain ⟨f, rfl⟩ : ∃ g, f = g + 1 := ⟨f - 1, by omega⟩
    unfold eP_ at h4
    refine pk_le n e (fun h6 => ?_) (fun h6 => pk_le m 0 (fun h0 => ?_) (fun h0 => ⟨vp_in_nI (by omega) (by omega), ?_⟩))
    · by_cases hm : m = 0
      · rw [if_pos hm] at h4; exact h4
      · rw [if_neg hm, if_pos h6] at h4; exact h4
    · rw [if_pos (by omega)] at h4; exact h4
    · rw [if_neg (by omega), if_neg (by omega)] at h4
      rw [nI_clamp (n := e) (by omega)]
      refine yp_parts ?_
      obtain ⟨m, rfl⟩ : ∃ g, m = g + 1 := ⟨m - 1, by omega⟩
      have hp := pa_le (sub e)
      exact nm_r (ar_2 _ _) (nm_r (nI_1 e) (ih _ _ _ (by omega) (by omega) (by omega) (by omega) h4))
theorem ye_end {post : Int32 → Prop} {n i : Nat} (hn : n ≤ 31) (hi : i ≤ n) (h : post (nI (en_ sub n i))) :
    wpY_behind post (yd, yr, nI n, stk, bg, L, LS, R, RS, sub, nx, bd) (nI i) :=
  ⟨n + 1, ye_loop hn n 1 i (n + 1) (by omega) (by omega) (by omega) hi h⟩
theorem xi_c {A B : Prop} {n i : Nat} (hn : n ≤ 31) (hi : i < 2 ^ 31) (hA : n ≤ i → A) (hB : i < n → B) :
    wpX_isPlace (fun r => (r = 0 → A) ∧ (¬ r = 0 → B)) (fp, ft, fr, nI n, fn, stk, st, L, LS, R, RS, sub, gS, gE, nx) (nI i) :=
  br_f (nI_pos hi) (pk_le n i (fun h => br_t rfl (hA h)) (fun h => br_f (by decide) (hB h)))
/-- an int is a place of the subject, or it isn't -/
theorem ix_c {n : Nat} (x : Int32) (hn : n ≤ 31) : x < 0 ∨ (¬ x < 0 ∧ nI n ≤ x) ∨ ∃ j : Nat, j < n ∧ x = nI j := by
  by_cases h : x < 0
  · exact Or.inl h
  · rcases pk_ix x (n := n) (by omega) with h1 | h1 | h1
    · exact absurd h1 h
    · exact Or.inr (Or.inl ⟨h, h1⟩)
    · exact Or.inr (Or.inr h1)
end
