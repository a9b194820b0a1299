section
theorem pk_us {f : Nat → Int32} {k : Nat} {x : Int32} : upd f k x k = x := if_pos rfl
theorem pk_un {f : Nat → Int32} {k j : Nat} {x : Int32} (h : j ≠ k) : upd f k x j = f j := if_neg h
theorem pk_sub {a b : Nat} (h : b ≤ a) : nI a - nI b = nI (a - b) := by
  obtain ⟨c, rfl⟩ : ∃ c, a = c + b := ⟨a - b, by omega⟩
  rw [← nI_add, Int32.add_sub_cancel, Nat.add_sub_cancel]
theorem pk_m1 (n : Nat) : nI (n + 1) + (-1) = nI n := by
  rw [← nI_1, Int32.add_assoc, show (1 : Int32) + (-1) = 0 from rfl, Int32.add_zero]
theorem pk_mul (a b : Nat) : nI a * nI b = nI (a * b) := (Int32.ofNat_mul a b).symm
theorem pk_sub_toInt {a b : Nat} (ha : a < 2 ^ 30) (hb : b < 2 ^ 30) : (nI a - nI b).toInt = (a : Int) - b := by
  rw [Int32.toInt_sub, nI_toInt (by omega), nI_toInt (by omega)]
  exact Int.bmod_eq_of_le (by omega) (by omega)
theorem pk_sneg {a b : Nat} (hb : b < 2 ^ 30) (h : a < b) : nI a - nI b < 0 := by
  rw [Int32.lt_iff_toInt_lt, pk_sub_toInt (by omega) hb, show (0 : Int32).toInt = 0 from by decide]
  omega
theorem pk_ix (x : Int32) {n : Nat} (hn : n < 2 ^ 31) : x < 0 ∨ nI n ≤ x ∨ ∃ j : Nat, j < n ∧ x = nI j := by
  by_cases h : x < 0
  · exact Or.inl h
  · obtain ⟨j, hj, rfl⟩ := nI_of h
    by_cases h2 : j < n
    · exact Or.inr (Or.inr ⟨j, h2, rfl⟩)
    · exact Or.inr (Or.inl (nI_le (by omega) hj))
theorem pk_le {x y : Int32} {A B : Prop} (a b : Nat) (f : a ≤ b → A) (g : b < a → B) (hx : x = nI a := by rfl) (hy : y = nI b := by rfl) (ha : a < 2 ^ 31 := by omega) (hb : b < 2 ^ 31 := by omega) : (x ≤ y → A) ∧ (¬ x ≤ y → B) := by
  subst hx hy
  rw [nI_leI ha hb]
  exact ⟨f, fun z => g (by omega)⟩
theorem pk_lt {x y : Int32} {A B : Prop} (a b : Nat) (f : a < b → A) (g : b ≤ a → B) (hx : x = nI a := by rfl) (hy : y = nI b := by rfl) (ha : a < 2 ^ 31 := by omega) (hb : b < 2 ^ 31 := by omega) : (x < y → A) ∧ (¬ x < y → B) := by
  subst hx hy
  rw [nI_ltI ha hb]
  exact ⟨f, fun z => g (by omega)⟩
theorem pk_eq {x y : Int32} {A B : Prop} (a b : Nat) (f : a = b → A) (g : a ≠ b → B) (hx : x = nI a := by rfl) (hy : y = nI b := by rfl) (ha : a < 2 ^ 31 := by omega) (hb : b < 2 ^ 31 := by omega) : (x = y → A) ∧ (¬ x = y → B) := by
  subst hx hy
  rw [nI_eq ha hb]
  exact ⟨f, g⟩
theorem pk_in {x : Int32} (n N : Nat) (h : n < N) (hx : x = nI n := by rfl) (hN : N < 2 ^ 31 := by omega) : vp_in x N := by
  subst hx
  exact vp_in_nI h hN
theorem pk_cl {x : Int32} (n : Nat) (hx : x = nI n := by rfl) (h : n < 2 ^ 31 := by omega) : x.toNatClampNeg = n := by
  subst hx
  exact nI_clamp h
theorem pk_least (P : Nat → Prop) (h : ∃ k, P k) : ∃ k, P k ∧ ∀ j, j < k → ¬ P j := by
  obtain ⟨k, hk⟩ := h
  induction k using Nat.strongRecOn with
  | ind k ih =>
    by_cases e : ∃ j, j < k ∧ P j
    · obtain ⟨j, hj, pj⟩ := e
      exact ih j hj pj
    · exact ⟨k, hk, fun j hj pj => e ⟨j, hj, pj⟩⟩
theorem ar_1 (m q : Nat) : nI (m + 1) + (nI q - 1) = nI (m + q) := by
  rw [nI_succ, ← nI_add]; grind
theorem ar_2 (m q : Nat) : nI (m + 1) - 1 + nI q = nI (m + q) := by
  rw [nI_pred, nI_add]
theorem ar_67 (x : Int32) : x ≤ 6 ↔ x < 7 := by
  rw [Int32.le_iff_toInt_le, Int32.lt_iff_toInt_lt, show (6 : Int32).toInt = 6 from by decide, show (7 : Int32).toInt = 7 from by decide]
  omega
theorem ar_n10 {n : Nat} (h : n < 2 ^ 31) : ¬ nI n = -4 := by
  intro e
  have := congrArg Int32.toInt e
  rw [nI_toInt h, show (-4 : Int32).toInt = -4 from by decide] at this
  omega
/-- a symbol of the document -/
def sy_ok (x : Int32) : Prop := ∃ j : Nat, j ≤ 9 ∧ x = nI j
theorem sy_0 : sy_ok 0 := ⟨0, by omega, rfl⟩
theorem sy_upd {a : Nat → Int32} (h : ∀ i, sy_ok (a i)) (k : Nat) {x : Int32} (hx : sy_ok x) : ∀ i, sy_ok (upd a k x i) := by
  intro i
  by_cases e : i = k
  · subst e; rw [pk_us]; exact hx
  · rw [pk_un e]; exact h i
theorem sy_v {x : Int32} (h : sy_ok x) (h7 : ¬ x < 7) : ∃ j : Nat, j < 3 ∧ x - 7 = nI j ∧ x = nI (j + 7) := by
  obtain ⟨j, hj, rfl⟩ := h
  have h7' : ¬ nI j < nI 7 := h7
  rw [nI_ltI (by omega) (by omega)] at h7'
  refine ⟨j - 7, by omega, ?_, ?_⟩
  · exact pk_sub (a := j) (b := 7) (by omega)
  · rw [show j - 7 + 7 = j from by omega]
/-- how many parts a symbol has -/
def pa_ (x : Int32) : Nat := if x < 3 then 0 else if x < 7 then (if 5 ≤ x then 2 else 1) else 0
theorem pa_le (x : Int32) : pa_ x ≤ 2 := by
  unfold pa_; split
  · omega
  · split
    · split <;> omega
    · omega
theorem xp_parts {post : Int32 → Prop} {x : Int32} (h : post (nI (pa_ x))) : wpX_partsOf post x := by
  unfold pa_ at h
  refine br_c (fun a => ?_) (fun a => br_c (fun b => br_c (fun c => ?_) (fun c => ?_)) (fun b => ?_))
  · rw [if_pos a] at h; exact h
  · rw [if_neg a, if_pos b, if_pos c] at h; exact h
  · rw [if_neg a, if_pos b, if_neg c] at h; exact h
  · rw [if_neg a, if_neg b] at h; exact h
theorem yp_parts {post : Int32 → Prop} {v : SY} {x : Int32} (h : post (nI (pa_ x))) : wpY_partsOf post v x := by
  unfold pa_ at h
  refine br_c (fun a => ?_) (fun a => br_c (fun b => br_c (fun c => ?_) (fun c => ?_)) (fun b => ?_))
  · rw [if_pos a] at h; exact h
  · rw [if_neg a, if_pos ((ar_67 x).mp b), if_pos c] at h; exact h
  · rw [if_neg a, if_pos ((ar_67 x).mp b), if_neg c] at h; exact h
  · rw [if_neg a, if_neg (fun z => b ((ar_67 x).mpr z))] at h; exact h
theorem xv_c {A B : Prop} {x : Int32} (hA : x < 7 → A) (hB : ¬ x < 7 → B) : wpX_isVariable (fun r => (r = 0 → A) ∧ (¬ r = 0 → B)) x :=
  br_c (fun h => br_t rfl (hA h)) (fun h => br_f (by decide) (hB h))
theorem yv_c {A B : Prop} {v : SY} {x : Int32} (hA : x < 7 → A) (hB : ¬ x < 7 → B) : wpY_isVariable (fun r => (r = 0 → A) ∧ (¬ r = 0 → B)) v x :=
  br_c (fun h => br_t rfl (hA ((ar_67 x).mp h))) (fun h => br_f (by decide) (hB (fun z => h ((ar_67 x).mpr z))))
/-- the end of the part that begins at a place -/
def eP_ (a : Nat → Int32) (n : Nat) : Nat → Nat → Nat → Nat
  | 0, _, e => e
  | c + 1, m, e => if m = 0 then e else if n ≤ e then e else eP_ a n c (m - 1 + pa_ (a e)) (e + 1)
def en_ (a : Nat → Int32) (n i : Nat) : Nat := eP_ a n n 1 i
theorem eP_ge (a : Nat → Int32) (n : Nat) : ∀ c m e, e ≤ eP_ a n c m e := by
  intro c
  induction c with
  | zero => intro m e; exact Nat.le_refl _
  | succ c ih =>
    intro m e
    unfold eP_
    split
    · omega
    · split
      · omega
      · have := ih (m - 1 + pa_ (a e)) (e + 1); omega
theorem eP_le (a : Nat → Int32) (n : Nat) : ∀ c m e, e ≤ n → eP_ a n c m e ≤ n := by
  intro c
  induction c with
  | zero => intro m e h; exact h
  | succ c ih =>
    intro m e h
    unfold eP_
    split
    · omega
    · split
      · omega
      · exact ih _ _ (by omega)
theorem en_gt {a : Nat → Int32} {n i : Nat} (h : i < n) : i < en_ a n i := by
  unfold en_
  obtain ⟨c, rfl⟩ : ∃ c, n = c + 1 := ⟨n - 1, by omega⟩
  unfold eP_
  rw [if_neg (by omega), if_neg (by omega)]
  have := eP_ge a (c + 1) c (1 - 1 + pa_ (a i)) (i + 1)
  omega
theorem en_le {a : Nat → Int32} {n i : Nat} (h : i ≤ n) : en_ a n i ≤ n := eP_le a n n 1 i h
theorem en_ge {a : Nat → Int32} {n i : Nat} : i ≤ en_ a n i := eP_ge a n n 1 i
end
section
section
variable {fp ft fr fs fn yd yr ys : Int32} {stk st L LS R RS sub gS gE nx bg bd : Nat → Int32}
theorem xe_loop {post : Int32 → Prop} {n : Nat} (hn : n ≤ 31) : ∀ (c m e f : Nat), n ≤ c + e → c < f → m + c ≤ 1000 → e ≤ n → post (nI (eP_ sub n c m e)) →
    wX_endOfPart_4 post fp ft fr (nI n) fn stk st L LS R RS sub gS gE nx f (nI m) (nI e) := by
  intro c
  induction c with
  | zero =>
    intro m e f h1 h2 h3 h5 h4
    obtain ⟨f, rfl⟩ : ∃ g, f = g + 1 := ⟨f - 1, by omega⟩
    exact br_c (fun _ => h4) (fun _ => br_t (nI_le (by omega) (by omega)) h4)
  | succ c ih =>
    intro m e f h1 h2 h3 h5 h4
    obtain ⟨f, rfl⟩ : ∃ g, f = g + 1 := ⟨f - 1, by omega⟩
    unfold eP_ at h4
    refine pk_le m 0 (fun h0 => ?_) (fun h0 => pk_le n e (fun h6 => ?_) (fun h6 => ⟨vp_in_nI (by omega) (by omega), ?_⟩))
    · rw [if_pos (by omega)] at h4; exact h4
    · rw [if_neg (by omega), if_pos h6] at h4; exact h4
    · rw [if_neg (by omega), if_neg (by omega)] at h4
      rw [nI_clamp (n := e) (by omega)]
      refine xp_parts ?_
      obtain ⟨m, rfl⟩ : ∃ g, m = g + 1 := ⟨m - 1, by omega⟩
      have hp := pa_le (sub e)
      exact nm_r (ar_1 _ _) (nm_r (nI_1 e) (ih _ _ _ (by omega) (by omega) (by omega) (by omega) h4))
theorem xe_end {post : Int32 → Prop} {n i : Nat} (hn : n ≤ 31) (hi : i ≤ n) (h : post (nI (en_ sub n i))) :
    wpX_endOfPart post (fp, ft, fr, nI n, fn, stk, st, L, LS, R, RS, sub, gS, gE, nx) (nI i) :=
  ⟨n + 1, xe_loop hn n 1 i (n + 1) (by omega) (by omega) (by omega) hi h⟩
theorem ye_loop {post : Int32 → Prop} {n : Nat} (hn : n ≤ 31) : ∀ (c m e f : Nat), n ≤ c + e → c < f → m + c ≤ 1000 → e ≤ n → post (nI (eP_ sub n c m e)) →
    wY_behind_4 post yd yr (nI n) stk bg L LS R RS sub nx bd f (nI m) (nI e) := by
  intro c
  induction c with
  | zero =>
    intro m e f h1 h2 h3 h5 h4
    obtain ⟨f, rfl⟩ : ∃ g, f = g + 1 := ⟨f - 1, by omega⟩
    exact br_t (nI_le (by omega) (by omega)) h4
  | succ c ih =>
    intro m e f h1 h2 h3 h5 h4
    obtain ⟨f, rfl⟩ : ∃ g, f = g + 1 := ⟨f - 1, by omega⟩
    unfold eP_ at h4
    refine pk_le n e (fun h6 => ?_) (fun h6 => pk_le m 0 (fun h0 => ?_) (fun h0 => ⟨vp_in_nI (by omega) (by omega), ?_⟩))
    · by_cases hm : m = 0
      · rw [if_pos hm] at h4; exact h4
      · rw [if_neg hm, if_pos h6] at h4; exact h4
    · rw [if_pos (by omega)] at h4; exact h4
    · rw [if_neg (by omega), if_neg (by omega)] at h4
      rw [nI_clamp (n := e) (by omega)]
      refine yp_parts ?_
      obtain ⟨m, rfl⟩ : ∃ g, m = g + 1 := ⟨m - 1, by omega⟩
      have hp := pa_le (sub e)
      exact nm_r (ar_2 _ _) (nm_r (nI_1 e) (ih _ _ _ (by omega) (by omega) (by omega) (by omega) h4))
theorem ye_end {post : Int32 → Prop} {n i : Nat} (hn : n ≤ 31) (hi : i ≤ n) (h : post (nI (en_ sub n i))) :
    wpY_behind post (yd, yr, nI n, stk, bg, L, LS, R, RS, sub, nx, bd) (nI i) :=
  ⟨n + 1, ye_loop hn n 1 i (n + 1) (by omega) (by omega) (by omega) hi h⟩
theorem xi_c {A B : Prop} {n i : Nat} (hn : n ≤ 31) (hi : i < 2 ^ 31) (hA : n ≤ i → A) (hB : i < n → B) :
    wpX_isPlace (fun r => (r = 0 → A) ∧ (¬ r = 0 → B)) (fp, ft, fr, nI n, fn, stk, st, L, LS, R, RS, sub, gS, gE, nx) (nI i) :=
  br_f (nI_pos hi) (pk_le n i (fun h => br_t rfl (hA h)) (fun h => br_f (by decide) (hB h)))
/-- an int is a place of the subject, or it isn't -/
theorem ix_c {n : Nat} (x : Int32) (hn : n ≤ 31) : x < 0 ∨ (¬ x < 0 ∧ nI n ≤ x) ∨ ∃ j : Nat, j < n ∧ x = nI j := by
  by_cases h : x < 0
  · exact Or.inl h
  · rcases pk_ix x (n := n) (by omega) with h1 | h1 | h1
    · exact absurd h1 h
    · exact Or.inr (Or.inl ⟨h, h1⟩)
    · exact Or.inr (Or.inr h1)
end
end
section
theorem zz_last : True := trivial
end
