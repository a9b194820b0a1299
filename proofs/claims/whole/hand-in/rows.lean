section
theorem pk_us {f : Nat → Int32} {k : Nat} {x : Int32} : upd f k x k = x := if_pos rfl
theorem pk_un {f : Nat → Int32} {k j : Nat} {x : Int32} (h : j ≠ k) : upd f k x j = f j := if_neg h
theorem pk_sub {a b : Nat} (h : b ≤ a) : nI a - nI b = nI (a - b) := by
  obtain ⟨c, rfl⟩ : ∃ c, a = c + b := ⟨a - b, by omega⟩
  rw [← nI_add, Int32.add_sub_cancel, Nat.add_sub_cancel]
theorem pk_m1 (n : Nat) : nI (n + 1) + (-1) = nI n := by
  rw [← nI_1, Int32.add_assoc, show (1 : Int32) + (-1) = 0 from rfl, Int32.add_zero]
theorem pk_mul (a b : Nat) : nI a * nI b = nI (a * b) := (Int32.ofNat_mul a b).symm
theorem pk_sub_toInt {a b : Nat} (ha : a < 2 ^ 30) (hb : b < 2 ^ 30) : (nI a - nI b).toInt = (a : Int) - b := by
  rw [Int32.toInt_sub, nI_toInt (by omega), nI_toInt (by omega)]
  exact Int.bmod_eq_of_le (by omega) (by omega)
theorem pk_sneg {a b : Nat} (hb : b < 2 ^ 30) (h : a < b) : nI a - nI b < 0 := by
  rw [Int32.lt_iff_toInt_lt, pk_sub_toInt (by omega) hb, show (0 : Int32).toInt = 0 from by decide]
  omega
theorem pk_ix (x : Int32) {n : Nat} (hn : n < 2 ^ 31) : x < 0 ∨ nI n ≤ x ∨ ∃ j : Nat, j < n ∧ x = nI j := by
  by_cases h : x < 0
  · exact Or.inl h
  · obtain ⟨j, hj, rfl⟩ := nI_of h
    by_cases h2 : j < n
    · exact Or.inr (Or.inr ⟨j, h2, rfl⟩)
    · exact Or.inr (Or.inl (nI_le (by omega) hj))
theorem pk_le {x y : Int32} {A B : Prop} (a b : Nat) (f : a ≤ b → A) (g : b < a → B) (hx : x = nI a := by rfl) (hy : y = nI b := by rfl) (ha : a < 2 ^ 31 := by omega) (hb : b < 2 ^ 31 := by omega) : (x ≤ y → A) ∧ (¬ x ≤ y → B) := by
  subst hx hy
  rw [nI_leI ha hb]
  exact ⟨f, fun z => g (by omega)⟩
theorem pk_lt {x y : Int32} {A B : Prop} (a b : Nat) (f : a < b → A) (g : b ≤ a → B) (hx : x = nI a := by rfl) (hy : y = nI b := by rfl) (ha : a < 2 ^ 31 := by omega) (hb : b < 2 ^ 31 := by omega) : (x < y → A) ∧ (¬ x < y → B) := by
  subst hx hy
  rw [nI_ltI ha hb]
  exact ⟨f, fun z => g (by omega)⟩
theorem pk_eq {x y : Int32} {A B : Prop} (a b : Nat) (f : a = b → A) (g : a ≠ b → B) (hx : x = nI a := by rfl) (hy : y = nI b := by rfl) (ha : a < 2 ^ 31 := by omega) (hb : b < 2 ^ 31 := by omega) : (x = y → A) ∧ (¬ x = y → B) := by
  subst hx hy
  rw [nI_eq ha hb]
  exact ⟨f, g⟩
theorem pk_in {x : Int32} (n N : Nat) (h : n < N) (hx : x = nI n := by rfl) (hN : N < 2 ^ 31 := by omega) : vp_in x N := by
  subst hx
  exact vp_in_nI h hN
theorem pk_cl {x : Int32} (n : Nat) (hx : x = nI n := by rfl) (h : n < 2 ^ 31 := by omega) : x.toNatClampNeg = n := by
  subst hx
  exact nI_clamp h
theorem pk_least (P : Nat → Prop) (h : ∃ k, P k) : ∃ k, P k ∧ ∀ j, j < k → ¬ P j := by
  obtain ⟨k, hk⟩ := h
  induction k using Nat.strongRecOn with
  | ind k ih =>
    by_cases e : ∃ j, j < k ∧ P j
    · obtain ⟨j, hj, pj⟩ := e
      exact ih j hj pj
    · exact ⟨k, hk, fun j hj pj => e ⟨j, hj, pj⟩⟩
theorem ar_1 (m q : Nat) : nI (m + 1) + (nI q - 1) = nI (m + q) := by
  rw [nI_succ, ← nI_add]; grind
theorem ar_2 (m q : Nat) : nI (m + 1) - 1 + nI q = nI (m + q) := by
  rw [nI_pred, nI_add]
theorem ar_67 (x : Int32) : x ≤ 6 ↔ x < 7 := by
  rw [Int32.le_iff_toInt_le, Int32.lt_iff_toInt_lt, show (6 : Int32).toInt = 6 from by decide, show (7 : Int32).toInt = 7 from by decide]
  omega
theorem ar_n10 {n : Nat} (h : n < 2 ^ 31) : ¬ nI n = -4 := by
  intro e
  have := congrArg Int32.toInt e
  rw [nI_toInt h, show (-4 : Int32).toInt = -4 from by decide] at this
  omega
/-- a symbol of the document -/
def sy_ok (x : Int32) : Prop := ∃ j : Nat, j ≤ 9 ∧ x = nI j
theorem sy_0 : sy_ok 0 := ⟨0, by omega, rfl⟩
theorem sy_upd {a : Nat → Int32} (h : ∀ i, sy_ok (a i)) (k : Nat) {x : Int32} (hx : sy_ok x) : ∀ i, sy_ok (upd a k x i) := by
  intro i
  by_cases e : i = k
  · subst e; rw [pk_us]; exact hx
  · rw [pk_un e]; exact h i
theorem sy_v {x : Int32} (h : sy_ok x) (h7 : ¬ x < 7) : ∃ j : Nat, j < 3 ∧ x - 7 = nI j ∧ x = nI (j + 7) := by
  obtain ⟨j, hj, rfl⟩ := h
  have h7' : ¬ nI j < nI 7 := h7
  rw [nI_ltI (by omega) (by omega)] at h7'
  refine ⟨j - 7, by omega, ?_, ?_⟩
  · exact pk_sub (a := j) (b := 7) (by omega)
  · rw [show j - 7 + 7 = j from by omega]
/-- how many parts a symbol has -/
def pa_ (x : Int32) : Nat := if x < 3 then 0 else if x < 7 then (if 5 ≤ x then 2 else 1) else 0
theorem pa_le (x : Int32) : pa_ x ≤ 2 := by
  unfold pa_; split
  · omega
  · split
    · split <;> omega
    · omega
theorem xp_parts {post : Int32 → Prop} {x : Int32} (h : post (nI (pa_ x))) : wpX_partsOf post x := by
  unfold pa_ at h
  refine br_c (fun a => ?_) (fun a => br_c (fun b => br_c (fun c => ?_) (fun c => ?_)) (fun b => ?_))
  · rw [if_pos a] at h; exact h
  · rw [if_neg a, if_pos b, if_pos c] at h; exact h
  · rw [if_neg a, if_pos b, if_neg c] at h; exact h
  · rw [if_neg a, if_neg b] at h; exact h
theorem yp_parts {post : Int32 → Prop} {v : SY} {x : Int32} (h : post (nI (pa_ x))) : wpY_partsOf post v x := by
  unfold pa_ at h
  refine br_c (fun a => ?_) (fun a => br_c (fun b => br_c (fun c => ?_) (fun c => ?_)) (fun b => ?_))
  · rw [if_pos a] at h; exact h
  · rw [if_neg a, if_pos ((ar_67 x).mp b), if_pos c] at h; exact h
  · rw [if_neg a, if_pos ((ar_67 x).mp b), if_neg c] at h; exact h
  · rw [if_neg a, if_neg (fun z => b ((ar_67 x).mpr z))] at h; exact h
theorem xv_c {A B : Prop} {x : Int32} (hA : x < 7 → A) (hB : ¬ x < 7 → B) : wpX_isVariable (fun r => (r = 0 → A) ∧ (¬ r = 0 → B)) x :=
  br_c (fun h => br_t rfl (hA h)) (fun h => br_f (by decide) (hB h))
theorem yv_c {A B : Prop} {v : SY} {x : Int32} (hA : x < 7 → A) (hB : ¬ x < 7 → B) : wpY_isVariable (fun r => (r = 0 → A) ∧ (¬ r = 0 → B)) v x :=
  br_c (fun h => br_t rfl (hA ((ar_67 x).mp h))) (fun h => br_f (by decide) (hB (fun z => h ((ar_67 x).mpr z))))
/-- the end of the part that begins at a place -/
def eP_ (a : Nat → Int32) (n : Nat) : Nat → Nat → Nat → Nat
  | 0, _, e => e
  | c + 1, m, e => if m = 0 then e else if n ≤ e then e else eP_ a n c (m - 1 + pa_ (a e)) (e + 1)
def en_ (a : Nat → Int32) (n i : Nat) : Nat := eP_ a n n 1 i
theorem eP_ge (a : Nat → Int32) (n : Nat) : ∀ c m e, e ≤ eP_ a n c m e := by
  intro c
  induction c with
  | zero => intro m e; exact Nat.le_refl _
  | succ c ih =>
    intro m e
    unfold eP_
    split
    · omega
    · split
      · omega
      · have := ih (m - 1 + pa_ (a e)) (e + 1); omega
theorem eP_le (a : Nat → Int32) (n : Nat) : ∀ c m e, e ≤ n → eP_ a n c m e ≤ n := by
  intro c
  induction c with
  | zero => intro m e h; exact h
  | succ c ih =>
    intro m e h
    unfold eP_
    split
    · omega
    · split
      · omega
      · exact ih _ _ (by omega)
theorem en_gt {a : Nat → Int32} {n i : Nat} (h : i < n) : i < en_ a n i := by
  unfold en_
  obtain ⟨c, rfl⟩ : ∃ c, n = c + 1 := ⟨n - 1, by omega⟩
  unfold eP_
  rw [if_neg (by omega), if_neg (by omega)]
  have := eP_ge a (c + 1) c (1 - 1 + pa_ (a i)) (i + 1)
  omega
theorem en_le {a : Nat → Int32} {n i : Nat} (h : i ≤ n) : en_ a n i ≤ n := eP_le a n n 1 i h
theorem en_ge {a : Nat → Int32} {n i : Nat} : i ≤ en_ a n i := eP_ge a n n 1 i
end
section
section
variable {fp ft fr fs fn yd yr ys : Int32} {stk st L LS R RS sub gS gE nx bg bd : Nat → Int32}
theorem xe_loop {post : Int32 → Prop} {n : Nat} (hn : n ≤ 31) : ∀ (c m e f : Nat), n ≤ c + e → c < f → m + c ≤ 1000 → e ≤ n → post (nI (eP_ sub n c m e)) →
    wX_endOfPart_4 post fp ft fr (nI n) fn stk st L LS R RS sub gS gE nx f (nI m) (nI e) := by
  intro c
  induction c with
  | zero =>
    intro m e f h1 h2 h3 h5 h4
    obtain ⟨f, rfl⟩ : ∃ g, f = g + 1 := ⟨f - 1, by omega⟩
    exact br_c (fun _ => h4) (fun _ => br_t (nI_le (by omega) (by omega)) h4)
  | succ c ih =>
    intro m e f h1 h2 h3 h5 h4
    obtain ⟨f, rfl⟩ : ∃ g, f = g + 1 := ⟨f - 1, by omega⟩
    unfold eP_ at h4
    refine pk_le m 0 (fun h0 => ?_) (fun h0 => pk_le n e (fun h6 => ?_) (fun h6 => ⟨vp_in_nI (by omega) (by omega), ?_⟩))
    · rw [if_pos (by omega)] at h4; exact h4
    · rw [if_neg (by omega), if_pos h6] at h4; exact h4
    · rw [if_neg (by omega), if_neg (by omega)] at h4
      rw [nI_clamp (n := e) (by omega)]
      refine xp_parts ?_
      obtain ⟨m, rfl⟩ : ∃ g, m = g + 1 := ⟨m - 1, by omega⟩
      have hp := pa_le (sub e)
      exact nm_r (ar_1 _ _) (nm_r (nI_1 e) (ih _ _ _ (by omega) (by omega) (by omega) (by omega) h4))
theorem xe_end {post : Int32 → Prop} {n i : Nat} (hn : n ≤ 31) (hi : i ≤ n) (h : post (nI (en_ sub n i))) :
    wpX_endOfPart post (fp, ft, fr, nI n, fn, stk, st, L, LS, R, RS, sub, gS, gE, nx) (nI i) :=
  ⟨n + 1, xe_loop hn n 1 i (n + 1) (by omega) (by omega) (by omega) hi h⟩
theorem ye_loop {post : Int32 → Prop} {n : Nat} (hn : n ≤ 31) : ∀ (c m e f : Nat), n ≤ c + e → c < f → m + c ≤ 1000 → e ≤ n → post (nI (eP_ sub n c m e)) →
    wY_behind_4 post yd yr (nI n) stk bg L LS R RS sub nx bd f (nI m) (nI e) := by
  intro c
  induction c with
  | zero =>
    intro m e f h1 h2 h3 h5 h4
    obtain ⟨f, rfl⟩ : ∃ g, f = g + 1 := ⟨f - 1, by omega⟩
    exact br_t (nI_le (by omega) (by omega)) h4
  | succ c ih =>
    intro m e f h1 h2 h3 h5 h4
    obtain ⟨f, rfl⟩ : ∃ g, f = g + 1 := ⟨f - 1, by omega⟩
    unfold eP_ at h4
    refine pk_le n e (fun h6 => ?_) (fun h6 => pk_le m 0 (fun h0 => ?_) (fun h0 => ⟨vp_in_nI (by omega) (by omega), ?_⟩))
    · by_cases hm : m = 0
      · rw [if_pos hm] at h4; exact h4
      · rw [if_neg hm, if_pos h6] at h4; exact h4
    · rw [if_pos (by omega)] at h4; exact h4
    · rw [if_neg (by omega), if_neg (by omega)] at h4
      rw [nI_clamp (n := e) (by omega)]
      refine yp_parts ?_
      obtain ⟨m, rfl⟩ : ∃ g, m = g + 1 := ⟨m - 1, by omega⟩
      have hp := pa_le (sub e)
      exact nm_r (ar_2 _ _) (nm_r (nI_1 e) (ih _ _ _ (by omega) (by omega) (by omega) (by omega) h4))
theorem ye_end {post : Int32 → Prop} {n i : Nat} (hn : n ≤ 31) (hi : i ≤ n) (h : post (nI (en_ sub n i))) :
    wpY_behind post (yd, yr, nI n, stk, bg, L, LS, R, RS, sub, nx, bd) (nI i) :=
  ⟨n + 1, ye_loop hn n 1 i (n + 1) (by omega) (by omega) (by omega) hi h⟩
theorem xi_c {A B : Prop} {n i : Nat} (hn : n ≤ 31) (hi : i < 2 ^ 31) (hA : n ≤ i → A) (hB : i < n → B) :
    wpX_isPlace (fun r => (r = 0 → A) ∧ (¬ r = 0 → B)) (fp, ft, fr, nI n, fn, stk, st, L, LS, R, RS, sub, gS, gE, nx) (nI i) :=
  br_f (nI_pos hi) (pk_le n i (fun h => br_t rfl (hA h)) (fun h => br_f (by decide) (hB h)))
/-- an int is a place of the subject, or it isn't -/
theorem ix_c {n : Nat} (x : Int32) (hn : n ≤ 31) : x < 0 ∨ (¬ x < 0 ∧ nI n ≤ x) ∨ ∃ j : Nat, j < n ∧ x = nI j := by
  by_cases h : x < 0
  · exact Or.inl h
  · rcases pk_ix x (n := n) (by omega) with h1 | h1 | h1
    · exact absurd h1 h
    · exact Or.inr (Or.inl ⟨h, h1⟩)
    · exact Or.inr (Or.inr h1)
end
end
section
/-- the given-slot of a variable -/
def ix_ (x : Int32) : Nat := (x - 7).toNatClampNeg
/-- the place at step k of a match of the row f at place i -/
def ps_ (a : Nat → Int32) (n : Nat) (f : Nat → Int32) (i : Nat) : Nat → Nat
  | 0 => i
  | k + 1 => if f k < 7 then ps_ a n f i k + 1 else en_ a n (ps_ a n f i k)
/-- where the variable of slot j was last given its part, k steps on -/
def bp_ (a : Nat → Int32) (n : Nat) (f : Nat → Int32) (i : Nat) : Nat → Nat → Nat
  | 0, _ => 0
  | k + 1, j => if f k < 7 then bp_ a n f i k j else if j = ix_ (f k) then ps_ a n f i k else bp_ a n f i k j
/-- step k of the match goes through -/
def so_ (a : Nat → Int32) (n : Nat) (f : Nat → Int32) (i k : Nat) : Prop := ps_ a n f i k < n ∧ (f k < 7 → f k = a (ps_ a n f i k))
/-- the array g holds h of the places of the variables seen in k steps -/
def iv_ (a : Nat → Int32) (n : Nat) (f : Nat → Int32) (i : Nat) (g : Nat → Int32) (h : Nat → Int32) (k : Nat) : Prop :=
  ∀ k', k' < k → ¬ f k' < 7 → g (ix_ (f k')) = h (bp_ a n f i k (ix_ (f k')))
theorem iv_0 {a f g h : Nat → Int32} {n i : Nat} : iv_ a n f i g h 0 := fun k' hk => absurd hk (by omega)
theorem iv_lit {a f g h : Nat → Int32} {n i k : Nat} (h7 : f k < 7) (H : iv_ a n f i g h k) : iv_ a n f i g h (k + 1) := by
  intro k' hk hv
  have hne : k' ≠ k := fun e => hv (e ▸ h7)
  have := H k' (by omega) hv
  unfold bp_
  rw [if_pos h7]; exact this
theorem iv_var {a f g h : Nat → Int32} {n i k : Nat} (h7 : ¬ f k < 7) (H : iv_ a n f i g h k) : iv_ a n f i (upd g (ix_ (f k)) (h (ps_ a n f i k))) h (k + 1) := by
  intro k' hk hv
  unfold bp_
  rw [if_neg h7]
  by_cases e : ix_ (f k') = ix_ (f k)
  · rw [e, pk_us, if_pos rfl]
  · rw [pk_un e, if_neg e]
    have hne : k' ≠ k := fun e' => e (by rw [e'])
    exact H k' (by omega) hv
theorem bp_lt {a f : Nat → Int32} {n i : Nat} : ∀ k, (∀ k', k' < k → ps_ a n f i k' < n) → ∀ k', k' < k → ¬ f k' < 7 → bp_ a n f i k (ix_ (f k')) < n := by
  intro k
  induction k with
  | zero => intro _ k' hk; omega
  | succ k ih =>
    intro H k' hk hv
    unfold bp_
    by_cases h7 : f k < 7
    · rw [if_pos h7]
      have hne : k' ≠ k := fun e => hv (e ▸ h7)
      exact ih (fun j hj => H j (by omega)) k' (by omega) hv
    · rw [if_neg h7]
      by_cases e : ix_ (f k') = ix_ (f k)
      · rw [if_pos e]; exact H k (by omega)
      · rw [if_neg e]
        have hne : k' ≠ k := fun e' => e (by rw [e'])
        exact ih (fun j hj => H j (by omega)) k' (by omega) hv
/-- the row of a rule's left side, and its length -/
def lr_ (L : Nat → Int32) (r : Nat) : Nat → Int32 := fun k => L (r * 7 + k)
def ll_ (LS : Nat → Int32) (r : Nat) : Nat := (LS r).toNatClampNeg
/-- rule r fits at place i -/
def mt_ (a : Nat → Int32) (n : Nat) (L LS : Nat → Int32) (r i : Nat) : Prop := ∀ k, k < ll_ LS r → so_ a n (lr_ L r) i k
section
variable {fp ft fr fs fn yd yr ys : Int32} {stk st L LS R RS sub gS gE nx bg bd : Nat → Int32}
theorem ma_x {n r i l : Nat} (hn : n ≤ 31) (hr : r < 6) (hl : LS r = nI l) (hl7 : l ≤ 7) (hL : ∀ j, sy_ok (L j)) : ∀ (c k f : Nat) (gS gE : Nat → Int32), k + c = l → c < f →
    (∀ k', k' < k → so_ sub n (lr_ L r) i k') → ps_ sub n (lr_ L r) i k ≤ n ∨ k = 0 ∧ i < 2 ^ 31 →
    iv_ sub n (lr_ L r) i gS nI k → iv_ sub n (lr_ L r) i gE (fun x => nI (en_ sub n x)) k →
    ∃ (b : Int32) (gS' gE' : Nat → Int32), ((b = 0 ∧ ¬ mt_ sub n L LS r i) ∨ (b = 1 ∧ mt_ sub n L LS r i ∧ iv_ sub n (lr_ L r) i gS' nI l ∧ iv_ sub n (lr_ L r) i gE' (fun x => nI (en_ sub n x)) l)) ∧
      ∀ post : Int32 → SX → Prop, post b (fp, ft, fr, nI n, fn, stk, st, L, LS, R, RS, sub, gS', gE', nx) →
        wX_ruleFitsAt_5 post (nI r) fp ft fr (nI n) fn f (nI (ps_ sub n (lr_ L r) i k)) (nI k) stk st L LS R RS sub gS gE nx := by
  have hll : ll_ LS r = l := by unfold ll_; rw [hl, nI_clamp (by omega)]
  have hcr : (nI r).toNatClampNeg = r := nI_clamp (by omega)
  intro c
  induction c with
  | zero =>
    intro k f gS gE hk hf hso hps h1 h2
    obtain ⟨f, rfl⟩ : ∃ g, f = g + 1 := ⟨f - 1, by omega⟩
    obtain rfl : k = l := by omega
    refine ⟨1, gS, gE, Or.inr ⟨rfl, fun k' hk' => hso k' (hll ▸ hk'), h1, h2⟩, fun post hp => ⟨vp_in_nI hr (by omega), br_t ?_ hp⟩⟩
    rw [hcr, hl]; exact nI_le (by omega) (by omega)
  | succ c ih =>
    intro k f gS gE hk hf hso hps h1 h2
    obtain ⟨f, rfl⟩ : ∃ g, f = g + 1 := ⟨f - 1, by omega⟩
    have hix : nI r * 7 + nI k = nI (r * 7 + k) := by
      rw [show (7 : Int32) = nI 7 from rfl, pk_mul, nI_add]
    have hci : (nI r * 7 + nI k).toNatClampNeg = r * 7 + k := by rw [hix, nI_clamp (by omega)]
    have hvi : vp_in (nI r * 7 + nI k) 42 := by rw [hix]; exact vp_in_nI (by omega) (by omega)
    have hlt : ¬ LS (nI r).toNatClampNeg ≤ nI k := by rw [hcr, hl]; exact nI_ge (by omega) (by omega)
    have hp31 : ps_ sub n (lr_ L r) i k < 2 ^ 31 := by
      rcases hps with h | ⟨rfl, h⟩
      · omega
      · exact h
    by_cases hpl : ps_ sub n (lr_ L r) i k < n
    · have hcp : (nI (ps_ sub n (lr_ L r) i k)).toNatClampNeg = ps_ sub n (lr_ L r) i k := nI_clamp (by omega)
      by_cases h7 : lr_ L r k < 7
      · by_cases he : lr_ L r k = sub (ps_ sub n (lr_ L r) i k)
        · have hpk : ps_ sub n (lr_ L r) i (k + 1) = ps_ sub n (lr_ L r) i k + 1 := by
            show (if _ then _ else _) = _
            rw [if_pos h7]
          obtain ⟨b, gS', gE', hb, hP⟩ := ih (k + 1) f gS gE (by omega) (by omega)
            (fun k' hk' => by
              by_cases e : k' = k
              · subst e; exact ⟨hpl, fun _ => he⟩
              · exact hso k' (by omega))
            (Or.inl (by omega)) (iv_lit h7 h1) (iv_lit h7 h2)
          refine ⟨b, gS', gE', hb, fun post hp => ⟨vp_in_nI hr (by omega), br_f hlt ⟨hvi, nm_r (congrArg L hci) ?_⟩⟩⟩
          refine xi_c hn hp31 (fun h => absurd h (by omega)) (fun _ => ?_)
          refine xv_c (fun _ => ⟨vp_in_nI (by omega) (by omega), br_t ?_ ?_⟩) (fun h => absurd h7 h)
          · rw [hcp]; exact he
          · refine nm_r (nI_1 _) (nm_r (nI_1 _) ?_)
            rw [← hpk]; exact hP post hp
        · refine ⟨0, gS, gE, Or.inl ⟨rfl, fun M => he ((M k (by omega)).2 h7)⟩, fun post hp => ⟨vp_in_nI hr (by omega), br_f hlt ⟨hvi, nm_r (congrArg L hci) ?_⟩⟩⟩
          refine xi_c hn hp31 (fun h => absurd h (by omega)) (fun _ => ?_)
          refine xv_c (fun _ => ⟨vp_in_nI (by omega) (by omega), br_f ?_ hp⟩) (fun h => absurd h7 h)
          rw [hcp]; exact he
      · have hpk : ps_ sub n (lr_ L r) i (k + 1) = en_ sub n (ps_ sub n (lr_ L r) i k) := by
          show (if _ then _ else _) = _
          rw [if_neg h7]
        obtain ⟨j, hj, ej, _⟩ := sy_v (hL (r * 7 + k)) h7
        obtain ⟨b, gS', gE', hb, hP⟩ := ih (k + 1) f _ _ (by omega) (by omega)
            (fun k' hk' => by
              by_cases e : k' = k
              · subst e; exact ⟨hpl, fun h => absurd h h7⟩
              · exact hso k' (by omega))
            (Or.inl (by rw [hpk]; exact en_le (by omega))) (iv_var h7 h1) (iv_var h7 h2)
        refine ⟨b, gS', gE', hb, fun post hp => ⟨vp_in_nI hr (by omega), br_f hlt ⟨hvi, nm_r (congrArg L hci) ?_⟩⟩⟩
        refine xi_c hn hp31 (fun h => absurd h (by omega)) (fun _ => ?_)
        refine xv_c (fun h => absurd h h7) (fun _ => ?_)
        refine xe_end hn (by omega) ?_
        have hv3 : vp_in (L (r * 7 + k) - 7) 3 := by rw [ej]; exact vp_in_nI hj (by omega)
        refine ⟨hv3, nm_e ⟨hv3, nm_e (nm_r (nI_1 _) ?_)⟩⟩
        have hP' := hP post hp
        rw [hpk] at hP'; exact hP'
    · refine ⟨0, gS, gE, Or.inl ⟨rfl, fun M => hpl (M k (by omega)).1⟩, fun post hp => ⟨vp_in_nI hr (by omega), br_f hlt ⟨hvi, nm_r (congrArg L hci) ?_⟩⟩⟩
      exact xi_c hn hp31 (fun _ => hp) (fun h => absurd h hpl)
theorem ma_y {n r i l : Nat} (hn : n ≤ 31) (hr : r < 6) (hl : LS r = nI l) (hl7 : l ≤ 7) (hL : ∀ j, sy_ok (L j)) : ∀ (c k f : Nat) (bd : Nat → Int32), k + c = l → c < f →
    (∀ k', k' < k → so_ sub n (lr_ L r) i k') → ps_ sub n (lr_ L r) i k ≤ n ∨ k = 0 ∧ i < 2 ^ 31 →
    iv_ sub n (lr_ L r) i bd nI k →
    ∃ (b : Int32) (bd' : Nat → Int32), ((b = 0 ∧ ¬ mt_ sub n L LS r i) ∨ (b = 1 ∧ mt_ sub n L LS r i ∧ iv_ sub n (lr_ L r) i bd' nI l)) ∧
      ∀ post : Int32 → SY → Prop, post b (yd, yr, nI n, stk, bg, L, LS, R, RS, sub, nx, bd') →
        wY_matches_5 post (nI r) yd yr (nI n) f (nI (ps_ sub n (lr_ L r) i k)) (nI k) stk bg L LS R RS sub nx bd := by
  have hll : ll_ LS r = l := by unfold ll_; rw [hl, nI_clamp (by omega)]
  have hcr : (nI r).toNatClampNeg = r := nI_clamp (by omega)
  intro c
  induction c with
  | zero =>
    intro k f bd hk hf hso hps h1
    obtain ⟨f, rfl⟩ : ∃ g, f = g + 1 := ⟨f - 1, by omega⟩
    obtain rfl : k = l := by omega
    refine ⟨1, bd, Or.inr ⟨rfl, fun k' hk' => hso k' (hll ▸ hk'), h1⟩, fun post hp => ⟨vp_in_nI hr (by omega), br_t ?_ hp⟩⟩
    rw [hcr, hl]; exact nI_le (by omega) (by omega)
  | succ c ih =>
    intro k f bd hk hf hso hps h1
    obtain ⟨f, rfl⟩ : ∃ g, f = g + 1 := ⟨f - 1, by omega⟩
    have hix : 7 * nI r + nI k = nI (r * 7 + k) := by
      rw [show (7 : Int32) = nI 7 from rfl, pk_mul, nI_add, Nat.mul_comm]
    have hci : (7 * nI r + nI k).toNatClampNeg = r * 7 + k := by rw [hix, nI_clamp (by omega)]
    have hvi : vp_in (7 * nI r + nI k) 42 := by rw [hix]; exact vp_in_nI (by omega) (by omega)
    have hlt : ¬ LS (nI r).toNatClampNeg ≤ nI k := by rw [hcr, hl]; exact nI_ge (by omega) (by omega)
    have hp31 : ps_ sub n (lr_ L r) i k < 2 ^ 31 := by
      rcases hps with h | ⟨rfl, h⟩
      · omega
      · exact h
    by_cases hpl : ps_ sub n (lr_ L r) i k < n
    · have hcp : (nI (ps_ sub n (lr_ L r) i k)).toNatClampNeg = ps_ sub n (lr_ L r) i k := nI_clamp (by omega)
      have hpl' : nI (ps_ sub n (lr_ L r) i k) < nI n := nI_lt hpl (by omega)
      by_cases h7 : lr_ L r k < 7
      · by_cases he : lr_ L r k = sub (ps_ sub n (lr_ L r) i k)
        · have hpk : ps_ sub n (lr_ L r) i (k + 1) = ps_ sub n (lr_ L r) i k + 1 := by
            show (if _ then _ else _) = _
            rw [if_pos h7]
          obtain ⟨b, bd', hb, hP⟩ := ih (k + 1) f bd (by omega) (by omega)
            (fun k' hk' => by
              by_cases e : k' = k
              · subst e; exact ⟨hpl, fun _ => he⟩
              · exact hso k' (by omega))
            (Or.inl (by omega)) (iv_lit h7 h1)
          refine ⟨b, bd', hb, fun post hp => ⟨vp_in_nI hr (by omega), br_f hlt ⟨hvi, nm_r (congrArg L hci) (br_t hpl' ?_)⟩⟩⟩
          refine yv_c (fun _ => ⟨vp_in_nI (by omega) (by omega), br_t ?_ ?_⟩) (fun h => absurd h7 h)
          · rw [hcp]; exact he.symm
          · refine nm_r (nI_1 _) (nm_r (nI_1 _) ?_)
            rw [← hpk]; exact hP post hp
        · refine ⟨0, bd, Or.inl ⟨rfl, fun M => he ((M k (by omega)).2 h7)⟩, fun post hp => ⟨vp_in_nI hr (by omega), br_f hlt ⟨hvi, nm_r (congrArg L hci) (br_t hpl' ?_)⟩⟩⟩
          refine yv_c (fun _ => ⟨vp_in_nI (by omega) (by omega), br_f ?_ hp⟩) (fun h => absurd h7 h)
          rw [hcp]; exact fun z => he z.symm
      · have hpk : ps_ sub n (lr_ L r) i (k + 1) = en_ sub n (ps_ sub n (lr_ L r) i k) := by
          show (if _ then _ else _) = _
          rw [if_neg h7]
        obtain ⟨j, hj, ej, _⟩ := sy_v (hL (r * 7 + k)) h7
        obtain ⟨b, bd', hb, hP⟩ := ih (k + 1) f _ (by omega) (by omega)
            (fun k' hk' => by
              by_cases e : k' = k
              · subst e; exact ⟨hpl, fun h => absurd h h7⟩
              · exact hso k' (by omega))
            (Or.inl (by rw [hpk]; exact en_le (by omega))) (iv_var h7 h1)
        refine ⟨b, bd', hb, fun post hp => ⟨vp_in_nI hr (by omega), br_f hlt ⟨hvi, nm_r (congrArg L hci) (br_t hpl' ?_)⟩⟩⟩
        refine yv_c (fun h => absurd h h7) (fun _ => ?_)
        have hv3 : vp_in (L (r * 7 + k) - 7) 3 := by rw [ej]; exact vp_in_nI hj (by omega)
        refine ⟨hv3, nm_e ?_⟩
        refine ye_end hn (by omega) ?_
        refine nm_r (nI_1 _) ?_
        rw [← hpk]; exact hP post hp
    · refine ⟨0, bd, Or.inl ⟨rfl, fun M => hpl (M k (by omega)).1⟩, fun post hp => ⟨vp_in_nI hr (by omega), br_f hlt ⟨hvi, nm_r (congrArg L hci) (br_f ?_ hp)⟩⟩⟩
      exact nI_nlt (by omega) hp31
end
end
section
section
variable {fp ft fr fs fn yd yr ys : Int32} {stk st L LS R RS sub gS gE nx bg bd : Nat → Int32}
theorem mr_x {n r i l : Nat} (gS gE : Nat → Int32) (hn : n ≤ 31) (hr : r < 6) (hl : LS r = nI l) (hl7 : l ≤ 7) (hL : ∀ j, sy_ok (L j)) (hi : i < n) :
    ∃ (b : Int32) (gS' gE' : Nat → Int32), ((b = 0 ∧ ¬ mt_ sub n L LS r i) ∨ (b = 1 ∧ mt_ sub n L LS r i ∧ iv_ sub n (lr_ L r) i gS' nI (ll_ LS r) ∧ iv_ sub n (lr_ L r) i gE' (fun x => nI (en_ sub n x)) (ll_ LS r))) ∧
      ∀ post : Int32 → SX → Prop, post b (fp, ft, fr, nI n, fn, stk, st, L, LS, R, RS, sub, gS', gE', nx) →
        wpX_ruleFitsAt post (fp, ft, fr, nI n, fn, stk, st, L, LS, R, RS, sub, gS, gE, nx) (nI r) (nI i) := by
  have hll : ll_ LS r = l := by unfold ll_; rw [hl, nI_clamp (by omega)]
  rw [hll]
  obtain ⟨b, gS', gE', hb, hP⟩ := ma_x (fp := fp) (ft := ft) (fr := fr) (fn := fn) (stk := stk) (st := st) (R := R) (RS := RS) (nx := nx) (sub := sub) (i := i) hn hr hl hl7 hL l 0 (l + 1) gS gE (by omega) (by omega) (fun k' h => absurd h (by omega)) (Or.inr ⟨rfl, by omega⟩) iv_0 iv_0
  exact ⟨b, gS', gE', hb, fun post hp => ⟨l + 1, hP post hp⟩⟩
theorem mr_y {n r i l : Nat} (bd : Nat → Int32) (hn : n ≤ 31) (hr : r < 6) (hl : LS r = nI l) (hl7 : l ≤ 7) (hL : ∀ j, sy_ok (L j)) (hi : i < n) :
    ∃ (b : Int32) (bd' : Nat → Int32), ((b = 0 ∧ ¬ mt_ sub n L LS r i) ∨ (b = 1 ∧ mt_ sub n L LS r i ∧ iv_ sub n (lr_ L r) i bd' nI (ll_ LS r))) ∧
      ∀ post : Int32 → SY → Prop, post b (yd, yr, nI n, stk, bg, L, LS, R, RS, sub, nx, bd') →
        wpY_matches post (yd, yr, nI n, stk, bg, L, LS, R, RS, sub, nx, bd) (nI r) (nI i) := by
  have hll : ll_ LS r = l := by unfold ll_; rw [hl, nI_clamp (by omega)]
  rw [hll]
  obtain ⟨b, bd', hb, hP⟩ := ma_y (yd := yd) (yr := yr) (stk := stk) (bg := bg) (R := R) (RS := RS) (nx := nx) (sub := sub) (i := i) hn hr hl hl7 hL l 0 (l + 1) bd (by omega) (by omega) (fun k' h => absurd h (by omega)) (Or.inr ⟨rfl, by omega⟩) iv_0
  exact ⟨b, bd', hb, fun post hp => ⟨l + 1, hP post hp⟩⟩
/-- what fits answers at a place, whatever the given parts are -/
def fa_ (a : Nat → Int32) (n : Nat) (L LS : Nat → Int32) (m i : Nat) (b : Int32) : Prop :=
  (b = -4 ∧ ∀ r, r < m → ¬ mt_ a n L LS r i) ∨ (∃ r, r < m ∧ b = nI r ∧ mt_ a n L LS r i ∧ ∀ q, q < r → ¬ mt_ a n L LS q i)
theorem fa_u {a L LS : Nat → Int32} {n m i : Nat} {b b' : Int32} (h : fa_ a n L LS m i b) (h' : fa_ a n L LS m i b') : b' = b := by
  rcases h with ⟨e, h⟩ | ⟨r, hr, e, h, hq⟩ <;> rcases h' with ⟨e', h'⟩ | ⟨r', hr', e', h', hq'⟩
  · rw [e, e']
  · exact absurd h' (h r' hr')
  · exact absurd h (h' r hr)
  · have : r' = r := by
      rcases Nat.lt_trichotomy r r' with z | z | z
      · exact absurd h (hq' r z)
      · exact z.symm
      · exact absurd h' (hq r' z)
    rw [e, e', this]
theorem fl_x {n m i : Nat} (hn : n ≤ 31) (hm : m ≤ 6) (hi : i < n) (hL : ∀ j, sy_ok (L j)) (hR : ∀ r, r < m → ∃ l, l ≤ 7 ∧ LS r = nI l) : ∀ (c k f : Nat) (gS gE : Nat → Int32), k + c = m → c < f → (∀ q, q < k → ¬ mt_ sub n L LS q i) →
    ∃ (b : Int32) (gS' gE' : Nat → Int32), fa_ sub n L LS m i b ∧ (∀ r, r < m → b = nI r → iv_ sub n (lr_ L r) i gS' nI (ll_ LS r) ∧ iv_ sub n (lr_ L r) i gE' (fun x => nI (en_ sub n x)) (ll_ LS r)) ∧
      ∀ post : Int32 → SX → Prop, post b (fp, ft, nI m, nI n, fn, stk, st, L, LS, R, RS, sub, gS', gE', nx) →
        wX_fits_13 post (nI i) f (nI k) fp ft (nI m) (nI n) fn stk st L LS R RS sub gS gE nx := by
  intro c
  induction c with
  | zero =>
    intro k f gS gE hk hf hq
    obtain ⟨f, rfl⟩ : ∃ g, f = g + 1 := ⟨f - 1, by omega⟩
    obtain rfl : k = m := by omega
    refine ⟨-4, gS, gE, Or.inl ⟨rfl, hq⟩, fun r hr e => absurd e.symm (ar_n10 (by omega)), fun post hp => br_t (nI_le (by omega) (by omega)) hp⟩
  | succ c ih =>
    intro k f gS gE hk hf hq
    obtain ⟨f, rfl⟩ : ∃ g, f = g + 1 := ⟨f - 1, by omega⟩
    obtain ⟨l, hl7, hl⟩ := hR k (by omega)
    obtain ⟨b, g1, g2, hb, hP⟩ := mr_x (fp := fp) (ft := ft) (fr := nI m) (fn := fn) (stk := stk) (st := st) (R := R) (RS := RS) (nx := nx) (sub := sub) gS gE hn (show k < 6 by omega) hl hl7 hL hi
    rcases hb with ⟨rfl, hM⟩ | ⟨rfl, hM, h1, h2⟩
    · obtain ⟨b', gS', gE', hA, hI, hP'⟩ := ih (k + 1) f g1 g2 (by omega) (by omega) (fun q hq' => by
        by_cases e : q = k
        · subst e; exact hM
        · exact hq q (by omega))
      exact ⟨b', gS', gE', hA, hI, fun post hp => br_f (nI_ge (by omega) (by omega)) (hP _ (br_t rfl (nm_r (nI_1 _) (hP' post hp))))⟩
    · refine ⟨nI k, g1, g2, Or.inr ⟨k, by omega, rfl, hM, hq⟩, fun r hr e => ?_, fun post hp => br_f (nI_ge (by omega) (by omega)) (hP _ (br_f (by decide) hp))⟩
      rw [nI_eq (by omega) (by omega)] at e
      subst e; exact ⟨h1, h2⟩
theorem fi_x {n m i : Nat} (gS gE : Nat → Int32) (hn : n ≤ 31) (hm : m ≤ 6) (hi : i < n) (hL : ∀ j, sy_ok (L j)) (hR : ∀ r, r < m → ∃ l, l ≤ 7 ∧ LS r = nI l) :
    ∃ (b : Int32) (gS' gE' : Nat → Int32), fa_ sub n L LS m i b ∧ (∀ r, r < m → b = nI r → iv_ sub n (lr_ L r) i gS' nI (ll_ LS r) ∧ iv_ sub n (lr_ L r) i gE' (fun x => nI (en_ sub n x)) (ll_ LS r)) ∧
      ∀ post : Int32 → SX → Prop, post b (fp, ft, nI m, nI n, fn, stk, st, L, LS, R, RS, sub, gS', gE', nx) →
        wpX_fits post (fp, ft, nI m, nI n, fn, stk, st, L, LS, R, RS, sub, gS, gE, nx) (nI i) := by
  obtain ⟨b, gS', gE', hA, hI, hP⟩ := fl_x (fp := fp) (ft := ft) (fn := fn) (stk := stk) (st := st) (R := R) (RS := RS) (nx := nx) (sub := sub) hn hm hi hL hR m 0 (m + 1) gS gE (by omega) (by omega) (fun q h => absurd h (by omega))
  refine ⟨b, gS', gE', hA, hI, fun post hp => ?_⟩
  unfold wpX_fits
  exact xi_c hn (by omega) (fun h => absurd h (by omega)) (fun _ => ⟨m + 1, hP post hp⟩)
theorem fl_y {n m i : Nat} (hn : n ≤ 31) (hm : m ≤ 6) (hi : i < n) (hL : ∀ j, sy_ok (L j)) (hR : ∀ r, r < m → ∃ l, l ≤ 7 ∧ LS r = nI l) : ∀ (c k f : Nat) (bd : Nat → Int32), k + c = m → c < f → (∀ q, q < k → ¬ mt_ sub n L LS q i) →
    ∃ (b : Int32) (bd' : Nat → Int32), fa_ sub n L LS m i b ∧ (∀ r, r < m → b = nI r → iv_ sub n (lr_ L r) i bd' nI (ll_ LS r)) ∧
      ∀ post : Int32 → SY → Prop, post b (yd, nI m, nI n, stk, bg, L, LS, R, RS, sub, nx, bd') →
        wY_fits_17 post (nI i) f (nI k) yd (nI m) (nI n) stk bg L LS R RS sub nx bd := by
  intro c
  induction c with
  | zero =>
    intro k f bd hk hf hq
    obtain ⟨f, rfl⟩ : ∃ g, f = g + 1 := ⟨f - 1, by omega⟩
    obtain rfl : k = m := by omega
    refine ⟨-4, bd, Or.inl ⟨rfl, hq⟩, fun r hr e => absurd e.symm (ar_n10 (by omega)), fun post hp => br_t (nI_le (by omega) (by omega)) hp⟩
  | succ c ih =>
    intro k f bd hk hf hq
    obtain ⟨f, rfl⟩ : ∃ g, f = g + 1 := ⟨f - 1, by omega⟩
    obtain ⟨l, hl7, hl⟩ := hR k (by omega)
    obtain ⟨b, g1, hb, hP⟩ := mr_y (yd := yd) (yr := nI m) (stk := stk) (bg := bg) (R := R) (RS := RS) (nx := nx) (sub := sub) bd hn (show k < 6 by omega) hl hl7 hL hi
    rcases hb with ⟨rfl, hM⟩ | ⟨rfl, hM, h1⟩
    · obtain ⟨b', bd', hA, hI, hP'⟩ := ih (k + 1) f g1 (by omega) (by omega) (fun q hq' => by
        by_cases e : q = k
        · subst e; exact hM
        · exact hq q (by omega))
      exact ⟨b', bd', hA, hI, fun post hp => br_f (nI_ge (by omega) (by omega)) (hP _ (br_t rfl (nm_r (nI_1 _) (hP' post hp))))⟩
    · refine ⟨nI k, g1, Or.inr ⟨k, by omega, rfl, hM, hq⟩, fun r hr e => ?_, fun post hp => br_f (nI_ge (by omega) (by omega)) (hP _ (br_f (by decide) hp))⟩
      rw [nI_eq (by omega) (by omega)] at e
      subst e; exact h1
theorem fi_y {n m i : Nat} (bd : Nat → Int32) (hn : n ≤ 31) (hm : m ≤ 6) (hi : i < n) (hL : ∀ j, sy_ok (L j)) (hR : ∀ r, r < m → ∃ l, l ≤ 7 ∧ LS r = nI l) :
    ∃ (b : Int32) (bd' : Nat → Int32), fa_ sub n L LS m i b ∧ (∀ r, r < m → b = nI r → iv_ sub n (lr_ L r) i bd' nI (ll_ LS r)) ∧
      ∀ post : Int32 → SY → Prop, post b (yd, nI m, nI n, stk, bg, L, LS, R, RS, sub, nx, bd') →
        wpY_fits post (yd, nI m, nI n, stk, bg, L, LS, R, RS, sub, nx, bd) (nI i) := by
  obtain ⟨b, bd', hA, hI, hP⟩ := fl_y (yd := yd) (stk := stk) (bg := bg) (R := R) (RS := RS) (nx := nx) (sub := sub) hn hm hi hL hR m 0 (m + 1) bd (by omega) (by omega) (fun q h => absurd h (by omega))
  exact ⟨b, bd', hA, hI, fun post hp => br_f (nI_pos (by omega)) (br_t (nI_lt hi (by omega)) ⟨m + 1, hP post hp⟩)⟩
theorem fo_x {post : Int32 → SX → Prop} {n : Nat} {x : Int32} (h : x < 0 ∨ ¬ x < 0 ∧ nI n ≤ x) (hp : post (-4) (fp, ft, fr, nI n, fn, stk, st, L, LS, R, RS, sub, gS, gE, nx)) :
    wpX_fits post (fp, ft, fr, nI n, fn, stk, st, L, LS, R, RS, sub, gS, gE, nx) x := by
  unfold wpX_fits
  rcases h with h | ⟨h0, h⟩
  · exact br_t h (br_t rfl hp)
  · exact br_f h0 (br_t h (br_t rfl hp))
theorem fo_y {post : Int32 → SY → Prop} {n : Nat} {x : Int32} (h : x < 0 ∨ ¬ x < 0 ∧ nI n ≤ x) (hp : post (-4) (yd, yr, nI n, stk, bg, L, LS, R, RS, sub, nx, bd)) :
    wpY_fits post (yd, yr, nI n, stk, bg, L, LS, R, RS, sub, nx, bd) x := by
  rcases h with h | ⟨h0, h⟩
  · exact br_t h hp
  · exact br_f h0 (br_f (Int32.not_lt.mpr h) hp)
end
end
section
/-- one symbol more: behind the 31st only the count grows -/
def ap_ (s : (Nat → Int32) × Nat) (x : Int32) : (Nat → Int32) × Nat := (if s.2 < 31 then upd s.1 s.2 x else s.1, s.2 + 1)
/-- c symbols of a from f on -/
def tk_ (a : Nat → Int32) : Nat → Nat → (Nat → Int32) × Nat → (Nat → Int32) × Nat
  | 0, _, s => s
  | c + 1, f, s => tk_ a c (f + 1) (ap_ s (a f))
/-- c symbols of the right row g from k on, the variables by their parts -/
def rP_ (a : Nat → Int32) (n : Nat) (g : Nat → Int32) (q : Nat → Nat) : Nat → Nat → (Nat → Int32) × Nat → (Nat → Int32) × Nat
  | 0, _, s => s
  | c + 1, k, s => rP_ a n g q c (k + 1) (if g k < 7 then ap_ s (g k) else tk_ a (en_ a n (q (ix_ (g k))) - q (ix_ (g k))) (q (ix_ (g k))) s)
/-- a copy of c cells, from i on to j on -/
def cp_ (a : Nat → Int32) : Nat → Nat → Nat → (Nat → Int32) → Nat → Int32
  | 0, _, _, t => t
  | c + 1, i, j, t => cp_ a c (i + 1) (j + 1) (upd t j (a i))
theorem tk_2 (a : Nat → Int32) : ∀ c f s, (tk_ a c f s).2 = s.2 + c := by
  intro c
  induction c with
  | zero => intro f s; rfl
  | succ c ih =>
    intro f s
    unfold tk_
    rw [ih]
    show s.2 + 1 + c = _
    omega
theorem rP_2 (a : Nat → Int32) (n : Nat) (g : Nat → Int32) (q : Nat → Nat) (hn : n ≤ 31) : ∀ c k s, (∀ j, k ≤ j → j < k + c → ¬ g j < 7 → q (ix_ (g j)) < n) → (rP_ a n g q c k s).2 ≤ s.2 + 31 * c := by
  intro c
  induction c with
  | zero => intro k s _; exact Nat.le_refl _
  | succ c ih =>
    intro k s h
    unfold rP_
    have h1 := ih (k + 1) (if g k < 7 then ap_ s (g k) else tk_ a (en_ a n (q (ix_ (g k))) - q (ix_ (g k))) (q (ix_ (g k))) s) (fun j h2 h3 h4 => h j (by omega) (by omega) h4)
    by_cases h7 : g k < 7
    · rw [if_pos h7] at h1 ⊢
      have : (ap_ s (g k)).2 = s.2 + 1 := rfl
      omega
    · rw [if_neg h7] at h1 ⊢
      rw [tk_2] at h1
      have h5 := h k (by omega) (by omega) h7
      have h6 := en_le (a := a) (n := n) (i := q (ix_ (g k))) (by omega)
      omega
/-- the rewritten term -/
def nw_ (a : Nat → Int32) (n i : Nat) (g : Nat → Int32) (q : Nat → Nat) (c : Nat) (nx : Nat → Int32) : (Nat → Int32) × Nat :=
  tk_ a (n - en_ a n i) (en_ a n i) (rP_ a n g q c 0 (tk_ a i 0 (nx, 0)))
theorem nw_2 {a : Nat → Int32} {n i : Nat} {g : Nat → Int32} {q : Nat → Nat} {c : Nat} {nx : Nat → Int32} (hn : n ≤ 31) (hc : c ≤ 31) (hi : i < n) (h : ∀ j, j < c → ¬ g j < 7 → q (ix_ (g j)) < n) : (nw_ a n i g q c nx).2 ≤ 2000 := by
  unfold nw_
  rw [tk_2]
  have h1 := rP_2 a n g q hn c 0 (tk_ a i 0 (nx, 0)) (fun j _ h2 h3 => h j (by omega) h3)
  rw [tk_2] at h1
  have h2 : (nx, 0).2 = 0 := rfl
  omega
section
variable {fp ft fr fs fn yd yr ys : Int32} {stk st L LS R RS sub gS gE nx bg bd : Nat → Int32}
theorem xa_ap {post : SX → Prop} {s : (Nat → Int32) × Nat} {x : Int32} (hs : s.2 < 100000) (h : post (fp, ft, fr, fs, nI (ap_ s x).2, stk, st, L, LS, R, RS, sub, gS, gE, (ap_ s x).1)) :
    wpX_append post (fp, ft, fr, fs, nI s.2, stk, st, L, LS, R, RS, sub, gS, gE, s.1) x := by
  have e2 : (ap_ s x).2 = s.2 + 1 := rfl
  have e1 : (ap_ s x).1 = if s.2 < 31 then upd s.1 s.2 x else s.1 := rfl
  rw [e1, e2] at h
  refine pk_le 31 s.2 (fun h1 => nm_r (nI_1 _) ?_) (fun h1 => ⟨vp_in_nI h1 (by omega), ?_⟩)
  · rw [if_neg (by omega)] at h; exact h
  · rw [if_pos h1] at h
    rw [nI_clamp (n := s.2) (by omega)]
    exact nm_e (nm_r (nI_1 _) h)
theorem xa_lp {post : SX → Prop} {e : Nat} (he : e ≤ 31) : ∀ (c i f : Nat) (s : (Nat → Int32) × Nat), i + c = e → c < f → s.2 + c < 100000 →
    post (fp, ft, fr, fs, nI (tk_ sub c i s).2, stk, st, L, LS, R, RS, sub, gS, gE, (tk_ sub c i s).1) →
    wX_appendFromSubject_2 post (nI e) f (nI i) fp ft fr fs (nI s.2) stk st L LS R RS sub gS gE s.1 := by
  intro c
  induction c with
  | zero =>
    intro i f s hi hf hs h
    obtain ⟨f, rfl⟩ : ∃ g, f = g + 1 := ⟨f - 1, by omega⟩
    exact br_t (nI_le (by omega) (by omega)) h
  | succ c ih =>
    intro i f s hi hf hs h
    obtain ⟨f, rfl⟩ : ∃ g, f = g + 1 := ⟨f - 1, by omega⟩
    refine br_f (nI_ge (by omega) (by omega)) ⟨vp_in_nI (by omega) (by omega), ?_⟩
    rw [nI_clamp (n := i) (by omega)]
    refine xa_ap (by omega) (nm_r (nI_1 _) ?_)
    have e2 : (ap_ s (sub i)).2 = s.2 + 1 := rfl
    exact ih (i + 1) f (ap_ s (sub i)) (by omega) (by omega) (by omega) h
theorem xa_tk {post : SX → Prop} {e i : Nat} {s : (Nat → Int32) × Nat} (he : e ≤ 31) (hi : i ≤ e) (hs : s.2 < 10000)
    (h : post (fp, ft, fr, fs, nI (tk_ sub (e - i) i s).2, stk, st, L, LS, R, RS, sub, gS, gE, (tk_ sub (e - i) i s).1)) :
    wpX_appendFromSubject post (fp, ft, fr, fs, nI s.2, stk, st, L, LS, R, RS, sub, gS, gE, s.1) (nI i) (nI e) :=
  ⟨e - i + 1, xa_lp he (e - i) i (e - i + 1) s (by omega) (by omega) (by omega) h⟩
theorem ya_lp {post : Int32 → SY → Prop} {e : Nat} (he : e ≤ 31) : ∀ (c i f : Nat) (s : (Nat → Int32) × Nat), i + c = e → c < f → s.2 + c < 100000 →
    post (nI (tk_ sub c i s).2) (yd, yr, ys, stk, bg, L, LS, R, RS, sub, (tk_ sub c i s).1, bd) →
    wY_take_6 post (nI e) yd yr ys f (nI s.2) (nI i) stk bg L LS R RS sub s.1 bd := by
  intro c
  induction c with
  | zero =>
    intro i f s hi hf hs h
    obtain ⟨f, rfl⟩ : ∃ g, f = g + 1 := ⟨f - 1, by omega⟩
    exact br_t (nI_le (by omega) (by omega)) h
  | succ c ih =>
    intro i f s hi hf hs h
    obtain ⟨f, rfl⟩ : ∃ g, f = g + 1 := ⟨f - 1, by omega⟩
    have e2 : (ap_ s (sub i)).2 = s.2 + 1 := rfl
    have e1 : (ap_ s (sub i)).1 = if s.2 < 31 then upd s.1 s.2 (sub i) else s.1 := rfl
    have H := ih (i + 1) f (ap_ s (sub i)) (by omega) (by omega) (by omega) h
    rw [e1, e2] at H
    refine br_f (nI_ge (by omega) (by omega)) (pk_le 31 s.2 (fun h1 => nm_r (nI_1 _) (nm_r (nI_1 _) ?_)) (fun h1 => ⟨vp_in_nI (by omega) (by omega), vp_in_nI h1 (by omega), ?_⟩))
    · rw [if_neg (by omega)] at H; exact H
    · rw [if_pos h1] at H
      rw [nI_clamp (n := s.2) (by omega), nI_clamp (n := i) (by omega)]
      exact nm_e (nm_r (nI_1 _) (nm_r (nI_1 _) H))
theorem ya_tk {post : Int32 → SY → Prop} {e i : Nat} {s : (Nat → Int32) × Nat} (he : e ≤ 31) (hi : i ≤ e) (hs : s.2 < 10000)
    (h : post (nI (tk_ sub (e - i) i s).2) (yd, yr, ys, stk, bg, L, LS, R, RS, sub, (tk_ sub (e - i) i s).1, bd)) :
    wpY_take post (yd, yr, ys, stk, bg, L, LS, R, RS, sub, s.1, bd) (nI i) (nI e) (nI s.2) :=
  ⟨e - i + 1, ya_lp he (e - i) i (e - i + 1) s (by omega) (by omega) (by omega) h⟩
/-- the row of a rule's right side -/
def rr_ (R : Nat → Int32) (r : Nat) : Nat → Int32 := fun k => R (r * 31 + k)
theorem xr_lp {post : SX → Prop} {n r l : Nat} {q : Nat → Nat} (hn : n ≤ 31) (hr : r < 6) (hl : RS r = nI l) (hl31 : l ≤ 31) (hR : ∀ j, sy_ok (R j))
    (hq : ∀ k, k < l → ¬ rr_ R r k < 7 → q (ix_ (rr_ R r k)) < n ∧ gS (ix_ (rr_ R r k)) = nI (q (ix_ (rr_ R r k))) ∧ gE (ix_ (rr_ R r k)) = nI (en_ sub n (q (ix_ (rr_ R r k))))) :
    ∀ (c k f : Nat) (s : (Nat → Int32) × Nat), k + c = l → c < f → s.2 + 31 * c < 9000 →
    post (fp, ft, fr, fs, nI (rP_ sub n (rr_ R r) q c k s).2, stk, st, L, LS, R, RS, sub, gS, gE, (rP_ sub n (rr_ R r) q c k s).1) →
    wX_appendRight_2 post (nI r) f (nI k) fp ft fr fs (nI s.2) stk st L LS R RS sub gS gE s.1 := by
  have hcr : (nI r).toNatClampNeg = r := nI_clamp (by omega)
  intro c
  induction c with
  | zero =>
    intro k f s hk hf hs h
    obtain ⟨f, rfl⟩ : ∃ g, f = g + 1 := ⟨f - 1, by omega⟩
    refine ⟨vp_in_nI hr (by omega), br_t ?_ h⟩
    rw [hcr, hl]; exact nI_le (by omega) (by omega)
  | succ c ih =>
    intro k f s hk hf hs h
    obtain ⟨f, rfl⟩ : ∃ g, f = g + 1 := ⟨f - 1, by omega⟩
    have hix : nI r * 31 + nI k = nI (r * 31 + k) := by
      rw [show (31 : Int32) = nI 31 from rfl, pk_mul, nI_add]
    have hci : (nI r * 31 + nI k).toNatClampNeg = r * 31 + k := by rw [hix, nI_clamp (by omega)]
    have hvi : vp_in (nI r * 31 + nI k) 186 := by rw [hix]; exact vp_in_nI (by omega) (by omega)
    have hlt : ¬ RS (nI r).toNatClampNeg ≤ nI k := by rw [hcr, hl]; exact nI_ge (by omega) (by omega)
    unfold rP_ at h
    refine ⟨vp_in_nI hr (by omega), br_f hlt ⟨hvi, nm_r (congrArg R hci) ?_⟩⟩
    refine xv_c (fun h7 => ?_) (fun h7 => ?_)
    · rw [if_pos (show rr_ R r k < 7 from h7)] at h
      refine xa_ap (by omega) (nm_r (nI_1 _) ?_)
      have e2 : (ap_ s (R (r * 31 + k))).2 = s.2 + 1 := rfl
      exact ih (k + 1) f (ap_ s (R (r * 31 + k))) (by omega) (by omega) (by omega) h
    · rw [if_neg (show ¬ rr_ R r k < 7 from h7)] at h
      obtain ⟨j, hj, ej, _⟩ := sy_v (hR (r * 31 + k)) h7
      have hv3 : vp_in (R (r * 31 + k) - 7) 3 := by rw [ej]; exact vp_in_nI hj (by omega)
      obtain ⟨q1, q2, q3⟩ := hq k (by omega) h7
      have q4 := en_le (a := sub) (n := n) (i := q (ix_ (rr_ R r k))) (by omega)
      have q5 := en_ge (a := sub) (n := n) (i := q (ix_ (rr_ R r k)))
      refine nm_e ⟨hv3, hv3, ?_⟩
      have g2 : gS (R (r * 31 + k) - 7).toNatClampNeg = nI (q (ix_ (rr_ R r k))) := q2
      have g3 : gE (R (r * 31 + k) - 7).toNatClampNeg = nI (en_ sub n (q (ix_ (rr_ R r k)))) := q3
      rw [g2, g3]
      refine xa_tk (by omega) (by omega) (by omega) (nm_r (nI_1 _) ?_)
      have e2 := tk_2 sub (en_ sub n (q (ix_ (rr_ R r k))) - q (ix_ (rr_ R r k))) (q (ix_ (rr_ R r k))) s
      exact ih (k + 1) f _ (by omega) (by omega) (by omega) h
theorem yr_lp {post : Int32 → SY → Prop} {n r l i : Nat} {q : Nat → Nat} (hn : n ≤ 31) (hi : i < n) (hr : r < 6) (hl : RS r = nI l) (hl31 : l ≤ 31) (hR : ∀ j, sy_ok (R j))
    (hq : ∀ k, k < l → ¬ rr_ R r k < 7 → q (ix_ (rr_ R r k)) < n ∧ bd (ix_ (rr_ R r k)) = nI (q (ix_ (rr_ R r k)))) :
    ∀ (c k f : Nat) (s : (Nat → Int32) × Nat), k + c = l → c < f → s.2 + 31 * c < 9000 →
    (∀ s', s' = tk_ sub (n - en_ sub n i) (en_ sub n i) (rP_ sub n (rr_ R r) q c k s) → post (nI s'.2) (yd, yr, nI n, stk, bg, L, LS, R, RS, sub, s'.1, bd)) →
    wY_makeFresh_11 post (nI r) (nI i) f (nI s.2) (nI k) yd yr (nI n) stk bg L LS R RS sub s.1 bd := by
  have hcr : (nI r).toNatClampNeg = r := nI_clamp (by omega)
  intro c
  induction c with
  | zero =>
    intro k f s hk hf hs h
    obtain ⟨f, rfl⟩ : ∃ g, f = g + 1 := ⟨f - 1, by omega⟩
    refine ⟨vp_in_nI hr (by omega), br_t ?_ ?_⟩
    · rw [hcr, hl]; exact nI_le (by omega) (by omega)
    · refine ye_end hn (by omega) ?_
      exact ya_tk hn (en_le (by omega)) (by omega) (h _ rfl)
  | succ c ih =>
    intro k f s hk hf hs h
    obtain ⟨f, rfl⟩ : ∃ g, f = g + 1 := ⟨f - 1, by omega⟩
    have hix : 31 * nI r + nI k = nI (r * 31 + k) := by
      rw [show (31 : Int32) = nI 31 from rfl, pk_mul, nI_add, Nat.mul_comm]
    have hci : (31 * nI r + nI k).toNatClampNeg = r * 31 + k := by rw [hix, nI_clamp (by omega)]
    have hvi : vp_in (31 * nI r + nI k) 186 := by rw [hix]; exact vp_in_nI (by omega) (by omega)
    have hlt : ¬ RS (nI r).toNatClampNeg ≤ nI k := by rw [hcr, hl]; exact nI_ge (by omega) (by omega)
    unfold rP_ at h
    refine ⟨vp_in_nI hr (by omega), br_f hlt ⟨hvi, nm_r (congrArg R hci) ?_⟩⟩
    refine yv_c (fun h7 => ?_) (fun h7 => ?_)
    · rw [if_pos (show rr_ R r k < 7 from h7)] at h
      have e2 : (ap_ s (R (r * 31 + k))).2 = s.2 + 1 := rfl
      have e1 : (ap_ s (R (r * 31 + k))).1 = if s.2 < 31 then upd s.1 s.2 (R (r * 31 + k)) else s.1 := rfl
      have H := ih (k + 1) f (ap_ s (R (r * 31 + k))) (by omega) (by omega) (by omega) h
      rw [e1, e2] at H
      refine pk_le 31 s.2 (fun h1 => nm_r (nI_1 _) (nm_r (nI_1 _) ?_)) (fun h1 => ⟨vp_in_nI h1 (by omega), ?_⟩)
      · rw [if_neg (by omega)] at H; exact H
      · rw [if_pos h1] at H
        rw [nI_clamp (n := s.2) (by omega)]
        exact nm_e (nm_r (nI_1 _) (nm_r (nI_1 _) H))
    · rw [if_neg (show ¬ rr_ R r k < 7 from h7)] at h
      obtain ⟨j, hj, ej, _⟩ := sy_v (hR (r * 31 + k)) h7
      have hv3 : vp_in (R (r * 31 + k) - 7) 3 := by rw [ej]; exact vp_in_nI hj (by omega)
      obtain ⟨q1, q2⟩ := hq k (by omega) h7
      have q4 := en_le (a := sub) (n := n) (i := q (ix_ (rr_ R r k))) (by omega)
      have q5 := en_ge (a := sub) (n := n) (i := q (ix_ (rr_ R r k)))
      have g2 : bd (R (r * 31 + k) - 7).toNatClampNeg = nI (q (ix_ (rr_ R r k))) := q2
      refine ⟨hv3, nm_r g2 ?_⟩
      refine ye_end hn (by omega) ?_
      refine ya_tk (by omega) (by omega) (by omega) (nm_r (nI_1 _) ?_)
      have e2 := tk_2 sub (en_ sub n (q (ix_ (rr_ R r k))) - q (ix_ (rr_ R r k))) (q (ix_ (rr_ R r k))) s
      exact ih (k + 1) f _ (by omega) (by omega) (by omega) h
theorem xc_sub {post : Int32 → SX → Prop} {e : Nat} (he : e ≤ 31) : ∀ (c i f : Nat) (sub : Nat → Int32), i + c = e → c < f →
    post 1 (fp, ft, fr, nI e, nI e, stk, st, L, LS, R, RS, cp_ nx c i i sub, gS, gE, nx) →
    wX_rewriteWithGiven_45 post fp ft fr fs (nI e) f (nI i) stk st L LS R RS sub gS gE nx := by
  intro c
  induction c with
  | zero =>
    intro i f sub hi hf h
    obtain ⟨f, rfl⟩ : ∃ g, f = g + 1 := ⟨f - 1, by omega⟩
    exact br_t (nI_le (by omega) (by omega)) h
  | succ c ih =>
    intro i f sub hi hf h
    obtain ⟨f, rfl⟩ : ∃ g, f = g + 1 := ⟨f - 1, by omega⟩
    have hv : vp_in (nI i) 31 := vp_in_nI (by omega) (by omega)
    refine br_f (nI_ge (by omega) (by omega)) ⟨hv, hv, ?_⟩
    rw [nI_clamp (n := i) (by omega)]
    exact nm_e (nm_r (nI_1 _) (ih (i + 1) f _ (by omega) (by omega) h))
theorem yc_sub {post : Int32 → SY → Prop} {x : Int32} {e : Nat} (he : e ≤ 31) : ∀ (c i f : Nat) (sub : Nat → Int32), i + c = e → c < f →
    post x (yd, yr, nI e, stk, bg, L, LS, R, RS, cp_ nx c i i sub, nx, bd) →
    wY_step_44 post x yd yr (nI e) f (nI i) stk bg L LS R RS sub nx bd := by
  intro c
  induction c with
  | zero =>
    intro i f sub hi hf h
    obtain ⟨f, rfl⟩ : ∃ g, f = g + 1 := ⟨f - 1, by omega⟩
    exact br_t (nI_le (by omega) (by omega)) h
  | succ c ih =>
    intro i f sub hi hf h
    obtain ⟨f, rfl⟩ : ∃ g, f = g + 1 := ⟨f - 1, by omega⟩
    have hv : vp_in (nI i) 31 := vp_in_nI (by omega) (by omega)
    refine br_f (nI_ge (by omega) (by omega)) ⟨hv, hv, ?_⟩
    rw [nI_clamp (n := i) (by omega)]
    exact nm_e (nm_r (nI_1 _) (ih (i + 1) f _ (by omega) (by omega) h))
end
end
section
/-- what is kept of a rule: its sizes, and that the variables of its right side stand in its left -/
def ri_ (L LS R RS : Nat → Int32) (r : Nat) : Prop :=
  ∃ l q, l ≤ 7 ∧ q ≤ 31 ∧ LS r = nI l ∧ RS r = nI q ∧ ∀ k, k < q → ¬ rr_ R r k < 7 → ∃ k', k' < l ∧ lr_ L r k' = rr_ R r k
def ht_ (a : Nat → Int32) (n : Nat) (L LS : Nat → Int32) (m j : Nat) : Prop := ∃ r, r < m ∧ mt_ a n L LS r j
theorem fa_no {a L LS : Nat → Int32} {n m j : Nat} {b : Int32} (h : fa_ a n L LS m j b) (hh : ¬ ht_ a n L LS m j) : b = -4 := by
  rcases h with ⟨e, _⟩ | ⟨r, hr, _, h, _⟩
  · exact e
  · exact absurd ⟨r, hr, h⟩ hh
section
variable {fp ft fr fs fn yd yr ys : Int32} {stk st L LS R RS sub gS gE nx bg bd : Nat → Int32}
theorem xw_rw {post : Int32 → SX → Prop} {n r l i : Nat} {q : Nat → Nat} (hn : n ≤ 31) (hi : i < n) (hr : r < 6) (hl : RS r = nI l) (hl31 : l ≤ 31) (hR : ∀ j, sy_ok (R j))
    (hq : ∀ k, k < l → ¬ rr_ R r k < 7 → q (ix_ (rr_ R r k)) < n ∧ gS (ix_ (rr_ R r k)) = nI (q (ix_ (rr_ R r k))) ∧ gE (ix_ (rr_ R r k)) = nI (en_ sub n (q (ix_ (rr_ R r k)))))
    (h1 : (nw_ sub n i (rr_ R r) q l nx).2 ≤ 31 → post 1 (fp, ft, fr, nI (nw_ sub n i (rr_ R r) q l nx).2, nI (nw_ sub n i (rr_ R r) q l nx).2, stk, st, L, LS, R, RS, cp_ (nw_ sub n i (rr_ R r) q l nx).1 (nw_ sub n i (rr_ R r) q l nx).2 0 0 sub, gS, gE, (nw_ sub n i (rr_ R r) q l nx).1))
    (h2 : 31 < (nw_ sub n i (rr_ R r) q l nx).2 → post 0 (fp, ft, fr, nI n, nI (nw_ sub n i (rr_ R r) q l nx).2, stk, st, L, LS, R, RS, sub, gS, gE, (nw_ sub n i (rr_ R r) q l nx).1)) :
    wpX_rewriteWithGiven post (fp, ft, fr, nI n, fn, stk, st, L, LS, R, RS, sub, gS, gE, nx) (nI r) (nI i) := by
  have hb := nw_2 (a := sub) (nx := nx) hn hl31 hi (fun j hj hv => (hq j hj hv).1)
  have t2 := tk_2 sub i 0 (nx, 0)
  have t3 : ((nx, 0) : (Nat → Int32) × Nat).2 = 0 := rfl
  have r2 := rP_2 sub n (rr_ R r) q hn l 0 (tk_ sub i 0 (nx, 0)) (fun j _ hj hv => (hq j (by omega) hv).1)
  unfold wpX_rewriteWithGiven
  refine xe_end hn (by omega) ?_
  refine xa_tk (s := (nx, 0)) (i := 0) (e := i) (by omega) (by omega) (by omega) ?_
  refine ⟨l + 1, xr_lp hn hr hl hl31 hR hq l 0 (l + 1) (tk_ sub i 0 (nx, 0)) (by omega) (by omega) (by omega) ?_⟩
  refine xa_tk (s := rP_ sub n (rr_ R r) q l 0 (tk_ sub i 0 (nx, 0))) hn (en_le (by omega)) (by omega) ?_
  exact pk_le (nw_ sub n i (rr_ R r) q l nx).2 31 (fun h => ⟨(nw_ sub n i (rr_ R r) q l nx).2 + 1, xc_sub h _ 0 _ sub (by omega) (by omega) (h1 h)⟩) (fun h => h2 h)
theorem yw_mf {post : Int32 → SY → Prop} {n r l i : Nat} {q : Nat → Nat} (hn : n ≤ 31) (hi : i < n) (hr : r < 6) (hl : RS r = nI l) (hl31 : l ≤ 31) (hR : ∀ j, sy_ok (R j))
    (hq : ∀ k, k < l → ¬ rr_ R r k < 7 → q (ix_ (rr_ R r k)) < n ∧ bd (ix_ (rr_ R r k)) = nI (q (ix_ (rr_ R r k))))
    (h : post (nI (nw_ sub n i (rr_ R r) q l nx).2) (yd, yr, nI n, stk, bg, L, LS, R, RS, sub, (nw_ sub n i (rr_ R r) q l nx).1, bd)) :
    wpY_makeFresh post (yd, yr, nI n, stk, bg, L, LS, R, RS, sub, nx, bd) (nI r) (nI i) := by
  have t2 := tk_2 sub i 0 (nx, 0)
  have t3 : ((nx, 0) : (Nat → Int32) × Nat).2 = 0 := rfl
  unfold wpY_makeFresh
  refine ya_tk (s := (nx, 0)) (i := 0) (e := i) (by omega) (by omega) (by omega) ?_
  exact ⟨l + 1, yr_lp hn hi hr hl hl31 hR hq l 0 (l + 1) (tk_ sub i 0 (nx, 0)) (by omega) (by omega) (by omega) (fun s' e => by rw [e]; exact h)⟩
theorem xs_sk {n m e : Nat} (hn : n ≤ 31) (hm : m ≤ 6) (he : e ≤ n) (hL : ∀ j, sy_ok (L j)) (hR : ∀ r, r < m → ∃ l, l ≤ 7 ∧ LS r = nI l) (hh : ∀ j, j < e → ¬ ht_ sub n L LS m j) :
    ∀ (c k f : Nat) (gS gE : Nat → Int32), k + c = e → ∃ gS' gE' : Nat → Int32, ∀ post : Int32 → SX → Prop,
      wX_step_2 post f (nI e) fp ft (nI m) (nI n) fn stk st L LS R RS sub gS' gE' nx → wX_step_2 post (f + c) (nI k) fp ft (nI m) (nI n) fn stk st L LS R RS sub gS gE nx := by
  intro c
  induction c with
  | zero =>
    intro k f gS gE hk
    obtain rfl : k = e := by omega
    exact ⟨gS, gE, fun post h => h⟩
  | succ c ih =>
    intro k f gS gE hk
    obtain ⟨b, g1, g2, hA, _, hP⟩ := fi_x (fp := fp) (ft := ft) (fn := fn) (stk := stk) (st := st) (R := R) (RS := RS) (nx := nx) (sub := sub) gS gE hn hm (show k < n by omega) hL hR
    obtain ⟨g1', g2', hP'⟩ := ih (k + 1) f g1 g2 (by omega)
    exact ⟨g1', g2', fun post h => br_f (nI_ge (by omega) (by omega)) (hP _ (br_t (fa_no hA (hh k (by omega))) (nm_r (nI_1 _) (hP' post h))))⟩
theorem ys_sk {n m e : Nat} (hn : n ≤ 31) (hm : m ≤ 6) (he : e ≤ n) (hL : ∀ j, sy_ok (L j)) (hR : ∀ r, r < m → ∃ l, l ≤ 7 ∧ LS r = nI l) (hh : ∀ j, j < e → ¬ ht_ sub n L LS m j) :
    ∀ (c k f : Nat) (bd : Nat → Int32), k + c = e → ∃ bd' : Nat → Int32, ∀ post : Int32 → SY → Prop,
      wY_nextPlace_2 post f (nI e) yd (nI m) (nI n) stk bg L LS R RS sub nx bd' → wY_nextPlace_2 post (f + c) (nI k) yd (nI m) (nI n) stk bg L LS R RS sub nx bd := by
  intro c
  induction c with
  | zero =>
    intro k f bd hk
    obtain rfl : k = e := by omega
    exact ⟨bd, fun post h => h⟩
  | succ c ih =>
    intro k f bd hk
    obtain ⟨b, g1, hA, _, hP⟩ := fi_y (yd := yd) (stk := stk) (bg := bg) (R := R) (RS := RS) (nx := nx) (sub := sub) bd hn hm (show k < n by omega) hL hR
    obtain ⟨g1', hP'⟩ := ih (k + 1) f g1 (by omega)
    exact ⟨g1', fun post h => br_f (nI_ge (by omega) (by omega)) (hP _ (br_t (fa_no hA (hh k (by omega))) (nm_r (nI_1 _) (hP' post h))))⟩
theorem sp_no {n m : Nat} (gS gE bd : Nat → Int32) (hn : n ≤ 31) (hm : m ≤ 6) (hL : ∀ j, sy_ok (L j)) (hR : ∀ r, r < m → ∃ l, l ≤ 7 ∧ LS r = nI l) (hh : ∀ j, j < n → ¬ ht_ sub n L LS m j) :
    ∃ gS' gE' bd' : Nat → Int32,
      (∀ post : Int32 → SX → Prop, post (-4) (fp, ft, nI m, nI n, fn, stk, st, L, LS, R, RS, sub, gS', gE', nx) → wpX_step post (fp, ft, nI m, nI n, fn, stk, st, L, LS, R, RS, sub, gS, gE, nx)) ∧
      (∀ post : Int32 → SY → Prop, post (-4) (yd, nI m, nI n, stk, bg, L, LS, R, RS, sub, nx, bd') → wpY_step post (yd, nI m, nI n, stk, bg, L, LS, R, RS, sub, nx, bd)) := by
  obtain ⟨gS', gE', hX⟩ := xs_sk (fp := fp) (ft := ft) (fn := fn) (stk := stk) (st := st) (R := R) (RS := RS) (nx := nx) hn hm (Nat.le_refl n) hL hR hh n 0 1 gS gE (by omega)
  obtain ⟨bd', hY⟩ := ys_sk (yd := yd) (stk := stk) (bg := bg) (R := R) (RS := RS) (nx := nx) hn hm (Nat.le_refl n) hL hR hh n 0 1 bd (by omega)
  refine ⟨gS', gE', bd', fun post h => ⟨1 + n, hX post (br_t (nI_le (by omega) (by omega)) h)⟩, fun post h => ?_⟩
  unfold wpY_step
  exact ⟨1 + n, hY _ (br_t (nI_le (by omega) (by omega)) (br_t rfl h))⟩
theorem sp_hit {n m i : Nat} (gS gE bd : Nat → Int32) (hn : n ≤ 31) (hm : m ≤ 6) (hi : i < n) (hL : ∀ j, sy_ok (L j)) (hRs : ∀ j, sy_ok (R j)) (hRI : ∀ r, r < m → ri_ L LS R RS r) (hit : ht_ sub n L LS m i) (hh : ∀ j, j < i → ¬ ht_ sub n L LS m j) :
    ∃ (b : Int32) (n' : Nat) (c' : Int32) (sub' nx' gS' gE' bd' : Nat → Int32), n' ≤ 31 ∧
      (∀ post : Int32 → SX → Prop, post b (fp, ft, nI m, nI n', c', stk, st, L, LS, R, RS, sub', gS', gE', nx') → wpX_step post (fp, ft, nI m, nI n, fn, stk, st, L, LS, R, RS, sub, gS, gE, nx)) ∧
      (∀ post : Int32 → SY → Prop, post b (yd, nI m, nI n', stk, bg, L, LS, R, RS, sub', nx', bd') → wpY_step post (yd, nI m, nI n, stk, bg, L, LS, R, RS, sub, nx, bd)) := by
  have hR : ∀ r, r < m → ∃ l, l ≤ 7 ∧ LS r = nI l := fun r hr => by
    obtain ⟨l, q, h1, _, h2, _⟩ := hRI r hr
    exact ⟨l, h1, h2⟩
  obtain ⟨g1, g2, hX⟩ := xs_sk (fp := fp) (ft := ft) (fn := fn) (stk := stk) (st := st) (R := R) (RS := RS) (nx := nx) hn hm (Nat.le_of_lt hi) hL hR hh i 0 1 gS gE (by omega)
  obtain ⟨d1, hY⟩ := ys_sk (yd := yd) (stk := stk) (bg := bg) (R := R) (RS := RS) (nx := nx) hn hm (Nat.le_of_lt hi) hL hR hh i 0 1 bd (by omega)
  obtain ⟨b, gS', gE', hA, hI, hP⟩ := fi_x (fp := fp) (ft := ft) (fn := fn) (stk := stk) (st := st) (R := R) (RS := RS) (nx := nx) (sub := sub) g1 g2 hn hm hi hL hR
  obtain ⟨b1, d2, hA1, _, hP1⟩ := fi_y (yd := yd) (stk := stk) (bg := bg) (R := R) (RS := RS) (nx := nx) (sub := sub) d1 hn hm hi hL hR
  obtain ⟨b2, d3, hA2, hI2, hP2⟩ := fi_y (yd := yd) (stk := stk) (bg := bg) (R := R) (RS := RS) (nx := nx) (sub := sub) d2 hn hm hi hL hR
  obtain rfl := fa_u hA hA1
  obtain rfl := fa_u hA1 hA2
  rcases hA with ⟨_, hno⟩ | ⟨r, hr, rfl, hM, _⟩
  · obtain ⟨r, hr, hM⟩ := hit
    exact absurd hM (hno r hr)
  obtain ⟨l, q, hl7, hq31, hl, hq, hV⟩ := hRI r hr
  have hll : ll_ LS r = l := by unfold ll_; rw [hl, nI_clamp (by omega)]
  obtain ⟨i1, i2⟩ := hI r hr rfl
  have i3 := hI2 r hr rfl
  have hlt := bp_lt (a := sub) (n := n) (f := lr_ L r) (i := i) (ll_ LS r) (fun k' hk' => (hM k' hk').1)
  have hne : ¬ nI r = -4 := ar_n10 (by omega)
  have hnei : ¬ nI i = -4 := ar_n10 (by omega)
  have hqX : ∀ k, k < q → ¬ rr_ R r k < 7 → bp_ sub n (lr_ L r) i (ll_ LS r) (ix_ (rr_ R r k)) < n ∧ gS' (ix_ (rr_ R r k)) = nI (bp_ sub n (lr_ L r) i (ll_ LS r) (ix_ (rr_ R r k))) ∧ gE' (ix_ (rr_ R r k)) = nI (en_ sub n (bp_ sub n (lr_ L r) i (ll_ LS r) (ix_ (rr_ R r k)))) := by
    intro k hk hv
    obtain ⟨k', hk', e⟩ := hV k hk hv
    rw [← e] at hv ⊢
    exact ⟨hlt k' (by omega) hv, i1 k' (by omega) hv, i2 k' (by omega) hv⟩
  have hqY : ∀ k, k < q → ¬ rr_ R r k < 7 → bp_ sub n (lr_ L r) i (ll_ LS r) (ix_ (rr_ R r k)) < n ∧ d3 (ix_ (rr_ R r k)) = nI (bp_ sub n (lr_ L r) i (ll_ LS r) (ix_ (rr_ R r k))) := by
    intro k hk hv
    obtain ⟨k', hk', e⟩ := hV k hk hv
    rw [← e] at hv ⊢
    exact ⟨hlt k' (by omega) hv, i3 k' (by omega) hv⟩
  have hb := nw_2 (a := sub) (nx := nx) hn hq31 hi (fun j hj hv => (hqX j hj hv).1)
  by_cases hs : (nw_ sub n i (rr_ R r) (bp_ sub n (lr_ L r) i (ll_ LS r)) q nx).2 ≤ 31
  · refine ⟨nI i, (nw_ sub n i (rr_ R r) (bp_ sub n (lr_ L r) i (ll_ LS r)) q nx).2, nI (nw_ sub n i (rr_ R r) (bp_ sub n (lr_ L r) i (ll_ LS r)) q nx).2, cp_ (nw_ sub n i (rr_ R r) (bp_ sub n (lr_ L r) i (ll_ LS r)) q nx).1 (nw_ sub n i (rr_ R r) (bp_ sub n (lr_ L r) i (ll_ LS r)) q nx).2 0 0 sub, (nw_ sub n i (rr_ R r) (bp_ sub n (lr_ L r) i (ll_ LS r)) q nx).1, gS', gE', d3, hs, fun post h => ⟨1 + i, hX post (br_f (nI_ge (by omega) (by omega)) (hP _ (br_f hne ?_)))⟩, fun post h => ?_⟩
    · exact xw_rw hn hi (by omega) hq hq31 hRs hqX (fun _ => br_f (by decide) h) (fun h' => absurd h' (by omega))
    · unfold wpY_step
      refine ⟨1 + i, hY _ (br_f (nI_ge (by omega) (by omega)) (hP1 _ (br_f hne (br_f hnei (hP2 _ ?_)))))⟩
      refine yw_mf hn hi (by omega) hq hq31 hRs hqY ?_
      exact pk_le (nw_ sub n i (rr_ R r) (bp_ sub n (lr_ L r) i (ll_ LS r)) q nx).2 31 (fun _ => ⟨_, yc_sub hs _ 0 _ sub (by omega) (Nat.lt_succ_self _) h⟩) (fun h' => absurd h' (by omega))
  · refine ⟨-2, n, nI (nw_ sub n i (rr_ R r) (bp_ sub n (lr_ L r) i (ll_ LS r)) q nx).2, sub, (nw_ sub n i (rr_ R r) (bp_ sub n (lr_ L r) i (ll_ LS r)) q nx).1, gS', gE', d3, hn, fun post h => ⟨1 + i, hX post (br_f (nI_ge (by omega) (by omega)) (hP _ (br_f hne ?_)))⟩, fun post h => ?_⟩
    · exact xw_rw hn hi (by omega) hq hq31 hRs hqX (fun h' => absurd h' hs) (fun h' => br_t rfl h)
    · unfold wpY_step
      refine ⟨1 + i, hY _ (br_f (nI_ge (by omega) (by omega)) (hP1 _ (br_f hne (br_f hnei (hP2 _ ?_)))))⟩
      refine yw_mf hn hi (by omega) hq hq31 hRs hqY ?_
      exact pk_le (nw_ sub n i (rr_ R r) (bp_ sub n (lr_ L r) i (ll_ LS r)) q nx).2 31 (fun h' => absurd h' hs) (fun _ => h)
end
end
section
/-- c cells from s on, each shifted up by one -/
def sh_ (s : Nat) : Nat → (Nat → Int32) → Nat → Int32
  | 0, a => a
  | c + 1, a => sh_ s c (upd a (s + c + 1) (a (s + c)))
theorem sh_ok (s : Nat) : ∀ c a, (∀ i, sy_ok (a i)) → ∀ i, sy_ok (sh_ s c a i) := by
  intro c
  induction c with
  | zero => intro a h; exact h
  | succ c ih => intro a h; exact ih _ (sy_upd h _ (h _))
theorem cp_ok (a : Nat → Int32) (ha : ∀ i, sy_ok (a i)) : ∀ c i j t, (∀ i, sy_ok (t i)) → ∀ k, sy_ok (cp_ a c i j t k) := by
  intro c
  induction c with
  | zero => intro i j t h; exact h
  | succ c ih => intro i j t h; exact ih _ _ _ (sy_upd h _ (ha _))
theorem cp_out (a : Nat → Int32) : ∀ c i j t k, k < j ∨ j + c ≤ k → cp_ a c i j t k = t k := by
  intro c
  induction c with
  | zero => intro i j t k _; rfl
  | succ c ih =>
    intro i j t k h
    unfold cp_
    rw [ih _ _ _ _ (by omega), pk_un (by omega)]
theorem cp_in (a : Nat → Int32) : ∀ c i j t k, k < c → cp_ a c i j t (j + k) = a (i + k) := by
  intro c
  induction c with
  | zero => intro i j t k h; omega
  | succ c ih =>
    intro i j t k h
    unfold cp_
    by_cases e : k = 0
    · subst e
      rw [cp_out _ _ _ _ _ _ (by omega), Nat.add_zero, Nat.add_zero, pk_us]
    · have := ih (i + 1) (j + 1) (upd t j (a i)) (k - 1) (by omega)
      rw [show j + 1 + (k - 1) = j + k from by omega, show i + 1 + (k - 1) = i + k from by omega] at this
      exact this
/-- how often v stands in c cells from i on -/
def on_ (x v : Int32) : Nat := if x = v then 1 else 0
def cn_ (a : Nat → Int32) (v : Int32) : Nat → Nat → Nat
  | 0, _ => 0
  | c + 1, i => on_ (a i) v + cn_ a v c (i + 1)
theorem cn_le (a : Nat → Int32) (v : Int32) : ∀ c i, cn_ a v c i ≤ c := by
  intro c
  induction c with
  | zero => intro i; exact Nat.le_refl _
  | succ c ih =>
    intro i
    have h1 := ih (i + 1)
    have h2 : on_ (a i) v ≤ 1 := by unfold on_; split <;> omega
    show on_ (a i) v + cn_ a v c (i + 1) ≤ c + 1
    omega
theorem cn_pos (a : Nat → Int32) (v : Int32) : ∀ c i, 0 < cn_ a v c i ↔ ∃ k, k < c ∧ a (i + k) = v := by
  intro c
  induction c with
  | zero => intro i; exact ⟨fun h => absurd h (Nat.lt_irrefl 0), fun ⟨k, h, _⟩ => absurd h (by omega)⟩
  | succ c ih =>
    intro i
    show 0 < on_ (a i) v + cn_ a v c (i + 1) ↔ _
    by_cases e : a i = v
    · have h2 : on_ (a i) v = 1 := if_pos e
      exact ⟨fun _ => ⟨0, by omega, e⟩, fun _ => by omega⟩
    · have h2 : on_ (a i) v = 0 := if_neg e
      rw [h2, Nat.zero_add, ih]
      constructor
      · rintro ⟨k, hk, h⟩
        exact ⟨k + 1, by omega, by rw [← h, show i + (k + 1) = i + 1 + k from by omega]⟩
      · rintro ⟨k, hk, h⟩
        have hk0 : k ≠ 0 := fun z => e (by rw [z] at h; exact h)
        exact ⟨k - 1, by omega, by rw [← h, show i + 1 + (k - 1) = i + k from by omega]⟩
/-- a mask of variables -/
def mk_ (x y z : Bool) : Int32 := (cond x 1 0) ||| (cond y 2 0) ||| (cond z 4 0)
theorem mk_or : ∀ x y z a b c : Bool, mk_ x y z ||| mk_ a b c = mk_ (x || a) (y || b) (z || c) := by decide +kernel
theorem mk_and : ∀ x y z a b c : Bool, mk_ x y z &&& mk_ a b c = 0 ↔ ¬ (x = true ∧ a = true) ∧ ¬ (y = true ∧ b = true) ∧ ¬ (z = true ∧ c = true) := by decide +kernel
theorem mk_nt : ∀ x y z a b c : Bool, mk_ a b c &&& (mk_ x y z ^^^ (-1)) = 0 ↔ (a = true → x = true) ∧ (b = true → y = true) ∧ (c = true → z = true) := by decide +kernel
theorem mk_z : ∀ x y z : Bool, mk_ x y z = 0 ↔ ¬ x = true ∧ ¬ y = true ∧ ¬ z = true := by decide +kernel
def vb_ (x : Int32) : Int32 := mk_ (decide (x = nI 7)) (decide (x = nI 8)) (decide (x = nI 9))
theorem vb_d : ∀ j, j < 10 → (nI j < 7 → vb_ (nI j) = 0) ∧ (¬ nI j < 7 → (1 : Int32) <<< ((nI j - 7) &&& 31) = vb_ (nI j)) := by decide +kernel
theorem xb_vb {post : Int32 → Prop} {x : Int32} (hx : sy_ok x) (h : post (vb_ x)) : wpX_variableBit post x := by
  obtain ⟨j, hj, rfl⟩ := hx
  unfold wpX_variableBit
  refine xv_c (fun h7 => ?_) (fun h7 => ?_)
  · rw [(vb_d j (by omega)).1 h7] at h; exact h
  · rw [(vb_d j (by omega)).2 h7]; exact h
def mc_ (A B C : Nat) : Int32 := mk_ (decide (0 < A)) (decide (0 < B)) (decide (0 < C))
theorem on_d (A : Nat) (x v : Int32) : (decide (0 < A) || decide (x = v)) = decide (0 < A + on_ x v) := by
  unfold on_
  by_cases e : x = v
  · simp [e]
  · simp [e]
theorem mc_or (A B C : Nat) (x : Int32) : mc_ A B C ||| vb_ x = mc_ (A + on_ x (nI 7)) (B + on_ x (nI 8)) (C + on_ x (nI 9)) := by
  unfold mc_ vb_
  rw [mk_or, on_d, on_d, on_d]
theorem on_a {A : Nat} {x v : Int32} (hA : A ≤ 1) : ¬ (decide (0 < A) = true ∧ decide (x = v) = true) ↔ A + on_ x v ≤ 1 := by
  unfold on_
  rw [decide_eq_true_iff, decide_eq_true_iff]
  by_cases e : x = v
  · rw [if_pos e]; exact ⟨fun h => by have : ¬ 0 < A := fun z => h ⟨z, e⟩
                                      omega, fun h z => by omega⟩
  · rw [if_neg e]; exact ⟨fun _ => by omega, fun _ z => e z.2⟩
theorem mc_and {A B C : Nat} {x : Int32} (hA : A ≤ 1) (hB : B ≤ 1) (hC : C ≤ 1) : mc_ A B C &&& vb_ x = 0 ↔ A + on_ x (nI 7) ≤ 1 ∧ B + on_ x (nI 8) ≤ 1 ∧ C + on_ x (nI 9) ≤ 1 := by
  unfold mc_ vb_
  rw [mk_and, on_a hA, on_a hB, on_a hC]
theorem mc_nt {A B C A' B' C' : Nat} : mc_ A' B' C' &&& (mc_ A B C ^^^ (-1)) = 0 ↔ (0 < A' → 0 < A) ∧ (0 < B' → 0 < B) ∧ (0 < C' → 0 < C) := by
  unfold mc_
  rw [mk_nt]
  simp only [decide_eq_true_iff]
theorem mc_z {A B C : Nat} : mc_ A B C = 0 ↔ A + B + C ≤ 0 := by
  unfold mc_
  rw [mk_z]
  simp only [decide_eq_true_iff]
  omega
/-- a term can be a left side; the variables of a right side are known -/
def lk_ (a : Nat → Int32) (s e : Nat) : Prop := a s < 7 ∧ e - s ≤ 7 ∧ cn_ a (nI 7) (e - s) s ≤ 1 ∧ cn_ a (nI 8) (e - s) s ≤ 1 ∧ cn_ a (nI 9) (e - s) s ≤ 1
def rk_ (a : Nat → Int32) (s m e : Nat) : Prop := (0 < cn_ a (nI 7) (e - m) m → 0 < cn_ a (nI 7) (m - s) s) ∧ (0 < cn_ a (nI 8) (e - m) m → 0 < cn_ a (nI 8) (m - s) s) ∧ (0 < cn_ a (nI 9) (e - m) m → 0 < cn_ a (nI 9) (m - s) s)
section
variable {fp ft fr fs fn yd yr ys : Int32} {stk st L LS R RS sub gS gE nx bg bd : Nat → Int32}
theorem xn_lp {post : SX → Prop} {x : Int32} {s : Nat} : ∀ (c f : Nat) (stk : Nat → Int32), c < f → s + c < 31 →
    post (fp + 1, ft, fr, fs, fn, upd (sh_ s c stk) s x, st, L, LS, R, RS, sub, gS, gE, nx) →
    wX_insertOnStack_5 post x (nI s) fp ft fr fs fn f (nI (s + c)) stk st L LS R RS sub gS gE nx := by
  intro c
  induction c with
  | zero =>
    intro f stk hf hs h
    obtain ⟨f, rfl⟩ : ∃ g, f = g + 1 := ⟨f - 1, by omega⟩
    refine br_t (nI_le (by omega) (by omega)) ⟨vp_in_nI (by omega) (by omega), ?_⟩
    rw [nI_clamp (n := s) (by omega)]
    exact nm_e (nm_e h)
  | succ c ih =>
    intro f stk hf hs h
    obtain ⟨f, rfl⟩ : ∃ g, f = g + 1 := ⟨f - 1, by omega⟩
    have e1 : nI (s + (c + 1)) - 1 = nI (s + c) := nI_pred (s + c)
    have e2 : nI (s + (c + 1)) + (-1) = nI (s + c) := pk_m1 (s + c)
    refine br_f (nI_ge (by omega) (by omega)) ⟨by rw [e1]; exact vp_in_nI (by omega) (by omega), vp_in_nI (by omega) (by omega), ?_⟩
    rw [e1, nI_clamp (n := s + (c + 1)) (by omega), nI_clamp (n := s + c) (by omega)]
    exact nm_e (nm_r e2 (ih f _ (by omega) (by omega) h))
theorem xn_in {post : SX → Prop} {x : Int32} {s p : Nat} (hp : p < 31) (hs : s ≤ p) (h : post (nI (p + 1), ft, fr, fs, fn, upd (sh_ s (p - s) stk) s x, st, L, LS, R, RS, sub, gS, gE, nx)) :
    wpX_insertOnStack post (nI p, ft, fr, fs, fn, stk, st, L, LS, R, RS, sub, gS, gE, nx) x (nI s) := by
  refine ⟨p - s + 1, ?_⟩
  have H := xn_lp (fp := nI p) (ft := ft) (fr := fr) (fs := fs) (fn := fn) (st := st) (L := L) (LS := LS) (R := R) (RS := RS) (sub := sub) (gS := gS) (gE := gE) (nx := nx) (post := post) (x := x) (s := s) (p - s) (p - s + 1) stk (by omega) (by omega) (by rw [nI_1]; exact h)
  rw [show s + (p - s) = p from by omega] at H
  exact H
theorem yn_lp {post : Int32 → SY → Prop} {x : Int32} {s p d q : Nat} (hq : q ≤ d) (hd : d - q + 1 ≤ 6) : ∀ (c f : Nat) (stk : Nat → Int32), c < f → s + c < 31 →
    post (nI (d - q + 1)) (nI (d - q + 1), yr, ys, upd (sh_ s c stk) s x, upd bg (d - q + 1) (nI (p + 1)), L, LS, R, RS, sub, nx, bd) →
    wY_build_77 post x (nI p) (nI q) (nI s) (nI d) yr ys f (nI (s + c)) stk bg L LS R RS sub nx bd := by
  have ed : nI d - nI q + 1 = nI (d - q + 1) := by rw [pk_sub hq, nI_1]
  intro c
  induction c with
  | zero =>
    intro f stk hf hs h
    obtain ⟨f, rfl⟩ : ∃ g, f = g + 1 := ⟨f - 1, by omega⟩
    refine br_t (nI_le (by omega) (by omega)) ⟨vp_in_nI (by omega) (by omega), ?_⟩
    rw [nI_clamp (n := s) (by omega)]
    refine nm_e (nm_r ed ⟨vp_in_nI (by omega) (by omega), ?_⟩)
    rw [nI_clamp (n := d - q + 1) (by omega), nI_1 p]
    exact nm_e h
  | succ c ih =>
    intro f stk hf hs h
    obtain ⟨f, rfl⟩ : ∃ g, f = g + 1 := ⟨f - 1, by omega⟩
    have e1 : nI (s + (c + 1)) - 1 = nI (s + c) := nI_pred (s + c)
    have e2 : nI (s + (c + 1)) + (-1) = nI (s + c) := pk_m1 (s + c)
    refine br_f (nI_ge (by omega) (by omega)) ⟨by rw [e1]; exact vp_in_nI (by omega) (by omega), vp_in_nI (by omega) (by omega), ?_⟩
    rw [e1, nI_clamp (n := s + (c + 1)) (by omega), nI_clamp (n := s + c) (by omega)]
    exact nm_e (nm_r e2 (ih f _ (by omega) (by omega) h))
theorem xcl_lp {post : SX → Prop} {s e w : Nat} (he : e ≤ 31) (hw : w + (e - s) ≤ 42) : ∀ (c j f : Nat) (L : Nat → Int32), s + j + c = e → c < f →
    post (fp, ft, fr, fs, fn, stk, st, cp_ stk c (s + j) (w + j) L, LS, R, RS, sub, gS, gE, nx) →
    wX_copyFromStack__leftSymbols_3 post (nI s) (nI e) (nI w) fp ft fr fs fn f (nI (s + j)) stk st L LS R RS sub gS gE nx := by
  intro c
  induction c with
  | zero =>
    intro j f L hj hf h
    obtain ⟨f, rfl⟩ : ∃ g, f = g + 1 := ⟨f - 1, by omega⟩
    exact br_t (nI_le (by omega) (by omega)) h
  | succ c ih =>
    intro j f L hj hf h
    obtain ⟨f, rfl⟩ : ∃ g, f = g + 1 := ⟨f - 1, by omega⟩
    have e1 : nI w + nI (s + j) - nI s = nI (w + j) := by
      rw [nI_add, pk_sub (by omega), show w + (s + j) - s = w + j from by omega]
    refine br_f (nI_ge (by omega) (by omega)) ⟨vp_in_nI (by omega) (by omega), by rw [e1]; exact vp_in_nI (by omega) (by omega), ?_⟩
    rw [e1, nI_clamp (n := s + j) (by omega), nI_clamp (n := w + j) (by omega)]
    exact nm_e (nm_r (nI_1 _) (ih (j + 1) f _ (by omega) (by omega) h))
theorem xcl_cp {post : SX → Prop} {s e w : Nat} {x : Int32} (hx : x = nI w) (he : e ≤ 31) (hs : s ≤ e) (hw : w + (e - s) ≤ 42) (h : post (fp, ft, fr, fs, fn, stk, st, cp_ stk (e - s) s w L, LS, R, RS, sub, gS, gE, nx)) :
    wpX_copyFromStack__leftSymbols post (fp, ft, fr, fs, fn, stk, st, L, LS, R, RS, sub, gS, gE, nx) (nI s) (nI e) x := by
  subst hx
  exact ⟨e - s + 1, xcl_lp he hw (e - s) 0 (e - s + 1) L (by omega) (by omega) h⟩
theorem xcr_lp {post : SX → Prop} {s e w : Nat} (he : e ≤ 31) (hw : w + (e - s) ≤ 186) : ∀ (c j f : Nat) (R : Nat → Int32), s + j + c = e → c < f →
    post (fp, ft, fr, fs, fn, stk, st, L, LS, cp_ stk c (s + j) (w + j) R, RS, sub, gS, gE, nx) →
    wX_copyFromStack__rightSymbols_3 post (nI s) (nI e) (nI w) fp ft fr fs fn f (nI (s + j)) stk st L LS R RS sub gS gE nx := by
  intro c
  induction c with
  | zero =>
    intro j f R hj hf h
    obtain ⟨f, rfl⟩ : ∃ g, f = g + 1 := ⟨f - 1, by omega⟩
    exact br_t (nI_le (by omega) (by omega)) h
  | succ c ih =>
    intro j f R hj hf h
    obtain ⟨f, rfl⟩ : ∃ g, f = g + 1 := ⟨f - 1, by omega⟩
    have e1 : nI w + nI (s + j) - nI s = nI (w + j) := by
      rw [nI_add, pk_sub (by omega), show w + (s + j) - s = w + j from by omega]
    refine br_f (nI_ge (by omega) (by omega)) ⟨vp_in_nI (by omega) (by omega), by rw [e1]; exact vp_in_nI (by omega) (by omega), ?_⟩
    rw [e1, nI_clamp (n := s + j) (by omega), nI_clamp (n := w + j) (by omega)]
    exact nm_e (nm_r (nI_1 _) (ih (j + 1) f _ (by omega) (by omega) h))
theorem xcr_cp {post : SX → Prop} {s e w : Nat} {x : Int32} (hx : x = nI w) (he : e ≤ 31) (hs : s ≤ e) (hw : w + (e - s) ≤ 186) (h : post (fp, ft, fr, fs, fn, stk, st, L, LS, cp_ stk (e - s) s w R, RS, sub, gS, gE, nx)) :
    wpX_copyFromStack__rightSymbols post (fp, ft, fr, fs, fn, stk, st, L, LS, R, RS, sub, gS, gE, nx) (nI s) (nI e) x := by
  subst hx
  exact ⟨e - s + 1, xcr_lp he hw (e - s) 0 (e - s + 1) R (by omega) (by omega) h⟩
theorem xcs_lp {post : SX → Prop} {s e w : Nat} (he : e ≤ 31) (hw : w + (e - s) ≤ 31) : ∀ (c j f : Nat) (sub : Nat → Int32), s + j + c = e → c < f →
    post (fp, ft, fr, fs, fn, stk, st, L, LS, R, RS, cp_ stk c (s + j) (w + j) sub, gS, gE, nx) →
    wX_copyFromStack__subjectSymbols_3 post (nI s) (nI e) (nI w) fp ft fr fs fn f (nI (s + j)) stk st L LS R RS sub gS gE nx := by
  intro c
  induction c with
  | zero =>
    intro j f sub hj hf h
    obtain ⟨f, rfl⟩ : ∃ g, f = g + 1 := ⟨f - 1, by omega⟩
    exact br_t (nI_le (by omega) (by omega)) h
  | succ c ih =>
    intro j f sub hj hf h
    obtain ⟨f, rfl⟩ : ∃ g, f = g + 1 := ⟨f - 1, by omega⟩
    have e1 : nI w + nI (s + j) - nI s = nI (w + j) := by
      rw [nI_add, pk_sub (by omega), show w + (s + j) - s = w + j from by omega]
    refine br_f (nI_ge (by omega) (by omega)) ⟨vp_in_nI (by omega) (by omega), by rw [e1]; exact vp_in_nI (by omega) (by omega), ?_⟩
    rw [e1, nI_clamp (n := s + j) (by omega), nI_clamp (n := w + j) (by omega)]
    exact nm_e (nm_r (nI_1 _) (ih (j + 1) f _ (by omega) (by omega) h))
theorem xcs_cp {post : SX → Prop} {s e w : Nat} {x : Int32} (hx : x = nI w) (he : e ≤ 31) (hs : s ≤ e) (hw : w + (e - s) ≤ 31) (h : post (fp, ft, fr, fs, fn, stk, st, L, LS, R, RS, cp_ stk (e - s) s w sub, gS, gE, nx)) :
    wpX_copyFromStack__subjectSymbols post (fp, ft, fr, fs, fn, stk, st, L, LS, R, RS, sub, gS, gE, nx) (nI s) (nI e) x := by
  subst hx
  exact ⟨e - s + 1, xcs_lp he hw (e - s) 0 (e - s + 1) sub (by omega) (by omega) h⟩
theorem yl_lp {post : Int32 → SY → Prop} {s l d m : Nat} (hm : m < 6) (hd : d ≤ 6) (hl : LS m = nI l) (hl7 : l ≤ 7) (hb : bg d = nI s) (hs : s + l ≤ 31) : ∀ (c i f : Nat) (L : Nat → Int32), i + c = l → c < f →
    (∃ n147, wY_rule_147 post (nI d) (nI m) ys n147 0 stk bg (cp_ stk c (s + i) (m * 7 + i) L) LS R RS sub nx bd) →
    wY_rule_96 post (nI d) (nI m) ys f (nI i) stk bg L LS R RS sub nx bd := by
  have hcm : (nI m).toNatClampNeg = m := nI_clamp (by omega)
  have hcd : (nI d).toNatClampNeg = d := nI_clamp (by omega)
  intro c
  induction c with
  | zero =>
    intro i f L hi hf h
    obtain ⟨f, rfl⟩ : ∃ g, f = g + 1 := ⟨f - 1, by omega⟩
    refine ⟨vp_in_nI hm (by omega), br_t ?_ h⟩
    rw [hcm, hl]; exact nI_le (by omega) (by omega)
  | succ c ih =>
    intro i f L hi hf h
    obtain ⟨f, rfl⟩ : ∃ g, f = g + 1 := ⟨f - 1, by omega⟩
    have e1 : bg (nI d).toNatClampNeg + nI i = nI (s + i) := by rw [hcd, hb, nI_add]
    have e2 : 7 * nI m + nI i = nI (m * 7 + i) := by
      rw [show (7 : Int32) = nI 7 from rfl, pk_mul, nI_add, Nat.mul_comm]
    refine ⟨vp_in_nI hm (by omega), br_f ?_ ⟨vp_in_nI (by omega) (by omega), ?_, ?_, ?_⟩⟩
    · rw [hcm, hl]; exact nI_ge (by omega) (by omega)
    · rw [e1]; exact vp_in_nI (by omega) (by omega)
    · rw [e2]; exact vp_in_nI (by omega) (by omega)
    · rw [e1, e2, nI_clamp (n := s + i) (by omega), nI_clamp (n := m * 7 + i) (by omega)]
      exact nm_e (nm_r (nI_1 _) (ih (i + 1) f _ (by omega) (by omega) h))
theorem yg_lp {post : Int32 → SY → Prop} {s l d m : Nat} (hm : m < 6) (hd : d + 1 ≤ 6) (hl : RS m = nI l) (hl31 : l ≤ 31) (hb : bg (d + 1) = nI s) (hs : s + l ≤ 31) : ∀ (c i f : Nat) (R : Nat → Int32), i + c = l → c < f →
    post (nI m) (nI d, nI (m + 1), ys, stk, bg, L, LS, cp_ stk c (s + i) (m * 31 + i) R, RS, sub, nx, bd) →
    wY_rule_147 post (nI d) (nI m) ys f (nI i) stk bg L LS R RS sub nx bd := by
  have hcm : (nI m).toNatClampNeg = m := nI_clamp (by omega)
  have hcd : (nI d + 1).toNatClampNeg = d + 1 := by rw [nI_1, nI_clamp (by omega)]
  intro c
  induction c with
  | zero =>
    intro i f R hi hf h
    obtain ⟨f, rfl⟩ : ∃ g, f = g + 1 := ⟨f - 1, by omega⟩
    refine ⟨vp_in_nI hm (by omega), br_t ?_ (nm_r (nI_1 m) ?_)⟩
    · rw [hcm, hl]; exact nI_le (by omega) (by omega)
    · rw [nI_pred]; exact h
  | succ c ih =>
    intro i f R hi hf h
    obtain ⟨f, rfl⟩ : ∃ g, f = g + 1 := ⟨f - 1, by omega⟩
    have e1 : bg (nI d + 1).toNatClampNeg + nI i = nI (s + i) := by rw [hcd, hb, nI_add]
    have e2 : 31 * nI m + nI i = nI (m * 31 + i) := by
      rw [show (31 : Int32) = nI 31 from rfl, pk_mul, nI_add, Nat.mul_comm]
    refine ⟨vp_in_nI hm (by omega), br_f ?_ ⟨?_, ?_, ?_, ?_⟩⟩
    · rw [hcm, hl]; exact nI_ge (by omega) (by omega)
    · rw [nI_1]; exact vp_in_nI (by omega) (by omega)
    · rw [e1]; exact vp_in_nI (by omega) (by omega)
    · rw [e2]; exact vp_in_nI (by omega) (by omega)
    · rw [e1, e2, nI_clamp (n := s + i) (by omega), nI_clamp (n := m * 31 + i) (by omega)]
      exact nm_e (nm_r (nI_1 _) (ih (i + 1) f _ (by omega) (by omega) h))
theorem yj_lp {post : Int32 → SY → Prop} {s l d : Nat} (hd : d ≤ 6) (hl31 : l ≤ 31) (hb : bg d = nI s) (hs : s + l ≤ 31) : ∀ (c i f : Nat) (sub : Nat → Int32), i + c = l → c < f →
    post (nI l) (nI d, yr, nI l, stk, bg, L, LS, R, RS, cp_ stk c (s + i) i sub, nx, bd) →
    wY_subject_88 post (nI d) yr (nI l) f (nI i) stk bg L LS R RS sub nx bd := by
  have hcd : (nI d).toNatClampNeg = d := nI_clamp (by omega)
  intro c
  induction c with
  | zero =>
    intro i f sub hi hf h
    obtain ⟨f, rfl⟩ : ∃ g, f = g + 1 := ⟨f - 1, by omega⟩
    exact br_t (nI_le (by omega) (by omega)) h
  | succ c ih =>
    intro i f sub hi hf h
    obtain ⟨f, rfl⟩ : ∃ g, f = g + 1 := ⟨f - 1, by omega⟩
    have e1 : bg (nI d).toNatClampNeg + nI i = nI (s + i) := by rw [hcd, hb, nI_add]
    refine br_f (nI_ge (by omega) (by omega)) ⟨vp_in_nI (by omega) (by omega), ?_, vp_in_nI (by omega) (by omega), ?_⟩
    · rw [e1]; exact vp_in_nI (by omega) (by omega)
    · rw [e1, nI_clamp (n := s + i) (by omega), nI_clamp (n := i) (by omega)]
      exact nm_e (nm_r (nI_1 _) (ih (i + 1) f _ (by omega) (by omega) h))
end
end
section
section
variable {fp ft fr fs fn yd yr ys : Int32} {stk st L LS R RS sub gS gE nx bg bd : Nat → Int32}
theorem yk_lp {post : Int32 → Prop} {x : Int32} {t e : Nat} (ht : t + 1 < 7) (hb : bg (t + 1) = nI e) (he : e ≤ 31) : ∀ (c i f k : Nat), i + c = e → c < f → k + c ≤ 1000 →
    post (nI (k + cn_ stk x c i)) →
    wY_countIn_10 post (nI t) x yd yr ys stk bg L LS R RS sub nx bd f (nI k) (nI i) := by
  have hct : (nI t + 1).toNatClampNeg = t + 1 := by rw [nI_1, nI_clamp (by omega)]
  have hvt : vp_in (nI t + 1) 7 := by rw [nI_1]; exact vp_in_nI (by omega) (by omega)
  intro c
  induction c with
  | zero =>
    intro i f k hi hf hk h
    obtain ⟨f, rfl⟩ : ∃ g, f = g + 1 := ⟨f - 1, by omega⟩
    refine ⟨hvt, br_t ?_ h⟩
    rw [hct, hb]; exact nI_le (by omega) (by omega)
  | succ c ih =>
    intro i f k hi hf hk h
    obtain ⟨f, rfl⟩ : ∃ g, f = g + 1 := ⟨f - 1, by omega⟩
    have hu : cn_ stk x (c + 1) i = on_ (stk i) x + cn_ stk x c (i + 1) := rfl
    rw [hu] at h
    refine ⟨hvt, br_f ?_ ⟨vp_in_nI (by omega) (by omega), ?_⟩⟩
    · rw [hct, hb]; exact nI_ge (by omega) (by omega)
    · rw [nI_clamp (n := i) (by omega)]
      refine br_c (fun z => nm_r (nI_1 _) (nm_r (nI_1 _) (ih (i + 1) f (k + 1) (by omega) (by omega) (by omega) ?_))) (fun z => nm_r (nI_1 _) (ih (i + 1) f k (by omega) (by omega) (by omega) ?_))
      · rw [show on_ (stk i) x = 1 from if_pos z, ← Nat.add_assoc] at h; exact h
      · rw [show on_ (stk i) x = 0 from if_neg z, Nat.zero_add] at h; exact h
theorem yk_ct {post : Int32 → Prop} {x : Int32} {t s e : Nat} (ht : t + 1 < 7) (hs : bg t = nI s) (hb : bg (t + 1) = nI e) (hse : s ≤ e) (he : e ≤ 31) (h : post (nI (cn_ stk x (e - s) s))) :
    wpY_countIn post (yd, yr, ys, stk, bg, L, LS, R, RS, sub, nx, bd) (nI t) x := by
  have hct : (nI t).toNatClampNeg = t := nI_clamp (by omega)
  refine ⟨vp_in_nI (by omega) (by omega), nm_r (e' := nI s) (by rw [hct, hs]) ⟨e - s + 1, ?_⟩⟩
  exact yk_lp ht hb he (e - s) s (e - s + 1) 0 (by omega) (by omega) (by omega) (by rw [Nat.zero_add]; exact h)
theorem xk_lp {post : Int32 → Prop} {e : Nat} (he : e ≤ 31) (hk : ∀ i, sy_ok (stk i)) : ∀ (c i f A B C : Nat), i + c = e → c < f →
    post (mc_ (A + cn_ stk (nI 7) c i) (B + cn_ stk (nI 8) c i) (C + cn_ stk (nI 9) c i)) →
    wX_variablesOnStack_5 post (nI e) fp ft fr fs fn stk st L LS R RS sub gS gE nx f (mc_ A B C) (nI i) := by
  intro c
  induction c with
  | zero =>
    intro i f A B C hi hf h
    obtain ⟨f, rfl⟩ : ∃ g, f = g + 1 := ⟨f - 1, by omega⟩
    exact br_t (nI_le (by omega) (by omega)) h
  | succ c ih =>
    intro i f A B C hi hf h
    obtain ⟨f, rfl⟩ : ∃ g, f = g + 1 := ⟨f - 1, by omega⟩
    refine br_f (nI_ge (by omega) (by omega)) ⟨vp_in_nI (by omega) (by omega), ?_⟩
    rw [nI_clamp (n := i) (by omega)]
    refine xb_vb (hk i) (nm_r (mc_or A B C (stk i)) (nm_r (nI_1 _) (ih (i + 1) f _ _ _ (by omega) (by omega) ?_)))
    rw [Nat.add_assoc, Nat.add_assoc, Nat.add_assoc]; exact h
theorem xk_vs {post : Int32 → Prop} {s e : Nat} (he : e ≤ 31) (hs : s ≤ e) (hk : ∀ i, sy_ok (stk i))
    (h : post (mc_ (cn_ stk (nI 7) (e - s) s) (cn_ stk (nI 8) (e - s) s) (cn_ stk (nI 9) (e - s) s))) :
    wpX_variablesOnStack post (fp, ft, fr, fs, fn, stk, st, L, LS, R, RS, sub, gS, gE, nx) (nI s) (nI e) := by
  refine ⟨e - s + 1, ?_⟩
  have z : (0 : Int32) = mc_ 0 0 0 := by decide +kernel
  rw [z]
  exact xk_lp he hk (e - s) s (e - s + 1) 0 0 0 (by omega) (by omega) (by rw [Nat.zero_add, Nat.zero_add, Nat.zero_add]; exact h)
theorem xl_lp {post : Int32 → Prop} {e : Nat} (he : e ≤ 31) (hk : ∀ i, sy_ok (stk i)) : ∀ (c i f A B C : Nat), i + c = e → c < f → A ≤ 1 → B ≤ 1 → C ≤ 1 →
    ((A + cn_ stk (nI 7) c i ≤ 1 ∧ B + cn_ stk (nI 8) c i ≤ 1 ∧ C + cn_ stk (nI 9) c i ≤ 1) → post 1) →
    (¬ (A + cn_ stk (nI 7) c i ≤ 1 ∧ B + cn_ stk (nI 8) c i ≤ 1 ∧ C + cn_ stk (nI 9) c i ≤ 1) → post 0) →
    wX_canBeLeft_27 post (nI e) fp ft fr fs fn stk st L LS R RS sub gS gE nx f (mc_ A B C) (nI i) := by
  intro c
  induction c with
  | zero =>
    intro i f A B C hi hf hA hB hC h1 h0
    obtain ⟨f, rfl⟩ : ∃ g, f = g + 1 := ⟨f - 1, by omega⟩
    exact br_t (nI_le (by omega) (by omega)) (h1 ⟨hA, hB, hC⟩)
  | succ c ih =>
    intro i f A B C hi hf hA hB hC h1 h0
    obtain ⟨f, rfl⟩ : ∃ g, f = g + 1 := ⟨f - 1, by omega⟩
    have hu : ∀ x, cn_ stk x (c + 1) i = on_ (stk i) x + cn_ stk x c (i + 1) := fun _ => rfl
    rw [hu, hu, hu, ← Nat.add_assoc, ← Nat.add_assoc, ← Nat.add_assoc] at h1 h0
    refine br_f (nI_ge (by omega) (by omega)) ⟨vp_in_nI (by omega) (by omega), ?_⟩
    rw [nI_clamp (n := i) (by omega)]
    refine xb_vb (hk i) (br_c (fun z => ?_) (fun z => ?_))
    · obtain ⟨a, b, c'⟩ := (mc_and hA hB hC).mp z
      exact nm_r (mc_or A B C (stk i)) (nm_r (nI_1 _) (ih (i + 1) f _ _ _ (by omega) (by omega) a b c' h1 h0))
    · refine h0 (fun ⟨a, b, c'⟩ => z ((mc_and hA hB hC).mpr ⟨?_, ?_, ?_⟩)) <;> omega
theorem xl_cb {post : Int32 → Prop} {s e : Nat} (he : e ≤ 31) (hs : s < e) (hk : ∀ i, sy_ok (stk i)) (h1 : lk_ stk s e → post 1) (h0 : ¬ lk_ stk s e → post 0) :
    wpX_canBeLeft post (fp, ft, fr, fs, fn, stk, st, L, LS, R, RS, sub, gS, gE, nx) (nI s) (nI e) := by
  refine ⟨vp_in_nI (by omega) (by omega), ?_⟩
  rw [nI_clamp (n := s) (by omega)]
  refine xv_c (fun h7 => ?_) (fun h7 => h0 (fun z => h7 z.1))
  rw [pk_sub (by omega)]
  refine pk_le (e - s) 7 (fun h => ⟨e - s + 1, ?_⟩) (fun h => h0 (fun z => by have := z.2.1; omega))
  have z : (0 : Int32) = mc_ 0 0 0 := by decide +kernel
  rw [z]
  refine xl_lp he hk (e - s) s (e - s + 1) 0 0 0 (by omega) (by omega) (by omega) (by omega) (by omega) (fun H => ?_) (fun H => ?_)
  · rw [Nat.zero_add, Nat.zero_add, Nat.zero_add] at H; exact h1 ⟨h7, h, H⟩
  · rw [Nat.zero_add, Nat.zero_add, Nat.zero_add] at H; exact h0 (fun z => H z.2.2)
theorem xr_cb {post : Int32 → Prop} {s m e : Nat} (he : e ≤ 31) (hs : s ≤ m) (hm : m ≤ e) (hk : ∀ i, sy_ok (stk i)) (h1 : rk_ stk s m e → post 1) (h0 : ¬ rk_ stk s m e → post 0) :
    wpX_canBeRight post (nI e, ft, fr, fs, fn, stk, st, L, LS, R, RS, sub, gS, gE, nx) (nI s) (nI m) := by
  unfold wpX_canBeRight
  refine xk_vs (by omega) hs hk ?_
  refine xk_vs he hm hk ?_
  exact br_c (fun z => h1 (mc_nt.mp z)) (fun z => h0 (fun z' => z (mc_nt.mpr z')))
/-- what isFit asks of one variable -/
def gd_ (a : Nat → Int32) (s m e v : Nat) : Prop := cn_ a (nI v) (m - s) s ≤ 1 ∧ (cn_ a (nI v) (m - s) s = 0 → cn_ a (nI v) (e - m) m = 0)
theorem yf_st {post : Int32 → Prop} {t s m e v f : Nat} (ht : t + 2 < 7) (b0 : bg t = nI s) (b1 : bg (t + 1) = nI m) (b2 : bg (t + 2) = nI e) (hs : s ≤ m) (hm : m ≤ e) (he : e ≤ 31) (hv : v < 10)
    (h1 : gd_ stk s m e v → wY_isFit_58 post (nI t) yd yr ys stk bg L LS R RS sub nx bd f (nI (v + 1))) (h0 : ¬ gd_ stk s m e v → post 0) :
    wY_isFit_58 post (nI t) yd yr ys stk bg L LS R RS sub nx bd (f + 1) (nI v) := by
  refine br_f (nI_ge (b := 10) hv (by omega)) ?_
  have c1 := cn_le stk (nI v) (m - s) s
  have c2 := cn_le stk (nI v) (e - m) m
  refine yk_ct (by omega) b0 b1 hs (by omega) ?_
  refine pk_lt 1 (cn_ stk (nI v) (m - s) s) (fun h => h0 (fun z => by have := z.1; omega)) (fun h => pk_eq (cn_ stk (nI v) (m - s) s) 0 (fun hz => ?_) (fun hz => ?_))
  · rw [nI_1 t]
    refine yk_ct (t := t + 1) (by omega) b1 b2 hm he ?_
    refine pk_le (cn_ stk (nI v) (e - m) m) 0 (fun h' => nm_r (nI_1 _) (h1 ⟨h, fun _ => by omega⟩)) (fun h' => h0 (fun z => by have := z.2 hz; omega))
  · exact nm_r (nI_1 _) (h1 ⟨h, fun z => absurd z hz⟩)
theorem gd_k {a : Nat → Int32} {s m e : Nat} (h7 : a s < 7) (hl : m - s ≤ 7) : (gd_ a s m e 7 ∧ gd_ a s m e 8 ∧ gd_ a s m e 9) ↔ (lk_ a s m ∧ rk_ a s m e) := by
  unfold gd_ lk_ rk_
  constructor
  · rintro ⟨⟨a1, a2⟩, ⟨b1, b2⟩, c1, c2⟩
    refine ⟨⟨h7, hl, a1, b1, c1⟩, ?_, ?_, ?_⟩ <;> omega
  · rintro ⟨⟨_, _, a1, b1, c1⟩, a2, b2, c2⟩
    refine ⟨⟨a1, ?_⟩, ⟨b1, ?_⟩, c1, ?_⟩ <;> omega
theorem yf_ok {post : Int32 → Prop} {t s m e : Nat} (ht : t + 2 < 7) (b0 : bg t = nI s) (b1 : bg (t + 1) = nI m) (b2 : bg (t + 2) = nI e) (hs : s < m) (hm : m ≤ e) (he : e ≤ 31)
    (h1 : lk_ stk s m ∧ rk_ stk s m e → post 1) (h0 : ¬ (lk_ stk s m ∧ rk_ stk s m e) → post 0) :
    wpY_isFit post (nI (t + 2), yr, ys, stk, bg, L, LS, R, RS, sub, nx, bd) := by
  have ct : (nI t).toNatClampNeg = t := nI_clamp (by omega)
  have ct1 : (nI (t + 1)).toNatClampNeg = t + 1 := nI_clamp (by omega)
  unfold wpY_isFit
  refine nm_r (e' := nI t) (pk_sub (a := t + 2) (b := 2) (by omega)) (br_f (nI_nlt (b := 2) (by omega) (by omega)) ⟨vp_in_nI (by omega) (by omega), ?_, ?_⟩)
  · rw [ct, b0]; exact vp_in_nI (by omega) (by omega)
  · rw [nI_1 t, ct, ct1, b0, b1, nI_clamp (n := s) (by omega)]
    refine yv_c (fun h7 => ⟨vp_in_nI (by omega) (by omega), vp_in_nI (by omega) (by omega), ?_⟩) (fun h7 => h0 (fun z => h7 z.1.1))
    rw [pk_sub (by omega)]
    refine pk_le (m - s) 7 (fun hl => ⟨4, ?_⟩) (fun hl => h0 (fun z => by have := z.1.2.1; omega))
    refine yf_st (v := 7) ht b0 b1 b2 (by omega) hm he (by omega) (fun g7 => ?_) (fun g => h0 (fun z => g ((gd_k h7 hl).mpr z).1))
    refine yf_st (v := 8) ht b0 b1 b2 (by omega) hm he (by omega) (fun g8 => ?_) (fun g => h0 (fun z => g ((gd_k h7 hl).mpr z).2.1))
    refine yf_st (v := 9) ht b0 b1 b2 (by omega) hm he (by omega) (fun g9 => ?_) (fun g => h0 (fun z => g ((gd_k h7 hl).mpr z).2.2))
    exact br_t (nI_le (a := 10) (b := 10) (by omega) (by omega)) (h1 ((gd_k h7 hl).mp ⟨g7, g8, g9⟩))
theorem yf_no {post : Int32 → Prop} {d : Nat} (hd : d < 2) (h0 : post 0) :
    wpY_isFit post (nI d, yr, ys, stk, bg, L, LS, R, RS, sub, nx, bd) := by
  unfold wpY_isFit
  exact nm_e (br_t (nI_lt (b := 2) hd (by omega)) h0)
end
end
section
section
variable {fp ft fr fs fn yd yr ys : Int32} {stk st L LS R RS sub gS gE nx bg bd : Nat → Int32}
theorem xb_77 {post : Int32 → SX → Prop} {x : Int32} {p d' s : Nat} (hp : p < 31) (hd : d' < 6) (hs : s ≤ p)
    (h : post (nI (d' + 1)) (nI (p + 1), nI (d' + 1), fr, fs, fn, upd (sh_ s (p - s) stk) s x, upd st d' (nI s), L, LS, R, RS, sub, gS, gE, nx)) :
    wX_build_77 post x (nI d') (nI s) (nI p) ft fr fs fn stk st L LS R RS sub gS gE nx := by
  unfold wX_build_77
  refine xn_in hp hs ⟨vp_in_nI hd (by omega), ?_⟩
  rw [nI_clamp (n := d') (by omega)]
  exact nm_e (nm_r (nI_1 _) h)
theorem xb_42 {post : Int32 → SX → Prop} {x : Int32} {p d q s : Nat} (hp : p < 31) (hq : q ≤ d) (hd6 : d ≤ 6) (hd : d - q < 6) (hs : s ≤ p) (h0 : q = 0 → s = p) (h1 : q ≠ 0 → st (d - q) = nI s)
    (h : post (nI (d - q + 1)) (nI (p + 1), nI (d - q + 1), fr, fs, fn, upd (sh_ s (p - s) stk) s x, upd st (d - q) (nI s), L, LS, R, RS, sub, gS, gE, nx)) :
    wX_build_42 post x (nI q) (nI p) (nI d) fr fs fn stk st L LS R RS sub gS gE nx := by
  refine br_t (nI_le hq (by omega)) (nm_r (pk_sub hq) (pk_eq q 0 (fun z => ?_) (fun z => ⟨vp_in_nI hd (by omega), ?_⟩)))
  · obtain rfl := h0 z
    exact xb_77 hp hd hs h
  · rw [nI_clamp (n := d - q) (by omega), h1 z]
    exact xb_77 hp hd hs h
theorem yb_50 {post : Int32 → SY → Prop} {x : Int32} {p d q s : Nat} (hp : p < 31) (hq : q ≤ d) (hd6 : d ≤ 6) (hd : d - q < 6) (hs : s ≤ p) (h1 : bg (d - q) = nI s)
    (h : post (nI (d - q + 1)) (nI (d - q + 1), yr, ys, upd (sh_ s (p - s) stk) s x, upd bg (d - q + 1) (nI (p + 1)), L, LS, R, RS, sub, nx, bd)) :
    wY_build_50 post x (nI p) (nI q) (nI d) yr ys stk bg L LS R RS sub nx bd := by
  have e : nI d - nI q = nI (d - q) := pk_sub hq
  refine br_t (nI_le hq (by omega)) ⟨by rw [e]; exact vp_in_nI (by omega) (by omega), nm_r (e' := nI s) ?_ ⟨p - s + 1, ?_⟩⟩
  · rw [e, nI_clamp (by omega), h1]
  · have H := yn_lp (yr := yr) (ys := ys) (bg := bg) (L := L) (LS := LS) (R := R) (RS := RS) (sub := sub) (nx := nx) (bd := bd) (post := post) (x := x) (s := s) (p := p) hq (by omega) (p - s) (p - s + 1) stk (by omega) (by omega) h
    rw [show s + (p - s) = p from by omega] at H
    exact H
theorem xr_ru {post : Int32 → SX → Prop} {t m s md e : Nat} (hm : m < 6) (ht : t + 2 ≤ 6) (s0 : st t = nI s) (s1 : st (t + 1) = nI md) (hs : s < md) (hmd : md ≤ e) (he : e ≤ 31) (hk : ∀ i, sy_ok (stk i))
    (h1 : lk_ stk s md ∧ rk_ stk s md e → post (nI m) (nI s, nI t, nI (m + 1), fs, fn, stk, st, cp_ stk (md - s) s (m * 7) L, upd LS m (nI (md - s)), cp_ stk (e - md) md (m * 31) R, upd RS m (nI (e - md)), sub, gS, gE, nx))
    (h0 : ¬ (lk_ stk s md ∧ rk_ stk s md e) → post (-3) (nI e, nI (t + 2), nI m, fs, fn, stk, st, L, LS, R, RS, sub, gS, gE, nx)) :
    wpX_rule post (nI e, nI (t + 2), nI m, fs, fn, stk, st, L, LS, R, RS, sub, gS, gE, nx) := by
  have e2 : nI (t + 2) - 2 = nI t := pk_sub (a := t + 2) (b := 2) (by omega)
  have e1 : nI (t + 2) - 1 = nI (t + 1) := nI_pred (t + 1)
  have hv2 : vp_in (nI (t + 2) - 2) 6 := by rw [e2]; exact vp_in_nI (by omega) (by omega)
  have hv1 : vp_in (nI (t + 2) - 1) 6 := by rw [e1]; exact vp_in_nI (by omega) (by omega)
  have g2 : st (nI (t + 2) - 2).toNatClampNeg = nI s := by rw [e2, nI_clamp (by omega), s0]
  have g1 : st (nI (t + 2) - 1).toNatClampNeg = nI md := by rw [e1, nI_clamp (by omega), s1]
  have hcm : (nI m).toNatClampNeg = m := nI_clamp (by omega)
  unfold wpX_rule
  refine br_t (nI_lt (b := 6) hm (by omega)) (br_t (nI_le (a := 2) (by omega) (by omega)) ⟨hv2, nm_r g2 ⟨hv1, nm_r g1 ?_⟩⟩)
  refine xl_cb (by omega) hs hk (fun lk => br_f (by decide) ?_) (fun nl => br_t rfl (h0 (fun z => nl z.1)))
  refine xr_cb he (by omega) hmd hk (fun rk => br_f (by decide) ?_) (fun nr => br_t rfl (h0 (fun z => nr z.2)))
  have l7 := lk.2.1
  refine xcl_cp (w := m * 7) (pk_mul m 7) (by omega) (by omega) (by omega) ⟨vp_in_nI hm (by omega), ?_⟩
  rw [hcm, pk_sub (show s ≤ md by omega)]
  refine nm_e ?_
  refine xcr_cp (w := m * 31) (pk_mul m 31) (by omega) (by omega) (by omega) ⟨vp_in_nI hm (by omega), ?_⟩
  rw [pk_sub (show md ≤ e by omega)]
  refine nm_e (nm_r e2 (nm_r (nI_1 m) ?_))
  rw [nI_pred, hcm]
  exact h1 ⟨lk, rk⟩
theorem yr_ru {post : Int32 → SY → Prop} {t m s md e : Nat} (hm : m < 6) (ht : t + 2 ≤ 6) (b0 : bg t = nI s) (b1 : bg (t + 1) = nI md) (b2 : bg (t + 2) = nI e) (hs : s < md) (hmd : md ≤ e) (he : e ≤ 31)
    (h1 : lk_ stk s md ∧ rk_ stk s md e → post (nI m) (nI t, nI (m + 1), ys, stk, bg, cp_ stk (md - s) s (m * 7) L, upd LS m (nI (md - s)), cp_ stk (e - md) md (m * 31) R, upd RS m (nI (e - md)), sub, nx, bd))
    (h0 : ¬ (lk_ stk s md ∧ rk_ stk s md e) → post (-3) (nI (t + 2), nI m, ys, stk, bg, L, LS, R, RS, sub, nx, bd)) :
    wpY_rule post (nI (t + 2), nI m, ys, stk, bg, L, LS, R, RS, sub, nx, bd) := by
  have e2 : nI (t + 2) - 2 = nI t := pk_sub (a := t + 2) (b := 2) (by omega)
  have hcm : (nI m).toNatClampNeg = m := nI_clamp (by omega)
  have c0 : (nI t).toNatClampNeg = t := nI_clamp (by omega)
  have c1 : (nI (t + 1)).toNatClampNeg = t + 1 := nI_clamp (by omega)
  have c2 : (nI (t + 2)).toNatClampNeg = t + 2 := nI_clamp (by omega)
  have a2 : nI t + 2 = nI (t + 2) := nI_add t 2
  have hne : ¬ nI m = 6 := fun z => by
    have z' : nI m = nI 6 := z
    rw [nI_eq (by omega) (by omega)] at z'; omega
  have hvm : vp_in (nI m) 6 := vp_in_nI hm (by omega)
  unfold wpY_rule
  refine br_f hne ?_
  refine yf_ok (by omega) b0 b1 b2 hs hmd he (fun lr => br_f (by decide) (nm_r e2 ?_)) (fun n => br_t rfl (h0 n))
  have l7 := lr.1.2.1
  rw [nI_1 t, a2, c0, c1, c2, b0, b1, b2, hcm, pk_sub (show s ≤ md by omega), pk_sub hmd]
  refine ⟨vp_in_nI (by omega) (by omega), vp_in_nI (by omega) (by omega), hvm, nm_e ⟨vp_in_nI (by omega) (by omega), vp_in_nI (by omega) (by omega), hvm, nm_e ⟨md - s + 1, ?_⟩⟩⟩
  refine yl_lp (l := md - s) hm (by omega) pk_us (by omega) b0 (by omega) (md - s) 0 (md - s + 1) L (by omega) (by omega) ⟨e - md + 1, ?_⟩
  exact yg_lp (l := e - md) hm (by omega) pk_us (by omega) b1 (by omega) (e - md) 0 (e - md + 1) R (by omega) (by omega) (h1 lr)
theorem xj_su {post : Int32 → SX → Prop} {t s p : Nat} (ht : t + 1 ≤ 6) (s0 : st t = nI s) (hs : s ≤ p) (hp : p ≤ 31) (hk : ∀ i, sy_ok (stk i))
    (h1 : cn_ stk (nI 7) (p - s) s + cn_ stk (nI 8) (p - s) s + cn_ stk (nI 9) (p - s) s ≤ 0 → post (nI (p - s)) (nI s, nI t, fr, nI (p - s), fn, stk, st, L, LS, R, RS, cp_ stk (p - s) s 0 sub, gS, gE, nx))
    (h0 : ¬ cn_ stk (nI 7) (p - s) s + cn_ stk (nI 8) (p - s) s + cn_ stk (nI 9) (p - s) s ≤ 0 → post (-3) (nI p, nI (t + 1), fr, fs, fn, stk, st, L, LS, R, RS, sub, gS, gE, nx)) :
    wpX_subject post (nI p, nI (t + 1), fr, fs, fn, stk, st, L, LS, R, RS, sub, gS, gE, nx) := by
  have e1 : nI (t + 1) - 1 = nI t := nI_pred t
  have hv1 : vp_in (nI (t + 1) - 1) 6 := by rw [e1]; exact vp_in_nI (by omega) (by omega)
  have g1 : st (nI (t + 1) - 1).toNatClampNeg = nI s := by rw [e1, nI_clamp (by omega), s0]
  unfold wpX_subject
  refine br_t (nI_le (a := 1) (by omega) (by omega)) ⟨hv1, nm_r g1 ?_⟩
  refine xk_vs hp hs hk (br_c (fun z => ?_) (fun z => h0 (fun z' => z (mc_z.mpr z'))))
  refine xcs_cp (w := 0) rfl hp hs (by omega) ?_
  exact nm_r (pk_sub hs) (nm_r e1 (h1 (mc_z.mp z)))
theorem yj_su {post : Int32 → SY → Prop} {t s p : Nat} (ht : t + 1 ≤ 6) (b0 : bg t = nI s) (b1 : bg (t + 1) = nI p) (hs : s ≤ p) (hp : p ≤ 31)
    (h1 : cn_ stk (nI 7) (p - s) s + cn_ stk (nI 8) (p - s) s + cn_ stk (nI 9) (p - s) s ≤ 0 → post (nI (p - s)) (nI t, yr, nI (p - s), stk, bg, L, LS, R, RS, cp_ stk (p - s) s 0 sub, nx, bd))
    (h0 : ¬ cn_ stk (nI 7) (p - s) s + cn_ stk (nI 8) (p - s) s + cn_ stk (nI 9) (p - s) s ≤ 0 → post (-3) (nI (t + 1), yr, ys, stk, bg, L, LS, R, RS, sub, nx, bd)) :
    wpY_subject post (nI (t + 1), yr, ys, stk, bg, L, LS, R, RS, sub, nx, bd) := by
  have e1 : nI (t + 1) - 1 = nI t := nI_pred t
  have c0 : (nI t).toNatClampNeg = t := nI_clamp (by omega)
  have c1 : (nI (t + 1)).toNatClampNeg = t + 1 := nI_clamp (by omega)
  have k7 := cn_le stk (nI 7) (p - s) s
  have k8 := cn_le stk (nI 8) (p - s) s
  have k9 := cn_le stk (nI 9) (p - s) s
  unfold wpY_subject
  refine br_f (nI_ne0 (by omega) (by omega)) ?_
  rw [e1]
  refine yk_ct (x := nI 7) (by omega) b0 b1 hs hp ?_
  refine yk_ct (x := nI 8) (by omega) b0 b1 hs hp ?_
  refine yk_ct (x := nI 9) (by omega) b0 b1 hs hp ?_
  rw [nI_add, nI_add]
  refine pk_le _ 0 (fun z => nm_e ?_) (fun z => h0 (by omega)) rfl rfl (by omega) (by omega)
  rw [nI_1 t, c0, c1, b0, b1]
  refine ⟨vp_in_nI (by omega) (by omega), vp_in_nI (by omega) (by omega), nm_r (pk_sub hs) ⟨p - s + 1, ?_⟩⟩
  exact yj_lp (l := p - s) (by omega) (by omega) b0 (by omega) (p - s) 0 (p - s + 1) sub (by omega) (by omega) (h1 z)
theorem xz_in {post : Int32 → Prop} {n i : Nat} (hn : n ≤ 31) (hi : i < n) (h : post (nI (en_ sub n i - i))) :
    wpX_sizeAt post (fp, ft, fr, nI n, fn, stk, st, L, LS, R, RS, sub, gS, gE, nx) (nI i) := by
  unfold wpX_sizeAt
  refine xi_c hn (by omega) (fun z => absurd z (by omega)) (fun _ => xe_end hn (by omega) ?_)
  rw [pk_sub en_ge]; exact h
theorem xz_out {post : Int32 → Prop} {n : Nat} {x : Int32} (h : x < 0 ∨ ¬ x < 0 ∧ nI n ≤ x) (hp : post (-4)) :
    wpX_sizeAt post (fp, ft, fr, nI n, fn, stk, st, L, LS, R, RS, sub, gS, gE, nx) x := by
  unfold wpX_sizeAt
  rcases h with h | ⟨h0, h⟩
  · exact br_t h (br_t rfl hp)
  · exact br_f h0 (br_t h (br_t rfl hp))
theorem sm_lp {n i j l : Nat} (hi : i + l ≤ 31) (hj : j + l ≤ 31) : ∀ c k : Nat, k + c = l → ∃ r : Int32,
    (∀ post : Int32 → Prop, post r → wX_same_26 post (nI i) (nI j) (nI l) fp ft fr fs fn stk st L LS R RS sub gS gE nx (c + 1) (nI k)) ∧
    (∀ post : Int32 → Prop, post r → wY_same_50 post (nI i) (nI j) (nI l) yd yr ys stk bg L LS R RS sub nx bd (c + 1) (nI k)) := by
  intro c
  induction c with
  | zero =>
    intro k hk
    have h : nI l ≤ nI k := nI_le (by omega) (by omega)
    exact ⟨1, fun _ hp => br_t h hp, fun _ hp => br_t h hp⟩
  | succ c ih =>
    intro k hk
    have h : ¬ nI l ≤ nI k := nI_ge (by omega) (by omega)
    have v1 : vp_in (nI i + nI k) 31 := by rw [nI_add]; exact vp_in_nI (by omega) (by omega)
    have v2 : vp_in (nI j + nI k) 31 := by rw [nI_add]; exact vp_in_nI (by omega) (by omega)
    by_cases z : sub (nI i + nI k).toNatClampNeg = sub (nI j + nI k).toNatClampNeg
    · obtain ⟨r, hX, hY⟩ := ih (k + 1) (by omega)
      exact ⟨r, fun post hp => br_f h ⟨v1, v2, br_t z (nm_r (nI_1 _) (hX post hp))⟩, fun post hp => br_f h ⟨v1, v2, br_t z (nm_r (nI_1 _) (hY post hp))⟩⟩
    · exact ⟨0, fun post hp => br_f h ⟨v1, v2, br_f z hp⟩, fun post hp => br_f h ⟨v1, v2, br_f z hp⟩⟩
theorem dg_lp {n : Nat} (hn : n ≤ 31) : ∀ (c i : Nat) (x : Int32), i + c = n → ∃ r : Int32,
    (∀ post : Int32 → Prop, post r → wX_digest_4 post fp ft fr (nI n) fn stk st L LS R RS sub gS gE nx (c + 1) x (nI i)) ∧
    (∀ post : Int32 → Prop, post r → wY_digest_4 post yd yr (nI n) stk bg L LS R RS sub nx bd (c + 1) x (nI i)) := by
  intro c
  induction c with
  | zero =>
    intro i x hi
    have h : nI n ≤ nI i := nI_le (by omega) (by omega)
    exact ⟨x, fun _ hp => br_t h hp, fun _ hp => br_t h hp⟩
  | succ c ih =>
    intro i x hi
    have h : ¬ nI n ≤ nI i := nI_ge (by omega) (by omega)
    have v1 : vp_in (nI i) 31 := vp_in_nI (by omega) (by omega)
    obtain ⟨r, hX, hY⟩ := ih (i + 1) (x + (nI i + 1) * (sub (nI i).toNatClampNeg + 1)) (by omega)
    exact ⟨r, fun post hp => br_f h ⟨v1, nm_e (nm_r (nI_1 _) (hX post hp))⟩, fun post hp => br_f h ⟨v1, nm_e (nm_r (nI_1 _) (hY post hp))⟩⟩
theorem rd_lp {n m : Nat} (hn : n ≤ 31) (hm : m ≤ 6) (hL : ∀ j, sy_ok (L j)) (hR : ∀ r, r < m → ∃ l, l ≤ 7 ∧ LS r = nI l) : ∀ (c i : Nat) (x : Int32) (gS gE bd : Nat → Int32), i + c = n → ∃ (r : Int32) (gS' gE' bd' : Nat → Int32),
    (∀ post : Int32 → SX → Prop, post r (fp, ft, nI m, nI n, fn, stk, st, L, LS, R, RS, sub, gS', gE', nx) → wX_redexes_4 post (c + 1) x (nI i) fp ft (nI m) (nI n) fn stk st L LS R RS sub gS gE nx) ∧
    (∀ post : Int32 → SY → Prop, post r (yd, nI m, nI n, stk, bg, L, LS, R, RS, sub, nx, bd') → wY_redexes_4 post (c + 1) x (nI i) yd (nI m) (nI n) stk bg L LS R RS sub nx bd) := by
  intro c
  induction c with
  | zero =>
    intro i x gS gE bd hi
    have h : nI n ≤ nI i := nI_le (by omega) (by omega)
    exact ⟨x, gS, gE, bd, fun _ hp => br_t h hp, fun _ hp => br_t h hp⟩
  | succ c ih =>
    intro i x gS gE bd hi
    have h : ¬ nI n ≤ nI i := nI_ge (by omega) (by omega)
    obtain ⟨b, g1, g2, hA, _, hP⟩ := fi_x (fp := fp) (ft := ft) (fn := fn) (stk := stk) (st := st) (R := R) (RS := RS) (nx := nx) (sub := sub) gS gE hn hm (show i < n by omega) hL hR
    obtain ⟨b1, d1, hA1, _, hP1⟩ := fi_y (yd := yd) (stk := stk) (bg := bg) (R := R) (RS := RS) (nx := nx) (sub := sub) bd hn hm (show i < n by omega) hL hR
    obtain rfl := fa_u hA hA1
    by_cases z : b1 = -4
    · obtain ⟨r, gS', gE', bd', hX, hY⟩ := ih (i + 1) x g1 g2 d1 (by omega)
      exact ⟨r, gS', gE', bd', fun post hp => br_f h (hP _ (br_t z (nm_r (nI_1 _) (hX post hp)))), fun post hp => br_f h (hP1 _ (br_t z (nm_r (nI_1 _) (hY post hp))))⟩
    · obtain ⟨r, gS', gE', bd', hX, hY⟩ := ih (i + 1) (x + 1) g1 g2 d1 (by omega)
      exact ⟨r, gS', gE', bd', fun post hp => br_f h (hP _ (br_f z (nm_e (nm_r (nI_1 _) (hX post hp))))), fun post hp => br_f h (hP1 _ (br_f z (nm_e (nm_r (nI_1 _) (hY post hp)))))⟩
theorem sp_all {n m : Nat} (gS gE bd : Nat → Int32) (hn : n ≤ 31) (hm : m ≤ 6) (hL : ∀ j, sy_ok (L j)) (hRs : ∀ j, sy_ok (R j)) (hRI : ∀ r, r < m → ri_ L LS R RS r) :
    ∃ (b : Int32) (n' : Nat) (c' : Int32) (sub' nx' gS' gE' bd' : Nat → Int32), n' ≤ 31 ∧
      (∀ post : Int32 → SX → Prop, post b (fp, ft, nI m, nI n', c', stk, st, L, LS, R, RS, sub', gS', gE', nx') → wpX_step post (fp, ft, nI m, nI n, fn, stk, st, L, LS, R, RS, sub, gS, gE, nx)) ∧
      (∀ post : Int32 → SY → Prop, post b (yd, nI m, nI n', stk, bg, L, LS, R, RS, sub', nx', bd') → wpY_step post (yd, nI m, nI n, stk, bg, L, LS, R, RS, sub, nx, bd)) := by
  by_cases h : ∃ i, i < n ∧ ht_ sub n L LS m i
  · obtain ⟨i, ⟨hi, hit⟩, hl⟩ := pk_least _ h
    exact sp_hit gS gE bd hn hm hi hL hRs hRI hit (fun j hj z => hl j hj ⟨by omega, z⟩)
  · have hR : ∀ r, r < m → ∃ l, l ≤ 7 ∧ LS r = nI l := fun r hr => by
      obtain ⟨l, q, h1, _, h2, _⟩ := hRI r hr
      exact ⟨l, h1, h2⟩
    obtain ⟨gS', gE', bd', hX, hY⟩ := sp_no (fp := fp) (ft := ft) (fn := fn) (stk := stk) (st := st) (R := R) (RS := RS) (nx := nx) (sub := sub) (yd := yd) (bg := bg) gS gE bd hn hm hL hR (fun j hj z => h ⟨j, hj, z⟩)
    exact ⟨-4, n, fn, sub, nx, gS', gE', bd', hn, hX, hY⟩
theorem rn_lp {m : Nat} {x : Int32} (hm : m ≤ 6) (hL : ∀ j, sy_ok (L j)) (hRs : ∀ j, sy_ok (R j)) (hRI : ∀ r, r < m → ri_ L LS R RS r) : ∀ (c j n : Nat) (fn : Int32) (sub nx gS gE bd : Nat → Int32), j + c = 40 → n ≤ 31 →
    ∃ (b : Int32) (n' : Nat) (c' : Int32) (sub' nx' gS' gE' bd' : Nat → Int32), n' ≤ 31 ∧
      (∀ post : Int32 → SX → Prop, post b (fp, ft, nI m, nI n', c', stk, st, L, LS, R, RS, sub', gS', gE', nx') → wX_run_2 post x (c + 1) (nI j) fp ft (nI m) (nI n) fn stk st L LS R RS sub gS gE nx) ∧
      (∀ post : Int32 → SY → Prop, post b (yd, nI m, nI n', stk, bg, L, LS, R, RS, sub', nx', bd') → wY_run_7 post x (c + 2) (nI j) 1 (nI j) yd (nI m) (nI n) stk bg L LS R RS sub nx bd) := by
  intro c
  induction c with
  | zero =>
    intro j n fn sub nx gS gE bd hj hn
    have h : (40 : Int32) ≤ nI j := nI_le (a := 40) (by omega) (by omega)
    exact ⟨nI j, n, fn, sub, nx, gS, gE, bd, hn, fun post hp => br_c (fun _ => hp) (fun _ => br_t h hp), fun post hp => br_t h hp⟩
  | succ c ih =>
    intro j n fn sub nx gS gE bd hj hn
    have h : ¬ (40 : Int32) ≤ nI j := nI_ge (b := 40) (by omega) (by omega)
    by_cases hx : x ≤ nI j
    · exact ⟨nI j, n, fn, sub, nx, gS, gE, bd, hn, fun post hp => br_t hx hp, fun post hp => br_f h (br_t hx hp)⟩
    · obtain ⟨b, n1, c1, s1, x1, g1, g2, d1, hn1, hX, hY⟩ := sp_all (fp := fp) (ft := ft) (fn := fn) (stk := stk) (st := st) (R := R) (RS := RS) (nx := nx) (sub := sub) (yd := yd) (bg := bg) gS gE bd hn hm hL hRs hRI
      by_cases hb : b < 0
      · refine ⟨nI j, n1, c1, s1, x1, g1, g2, d1, hn1, fun post hp => br_f hx (br_f h (hX _ (br_f (Int32.not_le.mpr hb) hp))), fun post hp => br_f h (br_f hx (br_f (by decide) (hY _ (br_t hb ?_))))⟩
        refine br_t rfl (nm_e ?_)
        exact br_c (fun _ => hp) (fun _ => br_c (fun _ => hp) (fun _ => br_t rfl hp))
      · obtain ⟨b', n2, c2, s2, x2, g3, g4, d2, hn2, hX2, hY2⟩ := ih (j + 1) n1 c1 s1 x1 g1 g2 d1 (by omega) hn1
        refine ⟨b', n2, c2, s2, x2, g3, g4, d2, hn2, fun post hp => br_f hx (br_f h (hX _ (br_t (Int32.not_lt.mp hb) (nm_r (nI_1 _) (hX2 post hp))))), fun post hp => br_f h (br_f hx (br_f (by decide) (hY _ (br_f hb ?_))))⟩
        exact br_f (by decide) (nm_r (nI_1 _) (nm_r (nI_1 _) (hY2 post hp)))
end
end
section
/-- what is kept between calls -/
def rl_ (p d m n : Nat) (b : Nat → Nat) (stk st bg L LS R RS : Nat → Int32) : Prop :=
  (d ≤ 6 ∧ m ≤ 6 ∧ n ≤ 31 ∧ p ≤ 31) ∧ (b 0 = 0 ∧ b d = p ∧ ∀ t, t < d → b t < b (t + 1)) ∧ ((∀ t, t ≤ d → bg t = nI (b t)) ∧ ∀ t, t < d → st t = nI (b t)) ∧
  ((∀ i, sy_ok (stk i)) ∧ (∀ i, sy_ok (L i)) ∧ ∀ i, sy_ok (R i)) ∧ ∀ r, r < m → ri_ L LS R RS r
theorem rl_mono {b : Nat → Nat} {d : Nat} (h : ∀ t, t < d → b t < b (t + 1)) {t : Nat} (ht : t ≤ d) : b t ≤ b d := by
  obtain ⟨c, rfl⟩ : ∃ c, d = t + c := ⟨d - t, by omega⟩
  clear ht
  induction c with
  | zero => exact Nat.le_refl _
  | succ c ih =>
    have h1 := ih (fun s hs => h s (by omega))
    have h2 := h (t + c) (by omega)
    show b t ≤ b (t + c + 1)
    omega
theorem rl_R {L LS R RS : Nat → Int32} {m : Nat} (h : ∀ r, r < m → ri_ L LS R RS r) : ∀ r, r < m → ∃ l, l ≤ 7 ∧ LS r = nI l := fun r hr => by
  obtain ⟨l, q, h1, _, h2, _⟩ := h r hr
  exact ⟨l, h1, h2⟩
def i_Rel (_ : Nat) (u : SX) (v : SY) : Prop :=
  ∃ (p d m n : Nat) (b : Nat → Nat) (c : Int32) (stk st bg L LS R RS sub gS gE nx bd : Nat → Int32),
    u = (nI p, nI d, nI m, nI n, c, stk, st, L, LS, R, RS, sub, gS, gE, nx) ∧ v = (nI d, nI m, nI n, stk, bg, L, LS, R, RS, sub, nx, bd) ∧ rl_ p d m n b stk st bg L LS R RS
theorem rl_mk {k p d m n : Nat} {b : Nat → Nat} {c : Int32} {stk st bg L LS R RS sub gS gE nx bd : Nat → Int32} (h : rl_ p d m n b stk st bg L LS R RS) :
    i_Rel k (nI p, nI d, nI m, nI n, c, stk, st, L, LS, R, RS, sub, gS, gE, nx) (nI d, nI m, nI n, stk, bg, L, LS, R, RS, sub, nx, bd) :=
  ⟨p, d, m, n, b, c, stk, st, bg, L, LS, R, RS, sub, gS, gE, nx, bd, rfl, rfl, h⟩
theorem i_up {k : Nat} {u : SX} {v : SY} (h : i_Rel k u v) : i_Rel (k + 3) u v := h
theorem i_vc0 : wpX_init (fun u => wpY_init (fun v => i_Rel 0 u v)) := by
  have e : upd (fun _ => 0) 0 0 = fun _ => (0 : Int32) := by
    funext j
    unfold upd
    split <;> rfl
  refine nm_r e ?_
  refine rl_mk (k := 0) (p := 0) (d := 0) (m := 0) (n := 1) (b := fun _ => 0) ⟨⟨by omega, by omega, by omega, by omega⟩, ⟨rfl, rfl, fun t h => absurd h (by omega)⟩, ⟨fun t _ => rfl, fun t _ => rfl⟩, ⟨fun _ => sy_0, fun _ => sy_0, fun _ => sy_0⟩, fun r h => absurd h (by omega)⟩
theorem rl_build {p d m n q : Nat} {x : Int32} {b : Nat → Nat} {stk st bg L LS R RS : Nat → Int32} (h : rl_ p d m n b stk st bg L LS R RS) (hx : sy_ok x) (hp : p < 31) (hq : q ≤ d) (hd : d - q < 6) :
    rl_ (p + 1) (d - q + 1) m n (fun t => if t ≤ d - q then b t else p + 1) (upd (sh_ (b (d - q)) (p - b (d - q)) stk) (b (d - q)) x) (upd st (d - q) (nI (b (d - q)))) (upd bg (d - q + 1) (nI (p + 1))) L LS R RS := by
  obtain ⟨⟨h1, h2, h3, h4⟩, ⟨h5, h6, h7⟩, ⟨h8, h9⟩, ⟨h10, h11, h12⟩, h13⟩ := h
  have hm := rl_mono h7 (t := d - q) (by omega)
  refine ⟨⟨by omega, h2, h3, by omega⟩, ⟨?_, ?_, ?_⟩, ⟨?_, ?_⟩, ⟨sy_upd (sh_ok _ _ _ h10) _ hx, h11, h12⟩, h13⟩
  · dsimp only; rw [if_pos (by omega)]; exact h5
  · dsimp only; rw [if_neg (by omega)]
  · intro t ht
    dsimp only
    by_cases e : t = d - q
    · rw [if_pos (by omega), if_neg (by omega)]; rw [e]; omega
    · rw [if_pos (by omega), if_pos (by omega)]; exact h7 t (by omega)
  · intro t ht
    dsimp only
    by_cases e : t = d - q + 1
    · rw [if_neg (by omega), e, pk_us]
    · rw [if_pos (by omega), pk_un e]; exact h8 t (by omega)
  · intro t ht
    dsimp only
    rw [if_pos (by omega)]
    by_cases e : t = d - q
    · rw [e, pk_us]
    · rw [pk_un e]; exact h9 t (by omega)
theorem i_vc_build {k : Nat} {u : SX} {v : SY} (I : i_Rel k u v) (hk : k + 3 ≤ 1536) (v1 : Int32) : wpX_build (fun r u' => wpY_build (fun r' v' => r' = r ∧ i_Rel (k + 3) u' v') v v1) u v1 := by
  obtain ⟨p, d, m, n, b, c, stk, st, bg, L, LS, R, RS, sub, gS, gE, nx, bd, rfl, rfl, H⟩ := I
  have H' := H
  obtain ⟨⟨h1, h2, h3, h4⟩, ⟨h5, h6, h7⟩, ⟨h8, h9⟩, ⟨h10, h11, h12⟩, h13⟩ := H'
  by_cases h0 : v1 < 0
  · exact br_t h0 (br_t h0 ⟨rfl, rl_mk H⟩)
  · by_cases h99 : v1 ≤ 9
    · obtain ⟨j, hj, ej⟩ := nI_of2 (x := v1) (M := 9) (n := 9) (by decide) h0 h99
      have hsy : sy_ok v1 := ⟨j, hj, ej⟩
      have hpa := pa_le v1
      have hbd : bg (nI d).toNatClampNeg = nI p := by rw [nI_clamp (by omega), h8 d (Nat.le_refl _), h6]
      have Y : ∀ P : Int32 → SY → Prop, (((nI p = 31 → P (-2) (nI d, nI m, nI n, stk, bg, L, LS, R, RS, sub, nx, bd)) ∧ (¬ nI p = 31 → (((nI (pa_ v1) = 0 → (((nI d = 6 → P (-2) (nI d, nI m, nI n, stk, bg, L, LS, R, RS, sub, nx, bd)) ∧ (¬ nI d = 6 → (wY_build_50 P v1 (nI p) (nI (pa_ v1)) (nI d) (nI m) (nI n) stk bg L LS R RS sub nx bd))))) ∧ (¬ nI (pa_ v1) = 0 → (wY_build_50 P v1 (nI p) (nI (pa_ v1)) (nI d) (nI m) (nI n) stk bg L LS R RS sub nx bd))))))) → wpY_build P (nI d, nI m, nI n, stk, bg, L, LS, R, RS, sub, nx, bd) v1 :=
        fun P h => br_f h0 (br_t h99 ⟨vp_in_nI (by omega) (by omega), nm_r hbd (yp_parts h)⟩)
      refine br_f h0 (br_t h99 (xp_parts ?_))
      refine pk_le 31 p (fun z => Y _ (br_t ?_ ⟨rfl, rl_mk H⟩)) (fun z => ?_)
      · rw [show p = 31 from by omega]; rfl
      · have hp31 : ¬ nI p = 31 := fun z' => by
          have z'' : nI p = nI 31 := z'
          rw [nI_eq (by omega) (by omega)] at z''; omega
        have hmo := rl_mono h7 (t := d - pa_ v1) (by omega)
        have go : (pa_ v1 = 0 → d < 6) → wX_build_42 (fun r u' => wpY_build (fun r' v' => r' = r ∧ i_Rel (k + 3) u' v') (nI d, nI m, nI n, stk, bg, L, LS, R, RS, sub, nx, bd) v1) v1 (nI (pa_ v1)) (nI p) (nI d) (nI m) (nI n) c stk st L LS R RS sub gS gE nx := by
          intro hd
          have yy : ∀ P : Int32 → SY → Prop, wY_build_50 P v1 (nI p) (nI (pa_ v1)) (nI d) (nI m) (nI n) stk bg L LS R RS sub nx bd → wpY_build P (nI d, nI m, nI n, stk, bg, L, LS, R, RS, sub, nx, bd) v1 := by
            intro P hP
            refine Y P (br_f hp31 (pk_eq (pa_ v1) 0 (fun z0 => pk_eq d 6 (fun z6 => absurd (hd z0) (by omega)) (fun _ => hP)) (fun _ => hP)))
          by_cases hq : pa_ v1 ≤ d
          · by_cases hq6 : d - pa_ v1 < 6
            · refine xb_42 (s := b (d - pa_ v1)) z hq h1 hq6 (by omega) (fun e => ?_) (fun e => h9 _ (by omega)) ?_
              · rw [e, Nat.sub_zero]; exact h6
              · refine yy _ (yb_50 (s := b (d - pa_ v1)) z hq h1 hq6 (by omega) (h8 _ (by omega)) ⟨rfl, ?_⟩)
                exact rl_mk (rl_build H hsy z hq hq6)
            · exact absurd (hd (by omega)) (by omega)
          · exact br_f (nI_ge (by omega) (by omega)) (yy _ (br_f (nI_ge (by omega) (by omega)) ⟨rfl, rl_mk H⟩))
        refine pk_eq (pa_ v1) 0 (fun z0 => pk_lt d 6 (fun hd => go (fun _ => hd)) (fun hd => ?_)) (fun z0 => go (fun z' => absurd z' z0))
        refine Y _ (br_f hp31 (pk_eq (pa_ v1) 0 (fun _ => pk_eq d 6 (fun _ => ⟨rfl, rl_mk H⟩) (fun z6 => absurd h1 (by omega))) (fun z' => absurd z0 z')))
    · exact br_f h0 (br_f h99 (br_f h0 (br_f h99 ⟨rfl, rl_mk H⟩)))
theorem i_vc_depth {k : Nat} {u : SX} {v : SY} (I : i_Rel k u v) (hk : k + 3 ≤ 1536) : wpX_depth (fun r => wpY_depth (fun r' => r' = r ∧ i_Rel (k + 3) u v) v) u := by
  have I' := I
  obtain ⟨p, d, m, n, b, c, stk, st, bg, L, LS, R, RS, sub, gS, gE, nx, bd, rfl, rfl, H⟩ := I
  exact ⟨rfl, I'⟩
theorem i_vc_discard {k : Nat} {u : SX} {v : SY} (I : i_Rel k u v) (hk : k + 3 ≤ 1536) : wpX_discard (fun u' => wpY_discard (fun v' => i_Rel (k + 3) u' v') v) u := by
  obtain ⟨p, d, m, n, b, c, stk, st, bg, L, LS, R, RS, sub, gS, gE, nx, bd, rfl, rfl, H⟩ := I
  obtain ⟨⟨h1, h2, h3, h4⟩, ⟨h5, h6, h7⟩, ⟨h8, h9⟩, h10, h13⟩ := H
  refine rl_mk (k := k + 3) (p := 0) (d := 0) (b := b) ⟨⟨by omega, h2, h3, by omega⟩, ⟨h5, h5, fun t h => absurd h (by omega)⟩, ⟨fun t ht => h8 t (by omega), fun t h => absurd h (by omega)⟩, h10, h13⟩
theorem rl_rule {t m n e : Nat} {b : Nat → Nat} {stk st bg L LS R RS : Nat → Int32} (h : rl_ e (t + 2) m n b stk st bg L LS R RS) (hm : m < 6) (hlk : lk_ stk (b t) (b (t + 1))) (hrk : rk_ stk (b t) (b (t + 1)) e) :
    rl_ (b t) t (m + 1) n b stk st bg (cp_ stk (b (t + 1) - b t) (b t) (m * 7) L) (upd LS m (nI (b (t + 1) - b t))) (cp_ stk (e - b (t + 1)) (b (t + 1)) (m * 31) R) (upd RS m (nI (e - b (t + 1)))) := by
  obtain ⟨⟨h1, h2, h3, h4⟩, ⟨h5, h6, h7⟩, ⟨h8, h9⟩, ⟨h10, h11, h12⟩, h13⟩ := h
  have m0 := h7 t (by omega)
  have m1 : b (t + 1) < b (t + 2) := h7 (t + 1) (by omega)
  refine ⟨⟨by omega, by omega, h3, by omega⟩, ⟨h5, rfl, fun s hs => h7 s (by omega)⟩, ⟨fun s hs => h8 s (by omega), fun s hs => h9 s (by omega)⟩, ⟨h10, cp_ok stk h10 _ _ _ _ h11, cp_ok stk h10 _ _ _ _ h12⟩, ?_⟩
  intro r hr
  by_cases er : r = m
  · subst er
    have l7 := hlk.2.1
    refine ⟨b (t + 1) - b t, e - b (t + 1), l7, by omega, pk_us, pk_us, ?_⟩
    intro k hk hv
    have e1 : rr_ (cp_ stk (e - b (t + 1)) (b (t + 1)) (r * 31) R) r k = stk (b (t + 1) + k) := cp_in stk _ _ _ _ _ hk
    rw [e1] at hv ⊢
    obtain ⟨j, hj, _, ej⟩ := sy_v (h10 (b (t + 1) + k)) hv
    have hc : ∀ v, stk (b (t + 1) + k) = nI v → 0 < cn_ stk (nI v) (e - b (t + 1)) (b (t + 1)) := fun v hv => (cn_pos stk (nI v) _ _).mpr ⟨k, hk, hv⟩
    have hl : 0 < cn_ stk (nI (j + 7)) (b (t + 1) - b t) (b t) := by
      have h' := hc _ ej
      obtain ⟨k7, k8, k9⟩ := hrk
      have : j = 0 ∨ j = 1 ∨ j = 2 := by omega
      rcases this with rfl | rfl | rfl
      · exact k7 h'
      · exact k8 h'
      · exact k9 h'
    obtain ⟨k', hk', e2⟩ := (cn_pos stk _ _ _).mp hl
    refine ⟨k', hk', ?_⟩
    have e3 : lr_ (cp_ stk (b (t + 1) - b t) (b t) (r * 7) L) r k' = stk (b t + k') := cp_in stk _ _ _ _ _ hk'
    rw [e3, e2, ej]
  · obtain ⟨l, q, hl, hq, hl', hq', hV⟩ := h13 r (by omega)
    refine ⟨l, q, hl, hq, by rw [pk_un er]; exact hl', by rw [pk_un er]; exact hq', ?_⟩
    intro k hk hv
    have e1 : rr_ (cp_ stk (e - b (t + 1)) (b (t + 1)) (m * 31) R) r k = rr_ R r k := cp_out stk _ _ _ _ _ (Or.inl (by omega))
    rw [e1] at hv ⊢
    obtain ⟨k', hk', e2⟩ := hV k hk hv
    refine ⟨k', hk', ?_⟩
    have e3 : lr_ (cp_ stk (b (t + 1) - b t) (b t) (m * 7) L) r k' = lr_ L r k' := cp_out stk _ _ _ _ _ (Or.inl (by omega))
    rw [e3]; exact e2
theorem i_vc_rule {k : Nat} {u : SX} {v : SY} (I : i_Rel k u v) (hk : k + 3 ≤ 1536) : wpX_rule (fun r u' => wpY_rule (fun r' v' => r' = r ∧ i_Rel (k + 3) u' v') v) u := by
  obtain ⟨p, d, m, n, b, c, stk, st, bg, L, LS, R, RS, sub, gS, gE, nx, bd, rfl, rfl, H⟩ := I
  have H' := H
  obtain ⟨⟨h1, h2, h3, h4⟩, ⟨h5, h6, h7⟩, ⟨h8, h9⟩, ⟨h10, h11, h12⟩, h13⟩ := H'
  by_cases hm : m < 6
  · have hne : ¬ nI m = 6 := fun z => by
      have z' : nI m = nI 6 := z
      rw [nI_eq (by omega) (by omega)] at z'; omega
    by_cases hd : 2 ≤ d
    · obtain ⟨t, rfl⟩ : ∃ t, d = t + 2 := ⟨d - 2, by omega⟩
      have m0 := h7 t (by omega)
      have m1 : b (t + 1) < b (t + 2) := h7 (t + 1) (by omega)
      have b2 : bg (t + 2) = nI p := by rw [h8 _ (by omega), h6]
      refine xr_ru hm h1 (h9 t (by omega)) (h9 (t + 1) (by omega)) m0 (by omega) h4 h10 (fun z => ?_) (fun z => ?_)
      · exact yr_ru hm h1 (h8 t (by omega)) (h8 (t + 1) (by omega)) b2 m0 (by omega) h4 (fun _ => ⟨rfl, rl_mk (rl_rule H hm z.1 z.2)⟩) (fun z' => absurd z z')
      · exact yr_ru hm h1 (h8 t (by omega)) (h8 (t + 1) (by omega)) b2 m0 (by omega) h4 (fun z' => absurd z' z) (fun _ => ⟨rfl, rl_mk H⟩)
    · refine br_t (nI_lt (b := 6) hm (by omega)) (br_f (nI_ge (b := 2) (by omega) (by omega)) ?_)
      unfold wpY_rule
      exact br_f hne (yf_no (by omega) (br_t rfl ⟨rfl, rl_mk H⟩))
  · have hm6 : m = 6 := by omega
    subst hm6
    exact br_f (nI_nlt (b := 6) (by omega) (by omega)) (br_t rfl ⟨rfl, rl_mk H⟩)
theorem i_vc_unrule {k : Nat} {u : SX} {v : SY} (I : i_Rel k u v) (hk : k + 3 ≤ 1536) : wpX_unrule (fun r u' => wpY_unrule (fun r' v' => r' = r ∧ i_Rel (k + 3) u' v') v) u := by
  obtain ⟨p, d, m, n, b, c, stk, st, bg, L, LS, R, RS, sub, gS, gE, nx, bd, rfl, rfl, H⟩ := I
  have H' := H
  obtain ⟨⟨h1, h2, h3, h4⟩, h5, h8, h10, h13⟩ := H'
  refine pk_le 1 m (fun z => ?_) (fun z => ?_)
  · have e : nI m - 1 = nI (m - 1) := pk_sub (a := m) (b := 1) z
    refine nm_r e (br_f (nI_ne0 (by omega) (by omega)) (nm_r e ⟨rfl, rl_mk ⟨⟨h1, by omega, h3, h4⟩, h5, h8, h10, fun r hr => h13 r (by omega)⟩⟩))
  · obtain rfl : m = 0 := by omega
    exact br_t rfl ⟨rfl, rl_mk H⟩
theorem i_vc_rules {k : Nat} {u : SX} {v : SY} (I : i_Rel k u v) (hk : k + 3 ≤ 1536) : wpX_rules (fun r => wpY_rules (fun r' => r' = r ∧ i_Rel (k + 3) u v) v) u := by
  have I' := I
  obtain ⟨p, d, m, n, b, c, stk, st, bg, L, LS, R, RS, sub, gS, gE, nx, bd, rfl, rfl, H⟩ := I
  exact ⟨rfl, I'⟩
theorem i_vc_subject {k : Nat} {u : SX} {v : SY} (I : i_Rel k u v) (hk : k + 3 ≤ 1536) : wpX_subject (fun r u' => wpY_subject (fun r' v' => r' = r ∧ i_Rel (k + 3) u' v') v) u := by
  obtain ⟨p, d, m, n, b, c, stk, st, bg, L, LS, R, RS, sub, gS, gE, nx, bd, rfl, rfl, H⟩ := I
  have H' := H
  obtain ⟨⟨h1, h2, h3, h4⟩, ⟨h5, h6, h7⟩, ⟨h8, h9⟩, ⟨h10, h11, h12⟩, h13⟩ := H'
  by_cases hd : 1 ≤ d
  · obtain ⟨t, rfl⟩ : ∃ t, d = t + 1 := ⟨d - 1, by omega⟩
    have m0 := h7 t (by omega)
    have b1 : bg (t + 1) = nI p := by rw [h8 _ (by omega), h6]
    refine xj_su h1 (h9 t (by omega)) (by omega) h4 h10 (fun z => ?_) (fun z => ?_)
    · refine yj_su h1 (h8 t (by omega)) b1 (by omega) h4 (fun _ => ⟨rfl, rl_mk (b := b) ?_⟩) (fun z' => absurd z z')
      exact ⟨⟨by omega, h2, by omega, by omega⟩, ⟨h5, rfl, fun s hs => h7 s (by omega)⟩, ⟨fun s hs => h8 s (by omega), fun s hs => h9 s (by omega)⟩, ⟨h10, h11, h12⟩, h13⟩
    · exact yj_su h1 (h8 t (by omega)) b1 (by omega) h4 (fun z' => absurd z' z) (fun _ => ⟨rfl, rl_mk H⟩)
  · obtain rfl : d = 0 := by omega
    exact br_f (nI_ge (b := 1) (by omega) (by omega)) (br_t rfl ⟨rfl, rl_mk H⟩)
theorem i_vc_size {k : Nat} {u : SX} {v : SY} (I : i_Rel k u v) (hk : k + 3 ≤ 1536) : wpX_size (fun r => wpY_size (fun r' => r' = r ∧ i_Rel (k + 3) u v) v) u := by
  have I' := I
  obtain ⟨p, d, m, n, b, c, stk, st, bg, L, LS, R, RS, sub, gS, gE, nx, bd, rfl, rfl, H⟩ := I
  exact ⟨rfl, I'⟩
theorem i_vc_symbol {k : Nat} {u : SX} {v : SY} (I : i_Rel k u v) (hk : k + 3 ≤ 1536) (v1 : Int32) : wpX_symbol (fun r => wpY_symbol (fun r' => r' = r ∧ i_Rel (k + 3) u v) v v1) u v1 := by
  have I' := I
  obtain ⟨p, d, m, n, b, c, stk, st, bg, L, LS, R, RS, sub, gS, gE, nx, bd, rfl, rfl, H⟩ := I
  have hn := H.1.2.2.1
  unfold wpX_symbol
  rcases ix_c v1 hn with h | ⟨h0, h⟩ | ⟨j, hj, rfl⟩
  · exact br_t h (br_t rfl (br_t h ⟨rfl, I'⟩))
  · exact br_f h0 (br_t h (br_t rfl (br_f h0 (br_t h ⟨rfl, I'⟩))))
  · have v1 : vp_in (nI j) 31 := vp_in_nI (by omega) (by omega)
    exact xi_c hn (by omega) (fun z => absurd z (by omega)) (fun _ => ⟨v1, br_f (nI_pos (by omega)) (br_f (nI_ge hj (by omega)) ⟨v1, rfl, I'⟩)⟩)
theorem i_vc_fits {k : Nat} {u : SX} {v : SY} (I : i_Rel k u v) (hk : k + 3 ≤ 1536) (v1 : Int32) : wpX_fits (fun r u' => wpY_fits (fun r' v' => r' = r ∧ i_Rel (k + 3) u' v') v v1) u v1 := by
  obtain ⟨p, d, m, n, b, c, stk, st, bg, L, LS, R, RS, sub, gS, gE, nx, bd, rfl, rfl, H⟩ := I
  have H' := H
  obtain ⟨⟨h1, h2, h3, h4⟩, _, _, ⟨h10, h11, h12⟩, h13⟩ := H'
  rcases ix_c v1 h3 with h | h | ⟨j, hj, rfl⟩
  · exact fo_x (Or.inl h) (fo_y (Or.inl h) ⟨rfl, rl_mk H⟩)
  · exact fo_x (Or.inr h) (fo_y (Or.inr h) ⟨rfl, rl_mk H⟩)
  · obtain ⟨x, g1, g2, hA, _, hP⟩ := fi_x (fp := nI p) (ft := nI d) (fn := c) (stk := stk) (st := st) (R := R) (RS := RS) (nx := nx) (sub := sub) gS gE h3 h2 hj h11 (rl_R h13)
    obtain ⟨y, d1, hA1, _, hP1⟩ := fi_y (yd := nI d) (stk := stk) (bg := bg) (R := R) (RS := RS) (nx := nx) (sub := sub) bd h3 h2 hj h11 (rl_R h13)
    exact hP _ (hP1 _ ⟨fa_u hA hA1, rl_mk H⟩)
theorem i_vc_redexes {k : Nat} {u : SX} {v : SY} (I : i_Rel k u v) (hk : k + 3 ≤ 1536) : wpX_redexes (fun r u' => wpY_redexes (fun r' v' => r' = r ∧ i_Rel (k + 3) u' v') v) u := by
  obtain ⟨p, d, m, n, b, c, stk, st, bg, L, LS, R, RS, sub, gS, gE, nx, bd, rfl, rfl, H⟩ := I
  have H' := H
  obtain ⟨⟨h1, h2, h3, h4⟩, _, _, ⟨h10, h11, h12⟩, h13⟩ := H'
  obtain ⟨r, g1, g2, d1, hX, hY⟩ := rd_lp (fp := nI p) (ft := nI d) (fn := c) (stk := stk) (st := st) (R := R) (RS := RS) (nx := nx) (sub := sub) (yd := nI d) (bg := bg) h3 h2 h11 (rl_R h13) n 0 0 gS gE bd (by omega)
  exact ⟨n + 1, hX _ ⟨n + 1, hY _ ⟨rfl, rl_mk H⟩⟩⟩
theorem i_vc_step {k : Nat} {u : SX} {v : SY} (I : i_Rel k u v) (hk : k + 3 ≤ 1536) : wpX_step (fun r u' => wpY_step (fun r' v' => r' = r ∧ i_Rel (k + 3) u' v') v) u := by
  obtain ⟨p, d, m, n, b, c, stk, st, bg, L, LS, R, RS, sub, gS, gE, nx, bd, rfl, rfl, H⟩ := I
  obtain ⟨⟨h1, h2, h3, h4⟩, h5, h8, ⟨h10, h11, h12⟩, h13⟩ := H
  obtain ⟨x, n1, c1, s1, x1, g1, g2, d1, hn1, hX, hY⟩ := sp_all (fp := nI p) (ft := nI d) (fn := c) (stk := stk) (st := st) (nx := nx) (sub := sub) (yd := nI d) (bg := bg) gS gE bd h3 h2 h11 h12 h13
  exact hX _ (hY _ ⟨rfl, rl_mk ⟨⟨h1, h2, hn1, h4⟩, h5, h8, ⟨h10, h11, h12⟩, h13⟩⟩)
theorem i_vc_run {k : Nat} {u : SX} {v : SY} (I : i_Rel k u v) (hk : k + 3 ≤ 1536) (v1 : Int32) : wpX_run (fun r u' => wpY_run (fun r' v' => r' = r ∧ i_Rel (k + 3) u' v') v v1) u v1 := by
  obtain ⟨p, d, m, n, b, c, stk, st, bg, L, LS, R, RS, sub, gS, gE, nx, bd, rfl, rfl, H⟩ := I
  obtain ⟨⟨h1, h2, h3, h4⟩, h5, h8, ⟨h10, h11, h12⟩, h13⟩ := H
  obtain ⟨x, n1, c1, s1, x1, g1, g2, d1, hn1, hX, hY⟩ := rn_lp (fp := nI p) (ft := nI d) (stk := stk) (st := st) (yd := nI d) (bg := bg) (x := v1) h2 h11 h12 h13 40 0 n c sub nx gS gE bd (by omega) h3
  exact ⟨41, hX _ ⟨42, hY _ ⟨rfl, rl_mk ⟨⟨h1, h2, hn1, h4⟩, h5, h8, ⟨h10, h11, h12⟩, h13⟩⟩⟩⟩
theorem i_vc_sizeAt {k : Nat} {u : SX} {v : SY} (I : i_Rel k u v) (hk : k + 3 ≤ 1536) (v1 : Int32) : wpX_sizeAt (fun r => wpY_sizeAt (fun r' => r' = r ∧ i_Rel (k + 3) u v) v v1) u v1 := by
  have I' := I
  obtain ⟨p, d, m, n, b, c, stk, st, bg, L, LS, R, RS, sub, gS, gE, nx, bd, rfl, rfl, H⟩ := I
  have hn := H.1.2.2.1
  rcases ix_c v1 hn with h | h | ⟨j, hj, rfl⟩
  · exact xz_out (Or.inl h) (br_t h ⟨rfl, I'⟩)
  · exact xz_out (Or.inr h) (br_f h.1 (br_t h.2 ⟨rfl, I'⟩))
  · refine xz_in hn hj ?_
    unfold wpY_sizeAt
    refine br_f (nI_pos (by omega)) (br_f (nI_ge hj (by omega)) (ye_end hn (by omega) ⟨pk_sub en_ge, I'⟩))
theorem i_vc_same {k : Nat} {u : SX} {v : SY} (I : i_Rel k u v) (hk : k + 3 ≤ 1536) (v1 : Int32) (v2 : Int32) : wpX_same (fun r => wpY_same (fun r' => r' = r ∧ i_Rel (k + 3) u v) v v1 v2) u v1 v2 := by
  have I' := I
  obtain ⟨p, d, m, n, b, c, stk, st, bg, L, LS, R, RS, sub, gS, gE, nx, bd, rfl, rfl, H⟩ := I
  have hn := H.1.2.2.1
  unfold wpX_same
  rcases ix_c v1 hn with h | h | ⟨i, hi, rfl⟩
  · exact xz_out (Or.inl h) (br_t rfl (br_t h ⟨rfl, I'⟩))
  · exact xz_out (Or.inr h) (br_t rfl (br_f h.1 (br_t h.2 ⟨rfl, I'⟩)))
  · have ei := en_le (a := sub) (n := n) (i := i) (by omega)
    have gi := en_gt (a := sub) (n := n) (i := i) hi
    have n4 : ¬ nI (en_ sub n i - i) = -4 := ar_n10 (by omega)
    refine xz_in hn hi (br_f n4 ?_)
    rcases ix_c v2 hn with h | h | ⟨j, hj, rfl⟩
    · exact xz_out (Or.inl h) (br_f n4 (br_f (nI_pos (by omega)) (br_f (nI_ge hi (by omega)) (br_t h ⟨rfl, I'⟩))))
    · exact xz_out (Or.inr h) (br_f n4 (br_f (nI_pos (by omega)) (br_f (nI_ge hi (by omega)) (br_f h.1 (br_f (Int32.not_lt.mpr h.2) ⟨rfl, I'⟩)))))
    · have ej := en_le (a := sub) (n := n) (i := j) (by omega)
      have gj := en_gt (a := sub) (n := n) (i := j) hj
      have Y : ∀ P : Int32 → Prop, ((nI (en_ sub n j - j) = nI (en_ sub n i - i) → ∃ n50, wY_same_50 P (nI i) (nI j) (nI (en_ sub n i - i)) (nI d) (nI m) (nI n) stk bg L LS R RS sub nx bd n50 0) ∧ (¬ nI (en_ sub n j - j) = nI (en_ sub n i - i) → P 0)) → wpY_same P (nI d, nI m, nI n, stk, bg, L, LS, R, RS, sub, nx, bd) (nI i) (nI j) := by
        intro P hP
        unfold wpY_same
        refine br_f (nI_pos (by omega)) (br_f (nI_ge hi (by omega)) (br_f (nI_pos (by omega)) (br_t (nI_lt hj (by omega)) ?_)))
        refine ye_end hn (by omega) (nm_r (pk_sub en_ge) ?_)
        refine ye_end hn (by omega) ?_
        rw [pk_sub en_ge]
        exact hP
      refine xz_in hn hj (br_c (fun z => ?_) (fun z => Y _ (br_f (fun z' => z z'.symm) ⟨rfl, I'⟩)))
      have zz : en_ sub n i - i = en_ sub n j - j := by rw [nI_eq (by omega) (by omega)] at z; exact z
      obtain ⟨r, hX, hY⟩ := sm_lp (n := n) (fp := nI p) (ft := nI d) (fr := nI m) (fs := nI n) (fn := c) (stk := stk) (st := st) (L := L) (LS := LS) (R := R) (RS := RS) (sub := sub) (gS := gS) (gE := gE) (nx := nx) (yd := nI d) (yr := nI m) (ys := nI n) (bg := bg) (bd := bd) (i := i) (j := j) (l := en_ sub n i - i) (by omega) (by omega) (en_ sub n i - i) 0 (by omega)
      exact ⟨_, hX _ (Y _ (br_t z.symm ⟨_, hY _ ⟨rfl, I'⟩⟩))⟩
theorem i_vc_digest {k : Nat} {u : SX} {v : SY} (I : i_Rel k u v) (hk : k + 3 ≤ 1536) : wpX_digest (fun r => wpY_digest (fun r' => r' = r ∧ i_Rel (k + 3) u v) v) u := by
  have I' := I
  obtain ⟨p, d, m, n, b, c, stk, st, bg, L, LS, R, RS, sub, gS, gE, nx, bd, rfl, rfl, H⟩ := I
  have hn := H.1.2.2.1
  obtain ⟨r, hX, hY⟩ := dg_lp (fp := nI p) (ft := nI d) (fr := nI m) (fn := c) (stk := stk) (st := st) (L := L) (LS := LS) (R := R) (RS := RS) (sub := sub) (gS := gS) (gE := gE) (nx := nx) (yd := nI d) (yr := nI m) (bg := bg) (bd := bd) hn n 0 0 (by omega)
  exact ⟨n + 1, hX _ ⟨n + 1, hY _ ⟨rfl, I'⟩⟩⟩
end
