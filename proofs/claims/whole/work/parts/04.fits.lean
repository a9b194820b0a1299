section
variable {fp ft fr fs fn yd yr ys : Int32} {stk st L LS R RS sub gS gE nx bg bd : Nat → Int32}
theorem mr_x {n r i l : Nat} (gS gE : Nat → Int32) (hn : n ≤ 31) (hr : r < 6) (hl : LS r = nI l) (hl7 : l ≤ 7) (hL : ∀ j, sy_ok (L j)) (hi : i < n) :
    ∃ (b : Int32) (gS' gE' : Nat → Int32), ((b = 0 ∧ ¬ mt_ sub n L LS r i) ∨ (b = 1 ∧ mt_ sub n L LS r i ∧ iv_ sub n (lr_ L r) i gS' nI (ll_ LS r) ∧ iv_ sub n (lr_ L r) i gE' (fun x => nI (en_ sub n x)) (ll_ LS r))) ∧
      ∀ post : Int32 → SX → Prop, post b (fp, ft, fr, nI n, fn, stk, st, L, LS, R, RS, sub, gS', gE', nx) →
        wpX_ruleFitsAt post (fp, ft, fr, nI n, fn, stk, st, L, LS, R, RS, sub, gS, gE, nx) (nI r) (nI i) := by
  have hll : ll_ LS r = l := by unfold ll_; rw [hl, nI_clamp (by omega)]
  rw [hll]
  obtain ⟨b, gS', gE', hb, hP⟩ := ma_x (fp := fp) (ft := ft) (fr := fr) (fn := fn) (stk := stk) (st := st) (R := R) (RS := RS) (nx := nx) (sub := sub) (i := i) hn hr hl hl7 hL l 0 (l + 1) gS gE (by omega) (by omega) (fun k' h => absurd h (by omega)) (Or.inr ⟨rfl, by omega⟩) iv_0 iv_0
  exact ⟨b, gS', gE', hb, fun post hp => ⟨l + 1, hP post hp⟩⟩
theorem mr_y {n r i l : Nat} (bd : Nat → Int32) (hn : n ≤ 31) (hr : r < 6) (hl : LS r = nI l) (hl7 : l ≤ 7) (hL : ∀ j, sy_ok (L j)) (hi : i < n) :
    ∃ (b : Int32) (bd' : Nat → Int32), ((b = 0 ∧ ¬ mt_ sub n L LS r i) ∨ (b = 1 ∧ mt_ sub n L LS r i ∧ iv_ sub n (lr_ L r) i bd' nI (ll_ LS r))) ∧
      ∀ post : Int32 → SY → Prop, post b (yd, yr, nI n, stk, bg, L, LS, R, RS, sub, nx, bd') →
        wpY_matches post (yd, yr, nI n, stk, bg, L, LS, R, RS, sub, nx, bd) (nI r) (nI i) := by
  have hll : ll_ LS r = l := by unfold ll_; rw [hl, nI_clamp (by omega)]
  rw [hll]
  obtain ⟨b, bd', hb, hP⟩ := ma_y (yd := yd) (yr := yr) (stk := stk) (bg := bg) (R := R) (RS := RS) (nx := nx) (sub := sub) (i := i) hn hr hl hl7 hL l 0 (l + 1) bd (by omega) (by omega) (fun k' h => absurd h (by omega)) (Or.inr ⟨rfl, by omega⟩) iv_0
  exact ⟨b, bd', hb, fun post hp => ⟨l + 1, hP post hp⟩⟩
/-- what fits answers at a place, whatever the given parts are -/
def fa_ (a : Nat → Int32) (n : Nat) (L LS : Nat → Int32) (m i : Nat) (b : Int32) : Prop :=
  (b = -4 ∧ ∀ r, r < m → ¬ mt_ a n L LS r i) ∨ (∃ r, r < m ∧ b = nI r ∧ mt_ a n L LS r i ∧ ∀ q, q < r → ¬ mt_ a n L LS q i)
theorem fa_u {a L LS : Nat → Int32} {n m i : Nat} {b b' : Int32} (h : fa_ a n L LS m i b) (h' : fa_ a n L LS m i b') : b' = b := by
  rcases h with ⟨e, h⟩ | ⟨r, hr, e, h, hq⟩ <;> rcases h' with ⟨e', h'⟩ | ⟨r', hr', e', h', hq'⟩
  · rw [e, e']
  · exact absurd h' (h r' hr')
  · exact absurd h (h' r hr)
  · have : r' = r := by
      rcases Nat.lt_trichotomy r r' with z | z | z
      · exact absurd h (hq' r z)
      · exact z.symm
      · exact absurd h' (hq r' z)
    rw [e, e', this]
theorem fl_x {n m i : Nat} (hn : n ≤ 31) (hm : m ≤ 6) (hi : i < n) (hL : ∀ j, sy_ok (L j)) (hR : ∀ r, r < m → ∃ l, l ≤ 7 ∧ LS r = nI l) : ∀ (c k f : Nat) (gS gE : Nat → Int32), k + c = m → c < f → (∀ q, q < k → ¬ mt_ sub n L LS q i) →
    ∃ (b : Int32) (gS' gE' : Nat → Int32), fa_ sub n L LS m i b ∧ (∀ r, r < m → b = nI r → iv_ sub n (lr_ L r) i gS' nI (ll_ LS r) ∧ iv_ sub n (lr_ L r) i gE' (fun x => nI (en_ sub n x)) (ll_ LS r)) ∧
      ∀ post : Int32 → SX → Prop, post b (fp, ft, nI m, nI n, fn, stk, st, L, LS, R, RS, sub, gS', gE', nx) →
        wX_fits_13 post (nI i) f (nI k) fp ft (nI m) (nI n) fn stk st L LS R RS sub gS gE nx := by
  intro c
  induction c with
  | zero =>
    intro k f gS gE hk hf hq
    obtain ⟨f, rfl⟩ : ∃ g, f = g + 1 := ⟨f - 1, by omega⟩
    obtain rfl : k = m := by omega
    refine ⟨-4, gS, gE, Or.inl ⟨rfl, hq⟩, fun r hr e => absurd e.symm (ar_n10 (by omega)), fun post hp => br_t (nI_le (by omega) (by omega)) hp⟩
  | succ c ih =>
    intro k f gS gE hk hf hq
    obtain ⟨f, rfl⟩ : ∃ g, f = g + 1 := ⟨f - 1, by omega⟩
    obtain ⟨l, hl7, hl⟩ := hR k (by omega)
    obtain ⟨b, g1, g2, hb, hP⟩ := mr_x (fp := fp) (ft := ft) (fr := nI m) (fn := fn) (stk := stk) (st := st) (R := R) (RS := RS) (nx := nx) (sub := sub) gS gE hn (show k < 6 by omega) hl hl7 hL hi
    rcases hb with ⟨rfl, hM⟩ | ⟨rfl, hM, h1, h2⟩
    · obtain ⟨b', gS', gE', hA, hI, hP'⟩ := ih (k + 1) f g1 g2 (by omega) (by omega) (fun q hq' => by
        by_cases e : q = k
        · subst e; exact hM
        · exact hq q (by omega))
      exact ⟨b', gS', gE', hA, hI, fun post hp => br_f (nI_ge (by omega) (by omega)) (hP _ (br_t rfl (nm_r (nI_1 _) (hP' post hp))))⟩
    · refine ⟨nI k, g1, g2, Or.inr ⟨k, by omega, rfl, hM, hq⟩, fun r hr e => ?_, fun post hp => br_f (nI_ge (by omega) (by omega)) (hP _ (br_f (by decide) hp))⟩
      rw [nI_eq (by omega) (by omega)] at e
      subst e; exact ⟨h1, h2⟩
theorem fi_x {n m i : Nat} (gS gE : Nat → Int32) (hn : n ≤ 31) (hm : m ≤ 6) (hi : i < n) (hL : ∀ j, sy_ok (L j)) (hR : ∀ r, r < m → ∃ l, l ≤ 7 ∧ LS r = nI l) :
    ∃ (b : Int32) (gS' gE' : Nat → Int32), fa_ sub n L LS m i b ∧ (∀ r, r < m → b = nI r → iv_ sub n (lr_ L r) i gS' nI (ll_ LS r) ∧ iv_ sub n (lr_ L r) i gE' (fun x => nI (en_ sub n x)) (ll_ LS r)) ∧
      ∀ post : Int32 → SX → Prop, post b (fp, ft, nI m, nI n, fn, stk, st, L, LS, R, RS, sub, gS', gE', nx) →
        wpX_fits post (fp, ft, nI m, nI n, fn, stk, st, L, LS, R, RS, sub, gS, gE, nx) (nI i) := by
  obtain ⟨b, gS', gE', hA, hI, hP⟩ := fl_x (fp := fp) (ft := ft) (fn := fn) (stk := stk) (st := st) (R := R) (RS := RS) (nx := nx) (sub := sub) hn hm hi hL hR m 0 (m + 1) gS gE (by omega) (by omega) (fun q h => absurd h (by omega))
  refine ⟨b, gS', gE', hA, hI, fun post hp => ?_⟩
  unfold wpX_fits
  exact xi_c hn (by omega) (fun h => absurd h (by omega)) (fun _ => ⟨m + 1, hP post hp⟩)
theorem fl_y {n m i : Nat} (hn : n ≤ 31) (hm : m ≤ 6) (hi : i < n) (hL : ∀ j, sy_ok (L j)) (hR : ∀ r, r < m → ∃ l, l ≤ 7 ∧ LS r = nI l) : ∀ (c k f : Nat) (bd : Nat → Int32), k + c = m → c < f → (∀ q, q < k → ¬ mt_ sub n L LS q i) →
    ∃ (b : Int32) (bd' : Nat → Int32), fa_ sub n L LS m i b ∧ (∀ r, r < m → b = nI r → iv_ sub n (lr_ L r) i bd' nI (ll_ LS r)) ∧
      ∀ post : Int32 → SY → Prop, post b (yd, nI m, nI n, stk, bg, L, LS, R, RS, sub, nx, bd') →
        wY_fits_17 post (nI i) f (nI k) yd (nI m) (nI n) stk bg L LS R RS sub nx bd := by
  intro c
  induction c with
  | zero =>
    intro k f bd hk hf hq
    obtain ⟨f, rfl⟩ : ∃ g, f = g + 1 := ⟨f - 1, by omega⟩
    obtain rfl : k = m := by omega
    refine ⟨-4, bd, Or.inl ⟨rfl, hq⟩, fun r hr e => absurd e.symm (ar_n10 (by omega)), fun post hp => br_t (nI_le (by omega) (by omega)) hp⟩
  | succ c ih =>
    intro k f bd hk hf hq
    obtain ⟨f, rfl⟩ : ∃ g, f = g + 1 := ⟨f - 1, by omega⟩
    obtain ⟨l, hl7, hl⟩ := hR k (by omega)
    obtain ⟨b, g1, hb, hP⟩ := mr_y (yd := yd) (yr := nI m) (stk := stk) (bg := bg) (R := R) (RS := RS) (nx := nx) (sub := sub) bd hn (show k < 6 by omega) hl hl7 hL hi
    rcases hb with ⟨rfl, hM⟩ | ⟨rfl, hM, h1⟩
    · obtain ⟨b', bd', hA, hI, hP'⟩ := ih (k + 1) f g1 (by omega) (by omega) (fun q hq' => by
        by_cases e : q = k
        · subst e; exact hM
        · exact hq q (by omega))
      exact ⟨b', bd', hA, hI, fun post hp => br_f (nI_ge (by omega) (by omega)) (hP _ (br_t rfl (nm_r (nI_1 _) (hP' post hp))))⟩
    · refine ⟨nI k, g1, Or.inr ⟨k, by omega, rfl, hM, hq⟩, fun r hr e => ?_, fun post hp => br_f (nI_ge (by omega) (by omega)) (hP _ (br_f (by decide) hp))⟩
      rw [nI_eq (by omega) (by omega)] at e
      subst e; exact h1
theorem fi_y {n m i : Nat} (bd : Nat → Int32) (hn : n ≤ 31) (hm : m ≤ 6) (hi : i < n) (hL : ∀ j, sy_ok (L j)) (hR : ∀ r, r < m → ∃ l, l ≤ 7 ∧ LS r = nI l) :
    ∃ (b : Int32) (bd' : Nat → Int32), fa_ sub n L LS m i b ∧ (∀ r, r < m → b = nI r → iv_ sub n (lr_ L r) i bd' nI (ll_ LS r)) ∧
      ∀ post : Int32 → SY → Prop, post b (yd, nI m, nI n, stk, bg, L, LS, R, RS, sub, nx, bd') →
        wpY_fits post (yd, nI m, nI n, stk, bg, L, LS, R, RS, sub, nx, bd) (nI i) := by
  obtain ⟨b, bd', hA, hI, hP⟩ := fl_y (yd := yd) (stk := stk) (bg := bg) (R := R) (RS := RS) (nx := nx) (sub := sub) hn hm hi hL hR m 0 (m + 1) bd (by omega) (by omega) (fun q h => absurd h (by omega))
  exact ⟨b, bd', hA, hI, fun post hp => br_f (nI_pos (by omega)) (br_t (nI_lt hi (by omega)) ⟨m + 1, hP post hp⟩)⟩
theorem fo_x {post : Int32 → SX → Prop} {n : Nat} {x : Int32} (h : x < 0 ∨ ¬ x < 0 ∧ nI n ≤ x) (hp : post (-4) (fp, ft, fr, nI n, fn, stk, st, L, LS, R, RS, sub, gS, gE, nx)) :
    wpX_fits post (fp, ft, fr, nI n, fn, stk, st, L, LS, R, RS, sub, gS, gE, nx) x := by
  unfold wpX_fits
  rcases h with h | ⟨h0, h⟩
  · exact br_t h (br_t rfl hp)
  · exact br_f h0 (br_t h (br_t rfl hp))
theorem fo_y {post : Int32 → SY → Prop} {n : Nat} {x : Int32} (h : x < 0 ∨ ¬ x < 0 ∧ nI n ≤ x) (hp : post (-4) (yd, yr, nI n, stk, bg, L, LS, R, RS, sub, nx, bd)) :
    wpY_fits post (yd, yr, nI n, stk, bg, L, LS, R, RS, sub, nx, bd) x := by
  rcases h with h | ⟨h0, h⟩
  · exact br_t h hp
  · exact br_f h0 (br_f (Int32.not_lt.mpr h) hp)
end
