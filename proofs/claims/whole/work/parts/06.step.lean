/-- what is kept of a rule: its sizes, and that the variables of its right side stand in its left -/
def ri_ (L LS R RS : Nat → Int32) (r : Nat) : Prop :=
  ∃ l q, l ≤ 7 ∧ q ≤ 31 ∧ LS r = nI l ∧ RS r = nI q ∧ ∀ k, k < q → ¬ rr_ R r k < 7 → ∃ k', k' < l ∧ lr_ L r k' = rr_ R r k
def ht_ (a : Nat → Int32) (n : Nat) (L LS : Nat → Int32) (m j : Nat) : Prop := ∃ r, r < m ∧ mt_ a n L LS r j
theorem fa_no {a L LS : Nat → Int32} {n m j : Nat} {b : Int32} (h : fa_ a n L LS m j b) (hh : ¬ ht_ a n L LS m j) : b = -4 := by
  rcases h with ⟨e, _⟩ | ⟨r, hr, _, h, _⟩
  · exact e
  · exact absurd ⟨r, hr, h⟩ hh
section
variable {fp ft fr fs fn yd yr ys : Int32} {stk st L LS R RS sub gS gE nx bg bd : Nat → Int32}
theorem xw_rw {post : Int32 → SX → Prop} {n r l i : Nat} {q : Nat → Nat} (hn : n ≤ 31) (hi : i < n) (hr : r < 6) (hl : RS r = nI l) (hl31 : l ≤ 31) (hR : ∀ j, sy_ok (R j))
    (hq : ∀ k, k < l → ¬ rr_ R r k < 7 → q (ix_ (rr_ R r k)) < n ∧ gS (ix_ (rr_ R r k)) = nI (q (ix_ (rr_ R r k))) ∧ gE (ix_ (rr_ R r k)) = nI (en_ sub n (q (ix_ (rr_ R r k)))))
    (h1 : (nw_ sub n i (rr_ R r) q l nx).2 ≤ 31 → post 1 (fp, ft, fr, nI (nw_ sub n i (rr_ R r) q l nx).2, nI (nw_ sub n i (rr_ R r) q l nx).2, stk, st, L, LS, R, RS, cp_ (nw_ sub n i (rr_ R r) q l nx).1 (nw_ sub n i (rr_ R r) q l nx).2 0 0 sub, gS, gE, (nw_ sub n i (rr_ R r) q l nx).1))
    (h2 : 31 < (nw_ sub n i (rr_ R r) q l nx).2 → post 0 (fp, ft, fr, nI n, nI (nw_ sub n i (rr_ R r) q l nx).2, stk, st, L, LS, R, RS, sub, gS, gE, (nw_ sub n i (rr_ R r) q l nx).1)) :
    wpX_rewriteWithGiven post (fp, ft, fr, nI n, fn, stk, st, L, LS, R, RS, sub, gS, gE, nx) (nI r) (nI i) := by
  have hb := nw_2 (a := sub) (nx := nx) hn hl31 hi (fun j hj hv => (hq j hj hv).1)
  have t2 := tk_2 sub i 0 (nx, 0)
  have t3 : ((nx, 0) : (Nat → Int32) × Nat).2 = 0 := rfl
  have r2 := rP_2 sub n (rr_ R r) q hn l 0 (tk_ sub i 0 (nx, 0)) (fun j _ hj hv => (hq j (by omega) hv).1)
  unfold wpX_rewriteWithGiven
  refine xe_end hn (by omega) ?_
  refine xa_tk (s := (nx, 0)) (i := 0) (e := i) (by omega) (by omega) (by omega) ?_
  refine ⟨l + 1, xr_lp hn hr hl hl31 hR hq l 0 (l + 1) (tk_ sub i 0 (nx, 0)) (by omega) (by omega) (by omega) ?_⟩
  refine xa_tk (s := rP_ sub n (rr_ R r) q l 0 (tk_ sub i 0 (nx, 0))) hn (en_le (by omega)) (by omega) ?_
  exact pk_le (nw_ sub n i (rr_ R r) q l nx).2 31 (fun h => ⟨(nw_ sub n i (rr_ R r) q l nx).2 + 1, xc_sub h _ 0 _ sub (by omega) (by omega) (h1 h)⟩) (fun h => h2 h)
theorem yw_mf {post : Int32 → SY → Prop} {n r l i : Nat} {q : Nat → Nat} (hn : n ≤ 31) (hi : i < n) (hr : r < 6) (hl : RS r = nI l) (hl31 : l ≤ 31) (hR : ∀ j, sy_ok (R j))
    (hq : ∀ k, k < l → ¬ rr_ R r k < 7 → q (ix_ (rr_ R r k)) < n ∧ bd (ix_ (rr_ R r k)) = nI (q (ix_ (rr_ R r k))))
    (h : post (nI (nw_ sub n i (rr_ R r) q l nx).2) (yd, yr, nI n, stk, bg, L, LS, R, RS, sub, (nw_ sub n i (rr_ R r) q l nx).1, bd)) :
    wpY_makeFresh post (yd, yr, nI n, stk, bg, L, LS, R, RS, sub, nx, bd) (nI r) (nI i) := by
  have t2 := tk_2 sub i 0 (nx, 0)
  have t3 : ((nx, 0) : (Nat → Int32) × Nat).2 = 0 := rfl
  unfold wpY_makeFresh
  refine ya_tk (s := (nx, 0)) (i := 0) (e := i) (by omega) (by omega) (by omega) ?_
  exact ⟨l + 1, yr_lp hn hi hr hl hl31 hR hq l 0 (l + 1) (tk_ sub i 0 (nx, 0)) (by omega) (by omega) (by omega) (fun s' e => by rw [e]; exact h)⟩
theorem xs_sk {n m e : Nat} (hn : n ≤ 31) (hm : m ≤ 6) (he : e ≤ n) (hL : ∀ j, sy_ok (L j)) (hR : ∀ r, r < m → ∃ l, l ≤ 7 ∧ LS r = nI l) (hh : ∀ j, j < e → ¬ ht_ sub n L LS m j) :
    ∀ (c k f : Nat) (gS gE : Nat → Int32), k + c = e → ∃ gS' gE' : Nat → Int32, ∀ post : Int32 → SX → Prop,
      wX_step_2 post f (nI e) fp ft (nI m) (nI n) fn stk st L LS R RS sub gS' gE' nx → wX_step_2 post (f + c) (nI k) fp ft (nI m) (nI n) fn stk st L LS R RS sub gS gE nx := by
  intro c
  induction c with
  | zero =>
    intro k f gS gE hk
    obtain rfl : k = e := by omega
    exact ⟨gS, gE, fun post h => h⟩
  | succ c ih =>
    intro k f gS gE hk
    obtain ⟨b, g1, g2, hA, _, hP⟩ := fi_x (fp := fp) (ft := ft) (fn := fn) (stk := stk) (st := st) (R := R) (RS := RS) (nx := nx) (sub := sub) gS gE hn hm (show k < n by omega) hL hR
    obtain ⟨g1', g2', hP'⟩ := ih (k + 1) f g1 g2 (by omega)
    exact ⟨g1', g2', fun post h => br_f (nI_ge (by omega) (by omega)) (hP _ (br_t (fa_no hA (hh k (by omega))) (nm_r (nI_1 _) (hP' post h))))⟩
theorem ys_sk {n m e : Nat} (hn : n ≤ 31) (hm : m ≤ 6) (he : e ≤ n) (hL : ∀ j, sy_ok (L j)) (hR : ∀ r, r < m → ∃ l, l ≤ 7 ∧ LS r = nI l) (hh : ∀ j, j < e → ¬ ht_ sub n L LS m j) :
    ∀ (c k f : Nat) (bd : Nat → Int32), k + c = e → ∃ bd' : Nat → Int32, ∀ post : Int32 → SY → Prop,
      wY_nextPlace_2 post f (nI e) yd (nI m) (nI n) stk bg L LS R RS sub nx bd' → wY_nextPlace_2 post (f + c) (nI k) yd (nI m) (nI n) stk bg L LS R RS sub nx bd := by
  intro c
  induction c with
  | zero =>
    intro k f bd hk
    obtain rfl : k = e := by omega
    exact ⟨bd, fun post h => h⟩
  | succ c ih =>
    intro k f bd hk
    obtain ⟨b, g1, hA, _, hP⟩ := fi_y (yd := yd) (stk := stk) (bg := bg) (R := R) (RS := RS) (nx := nx) (sub := sub) bd hn hm (show k < n by omega) hL hR
    obtain ⟨g1', hP'⟩ := ih (k + 1) f g1 (by omega)
    exact ⟨g1', fun post h => br_f (nI_ge (by omega) (by omega)) (hP _ (br_t (fa_no hA (hh k (by omega))) (nm_r (nI_1 _) (hP' post h))))⟩
theorem sp_no {n m : Nat} (gS gE bd : Nat → Int32) (hn : n ≤ 31) (hm : m ≤ 6) (hL : ∀ j, sy_ok (L j)) (hR : ∀ r, r < m → ∃ l, l ≤ 7 ∧ LS r = nI l) (hh : ∀ j, j < n → ¬ ht_ sub n L LS m j) :
    ∃ gS' gE' bd' : Nat → Int32,
      (∀ post : Int32 → SX → Prop, post (-4) (fp, ft, nI m, nI n, fn, stk, st, L, LS, R, RS, sub, gS', gE', nx) → wpX_step post (fp, ft, nI m, nI n, fn, stk, st, L, LS, R, RS, sub, gS, gE, nx)) ∧
      (∀ post : Int32 → SY → Prop, post (-4) (yd, nI m, nI n, stk, bg, L, LS, R, RS, sub, nx, bd') → wpY_step post (yd, nI m, nI n, stk, bg, L, LS, R, RS, sub, nx, bd)) := by
  obtain ⟨gS', gE', hX⟩ := xs_sk (fp := fp) (ft := ft) (fn := fn) (stk := stk) (st := st) (R := R) (RS := RS) (nx := nx) hn hm (Nat.le_refl n) hL hR hh n 0 1 gS gE (by omega)
  obtain ⟨bd', hY⟩ := ys_sk (yd := yd) (stk := stk) (bg := bg) (R := R) (RS := RS) (nx := nx) hn hm (Nat.le_refl n) hL hR hh n 0 1 bd (by omega)
  refine ⟨gS', gE', bd', fun post h => ⟨1 + n, hX post (br_t (nI_le (by omega) (by omega)) h)⟩, fun post h => ?_⟩
  unfold wpY_step
  exact ⟨1 + n, hY _ (br_t (nI_le (by omega) (by omega)) (br_t rfl h))⟩
theorem sp_hit {n m i : Nat} (gS gE bd : Nat → Int32) (hn : n ≤ 31) (hm : m ≤ 6) (hi : i < n) (hL : ∀ j, sy_ok (L j)) (hRs : ∀ j, sy_ok (R j)) (hRI : ∀ r, r < m → ri_ L LS R RS r) (hit : ht_ sub n L LS m i) (hh : ∀ j, j < i → ¬ ht_ sub n L LS m j) :
    ∃ (b : Int32) (n' : Nat) (c' : Int32) (sub' nx' gS' gE' bd' : Nat → Int32), n' ≤ 31 ∧
      (∀ post : Int32 → SX → Prop, post b (fp, ft, nI m, nI n', c', stk, st, L, LS, R, RS, sub', gS', gE', nx') → wpX_step post (fp, ft, nI m, nI n, fn, stk, st, L, LS, R, RS, sub, gS, gE, nx)) ∧
      (∀ post : Int32 → SY → Prop, post b (yd, nI m, nI n', stk, bg, L, LS, R, RS, sub', nx', bd') → wpY_step post (yd, nI m, nI n, stk, bg, L, LS, R, RS, sub, nx, bd)) := by
  have hR : ∀ r, r < m → ∃ l, l ≤ 7 ∧ LS r = nI l := fun r hr => by
    obtain ⟨l, q, h1, _, h2, _⟩ := hRI r hr
    exact ⟨l, h1, h2⟩
  obtain ⟨g1, g2, hX⟩ := xs_sk (fp := fp) (ft := ft) (fn := fn) (stk := stk) (st := st) (R := R) (RS := RS) (nx := nx) hn hm (Nat.le_of_lt hi) hL hR hh i 0 1 gS gE (by omega)
  obtain ⟨d1, hY⟩ := ys_sk (yd := yd) (stk := stk) (bg := bg) (R := R) (RS := RS) (nx := nx) hn hm (Nat.le_of_lt hi) hL hR hh i 0 1 bd (by omega)
  obtain ⟨b, gS', gE', hA, hI, hP⟩ := fi_x (fp := fp) (ft := ft) (fn := fn) (stk := stk) (st := st) (R := R) (RS := RS) (nx := nx) (sub := sub) g1 g2 hn hm hi hL hR
  obtain ⟨b1, d2, hA1, _, hP1⟩ := fi_y (yd := yd) (stk := stk) (bg := bg) (R := R) (RS := RS) (nx := nx) (sub := sub) d1 hn hm hi hL hR
  obtain ⟨b2, d3, hA2, hI2, hP2⟩ := fi_y (yd := yd) (stk := stk) (bg := bg) (R := R) (RS := RS) (nx := nx) (sub := sub) d2 hn hm hi hL hR
  obtain rfl := fa_u hA hA1
  obtain rfl := fa_u hA1 hA2
  rcases hA with ⟨_, hno⟩ | ⟨r, hr, rfl, hM, _⟩
  · obtain ⟨r, hr, hM⟩ := hit
    exact absurd hM (hno r hr)
  obtain ⟨l, q, hl7, hq31, hl, hq, hV⟩ := hRI r hr
  have hll : ll_ LS r = l := by unfold ll_; rw [hl, nI_clamp (by omega)]
  obtain ⟨i1, i2⟩ := hI r hr rfl
  have i3 := hI2 r hr rfl
  have hlt := bp_lt (a := sub) (n := n) (f := lr_ L r) (i := i) (ll_ LS r) (fun k' hk' => (hM k' hk').1)
  have hne : ¬ nI r = -4 := ar_n10 (by omega)
  have hnei : ¬ nI i = -4 := ar_n10 (by omega)
  have hqX : ∀ k, k < q → ¬ rr_ R r k < 7 → bp_ sub n (lr_ L r) i (ll_ LS r) (ix_ (rr_ R r k)) < n ∧ gS' (ix_ (rr_ R r k)) = nI (bp_ sub n (lr_ L r) i (ll_ LS r) (ix_ (rr_ R r k))) ∧ gE' (ix_ (rr_ R r k)) = nI (en_ sub n (bp_ sub n (lr_ L r) i (ll_ LS r) (ix_ (rr_ R r k)))) := by
    intro k hk hv
    obtain ⟨k', hk', e⟩ := hV k hk hv
    rw [← e] at hv ⊢
    exact ⟨hlt k' (by omega) hv, i1 k' (by omega) hv, i2 k' (by omega) hv⟩
  have hqY : ∀ k, k < q → ¬ rr_ R r k < 7 → bp_ sub n (lr_ L r) i (ll_ LS r) (ix_ (rr_ R r k)) < n ∧ d3 (ix_ (rr_ R r k)) = nI (bp_ sub n (lr_ L r) i (ll_ LS r) (ix_ (rr_ R r k))) := by
    intro k hk hv
    obtain ⟨k', hk', e⟩ := hV k hk hv
    rw [← e] at hv ⊢
    exact ⟨hlt k' (by omega) hv, i3 k' (by omega) hv⟩
  have hb := nw_2 (a := sub) (nx := nx) hn hq31 hi (fun j hj hv => (hqX j hj hv).1)
  by_cases hs : (nw_ sub n i (rr_ R r) (bp_ sub n (lr_ L r) i (ll_ LS r)) q nx).2 ≤ 31
  · refine ⟨nI i, (nw_ sub n i (rr_ R r) (bp_ sub n (lr_ L r) i (ll_ LS r)) q nx).2, nI (nw_ sub n i (rr_ R r) (bp_ sub n (lr_ L r) i (ll_ LS r)) q nx).2, cp_ (nw_ sub n i (rr_ R r) (bp_ sub n (lr_ L r) i (ll_ LS r)) q nx).1 (nw_ sub n i (rr_ R r) (bp_ sub n (lr_ L r) i (ll_ LS r)) q nx).2 0 0 sub, (nw_ sub n i (rr_ R r) (bp_ sub n (lr_ L r) i (ll_ LS r)) q nx).1, gS', gE', d3, hs, fun post h => ⟨1 + i, hX post (br_f (nI_ge (by omega) (by omega)) (hP _ (br_f hne ?_)))⟩, fun post h => ?_⟩
    · exact xw_rw hn hi (by omega) hq hq31 hRs hqX (fun _ => br_f (by decide) h) (fun h' => absurd h' (by omega))
    · unfold wpY_step
      refine ⟨1 + i, hY _ (br_f (nI_ge (by omega) (by omega)) (hP1 _ (br_f hne (br_f hnei (hP2 _ ?_)))))⟩
      refine yw_mf hn hi (by omega) hq hq31 hRs hqY ?_
      exact pk_le (nw_ sub n i (rr_ R r) (bp_ sub n (lr_ L r) i (ll_ LS r)) q nx).2 31 (fun _ => ⟨_, yc_sub hs _ 0 _ sub (by omega) (Nat.lt_succ_self _) h⟩) (fun h' => absurd h' (by omega))
  · refine ⟨-2, n, nI (nw_ sub n i (rr_ R r) (bp_ sub n (lr_ L r) i (ll_ LS r)) q nx).2, sub, (nw_ sub n i (rr_ R r) (bp_ sub n (lr_ L r) i (ll_ LS r)) q nx).1, gS', gE', d3, hn, fun post h => ⟨1 + i, hX post (br_f (nI_ge (by omega) (by omega)) (hP _ (br_f hne ?_)))⟩, fun post h => ?_⟩
    · exact xw_rw hn hi (by omega) hq hq31 hRs hqX (fun h' => absurd h' hs) (fun h' => br_t rfl h)
    · unfold wpY_step
      refine ⟨1 + i, hY _ (br_f (nI_ge (by omega) (by omega)) (hP1 _ (br_f hne (br_f hnei (hP2 _ ?_)))))⟩
      refine yw_mf hn hi (by omega) hq hq31 hRs hqY ?_
      exact pk_le (nw_ sub n i (rr_ R r) (bp_ sub n (lr_ L r) i (ll_ LS r)) q nx).2 31 (fun h' => absurd h' hs) (fun _ => h)
end
