section
variable {fp ft fr fs fn yd yr ys : Int32} {stk st L LS R RS sub gS gE nx bg bd : Nat → Int32}
theorem xb_77 {post : Int32 → SX → Prop} {x : Int32} {p d' s : Nat} (hp : p < 31) (hd : d' < 6) (hs : s ≤ p)
    (h : post (nI (d' + 1)) (nI (p + 1), nI (d' + 1), fr, fs, fn, upd (sh_ s (p - s) stk) s x, upd st d' (nI s), L, LS, R, RS, sub, gS, gE, nx)) :
    wX_build_77 post x (nI d') (nI s) (nI p) ft fr fs fn stk st L LS R RS sub gS gE nx := by
  unfold wX_build_77
  refine xn_in hp hs ⟨vp_in_nI hd (by omega), ?_⟩
  rw [nI_clamp (n := d') (by omega)]
  exact nm_e (nm_r (nI_1 _) h)
theorem xb_42 {post : Int32 → SX → Prop} {x : Int32} {p d q s : Nat} (hp : p < 31) (hq : q ≤ d) (hd6 : d ≤ 6) (hd : d - q < 6) (hs : s ≤ p) (h0 : q = 0 → s = p) (h1 : q ≠ 0 → st (d - q) = nI s)
    (h : post (nI (d - q + 1)) (nI (p + 1), nI (d - q + 1), fr, fs, fn, upd (sh_ s (p - s) stk) s x, upd st (d - q) (nI s), L, LS, R, RS, sub, gS, gE, nx)) :
    wX_build_42 post x (nI q) (nI p) (nI d) fr fs fn stk st L LS R RS sub gS gE nx := by
  refine br_t (nI_le hq (by omega)) (nm_r (pk_sub hq) (pk_eq q 0 (fun z => ?_) (fun z => ⟨vp_in_nI hd (by omega), ?_⟩)))
  · obtain rfl := h0 z
    exact xb_77 hp hd hs h
  · rw [nI_clamp (n := d - q) (by omega), h1 z]
    exact xb_77 hp hd hs h
theorem yb_50 {post : Int32 → SY → Prop} {x : Int32} {p d q s : Nat} (hp : p < 31) (hq : q ≤ d) (hd6 : d ≤ 6) (hd : d - q < 6) (hs : s ≤ p) (h1 : bg (d - q) = nI s)
    (h : post (nI (d - q + 1)) (nI (d - q + 1), yr, ys, upd (sh_ s (p - s) stk) s x, upd bg (d - q + 1) (nI (p + 1)), L, LS, R, RS, sub, nx, bd)) :
    wY_build_50 post x (nI p) (nI q) (nI d) yr ys stk bg L LS R RS sub nx bd := by
  have e : nI d - nI q = nI (d - q) := pk_sub hq
  refine br_t (nI_le hq (by omega)) ⟨by rw [e]; exact vp_in_nI (by omega) (by omega), nm_r (e' := nI s) ?_ ⟨p - s + 1, ?_⟩⟩
  · rw [e, nI_clamp (by omega), h1]
  · have H := yn_lp (yr := yr) (ys := ys) (bg := bg) (L := L) (LS := LS) (R := R) (RS := RS) (sub := sub) (nx := nx) (bd := bd) (post := post) (x := x) (s := s) (p := p) hq (by omega) (p - s) (p - s + 1) stk (by omega) (by omega) h
    rw [show s + (p - s) = p from by omega] at H
    exact H
theorem xr_ru {post : Int32 → SX → Prop} {t m s md e : Nat} (hm : m < 6) (ht : t + 2 ≤ 6) (s0 : st t = nI s) (s1 : st (t + 1) = nI md) (hs : s < md) (hmd : md ≤ e) (he : e ≤ 31) (hk : ∀ i, sy_ok (stk i))
    (h1 : lk_ stk s md ∧ rk_ stk s md e → post (nI m) (nI s, nI t, nI (m + 1), fs, fn, stk, st, cp_ stk (md - s) s (m * 7) L, upd LS m (nI (md - s)), cp_ stk (e - md) md (m * 31) R, upd RS m (nI (e - md)), sub, gS, gE, nx))
    (h0 : ¬ (lk_ stk s md ∧ rk_ stk s md e) → post (-3) (nI e, nI (t + 2), nI m, fs, fn, stk, st, L, LS, R, RS, sub, gS, gE, nx)) :
    wpX_rule post (nI e, nI (t + 2), nI m, fs, fn, stk, st, L, LS, R, RS, sub, gS, gE, nx) := by
  have e2 : nI (t + 2) - 2 = nI t := pk_sub (a := t + 2) (b := 2) (by omega)
  have e1 : nI (t + 2) - 1 = nI (t + 1) := nI_pred (t + 1)
  have hv2 : vp_in (nI (t + 2) - 2) 6 := by rw [e2]; exact vp_in_nI (by omega) (by omega)
  have hv1 : vp_in (nI (t + 2) - 1) 6 := by rw [e1]; exact vp_in_nI (by omega) (by omega)
  have g2 : st (nI (t + 2) - 2).toNatClampNeg = nI s := by rw [e2, nI_clamp (by omega), s0]
  have g1 : st (nI (t + 2) - 1).toNatClampNeg = nI md := by rw [e1, nI_clamp (by omega), s1]
  have hcm : (nI m).toNatClampNeg = m := nI_clamp (by omega)
  unfold wpX_rule
  refine br_t (nI_lt (b := 6) hm (by omega)) (br_t (nI_le (a := 2) (by omega) (by omega)) ⟨hv2, nm_r g2 ⟨hv1, nm_r g1 ?_⟩⟩)
  refine xl_cb (by omega) hs hk (fun lk => br_f (by decide) ?_) (fun nl => br_t rfl (h0 (fun z => nl z.1)))
  refine xr_cb he (by omega) hmd hk (fun rk => br_f (by decide) ?_) (fun nr => br_t rfl (h0 (fun z => nr z.2)))
  have l7 := lk.2.1
  refine xcl_cp (w := m * 7) (pk_mul m 7) (by omega) (by omega) (by omega) ⟨vp_in_nI hm (by omega), ?_⟩
  rw [hcm, pk_sub (show s ≤ md by omega)]
  refine nm_e ?_
  refine xcr_cp (w := m * 31) (pk_mul m 31) (by omega) (by omega) (by omega) ⟨vp_in_nI hm (by omega), ?_⟩
  rw [pk_sub (show md ≤ e by omega)]
  refine nm_e (nm_r e2 (nm_r (nI_1 m) ?_))
  rw [nI_pred, hcm]
  exact h1 ⟨lk, rk⟩
theorem yr_ru {post : Int32 → SY → Prop} {t m s md e : Nat} (hm : m < 6) (ht : t + 2 ≤ 6) (b0 : bg t = nI s) (b1 : bg (t + 1) = nI md) (b2 : bg (t + 2) = nI e) (hs : s < md) (hmd : md ≤ e) (he : e ≤ 31)
    (h1 : lk_ stk s md ∧ rk_ stk s md e → post (nI m) (nI t, nI (m + 1), ys, stk, bg, cp_ stk (md - s) s (m * 7) L, upd LS m (nI (md - s)), cp_ stk (e - md) md (m * 31) R, upd RS m (nI (e - md)), sub, nx, bd))
    (h0 : ¬ (lk_ stk s md ∧ rk_ stk s md e) → post (-3) (nI (t + 2), nI m, ys, stk, bg, L, LS, R, RS, sub, nx, bd)) :
    wpY_rule post (nI (t + 2), nI m, ys, stk, bg, L, LS, R, RS, sub, nx, bd) := by
  have e2 : nI (t + 2) - 2 = nI t := pk_sub (a := t + 2) (b := 2) (by omega)
  have hcm : (nI m).toNatClampNeg = m := nI_clamp (by omega)
  have c0 : (nI t).toNatClampNeg = t := nI_clamp (by omega)
  have c1 : (nI (t + 1)).toNatClampNeg = t + 1 := nI_clamp (by omega)
  have c2 : (nI (t + 2)).toNatClampNeg = t + 2 := nI_clamp (by omega)
  have a2 : nI t + 2 = nI (t + 2) := nI_add t 2
  have hne : ¬ nI m = 6 := fun z => by
    have z' : nI m = nI 6 := z
    rw [nI_eq (by omega) (by omega)] at z'; omega
  have hvm : vp_in (nI m) 6 := vp_in_nI hm (by omega)
  unfold wpY_rule
  refine br_f hne ?_
  refine yf_ok (by omega) b0 b1 b2 hs hmd he (fun lr => br_f (by decide) (nm_r e2 ?_)) (fun n => br_t rfl (h0 n))
  have l7 := lr.1.2.1
  rw [nI_1 t, a2, c0, c1, c2, b0, b1, b2, hcm, pk_sub (show s ≤ md by omega), pk_sub hmd]
  refine ⟨vp_in_nI (by omega) (by omega), vp_in_nI (by omega) (by omega), hvm, nm_e ⟨vp_in_nI (by omega) (by omega), vp_in_nI (by omega) (by omega), hvm, nm_e ⟨md - s + 1, ?_⟩⟩⟩
  refine yl_lp (l := md - s) hm (by omega) pk_us (by omega) b0 (by omega) (md - s) 0 (md - s + 1) L (by omega) (by omega) ⟨e - md + 1, ?_⟩
  exact yg_lp (l := e - md) hm (by omega) pk_us (by omega) b1 (by omega) (e - md) 0 (e - md + 1) R (by omega) (by omega) (h1 lr)
theorem xj_su {post : Int32 → SX → Prop} {t s p : Nat} (ht : t + 1 ≤ 6) (s0 : st t = nI s) (hs : s ≤ p) (hp : p ≤ 31) (hk : ∀ i, sy_ok (stk i))
    (h1 : cn_ stk (nI 7) (p - s) s + cn_ stk (nI 8) (p - s) s + cn_ stk (nI 9) (p - s) s ≤ 0 → post (nI (p - s)) (nI s, nI t, fr, nI (p - s), fn, stk, st, L, LS, R, RS, cp_ stk (p - s) s 0 sub, gS, gE, nx))
    (h0 : ¬ cn_ stk (nI 7) (p - s) s + cn_ stk (nI 8) (p - s) s + cn_ stk (nI 9) (p - s) s ≤ 0 → post (-3) (nI p, nI (t + 1), fr, fs, fn, stk, st, L, LS, R, RS, sub, gS, gE, nx)) :
    wpX_subject post (nI p, nI (t + 1), fr, fs, fn, stk, st, L, LS, R, RS, sub, gS, gE, nx) := by
  have e1 : nI (t + 1) - 1 = nI t := nI_pred t
  have hv1 : vp_in (nI (t + 1) - 1) 6 := by rw [e1]; exact vp_in_nI (by omega) (by omega)
  have g1 : st (nI (t + 1) - 1).toNatClampNeg = nI s := by rw [e1, nI_clamp (by omega), s0]
  unfold wpX_subject
  refine br_t (nI_le (a := 1) (by omega) (by omega)) ⟨hv1, nm_r g1 ?_⟩
  refine xk_vs hp hs hk (br_c (fun z => ?_) (fun z => h0 (fun z' => z (mc_z.mpr z'))))
  refine xcs_cp (w := 0) rfl hp hs (by omega) ?_
  exact nm_r (pk_sub hs) (nm_r e1 (h1 (mc_z.mp z)))
theorem yj_su {post : Int32 → SY → Prop} {t s p : Nat} (ht : t + 1 ≤ 6) (b0 : bg t = nI s) (b1 : bg (t + 1) = nI p) (hs : s ≤ p) (hp : p ≤ 31)
    (h1 : cn_ stk (nI 7) (p - s) s + cn_ stk (nI 8) (p - s) s + cn_ stk (nI 9) (p - s) s ≤ 0 → post (nI (p - s)) (nI t, yr, nI (p - s), stk, bg, L, LS, R, RS, cp_ stk (p - s) s 0 sub, nx, bd))
    (h0 : ¬ cn_ stk (nI 7) (p - s) s + cn_ stk (nI 8) (p - s) s + cn_ stk (nI 9) (p - s) s ≤ 0 → post (-3) (nI (t + 1), yr, ys, stk, bg, L, LS, R, RS, sub, nx, bd)) :
    wpY_subject post (nI (t + 1), yr, ys, stk, bg, L, LS, R, RS, sub, nx, bd) := by
  have e1 : nI (t + 1) - 1 = nI t := nI_pred t
  have c0 : (nI t).toNatClampNeg = t := nI_clamp (by omega)
  have c1 : (nI (t + 1)).toNatClampNeg = t + 1 := nI_clamp (by omega)
  have k7 := cn_le stk (nI 7) (p - s) s
  have k8 := cn_le stk (nI 8) (p - s) s
  have k9 := cn_le stk (nI 9) (p - s) s
  unfold wpY_subject
  refine br_f (nI_ne0 (by omega) (by omega)) ?_
  rw [e1]
  refine yk_ct (x := nI 7) (by omega) b0 b1 hs hp ?_
  refine yk_ct (x := nI 8) (by omega) b0 b1 hs hp ?_
  refine yk_ct (x := nI 9) (by omega) b0 b1 hs hp ?_
  rw [nI_add, nI_add]
  refine pk_le _ 0 (fun z => nm_e ?_) (fun z => h0 (by omega)) rfl rfl (by omega) (by omega)
  rw [nI_1 t, c0, c1, b0, b1]
  refine ⟨vp_in_nI (by omega) (by omega), vp_in_nI (by omega) (by omega), nm_r (pk_sub hs) ⟨p - s + 1, ?_⟩⟩
  exact yj_lp (l := p - s) (by omega) (by omega) b0 (by omega) (p - s) 0 (p - s + 1) sub (by omega) (by omega) (h1 z)
theorem xz_in {post : Int32 → Prop} {n i : Nat} (hn : n ≤ 31) (hi : i < n) (h : post (nI (en_ sub n i - i))) :
    wpX_sizeAt post (fp, ft, fr, nI n, fn, stk, st, L, LS, R, RS, sub, gS, gE, nx) (nI i) := by
  unfold wpX_sizeAt
  refine xi_c hn (by omega) (fun z => absurd z (by omega)) (fun _ => xe_end hn (by omega) ?_)
  rw [pk_sub en_ge]; exact h
theorem xz_out {post : Int32 → Prop} {n : Nat} {x : Int32} (h : x < 0 ∨ ¬ x < 0 ∧ nI n ≤ x) (hp : post (-4)) :
    wpX_sizeAt post (fp, ft, fr, nI n, fn, stk, st, L, LS, R, RS, sub, gS, gE, nx) x := by
  unfold wpX_sizeAt
  rcases h with h | ⟨h0, h⟩
  · exact br_t h (br_t rfl hp)
  · exact br_f h0 (br_t h (br_t rfl hp))
theorem sm_lp {n i j l : Nat} (hi : i + l ≤ 31) (hj : j + l ≤ 31) : ∀ c k : Nat, k + c = l → ∃ r : Int32,
    (∀ post : Int32 → Prop, post r → wX_same_26 post (nI i) (nI j) (nI l) fp ft fr fs fn stk st L LS R RS sub gS gE nx (c + 1) (nI k)) ∧
    (∀ post : Int32 → Prop, post r → wY_same_50 post (nI i) (nI j) (nI l) yd yr ys stk bg L LS R RS sub nx bd (c + 1) (nI k)) := by
  intro c
  induction c with
  | zero =>
    intro k hk
    have h : nI l ≤ nI k := nI_le (by omega) (by omega)
    exact ⟨1, fun _ hp => br_t h hp, fun _ hp => br_t h hp⟩
  | succ c ih =>
    intro k hk
    have h : ¬ nI l ≤ nI k := nI_ge (by omega) (by omega)
    have v1 : vp_in (nI i + nI k) 31 := by rw [nI_add]; exact vp_in_nI (by omega) (by omega)
    have v2 : vp_in (nI j + nI k) 31 := by rw [nI_add]; exact vp_in_nI (by omega) (by omega)
    by_cases z : sub (nI i + nI k).toNatClampNeg = sub (nI j + nI k).toNatClampNeg
    · obtain ⟨r, hX, hY⟩ := ih (k + 1) (by omega)
      exact ⟨r, fun post hp => br_f h ⟨v1, v2, br_t z (nm_r (nI_1 _) (hX post hp))⟩, fun post hp => br_f h ⟨v1, v2, br_t z (nm_r (nI_1 _) (hY post hp))⟩⟩
    · exact ⟨0, fun post hp => br_f h ⟨v1, v2, br_f z hp⟩, fun post hp => br_f h ⟨v1, v2, br_f z hp⟩⟩
theorem dg_lp {n : Nat} (hn : n ≤ 31) : ∀ (c i : Nat) (x : Int32), i + c = n → ∃ r : Int32,
    (∀ post : Int32 → Prop, post r → wX_digest_4 post fp ft fr (nI n) fn stk st L LS R RS sub gS gE nx (c + 1) x (nI i)) ∧
    (∀ post : Int32 → Prop, post r → wY_digest_4 post yd yr (nI n) stk bg L LS R RS sub nx bd (c + 1) x (nI i)) := by
  intro c
  induction c with
  | zero =>
    intro i x hi
    have h : nI n ≤ nI i := nI_le (by omega) (by omega)
    exact ⟨x, fun _ hp => br_t h hp, fun _ hp => br_t h hp⟩
  | succ c ih =>
    intro i x hi
    have h : ¬ nI n ≤ nI i := nI_ge (by omega) (by omega)
    have v1 : vp_in (nI i) 31 := vp_in_nI (by omega) (by omega)
    obtain ⟨r, hX, hY⟩ := ih (i + 1) (x + (nI i + 1) * (sub (nI i).toNatClampNeg + 1)) (by omega)
    exact ⟨r, fun post hp => br_f h ⟨v1, nm_e (nm_r (nI_1 _) (hX post hp))⟩, fun post hp => br_f h ⟨v1, nm_e (nm_r (nI_1 _) (hY post hp))⟩⟩
theorem rd_lp {n m : Nat} (hn : n ≤ 31) (hm : m ≤ 6) (hL : ∀ j, sy_ok (L j)) (hR : ∀ r, r < m → ∃ l, l ≤ 7 ∧ LS r = nI l) : ∀ (c i : Nat) (x : Int32) (gS gE bd : Nat → Int32), i + c = n → ∃ (r : Int32) (gS' gE' bd' : Nat → Int32),
    (∀ post : Int32 → SX → Prop, post r (fp, ft, nI m, nI n, fn, stk, st, L, LS, R, RS, sub, gS', gE', nx) → wX_redexes_4 post (c + 1) x (nI i) fp ft (nI m) (nI n) fn stk st L LS R RS sub gS gE nx) ∧
    (∀ post : Int32 → SY → Prop, post r (yd, nI m, nI n, stk, bg, L, LS, R, RS, sub, nx, bd') → wY_redexes_4 post (c + 1) x (nI i) yd (nI m) (nI n) stk bg L LS R RS sub nx bd) := by
  intro c
  induction c with
  | zero =>
    intro i x gS gE bd hi
    have h : nI n ≤ nI i := nI_le (by omega) (by omega)
    exact ⟨x, gS, gE, bd, fun _ hp => br_t h hp, fun _ hp => br_t h hp⟩
  | succ c ih =>
    intro i x gS gE bd hi
    have h : ¬ nI n ≤ nI i := nI_ge (by omega) (by omega)
    obtain ⟨b, g1, g2, hA, _, hP⟩ := fi_x (fp := fp) (ft := ft) (fn := fn) (stk := stk) (st := st) (R := R) (RS := RS) (nx := nx) (sub := sub) gS gE hn hm (show i < n by omega) hL hR
    obtain ⟨b1, d1, hA1, _, hP1⟩ := fi_y (yd := yd) (stk := stk) (bg := bg) (R := R) (RS := RS) (nx := nx) (sub := sub) bd hn hm (show i < n by omega) hL hR
    obtain rfl := fa_u hA hA1
    by_cases z : b1 = -4
    · obtain ⟨r, gS', gE', bd', hX, hY⟩ := ih (i + 1) x g1 g2 d1 (by omega)
      exact ⟨r, gS', gE', bd', fun post hp => br_f h (hP _ (br_t z (nm_r (nI_1 _) (hX post hp)))), fun post hp => br_f h (hP1 _ (br_t z (nm_r (nI_1 _) (hY post hp))))⟩
    · obtain ⟨r, gS', gE', bd', hX, hY⟩ := ih (i + 1) (x + 1) g1 g2 d1 (by omega)
      exact ⟨r, gS', gE', bd', fun post hp => br_f h (hP _ (br_f z (nm_e (nm_r (nI_1 _) (hX post hp))))), fun post hp => br_f h (hP1 _ (br_f z (nm_e (nm_r (nI_1 _) (hY post hp)))))⟩
theorem sp_all {n m : Nat} (gS gE bd : Nat → Int32) (hn : n ≤ 31) (hm : m ≤ 6) (hL : ∀ j, sy_ok (L j)) (hRs : ∀ j, sy_ok (R j)) (hRI : ∀ r, r < m → ri_ L LS R RS r) :
    ∃ (b : Int32) (n' : Nat) (c' : Int32) (sub' nx' gS' gE' bd' : Nat → Int32), n' ≤ 31 ∧
      (∀ post : Int32 → SX → Prop, post b (fp, ft, nI m, nI n', c', stk, st, L, LS, R, RS, sub', gS', gE', nx') → wpX_step post (fp, ft, nI m, nI n, fn, stk, st, L, LS, R, RS, sub, gS, gE, nx)) ∧
      (∀ post : Int32 → SY → Prop, post b (yd, nI m, nI n', stk, bg, L, LS, R, RS, sub', nx', bd') → wpY_step post (yd, nI m, nI n, stk, bg, L, LS, R, RS, sub, nx, bd)) := by
  by_cases h : ∃ i, i < n ∧ ht_ sub n L LS m i
  · obtain ⟨i, ⟨hi, hit⟩, hl⟩ := pk_least _ h
    exact sp_hit gS gE bd hn hm hi hL hRs hRI hit (fun j hj z => hl j hj ⟨by omega, z⟩)
  · have hR : ∀ r, r < m → ∃ l, l ≤ 7 ∧ LS r = nI l := fun r hr => by
      obtain ⟨l, q, h1, _, h2, _⟩ := hRI r hr
      exact ⟨l, h1, h2⟩
    obtain ⟨gS', gE', bd', hX, hY⟩ := sp_no (fp := fp) (ft := ft) (fn := fn) (stk := stk) (st := st) (R := R) (RS := RS) (nx := nx) (sub := sub) (yd := yd) (bg := bg) gS gE bd hn hm hL hR (fun j hj z => h ⟨j, hj, z⟩)
    exact ⟨-4, n, fn, sub, nx, gS', gE', bd', hn, hX, hY⟩
theorem rn_lp {m : Nat} {x : Int32} (hm : m ≤ 6) (hL : ∀ j, sy_ok (L j)) (hRs : ∀ j, sy_ok (R j)) (hRI : ∀ r, r < m → ri_ L LS R RS r) : ∀ (c j n : Nat) (fn : Int32) (sub nx gS gE bd : Nat → Int32), j + c = 40 → n ≤ 31 →
    ∃ (b : Int32) (n' : Nat) (c' : Int32) (sub' nx' gS' gE' bd' : Nat → Int32), n' ≤ 31 ∧
      (∀ post : Int32 → SX → Prop, post b (fp, ft, nI m, nI n', c', stk, st, L, LS, R, RS, sub', gS', gE', nx') → wX_run_2 post x (c + 1) (nI j) fp ft (nI m) (nI n) fn stk st L LS R RS sub gS gE nx) ∧
      (∀ post : Int32 → SY → Prop, post b (yd, nI m, nI n', stk, bg, L, LS, R, RS, sub', nx', bd') → wY_run_7 post x (c + 2) (nI j) 1 (nI j) yd (nI m) (nI n) stk bg L LS R RS sub nx bd) := by
  intro c
  induction c with
  | zero =>
    intro j n fn sub nx gS gE bd hj hn
    have h : (40 : Int32) ≤ nI j := nI_le (a := 40) (by omega) (by omega)
    exact ⟨nI j, n, fn, sub, nx, gS, gE, bd, hn, fun post hp => br_c (fun _ => hp) (fun _ => br_t h hp), fun post hp => br_t h hp⟩
  | succ c ih =>
    intro j n fn sub nx gS gE bd hj hn
    have h : ¬ (40 : Int32) ≤ nI j := nI_ge (b := 40) (by omega) (by omega)
    by_cases hx : x ≤ nI j
    · exact ⟨nI j, n, fn, sub, nx, gS, gE, bd, hn, fun post hp => br_t hx hp, fun post hp => br_f h (br_t hx hp)⟩
    · obtain ⟨b, n1, c1, s1, x1, g1, g2, d1, hn1, hX, hY⟩ := sp_all (fp := fp) (ft := ft) (fn := fn) (stk := stk) (st := st) (R := R) (RS := RS) (nx := nx) (sub := sub) (yd := yd) (bg := bg) gS gE bd hn hm hL hRs hRI
      by_cases hb : b < 0
      · refine ⟨nI j, n1, c1, s1, x1, g1, g2, d1, hn1, fun post hp => br_f hx (br_f h (hX _ (br_f (Int32.not_le.mpr hb) hp))), fun post hp => br_f h (br_f hx (br_f (by decide) (hY _ (br_t hb ?_))))⟩
        refine br_t rfl (nm_e ?_)
        exact br_c (fun _ => hp) (fun _ => br_c (fun _ => hp) (fun _ => br_t rfl hp))
      · obtain ⟨b', n2, c2, s2, x2, g3, g4, d2, hn2, hX2, hY2⟩ := ih (j + 1) n1 c1 s1 x1 g1 g2 d1 (by omega) hn1
        refine ⟨b', n2, c2, s2, x2, g3, g4, d2, hn2, fun post hp => br_f hx (br_f h (hX _ (br_t (Int32.not_lt.mp hb) (nm_r (nI_1 _) (hX2 post hp))))), fun post hp => br_f h (br_f hx (br_f (by decide) (hY _ (br_f hb ?_))))⟩
        exact br_f (by decide) (nm_r (nI_1 _) (nm_r (nI_1 _) (hY2 post hp)))
end
