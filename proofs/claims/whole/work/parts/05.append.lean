/-- one symbol more: behind the 31st only the count grows -/
def ap_ (s : (Nat → Int32) × Nat) (x : Int32) : (Nat → Int32) × Nat := (if s.2 < 31 then upd s.1 s.2 x else s.1, s.2 + 1)
/-- c symbols of a from f on -/
def tk_ (a : Nat → Int32) : Nat → Nat → (Nat → Int32) × Nat → (Nat → Int32) × Nat
  | 0, _, s => s
  | c + 1, f, s => tk_ a c (f + 1) (ap_ s (a f))
/-- c symbols of the right row g from k on, the variables by their parts -/
def rP_ (a : Nat → Int32) (n : Nat) (g : Nat → Int32) (q : Nat → Nat) : Nat → Nat → (Nat → Int32) × Nat → (Nat → Int32) × Nat
  | 0, _, s => s
  | c + 1, k, s => rP_ a n g q c (k + 1) (if g k < 7 then ap_ s (g k) else tk_ a (en_ a n (q (ix_ (g k))) - q (ix_ (g k))) (q (ix_ (g k))) s)
/-- a copy of c cells, from i on to j on -/
def cp_ (a : Nat → Int32) : Nat → Nat → Nat → (Nat → Int32) → Nat → Int32
  | 0, _, _, t => t
  | c + 1, i, j, t => cp_ a c (i + 1) (j + 1) (upd t j (a i))
theorem tk_2 (a : Nat → Int32) : ∀ c f s, (tk_ a c f s).2 = s.2 + c := by
  intro c
  induction c with
  | zero => intro f s; rfl
  | succ c ih =>
    intro f s
    unfold tk_
    rw [ih]
    show s.2 + 1 + c = _
    omega
theorem rP_2 (a : Nat → Int32) (n : Nat) (g : Nat → Int32) (q : Nat → Nat) (hn : n ≤ 31) : ∀ c k s, (∀ j, k ≤ j → j < k + c → ¬ g j < 7 → q (ix_ (g j)) < n) → (rP_ a n g q c k s).2 ≤ s.2 + 31 * c := by
  intro c
  induction c with
  | zero => intro k s _; exact Nat.le_refl _
  | succ c ih =>
    intro k s h
    unfold rP_
    have h1 := ih (k + 1) (if g k < 7 then ap_ s (g k) else tk_ a (en_ a n (q (ix_ (g k))) - q (ix_ (g k))) (q (ix_ (g k))) s) (fun j h2 h3 h4 => h j (by omega) (by omega) h4)
    by_cases h7 : g k < 7
    · rw [if_pos h7] at h1 ⊢
      have : (ap_ s (g k)).2 = s.2 + 1 := rfl
      omega
    · rw [if_neg h7] at h1 ⊢
      rw [tk_2] at h1
      have h5 := h k (by omega) (by omega) h7
      have h6 := en_le (a := a) (n := n) (i := q (ix_ (g k))) (by omega)
      omega
/-- the rewritten term -/
def nw_ (a : Nat → Int32) (n i : Nat) (g : Nat → Int32) (q : Nat → Nat) (c : Nat) (nx : Nat → Int32) : (Nat → Int32) × Nat :=
  tk_ a (n - en_ a n i) (en_ a n i) (rP_ a n g q c 0 (tk_ a i 0 (nx, 0)))
theorem nw_2 {a : Nat → Int32} {n i : Nat} {g : Nat → Int32} {q : Nat → Nat} {c : Nat} {nx : Nat → Int32} (hn : n ≤ 31) (hc : c ≤ 31) (hi : i < n) (h : ∀ j, j < c → ¬ g j < 7 → q (ix_ (g j)) < n) : (nw_ a n i g q c nx).2 ≤ 2000 := by
  unfold nw_
  rw [tk_2]
  have h1 := rP_2 a n g q hn c 0 (tk_ a i 0 (nx, 0)) (fun j _ h2 h3 => h j (by omega) h3)
  rw [tk_2] at h1
  have h2 : (nx, 0).2 = 0 := rfl
  omega
section
variable {fp ft fr fs fn yd yr ys : Int32} {stk st L LS R RS sub gS gE nx bg bd : Nat → Int32}
theorem xa_ap {post : SX → Prop} {s : (Nat → Int32) × Nat} {x : Int32} (hs : s.2 < 100000) (h : post (fp, ft, fr, fs, nI (ap_ s x).2, stk, st, L, LS, R, RS, sub, gS, gE, (ap_ s x).1)) :
    wpX_append post (fp, ft, fr, fs, nI s.2, stk, st, L, LS, R, RS, sub, gS, gE, s.1) x := by
  have e2 : (ap_ s x).2 = s.2 + 1 := rfl
  have e1 : (ap_ s x).1 = if s.2 < 31 then upd s.1 s.2 x else s.1 := rfl
  rw [e1, e2] at h
  refine pk_le 31 s.2 (fun h1 => nm_r (nI_1 _) ?_) (fun h1 => ⟨vp_in_nI h1 (by omega), ?_⟩)
  · rw [if_neg (by omega)] at h; exact h
  · rw [if_pos h1] at h
    rw [nI_clamp (n := s.2) (by omega)]
    exact nm_e (nm_r (nI_1 _) h)
theorem xa_lp {post : SX → Prop} {e : Nat} (he : e ≤ 31) : ∀ (c i f : Nat) (s : (Nat → Int32) × Nat), i + c = e → c < f → s.2 + c < 100000 →
    post (fp, ft, fr, fs, nI (tk_ sub c i s).2, stk, st, L, LS, R, RS, sub, gS, gE, (tk_ sub c i s).1) →
    wX_appendFromSubject_2 post (nI e) f (nI i) fp ft fr fs (nI s.2) stk st L LS R RS sub gS gE s.1 := by
  intro c
  induction c with
  | zero =>
    intro i f s hi hf hs h
    obtain ⟨f, rfl⟩ : ∃ g, f = g + 1 := ⟨f - 1, by omega⟩
    exact br_t (nI_le (by omega) (by omega)) h
  | succ c ih =>
    intro i f s hi hf hs h
    obtain ⟨f, rfl⟩ : ∃ g, f = g + 1 := ⟨f - 1, by omega⟩
    refine br_f (nI_ge (by omega) (by omega)) ⟨vp_in_nI (by omega) (by omega), ?_⟩
    rw [nI_clamp (n := i) (by omega)]
    refine xa_ap (by omega) (nm_r (nI_1 _) ?_)
    have e2 : (ap_ s (sub i)).2 = s.2 + 1 := rfl
    exact ih (i + 1) f (ap_ s (sub i)) (by omega) (by omega) (by omega) h
theorem xa_tk {post : SX → Prop} {e i : Nat} {s : (Nat → Int32) × Nat} (he : e ≤ 31) (hi : i ≤ e) (hs : s.2 < 10000)
    (h : post (fp, ft, fr, fs, nI (tk_ sub (e - i) i s).2, stk, st, L, LS, R, RS, sub, gS, gE, (tk_ sub (e - i) i s).1)) :
    wpX_appendFromSubject post (fp, ft, fr, fs, nI s.2, stk, st, L, LS, R, RS, sub, gS, gE, s.1) (nI i) (nI e) :=
  ⟨e - i + 1, xa_lp he (e - i) i (e - i + 1) s (by omega) (by omega) (by omega) h⟩
theorem ya_lp {post : Int32 → SY → Prop} {e : Nat} (he : e ≤ 31) : ∀ (c i f : Nat) (s : (Nat → Int32) × Nat), i + c = e → c < f → s.2 + c < 100000 →
    post (nI (tk_ sub c i s).2) (yd, yr, ys, stk, bg, L, LS, R, RS, sub, (tk_ sub c i s).1, bd) →
    wY_take_6 post (nI e) yd yr ys f (nI s.2) (nI i) stk bg L LS R RS sub s.1 bd := by
  intro c
  induction c with
  | zero =>
    intro i f s hi hf hs h
    obtain ⟨f, rfl⟩ : ∃ g, f = g + 1 := ⟨f - 1, by omega⟩
    exact br_t (nI_le (by omega) (by omega)) h
  | succ c ih =>
    intro i f s hi hf hs h
    obtain ⟨f, rfl⟩ : ∃ g, f = g + 1 := ⟨f - 1, by omega⟩
    have e2 : (ap_ s (sub i)).2 = s.2 + 1 := rfl
    have e1 : (ap_ s (sub i)).1 = if s.2 < 31 then upd s.1 s.2 (sub i) else s.1 := rfl
    have H := ih (i + 1) f (ap_ s (sub i)) (by omega) (by omega) (by omega) h
    rw [e1, e2] at H
    refine br_f (nI_ge (by omega) (by omega)) (pk_le 31 s.2 (fun h1 => nm_r (nI_1 _) (nm_r (nI_1 _) ?_)) (fun h1 => ⟨vp_in_nI (by omega) (by omega), vp_in_nI h1 (by omega), ?_⟩))
    · rw [if_neg (by omega)] at H; exact H
    · rw [if_pos h1] at H
      rw [nI_clamp (n := s.2) (by omega), nI_clamp (n := i) (by omega)]
      exact nm_e (nm_r (nI_1 _) (nm_r (nI_1 _) H))
theorem ya_tk {post : Int32 → SY → Prop} {e i : Nat} {s : (Nat → Int32) × Nat} (he : e ≤ 31) (hi : i ≤ e) (hs : s.2 < 10000)
    (h : post (nI (tk_ sub (e - i) i s).2) (yd, yr, ys, stk, bg, L, LS, R, RS, sub, (tk_ sub (e - i) i s).1, bd)) :
    wpY_take post (yd, yr, ys, stk, bg, L, LS, R, RS, sub, s.1, bd) (nI i) (nI e) (nI s.2) :=
  ⟨e - i + 1, ya_lp he (e - i) i (e - i + 1) s (by omega) (by omega) (by omega) h⟩
/-- the row of a rule's right side -/
def rr_ (R : Nat → Int32) (r : Nat) : Nat → Int32 := fun k => R (r * 31 + k)
theorem xr_lp {post : SX → Prop} {n r l : Nat} {q : Nat → Nat} (hn : n ≤ 31) (hr : r < 6) (hl : RS r = nI l) (hl31 : l ≤ 31) (hR : ∀ j, sy_ok (R j))
    (hq : ∀ k, k < l → ¬ rr_ R r k < 7 → q (ix_ (rr_ R r k)) < n ∧ gS (ix_ (rr_ R r k)) = nI (q (ix_ (rr_ R r k))) ∧ gE (ix_ (rr_ R r k)) = nI (en_ sub n (q (ix_ (rr_ R r k))))) :
    ∀ (c k f : Nat) (s : (Nat → Int32) × Nat), k + c = l → c < f → s.2 + 31 * c < 9000 →
    post (fp, ft, fr, fs, nI (rP_ sub n (rr_ R r) q c k s).2, stk, st, L, LS, R, RS, sub, gS, gE, (rP_ sub n (rr_ R r) q c k s).1) →
    wX_appendRight_2 post (nI r) f (nI k) fp ft fr fs (nI s.2) stk st L LS R RS sub gS gE s.1 := by
  have hcr : (nI r).toNatClampNeg = r := nI_clamp (by omega)
  intro c
  induction c with
  | zero =>
    intro k f s hk hf hs h
    obtain ⟨f, rfl⟩ : ∃ g, f = g + 1 := ⟨f - 1, by omega⟩
    refine ⟨vp_in_nI hr (by omega), br_t ?_ h⟩
    rw [hcr, hl]; exact nI_le (by omega) (by omega)
  | succ c ih =>
    intro k f s hk hf hs h
    obtain ⟨f, rfl⟩ : ∃ g, f = g + 1 := ⟨f - 1, by omega⟩
    have hix : nI r * 31 + nI k = nI (r * 31 + k) := by
      rw [show (31 : Int32) = nI 31 from rfl, pk_mul, nI_add]
    have hci : (nI r * 31 + nI k).toNatClampNeg = r * 31 + k := by rw [hix, nI_clamp (by omega)]
    have hvi : vp_in (nI r * 31 + nI k) 186 := by rw [hix]; exact vp_in_nI (by omega) (by omega)
    have hlt : ¬ RS (nI r).toNatClampNeg ≤ nI k := by rw [hcr, hl]; exact nI_ge (by omega) (by omega)
    unfold rP_ at h
    refine ⟨vp_in_nI hr (by omega), br_f hlt ⟨hvi, nm_r (congrArg R hci) ?_⟩⟩
    refine xv_c (fun h7 => ?_) (fun h7 => ?_)
    · rw [if_pos (show rr_ R r k < 7 from h7)] at h
      refine xa_ap (by omega) (nm_r (nI_1 _) ?_)
      have e2 : (ap_ s (R (r * 31 + k))).2 = s.2 + 1 := rfl
      exact ih (k + 1) f (ap_ s (R (r * 31 + k))) (by omega) (by omega) (by omega) h
    · rw [if_neg (show ¬ rr_ R r k < 7 from h7)] at h
      obtain ⟨j, hj, ej, _⟩ := sy_v (hR (r * 31 + k)) h7
      have hv3 : vp_in (R (r * 31 + k) - 7) 3 := by rw [ej]; exact vp_in_nI hj (by omega)
      obtain ⟨q1, q2, q3⟩ := hq k (by omega) h7
      have q4 := en_le (a := sub) (n := n) (i := q (ix_ (rr_ R r k))) (by omega)
      have q5 := en_ge (a := sub) (n := n) (i := q (ix_ (rr_ R r k)))
      refine nm_e ⟨hv3, hv3, ?_⟩
      have g2 : gS (R (r * 31 + k) - 7).toNatClampNeg = nI (q (ix_ (rr_ R r k))) := q2
      have g3 : gE (R (r * 31 + k) - 7).toNatClampNeg = nI (en_ sub n (q (ix_ (rr_ R r k)))) := q3
      rw [g2, g3]
      refine xa_tk (by omega) (by omega) (by omega) (nm_r (nI_1 _) ?_)
      have e2 := tk_2 sub (en_ sub n (q (ix_ (rr_ R r k))) - q (ix_ (rr_ R r k))) (q (ix_ (rr_ R r k))) s
      exact ih (k + 1) f _ (by omega) (by omega) (by omega) h
theorem yr_lp {post : Int32 → SY → Prop} {n r l i : Nat} {q : Nat → Nat} (hn : n ≤ 31) (hi : i < n) (hr : r < 6) (hl : RS r = nI l) (hl31 : l ≤ 31) (hR : ∀ j, sy_ok (R j))
    (hq : ∀ k, k < l → ¬ rr_ R r k < 7 → q (ix_ (rr_ R r k)) < n ∧ bd (ix_ (rr_ R r k)) = nI (q (ix_ (rr_ R r k)))) :
    ∀ (c k f : Nat) (s : (Nat → Int32) × Nat), k + c = l → c < f → s.2 + 31 * c < 9000 →
    (∀ s', s' = tk_ sub (n - en_ sub n i) (en_ sub n i) (rP_ sub n (rr_ R r) q c k s) → post (nI s'.2) (yd, yr, nI n, stk, bg, L, LS, R, RS, sub, s'.1, bd)) →
    wY_makeFresh_11 post (nI r) (nI i) f (nI s.2) (nI k) yd yr (nI n) stk bg L LS R RS sub s.1 bd := by
  have hcr : (nI r).toNatClampNeg = r := nI_clamp (by omega)
  intro c
  induction c with
  | zero =>
    intro k f s hk hf hs h
    obtain ⟨f, rfl⟩ : ∃ g, f = g + 1 := ⟨f - 1, by omega⟩
    refine ⟨vp_in_nI hr (by omega), br_t ?_ ?_⟩
    · rw [hcr, hl]; exact nI_le (by omega) (by omega)
    · refine ye_end hn (by omega) ?_
      exact ya_tk hn (en_le (by omega)) (by omega) (h _ rfl)
  | succ c ih =>
    intro k f s hk hf hs h
    obtain ⟨f, rfl⟩ : ∃ g, f = g + 1 := ⟨f - 1, by omega⟩
    have hix : 31 * nI r + nI k = nI (r * 31 + k) := by
      rw [show (31 : Int32) = nI 31 from rfl, pk_mul, nI_add, Nat.mul_comm]
    have hci : (31 * nI r + nI k).toNatClampNeg = r * 31 + k := by rw [hix, nI_clamp (by omega)]
    have hvi : vp_in (31 * nI r + nI k) 186 := by rw [hix]; exact vp_in_nI (by omega) (by omega)
    have hlt : ¬ RS (nI r).toNatClampNeg ≤ nI k := by rw [hcr, hl]; exact nI_ge (by omega) (by omega)
    unfold rP_ at h
    refine ⟨vp_in_nI hr (by omega), br_f hlt ⟨hvi, nm_r (congrArg R hci) ?_⟩⟩
    refine yv_c (fun h7 => ?_) (fun h7 => ?_)
    · rw [if_pos (show rr_ R r k < 7 from h7)] at h
      have e2 : (ap_ s (R (r * 31 + k))).2 = s.2 + 1 := rfl
      have e1 : (ap_ s (R (r * 31 + k))).1 = if s.2 < 31 then upd s.1 s.2 (R (r * 31 + k)) else s.1 := rfl
      have H := ih (k + 1) f (ap_ s (R (r * 31 + k))) (by omega) (by omega) (by omega) h
      rw [e1, e2] at H
      refine pk_le 31 s.2 (fun h1 => nm_r (nI_1 _) (nm_r (nI_1 _) ?_)) (fun h1 => ⟨vp_in_nI h1 (by omega), ?_⟩)
      · rw [if_neg (by omega)] at H; exact H
      · rw [if_pos h1] at H
        rw [nI_clamp (n := s.2) (by omega)]
        exact nm_e (nm_r (nI_1 _) (nm_r (nI_1 _) H))
    · rw [if_neg (show ¬ rr_ R r k < 7 from h7)] at h
      obtain ⟨j, hj, ej, _⟩ := sy_v (hR (r * 31 + k)) h7
      have hv3 : vp_in (R (r * 31 + k) - 7) 3 := by rw [ej]; exact vp_in_nI hj (by omega)
      obtain ⟨q1, q2⟩ := hq k (by omega) h7
      have q4 := en_le (a := sub) (n := n) (i := q (ix_ (rr_ R r k))) (by omega)
      have q5 := en_ge (a := sub) (n := n) (i := q (ix_ (rr_ R r k)))
      have g2 : bd (R (r * 31 + k) - 7).toNatClampNeg = nI (q (ix_ (rr_ R r k))) := q2
      refine ⟨hv3, nm_r g2 ?_⟩
      refine ye_end hn (by omega) ?_
      refine ya_tk (by omega) (by omega) (by omega) (nm_r (nI_1 _) ?_)
      have e2 := tk_2 sub (en_ sub n (q (ix_ (rr_ R r k))) - q (ix_ (rr_ R r k))) (q (ix_ (rr_ R r k))) s
      exact ih (k + 1) f _ (by omega) (by omega) (by omega) h
theorem xc_sub {post : Int32 → SX → Prop} {e : Nat} (he : e ≤ 31) : ∀ (c i f : Nat) (sub : Nat → Int32), i + c = e → c < f →
    post 1 (fp, ft, fr, nI e, nI e, stk, st, L, LS, R, RS, cp_ nx c i i sub, gS, gE, nx) →
    wX_rewriteWithGiven_45 post fp ft fr fs (nI e) f (nI i) stk st L LS R RS sub gS gE nx := by
  intro c
  induction c with
  | zero =>
    intro i f sub hi hf h
    obtain ⟨f, rfl⟩ : ∃ g, f = g + 1 := ⟨f - 1, by omega⟩
    exact br_t (nI_le (by omega) (by omega)) h
  | succ c ih =>
    intro i f sub hi hf h
    obtain ⟨f, rfl⟩ : ∃ g, f = g + 1 := ⟨f - 1, by omega⟩
    have hv : vp_in (nI i) 31 := vp_in_nI (by omega) (by omega)
    refine br_f (nI_ge (by omega) (by omega)) ⟨hv, hv, ?_⟩
    rw [nI_clamp (n := i) (by omega)]
    exact nm_e (nm_r (nI_1 _) (ih (i + 1) f _ (by omega) (by omega) h))
theorem yc_sub {post : Int32 → SY → Prop} {x : Int32} {e : Nat} (he : e ≤ 31) : ∀ (c i f : Nat) (sub : Nat → Int32), i + c = e → c < f →
    post x (yd, yr, nI e, stk, bg, L, LS, R, RS, cp_ nx c i i sub, nx, bd) →
    wY_step_44 post x yd yr (nI e) f (nI i) stk bg L LS R RS sub nx bd := by
  intro c
  induction c with
  | zero =>
    intro i f sub hi hf h
    obtain ⟨f, rfl⟩ : ∃ g, f = g + 1 := ⟨f - 1, by omega⟩
    exact br_t (nI_le (by omega) (by omega)) h
  | succ c ih =>
    intro i f sub hi hf h
    obtain ⟨f, rfl⟩ : ∃ g, f = g + 1 := ⟨f - 1, by omega⟩
    have hv : vp_in (nI i) 31 := vp_in_nI (by omega) (by omega)
    refine br_f (nI_ge (by omega) (by omega)) ⟨hv, hv, ?_⟩
    rw [nI_clamp (n := i) (by omega)]
    exact nm_e (nm_r (nI_1 _) (ih (i + 1) f _ (by omega) (by omega) h))
end
