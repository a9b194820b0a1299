/-- what is kept between calls -/
def rl_ (p d m n : Nat) (b : Nat → Nat) (stk st bg L LS R RS : Nat → Int32) : Prop :=
  (d ≤ 6 ∧ m ≤ 6 ∧ n ≤ 31 ∧ p ≤ 31) ∧ (b 0 = 0 ∧ b d = p ∧ ∀ t, t < d → b t < b (t + 1)) ∧ ((∀ t, t ≤ d → bg t = nI (b t)) ∧ ∀ t, t < d → st t = nI (b t)) ∧
  ((∀ i, sy_ok (stk i)) ∧ (∀ i, sy_ok (L i)) ∧ ∀ i, sy_ok (R i)) ∧ ∀ r, r < m → ri_ L LS R RS r
theorem rl_mono {b : Nat → Nat} {d : Nat} (h : ∀ t, t < d → b t < b (t + 1)) {t : Nat} (ht : t ≤ d) : b t ≤ b d := by
  obtain ⟨c, rfl⟩ : ∃ c, d = t + c := ⟨d - t, by omega⟩
  clear ht
  induction c with
  | zero => exact Nat.le_refl _
  | succ c ih =>
    have h1 := ih (fun s hs => h s (by omega))
    have h2 := h (t + c) (by omega)
    show b t ≤ b (t + c + 1)
    omega
theorem rl_R {L LS R RS : Nat → Int32} {m : Nat} (h : ∀ r, r < m → ri_ L LS R RS r) : ∀ r, r < m → ∃ l, l ≤ 7 ∧ LS r = nI l := fun r hr => by
  obtain ⟨l, q, h1, _, h2, _⟩ := h r hr
  exact ⟨l, h1, h2⟩
def i_Rel (_ : Nat) (u : SX) (v : SY) : Prop :=
  ∃ (p d m n : Nat) (b : Nat → Nat) (c : Int32) (stk st bg L LS R RS sub gS gE nx bd : Nat → Int32),
    u = (nI p, nI d, nI m, nI n, c, stk, st, L, LS, R, RS, sub, gS, gE, nx) ∧ v = (nI d, nI m, nI n, stk, bg, L, LS, R, RS, sub, nx, bd) ∧ rl_ p d m n b stk st bg L LS R RS
theorem rl_mk {k p d m n : Nat} {b : Nat → Nat} {c : Int32} {stk st bg L LS R RS sub gS gE nx bd : Nat → Int32} (h : rl_ p d m n b stk st bg L LS R RS) :
    i_Rel k (nI p, nI d, nI m, nI n, c, stk, st, L, LS, R, RS, sub, gS, gE, nx) (nI d, nI m, nI n, stk, bg, L, LS, R, RS, sub, nx, bd) :=
  ⟨p, d, m, n, b, c, stk, st, bg, L, LS, R, RS, sub, gS, gE, nx, bd, rfl, rfl, h⟩
theorem i_up {k : Nat} {u : SX} {v : SY} (h : i_Rel k u v) : i_Rel (k + 3) u v := h
theorem i_vc0 : wpX_init (fun u => wpY_init (fun v => i_Rel 0 u v)) := by
  have e : upd (fun _ => 0) 0 0 = fun _ => (0 : Int32) := by
    funext j
    unfold upd
    split <;> rfl
  refine nm_r e ?_
  refine rl_mk (k := 0) (p := 0) (d := 0) (m := 0) (n := 1) (b := fun _ => 0) ⟨⟨by omega, by omega, by omega, by omega⟩, ⟨rfl, rfl, fun t h => absurd h (by omega)⟩, ⟨fun t _ => rfl, fun t _ => rfl⟩, ⟨fun _ => sy_0, fun _ => sy_0, fun _ => sy_0⟩, fun r h => absurd h (by omega)⟩
theorem rl_build {p d m n q : Nat} {x : Int32} {b : Nat → Nat} {stk st bg L LS R RS : Nat → Int32} (h : rl_ p d m n b stk st bg L LS R RS) (hx : sy_ok x) (hp : p < 31) (hq : q ≤ d) (hd : d - q < 6) :
    rl_ (p + 1) (d - q + 1) m n (fun t => if t ≤ d - q then b t else p + 1) (upd (sh_ (b (d - q)) (p - b (d - q)) stk) (b (d - q)) x) (upd st (d - q) (nI (b (d - q)))) (upd bg (d - q + 1) (nI (p + 1))) L LS R RS := by
  obtain ⟨⟨h1, h2, h3, h4⟩, ⟨h5, h6, h7⟩, ⟨h8, h9⟩, ⟨h10, h11, h12⟩, h13⟩ := h
  have hm := rl_mono h7 (t := d - q) (by omega)
  refine ⟨⟨by omega, h2, h3, by omega⟩, ⟨?_, ?_, ?_⟩, ⟨?_, ?_⟩, ⟨sy_upd (sh_ok _ _ _ h10) _ hx, h11, h12⟩, h13⟩
  · dsimp only; rw [if_pos (by omega)]; exact h5
  · dsimp only; rw [if_neg (by omega)]
  · intro t ht
    dsimp only
    by_cases e : t = d - q
    · rw [if_pos (by omega), if_neg (by omega)]; rw [e]; omega
    · rw [if_pos (by omega), if_pos (by omega)]; exact h7 t (by omega)
  · intro t ht
    dsimp only
    by_cases e : t = d - q + 1
    · rw [if_neg (by omega), e, pk_us]
    · rw [if_pos (by omega), pk_un e]; exact h8 t (by omega)
  · intro t ht
    dsimp only
    rw [if_pos (by omega)]
    by_cases e : t = d - q
    · rw [e, pk_us]
    · rw [pk_un e]; exact h9 t (by omega)
theorem i_vc_build {k : Nat} {u : SX} {v : SY} (I : i_Rel k u v) (hk : k + 3 ≤ 1536) (v1 : Int32) : wpX_build (fun r u' => wpY_build (fun r' v' => r' = r ∧ i_Rel (k + 3) u' v') v v1) u v1 := by
  obtain ⟨p, d, m, n, b, c, stk, st, bg, L, LS, R, RS, sub, gS, gE, nx, bd, rfl, rfl, H⟩ := I
  have H' := H
  obtain ⟨⟨h1, h2, h3, h4⟩, ⟨h5, h6, h7⟩, ⟨h8, h9⟩, ⟨h10, h11, h12⟩, h13⟩ := H'
  by_cases h0 : v1 < 0
  · exact br_t h0 (br_t h0 ⟨rfl, rl_mk H⟩)
  · by_cases h99 : v1 ≤ 9
    · obtain ⟨j, hj, ej⟩ := nI_of2 (x := v1) (M := 9) (n := 9) (by decide) h0 h99
      have hsy : sy_ok v1 := ⟨j, hj, ej⟩
      have hpa := pa_le v1
      have hbd : bg (nI d).toNatClampNeg = nI p := by rw [nI_clamp (by omega), h8 d (Nat.le_refl _), h6]
      have Y : ∀ P : Int32 → SY → Prop, (((nI p = 31 → P (-2) (nI d, nI m, nI n, stk, bg, L, LS, R, RS, sub, nx, bd)) ∧ (¬ nI p = 31 → (((nI (pa_ v1) = 0 → (((nI d = 6 → P (-2) (nI d, nI m, nI n, stk, bg, L, LS, R, RS, sub, nx, bd)) ∧ (¬ nI d = 6 → (wY_build_50 P v1 (nI p) (nI (pa_ v1)) (nI d) (nI m) (nI n) stk bg L LS R RS sub nx bd))))) ∧ (¬ nI (pa_ v1) = 0 → (wY_build_50 P v1 (nI p) (nI (pa_ v1)) (nI d) (nI m) (nI n) stk bg L LS R RS sub nx bd))))))) → wpY_build P (nI d, nI m, nI n, stk, bg, L, LS, R, RS, sub, nx, bd) v1 :=
        fun P h => br_f h0 (br_t h99 ⟨vp_in_nI (by omega) (by omega), nm_r hbd (yp_parts h)⟩)
      refine br_f h0 (br_t h99 (xp_parts ?_))
      refine pk_le 31 p (fun z => Y _ (br_t ?_ ⟨rfl, rl_mk H⟩)) (fun z => ?_)
      · rw [show p = 31 from by omega]; rfl
      · have hp31 : ¬ nI p = 31 := fun z' => by
          have z'' : nI p = nI 31 := z'
          rw [nI_eq (by omega) (by omega)] at z''; omega
        have hmo := rl_mono h7 (t := d - pa_ v1) (by omega)
        have go : (pa_ v1 = 0 → d < 6) → wX_build_42 (fun r u' => wpY_build (fun r' v' => r' = r ∧ i_Rel (k + 3) u' v') (nI d, nI m, nI n, stk, bg, L, LS, R, RS, sub, nx, bd) v1) v1 (nI (pa_ v1)) (nI p) (nI d) (nI m) (nI n) c stk st L LS R RS sub gS gE nx := by
          intro hd
          have yy : ∀ P : Int32 → SY → Prop, wY_build_50 P v1 (nI p) (nI (pa_ v1)) (nI d) (nI m) (nI n) stk bg L LS R RS sub nx bd → wpY_build P (nI d, nI m, nI n, stk, bg, L, LS, R, RS, sub, nx, bd) v1 := by
            intro P hP
            refine Y P (br_f hp31 (pk_eq (pa_ v1) 0 (fun z0 => pk_eq d 6 (fun z6 => absurd (hd z0) (by omega)) (fun _ => hP)) (fun _ => hP)))
          by_cases hq : pa_ v1 ≤ d
          · by_cases hq6 : d - pa_ v1 < 6
            · refine xb_42 (s := b (d - pa_ v1)) z hq h1 hq6 (by omega) (fun e => ?_) (fun e => h9 _ (by omega)) ?_
              · rw [e, Nat.sub_zero]; exact h6
              · refine yy _ (yb_50 (s := b (d - pa_ v1)) z hq h1 hq6 (by omega) (h8 _ (by omega)) ⟨rfl, ?_⟩)
                exact rl_mk (rl_build H hsy z hq hq6)
            · exact absurd (hd (by omega)) (by omega)
          · exact br_f (nI_ge (by omega) (by omega)) (yy _ (br_f (nI_ge (by omega) (by omega)) ⟨rfl, rl_mk H⟩))
        refine pk_eq (pa_ v1) 0 (fun z0 => pk_lt d 6 (fun hd => go (fun _ => hd)) (fun hd => ?_)) (fun z0 => go (fun z' => absurd z' z0))
        refine Y _ (br_f hp31 (pk_eq (pa_ v1) 0 (fun _ => pk_eq d 6 (fun _ => ⟨rfl, rl_mk H⟩) (fun z6 => absurd h1 (by omega))) (fun z' => absurd z0 z')))
    · exact br_f h0 (br_f h99 (br_f h0 (br_f h99 ⟨rfl, rl_mk H⟩)))
theorem i_vc_depth {k : Nat} {u : SX} {v : SY} (I : i_Rel k u v) (hk : k + 3 ≤ 1536) : wpX_depth (fun r => wpY_depth (fun r' => r' = r ∧ i_Rel (k + 3) u v) v) u := by
  have I' := I
  obtain ⟨p, d, m, n, b, c, stk, st, bg, L, LS, R, RS, sub, gS, gE, nx, bd, rfl, rfl, H⟩ := I
  exact ⟨rfl, I'⟩
theorem i_vc_discard {k : Nat} {u : SX} {v : SY} (I : i_Rel k u v) (hk : k + 3 ≤ 1536) : wpX_discard (fun u' => wpY_discard (fun v' => i_Rel (k + 3) u' v') v) u := by
  obtain ⟨p, d, m, n, b, c, stk, st, bg, L, LS, R, RS, sub, gS, gE, nx, bd, rfl, rfl, H⟩ := I
  obtain ⟨⟨h1, h2, h3, h4⟩, ⟨h5, h6, h7⟩, ⟨h8, h9⟩, h10, h13⟩ := H
  refine rl_mk (k := k + 3) (p := 0) (d := 0) (b := b) ⟨⟨by omega, h2, h3, by omega⟩, ⟨h5, h5, fun t h => absurd h (by omega)⟩, ⟨fun t ht => h8 t (by omega), fun t h => absurd h (by omega)⟩, h10, h13⟩
theorem rl_rule {t m n e : Nat} {b : Nat → Nat} {stk st bg L LS R RS : Nat → Int32} (h : rl_ e (t + 2) m n b stk st bg L LS R RS) (hm : m < 6) (hlk : lk_ stk (b t) (b (t + 1))) (hrk : rk_ stk (b t) (b (t + 1)) e) :
    rl_ (b t) t (m + 1) n b stk st bg (cp_ stk (b (t + 1) - b t) (b t) (m * 7) L) (upd LS m (nI (b (t + 1) - b t))) (cp_ stk (e - b (t + 1)) (b (t + 1)) (m * 31) R) (upd RS m (nI (e - b (t + 1)))) := by
  obtain ⟨⟨h1, h2, h3, h4⟩, ⟨h5, h6, h7⟩, ⟨h8, h9⟩, ⟨h10, h11, h12⟩, h13⟩ := h
  have m0 := h7 t (by omega)
  have m1 : b (t + 1) < b (t + 2) := h7 (t + 1) (by omega)
  refine ⟨⟨by omega, by omega, h3, by omega⟩, ⟨h5, rfl, fun s hs => h7 s (by omega)⟩, ⟨fun s hs => h8 s (by omega), fun s hs => h9 s (by omega)⟩, ⟨h10, cp_ok stk h10 _ _ _ _ h11, cp_ok stk h10 _ _ _ _ h12⟩, ?_⟩
  intro r hr
  by_cases er : r = m
  · subst er
    have l7 := hlk.2.1
    refine ⟨b (t + 1) - b t, e - b (t + 1), l7, by omega, pk_us, pk_us, ?_⟩
    intro k hk hv
    have e1 : rr_ (cp_ stk (e - b (t + 1)) (b (t + 1)) (r * 31) R) r k = stk (b (t + 1) + k) := cp_in stk _ _ _ _ _ hk
    rw [e1] at hv ⊢
    obtain ⟨j, hj, _, ej⟩ := sy_v (h10 (b (t + 1) + k)) hv
    have hc : ∀ v, stk (b (t + 1) + k) = nI v → 0 < cn_ stk (nI v) (e - b (t + 1)) (b (t + 1)) := fun v hv => (cn_pos stk (nI v) _ _).mpr ⟨k, hk, hv⟩
    have hl : 0 < cn_ stk (nI (j + 7)) (b (t + 1) - b t) (b t) := by
      have h' := hc _ ej
      obtain ⟨k7, k8, k9⟩ := hrk
      have : j = 0 ∨ j = 1 ∨ j = 2 := by omega
      rcases this with rfl | rfl | rfl
      · exact k7 h'
      · exact k8 h'
      · exact k9 h'
    obtain ⟨k', hk', e2⟩ := (cn_pos stk _ _ _).mp hl
    refine ⟨k', hk', ?_⟩
    have e3 : lr_ (cp_ stk (b (t + 1) - b t) (b t) (r * 7) L) r k' = stk (b t + k') := cp_in stk _ _ _ _ _ hk'
    rw [e3, e2, ej]
  · obtain ⟨l, q, hl, hq, hl', hq', hV⟩ := h13 r (by omega)
    refine ⟨l, q, hl, hq, by rw [pk_un er]; exact hl', by rw [pk_un er]; exact hq', ?_⟩
    intro k hk hv
    have e1 : rr_ (cp_ stk (e - b (t + 1)) (b (t + 1)) (m * 31) R) r k = rr_ R r k := cp_out stk _ _ _ _ _ (Or.inl (by omega))
    rw [e1] at hv ⊢
    obtain ⟨k', hk', e2⟩ := hV k hk hv
    refine ⟨k', hk', ?_⟩
    have e3 : lr_ (cp_ stk (b (t + 1) - b t) (b t) (m * 7) L) r k' = lr_ L r k' := cp_out stk _ _ _ _ _ (Or.inl (by omega))
    rw [e3]; exact e2
theorem i_vc_rule {k : Nat} {u : SX} {v : SY} (I : i_Rel k u v) (hk : k + 3 ≤ 1536) : wpX_rule (fun r u' => wpY_rule (fun r' v' => r' = r ∧ i_Rel (k + 3) u' v') v) u := by
  obtain ⟨p, d, m, n, b, c, stk, st, bg, L, LS, R, RS, sub, gS, gE, nx, bd, rfl, rfl, H⟩ := I
  have H' := H
  obtain ⟨⟨h1, h2, h3, h4⟩, ⟨h5, h6, h7⟩, ⟨h8, h9⟩, ⟨h10, h11, h12⟩, h13⟩ := H'
  by_cases hm : m < 6
  · have hne : ¬ nI m = 6 := fun z => by
      have z' : nI m = nI 6 := z
      rw [nI_eq (by omega) (by omega)] at z'; omega
    by_cases hd : 2 ≤ d
    · obtain ⟨t, rfl⟩ : ∃ t, d = t + 2 := ⟨d - 2, by omega⟩
      have m0 := h7 t (by omega)
      have m1 : b (t + 1) < b (t + 2) := h7 (t + 1) (by omega)
      have b2 : bg (t + 2) = nI p := by rw [h8 _ (by omega), h6]
      refine xr_ru hm h1 (h9 t (by omega)) (h9 (t + 1) (by omega)) m0 (by omega) h4 h10 (fun z => ?_) (fun z => ?_)
      · exact yr_ru hm h1 (h8 t (by omega)) (h8 (t + 1) (by omega)) b2 m0 (by omega) h4 (fun _ => ⟨rfl, rl_mk (rl_rule H hm z.1 z.2)⟩) (fun z' => absurd z z')
      · exact yr_ru hm h1 (h8 t (by omega)) (h8 (t + 1) (by omega)) b2 m0 (by omega) h4 (fun z' => absurd z' z) (fun _ => ⟨rfl, rl_mk H⟩)
    · refine br_t (nI_lt (b := 6) hm (by omega)) (br_f (nI_ge (b := 2) (by omega) (by omega)) ?_)
      unfold wpY_rule
      exact br_f hne (yf_no (by omega) (br_t rfl ⟨rfl, rl_mk H⟩))
  · have hm6 : m = 6 := by omega
    subst hm6
    exact br_f (nI_nlt (b := 6) (by omega) (by omega)) (br_t rfl ⟨rfl, rl_mk H⟩)
theorem i_vc_unrule {k : Nat} {u : SX} {v : SY} (I : i_Rel k u v) (hk : k + 3 ≤ 1536) : wpX_unrule (fun r u' => wpY_unrule (fun r' v' => r' = r ∧ i_Rel (k + 3) u' v') v) u := by
  obtain ⟨p, d, m, n, b, c, stk, st, bg, L, LS, R, RS, sub, gS, gE, nx, bd, rfl, rfl, H⟩ := I
  have H' := H
  obtain ⟨⟨h1, h2, h3, h4⟩, h5, h8, h10, h13⟩ := H'
  refine pk_le 1 m (fun z => ?_) (fun z => ?_)
  · have e : nI m - 1 = nI (m - 1) := pk_sub (a := m) (b := 1) z
    refine nm_r e (br_f (nI_ne0 (by omega) (by omega)) (nm_r e ⟨rfl, rl_mk ⟨⟨h1, by omega, h3, h4⟩, h5, h8, h10, fun r hr => h13 r (by omega)⟩⟩))
  · obtain rfl : m = 0 := by omega
    exact br_t rfl ⟨rfl, rl_mk H⟩
theorem i_vc_rules {k : Nat} {u : SX} {v : SY} (I : i_Rel k u v) (hk : k + 3 ≤ 1536) : wpX_rules (fun r => wpY_rules (fun r' => r' = r ∧ i_Rel (k + 3) u v) v) u := by
  have I' := I
  obtain ⟨p, d, m, n, b, c, stk, st, bg, L, LS, R, RS, sub, gS, gE, nx, bd, rfl, rfl, H⟩ := I
  exact ⟨rfl, I'⟩
theorem i_vc_subject {k : Nat} {u : SX} {v : SY} (I : i_Rel k u v) (hk : k + 3 ≤ 1536) : wpX_subject (fun r u' => wpY_subject (fun r' v' => r' = r ∧ i_Rel (k + 3) u' v') v) u := by
  obtain ⟨p, d, m, n, b, c, stk, st, bg, L, LS, R, RS, sub, gS, gE, nx, bd, rfl, rfl, H⟩ := I
  have H' := H
  obtain ⟨⟨h1, h2, h3, h4⟩, ⟨h5, h6, h7⟩, ⟨h8, h9⟩, ⟨h10, h11, h12⟩, h13⟩ := H'
  by_cases hd : 1 ≤ d
  · obtain ⟨t, rfl⟩ : ∃ t, d = t + 1 := ⟨d - 1, by omega⟩
    have m0 := h7 t (by omega)
    have b1 : bg (t + 1) = nI p := by rw [h8 _ (by omega), h6]
    refine xj_su h1 (h9 t (by omega)) (by omega) h4 h10 (fun z => ?_) (fun z => ?_)
    · refine yj_su h1 (h8 t (by omega)) b1 (by omega) h4 (fun _ => ⟨rfl, rl_mk (b := b) ?_⟩) (fun z' => absurd z z')
      exact ⟨⟨by omega, h2, by omega, by omega⟩, ⟨h5, rfl, fun s hs => h7 s (by omega)⟩, ⟨fun s hs => h8 s (by omega), fun s hs => h9 s (by omega)⟩, ⟨h10, h11, h12⟩, h13⟩
    · exact yj_su h1 (h8 t (by omega)) b1 (by omega) h4 (fun z' => absurd z' z) (fun _ => ⟨rfl, rl_mk H⟩)
  · obtain rfl : d = 0 := by omega
    exact br_f (nI_ge (b := 1) (by omega) (by omega)) (br_t rfl ⟨rfl, rl_mk H⟩)
theorem i_vc_size {k : Nat} {u : SX} {v : SY} (I : i_Rel k u v) (hk : k + 3 ≤ 1536) : wpX_size (fun r => wpY_size (fun r' => r' = r ∧ i_Rel (k + 3) u v) v) u := by
  have I' := I
  obtain ⟨p, d, m, n, b, c, stk, st, bg, L, LS, R, RS, sub, gS, gE, nx, bd, rfl, rfl, H⟩ := I
  exact ⟨rfl, I'⟩
theorem i_vc_symbol {k : Nat} {u : SX} {v : SY} (I : i_Rel k u v) (hk : k + 3 ≤ 1536) (v1 : Int32) : wpX_symbol (fun r => wpY_symbol (fun r' => r' = r ∧ i_Rel (k + 3) u v) v v1) u v1 := by
  have I' := I
  obtain ⟨p, d, m, n, b, c, stk, st, bg, L, LS, R, RS, sub, gS, gE, nx, bd, rfl, rfl, H⟩ := I
  have hn := H.1.2.2.1
  unfold wpX_symbol
  rcases ix_c v1 hn with h | ⟨h0, h⟩ | ⟨j, hj, rfl⟩
  · exact br_t h (br_t rfl (br_t h ⟨rfl, I'⟩))
  · exact br_f h0 (br_t h (br_t rfl (br_f h0 (br_t h ⟨rfl, I'⟩))))
  · have v1 : vp_in (nI j) 31 := vp_in_nI (by omega) (by omega)
    exact xi_c hn (by omega) (fun z => absurd z (by omega)) (fun _ => ⟨v1, br_f (nI_pos (by omega)) (br_f (nI_ge hj (by omega)) ⟨v1, rfl, I'⟩)⟩)
theorem i_vc_fits {k : Nat} {u : SX} {v : SY} (I : i_Rel k u v) (hk : k + 3 ≤ 1536) (v1 : Int32) : wpX_fits (fun r u' => wpY_fits (fun r' v' => r' = r ∧ i_Rel (k + 3) u' v') v v1) u v1 := by
  obtain ⟨p, d, m, n, b, c, stk, st, bg, L, LS, R, RS, sub, gS, gE, nx, bd, rfl, rfl, H⟩ := I
  have H' := H
  obtain ⟨⟨h1, h2, h3, h4⟩, _, _, ⟨h10, h11, h12⟩, h13⟩ := H'
  rcases ix_c v1 h3 with h | h | ⟨j, hj, rfl⟩
  · exact fo_x (Or.inl h) (fo_y (Or.inl h) ⟨rfl, rl_mk H⟩)
  · exact fo_x (Or.inr h) (fo_y (Or.inr h) ⟨rfl, rl_mk H⟩)
  · obtain ⟨x, g1, g2, hA, _, hP⟩ := fi_x (fp := nI p) (ft := nI d) (fn := c) (stk := stk) (st := st) (R := R) (RS := RS) (nx := nx) (sub := sub) gS gE h3 h2 hj h11 (rl_R h13)
    obtain ⟨y, d1, hA1, _, hP1⟩ := fi_y (yd := nI d) (stk := stk) (bg := bg) (R := R) (RS := RS) (nx := nx) (sub := sub) bd h3 h2 hj h11 (rl_R h13)
    exact hP _ (hP1 _ ⟨fa_u hA hA1, rl_mk H⟩)
theorem i_vc_redexes {k : Nat} {u : SX} {v : SY} (I : i_Rel k u v) (hk : k + 3 ≤ 1536) : wpX_redexes (fun r u' => wpY_redexes (fun r' v' => r' = r ∧ i_Rel (k + 3) u' v') v) u := by
  obtain ⟨p, d, m, n, b, c, stk, st, bg, L, LS, R, RS, sub, gS, gE, nx, bd, rfl, rfl, H⟩ := I
  have H' := H
  obtain ⟨⟨h1, h2, h3, h4⟩, _, _, ⟨h10, h11, h12⟩, h13⟩ := H'
  obtain ⟨r, g1, g2, d1, hX, hY⟩ := rd_lp (fp := nI p) (ft := nI d) (fn := c) (stk := stk) (st := st) (R := R) (RS := RS) (nx := nx) (sub := sub) (yd := nI d) (bg := bg) h3 h2 h11 (rl_R h13) n 0 0 gS gE bd (by omega)
  exact ⟨n + 1, hX _ ⟨n + 1, hY _ ⟨rfl, rl_mk H⟩⟩⟩
theorem i_vc_step {k : Nat} {u : SX} {v : SY} (I : i_Rel k u v) (hk : k + 3 ≤ 1536) : wpX_step (fun r u' => wpY_step (fun r' v' => r' = r ∧ i_Rel (k + 3) u' v') v) u := by
  obtain ⟨p, d, m, n, b, c, stk, st, bg, L, LS, R, RS, sub, gS, gE, nx, bd, rfl, rfl, H⟩ := I
  obtain ⟨⟨h1, h2, h3, h4⟩, h5, h8, ⟨h10, h11, h12⟩, h13⟩ := H
  obtain ⟨x, n1, c1, s1, x1, g1, g2, d1, hn1, hX, hY⟩ := sp_all (fp := nI p) (ft := nI d) (fn := c) (stk := stk) (st := st) (nx := nx) (sub := sub) (yd := nI d) (bg := bg) gS gE bd h3 h2 h11 h12 h13
  exact hX _ (hY _ ⟨rfl, rl_mk ⟨⟨h1, h2, hn1, h4⟩, h5, h8, ⟨h10, h11, h12⟩, h13⟩⟩)
theorem i_vc_run {k : Nat} {u : SX} {v : SY} (I : i_Rel k u v) (hk : k + 3 ≤ 1536) (v1 : Int32) : wpX_run (fun r u' => wpY_run (fun r' v' => r' = r ∧ i_Rel (k + 3) u' v') v v1) u v1 := by
  obtain ⟨p, d, m, n, b, c, stk, st, bg, L, LS, R, RS, sub, gS, gE, nx, bd, rfl, rfl, H⟩ := I
  obtain ⟨⟨h1, h2, h3, h4⟩, h5, h8, ⟨h10, h11, h12⟩, h13⟩ := H
  obtain ⟨x, n1, c1, s1, x1, g1, g2, d1, hn1, hX, hY⟩ := rn_lp (fp := nI p) (ft := nI d) (stk := stk) (st := st) (yd := nI d) (bg := bg) (x := v1) h2 h11 h12 h13 40 0 n c sub nx gS gE bd (by omega) h3
  exact ⟨41, hX _ ⟨42, hY _ ⟨rfl, rl_mk ⟨⟨h1, h2, hn1, h4⟩, h5, h8, ⟨h10, h11, h12⟩, h13⟩⟩⟩⟩
theorem i_vc_sizeAt {k : Nat} {u : SX} {v : SY} (I : i_Rel k u v) (hk : k + 3 ≤ 1536) (v1 : Int32) : wpX_sizeAt (fun r => wpY_sizeAt (fun r' => r' = r ∧ i_Rel (k + 3) u v) v v1) u v1 := by
  have I' := I
  obtain ⟨p, d, m, n, b, c, stk, st, bg, L, LS, R, RS, sub, gS, gE, nx, bd, rfl, rfl, H⟩ := I
  have hn := H.1.2.2.1
  rcases ix_c v1 hn with h | h | ⟨j, hj, rfl⟩
  · exact xz_out (Or.inl h) (br_t h ⟨rfl, I'⟩)
  · exact xz_out (Or.inr h) (br_f h.1 (br_t h.2 ⟨rfl, I'⟩))
  · refine xz_in hn hj ?_
    unfold wpY_sizeAt
    refine br_f (nI_pos (by omega)) (br_f (nI_ge hj (by omega)) (ye_end hn (by omega) ⟨pk_sub en_ge, I'⟩))
theorem i_vc_same {k : Nat} {u : SX} {v : SY} (I : i_Rel k u v) (hk : k + 3 ≤ 1536) (v1 : Int32) (v2 : Int32) : wpX_same (fun r => wpY_same (fun r' => r' = r ∧ i_Rel (k + 3) u v) v v1 v2) u v1 v2 := by
  have I' := I
  obtain ⟨p, d, m, n, b, c, stk, st, bg, L, LS, R, RS, sub, gS, gE, nx, bd, rfl, rfl, H⟩ := I
  have hn := H.1.2.2.1
  unfold wpX_same
  rcases ix_c v1 hn with h | h | ⟨i, hi, rfl⟩
  · exact xz_out (Or.inl h) (br_t rfl (br_t h ⟨rfl, I'⟩))
  · exact xz_out (Or.inr h) (br_t rfl (br_f h.1 (br_t h.2 ⟨rfl, I'⟩)))
  · have ei := en_le (a := sub) (n := n) (i := i) (by omega)
    have gi := en_gt (a := sub) (n := n) (i := i) hi
    have n4 : ¬ nI (en_ sub n i - i) = -4 := ar_n10 (by omega)
    refine xz_in hn hi (br_f n4 ?_)
    rcases ix_c v2 hn with h | h | ⟨j, hj, rfl⟩
    · exact xz_out (Or.inl h) (br_f n4 (br_f (nI_pos (by omega)) (br_f (nI_ge hi (by omega)) (br_t h ⟨rfl, I'⟩))))
    · exact xz_out (Or.inr h) (br_f n4 (br_f (nI_pos (by omega)) (br_f (nI_ge hi (by omega)) (br_f h.1 (br_f (Int32.not_lt.mpr h.2) ⟨rfl, I'⟩)))))
    · have ej := en_le (a := sub) (n := n) (i := j) (by omega)
      have gj := en_gt (a := sub) (n := n) (i := j) hj
      have Y : ∀ P : Int32 → Prop, ((nI (en_ sub n j - j) = nI (en_ sub n i - i) → ∃ n50, wY_same_50 P (nI i) (nI j) (nI (en_ sub n i - i)) (nI d) (nI m) (nI n) stk bg L LS R RS sub nx bd n50 0) ∧ (¬ nI (en_ sub n j - j) = nI (en_ sub n i - i) → P 0)) → wpY_same P (nI d, nI m, nI n, stk, bg, L, LS, R, RS, sub, nx, bd) (nI i) (nI j) := by
        intro P hP
        unfold wpY_same
        refine br_f (nI_pos (by omega)) (br_f (nI_ge hi (by omega)) (br_f (nI_pos (by omega)) (br_t (nI_lt hj (by omega)) ?_)))
        refine ye_end hn (by omega) (nm_r (pk_sub en_ge) ?_)
        refine ye_end hn (by omega) ?_
        rw [pk_sub en_ge]
        exact hP
      refine xz_in hn hj (br_c (fun z => ?_) (fun z => Y _ (br_f (fun z' => z z'.symm) ⟨rfl, I'⟩)))
      have zz : en_ sub n i - i = en_ sub n j - j := by rw [nI_eq (by omega) (by omega)] at z; exact z
      obtain ⟨r, hX, hY⟩ := sm_lp (n := n) (fp := nI p) (ft := nI d) (fr := nI m) (fs := nI n) (fn := c) (stk := stk) (st := st) (L := L) (LS := LS) (R := R) (RS := RS) (sub := sub) (gS := gS) (gE := gE) (nx := nx) (yd := nI d) (yr := nI m) (ys := nI n) (bg := bg) (bd := bd) (i := i) (j := j) (l := en_ sub n i - i) (by omega) (by omega) (en_ sub n i - i) 0 (by omega)
      exact ⟨_, hX _ (Y _ (br_t z.symm ⟨_, hY _ ⟨rfl, I'⟩⟩))⟩
theorem i_vc_digest {k : Nat} {u : SX} {v : SY} (I : i_Rel k u v) (hk : k + 3 ≤ 1536) : wpX_digest (fun r => wpY_digest (fun r' => r' = r ∧ i_Rel (k + 3) u v) v) u := by
  have I' := I
  obtain ⟨p, d, m, n, b, c, stk, st, bg, L, LS, R, RS, sub, gS, gE, nx, bd, rfl, rfl, H⟩ := I
  have hn := H.1.2.2.1
  obtain ⟨r, hX, hY⟩ := dg_lp (fp := nI p) (ft := nI d) (fr := nI m) (fn := c) (stk := stk) (st := st) (L := L) (LS := LS) (R := R) (RS := RS) (sub := sub) (gS := gS) (gE := gE) (nx := nx) (yd := nI d) (yr := nI m) (bg := bg) (bd := bd) hn n 0 0 (by omega)
  exact ⟨n + 1, hX _ ⟨n + 1, hY _ ⟨rfl, I'⟩⟩⟩
