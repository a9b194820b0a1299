section
variable {fp ft fr fs fn yd yr ys : Int32} {stk st L LS R RS sub gS gE nx bg bd : Nat → Int32}
theorem yk_lp {post : Int32 → Prop} {x : Int32} {t e : Nat} (ht : t + 1 < 7) (hb : bg (t + 1) = nI e) (he : e ≤ 31) : ∀ (c i f k : Nat), i + c = e → c < f → k + c ≤ 1000 →
    post (nI (k + cn_ stk x c i)) →
    wY_countIn_10 post (nI t) x yd yr ys stk bg L LS R RS sub nx bd f (nI k) (nI i) := by
  have hct : (nI t + 1).toNatClampNeg = t + 1 := by rw [nI_1, nI_clamp (by omega)]
  have hvt : vp_in (nI t + 1) 7 := by rw [nI_1]; exact vp_in_nI (by omega) (by omega)
  intro c
  induction c with
  | zero =>
    intro i f k hi hf hk h
    obtain ⟨f, rfl⟩ : ∃ g, f = g + 1 := ⟨f - 1, by omega⟩
    refine ⟨hvt, br_t ?_ h⟩
    rw [hct, hb]; exact nI_le (by omega) (by omega)
  | succ c ih =>
    intro i f k hi hf hk h
    obtain ⟨f, rfl⟩ : ∃ g, f = g + 1 := ⟨f - 1, by omega⟩
    have hu : cn_ stk x (c + 1) i = on_ (stk i) x + cn_ stk x c (i + 1) := rfl
    rw [hu] at h
    refine ⟨hvt, br_f ?_ ⟨vp_in_nI (by omega) (by omega), ?_⟩⟩
    · rw [hct, hb]; exact nI_ge (by omega) (by omega)
    · rw [nI_clamp (n := i) (by omega)]
      refine br_c (fun z => nm_r (nI_1 _) (nm_r (nI_1 _) (ih (i + 1) f (k + 1) (by omega) (by omega) (by omega) ?_))) (fun z => nm_r (nI_1 _) (ih (i + 1) f k (by omega) (by omega) (by omega) ?_))
      · rw [show on_ (stk i) x = 1 from if_pos z, ← Nat.add_assoc] at h; exact h
      · rw [show on_ (stk i) x = 0 from if_neg z, Nat.zero_add] at h; exact h
theorem yk_ct {post : Int32 → Prop} {x : Int32} {t s e : Nat} (ht : t + 1 < 7) (hs : bg t = nI s) (hb : bg (t + 1) = nI e) (hse : s ≤ e) (he : e ≤ 31) (h : post (nI (cn_ stk x (e - s) s))) :
    wpY_countIn post (yd, yr, ys, stk, bg, L, LS, R, RS, sub, nx, bd) (nI t) x := by
  have hct : (nI t).toNatClampNeg = t := nI_clamp (by omega)
  refine ⟨vp_in_nI (by omega) (by omega), nm_r (e' := nI s) (by rw [hct, hs]) ⟨e - s + 1, ?_⟩⟩
  exact yk_lp ht hb he (e - s) s (e - s + 1) 0 (by omega) (by omega) (by omega) (by rw [Nat.zero_add]; exact h)
theorem xk_lp {post : Int32 → Prop} {e : Nat} (he : e ≤ 31) (hk : ∀ i, sy_ok (stk i)) : ∀ (c i f A B C : Nat), i + c = e → c < f →
    post (mc_ (A + cn_ stk (nI 7) c i) (B + cn_ stk (nI 8) c i) (C + cn_ stk (nI 9) c i)) →
    wX_variablesOnStack_5 post (nI e) fp ft fr fs fn stk st L LS R RS sub gS gE nx f (mc_ A B C) (nI i) := by
  intro c
  induction c with
  | zero =>
    intro i f A B C hi hf h
    obtain ⟨f, rfl⟩ : ∃ g, f = g + 1 := ⟨f - 1, by omega⟩
    exact br_t (nI_le (by omega) (by omega)) h
  | succ c ih =>
    intro i f A B C hi hf h
    obtain ⟨f, rfl⟩ : ∃ g, f = g + 1 := ⟨f - 1, by omega⟩
    refine br_f (nI_ge (by omega) (by omega)) ⟨vp_in_nI (by omega) (by omega), ?_⟩
    rw [nI_clamp (n := i) (by omega)]
    refine xb_vb (hk i) (nm_r (mc_or A B C (stk i)) (nm_r (nI_1 _) (ih (i + 1) f _ _ _ (by omega) (by omega) ?_)))
    rw [Nat.add_assoc, Nat.add_assoc, Nat.add_assoc]; exact h
theorem xk_vs {post : Int32 → Prop} {s e : Nat} (he : e ≤ 31) (hs : s ≤ e) (hk : ∀ i, sy_ok (stk i))
    (h : post (mc_ (cn_ stk (nI 7) (e - s) s) (cn_ stk (nI 8) (e - s) s) (cn_ stk (nI 9) (e - s) s))) :
    wpX_variablesOnStack post (fp, ft, fr, fs, fn, stk, st, L, LS, R, RS, sub, gS, gE, nx) (nI s) (nI e) := by
  refine ⟨e - s + 1, ?_⟩
  have z : (0 : Int32) = mc_ 0 0 0 := by decide +kernel
  rw [z]
  exact xk_lp he hk (e - s) s (e - s + 1) 0 0 0 (by omega) (by omega) (by rw [Nat.zero_add, Nat.zero_add, Nat.zero_add]; exact h)
theorem xl_lp {post : Int32 → Prop} {e : Nat} (he : e ≤ 31) (hk : ∀ i, sy_ok (stk i)) : ∀ (c i f A B C : Nat), i + c = e → c < f → A ≤ 1 → B ≤ 1 → C ≤ 1 →
    ((A + cn_ stk (nI 7) c i ≤ 1 ∧ B + cn_ stk (nI 8) c i ≤ 1 ∧ C + cn_ stk (nI 9) c i ≤ 1) → post 1) →
    (¬ (A + cn_ stk (nI 7) c i ≤ 1 ∧ B + cn_ stk (nI 8) c i ≤ 1 ∧ C + cn_ stk (nI 9) c i ≤ 1) → post 0) →
    wX_canBeLeft_27 post (nI e) fp ft fr fs fn stk st L LS R RS sub gS gE nx f (mc_ A B C) (nI i) := by
  intro c
  induction c with
  | zero =>
    intro i f A B C hi hf hA hB hC h1 h0
    obtain ⟨f, rfl⟩ : ∃ g, f = g + 1 := ⟨f - 1, by omega⟩
    exact br_t (nI_le (by omega) (by omega)) (h1 ⟨hA, hB, hC⟩)
  | succ c ih =>
    intro i f A B C hi hf hA hB hC h1 h0
    obtain ⟨f, rfl⟩ : ∃ g, f = g + 1 := ⟨f - 1, by omega⟩
    have hu : ∀ x, cn_ stk x (c + 1) i = on_ (stk i) x + cn_ stk x c (i + 1) := fun _ => rfl
    rw [hu, hu, hu, ← Nat.add_assoc, ← Nat.add_assoc, ← Nat.add_assoc] at h1 h0
    refine br_f (nI_ge (by omega) (by omega)) ⟨vp_in_nI (by omega) (by omega), ?_⟩
    rw [nI_clamp (n := i) (by omega)]
    refine xb_vb (hk i) (br_c (fun z => ?_) (fun z => ?_))
    · obtain ⟨a, b, c'⟩ := (mc_and hA hB hC).mp z
      exact nm_r (mc_or A B C (stk i)) (nm_r (nI_1 _) (ih (i + 1) f _ _ _ (by omega) (by omega) a b c' h1 h0))
    · refine h0 (fun ⟨a, b, c'⟩ => z ((mc_and hA hB hC).mpr ⟨?_, ?_, ?_⟩)) <;> omega
theorem xl_cb {post : Int32 → Prop} {s e : Nat} (he : e ≤ 31) (hs : s < e) (hk : ∀ i, sy_ok (stk i)) (h1 : lk_ stk s e → post 1) (h0 : ¬ lk_ stk s e → post 0) :
    wpX_canBeLeft post (fp, ft, fr, fs, fn, stk, st, L, LS, R, RS, sub, gS, gE, nx) (nI s) (nI e) := by
  refine ⟨vp_in_nI (by omega) (by omega), ?_⟩
  rw [nI_clamp (n := s) (by omega)]
  refine xv_c (fun h7 => ?_) (fun h7 => h0 (fun z => h7 z.1))
  rw [pk_sub (by omega)]
  refine pk_le (e - s) 7 (fun h => ⟨e - s + 1, ?_⟩) (fun h => h0 (fun z => by have := z.2.1; omega))
  have z : (0 : Int32) = mc_ 0 0 0 := by decide +kernel
  rw [z]
  refine xl_lp he hk (e - s) s (e - s + 1) 0 0 0 (by omega) (by omega) (by omega) (by omega) (by omega) (fun H => ?_) (fun H => ?_)
  · rw [Nat.zero_add, Nat.zero_add, Nat.zero_add] at H; exact h1 ⟨h7, h, H⟩
  · rw [Nat.zero_add, Nat.zero_add, Nat.zero_add] at H; exact h0 (fun z => H z.2.2)
theorem xr_cb {post : Int32 → Prop} {s m e : Nat} (he : e ≤ 31) (hs : s ≤ m) (hm : m ≤ e) (hk : ∀ i, sy_ok (stk i)) (h1 : rk_ stk s m e → post 1) (h0 : ¬ rk_ stk s m e → post 0) :
    wpX_canBeRight post (nI e, ft, fr, fs, fn, stk, st, L, LS, R, RS, sub, gS, gE, nx) (nI s) (nI m) := by
  unfold wpX_canBeRight
  refine xk_vs (by omega) hs hk ?_
  refine xk_vs he hm hk ?_
  exact br_c (fun z => h1 (mc_nt.mp z)) (fun z => h0 (fun z' => z (mc_nt.mpr z')))
/-- what isFit asks of one variable -/
def gd_ (a : Nat → Int32) (s m e v : Nat) : Prop := cn_ a (nI v) (m - s) s ≤ 1 ∧ (cn_ a (nI v) (m - s) s = 0 → cn_ a (nI v) (e - m) m = 0)
theorem yf_st {post : Int32 → Prop} {t s m e v f : Nat} (ht : t + 2 < 7) (b0 : bg t = nI s) (b1 : bg (t + 1) = nI m) (b2 : bg (t + 2) = nI e) (hs : s ≤ m) (hm : m ≤ e) (he : e ≤ 31) (hv : v < 10)
    (h1 : gd_ stk s m e v → wY_isFit_58 post (nI t) yd yr ys stk bg L LS R RS sub nx bd f (nI (v + 1))) (h0 : ¬ gd_ stk s m e v → post 0) :
    wY_isFit_58 post (nI t) yd yr ys stk bg L LS R RS sub nx bd (f + 1) (nI v) := by
  refine br_f (nI_ge (b := 10) hv (by omega)) ?_
  have c1 := cn_le stk (nI v) (m - s) s
  have c2 := cn_le stk (nI v) (e - m) m
  refine yk_ct (by omega) b0 b1 hs (by omega) ?_
  refine pk_lt 1 (cn_ stk (nI v) (m - s) s) (fun h => h0 (fun z => by have := z.1; omega)) (fun h => pk_eq (cn_ stk (nI v) (m - s) s) 0 (fun hz => ?_) (fun hz => ?_))
  · rw [nI_1 t]
    refine yk_ct (t := t + 1) (by omega) b1 b2 hm he ?_
    refine pk_le (cn_ stk (nI v) (e - m) m) 0 (fun h' => nm_r (nI_1 _) (h1 ⟨h, fun _ => by omega⟩)) (fun h' => h0 (fun z => by have := z.2 hz; omega))
  · exact nm_r (nI_1 _) (h1 ⟨h, fun z => absurd z hz⟩)
theorem gd_k {a : Nat → Int32} {s m e : Nat} (h7 : a s < 7) (hl : m - s ≤ 7) : (gd_ a s m e 7 ∧ gd_ a s m e 8 ∧ gd_ a s m e 9) ↔ (lk_ a s m ∧ rk_ a s m e) := by
  unfold gd_ lk_ rk_
  constructor
  · rintro ⟨⟨a1, a2⟩, ⟨b1, b2⟩, c1, c2⟩
    refine ⟨⟨h7, hl, a1, b1, c1⟩, ?_, ?_, ?_⟩ <;> omega
  · rintro ⟨⟨_, _, a1, b1, c1⟩, a2, b2, c2⟩
    refine ⟨⟨a1, ?_⟩, ⟨b1, ?_⟩, c1, ?_⟩ <;> omega
theorem yf_ok {post : Int32 → Prop} {t s m e : Nat} (ht : t + 2 < 7) (b0 : bg t = nI s) (b1 : bg (t + 1) = nI m) (b2 : bg (t + 2) = nI e) (hs : s < m) (hm : m ≤ e) (he : e ≤ 31)
    (h1 : lk_ stk s m ∧ rk_ stk s m e → post 1) (h0 : ¬ (lk_ stk s m ∧ rk_ stk s m e) → post 0) :
    wpY_isFit post (nI (t + 2), yr, ys, stk, bg, L, LS, R, RS, sub, nx, bd) := by
  have ct : (nI t).toNatClampNeg = t := nI_clamp (by omega)
  have ct1 : (nI (t + 1)).toNatClampNeg = t + 1 := nI_clamp (by omega)
  unfold wpY_isFit
  refine nm_r (e' := nI t) (pk_sub (a := t + 2) (b := 2) (by omega)) (br_f (nI_nlt (b := 2) (by omega) (by omega)) ⟨vp_in_nI (by omega) (by omega), ?_, ?_⟩)
  · rw [ct, b0]; exact vp_in_nI (by omega) (by omega)
  · rw [nI_1 t, ct, ct1, b0, b1, nI_clamp (n := s) (by omega)]
    refine yv_c (fun h7 => ⟨vp_in_nI (by omega) (by omega), vp_in_nI (by omega) (by omega), ?_⟩) (fun h7 => h0 (fun z => h7 z.1.1))
    rw [pk_sub (by omega)]
    refine pk_le (m - s) 7 (fun hl => ⟨4, ?_⟩) (fun hl => h0 (fun z => by have := z.1.2.1; omega))
    refine yf_st (v := 7) ht b0 b1 b2 (by omega) hm he (by omega) (fun g7 => ?_) (fun g => h0 (fun z => g ((gd_k h7 hl).mpr z).1))
    refine yf_st (v := 8) ht b0 b1 b2 (by omega) hm he (by omega) (fun g8 => ?_) (fun g => h0 (fun z => g ((gd_k h7 hl).mpr z).2.1))
    refine yf_st (v := 9) ht b0 b1 b2 (by omega) hm he (by omega) (fun g9 => ?_) (fun g => h0 (fun z => g ((gd_k h7 hl).mpr z).2.2))
    exact br_t (nI_le (a := 10) (b := 10) (by omega) (by omega)) (h1 ((gd_k h7 hl).mp ⟨g7, g8, g9⟩))
theorem yf_no {post : Int32 → Prop} {d : Nat} (hd : d < 2) (h0 : post 0) :
    wpY_isFit post (nI d, yr, ys, stk, bg, L, LS, R, RS, sub, nx, bd) := by
  unfold wpY_isFit
  exact nm_e (br_t (nI_lt (b := 2) hd (by omega)) h0)
end
