/-- the given-slot of a variable -/
def ix_ (x : Int32) : Nat := (x - 7).toNatClampNeg
/-- the place at step k of a match of the row f at place i -/
def ps_ (a : Nat → Int32) (n : Nat) (f : Nat → Int32) (i : Nat) : Nat → Nat
  | 0 => i
  | k + 1 => if f k < 7 then ps_ a n f i k + 1 else en_ a n (ps_ a n f i k)
/-- where the variable of slot j was last given its part, k steps on -/
def bp_ (a : Nat → Int32) (n : Nat) (f : Nat → Int32) (i : Nat) : Nat → Nat → Nat
  | 0, _ => 0
  | k + 1, j => if f k < 7 then bp_ a n f i k j else if j = ix_ (f k) then ps_ a n f i k else bp_ a n f i k j
/-- step k of the match goes through -/
def so_ (a : Nat → Int32) (n : Nat) (f : Nat → Int32) (i k : Nat) : Prop := ps_ a n f i k < n ∧ (f k < 7 → f k = a (ps_ a n f i k))
/-- the array g holds h of the places of the variables seen in k steps -/
def iv_ (a : Nat → Int32) (n : Nat) (f : Nat → Int32) (i : Nat) (g : Nat → Int32) (h : Nat → Int32) (k : Nat) : Prop :=
  ∀ k', k' < k → ¬ f k' < 7 → g (ix_ (f k')) = h (bp_ a n f i k (ix_ (f k')))
theorem iv_0 {a f g h : Nat → Int32} {n i : Nat} : iv_ a n f i g h 0 := fun k' hk => absurd hk (by omega)
theorem iv_lit {a f g h : Nat → Int32} {n i k : Nat} (h7 : f k < 7) (H : iv_ a n f i g h k) : iv_ a n f i g h (k + 1) := by
  intro k' hk hv
  have hne : k' ≠ k := fun e => hv (e ▸ h7)
  have := H k' (by omega) hv
  unfold bp_
  rw [if_pos h7]; exact this
theorem iv_var {a f g h : Nat → Int32} {n i k : Nat} (h7 : ¬ f k < 7) (H : iv_ a n f i g h k) : iv_ a n f i (upd g (ix_ (f k)) (h (ps_ a n f i k))) h (k + 1) := by
  intro k' hk hv
  unfold bp_
  rw [if_neg h7]
  by_cases e : ix_ (f k') = ix_ (f k)
  · rw [e, pk_us, if_pos rfl]
  · rw [pk_un e, if_neg e]
    have hne : k' ≠ k := fun e' => e (by rw [e'])
    exact H k' (by omega) hv
theorem bp_lt {a f : Nat → Int32} {n i : Nat} : ∀ k, (∀ k', k' < k → ps_ a n f i k' < n) → ∀ k', k' < k → ¬ f k' < 7 → bp_ a n f i k (ix_ (f k')) < n := by
  intro k
  induction k with
  | zero => intro _ k' hk; omega
  | succ k ih =>
    intro H k' hk hv
    unfold bp_
    by_cases h7 : f k < 7
    · rw [if_pos h7]
      have hne : k' ≠ k := fun e => hv (e ▸ h7)
      exact ih (fun j hj => H j (by omega)) k' (by omega) hv
    · rw [if_neg h7]
      by_cases e : ix_ (f k') = ix_ (f k)
      · rw [if_pos e]; exact H k (by omega)
      · rw [if_neg e]
        have hne : k' ≠ k := fun e' => e (by rw [e'])
        exact ih (fun j hj => H j (by omega)) k' (by omega) hv
/-- the row of a rule's left side, and its length -/
def lr_ (L : Nat → Int32) (r : Nat) : Nat → Int32 := fun k => L (r * 7 + k)
def ll_ (LS : Nat → Int32) (r : Nat) : Nat := (LS r).toNatClampNeg
/-- rule r fits at place i -/
def mt_ (a : Nat → Int32) (n : Nat) (L LS : Nat → Int32) (r i : Nat) : Prop := ∀ k, k < ll_ LS r → so_ a n (lr_ L r) i k
section
variable {fp ft fr fs fn yd yr ys : Int32} {stk st L LS R RS sub gS gE nx bg bd : Nat → Int32}
theorem ma_x {n r i l : Nat} (hn : n ≤ 31) (hr : r < 6) (hl : LS r = nI l) (hl7 : l ≤ 7) (hL : ∀ j, sy_ok (L j)) : ∀ (c k f : Nat) (gS gE : Nat → Int32), k + c = l → c < f →
    (∀ k', k' < k → so_ sub n (lr_ L r) i k') → ps_ sub n (lr_ L r) i k ≤ n ∨ k = 0 ∧ i < 2 ^ 31 →
    iv_ sub n (lr_ L r) i gS nI k → iv_ sub n (lr_ L r) i gE (fun x => nI (en_ sub n x)) k →
    ∃ (b : Int32) (gS' gE' : Nat → Int32), ((b = 0 ∧ ¬ mt_ sub n L LS r i) ∨ (b = 1 ∧ mt_ sub n L LS r i ∧ iv_ sub n (lr_ L r) i gS' nI l ∧ iv_ sub n (lr_ L r) i gE' (fun x => nI (en_ sub n x)) l)) ∧
      ∀ post : Int32 → SX → Prop, post b (fp, ft, fr, nI n, fn, stk, st, L, LS, R, RS, sub, gS', gE', nx) →
        wX_ruleFitsAt_5 post (nI r) fp ft fr (nI n) fn f (nI (ps_ sub n (lr_ L r) i k)) (nI k) stk st L LS R RS sub gS gE nx := by
  have hll : ll_ LS r = l := by unfold ll_; rw [hl, nI_clamp (by omega)]
  have hcr : (nI r).toNatClampNeg = r := nI_clamp (by omega)
  intro c
  induction c with
  | zero =>
    intro k f gS gE hk hf hso hps h1 h2
    obtain ⟨f, rfl⟩ : ∃ g, f = g + 1 := ⟨f - 1, by omega⟩
    obtain rfl : k = l := by omega
    refine ⟨1, gS, gE, Or.inr ⟨rfl, fun k' hk' => hso k' (hll ▸ hk'), h1, h2⟩, fun post hp => ⟨vp_in_nI hr (by omega), br_t ?_ hp⟩⟩
    rw [hcr, hl]; exact nI_le (by omega) (by omega)
  | succ c ih =>
    intro k f gS gE hk hf hso hps h1 h2
    obtain ⟨f, rfl⟩ : ∃ g, f = g + 1 := ⟨f - 1, by omega⟩
    have hix : nI r * 7 + nI k = nI (r * 7 + k) := by
      rw [show (7 : Int32) = nI 7 from rfl, pk_mul, nI_add]
    have hci : (nI r * 7 + nI k).toNatClampNeg = r * 7 + k := by rw [hix, nI_clamp (by omega)]
    have hvi : vp_in (nI r * 7 + nI k) 42 := by rw [hix]; exact vp_in_nI (by omega) (by omega)
    have hlt : ¬ LS (nI r).toNatClampNeg ≤ nI k := by rw [hcr, hl]; exact nI_ge (by omega) (by omega)
    have hp31 : ps_ sub n (lr_ L r) i k < 2 ^ 31 := by
      rcases hps with h | ⟨rfl, h⟩
      · omega
      · exact h
    by_cases hpl : ps_ sub n (lr_ L r) i k < n
    · have hcp : (nI (ps_ sub n (lr_ L r) i k)).toNatClampNeg = ps_ sub n (lr_ L r) i k := nI_clamp (by omega)
      by_cases h7 : lr_ L r k < 7
      · by_cases he : lr_ L r k = sub (ps_ sub n (lr_ L r) i k)
        · have hpk : ps_ sub n (lr_ L r) i (k + 1) = ps_ sub n (lr_ L r) i k + 1 := by
            show (if _ then _ else _) = _
            rw [if_pos h7]
          obtain ⟨b, gS', gE', hb, hP⟩ := ih (k + 1) f gS gE (by omega) (by omega)
            (fun k' hk' => by
              by_cases e : k' = k
              · subst e; exact ⟨hpl, fun _ => he⟩
              · exact hso k' (by omega))
            (Or.inl (by omega)) (iv_lit h7 h1) (iv_lit h7 h2)
          refine ⟨b, gS', gE', hb, fun post hp => ⟨vp_in_nI hr (by omega), br_f hlt ⟨hvi, nm_r (congrArg L hci) ?_⟩⟩⟩
          refine xi_c hn hp31 (fun h => absurd h (by omega)) (fun _ => ?_)
          refine xv_c (fun _ => ⟨vp_in_nI (by omega) (by omega), br_t ?_ ?_⟩) (fun h => absurd h7 h)
          · rw [hcp]; exact he
          · refine nm_r (nI_1 _) (nm_r (nI_1 _) ?_)
            rw [← hpk]; exact hP post hp
        · refine ⟨0, gS, gE, Or.inl ⟨rfl, fun M => he ((M k (by omega)).2 h7)⟩, fun post hp => ⟨vp_in_nI hr (by omega), br_f hlt ⟨hvi, nm_r (congrArg L hci) ?_⟩⟩⟩
          refine xi_c hn hp31 (fun h => absurd h (by omega)) (fun _ => ?_)
          refine xv_c (fun _ => ⟨vp_in_nI (by omega) (by omega), br_f ?_ hp⟩) (fun h => absurd h7 h)
          rw [hcp]; exact he
      · have hpk : ps_ sub n (lr_ L r) i (k + 1) = en_ sub n (ps_ sub n (lr_ L r) i k) := by
          show (if _ then _ else _) = _
          rw [if_neg h7]
        obtain ⟨j, hj, ej, _⟩ := sy_v (hL (r * 7 + k)) h7
        obtain ⟨b, gS', gE', hb, hP⟩ := ih (k + 1) f _ _ (by omega) (by omega)
            (fun k' hk' => by
              by_cases e : k' = k
              · subst e; exact ⟨hpl, fun h => absurd h h7⟩
              · exact hso k' (by omega))
            (Or.inl (by rw [hpk]; exact en_le (by omega))) (iv_var h7 h1) (iv_var h7 h2)
        refine ⟨b, gS', gE', hb, fun post hp => ⟨vp_in_nI hr (by omega), br_f hlt ⟨hvi, nm_r (congrArg L hci) ?_⟩⟩⟩
        refine xi_c hn hp31 (fun h => absurd h (by omega)) (fun _ => ?_)
        refine xv_c (fun h => absurd h h7) (fun _ => ?_)
        refine xe_end hn (by omega) ?_
        have hv3 : vp_in (L (r * 7 + k) - 7) 3 := by rw [ej]; exact vp_in_nI hj (by omega)
        refine ⟨hv3, nm_e ⟨hv3, nm_e (nm_r (nI_1 _) ?_)⟩⟩
        have hP' := hP post hp
        rw [hpk] at hP'; exact hP'
    · refine ⟨0, gS, gE, Or.inl ⟨rfl, fun M => hpl (M k (by omega)).1⟩, fun post hp => ⟨vp_in_nI hr (by omega), br_f hlt ⟨hvi, nm_r (congrArg L hci) ?_⟩⟩⟩
      exact xi_c hn hp31 (fun _ => hp) (fun h => absurd h hpl)
theorem ma_y {n r i l : Nat} (hn : n ≤ 31) (hr : r < 6) (hl : LS r = nI l) (hl7 : l ≤ 7) (hL : ∀ j, sy_ok (L j)) : ∀ (c k f : Nat) (bd : Nat → Int32), k + c = l → c < f →
    (∀ k', k' < k → so_ sub n (lr_ L r) i k') → ps_ sub n (lr_ L r) i k ≤ n ∨ k = 0 ∧ i < 2 ^ 31 →
    iv_ sub n (lr_ L r) i bd nI k →
    ∃ (b : Int32) (bd' : Nat → Int32), ((b = 0 ∧ ¬ mt_ sub n L LS r i) ∨ (b = 1 ∧ mt_ sub n L LS r i ∧ iv_ sub n (lr_ L r) i bd' nI l)) ∧
      ∀ post : Int32 → SY → Prop, post b (yd, yr, nI n, stk, bg, L, LS, R, RS, sub, nx, bd') →
        wY_matches_5 post (nI r) yd yr (nI n) f (nI (ps_ sub n (lr_ L r) i k)) (nI k) stk bg L LS R RS sub nx bd := by
  have hll : ll_ LS r = l := by unfold ll_; rw [hl, nI_clamp (by omega)]
  have hcr : (nI r).toNatClampNeg = r := nI_clamp (by omega)
  intro c
  induction c with
  | zero =>
    intro k f bd hk hf hso hps h1
    obtain ⟨f, rfl⟩ : ∃ g, f = g + 1 := ⟨f - 1, by omega⟩
    obtain rfl : k = l := by omega
    refine ⟨1, bd, Or.inr ⟨rfl, fun k' hk' => hso k' (hll ▸ hk'), h1⟩, fun post hp => ⟨vp_in_nI hr (by omega), br_t ?_ hp⟩⟩
    rw [hcr, hl]; exact nI_le (by omega) (by omega)
  | succ c ih =>
    intro k f bd hk hf hso hps h1
    obtain ⟨f, rfl⟩ : ∃ g, f = g + 1 := ⟨f - 1, by omega⟩
    have hix : 7 * nI r + nI k = nI (r * 7 + k) := by
      rw [show (7 : Int32) = nI 7 from rfl, pk_mul, nI_add, Nat.mul_comm]
    have hci : (7 * nI r + nI k).toNatClampNeg = r * 7 + k := by rw [hix, nI_clamp (by omega)]
    have hvi : vp_in (7 * nI r + nI k) 42 := by rw [hix]; exact vp_in_nI (by omega) (by omega)
    have hlt : ¬ LS (nI r).toNatClampNeg ≤ nI k := by rw [hcr, hl]; exact nI_ge (by omega) (by omega)
    have hp31 : ps_ sub n (lr_ L r) i k < 2 ^ 31 := by
      rcases hps with h | ⟨rfl, h⟩
      · omega
      · exact h
    by_cases hpl : ps_ sub n (lr_ L r) i k < n
    · have hcp : (nI (ps_ sub n (lr_ L r) i k)).toNatClampNeg = ps_ sub n (lr_ L r) i k := nI_clamp (by omega)
      have hpl' : nI (ps_ sub n (lr_ L r) i k) < nI n := nI_lt hpl (by omega)
      by_cases h7 : lr_ L r k < 7
      · by_cases he : lr_ L r k = sub (ps_ sub n (lr_ L r) i k)
        · have hpk : ps_ sub n (lr_ L r) i (k + 1) = ps_ sub n (lr_ L r) i k + 1 := by
            show (if _ then _ else _) = _
            rw [if_pos h7]
          obtain ⟨b, bd', hb, hP⟩ := ih (k + 1) f bd (by omega) (by omega)
            (fun k' hk' => by
              by_cases e : k' = k
              · subst e; exact ⟨hpl, fun _ => he⟩
              · exact hso k' (by omega))
            (Or.inl (by omega)) (iv_lit h7 h1)
          refine ⟨b, bd', hb, fun post hp => ⟨vp_in_nI hr (by omega), br_f hlt ⟨hvi, nm_r (congrArg L hci) (br_t hpl' ?_)⟩⟩⟩
          refine yv_c (fun _ => ⟨vp_in_nI (by omega) (by omega), br_t ?_ ?_⟩) (fun h => absurd h7 h)
          · rw [hcp]; exact he.symm
          · refine nm_r (nI_1 _) (nm_r (nI_1 _) ?_)
            rw [← hpk]; exact hP post hp
        · refine ⟨0, bd, Or.inl ⟨rfl, fun M => he ((M k (by omega)).2 h7)⟩, fun post hp => ⟨vp_in_nI hr (by omega), br_f hlt ⟨hvi, nm_r (congrArg L hci) (br_t hpl' ?_)⟩⟩⟩
          refine yv_c (fun _ => ⟨vp_in_nI (by omega) (by omega), br_f ?_ hp⟩) (fun h => absurd h7 h)
          rw [hcp]; exact fun z => he z.symm
      · have hpk : ps_ sub n (lr_ L r) i (k + 1) = en_ sub n (ps_ sub n (lr_ L r) i k) := by
          show (if _ then _ else _) = _
          rw [if_neg h7]
        obtain ⟨j, hj, ej, _⟩ := sy_v (hL (r * 7 + k)) h7
        obtain ⟨b, bd', hb, hP⟩ := ih (k + 1) f _ (by omega) (by omega)
            (fun k' hk' => by
              by_cases e : k' = k
              · subst e; exact ⟨hpl, fun h => absurd h h7⟩
              · exact hso k' (by omega))
            (Or.inl (by rw [hpk]; exact en_le (by omega))) (iv_var h7 h1)
        refine ⟨b, bd', hb, fun post hp => ⟨vp_in_nI hr (by omega), br_f hlt ⟨hvi, nm_r (congrArg L hci) (br_t hpl' ?_)⟩⟩⟩
        refine yv_c (fun h => absurd h h7) (fun _ => ?_)
        have hv3 : vp_in (L (r * 7 + k) - 7) 3 := by rw [ej]; exact vp_in_nI hj (by omega)
        refine ⟨hv3, nm_e ?_⟩
        refine ye_end hn (by omega) ?_
        refine nm_r (nI_1 _) ?_
        rw [← hpk]; exact hP post hp
    · refine ⟨0, bd, Or.inl ⟨rfl, fun M => hpl (M k (by omega)).1⟩, fun post hp => ⟨vp_in_nI hr (by omega), br_f hlt ⟨hvi, nm_r (congrArg L hci) (br_f ?_ hp)⟩⟩⟩
      exact nI_nlt (by omega) hp31
end
