/-- c cells from s on, each shifted up by one -/
def sh_ (s : Nat) : Nat → (Nat → Int32) → Nat → Int32
  | 0, a => a
  | c + 1, a => sh_ s c (upd a (s + c + 1) (a (s + c)))
theorem sh_ok (s : Nat) : ∀ c a, (∀ i, sy_ok (a i)) → ∀ i, sy_ok (sh_ s c a i) := by
  intro c
  induction c with
  | zero => intro a h; exact h
  | succ c ih => intro a h; exact ih _ (sy_upd h _ (h _))
theorem cp_ok (a : Nat → Int32) (ha : ∀ i, sy_ok (a i)) : ∀ c i j t, (∀ i, sy_ok (t i)) → ∀ k, sy_ok (cp_ a c i j t k) := by
  intro c
  induction c with
  | zero => intro i j t h; exact h
  | succ c ih => intro i j t h; exact ih _ _ _ (sy_upd h _ (ha _))
theorem cp_out (a : Nat → Int32) : ∀ c i j t k, k < j ∨ j + c ≤ k → cp_ a c i j t k = t k := by
  intro c
  induction c with
  | zero => intro i j t k _; rfl
  | succ c ih =>
    intro i j t k h
    unfold cp_
    rw [ih _ _ _ _ (by omega), pk_un (by omega)]
theorem cp_in (a : Nat → Int32) : ∀ c i j t k, k < c → cp_ a c i j t (j + k) = a (i + k) := by
  intro c
  induction c with
  | zero => intro i j t k h; omega
  | succ c ih =>
    intro i j t k h
    unfold cp_
    by_cases e : k = 0
    · subst e
      rw [cp_out _ _ _ _ _ _ (by omega), Nat.add_zero, Nat.add_zero, pk_us]
    · have := ih (i + 1) (j + 1) (upd t j (a i)) (k - 1) (by omega)
      rw [show j + 1 + (k - 1) = j + k from by omega, show i + 1 + (k - 1) = i + k from by omega] at this
      exact this
/-- how often v stands in c cells from i on -/
def on_ (x v : Int32) : Nat := if x = v then 1 else 0
def cn_ (a : Nat → Int32) (v : Int32) : Nat → Nat → Nat
  | 0, _ => 0
  | c + 1, i => on_ (a i) v + cn_ a v c (i + 1)
theorem cn_le (a : Nat → Int32) (v : Int32) : ∀ c i, cn_ a v c i ≤ c := by
  intro c
  induction c with
  | zero => intro i; exact Nat.le_refl _
  | succ c ih =>
    intro i
    have h1 := ih (i + 1)
    have h2 : on_ (a i) v ≤ 1 := by unfold on_; split <;> omega
    show on_ (a i) v + cn_ a v c (i + 1) ≤ c + 1
    omega
theorem cn_pos (a : Nat → Int32) (v : Int32) : ∀ c i, 0 < cn_ a v c i ↔ ∃ k, k < c ∧ a (i + k) = v := by
  intro c
  induction c with
  | zero => intro i; exact ⟨fun h => absurd h (Nat.lt_irrefl 0), fun ⟨k, h, _⟩ => absurd h (by omega)⟩
  | succ c ih =>
    intro i
    show 0 < on_ (a i) v + cn_ a v c (i + 1) ↔ _
    by_cases e : a i = v
    · have h2 : on_ (a i) v = 1 := if_pos e
      exact ⟨fun _ => ⟨0, by omega, e⟩, fun _ => by omega⟩
    · have h2 : on_ (a i) v = 0 := if_neg e
      rw [h2, Nat.zero_add, ih]
      constructor
      · rintro ⟨k, hk, h⟩
        exact ⟨k + 1, by omega, by rw [← h, show i + (k + 1) = i + 1 + k from by omega]⟩
      · rintro ⟨k, hk, h⟩
        have hk0 : k ≠ 0 := fun z => e (by rw [z] at h; exact h)
        exact ⟨k - 1, by omega, by rw [← h, show i + 1 + (k - 1) = i + k from by omega]⟩
/-- a mask of variables -/
def mk_ (x y z : Bool) : Int32 := (cond x 1 0) ||| (cond y 2 0) ||| (cond z 4 0)
theorem mk_or : ∀ x y z a b c : Bool, mk_ x y z ||| mk_ a b c = mk_ (x || a) (y || b) (z || c) := by decide +kernel
theorem mk_and : ∀ x y z a b c : Bool, mk_ x y z &&& mk_ a b c = 0 ↔ ¬ (x = true ∧ a = true) ∧ ¬ (y = true ∧ b = true) ∧ ¬ (z = true ∧ c = true) := by decide +kernel
theorem mk_nt : ∀ x y z a b c : Bool, mk_ a b c &&& (mk_ x y z ^^^ (-1)) = 0 ↔ (a = true → x = true) ∧ (b = true → y = true) ∧ (c = true → z = true) := by decide +kernel
theorem mk_z : ∀ x y z : Bool, mk_ x y z = 0 ↔ ¬ x = true ∧ ¬ y = true ∧ ¬ z = true := by decide +kernel
def vb_ (x : Int32) : Int32 := mk_ (decide (x = nI 7)) (decide (x = nI 8)) (decide (x = nI 9))
theorem vb_d : ∀ j, j < 10 → (nI j < 7 → vb_ (nI j) = 0) ∧ (¬ nI j < 7 → (1 : Int32) <<< ((nI j - 7) &&& 31) = vb_ (nI j)) := by decide +kernel
theorem xb_vb {post : Int32 → Prop} {x : Int32} (hx : sy_ok x) (h : post (vb_ x)) : wpX_variableBit post x := by
  obtain ⟨j, hj, rfl⟩ := hx
  unfold wpX_variableBit
  refine xv_c (fun h7 => ?_) (fun h7 => ?_)
  · rw [(vb_d j (by omega)).1 h7] at h; exact h
  · rw [(vb_d j (by omega)).2 h7]; exact h
def mc_ (A B C : Nat) : Int32 := mk_ (decide (0 < A)) (decide (0 < B)) (decide (0 < C))
theorem on_d (A : Nat) (x v : Int32) : (decide (0 < A) || decide (x = v)) = decide (0 < A + on_ x v) := by
  unfold on_
  by_cases e : x = v
  · simp [e]
  · simp [e]
theorem mc_or (A B C : Nat) (x : Int32) : mc_ A B C ||| vb_ x = mc_ (A + on_ x (nI 7)) (B + on_ x (nI 8)) (C + on_ x (nI 9)) := by
  unfold mc_ vb_
  rw [mk_or, on_d, on_d, on_d]
theorem on_a {A : Nat} {x v : Int32} (hA : A ≤ 1) : ¬ (decide (0 < A) = true ∧ decide (x = v) = true) ↔ A + on_ x v ≤ 1 := by
  unfold on_
  rw [decide_eq_true_iff, decide_eq_true_iff]
  by_cases e : x = v
  · rw [if_pos e]; exact ⟨fun h => by have : ¬ 0 < A := fun z => h ⟨z, e⟩
                                      omega, fun h z => by omega⟩
  · rw [if_neg e]; exact ⟨fun _ => by omega, fun _ z => e z.2⟩
theorem mc_and {A B C : Nat} {x : Int32} (hA : A ≤ 1) (hB : B ≤ 1) (hC : C ≤ 1) : mc_ A B C &&& vb_ x = 0 ↔ A + on_ x (nI 7) ≤ 1 ∧ B + on_ x (nI 8) ≤ 1 ∧ C + on_ x (nI 9) ≤ 1 := by
  unfold mc_ vb_
  rw [mk_and, on_a hA, on_a hB, on_a hC]
theorem mc_nt {A B C A' B' C' : Nat} : mc_ A' B' C' &&& (mc_ A B C ^^^ (-1)) = 0 ↔ (0 < A' → 0 < A) ∧ (0 < B' → 0 < B) ∧ (0 < C' → 0 < C) := by
  unfold mc_
  rw [mk_nt]
  simp only [decide_eq_true_iff]
theorem mc_z {A B C : Nat} : mc_ A B C = 0 ↔ A + B + C ≤ 0 := by
  unfold mc_
  rw [mk_z]
  simp only [decide_eq_true_iff]
  omega
/-- a term can be a left side; the variables of a right side are known -/
def lk_ (a : Nat → Int32) (s e : Nat) : Prop := a s < 7 ∧ e - s ≤ 7 ∧ cn_ a (nI 7) (e - s) s ≤ 1 ∧ cn_ a (nI 8) (e - s) s ≤ 1 ∧ cn_ a (nI 9) (e - s) s ≤ 1
def rk_ (a : Nat → Int32) (s m e : Nat) : Prop := (0 < cn_ a (nI 7) (e - m) m → 0 < cn_ a (nI 7) (m - s) s) ∧ (0 < cn_ a (nI 8) (e - m) m → 0 < cn_ a (nI 8) (m - s) s) ∧ (0 < cn_ a (nI 9) (e - m) m → 0 < cn_ a (nI 9) (m - s) s)
section
variable {fp ft fr fs fn yd yr ys : Int32} {stk st L LS R RS sub gS gE nx bg bd : Nat → Int32}
theorem xn_lp {post : SX → Prop} {x : Int32} {s : Nat} : ∀ (c f : Nat) (stk : Nat → Int32), c < f → s + c < 31 →
    post (fp + 1, ft, fr, fs, fn, upd (sh_ s c stk) s x, st, L, LS, R, RS, sub, gS, gE, nx) →
    wX_insertOnStack_5 post x (nI s) fp ft fr fs fn f (nI (s + c)) stk st L LS R RS sub gS gE nx := by
  intro c
  induction c with
  | zero =>
    intro f stk hf hs h
    obtain ⟨f, rfl⟩ : ∃ g, f = g + 1 := ⟨f - 1, by omega⟩
    refine br_t (nI_le (by omega) (by omega)) ⟨vp_in_nI (by omega) (by omega), ?_⟩
    rw [nI_clamp (n := s) (by omega)]
    exact nm_e (nm_e h)
  | succ c ih =>
    intro f stk hf hs h
    obtain ⟨f, rfl⟩ : ∃ g, f = g + 1 := ⟨f - 1, by omega⟩
    have e1 : nI (s + (c + 1)) - 1 = nI (s + c) := nI_pred (s + c)
    have e2 : nI (s + (c + 1)) + (-1) = nI (s + c) := pk_m1 (s + c)
    refine br_f (nI_ge (by omega) (by omega)) ⟨by rw [e1]; exact vp_in_nI (by omega) (by omega), vp_in_nI (by omega) (by omega), ?_⟩
    rw [e1, nI_clamp (n := s + (c + 1)) (by omega), nI_clamp (n := s + c) (by omega)]
    exact nm_e (nm_r e2 (ih f _ (by omega) (by omega) h))
theorem xn_in {post : SX → Prop} {x : Int32} {s p : Nat} (hp : p < 31) (hs : s ≤ p) (h : post (nI (p + 1), ft, fr, fs, fn, upd (sh_ s (p - s) stk) s x, st, L, LS, R, RS, sub, gS, gE, nx)) :
    wpX_insertOnStack post (nI p, ft, fr, fs, fn, stk, st, L, LS, R, RS, sub, gS, gE, nx) x (nI s) := by
  refine ⟨p - s + 1, ?_⟩
  have H := xn_lp (fp := nI p) (ft := ft) (fr := fr) (fs := fs) (fn := fn) (st := st) (L := L) (LS := LS) (R := R) (RS := RS) (sub := sub) (gS := gS) (gE := gE) (nx := nx) (post := post) (x := x) (s := s) (p - s) (p - s + 1) stk (by omega) (by omega) (by rw [nI_1]; exact h)
  rw [show s + (p - s) = p from by omega] at H
  exact H
theorem yn_lp {post : Int32 → SY → Prop} {x : Int32} {s p d q : Nat} (hq : q ≤ d) (hd : d - q + 1 ≤ 6) : ∀ (c f : Nat) (stk : Nat → Int32), c < f → s + c < 31 →
    post (nI (d - q + 1)) (nI (d - q + 1), yr, ys, upd (sh_ s c stk) s x, upd bg (d - q + 1) (nI (p + 1)), L, LS, R, RS, sub, nx, bd) →
    wY_build_77 post x (nI p) (nI q) (nI s) (nI d) yr ys f (nI (s + c)) stk bg L LS R RS sub nx bd := by
  have ed : nI d - nI q + 1 = nI (d - q + 1) := by rw [pk_sub hq, nI_1]
  intro c
  induction c with
  | zero =>
    intro f stk hf hs h
    obtain ⟨f, rfl⟩ : ∃ g, f = g + 1 := ⟨f - 1, by omega⟩
    refine br_t (nI_le (by omega) (by omega)) ⟨vp_in_nI (by omega) (by omega), ?_⟩
    rw [nI_clamp (n := s) (by omega)]
    refine nm_e (nm_r ed ⟨vp_in_nI (by omega) (by omega), ?_⟩)
    rw [nI_clamp (n := d - q + 1) (by omega), nI_1 p]
    exact nm_e h
  | succ c ih =>
    intro f stk hf hs h
    obtain ⟨f, rfl⟩ : ∃ g, f = g + 1 := ⟨f - 1, by omega⟩
    have e1 : nI (s + (c + 1)) - 1 = nI (s + c) := nI_pred (s + c)
    have e2 : nI (s + (c + 1)) + (-1) = nI (s + c) := pk_m1 (s + c)
    refine br_f (nI_ge (by omega) (by omega)) ⟨by rw [e1]; exact vp_in_nI (by omega) (by omega), vp_in_nI (by omega) (by omega), ?_⟩
    rw [e1, nI_clamp (n := s + (c + 1)) (by omega), nI_clamp (n := s + c) (by omega)]
    exact nm_e (nm_r e2 (ih f _ (by omega) (by omega) h))
theorem xcl_lp {post : SX → Prop} {s e w : Nat} (he : e ≤ 31) (hw : w + (e - s) ≤ 42) : ∀ (c j f : Nat) (L : Nat → Int32), s + j + c = e → c < f →
    post (fp, ft, fr, fs, fn, stk, st, cp_ stk c (s + j) (w + j) L, LS, R, RS, sub, gS, gE, nx) →
    wX_copyFromStack__leftSymbols_3 post (nI s) (nI e) (nI w) fp ft fr fs fn f (nI (s + j)) stk st L LS R RS sub gS gE nx := by
  intro c
  induction c with
  | zero =>
    intro j f L hj hf h
    obtain ⟨f, rfl⟩ : ∃ g, f = g + 1 := ⟨f - 1, by omega⟩
    exact br_t (nI_le (by omega) (by omega)) h
  | succ c ih =>
    intro j f L hj hf h
    obtain ⟨f, rfl⟩ : ∃ g, f = g + 1 := ⟨f - 1, by omega⟩
    have e1 : nI w + nI (s + j) - nI s = nI (w + j) := by
      rw [nI_add, pk_sub (by omega), show w + (s + j) - s = w + j from by omega]
    refine br_f (nI_ge (by omega) (by omega)) ⟨vp_in_nI (by omega) (by omega), by rw [e1]; exact vp_in_nI (by omega) (by omega), ?_⟩
    rw [e1, nI_clamp (n := s + j) (by omega), nI_clamp (n := w + j) (by omega)]
    exact nm_e (nm_r (nI_1 _) (ih (j + 1) f _ (by omega) (by omega) h))
theorem xcl_cp {post : SX → Prop} {s e w : Nat} {x : Int32} (hx : x = nI w) (he : e ≤ 31) (hs : s ≤ e) (hw : w + (e - s) ≤ 42) (h : post (fp, ft, fr, fs, fn, stk, st, cp_ stk (e - s) s w L, LS, R, RS, sub, gS, gE, nx)) :
    wpX_copyFromStack__leftSymbols post (fp, ft, fr, fs, fn, stk, st, L, LS, R, RS, sub, gS, gE, nx) (nI s) (nI e) x := by
  subst hx
  exact ⟨e - s + 1, xcl_lp he hw (e - s) 0 (e - s + 1) L (by omega) (by omega) h⟩
theorem xcr_lp {post : SX → Prop} {s e w : Nat} (he : e ≤ 31) (hw : w + (e - s) ≤ 186) : ∀ (c j f : Nat) (R : Nat → Int32), s + j + c = e → c < f →
    post (fp, ft, fr, fs, fn, stk, st, L, LS, cp_ stk c (s + j) (w + j) R, RS, sub, gS, gE, nx) →
    wX_copyFromStack__rightSymbols_3 post (nI s) (nI e) (nI w) fp ft fr fs fn f (nI (s + j)) stk st L LS R RS sub gS gE nx := by
  intro c
  induction c with
  | zero =>
    intro j f R hj hf h
    obtain ⟨f, rfl⟩ : ∃ g, f = g + 1 := ⟨f - 1, by omega⟩
    exact br_t (nI_le (by omega) (by omega)) h
  | succ c ih =>
    intro j f R hj hf h
    obtain ⟨f, rfl⟩ : ∃ g, f = g + 1 := ⟨f - 1, by omega⟩
    have e1 : nI w + nI (s + j) - nI s = nI (w + j) := by
      rw [nI_add, pk_sub (by omega), show w + (s + j) - s = w + j from by omega]
    refine br_f (nI_ge (by omega) (by omega)) ⟨vp_in_nI (by omega) (by omega), by rw [e1]; exact vp_in_nI (by omega) (by omega), ?_⟩
    rw [e1, nI_clamp (n := s + j) (by omega), nI_clamp (n := w + j) (by omega)]
    exact nm_e (nm_r (nI_1 _) (ih (j + 1) f _ (by omega) (by omega) h))
theorem xcr_cp {post : SX → Prop} {s e w : Nat} {x : Int32} (hx : x = nI w) (he : e ≤ 31) (hs : s ≤ e) (hw : w + (e - s) ≤ 186) (h : post (fp, ft, fr, fs, fn, stk, st, L, LS, cp_ stk (e - s) s w R, RS, sub, gS, gE, nx)) :
    wpX_copyFromStack__rightSymbols post (fp, ft, fr, fs, fn, stk, st, L, LS, R, RS, sub, gS, gE, nx) (nI s) (nI e) x := by
  subst hx
  exact ⟨e - s + 1, xcr_lp he hw (e - s) 0 (e - s + 1) R (by omega) (by omega) h⟩
theorem xcs_lp {post : SX → Prop} {s e w : Nat} (he : e ≤ 31) (hw : w + (e - s) ≤ 31) : ∀ (c j f : Nat) (sub : Nat → Int32), s + j + c = e → c < f →
    post (fp, ft, fr, fs, fn, stk, st, L, LS, R, RS, cp_ stk c (s + j) (w + j) sub, gS, gE, nx) →
    wX_copyFromStack__subjectSymbols_3 post (nI s) (nI e) (nI w) fp ft fr fs fn f (nI (s + j)) stk st L LS R RS sub gS gE nx := by
  intro c
  induction c with
  | zero =>
    intro j f sub hj hf h
    obtain ⟨f, rfl⟩ : ∃ g, f = g + 1 := ⟨f - 1, by omega⟩
    exact br_t (nI_le (by omega) (by omega)) h
  | succ c ih =>
    intro j f sub hj hf h
    obtain ⟨f, rfl⟩ : ∃ g, f = g + 1 := ⟨f - 1, by omega⟩
    have e1 : nI w + nI (s + j) - nI s = nI (w + j) := by
      rw [nI_add, pk_sub (by omega), show w + (s + j) - s = w + j from by omega]
    refine br_f (nI_ge (by omega) (by omega)) ⟨vp_in_nI (by omega) (by omega), by rw [e1]; exact vp_in_nI (by omega) (by omega), ?_⟩
    rw [e1, nI_clamp (n := s + j) (by omega), nI_clamp (n := w + j) (by omega)]
    exact nm_e (nm_r (nI_1 _) (ih (j + 1) f _ (by omega) (by omega) h))
theorem xcs_cp {post : SX → Prop} {s e w : Nat} {x : Int32} (hx : x = nI w) (he : e ≤ 31) (hs : s ≤ e) (hw : w + (e - s) ≤ 31) (h : post (fp, ft, fr, fs, fn, stk, st, L, LS, R, RS, cp_ stk (e - s) s w sub, gS, gE, nx)) :
    wpX_copyFromStack__subjectSymbols post (fp, ft, fr, fs, fn, stk, st, L, LS, R, RS, sub, gS, gE, nx) (nI s) (nI e) x := by
  subst hx
  exact ⟨e - s + 1, xcs_lp he hw (e - s) 0 (e - s + 1) sub (by omega) (by omega) h⟩
theorem yl_lp {post : Int32 → SY → Prop} {s l d m : Nat} (hm : m < 6) (hd : d ≤ 6) (hl : LS m = nI l) (hl7 : l ≤ 7) (hb : bg d = nI s) (hs : s + l ≤ 31) : ∀ (c i f : Nat) (L : Nat → Int32), i + c = l → c < f →
    (∃ n147, wY_rule_147 post (nI d) (nI m) ys n147 0 stk bg (cp_ stk c (s + i) (m * 7 + i) L) LS R RS sub nx bd) →
    wY_rule_96 post (nI d) (nI m) ys f (nI i) stk bg L LS R RS sub nx bd := by
  have hcm : (nI m).toNatClampNeg = m := nI_clamp (by omega)
  have hcd : (nI d).toNatClampNeg = d := nI_clamp (by omega)
  intro c
  induction c with
  | zero =>
    intro i f L hi hf h
    obtain ⟨f, rfl⟩ : ∃ g, f = g + 1 := ⟨f - 1, by omega⟩
    refine ⟨vp_in_nI hm (by omega), br_t ?_ h⟩
    rw [hcm, hl]; exact nI_le (by omega) (by omega)
  | succ c ih =>
    intro i f L hi hf h
    obtain ⟨f, rfl⟩ : ∃ g, f = g + 1 := ⟨f - 1, by omega⟩
    have e1 : bg (nI d).toNatClampNeg + nI i = nI (s + i) := by rw [hcd, hb, nI_add]
    have e2 : 7 * nI m + nI i = nI (m * 7 + i) := by
      rw [show (7 : Int32) = nI 7 from rfl, pk_mul, nI_add, Nat.mul_comm]
    refine ⟨vp_in_nI hm (by omega), br_f ?_ ⟨vp_in_nI (by omega) (by omega), ?_, ?_, ?_⟩⟩
    · rw [hcm, hl]; exact nI_ge (by omega) (by omega)
    · rw [e1]; exact vp_in_nI (by omega) (by omega)
    · rw [e2]; exact vp_in_nI (by omega) (by omega)
    · rw [e1, e2, nI_clamp (n := s + i) (by omega), nI_clamp (n := m * 7 + i) (by omega)]
      exact nm_e (nm_r (nI_1 _) (ih (i + 1) f _ (by omega) (by omega) h))
theorem yg_lp {post : Int32 → SY → Prop} {s l d m : Nat} (hm : m < 6) (hd : d + 1 ≤ 6) (hl : RS m = nI l) (hl31 : l ≤ 31) (hb : bg (d + 1) = nI s) (hs : s + l ≤ 31) : ∀ (c i f : Nat) (R : Nat → Int32), i + c = l → c < f →
    post (nI m) (nI d, nI (m + 1), ys, stk, bg, L, LS, cp_ stk c (s + i) (m * 31 + i) R, RS, sub, nx, bd) →
    wY_rule_147 post (nI d) (nI m) ys f (nI i) stk bg L LS R RS sub nx bd := by
  have hcm : (nI m).toNatClampNeg = m := nI_clamp (by omega)
  have hcd : (nI d + 1).toNatClampNeg = d + 1 := by rw [nI_1, nI_clamp (by omega)]
  intro c
  induction c with
  | zero =>
    intro i f R hi hf h
    obtain ⟨f, rfl⟩ : ∃ g, f = g + 1 := ⟨f - 1, by omega⟩
    refine ⟨vp_in_nI hm (by omega), br_t ?_ (nm_r (nI_1 m) ?_)⟩
    · rw [hcm, hl]; exact nI_le (by omega) (by omega)
    · rw [nI_pred]; exact h
  | succ c ih =>
    intro i f R hi hf h
    obtain ⟨f, rfl⟩ : ∃ g, f = g + 1 := ⟨f - 1, by omega⟩
    have e1 : bg (nI d + 1).toNatClampNeg + nI i = nI (s + i) := by rw [hcd, hb, nI_add]
    have e2 : 31 * nI m + nI i = nI (m * 31 + i) := by
      rw [show (31 : Int32) = nI 31 from rfl, pk_mul, nI_add, Nat.mul_comm]
    refine ⟨vp_in_nI hm (by omega), br_f ?_ ⟨?_, ?_, ?_, ?_⟩⟩
    · rw [hcm, hl]; exact nI_ge (by omega) (by omega)
    · rw [nI_1]; exact vp_in_nI (by omega) (by omega)
    · rw [e1]; exact vp_in_nI (by omega) (by omega)
    · rw [e2]; exact vp_in_nI (by omega) (by omega)
    · rw [e1, e2, nI_clamp (n := s + i) (by omega), nI_clamp (n := m * 31 + i) (by omega)]
      exact nm_e (nm_r (nI_1 _) (ih (i + 1) f _ (by omega) (by omega) h))
theorem yj_lp {post : Int32 → SY → Prop} {s l d : Nat} (hd : d ≤ 6) (hl31 : l ≤ 31) (hb : bg d = nI s) (hs : s + l ≤ 31) : ∀ (c i f : Nat) (sub : Nat → Int32), i + c = l → c < f →
    post (nI l) (nI d, yr, nI l, stk, bg, L, LS, R, RS, cp_ stk c (s + i) i sub, nx, bd) →
    wY_subject_88 post (nI d) yr (nI l) f (nI i) stk bg L LS R RS sub nx bd := by
  have hcd : (nI d).toNatClampNeg = d := nI_clamp (by omega)
  intro c
  induction c with
  | zero =>
    intro i f sub hi hf h
    obtain ⟨f, rfl⟩ : ∃ g, f = g + 1 := ⟨f - 1, by omega⟩
    exact br_t (nI_le (by omega) (by omega)) h
  | succ c ih =>
    intro i f sub hi hf h
    obtain ⟨f, rfl⟩ : ∃ g, f = g + 1 := ⟨f - 1, by omega⟩
    have e1 : bg (nI d).toNatClampNeg + nI i = nI (s + i) := by rw [hcd, hb, nI_add]
    refine br_f (nI_ge (by omega) (by omega)) ⟨vp_in_nI (by omega) (by omega), ?_, vp_in_nI (by omega) (by omega), ?_⟩
    · rw [e1]; exact vp_in_nI (by omega) (by omega)
    · rw [e1, nI_clamp (n := s + i) (by omega), nI_clamp (n := i) (by omega)]
      exact nm_e (nm_r (nI_1 _) (ih (i + 1) f _ (by omega) (by omega) h))
end
