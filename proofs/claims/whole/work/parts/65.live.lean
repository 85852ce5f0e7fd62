/-! Who CALLS whom; LIVE METHODS. -/
def calN (p : PG) (m : Nat) : Nat → Int32
  | 0 => 0
  | n + 1 => if pkd p n = 6 ∧ pow p n = m then calN p m n ||| sh (pnv p n 0) else calN p m n
theorem calN_s (p : PG) (m n : Nat) : calN p m (n + 1) = if pkd p n = 6 ∧ pow p n = m then calN p m n ||| sh (pnv p n 0) else calN p m n := rfl
def cal (p : PG) (m : Nat) : Int32 := calN p m (pS p)
theorem cal_bit {p : PG} (hw : WF p) {m i : Nat} : ∀ n, n ≤ pS p → (bt (calN p m n) i = true ↔ ∃ s, s < n ∧ pkd p s = 6 ∧ pow p s = m ∧ pnv p s 0 = i) := by
  intro n
  induction n with
  | zero => intro _; exact ⟨fun h => (by rw [show calN p m 0 = 0 from rfl, b_0] at h; cases h), fun ⟨s, h, _⟩ => absurd h (Nat.not_lt_zero s)⟩
  | succ n ih =>
    intro hn
    have ih := ih (by omega)
    rw [calN_s]
    by_cases c : pkd p n = 6 ∧ pow p n = m
    · have hto : pnv p n 0 < 8 := by have := (hw.2.2.2.2.1 n (by omega)).2.2.2 0 (by rw [c.1]; decide); rw [c.1] at this; simp [limN] at this; have := hw.2.1; omega
      rw [if_pos c, b_or, Bool.or_eq_true, ih]
      refine ⟨fun h => ?_, fun ⟨s, h1, h2, h3, h4⟩ => ?_⟩
      · rcases h with ⟨s, h1, h2⟩ | h
        · exact ⟨s, by omega, h2⟩
        · rcases Nat.lt_or_ge i 32 with g | g
          · rw [b_sh (by omega) g, decide_eq_true_eq] at h
            exact ⟨n, by omega, c.1, c.2, h.symm⟩
          · rw [b_big g] at h; cases h
      · by_cases e : s = n
        · subst e
          right
          rw [b_sh (by omega) (by omega), decide_eq_true_eq]
          exact h4.symm
        · exact Or.inl ⟨s, by omega, h2, h3, h4⟩
    · rw [if_neg c, ih]
      refine ⟨fun ⟨s, h1, h2⟩ => ⟨s, by omega, h2⟩, fun ⟨s, h1, h2, h3, h4⟩ => ?_⟩
      by_cases e : s = n
      · subst e; exact absurd ⟨h2, h3⟩ c
      · exact ⟨s, by omega, h2, h3, h4⟩
theorem cal_iff {p : PG} (hw : WF p) {m i : Nat} : bt (cal p m) i = true ↔ ∃ s, s < pS p ∧ pkd p s = 6 ∧ pow p s = m ∧ pnv p s 0 = i := cal_bit hw (pS p) (Nat.le_refl _)
/-- bits below n only -/
def lowb (n : Nat) (x : Int32) : Prop := ∀ i, bt x i = true → i < n
theorem cal_low {p : PG} (hw : WF p) (m : Nat) : lowb (pM p) (cal p m) := by
  intro i h
  obtain ⟨s, h1, h2, h3, h4⟩ := (cal_iff hw).mp h
  have := (hw.2.2.2.2.1 s h1).2.2.2 0 (by rw [h2]; decide)
  rw [h2] at this
  simp [limN] at this
  omega
theorem cal_big {p : PG} (hw : WF p) {m : Nat} (h : pM p ≤ m) : cal p m = 0 := by
  apply b_iff
  intro i _
  rw [b_0, cal_iff hw]
  refine ⟨fun ⟨s, h1, h2, h3, h4⟩ => ?_, fun h => by cases h⟩
  have := (hw.2.2.2.2.1 s h1).1
  omega
def subb (x y : Int32) : Prop := ∀ i, bt x i = true → bt y i = true
theorem subb_r (x : Int32) : subb x x := fun _ h => h
theorem subb_t {x y z : Int32} (h : subb x y) (h' : subb y z) : subb x z := fun i hi => h' i (h i hi)
theorem subb_a {x y : Int32} (h : subb x y) (h' : subb y x) : x = y := b_iff (fun i _ => ⟨h i, h' i⟩)
theorem subb_or {x y z : Int32} (h : subb x z) (h' : subb y z) : subb (x ||| y) z := fun i hi => by rw [b_or, Bool.or_eq_true] at hi; exact hi.elim (h i) (h' i)
theorem subb_l (x y : Int32) : subb x (x ||| y) := fun i h => by rw [b_or, h]; rfl
theorem subb_rr (x y : Int32) : subb y (x ||| y) := fun i h => by rw [b_or, h, Bool.or_true]
theorem subb_0 (x : Int32) : subb 0 x := fun i h => by rw [b_0] at h; cases h
def clo (c : Nat → Int32) (r : Int32) : Prop := ∀ m, m < 8 → bt r m = true → subb (c m) r
/-- the least closed set -/
def Lst (c : Nat → Int32) (x r : Int32) : Prop := subb x r ∧ clo c r ∧ ∀ y, subb x y → clo c y → subb r y
theorem Lst_u {c : Nat → Int32} {x r r' : Int32} (h : Lst c x r) (h' : Lst c x r') : r = r' := subb_a (h.2.2 r' h'.1 h'.2.1) (h'.2.2 r h.1 h.2.1)
def wcI (c : Nat → Int32) (x : Int32) : Nat → Int32
  | 0 => x
  | n + 1 => if bt (wcI c x n) n = true then wcI c x n ||| c n else wcI c x n
theorem wcI_s (c : Nat → Int32) (x : Int32) (n : Nat) : wcI c x (n + 1) = if bt (wcI c x n) n = true then wcI c x n ||| c n else wcI c x n := rfl
def wcO (c : Nat → Int32) (x : Int32) : Nat → Int32
  | 0 => x
  | n + 1 => wcI c (wcO c x n) 8
theorem wcO_s (c : Nat → Int32) (x : Int32) (n : Nat) : wcO c x (n + 1) = wcI c (wcO c x n) 8 := rfl
theorem wcI_sub (c : Nat → Int32) (x : Int32) : ∀ n, subb x (wcI c x n) := by
  intro n
  induction n with
  | zero => exact subb_r x
  | succ n ih =>
    rw [wcI_s]
    by_cases h : bt (wcI c x n) n = true
    · rw [if_pos h]; exact subb_t ih (subb_l _ _)
    · rw [if_neg h]; exact ih
theorem wcI_min {c : Nat → Int32} {x y : Int32} (hx : subb x y) (hy : clo c y) : ∀ n, n ≤ 8 → subb (wcI c x n) y := by
  intro n
  induction n with
  | zero => intro _; exact hx
  | succ n ih =>
    intro hn
    have ih := ih (by omega)
    rw [wcI_s]
    by_cases h : bt (wcI c x n) n = true
    · rw [if_pos h]; exact subb_or ih (hy n (by omega) (ih n h))
    · rw [if_neg h]; exact ih
theorem wcI_low {c : Nat → Int32} {x : Int32} {N : Nat} (hx : lowb N x) (hc : ∀ m, lowb N (c m)) : ∀ n, lowb N (wcI c x n) := by
  intro n
  induction n with
  | zero => exact hx
  | succ n ih =>
    rw [wcI_s]
    by_cases h : bt (wcI c x n) n = true
    · rw [if_pos h]
      intro i hi
      rw [b_or, Bool.or_eq_true] at hi
      exact hi.elim (ih i) (hc n i)
    · rw [if_neg h]; exact ih
theorem wcI_clo {c : Nat → Int32} {x : Int32} (h : wcI c x 8 = x) : clo c x := by
  have mono : ∀ n, n ≤ 8 → subb (wcI c x n) (wcI c x 8) := by
    have up : ∀ n, subb (wcI c x n) (wcI c x (n + 1)) := fun n => by
      rw [wcI_s]
      by_cases g : bt (wcI c x n) n = true
      · rw [if_pos g]; exact subb_l _ _
      · rw [if_neg g]; exact subb_r _
    have : ∀ d n, n + d = 8 → subb (wcI c x n) (wcI c x 8) := by
      intro d
      induction d with
      | zero => intro n e; rw [show n = 8 by omega]; exact subb_r _
      | succ d ih => intro n e; exact subb_t (up n) (ih (n + 1) (by omega))
    intro n hn
    exact this (8 - n) n (by omega)
  intro m hm hb
  have h1 : subb (wcI c x (m + 1)) x := by
    have := mono (m + 1) (by omega)
    rw [h] at this
    exact this
  have h2 := wcI_sub c x m m hb
  rw [wcI_s, if_pos h2] at h1
  exact subb_t (subb_rr _ _) h1
theorem pcn_grow {x y : Int32} {N : Nat} (hs : subb x y) (hl : lowb N y) (hne : ¬ y = x) : pcn x N + 1 ≤ pcn y N := by
  have : ∃ j, bt x j = false ∧ bt y j = true := by
    obtain ⟨j, -, hj⟩ := b_ne hne
    refine ⟨j, ?_, ?_⟩
    · cases hx : bt x j
      · rfl
      · rw [hx, hs j hx] at hj; exact absurd rfl hj
    · cases hx : bt x j
      · rw [hx] at hj
        cases hy : bt y j
        · rw [hy] at hj; exact absurd rfl hj
        · rfl
      · exact hs j hx
  obtain ⟨j, h1, h2⟩ := this
  exact pcn_lt hs h1 h2 N (hl j h2)
theorem pcn_pos {x : Int32} {N : Nat} (hl : lowb N x) (hne : ¬ x = 0) : 1 ≤ pcn x N := by
  have := pcn_grow (subb_0 x) hl hne
  omega
theorem wcO_lst {c : Nat → Int32} {x : Int32} (hx : lowb 8 x) (hc : ∀ m, lowb 8 (c m)) : Lst c x (wcO c x 8) := by
  have sub : ∀ n, subb x (wcO c x n) := by
    intro n
    induction n with
    | zero => exact subb_r x
    | succ n ih => rw [wcO_s]; exact subb_t ih (wcI_sub _ _ 8)
  have low : ∀ n, lowb 8 (wcO c x n) := by
    intro n
    induction n with
    | zero => exact hx
    | succ n ih => rw [wcO_s]; exact wcI_low ih hc 8
  refine ⟨sub 8, ?_, fun y h1 h2 => ?_⟩
  · have hst : ∃ j, j < 8 ∧ wcO c x (j + 1) = wcO c x j := by
      apply Classical.byContradiction
      intro hn
      have hch : ∀ j, j < 8 → ¬ wcO c x (j + 1) = wcO c x j := fun j hj e => hn ⟨j, hj, e⟩
      have hcount : ∀ k, k ≤ 8 → pcn x 8 + k ≤ pcn (wcO c x k) 8 := by
        intro k
        induction k with
        | zero => intro _; exact Nat.le_refl _
        | succ k ih =>
          intro hk
          have h1 := ih (by omega)
          have h2 := pcn_grow (N := 8) (wcI_sub c (wcO c x k) 8) (low (k + 1)) (hch k (by omega))
          rw [← wcO_s] at h2
          omega
      have h8 := hcount 8 (Nat.le_refl _)
      have hle := pcn_le (wcO c x 8) 8
      have hx0 : x = 0 := Classical.byContradiction (fun h => by have := pcn_pos hx h; omega)
      subst hx0
      have z : ∀ n, wcI c 0 n = 0 := by
        intro n
        induction n with
        | zero => rfl
        | succ n ih => rw [wcI_s, ih, if_neg (by rw [b_0]; decide)]
      exact hch 0 (by omega) (z 8)
    obtain ⟨j, hj, e⟩ := hst
    have stay : ∀ n, j ≤ n → wcO c x n = wcO c x j := by
      intro n
      induction n with
      | zero => intro h; rw [show j = 0 by omega]
      | succ n ih =>
        intro h
        by_cases g : j = n + 1
        · rw [g]
        · rw [wcO_s, ih (by omega), ← wcO_s]; exact e
    rw [stay 8 (by omega)]
    apply wcI_clo
    rw [← wcO_s]
    exact e
  · have : ∀ n, subb (wcO c x n) y := by
      intro n
      induction n with
      | zero => exact h1
      | succ n ih => rw [wcO_s]; exact wcI_min ih h2 8 (Nat.le_refl _)
    exact this 8
theorem e_withCallees {σ : St} {F : Nat} {x : Int32} (hF : 16 < F) : f_S_withCallees F σ x = some (wcO (σ 10) x 8) := by
  have inner : ∀ (y : Int32) (z : Int32), f_S_withCallees_L13 F σ z F y (nI 0) = some (wcI (σ 10) y 8, nI 8) := by
    intro y z
    exact loop2 8 (f_S_withCallees_L13 F σ z) (fun k => wcI (σ 10) y k) (fun k => nI k) (wcI (σ 10) y 8, nI 8) (fun fu => by
      show f_S_withCallees_B13 F σ z _ _ (nI 8) = _
      unfold f_S_withCallees_B13
      rw [if_pos le_8]) (fun k fu hk => by
      show f_S_withCallees_B13 F σ z _ (wcI (σ 10) y k) (nI k) = f_S_withCallees_L13 F σ z fu (wcI (σ 10) y (k + 1)) (nI (k + 1))
      unfold f_S_withCallees_B13
      rw [if_neg (lt_8 hk), v_has (by omega), wcI_s]
      show (if bI (bt (wcI (σ 10) y k) k) = 0 then _ else _) = _
      rw [bIif, v_at hk (by omega), nI_1]
      by_cases c : bt (wcI (σ 10) y k) k = true
      · rw [if_pos c, if_pos c]; rfl
      · rw [if_neg c, if_neg c]) F (by omega)
  have hl := loop2 8 (f_S_withCallees_L4 F σ) (fun k => wcO (σ 10) x k) (fun k => nI k) (wcO (σ 10) x 8, nI 8) (fun fu => by
      show f_S_withCallees_B4 F σ _ _ (nI 8) = _
      unfold f_S_withCallees_B4
      rw [if_pos le_8]) (fun k fu hk => by
      show f_S_withCallees_B4 F σ _ (wcO (σ 10) x k) (nI k) = f_S_withCallees_L4 F σ fu (wcO (σ 10) x (k + 1)) (nI (k + 1))
      unfold f_S_withCallees_B4
      rw [if_neg (lt_8 hk), show (0 : Int32) = nI 0 from rfl, inner, nI_1, wcO_s]
      rfl) F (by omega)
  unfold f_S_withCallees
  rw [show (0 : Int32) = nI 0 from rfl]
  show Option.bind (f_S_withCallees_L4 F σ F (wcO (σ 10) x 0) (nI 0)) _ = _
  rw [hl]
  rfl
-- the reference
section LM
variable {τ : St} {p : PG} {F : Nat}
theorem m_calledBy (h : AM τ p) (hw : WF p) (hF : 64 < F) {m : Nat} (hm : m < 8) : f_M_calledBy F τ (nI m) = some (cal p m) := by
  have hS := hw.2.2.1
  have hl := loop2 (pS p) (f_M_calledBy_L4 F τ (nI m)) (fun k => calN p m k) (fun k => nI k) (cal p m, nI (pS p)) (fun fu => by
      show f_M_calledBy_B4 F τ (nI m) _ _ (nI (pS p)) = _
      unfold f_M_calledBy_B4
      rw [h.2.1, if_pos (nI_le (Nat.le_refl _) (by omega))]
      rfl) (fun k fu hk => by
      show f_M_calledBy_B4 F τ (nI m) _ (calN p m k) (nI k) = f_M_calledBy_L4 F τ (nI m) fu (calN p m (k + 1)) (nI (k + 1))
      obtain ⟨h64, hmk, hst⟩ := WF_step hw hk
      obtain ⟨r1, r2, r3, r4⟩ := h.2.2.2.1 k hk
      have i0 : ¬ (nI k < 0 ∨ 64 ≤ k) := fun z => z.elim (ix_n (by omega)) (by omega)
      have i5 : ¬ (nI (5 * k) < 0 ∨ 320 ≤ 5 * k) := fun z => z.elim (ix_n (by omega)) (by omega)
      have c0 : (nI k).toNatClampNeg = k := ix_c (by omega)
      have c5 : (nI (5 * k)).toNatClampNeg = 5 * k := ix_c (by omega)
      unfold f_M_calledBy_B4
      simp only [n5_I, c0, c5, if_pos i0, if_pos i5, r1, r2, nI_1]
      rw [h.2.1, if_neg (nI_ge hk (by omega)), calN_s]
      have e6 : (nI (pkd p k) = 6) ↔ pkd p k = 6 := nI_eq (b := 6) (by have := hst.2.1; omega) (by omega)
      have em : (nI (pow p k) = nI m) ↔ pow p k = m := nI_eq (by omega) (by omega)
      by_cases c : pkd p k = 6
      · rw [if_pos (e6.mpr c)]
        by_cases d : pow p k = m
        · rw [if_pos (em.mpr d), if_pos ⟨c, d⟩]
          have : τ 4 (5 * k) = nI (pnv p k 0) := by
            have := r4 0 (by rw [c]; decide)
            rw [Nat.add_zero, ndI_z] at this
            exact this
          rw [this]
          rfl
        · rw [if_neg (fun z => d (em.mp z)), if_neg (fun z => d z.2)]
      · rw [if_neg (fun z => c (e6.mp z)), if_neg (fun z => c z.1)]) F (by omega)
  unfold f_M_calledBy
  rw [show (0 : Int32) = nI 0 from rfl]
  show Option.bind (f_M_calledBy_L4 F τ (nI m) F (calN p m 0) (nI 0)) _ = _
  rw [hl]
  rfl
/-- one round of the reference: what the METHODS of x CALL -/
def aI (c : Nat → Int32) (x : Int32) : Nat → Int32
  | 0 => x
  | n + 1 => if bt x n = true then aI c x n ||| c n else aI c x n
theorem aI_s (c : Nat → Int32) (x : Int32) (n : Nat) : aI c x (n + 1) = if bt x n = true then aI c x n ||| c n else aI c x n := rfl
theorem aI_bit {c : Nat → Int32} {x : Int32} {i : Nat} : ∀ n, bt (aI c x n) i = true ↔ bt x i = true ∨ ∃ m, m < n ∧ bt x m = true ∧ bt (c m) i = true := by
  intro n
  induction n with
  | zero => exact ⟨Or.inl, fun h => h.elim id (fun ⟨m, h, _⟩ => absurd h (Nat.not_lt_zero m))⟩
  | succ n ih =>
    rw [aI_s]
    by_cases h : bt x n = true
    · rw [if_pos h, b_or, Bool.or_eq_true, ih]
      refine ⟨fun g => ?_, fun g => ?_⟩
      · rcases g with (g | ⟨m, g1, g2⟩) | g
        · exact Or.inl g
        · exact Or.inr ⟨m, by omega, g2⟩
        · exact Or.inr ⟨n, by omega, h, g⟩
      · rcases g with g | ⟨m, g1, g2, g3⟩
        · exact Or.inl (Or.inl g)
        · by_cases e : m = n
          · subst e; exact Or.inr g3
          · exact Or.inl (Or.inr ⟨m, by omega, g2, g3⟩)
    · rw [if_neg h, ih]
      refine ⟨fun g => ?_, fun g => ?_⟩
      · rcases g with g | ⟨m, g1, g2⟩
        · exact Or.inl g
        · exact Or.inr ⟨m, by omega, g2⟩
      · rcases g with g | ⟨m, g1, g2, g3⟩
        · exact Or.inl g
        · by_cases e : m = n
          · subst e; exact absurd g2 h
          · exact Or.inr ⟨m, by omega, g2, g3⟩
theorem m_allCalled (h : AM τ p) (hw : WF p) (hF : 64 < F) {x : Int32} (hx : lowb 8 x) : ∃ r, f_M_allCalled F τ x = some r ∧ Lst (cal p) x r := by
  have hM := hw.2.1
  have inner : ∀ y : Int32, f_M_allCalled_L14 F τ y F y (nI 0) = some (aI (cal p) y (pM p), nI (pM p)) := by
    intro y
    exact loop2 (pM p) (f_M_allCalled_L14 F τ y) (fun k => aI (cal p) y k) (fun k => nI k) (aI (cal p) y (pM p), nI (pM p)) (fun fu => by
      show f_M_allCalled_B14 F τ y _ _ (nI (pM p)) = _
      unfold f_M_allCalled_B14
      rw [h.1, if_pos (nI_le (Nat.le_refl _) (by omega))]) (fun k fu hk => by
      show f_M_allCalled_B14 F τ y _ (aI (cal p) y k) (nI k) = f_M_allCalled_L14 F τ y fu (aI (cal p) y (k + 1)) (nI (k + 1))
      unfold f_M_allCalled_B14
      rw [h.1, if_neg (nI_ge hk (by omega)), v_Mhas (by omega), m_calledBy h hw hF (by omega), aI_s]
      show (if bI (bt y k) = 0 then _ else _) = _
      rw [bIif, nI_1]
      by_cases c : bt y k = true
      · rw [if_pos c, if_pos c]; rfl
      · rw [if_neg c, if_neg c]) F (by omega)
  have lowI : ∀ y, lowb 8 y → lowb 8 (aI (cal p) y (pM p)) := by
    intro y hy i hi
    rcases (aI_bit _).mp hi with g | ⟨m, -, -, g⟩
    · exact hy i g
    · have := cal_low hw m i g; omega
  have subI : ∀ y, subb y (aI (cal p) y (pM p)) := fun y i hi => (aI_bit _).mpr (Or.inl hi)
  have cloI : ∀ y, aI (cal p) y (pM p) = y → clo (cal p) y := by
    intro y e m hm hb i hi
    by_cases g : m < pM p
    · rw [← e]; exact (aI_bit _).mpr (Or.inr ⟨m, g, hb, hi⟩)
    · rw [cal_big hw (by omega), b_0] at hi; cases hi
  have minI : ∀ y z, subb y z → clo (cal p) z → subb (aI (cal p) y (pM p)) z := by
    intro y z h1 h2 i hi
    rcases (aI_bit _).mp hi with g | ⟨m, g1, g2, g3⟩
    · exact h1 i g
    · exact h2 m (by omega) (h1 m g2) i g3
  -- the loop: d bounds how often it can still grow
  have loop : ∀ (d fu : Nat) (y b : Int32), lowb 8 y → 8 - pcn y 8 ≤ d → d + 1 < fu → (¬ y = b ∨ clo (cal p) y) → ∃ r, f_M_allCalled_L4 F τ fu y b = some (r, r) ∧ subb y r ∧ clo (cal p) r ∧ ∀ z, subb y z → clo (cal p) z → subb r z := by
    intro d
    induction d with
    | zero =>
      intro fu y b hy hd hfu hcl
      obtain ⟨fu, rfl⟩ : ∃ z, fu = z + 2 := ⟨fu - 2, by omega⟩
      have hst : aI (cal p) y (pM p) = y := Classical.byContradiction (fun hne => by
        have h1 := pcn_grow (subI y) (lowI y hy) hne
        have h2 := pcn_le (aI (cal p) y (pM p)) 8
        omega)
      refine ⟨y, ?_, subb_r y, cloI y hst, fun z h1 _ => h1⟩
      show f_M_allCalled_B4 F τ (f_M_allCalled_L4 F τ (fu + 1)) y b = _
      unfold f_M_allCalled_B4
      by_cases c : y = b
      · rw [if_pos c, c]
      · rw [if_neg c, show (0 : Int32) = nI 0 from rfl, inner, hst]
        show f_M_allCalled_B4 F τ (f_M_allCalled_L4 F τ fu) y y = _
        unfold f_M_allCalled_B4
        rw [if_pos rfl]
    | succ d ih =>
      intro fu y b hy hd hfu hcl
      obtain ⟨fu, rfl⟩ : ∃ z, fu = z + 1 := ⟨fu - 1, by omega⟩
      show ∃ r, f_M_allCalled_B4 F τ (f_M_allCalled_L4 F τ fu) y b = _ ∧ _
      unfold f_M_allCalled_B4
      by_cases c : y = b
      · rw [if_pos c]
        have hc2 := hcl.resolve_left (fun g => g c)
        exact ⟨y, by rw [c], subb_r y, hc2, fun z h1 _ => h1⟩
      · rw [if_neg c, show (0 : Int32) = nI 0 from rfl, inner]
        show ∃ r, f_M_allCalled_L4 F τ fu (aI (cal p) y (pM p)) y = _ ∧ _
        by_cases e : aI (cal p) y (pM p) = y
        · rw [e]
          obtain ⟨fu, rfl⟩ : ∃ z, fu = z + 1 := ⟨fu - 1, by omega⟩
          refine ⟨y, ?_, subb_r y, cloI y e, fun z h1 _ => h1⟩
          show f_M_allCalled_B4 F τ (f_M_allCalled_L4 F τ fu) y y = _
          unfold f_M_allCalled_B4
          rw [if_pos rfl]
        · have h1 := pcn_grow (subI y) (lowI y hy) e
          obtain ⟨r, r1, r2, r3, r4⟩ := ih fu (aI (cal p) y (pM p)) y (lowI y hy) (by omega) (by omega) (Or.inl e)
          exact ⟨r, r1, subb_t (subI y) r2, r3, fun z h1 h2 => r4 z (minI y z h1 h2) h2⟩
  have hcl0 : ¬ x = 0 ∨ clo (cal p) x := by
    by_cases c : x = 0
    · right
      intro m _ hb
      rw [c, b_0] at hb; cases hb
    · exact Or.inl c
  obtain ⟨r, r1, r2⟩ := loop 8 F x 0 hx (by omega) (by omega) hcl0
  refine ⟨r, ?_, r2⟩
  unfold f_M_allCalled
  rw [r1]
  rfl
end LM
