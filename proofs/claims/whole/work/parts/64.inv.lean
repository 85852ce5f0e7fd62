/-! What the sets keep; how often they can grow. -/
def okv (p : PG) (lv x : Int32) : Prop := ∀ i, bt x i = true → i < pT p ∧ bt lv (pow p (pmk p i)) = true
theorem okv_0 {p : PG} {lv : Int32} : okv p lv 0 := fun i h => by rw [b_0] at h; cases h
theorem okv_or {p : PG} {lv x y : Int32} (hx : okv p lv x) (hy : okv p lv y) : okv p lv (x ||| y) := fun i h => by
  rw [b_or, Bool.or_eq_true] at h
  exact h.elim (hx i) (hy i)
theorem okv_jn {p : PG} {lv v : Int32} {f : Nat → Int32} {k : Nat} (hf : ∀ i, okv p lv (f i)) (hv : okv p lv v) : ∀ i, okv p lv (jn f k v i) := by
  intro i
  unfold jn upd
  by_cases h : i = k
  · rw [if_pos h]; exact okv_or (hf k) hv
  · rw [if_neg h]; exact hf i
theorem okv_ofF {p : PG} {lv set : Int32} {fd : Nat → Int32} {f : Nat} (hf : ∀ i, okv p lv (fd i)) : ∀ n, okv p lv (ofF fd set f n) := by
  intro n
  induction n with
  | zero => exact okv_0
  | succ n ih =>
    rw [ofF_s]
    by_cases c : bt set n = true
    · rw [if_pos c]; exact okv_or ih (hf _)
    · rw [if_neg c]; exact ih
theorem okv_jF {p : PG} {lv set v : Int32} {fd : Nat → Int32} {f : Nat} (hf : ∀ i, okv p lv (fd i)) (hv : okv p lv v) : ∀ n i, okv p lv (jF fd set f v n i) := by
  intro n
  induction n with
  | zero => exact hf
  | succ n ih =>
    rw [jF_s]
    by_cases c : bt set n = true
    · rw [if_pos c]; exact okv_jn ih hv
    · rw [if_neg c]; exact ih
theorem okv_cN {p : PG} {lv : Int32} {f : Nat → Int32} {m to : Nat} {a : Nat → Nat} (hf : ∀ i, okv p lv (f i)) : ∀ n i, okv p lv (cN f m to a n i) := by
  intro n
  induction n with
  | zero => exact hf
  | succ n ih =>
    rw [cN_s]
    by_cases c : a n = 8
    · rw [if_pos c]; exact ih
    · rw [if_neg c]; exact okv_jn ih (ih _)
def okX (p : PG) (lv : Int32) (X : XX) : Prop := (∀ i, okv p lv (X.1 i)) ∧ (∀ i, okv p lv (X.2.1 i)) ∧ (∀ i, okv p lv (X.2.2.1 i)) ∧ (∀ i, okv p lv (X.2.2.2 i))
theorem okv_sh {p : PG} (hw : WF p) {lv : Int32} {s : Nat} (hs : s < pS p) (hk : pkd p s = 0) (hl : bt lv (pow p s) = true) : okv p lv (sh (psi p s)) := by
  have h3 := (hw.2.2.2.2.1 s hs).2.2.1 hk
  have hT := hw.2.2.2.1
  intro i hi
  rcases Nat.lt_or_ge i 32 with h | h
  · rw [b_sh (by omega) h, decide_eq_true_eq] at hi
    subst hi
    refine ⟨h3.1, ?_⟩
    rw [h3.2]
    exact hl
  · rw [b_big h] at hi; cases hi
-- counts
def pcn (x : Int32) : Nat → Nat
  | 0 => 0
  | n + 1 => pcn x n + (bt x n).toNat
theorem pcn_s (x : Int32) (n : Nat) : pcn x (n + 1) = pcn x n + (bt x n).toNat := rfl
theorem toNat_le1 (b : Bool) : b.toNat ≤ 1 := by cases b <;> decide
theorem pcn_le (x : Int32) : ∀ n, pcn x n ≤ n := by
  intro n
  induction n with
  | zero => exact Nat.le_refl _
  | succ n ih => rw [pcn_s]; have := toNat_le1 (bt x n); omega
theorem pcn_mono {x y : Int32} (h : ∀ i, bt x i = true → bt y i = true) : ∀ n, pcn x n ≤ pcn y n := by
  intro n
  induction n with
  | zero => exact Nat.le_refl _
  | succ n ih =>
    rw [pcn_s, pcn_s]
    have := h n
    cases hx : bt x n
    · simp; omega
    · rw [hx] at this; rw [this rfl]; omega
theorem pcn_lt {x y : Int32} (h : ∀ i, bt x i = true → bt y i = true) {j : Nat} (hx : bt x j = false) (hy : bt y j = true) : ∀ n, j < n → pcn x n + 1 ≤ pcn y n := by
  intro n
  induction n with
  | zero => intro h; omega
  | succ n ih =>
    intro hj
    rw [pcn_s, pcn_s]
    by_cases e : j = n
    · subst e
      have := pcn_mono h j
      rw [hx, hy]
      simp
      omega
    · have := ih (by omega)
      have h2 := h n
      cases hxn : bt x n
      · simp; omega
      · rw [hxn] at h2; rw [h2 rfl]; omega
def smN (f : Nat → Int32) : Nat → Nat
  | 0 => 0
  | n + 1 => smN f n + pcn (f n) 16
theorem smN_s (f : Nat → Int32) (n : Nat) : smN f (n + 1) = smN f n + pcn (f n) 16 := rfl
theorem smN_le (f : Nat → Int32) : ∀ n, smN f n ≤ 16 * n := by
  intro n
  induction n with
  | zero => exact Nat.le_refl _
  | succ n ih => rw [smN_s]; have := pcn_le (f n) 16; omega
theorem smN_upd {f : Nat → Int32} {k : Nat} {v : Int32} {d : Nat} (h : pcn (f k) 16 + d ≤ pcn v 16) : ∀ n, (k < n → smN f n + d ≤ smN (upd f k v) n) ∧ (n ≤ k → smN (upd f k v) n = smN f n) := by
  intro n
  induction n with
  | zero => exact ⟨fun h => absurd h (Nat.not_lt_zero k), fun _ => rfl⟩
  | succ n ih =>
    rw [smN_s, smN_s]
    refine ⟨fun hk => ?_, fun hk => ?_⟩
    · by_cases e : k = n
      · subst e
        rw [ih.2 (Nat.le_refl _), pk_us]
        omega
      · rw [pk_un (Ne.symm e)]
        have := ih.1 (by omega)
        omega
    · rw [ih.2 (by omega), pk_un (by omega)]
/-- g says whether f grew to f' -/
def GG (n : Nat) (f f' : Nat → Int32) (g : Bool) : Prop := (g = false → f' = f) ∧ smN f n + g.toNat ≤ smN f' n
theorem GG_r {n : Nat} {f : Nat → Int32} : GG n f f false := ⟨fun _ => rfl, Nat.le_refl _⟩
theorem GG_t {n : Nat} {f f' f'' : Nat → Int32} {g g' : Bool} (h : GG n f f' g) (h' : GG n f' f'' g') : GG n f f'' (g || g') := by
  refine ⟨fun e => ?_, ?_⟩
  · rw [Bool.or_eq_false_iff] at e
    rw [h'.1 e.2, h.1 e.1]
  · have h1 := h.2
    have h2 := h'.2
    cases g <;> cases g' <;> simp at h1 h2 ⊢ <;> omega
theorem jn_id {f : Nat → Int32} {k : Nat} {v : Int32} (h : jg f k v = false) : jn f k v = f := by
  unfold jg at h
  unfold jn
  have e : f k ||| v = f k := by
    by_cases c : f k ||| v = f k
    · exact c
    · rw [decide_eq_true c] at h; cases h
  rw [e, upd_id]
theorem b_ne {x y : Int32} (h : ¬ x = y) : ∃ i, i < 32 ∧ ¬ bt x i = bt y i := by
  apply Classical.byContradiction
  intro hn
  exact h (b_ext (fun i hi => Classical.byContradiction (fun hc => hn ⟨i, hi, hc⟩)))
theorem or_new {x v : Int32} (h : ¬ x ||| v = x) : ∃ j, bt x j = false ∧ bt v j = true := by
  obtain ⟨j, -, hj⟩ := b_ne h
  rw [b_or] at hj
  refine ⟨j, ?_, ?_⟩
  · cases hx : bt x j
    · rfl
    · rw [hx] at hj; simp at hj
  · cases hx : bt x j
    · rw [hx] at hj
      cases hv : bt v j
      · rw [hv] at hj; simp at hj
      · rfl
    · rw [hx] at hj; simp at hj
theorem or_sub (x v : Int32) : ∀ i, bt x i = true → bt (x ||| v) i = true := fun i h => by rw [b_or, h]; rfl
theorem GG_jn {p : PG} {lv : Int32} (hT : pT p ≤ 16) {n k : Nat} {f : Nat → Int32} {v : Int32} (hk : k < n) (hv : okv p lv v) : GG n f (jn f k v) (jg f k v) := by
  refine ⟨jn_id, ?_⟩
  unfold jn
  cases hg : jg f k v
  · have hm : pcn (f k) 16 + 0 ≤ pcn (f k ||| v) 16 := by
      have := pcn_mono (or_sub (f k) v) 16
      omega
    have := (smN_upd hm n).1 hk
    simpa using this
  · have hne : ¬ f k ||| v = f k := by
      unfold jg at hg
      exact of_decide_eq_true hg
    obtain ⟨j, h1, h2⟩ := or_new hne
    have h3 := (hv j h2).1
    have hm : pcn (f k) 16 + 1 ≤ pcn (f k ||| v) 16 := pcn_lt (or_sub (f k) v) h1 (by rw [b_or, h2, Bool.or_true]) 16 (by omega)
    have := (smN_upd hm n).1 hk
    simpa using this
theorem GG_jF {p : PG} {lv : Int32} (hT : pT p ≤ 16) {fd : Nat → Int32} {set v : Int32} {f : Nat} (hf : f < 4) (hv : okv p lv v) : ∀ n, n ≤ 16 → GG 64 fd (jF fd set f v n) (jFg fd set f v n) := by
  intro n
  induction n with
  | zero => intro _; exact GG_r
  | succ n ih =>
    intro h
    rw [jF_s, jFg_s]
    by_cases c : bt set n = true
    · rw [if_pos c, if_pos c]
      exact GG_t (ih (by omega)) (GG_jn hT (by omega) hv)
    · rw [if_neg c, if_neg c]
      exact ih (by omega)
theorem GG_cN {p : PG} {lv : Int32} (hT : pT p ≤ 16) {f : Nat → Int32} {m to : Nat} {a : Nat → Nat} (hto : to < 8) (hf : ∀ i, okv p lv (f i)) : ∀ n, n ≤ 8 → GG 64 f (cN f m to a n) (cNg f m to a n) := by
  intro n
  induction n with
  | zero => intro _; exact GG_r
  | succ n ih =>
    intro h
    rw [cN_s, cNg_s]
    by_cases c : a n = 8
    · rw [if_pos c, if_pos c]
      exact ih (by omega)
    · rw [if_neg c, if_neg c]
      exact GG_t (ih (by omega)) (GG_jn hT (by omega) (okv_cN hf n _))
def mu (X : XX) : Nat := smN X.1 64 + smN X.2.1 64 + smN X.2.2.1 4 + smN X.2.2.2 8
theorem mu_le (X : XX) : mu X ≤ 2240 := by
  unfold mu
  have h1 := smN_le X.1 64
  have h2 := smN_le X.2.1 64
  have h3 := smN_le X.2.2.1 4
  have h4 := smN_le X.2.2.2 8
  omega
def GX (X X' : XX) (g : Bool) : Prop := (g = false → X' = X) ∧ mu X + g.toNat ≤ mu X'
theorem GX_r {X : XX} : GX X X false := ⟨fun _ => rfl, Nat.le_refl _⟩
theorem GX_t {X X' X'' : XX} {g g' : Bool} (h : GX X X' g) (h' : GX X' X'' g') : GX X X'' (g || g') := by
  refine ⟨fun e => ?_, ?_⟩
  · rw [Bool.or_eq_false_iff] at e
    rw [h'.1 e.2, h.1 e.1]
  · have h1 := h.2
    have h2 := h'.2
    cases g <;> cases g' <;> simp at h1 h2 ⊢ <;> omega
theorem GX_1 {X : XX} {f : Nat → Int32} {g : Bool} (h : GG 64 X.1 f g) : GX X (f, X.2) g := ⟨fun e => by rw [h.1 e], by have := h.2; unfold mu; dsimp only; omega⟩
theorem GX_2 {X : XX} {f : Nat → Int32} {g : Bool} (h : GG 64 X.2.1 f g) : GX X (X.1, f, X.2.2) g := ⟨fun e => by rw [h.1 e], by have := h.2; unfold mu; dsimp only; omega⟩
theorem GX_3 {X : XX} {f : Nat → Int32} {g : Bool} (h : GG 4 X.2.2.1 f g) : GX X (X.1, X.2.1, f, X.2.2.2) g := ⟨fun e => by rw [h.1 e], by have := h.2; unfold mu; dsimp only; omega⟩
theorem GX_4 {X : XX} {f : Nat → Int32} {g : Bool} (h : GG 8 X.2.2.2 f g) : GX X (X.1, X.2.1, X.2.2.1, f) g := ⟨fun e => by rw [h.1 e], by have := h.2; unfold mu; dsimp only; omega⟩

theorem GX_fl {p : PG} (hw : WF p) {lv : Int32} {X : XX} (hX : okX p lv X) {s : Nat} (hs : s < pS p) (hl : bt lv (pow p s) = true) : GX X (flX p X s) (flG p X s) := by
  obtain ⟨h64, hm, hst⟩ := WF_step hw hs
  obtain ⟨h1, h2, h3, h4⟩ := hst
  have hT := hw.2.2.2.1
  obtain ⟨x1, x2, x3, x4⟩ := hX
  have hk : pkd p s = 0 ∨ pkd p s = 1 ∨ pkd p s = 2 ∨ pkd p s = 3 ∨ pkd p s = 4 ∨ pkd p s = 5 ∨ pkd p s = 6 ∨ pkd p s = 7 ∨ pkd p s = 8 ∨ pkd p s = 9 ∨ pkd p s = 10 := by omega
  unfold flX flG
  rcases hk with k | k | k | k | k | k | k | k | k | k | k
  · have hs0 := okv_sh hw hs k hl
    rw [k] at h4 ⊢
    have a0 : pnv p s 0 < 8 := h4 0 (by decide)
    exact GX_1 (GG_jn hT (by omega) hs0)
  · rw [k] at h4 ⊢
    have a0 : pnv p s 0 < 8 := h4 0 (by decide)
    exact GX_1 (GG_jn hT (by omega) (x1 _))
  · rw [k] at h4 ⊢
    have a0 : pnv p s 0 < 8 := h4 0 (by decide)
    exact GX_1 (GG_jn hT (by omega) (okv_ofF x2 16))
  · rw [k] at h4 ⊢
    have a1 : pnv p s 1 < 4 := h4 1 (by decide)
    exact GX_2 (GG_jF hT a1 (x1 _) 16 (Nat.le_refl _))
  · rw [k] at h4 ⊢
    have a0 : pnv p s 0 < 8 := h4 0 (by decide)
    exact GX_1 (GG_jn hT (by omega) (x3 _))
  · rw [k] at h4 ⊢
    have a0 : pnv p s 0 < 4 := h4 0 (by decide)
    exact GX_3 (GG_jn hT a0 (x1 _))
  · have hto : pnv p s 0 < 8 := by have := h4 0 (by rw [k]; decide); rw [k] at this; simp [limN] at this; have := hw.2.1; omega
    have h5 : pnv p s 4 < 9 := by have := h4 4 (by rw [k]; decide); rw [k] at this; simp [limN] at this; exact this
    rw [k]
    have hc := GG_cN hT (m := pow p s) (a := fun i => pnv p s (1 + i)) hto x1 3 (by omega)
    by_cases c : pnv p s 4 = 8
    · simp only [c]
      exact GX_1 hc
    · simp only [c]
      exact GX_1 (GG_t hc (GG_jn hT (by omega) (x4 _)))
  · rw [k] at h4 ⊢
    exact GX_4 (GG_jn hT hm (x1 _))
  · rw [k]; exact GX_r
  · rw [k]; exact GX_r
  · rw [k]; exact GX_r
/-- all that the sets keep -/
def INV (p : PG) (lv : Int32) (X : XX) : Prop := okX p lv X ∧ (∀ m, bt lv m = false → (∀ x, x < 8 → X.1 (8 * m + x) = 0) ∧ X.2.2.2 m = 0) ∧ (∀ s f, f < 4 → pT p ≤ s → X.2.1 (4 * s + f) = 0) ∧ (∀ i, 64 ≤ i → X.1 i = 0) ∧ (∀ i, 4 ≤ i → X.2.2.1 i = 0) ∧ (∀ i, 8 ≤ i → X.2.2.2 i = 0)
def lvc (p : PG) (lv : Int32) : Prop := ∀ s, s < pS p → bt lv (pow p s) = true → pkd p s = 6 → bt lv (pnv p s 0) = true
theorem jn_o {f : Nat → Int32} {k i : Nat} {v : Int32} (h : i ≠ k) : jn f k v i = f i := pk_un h
theorem cN_o {f : Nat → Int32} {m to : Nat} {a : Nat → Nat} {i : Nat} : ∀ n, (∀ j, j < n → i ≠ 8 * to + j) → cN f m to a n i = f i := by
  intro n
  induction n with
  | zero => intro _; rfl
  | succ n ih =>
    intro h
    rw [cN_s]
    by_cases c : a n = 8
    · rw [if_pos c]; exact ih (fun j hj => h j (by omega))
    · rw [if_neg c, jn_o (h n (by omega))]; exact ih (fun j hj => h j (by omega))
theorem jF_o {fd : Nat → Int32} {set v : Int32} {f i : Nat} : ∀ n, (∀ j, j < n → bt set j = true → i ≠ 4 * j + f) → jF fd set f v n i = fd i := by
  intro n
  induction n with
  | zero => intro _; rfl
  | succ n ih =>
    intro h
    rw [jF_s]
    by_cases c : bt set n = true
    · rw [if_pos c, jn_o (h n (by omega) c)]; exact ih (fun j hj => h j (by omega))
    · rw [if_neg c]; exact ih (fun j hj => h j (by omega))
theorem INV_fl {p : PG} (hw : WF p) {lv : Int32} (hc : lvc p lv) {X : XX} (hX : INV p lv X) {s : Nat} (hs : s < pS p) (hl : bt lv (pow p s) = true) : INV p lv (flX p X s) := by
  obtain ⟨h64, hm, hst⟩ := WF_step hw hs
  obtain ⟨h1, h2, h3, h4⟩ := hst
  have hT := hw.2.2.2.1
  obtain ⟨⟨x1, x2, x3, x4⟩, z1, z2, z3, z4, z5⟩ := hX
  -- a join to a name of the step's own method
  have own : ∀ (a : Nat) (v : Int32), a < 8 → okv p lv v → ∀ (f : Nat → Int32), (∀ i, okv p lv (f i)) → (∀ m, bt lv m = false → ∀ x, x < 8 → f (8 * m + x) = 0) → (∀ i, 64 ≤ i → f i = 0) → INV p lv (jn f (8 * pow p s + a) v, X.2) := by
    intro a v ha hv f f1 f2 f3
    refine ⟨⟨okv_jn f1 hv, x2, x3, x4⟩, fun m hml => ⟨fun x hx => ?_, (z1 m hml).2⟩, z2, fun i hi => ?_, z4, z5⟩
    · show jn f _ v (8 * m + x) = 0
      rw [jn_o (fun e => ?_)]
      · exact f2 m hml x hx
      · have : m = pow p s := by omega
        rw [this, hl] at hml; cases hml
    · show jn f _ v i = 0
      rw [jn_o (by omega)]
      exact f3 i hi
  have n1 : ∀ m, bt lv m = false → ∀ x, x < 8 → X.1 (8 * m + x) = 0 := fun m h => (z1 m h).1
  have hk : pkd p s = 0 ∨ pkd p s = 1 ∨ pkd p s = 2 ∨ pkd p s = 3 ∨ pkd p s = 4 ∨ pkd p s = 5 ∨ pkd p s = 6 ∨ pkd p s = 7 ∨ pkd p s = 8 ∨ pkd p s = 9 ∨ pkd p s = 10 := by omega
  unfold flX
  rcases hk with k | k | k | k | k | k | k | k | k | k | k
  · have hs0 := okv_sh hw hs k hl
    rw [k] at h4 ⊢
    exact own _ _ (h4 0 (by decide)) hs0 X.1 x1 n1 z3
  · rw [k] at h4 ⊢
    exact own _ _ (h4 0 (by decide)) (x1 _) X.1 x1 n1 z3
  · rw [k] at h4 ⊢
    exact own _ _ (h4 0 (by decide)) (okv_ofF x2 16) X.1 x1 n1 z3
  · rw [k] at h4 ⊢
    have a1 : pnv p s 1 < 4 := h4 1 (by decide)
    refine ⟨⟨x1, okv_jF x2 (x1 _) 16, x3, x4⟩, z1, fun t f hf ht => ?_, z3, z4, z5⟩
    show jF X.2.1 _ _ _ 16 (4 * t + f) = 0
    rw [jF_o 16 (fun j hj hb e => ?_)]
    · exact z2 t f hf ht
    · have := (x1 _ j hb).1
      omega
  · rw [k] at h4 ⊢
    exact own _ _ (h4 0 (by decide)) (x3 _) X.1 x1 n1 z3
  · rw [k] at h4 ⊢
    have a0 : pnv p s 0 < 4 := h4 0 (by decide)
    refine ⟨⟨x1, x2, okv_jn x3 (x1 _), x4⟩, z1, z2, z3, fun i hi => ?_, z5⟩
    show jn X.2.2.1 _ _ i = 0
    rw [jn_o (by omega)]
    exact z4 i hi
  · have hto : pnv p s 0 < 8 := by have := h4 0 (by rw [k]; decide); rw [k] at this; simp [limN] at this; have := hw.2.1; omega
    have h5 : pnv p s 4 < 9 := by have := h4 4 (by rw [k]; decide); rw [k] at this; simp [limN] at this; exact this
    have hlt := hc s hs hl k
    rw [k]
    have c1 := okv_cN (m := pow p s) (to := pnv p s 0) (a := fun i => pnv p s (1 + i)) x1 3
    have c2 : ∀ m, bt lv m = false → ∀ x, x < 8 → cN X.1 (pow p s) (pnv p s 0) (fun i => pnv p s (1 + i)) 3 (8 * m + x) = 0 := by
      intro m hml x hx
      rw [cN_o 3 (fun j hj e => ?_)]
      · exact n1 m hml x hx
      · have : m = pnv p s 0 := by omega
        rw [this, hlt] at hml; cases hml
    have c3 : ∀ i, 64 ≤ i → cN X.1 (pow p s) (pnv p s 0) (fun i => pnv p s (1 + i)) 3 i = 0 := by
      intro i hi
      rw [cN_o 3 (fun j hj e => by omega)]
      exact z3 i hi
    by_cases c : pnv p s 4 = 8
    · simp only [c]
      exact ⟨⟨c1, x2, x3, x4⟩, fun m hml => ⟨c2 m hml, (z1 m hml).2⟩, z2, c3, z4, z5⟩
    · simp only [c]
      exact own _ _ (by omega) (x4 _) _ c1 c2 c3
  · rw [k] at h4 ⊢
    refine ⟨⟨x1, x2, x3, okv_jn x4 (x1 _)⟩, fun m hml => ⟨(z1 m hml).1, ?_⟩, z2, z3, z4, fun i hi => ?_⟩
    · show jn X.2.2.2 _ _ m = 0
      rw [jn_o (fun e => by rw [e, hl] at hml; cases hml)]
      exact (z1 m hml).2
    · show jn X.2.2.2 _ _ i = 0
      rw [jn_o (by omega)]
      exact z5 i hi
  · rw [k]; exact ⟨⟨x1, x2, x3, x4⟩, z1, z2, z3, z4, z5⟩
  · rw [k]; exact ⟨⟨x1, x2, x3, x4⟩, z1, z2, z3, z4, z5⟩
  · rw [k]; exact ⟨⟨x1, x2, x3, x4⟩, z1, z2, z3, z4, z5⟩
theorem sw_all {p : PG} (hw : WF p) {lv : Int32} (hc : lvc p lv) {X : XX} (hX : INV p lv X) : ∀ n, n ≤ pS p → INV p lv (swX p lv X n) ∧ GX X (swX p lv X n) (swG p lv X n) := by
  intro n
  induction n with
  | zero => intro _; exact ⟨hX, GX_r⟩
  | succ n ih =>
    intro h
    obtain ⟨i1, i2⟩ := ih (by omega)
    rw [swX_s, swG_s]
    by_cases c : bt lv (pow p n) = true
    · rw [if_pos c, if_pos c]
      exact ⟨INV_fl hw hc i1 (by omega) c, GX_t i2 (GX_fl hw i1.1 (by omega) c)⟩
    · rw [if_neg c, if_neg c]
      exact ⟨i1, i2⟩
def X0 : XX := (fun _ => 0, fun _ => 0, fun _ => 0, fun _ => 0)
theorem INV_0 {p : PG} {lv : Int32} : INV p lv X0 := ⟨⟨fun _ => okv_0, fun _ => okv_0, fun _ => okv_0, fun _ => okv_0⟩, fun _ _ => ⟨fun _ _ => rfl, rfl⟩, fun _ _ _ _ => rfl, fun _ _ => rfl, fun _ _ => rfl, fun _ _ => rfl⟩
/-- k sweeps from nothing -/
def itX (p : PG) (lv : Int32) : Nat → XX
  | 0 => X0
  | k + 1 => swX p lv (itX p lv k) (pS p)
def itG (p : PG) (lv : Int32) (k : Nat) : Bool := swG p lv (itX p lv k) (pS p)
theorem itX_inv {p : PG} (hw : WF p) {lv : Int32} (hc : lvc p lv) : ∀ k, INV p lv (itX p lv k) := by
  intro k
  induction k with
  | zero => exact INV_0
  | succ k ih => exact (sw_all hw hc ih (pS p) (Nat.le_refl _)).1
theorem itX_gx {p : PG} (hw : WF p) {lv : Int32} (hc : lvc p lv) (k : Nat) : GX (itX p lv k) (itX p lv (k + 1)) (itG p lv k) := (sw_all hw hc (itX_inv hw hc k) (pS p) (Nat.le_refl _)).2
theorem itX_end {p : PG} (hw : WF p) {lv : Int32} (hc : lvc p lv) : ∃ K, K ≤ 2240 ∧ itG p lv K = false ∧ ∀ k, k < K → itG p lv k = true := by
  have hex : ∃ K, K ≤ 2240 ∧ itG p lv K = false := by
    apply Classical.byContradiction
    intro hn
    have hall : ∀ k, k ≤ 2240 → itG p lv k = true := fun k hk => by
      cases hg : itG p lv k
      · exact absurd ⟨k, hk, hg⟩ hn
      · rfl
    have hmu : ∀ k, k ≤ 2241 → k ≤ mu (itX p lv k) := by
      intro k
      induction k with
      | zero => intro _; exact Nat.zero_le _
      | succ k ih =>
        intro h
        have h1 := ih (by omega)
        have h2 := (itX_gx hw hc k).2
        rw [hall k (by omega)] at h2
        simp at h2
        omega
    have := hmu 2241 (Nat.le_refl _)
    have := mu_le (itX p lv 2241)
    omega
  obtain ⟨K, ⟨hK, hg⟩, hmin⟩ := pk_least (fun K => K ≤ 2240 ∧ itG p lv K = false) hex
  refine ⟨K, hK, hg, fun k hk => ?_⟩
  cases hgk : itG p lv k
  · exact absurd ⟨by omega, hgk⟩ (hmin k hk)
  · rfl
theorem itX_stay {p : PG} (hw : WF p) {lv : Int32} (hc : lvc p lv) {K : Nat} (hg : itG p lv K = false) : ∀ j, K ≤ j → itX p lv j = itX p lv K := by
  have h1 : itX p lv (K + 1) = itX p lv K := (itX_gx hw hc K).1 hg
  intro j
  induction j with
  | zero => intro h; rw [show K = 0 by omega]
  | succ j ih =>
    intro h
    by_cases e : K = j + 1
    · rw [e]
    · have h2 := ih (by omega)
      show swX p lv (itX p lv j) (pS p) = _
      rw [h2]
      exact h1
