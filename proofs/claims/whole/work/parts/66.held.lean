/-! FIELDS of sets of SITES; what is come to; LEVELS. -/
theorem ofF_bit {fd : Nat → Int32} {set : Int32} {f i : Nat} : ∀ n, bt (ofF fd set f n) i = true ↔ ∃ s, s < n ∧ bt set s = true ∧ bt (fd (4 * s + f)) i = true := by
  intro n
  induction n with
  | zero => exact ⟨fun h => (by rw [show ofF fd set f 0 = 0 from rfl, b_0] at h; cases h), fun ⟨s, h, _⟩ => absurd h (Nat.not_lt_zero s)⟩
  | succ n ih =>
    rw [ofF_s]
    by_cases c : bt set n = true
    · rw [if_pos c, b_or, Bool.or_eq_true, ih]
      refine ⟨fun h => ?_, fun ⟨s, h1, h2, h3⟩ => ?_⟩
      · rcases h with ⟨s, h1, h2⟩ | h
        · exact ⟨s, by omega, h2⟩
        · exact ⟨n, by omega, c, h⟩
      · by_cases e : s = n
        · subst e; exact Or.inr h3
        · exact Or.inl ⟨s, by omega, h2, h3⟩
    · rw [if_neg c, ih]
      refine ⟨fun ⟨s, h1, h2⟩ => ⟨s, by omega, h2⟩, fun ⟨s, h1, h2, h3⟩ => ?_⟩
      by_cases e : s = n
      · subst e; exact absurd h2 c
      · exact ⟨s, by omega, h2, h3⟩
def hdN (fd : Nat → Int32) (set : Int32) (N : Nat) : Nat → Int32
  | 0 => 0
  | n + 1 => hdN fd set N n ||| ofF fd set n N
theorem hdN_s (fd : Nat → Int32) (set : Int32) (N n : Nat) : hdN fd set N (n + 1) = hdN fd set N n ||| ofF fd set n N := rfl
def held (fd : Nat → Int32) (set : Int32) : Int32 := hdN fd set 16 4
theorem hdN_bit {fd : Nat → Int32} {set : Int32} {N i : Nat} : ∀ n, bt (hdN fd set N n) i = true ↔ ∃ f, f < n ∧ ∃ s, s < N ∧ bt set s = true ∧ bt (fd (4 * s + f)) i = true := by
  intro n
  induction n with
  | zero => exact ⟨fun h => (by rw [show hdN fd set N 0 = 0 from rfl, b_0] at h; cases h), fun ⟨s, h, _⟩ => absurd h (Nat.not_lt_zero s)⟩
  | succ n ih =>
    rw [hdN_s, b_or, Bool.or_eq_true, ih, ofF_bit]
    refine ⟨fun h => ?_, fun ⟨f, h1, h2⟩ => ?_⟩
    · rcases h with ⟨f, h1, h2⟩ | h
      · exact ⟨f, by omega, h2⟩
      · exact ⟨n, by omega, h⟩
    · by_cases e : f = n
      · subst e; exact Or.inr h2
      · exact Or.inl ⟨f, by omega, h2⟩
theorem held_iff {fd : Nat → Int32} {set : Int32} {i : Nat} : bt (held fd set) i = true ↔ ∃ f, f < 4 ∧ ∃ s, s < 16 ∧ bt set s = true ∧ bt (fd (4 * s + f)) i = true := hdN_bit 4
theorem held_mono {fd : Nat → Int32} {x y : Int32} (h : subb x y) : subb (held fd x) (held fd y) := fun i hi => by
  obtain ⟨f, h1, s, h2, h3, h4⟩ := held_iff.mp hi
  exact held_iff.mpr ⟨f, h1, s, h2, h s h3, h4⟩
theorem held_or {fd : Nat → Int32} {x y z : Int32} (h : subb z (x ||| y)) : subb (held fd z) (held fd x ||| held fd y) := fun i hi => by
  obtain ⟨f, h1, s, h2, h3, h4⟩ := held_iff.mp hi
  have h5 := h s h3
  rw [b_or, Bool.or_eq_true] at h5
  rw [b_or, Bool.or_eq_true]
  exact h5.elim (fun g => Or.inl (held_iff.mpr ⟨f, h1, s, h2, g, h4⟩)) (fun g => Or.inr (held_iff.mpr ⟨f, h1, s, h2, g, h4⟩))
theorem held_0 (fd : Nat → Int32) : held fd 0 = 0 := by
  apply b_iff
  intro i _
  rw [b_0]
  refine ⟨fun h => ?_, fun h => by cases h⟩
  obtain ⟨f, h1, s, h2, h3, h4⟩ := held_iff.mp h
  rw [b_0] at h3; cases h3
def itH (fd : Nat → Int32) (x : Int32) : Nat → Int32
  | 0 => x
  | k + 1 => itH fd x k ||| held fd (itH fd x k)
theorem itH_s (fd : Nat → Int32) (x : Int32) (k : Nat) : itH fd x (k + 1) = itH fd x k ||| held fd (itH fd x k) := rfl
theorem itH_up (fd : Nat → Int32) (x : Int32) (k : Nat) : subb (itH fd x k) (itH fd x (k + 1)) := by rw [itH_s]; exact subb_l _ _
theorem itH_mono (fd : Nat → Int32) (x : Int32) {j k : Nat} (h : j ≤ k) : subb (itH fd x j) (itH fd x k) := by
  obtain ⟨d, rfl⟩ : ∃ d, k = j + d := ⟨k - j, by omega⟩
  clear h
  induction d with
  | zero => exact subb_r _
  | succ d ih => exact subb_t ih (itH_up fd x (j + d))
theorem itH_stay {fd : Nat → Int32} {x : Int32} {j : Nat} (h : itH fd x (j + 1) = itH fd x j) : ∀ n, j ≤ n → itH fd x n = itH fd x j := by
  intro n
  induction n with
  | zero => intro g; rw [show j = 0 by omega]
  | succ n ih =>
    intro g
    by_cases e : j = n + 1
    · rw [e]
    · rw [itH_s, ih (by omega), ← itH_s]; exact h
def lowF (fd : Nat → Int32) : Prop := ∀ i, lowb 16 (fd i)
theorem itH_low {fd : Nat → Int32} {x : Int32} (hx : lowb 16 x) (hf : lowF fd) : ∀ k, lowb 16 (itH fd x k) := by
  intro k
  induction k with
  | zero => exact hx
  | succ k ih =>
    intro i hi
    rw [itH_s, b_or, Bool.or_eq_true] at hi
    rcases hi with h | h
    · exact ih i h
    · obtain ⟨f, h1, s, h2, h3, h4⟩ := held_iff.mp h
      exact hf _ i h4
theorem itH_grow {fd : Nat → Int32} {x : Int32} (hx : lowb 16 x) (hf : lowF fd) : ∀ k, (∀ j, j < k → ¬ itH fd x (j + 1) = itH fd x j) → pcn x 16 + k ≤ pcn (itH fd x k) 16 := by
  intro k
  induction k with
  | zero => intro _; exact Nat.le_refl _
  | succ k ih =>
    intro h
    have h1 := ih (fun j hj => h j (by omega))
    have h2 := pcn_grow (itH_up fd x k) (itH_low hx hf (k + 1)) (h k (by omega))
    omega
theorem itH_end {fd : Nat → Int32} {x : Int32} (hx : lowb 16 x) (hf : lowF fd) : ∃ j, j ≤ 16 ∧ itH fd x (j + 1) = itH fd x j := by
  apply Classical.byContradiction
  intro hn
  have h1 := itH_grow hx hf 17 (fun j hj e => hn ⟨j, by omega, e⟩)
  have h2 := pcn_le (itH fd x 17) 16
  omega
theorem itH_16 {fd : Nat → Int32} {x : Int32} (hx : lowb 16 x) (hf : lowF fd) : ∀ n, 16 ≤ n → itH fd x n = itH fd x 16 := by
  obtain ⟨j, hj, e⟩ := itH_end hx hf
  intro n hn
  rw [itH_stay e n (by omega), itH_stay e 16 hj]
theorem itH_st {fd : Nat → Int32} {x : Int32} (hx : lowb 16 x) (hf : lowF fd) {j : Nat} (e : itH fd x (j + 1) = itH fd x j) : itH fd x j = itH fd x 16 := by
  rcases Nat.le_total j 16 with h | h
  · exact (itH_stay e 16 h).symm
  · exact itH_16 hx hf j h
/-- the front: what is come to at last -/
def fr (fd : Nat → Int32) (x : Int32) : Nat → Int32
  | 0 => x
  | k + 1 => held fd (fr fd x k) &&& (itH fd x k ^^^ (-1))
theorem fr_s (fd : Nat → Int32) (x : Int32) (k : Nat) : fr fd x (k + 1) = held fd (fr fd x k) &&& (itH fd x k ^^^ (-1)) := rfl
theorem b_not {x : Int32} {i : Nat} (hi : i < 32) : bt (x ^^^ (-1)) i = !bt x i := by rw [b_xor, b_m1 i hi]; cases bt x i <;> rfl
theorem or_diff (x y : Int32) : x ||| (y &&& (x ^^^ (-1))) = x ||| y := by
  apply b_ext
  intro i hi
  rw [b_or, b_and, b_not hi, b_or]
  cases bt x i <;> cases bt y i <;> rfl
theorem fr_ok (fd : Nat → Int32) (x : Int32) : ∀ k, subb (held fd (itH fd x k)) (itH fd x k ||| held fd (fr fd x k)) ∧ itH fd x (k + 1) = itH fd x k ||| fr fd x (k + 1) ∧ subb (fr fd x k) (itH fd x k) := by
  intro k
  induction k with
  | zero =>
    refine ⟨subb_rr _ _, ?_, subb_r _⟩
    rw [fr_s, or_diff]
    rfl
  | succ k ih =>
    obtain ⟨h1, h2, h3⟩ := ih
    have a : subb (held fd (itH fd x (k + 1))) (itH fd x (k + 1) ||| held fd (fr fd x (k + 1))) := by
      have e : subb (itH fd x (k + 1)) (itH fd x k ||| fr fd x (k + 1)) := by rw [h2]; exact subb_r _
      refine subb_t (held_or e) (subb_or ?_ (subb_rr _ _))
      refine subb_t ?_ (subb_l _ _)
      rw [itH_s]
      exact subb_rr _ _
    refine ⟨a, ?_, ?_⟩
    · rw [fr_s, or_diff, itH_s]
      apply subb_a
      · exact subb_or (subb_l _ _) a
      · exact subb_or (subb_l _ _) (subb_t (held_mono (by rw [h2]; exact subb_rr _ _)) (subb_rr _ _))
    · rw [h2]; exact subb_rr _ _
theorem fr_0 {fd : Nat → Int32} {x : Int32} {k : Nat} (h : fr fd x (k + 1) = 0) : itH fd x (k + 1) = itH fd x k := by
  have := (fr_ok fd x k).2.1
  rw [h] at this
  rw [this]
  apply b_ext
  intro i _
  rw [b_or, b_0, Bool.or_false]
theorem fr_apart (fd : Nat → Int32) (x : Int32) (k : Nat) {i : Nat} (hi : i < 32) (h : bt (fr fd x (k + 1)) i = true) : bt (itH fd x k) i = false := by
  rw [fr_s, b_and, b_not hi] at h
  cases g : bt (itH fd x k) i
  · rfl
  · rw [g] at h; simp at h
section HE
variable {σ : St} {F : Nat}
theorem e_heldBy {set : Int32} (hF : 16 < F) : f_S_heldBy F σ set = some (held (σ 12) set) := by
  have hl := loop2 4 (f_S_heldBy_L4 F σ set) (fun k => hdN (σ 12) set 16 k) (fun k => nI k) (hdN (σ 12) set 16 4, nI 4) (fun fu => by
      show f_S_heldBy_B4 F σ set _ _ (nI 4) = _
      unfold f_S_heldBy_B4
      rw [if_pos le_4]) (fun k fu hk => by
      show f_S_heldBy_B4 F σ set _ (hdN (σ 12) set 16 k) (nI k) = f_S_heldBy_L4 F σ set fu (hdN (σ 12) set 16 (k + 1)) (nI (k + 1))
      unfold f_S_heldBy_B4
      rw [if_neg (lt_4 hk), e_ofFieldOfAll hk hF, nI_1, hdN_s]
      rfl) F (by omega)
  unfold f_S_heldBy
  rw [show (0 : Int32) = nI 0 from rfl]
  show Option.bind (f_S_heldBy_L4 F σ set F (hdN (σ 12) set 16 0) (nI 0)) _ = _
  rw [hl]
  rfl
theorem e_reachedFrom {x : Int32} (hF : 16 < F) : f_S_reachedFrom F σ x = some (itH (σ 12) x 16) := by
  -- from state k on
  have key : ∀ d k fu, k + d = 16 → d < fu → ∃ a b, f_S_reachedFrom_L7 F σ fu (itH (σ 12) x k) (fr (σ 12) x k) (nI k) = some (itH (σ 12) x 16, a, b) := by
    intro d
    induction d with
    | zero =>
      intro k fu e h
      obtain ⟨fu, rfl⟩ : ∃ z, fu = z + 1 := ⟨fu - 1, by omega⟩
      have hk : k = 16 := by omega
      subst hk
      show ∃ a b, f_S_reachedFrom_B7 F σ _ (itH (σ 12) x 16) (fr (σ 12) x 16) (nI 16) = _
      unfold f_S_reachedFrom_B7
      rw [if_pos le_16]
      by_cases c : fr (σ 12) x 16 = 0
      · rw [if_pos c]; exact ⟨_, _, rfl⟩
      · rw [if_neg c]; exact ⟨_, _, rfl⟩
    | succ d ih =>
      intro k fu e h
      obtain ⟨fu, rfl⟩ : ∃ z, fu = z + 1 := ⟨fu - 1, by omega⟩
      show ∃ a b, f_S_reachedFrom_B7 F σ (f_S_reachedFrom_L7 F σ fu) (itH (σ 12) x k) (fr (σ 12) x k) (nI k) = _
      unfold f_S_reachedFrom_B7
      by_cases c : fr (σ 12) x k = 0
      · rw [if_pos c]
        have hst : itH (σ 12) x (k + 1) = itH (σ 12) x k := by
          apply fr_0
          rw [fr_s, c, held_0]
          apply b_ext
          intro i _
          rw [b_and, b_0, Bool.false_and]
        rw [itH_stay hst 16 (by omega)]
        exact ⟨_, _, rfl⟩
      · rw [if_neg c, if_neg (lt_16 (by omega)), e_heldBy hF, nI_1]
        show ∃ a b, f_S_reachedFrom_L7 F σ fu (itH (σ 12) x k ||| fr (σ 12) x (k + 1)) (fr (σ 12) x (k + 1)) (nI (k + 1)) = _
        rw [← (fr_ok (σ 12) x k).2.1]
        exact ih (k + 1) fu (by omega) (by omega)
  unfold f_S_reachedFrom
  rw [show (0 : Int32) = nI 0 from rfl]
  obtain ⟨a, b, e⟩ := key 16 0 F (by omega) (by omega)
  have e' : f_S_reachedFrom_L7 F σ F x x (nI 0) = some (itH (σ 12) x 16, a, b) := e
  rw [e']
  rfl
end HE
section HM
variable {τ : St} {p : PG} {F : Nat}
/-- FIELDS of SITES that are none hold nothing -/
def fdz (T : Nat) (fd : Nat → Int32) : Prop := ∀ s f, f < 4 → T ≤ s → fd (4 * s + f) = 0
theorem ofF_z {fd : Nat → Int32} {set : Int32} {f T : Nat} (hz : fdz T fd) (hf : f < 4) (hT : T ≤ 16) : ofF fd set f T = ofF fd set f 16 := by
  apply b_iff
  intro i _
  rw [ofF_bit, ofF_bit]
  refine ⟨fun ⟨s, h1, h2⟩ => ⟨s, by omega, h2⟩, fun ⟨s, h1, h2, h3⟩ => ⟨s, ?_, h2, h3⟩⟩
  apply Classical.byContradiction
  intro g
  rw [hz s f hf (by omega), b_0] at h3
  cases h3
theorem m_allFields (h : AM τ p) (hw : WF p) (hz : fdz (pT p) (τ 7)) (hF : 16 < F) {set : Int32} : f_M_allFields F τ set = some (held (τ 7) set) := by
  have hl := loop2 4 (f_M_allFields_L4 F τ set) (fun k => hdN (τ 7) set 16 k) (fun k => nI k) (hdN (τ 7) set 16 4, nI 4) (fun fu => by
      show f_M_allFields_B4 F τ set _ _ (nI 4) = _
      unfold f_M_allFields_B4
      rw [if_pos le_4]) (fun k fu hk => by
      show f_M_allFields_B4 F τ set _ (hdN (τ 7) set 16 k) (nI k) = f_M_allFields_L4 F τ set fu (hdN (τ 7) set 16 (k + 1)) (nI (k + 1))
      unfold f_M_allFields_B4
      rw [if_neg (lt_4 hk), m_fromField h hw hk hF, ofF_z hz hk hw.2.2.2.1, nI_1, hdN_s]
      rfl) F (by omega)
  unfold f_M_allFields
  rw [show (0 : Int32) = nI 0 from rfl]
  show Option.bind (f_M_allFields_L4 F τ set F (hdN (τ 7) set 16 0) (nI 0)) _ = _
  rw [hl]
  rfl
theorem m_closed (h : AM τ p) (hw : WF p) (hz : fdz (pT p) (τ 7)) (hf : lowF (τ 7)) (hF : 64 < F) {x : Int32} (hx : lowb 16 x) : f_M_closed F τ x = some (itH (τ 7) x 16) := by
  have key : ∀ d k fu b, k + d = 17 → d + 1 < fu → (¬ itH (τ 7) x k = b ∨ itH (τ 7) x k = itH (τ 7) x 16) → ∃ b', f_M_closed_L4 F τ fu (itH (τ 7) x k) b = some (itH (τ 7) x 16, b') := by
    intro d
    induction d with
    | zero =>
      intro k fu b e hfu hb
      obtain ⟨fu, rfl⟩ : ∃ z, fu = z + 2 := ⟨fu - 2, by omega⟩
      have hk : k = 17 := by omega
      subst hk
      have e17 := itH_16 hx hf 17 (by omega)
      have e18 := itH_16 hx hf 18 (by omega)
      show ∃ b', f_M_closed_B4 F τ (f_M_closed_L4 F τ (fu + 1)) (itH (τ 7) x 17) b = _
      unfold f_M_closed_B4
      by_cases c : itH (τ 7) x 17 = b
      · rw [if_pos c, e17]; exact ⟨_, rfl⟩
      · rw [if_neg c, m_allFields h hw hz (by omega)]
        show ∃ b', f_M_closed_B4 F τ (f_M_closed_L4 F τ fu) (itH (τ 7) x 18) (itH (τ 7) x 17) = _
        unfold f_M_closed_B4
        rw [e18, e17, if_pos rfl]
        exact ⟨_, rfl⟩
    | succ d ih =>
      intro k fu b e hfu hb
      obtain ⟨fu, rfl⟩ : ∃ z, fu = z + 1 := ⟨fu - 1, by omega⟩
      show ∃ b', f_M_closed_B4 F τ (f_M_closed_L4 F τ fu) (itH (τ 7) x k) b = _
      unfold f_M_closed_B4
      by_cases c : itH (τ 7) x k = b
      · rw [if_pos c, hb.resolve_left (fun g => g c)]; exact ⟨_, rfl⟩
      · rw [if_neg c, m_allFields h hw hz (by omega)]
        show ∃ b', f_M_closed_L4 F τ fu (itH (τ 7) x (k + 1)) (itH (τ 7) x k) = _
        refine ih (k + 1) fu _ (by omega) (by omega) ?_
        by_cases g : itH (τ 7) x (k + 1) = itH (τ 7) x k
        · right; rw [g]; exact itH_st hx hf g
        · exact Or.inl g
  have h0 : ¬ itH (τ 7) x 0 = 0 ∨ itH (τ 7) x 0 = itH (τ 7) x 16 := by
    by_cases c : x = 0
    · right
      have hst : itH (τ 7) x 1 = itH (τ 7) x 0 := by
        show x ||| held (τ 7) x = x
        rw [c, held_0]
        rfl
      exact itH_st hx hf hst
    · exact Or.inl c
  obtain ⟨b', e⟩ := key 17 0 F 0 (by omega) (by omega) h0
  have e' : f_M_closed_L4 F τ F x 0 = some (itH (τ 7) x 16, b') := e
  unfold f_M_closed
  rw [e']
  rfl
end HM
