/-! The sets over all. -/
theorem orS_ext {c c' : Nat → Bool} {x : Nat → Nat} : ∀ n, (∀ s, s < n → c s = c' s) → orS c x n = orS c' x n := by
  intro n
  induction n with
  | zero => intro _; rfl
  | succ n ih => intro h; rw [orS_s, orS_s, ih (fun s hs => h s (by omega)), h n (by omega)]
theorem and_z {x y : Int32} : x &&& y = 0 ↔ ∀ i, i < 32 → bt x i = true → bt y i = false := by
  refine ⟨fun h i hi hx => ?_, fun h => ?_⟩
  · have := congrArg (fun z => bt z i) h
    simp only [b_and, b_0, hx, Bool.true_and] at this
    exact this
  · apply b_ext
    intro i hi
    rw [b_and, b_0]
    cases hx : bt x i
    · rfl
    · rw [h i hi hx]; rfl
theorem eq_z {x : Int32} : x = 0 ↔ ∀ i, i < 32 → bt x i = false := ⟨fun h i _ => by rw [h, b_0], fun h => b_ext (fun i hi => by rw [h i hi, b_0])⟩
theorem or_c (x y : Int32) : x ||| y = y ||| x := b_ext (fun i _ => by rw [b_or, b_or, Bool.or_comm])
def nonB (c : Nat → Bool) : Nat → Bool
  | 0 => true
  | n + 1 => nonB c n && !c n
theorem nonB_s (c : Nat → Bool) (n : Nat) : nonB c (n + 1) = (nonB c n && !c n) := rfl
theorem nonB_iff {c : Nat → Bool} : ∀ n, nonB c n = true ↔ ∀ j, j < n → c j = false := by
  intro n
  induction n with
  | zero => exact ⟨fun _ j h => absurd h (Nat.not_lt_zero j), fun _ => rfl⟩
  | succ n ih =>
    rw [nonB_s, Bool.and_eq_true, ih]
    refine ⟨fun ⟨h1, h2⟩ j hj => ?_, fun h => ⟨fun j hj => h j (by omega), by rw [h n (by omega)]; rfl⟩⟩
    by_cases e : j = n
    · subst e; cases g : c j; rfl; rw [g] at h2; cases h2
    · exact h1 j (by omega)
theorem nonB_ext {c c' : Nat → Bool} : ∀ n, (∀ s, s < n → c s = c' s) → nonB c n = nonB c' n := by
  intro n
  induction n with
  | zero => intro _; rfl
  | succ n ih => intro h; rw [nonB_s, nonB_s, ih (fun s hs => h s (by omega)), h n (by omega)]
/-- a flag that falls -/
theorem lpF {N F : Nat} (c : Nat → Bool) (b0 : Bool) (L : Nat → Int32 → Int32 → Option (Int32 × Int32)) (he : ∀ fu y, L (fu + 1) y (nI N) = some (y, nI N)) (hs : ∀ k fu b, k < N → L (fu + 1) (bI b) (nI k) = L fu (bI (b && !c k)) (nI (k + 1))) (hF : N < F) : L F (bI b0) (nI 0) = some (bI (b0 && nonB c N), nI N) := by
  have hl := loop2 N L (fun k => bI (b0 && nonB c k)) (fun k => nI k) (bI (b0 && nonB c N), nI N) (fun fu => he fu _) (fun k fu hk => by
    show L (fu + 1) (bI (b0 && nonB c k)) (nI k) = L fu (bI (b0 && nonB c (k + 1))) (nI (k + 1))
    rw [hs k fu _ hk, nonB_s, Bool.and_assoc]) F hF
  have e : (b0 && nonB c 0) = b0 := by show (b0 && true) = b0; rw [Bool.and_true]
  have hl' : L F (bI (b0 && nonB c 0)) (nI 0) = some (bI (b0 && nonB c N), nI N) := hl
  rw [e] at hl'
  exact hl'
/-- a flag that rises -/
theorem lpR {N F : Nat} (c : Nat → Bool) (L : Nat → Int32 → Int32 → Option (Int32 × Int32)) (he : ∀ fu y, L (fu + 1) y (nI N) = some (y, nI N)) (hs : ∀ k fu b, k < N → L (fu + 1) (bI b) (nI k) = L fu (bI (b || c k)) (nI (k + 1))) (hF : N < F) : L F (bI false) (nI 0) = some (bI (!nonB c N), nI N) := 
  loop2 N L (fun k => bI (!nonB c k)) (fun k => nI k) (bI (!nonB c N), nI N) (fun fu => he fu _) (fun k fu hk => by
    show L (fu + 1) (bI (!nonB c k)) (nI k) = L fu (bI (!nonB c (k + 1))) (nI (k + 1))
    rw [hs k fu _ hk, nonB_s]
    cases nonB c k <;> cases c k <;> rfl) F hF
/-- a loop that is left at the first -/
theorem lpE {N F : Nat} (c : Nat → Bool) (v : Int32) (L : Nat → Int32 → Option (Int32 ⊕ Int32)) (he : ∀ fu, L (fu + 1) (nI N) = some (Sum.inl (nI N))) (hs : ∀ k fu, k < N → L (fu + 1) (nI k) = if c k = true then some (Sum.inr v) else L fu (nI (k + 1))) (hF : N < F) : L F (nI 0) = some (if nonB c N = true then Sum.inl (nI N) else Sum.inr v) := by
  have key : ∀ d k fu, k + d = N → d < fu → ((∀ j, k ≤ j → j < N → c j = false) ∧ L fu (nI k) = some (Sum.inl (nI N))) ∨ ((∃ j, k ≤ j ∧ j < N ∧ c j = true) ∧ L fu (nI k) = some (Sum.inr v)) := by
    intro d
    induction d with
    | zero =>
      intro k fu e h
      obtain ⟨fu, rfl⟩ : ∃ z, fu = z + 1 := ⟨fu - 1, by omega⟩
      have hk : k = N := by omega
      subst hk
      exact Or.inl ⟨fun j h1 h2 => by omega, he fu⟩
    | succ d ih =>
      intro k fu e h
      obtain ⟨fu, rfl⟩ : ∃ z, fu = z + 1 := ⟨fu - 1, by omega⟩
      rw [hs k fu (by omega)]
      by_cases g : c k = true
      · rw [if_pos g]
        exact Or.inr ⟨⟨k, Nat.le_refl _, by omega, g⟩, rfl⟩
      · rw [if_neg g]
        rcases ih (k + 1) fu (by omega) (by omega) with ⟨h1, h2⟩ | ⟨⟨j, h1, h2, h3⟩, h4⟩
        · refine Or.inl ⟨fun j hj hj2 => ?_, h2⟩
          by_cases e : j = k
          · subst e; cases z : c j; rfl; exact absurd z g
          · exact h1 j (by omega) hj2
        · exact Or.inr ⟨⟨j, by omega, h2, h3⟩, h4⟩
  rcases key N 0 F (by omega) hF with ⟨h1, h2⟩ | ⟨⟨j, h1, h2, h3⟩, h4⟩
  · rw [h2, if_pos ((nonB_iff N).mpr (fun j hj => h1 j (Nat.zero_le _) hj))]
  · rw [h4, if_neg (fun z => by have := (nonB_iff N).mp z j h2; rw [h3] at this; cases this)]
/-- FIELDS of SITES that no LIVE METHOD makes hold nothing -/
def dfz (p : PG) (lv : Int32) (X : XX) : Prop := ∀ s f, f < 4 → ¬ (s < pT p ∧ bt lv (pow p (pmk p s)) = true) → X.2.1 (4 * s + f) = 0
theorem dfz_fl {p : PG} (hw : WF p) {lv : Int32} {X : XX} (hX : INV p lv X) (hd : dfz p lv X) {s : Nat} (hs : s < pS p) : dfz p lv (flX p X s) := by
  obtain ⟨h64, hm, hst⟩ := WF_step hw hs
  obtain ⟨h1, h2, h3, h4⟩ := hst
  have hk : pkd p s = 0 ∨ pkd p s = 1 ∨ pkd p s = 2 ∨ pkd p s = 3 ∨ pkd p s = 4 ∨ pkd p s = 5 ∨ pkd p s = 6 ∨ pkd p s = 7 ∨ pkd p s = 8 ∨ pkd p s = 9 ∨ pkd p s = 10 := by omega
  unfold flX
  rcases hk with k | k | k | k | k | k | k | k | k | k | k
  · rw [k]; exact hd
  · rw [k]; exact hd
  · rw [k]; exact hd
  · rw [k] at h4 ⊢
    have a1 : pnv p s 1 < 4 := h4 1 (by decide)
    intro t f hf ht
    show jF X.2.1 _ _ _ 16 (4 * t + f) = 0
    rw [jF_o 16 (fun j hj hb e => ?_)]
    · exact hd t f hf ht
    · have := hX.1.1 _ j hb
      have e' : t = j := by omega
      subst e'
      exact ht this
  · rw [k]; exact hd
  · rw [k]; exact hd
  · rw [k]
    by_cases c : pnv p s 4 = 8
    · simp only [c]; exact hd
    · simp only [c]; exact hd
  · rw [k]; exact hd
  · rw [k]; exact hd
  · rw [k]; exact hd
  · rw [k]; exact hd
theorem dfz_sw {p : PG} (hw : WF p) {lv : Int32} (hc : lvc p lv) {X : XX} (hX : INV p lv X) (hd : dfz p lv X) : ∀ n, n ≤ pS p → dfz p lv (swX p lv X n) := by
  intro n
  induction n with
  | zero => intro _; exact hd
  | succ n ih =>
    intro h
    have i1 := ih (by omega)
    rw [swX_s]
    by_cases c : bt lv (pow p n) = true
    · rw [if_pos c]
      exact dfz_fl hw (sw_all hw hc hX n (by omega)).1 i1 (by omega)
    · rw [if_neg c]; exact i1
theorem XS_dfz {p : PG} (hw : WF p) : dfz p (liveP p) (XS p) := by
  have hc := lvc_live hw
  have : ∀ k, dfz p (liveP p) (itX p (liveP p) k) := by
    intro k
    induction k with
    | zero => intro s f _ _; rfl
    | succ k ih => exact dfz_sw hw hc (itX_inv hw hc k) ih (pS p) (Nat.le_refl _)
  exact this 2241
section AL
variable {σ τ : St} {p : PG}
-- SITES made by METHODS
def mdB (p : PG) (x : Int32) : Int32 := orS (fun t => bt x (pow p (pmk p t))) (fun t => t) (pT p)
theorem mdB_bit (hw : WF p) {x : Int32} {i : Nat} : bt (mdB p x) i = true ↔ i < pT p ∧ bt x (pow p (pmk p i)) = true := by
  have hT := hw.2.2.2.1
  unfold mdB
  rw [orS_bit (pT p) (fun s hs _ => by omega)]
  exact ⟨fun ⟨s, h1, h2, h3⟩ => by subst h3; exact ⟨h1, h2⟩, fun ⟨h1, h2⟩ => ⟨i, h1, h2, rfl⟩⟩
theorem e_madeBy (h : AE σ p) (hw : WF p) {F : Nat} (hF : 64 < F) {x : Int32} : f_P_madeBy F σ x = some (mdB p x) := by
  have hT := hw.2.2.2.1
  have hl := lpO (N := pT p) (F := F) (fun t => bt x (pow p (pmk p t))) (fun t => t) (f_P_madeBy_L4 F σ x) (fun fu y => by
      show f_P_madeBy_B4 F σ x _ y (nI (pT p)) = _
      unfold f_P_madeBy_B4
      rw [h.2.2.1, if_pos (nI_le (Nat.le_refl _) (by omega))]) (fun t fu y ht => by
      show f_P_madeBy_B4 F σ x _ y (nI t) = _
      have := site_m hw ht
      unfold f_P_madeBy_B4
      rw [h.2.2.1, if_neg (nI_ge ht (by omega)), e_methodOfSite h hw ht, nI_1]
      show Option.bind (f_E_has x (nI (pow p (pmk p t)))) _ = _
      rw [v_has (by omega)]
      show (if bI _ = 0 then _ else _) = _
      rw [bIif]
      split <;> rfl) (by omega)
  unfold f_P_madeBy
  rw [show (0 : Int32) = nI 0 from rfl, hl]
  rfl
theorem m_madeBy (h : AM τ p) (hw : WF p) {F : Nat} (hF : 64 < F) {x : Int32} : f_M_madeBy F τ x = some (mdB p x) := by
  have hT := hw.2.2.2.1
  have hl := lpO (N := pT p) (F := F) (fun t => bt x (pow p (pmk p t))) (fun t => t) (f_M_madeBy_L4 F τ x) (fun fu y => by
      show f_M_madeBy_B4 F τ x _ y (nI (pT p)) = _
      unfold f_M_madeBy_B4
      rw [h.2.2.1, if_pos (nI_le (Nat.le_refl _) (by omega))]) (fun t fu y ht => by
      show f_M_madeBy_B4 F τ x _ y (nI t) = _
      have := site_m hw ht
      unfold f_M_madeBy_B4
      rw [h.2.2.1, if_neg (nI_ge ht (by omega)), m_owner h hw ht, nI_1]
      show Option.bind (f_M_has x (nI (pow p (pmk p t)))) _ = _
      rw [v_Mhas (by omega)]
      show (if bI _ = 0 then _ else _) = _
      rw [bIif]
      split <;> rfl) (by omega)
  unfold f_M_madeBy
  rw [show (0 : Int32) = nI 0 from rfl, hl]
  rfl
-- PARAMETERS
def prs (f : Nat → Int32) (m : Nat) : Int32 := f (8 * m + 0) ||| f (8 * m + 1) ||| f (8 * m + 2)
theorem e_ofParameters {F m : Nat} (hF : 64 < F) (hm : m < 8) : f_S_ofParameters F σ (nI m) = some (prs (σ 11) m) := by
  have hl := loop2 3 (f_S_ofParameters_L4 F σ (nI m)) (fun k => match k with | 0 => 0 | 1 => σ 11 (8 * m + 0) | 2 => σ 11 (8 * m + 0) ||| σ 11 (8 * m + 1) | _ => prs (σ 11) m) (fun k => nI k) (prs (σ 11) m, nI 3) (fun fu => by
      show f_S_ofParameters_B4 F σ (nI m) _ _ (nI 3) = _
      unfold f_S_ofParameters_B4
      rw [if_pos le_3]
      rfl) (fun k fu hk => by
      show f_S_ofParameters_B4 F σ (nI m) _ _ (nI k) = f_S_ofParameters_L4 F σ (nI m) fu _ (nI (k + 1))
      unfold f_S_ofParameters_B4
      rw [if_neg (lt_3 hk), e_ofName hm (by omega), nI_1]
      match k, hk with
      | 0, _ =>
        show f_S_ofParameters_L4 F σ (nI m) fu (0 ||| σ 11 (8 * m + 0)) _ = _
        rw [show (0 : Int32) ||| σ 11 (8 * m + 0) = σ 11 (8 * m + 0) from b_ext (fun i _ => by rw [b_or, b_0, Bool.false_or])]
        rfl
      | 1, _ => rfl
      | 2, _ => rfl
      | k + 3, hk => exact absurd hk (by omega)) F (by omega)
  unfold f_S_ofParameters
  rw [show (0 : Int32) = nI 0 from rfl]
  have e : f_S_ofParameters_L4 F σ (nI m) F (nI 0) (nI 0) = some (prs (σ 11) m, nI 3) := hl
  rw [e]
  rfl
theorem m_parametersOf {m : Nat} (hm : m < 8) : f_M_parametersOf τ (nI m) = some (prs (τ 6) m) := by
  unfold f_M_parametersOf
  rw [show (0 : Int32) = nI 0 from rfl, m_name hm (by omega), show (1 : Int32) = nI 1 from rfl, m_name hm (by omega), show (2 : Int32) = nI 2 from rfl, m_name hm (by omega)]
  rfl
theorem prs_okv (hw : WF p) (m : Nat) : okv p (liveP p) (prs (XS p).1 m) := by
  have hI := (XS_inv hw).1
  exact okv_or (okv_or (hI.1 _) (hI.1 _)) (hI.1 _)
-- what gets out
def rch (p : PG) (m : Nat) : Int32 := itH (XS p).2.1 (prs (XS p).1 m ||| (XS p).2.2.2 m) 16
def otN (p : PG) : Nat → Int32
  | 0 => itP p 16
  | n + 1 => otN p n ||| (rch p n &&& mdB p (sh n))
theorem otN_s (p : PG) (n : Nat) : otN p (n + 1) = otN p n ||| (rch p n &&& mdB p (sh n)) := rfl
theorem otN_bit {i : Nat} : ∀ n, bt (otN p n) i = true ↔ bt (itP p 16) i = true ∨ ∃ m, m < n ∧ bt (rch p m) i = true ∧ bt (mdB p (sh m)) i = true := by
  intro n
  induction n with
  | zero => exact ⟨Or.inl, fun h => h.elim id (fun ⟨m, h, _⟩ => absurd h (Nat.not_lt_zero m))⟩
  | succ n ih =>
    rw [otN_s, b_or, Bool.or_eq_true, ih, b_and, Bool.and_eq_true]
    refine ⟨fun h => ?_, fun h => ?_⟩
    · rcases h with (h | ⟨m, h1, h2⟩) | h
      · exact Or.inl h
      · exact Or.inr ⟨m, by omega, h2⟩
      · exact Or.inr ⟨n, by omega, h⟩
    · rcases h with h | ⟨m, h1, h2⟩
      · exact Or.inl (Or.inl h)
      · by_cases e : m = n
        · subst e; exact Or.inr h2
        · exact Or.inl (Or.inr ⟨m, by omega, h2⟩)
theorem e_outSites (hS : SR p σ τ) {F : Nat} (hF : 64 < F) : f_X_outSites F σ = some (otN p 8) := by
  have hw := hS.wf
  have hl := loop2 8 (f_X_outSites_L10 F σ) (fun k => otN p k) (fun k => nI k) (otN p 8, nI 8) (fun fu => by
      show f_X_outSites_B10 F σ _ _ (nI 8) = _
      unfold f_X_outSites_B10
      rw [if_pos le_8]) (fun k fu hk => by
      show f_X_outSites_B10 F σ _ (otN p k) (nI k) = f_X_outSites_L10 F σ fu (otN p (k + 1)) (nI (k + 1))
      unfold f_X_outSites_B10
      rw [if_neg (lt_8 hk), e_ofParameters hF hk, v_at hk (by omega), hS.x1.1, hS.x4.1, nI_1, otN_s]
      show Option.bind (f_S_reachedFrom F σ (prs (XS p).1 k ||| (XS p).2.2.2 k)) _ = _
      rw [e_reachedFrom (by omega), hS.x2.1]
      show Option.bind (f_P_madeBy F σ (sh k)) _ = _
      rw [e_madeBy hS.ae hw hF]
      rfl) F (by omega)
  unfold f_X_outSites
  rw [hS.shd, show (0 : Int32) = nI 0 from rfl]
  show Option.bind (f_X_outSites_L10 F σ F (otN p 0) (nI 0)) _ = _
  rw [hl]
  rfl
theorem m_isOut (hS : SR p σ τ) {F : Nat} (hF : 64 < F) {t : Nat} (ht : t < pT p) : f_M_isOut F τ (nI t) = some (bI (bt (itP p 16) t || bt (rch p (pow p (pmk p t))) t)) := by
  have hw := hS.wf
  have hT := hw.2.2.2.1
  have hm := site_m hw ht
  have hI := (XS_inv hw).1
  unfold f_M_isOut
  rw [m_owner hS.am hw ht, m_shared hS hF]
  show Option.bind (f_M_has (itP p 16) (nI t)) _ = _
  rw [v_Mhas (by omega)]
  cases g : bt (itP p 16) t
  · show (if ¬ (nI (pow p (pmk p t)) < 0 ∨ 8 ≤ (nI (pow p (pmk p t))).toNatClampNeg) then _ else _) = _
    rw [if_pos (ix_in (by omega) (by omega)), ix_c (by omega), m_parametersOf hm, hS.x1.2, hS.x4.2]
    show Option.bind (f_M_closed F τ ((XS p).2.2.2 (pow p (pmk p t)) ||| prs (XS p).1 (pow p (pmk p t)))) _ = _
    rw [m_close hS hF (okv_or (hI.2.2.2 _) (prs_okv hw _)), or_c]
    show Option.bind (f_M_has (rch p (pow p (pmk p t))) (nI t)) _ = _
    rw [v_Mhas (by omega)]
    cases bt (rch p (pow p (pmk p t))) t <;> rfl
  · rfl
-- SITES of a kind
def isK (p : PG) (k t : Nat) : Bool := if k = 4 then true else if k = 5 then bt (itP p 16) t else if k = 6 then bt (itP p 16) t || bt (rch p (pow p (pmk p t))) t else if k = 7 then decide (hld p t = 1) && !bt (plc (XS p)) t else decide (str p t &&& (sh (pow p (pmk p t)) ^^^ (-1)) = 0)
theorem m_isKind (hS : SR p σ τ) {F : Nat} (hF : 64 < F) {t k : Nat} (ht : t < pT p) (hk : 4 ≤ k ∧ k ≤ 8) : f_M_isKind F τ (nI k) (nI t) = some (bI (isK p k t)) := by
  have hw := hS.wf
  have hT := hw.2.2.2.1
  have hm := site_m hw ht
  unfold f_M_isKind
  rw [m_shared hS hF, m_isOut hS hF ht, m_holders hS hF (by omega), m_placed hS, m_storers hS hF (by omega), m_owner hS.am hw ht]
  rcases (show k = 4 ∨ k = 5 ∨ k = 6 ∨ k = 7 ∨ k = 8 by omega) with rfl | rfl | rfl | rfl | rfl
  · rfl
  · show Option.bind (f_M_has (itP p 16) (nI t)) _ = _
    rw [v_Mhas (by omega)]
    exact bIchk _ _
  · exact bIchk _ _
  · have e1 : (nI (hld p t) = 1) ↔ hld p t = 1 := nI_eq (b := 1) (by have : hld p t ≤ 64 := cnt_le _ 64; omega) (by omega)
    show (if nI (hld p t) = 1 then Option.bind (f_M_has (plc (XS p)) (nI t)) _ else _) = some (bI (decide (hld p t = 1) && !bt (plc (XS p)) t))
    by_cases c : hld p t = 1
    · rw [if_pos (e1.mpr c), decide_eq_true c, v_Mhas (by omega)]
      cases bt (plc (XS p)) t <;> rfl
    · rw [if_neg (fun z => c (e1.mp z)), decide_eq_false c]
      rfl
  · show (if str p t &&& (sh (pow p (pmk p t)) ^^^ (-1)) = 0 then _ else _) = some (bI (decide (str p t &&& (sh (pow p (pmk p t)) ^^^ (-1)) = 0)))
    by_cases c : str p t &&& (sh (pow p (pmk p t)) ^^^ (-1)) = 0
    · rw [if_pos c, decide_eq_true c]; rfl
    · rw [if_neg c, decide_eq_false c]; rfl
def siK (p : PG) (k : Nat) : Int32 := orS (fun t => bt (liveP p) (pow p (pmk p t)) && isK p k t) (fun t => t) (pT p)
theorem m_sitesOf (hS : SR p σ τ) {F : Nat} (hF : 64 < F) {k : Nat} (hk : 4 ≤ k ∧ k ≤ 8) : f_M_sitesOf F τ (nI k) = some (siK p k) := by
  have hw := hS.wf
  have hT := hw.2.2.2.1
  have h := hS.am
  have hl := lpO (N := pT p) (F := F) (fun t => bt (liveP p) (pow p (pmk p t)) && isK p k t) (fun t => t) (f_M_sitesOf_L4 F τ (nI k)) (fun fu y => by
      show f_M_sitesOf_B4 F τ (nI k) _ y (nI (pT p)) = _
      unfold f_M_sitesOf_B4
      rw [h.2.2.1, if_pos (nI_le (Nat.le_refl _) (by omega))]) (fun t fu y ht => by
      show f_M_sitesOf_B4 F τ (nI k) _ y (nI t) = _
      have hm := site_m hw ht
      have el : f_M_isLiveSite τ (nI t) = some (bI (bt (liveP p) (pow p (pmk p t)))) := by
        unfold f_M_isLiveSite
        rw [m_owner h hw ht]
        show Option.bind (f_M_has (τ 0 12) (nI (pow p (pmk p t)))) _ = _
        rw [v_Mhas (by omega), hS.lv.2]
        exact bIchk _ _
      unfold f_M_sitesOf_B4
      rw [h.2.2.1, if_neg (nI_ge ht (by omega)), el, m_isKind hS hF ht hk, nI_1]
      cases bt (liveP p) (pow p (pmk p t)) <;> cases isK p k t <;> rfl) (by omega)
  unfold f_M_sitesOf
  rw [show (0 : Int32) = nI 0 from rfl, hl]
  rfl
theorem siK_bit (hw : WF p) {k i : Nat} : bt (siK p k) i = true ↔ i < pT p ∧ bt (liveP p) (pow p (pmk p i)) = true ∧ isK p k i = true := by
  have hT := hw.2.2.2.1
  unfold siK
  rw [orS_bit (pT p) (fun s hs _ => by omega)]
  refine ⟨fun ⟨s, h1, h2, h3⟩ => ?_, fun ⟨h1, h2⟩ => ⟨i, h1, Bool.and_eq_true_iff.mpr h2, rfl⟩⟩
  subst h3
  exact ⟨h1, Bool.and_eq_true_iff.mp h2⟩
theorem siK_4 (hw : WF p) : siK p 4 = mdB p (liveP p) := b_iff (fun i _ => by
  rw [siK_bit hw, mdB_bit hw]
  exact ⟨fun h => ⟨h.1, h.2.1⟩, fun h => ⟨h.1, h.2, rfl⟩⟩)
theorem siK_5 (hw : WF p) : siK p 5 = itP p 16 := b_iff (fun i _ => by
  rw [siK_bit hw]
  refine ⟨fun h => h.2.2, fun h => ?_⟩
  have := itH_okv hw (s0P_okv hw) 16 i h
  exact ⟨this.1, this.2, h⟩)
theorem siK_6 (hw : WF p) : siK p 6 = otN p 8 := b_iff (fun i hi => by
  rw [siK_bit hw, otN_bit]
  have e : isK p 6 i = (bt (itP p 16) i || bt (rch p (pow p (pmk p i))) i) := rfl
  rw [e, Bool.or_eq_true]
  refine ⟨fun ⟨h1, h2, h3⟩ => ?_, fun h => ?_⟩
  · rcases h3 with h3 | h3
    · exact Or.inl h3
    · have hm := site_m hw h1
      refine Or.inr ⟨pow p (pmk p i), hm, h3, (mdB_bit hw).mpr ⟨h1, ?_⟩⟩
      rw [b_sh (by omega) (by omega), decide_eq_true_eq]
  · rcases h with h | ⟨m, h1, h2, h3⟩
    · have := itH_okv hw (s0P_okv hw) 16 i h
      exact ⟨this.1, this.2, Or.inl h⟩
    · have h4 := (mdB_bit hw).mp h3
      have hm := site_m hw h4.1
      have h5 := h4.2
      rw [b_sh (by omega) (by omega), decide_eq_true_eq] at h5
      have h6 := itH_okv hw (okv_or (prs_okv hw m) ((XS_inv hw).1.2.2.2 m)) 16 i h2
      refine ⟨h6.1, h6.2, Or.inr ?_⟩
      rw [h5]; exact h2)
-- owned
theorem hld_live (hw : WF p) {t : Nat} (h : ¬ hld p t = 0) : t < pT p ∧ bt (liveP p) (pow p (pmk p t)) = true := by
  have : ∃ k, k < 64 ∧ bt ((XS p).2.1 k) t = true := by
    apply Classical.byContradiction
    intro hn
    apply h
    have : hld p t = cnt (fun k => bt ((XS p).2.1 k) t) 0 := cnt_z 64 (Nat.zero_le _) (fun k _ hk => by
      cases g : bt ((XS p).2.1 k) t
      · rfl
      · exact absurd ⟨k, hk, g⟩ hn)
    rw [this]; rfl
  obtain ⟨k, hk, hb⟩ := this
  exact (XS_inv hw).1.2.1 k t hb
theorem hld_0 {t : Nat} : hld p t = 0 ↔ ∀ k, k < 64 → bt ((XS p).2.1 k) t = false := by
  refine ⟨fun h k hk => ?_, fun h => ?_⟩
  · have : ∀ n, cnt (fun k => bt ((XS p).2.1 k) t) n = 0 → ∀ j, j < n → bt ((XS p).2.1 j) t = false := by
      intro n
      induction n with
      | zero => intro _ j hj; exact absurd hj (Nat.not_lt_zero j)
      | succ n ih =>
        intro h j hj
        rw [cnt_s] at h
        by_cases e : j = n
        · subst e
          cases g : bt ((XS p).2.1 j) t
          · rfl
          · have h' : cnt (fun k => bt ((XS p).2.1 k) t) j + (bt ((XS p).2.1 j) t).toNat = 0 := h
            rw [g] at h'
            simp at h'
        · exact ih (by omega) j (by omega)
    exact this 64 h k hk
  · have : hld p t = cnt (fun k => bt ((XS p).2.1 k) t) 0 := cnt_z 64 (Nat.zero_le _) (fun k _ hk => h k hk)
    rw [this]; rfl
theorem e_ownedSites (hS : SR p σ τ) {F : Nat} (hF : 64 < F) : f_X_ownedSites F σ = some (siK p 7) := by
  have hw := hS.wf
  have hT := hw.2.2.2.1
  have h := hS.ae
  have ep : plc (xE σ) = plc (XS p) := by rw [hS.2.2.2.2.2.1.2.2.2.1]
  have hl := lpO (N := pT p) (F := F) (fun t => bt (liveP p) (pow p (pmk p t)) && isK p 7 t) (fun t => t) (f_X_ownedSites_L12 F σ (plc (XS p))) (fun fu y => by
      show f_X_ownedSites_B12 F σ _ _ y (nI (pT p)) = _
      unfold f_X_ownedSites_B12
      rw [h.2.2.1, if_pos (nI_le (Nat.le_refl _) (by omega))]) (fun t fu y ht => by
      show f_X_ownedSites_B12 F σ _ _ y (nI t) = _
      have e1 : (nI (hld p t) = 1) ↔ hld p t = 1 := nI_eq (b := 1) (by have : hld p t ≤ 64 := cnt_le _ 64; omega) (by omega)
      have ek : isK p 7 t = (decide (hld p t = 1) && !bt (plc (XS p)) t) := rfl
      unfold f_X_ownedSites_B12
      rw [h.2.2.1, if_neg (nI_ge ht (by omega)), v_has (by omega), e_countHolders hS hF (by omega), nI_1, ek]
      show (if bI (bt (plc (XS p)) t) = 0 then (if nI (hld p t) = 1 then _ else _) else _) = _
      by_cases c : hld p t = 1
      · rw [if_pos (e1.mpr c), decide_eq_true c, (hld_live hw (by omega)).2]
        cases bt (plc (XS p)) t <;> rfl
      · rw [if_neg (fun z => c (e1.mp z)), decide_eq_false c, Bool.false_and, Bool.and_false]
        cases bt (plc (XS p)) t <;> rfl) (by omega)
  unfold f_X_ownedSites
  rw [e_ofPlaces (by omega), ep]
  show Option.bind (f_X_ownedSites_L12 F σ (plc (XS p)) F (nI 0) (nI 0)) _ = _
  rw [hl]
  rfl
theorem e_fixedSites (hS : SR p σ τ) {F : Nat} (hF : 64 < F) : f_X_fixedSites F σ = some (siK p 8) := by
  have hw := hS.wf
  have hT := hw.2.2.2.1
  have h := hS.ae
  have hl := lpO (N := pT p) (F := F) (fun t => bt (liveP p) (pow p (pmk p t)) && isK p 8 t) (fun t => t) (f_X_fixedSites_L19 F σ (mdB p (liveP p))) (fun fu y => by
      show f_X_fixedSites_B19 F σ _ _ y (nI (pT p)) = _
      unfold f_X_fixedSites_B19
      rw [h.2.2.1, if_pos (nI_le (Nat.le_refl _) (by omega))]) (fun t fu y ht => by
      show f_X_fixedSites_B19 F σ _ _ y (nI t) = _
      have ek : isK p 8 t = decide (str p t &&& (sh (pow p (pmk p t)) ^^^ (-1)) = 0) := rfl
      have em : bt (mdB p (liveP p)) t = bt (liveP p) (pow p (pmk p t)) := Bool.eq_iff_iff.mpr (by rw [mdB_bit hw]; exact ⟨fun z => z.2, fun z => ⟨ht, z⟩⟩)
      unfold f_X_fixedSites_B19
      rw [h.2.2.1, if_neg (nI_ge ht (by omega)), e_storingMethods hS hF (by omega), e_methodOfSite h hw ht, v_has (by omega), em, nI_1, ek]
      show (if bI (bt (liveP p) (pow p (pmk p t))) = 0 then _ else (if str p t &&& (sh (pow p (pmk p t)) ^^^ (-1)) = 0 then _ else _)) = _
      by_cases c : str p t &&& (sh (pow p (pmk p t)) ^^^ (-1)) = 0
      · rw [if_pos c, decide_eq_true c]
        cases bt (liveP p) (pow p (pmk p t)) <;> rfl
      · rw [if_neg c, decide_eq_false c]
        cases bt (liveP p) (pow p (pmk p t)) <;> rfl) (by omega)
  unfold f_X_fixedSites
  rw [hS.lv.1, e_madeBy h hw hF]
  show Option.bind (f_X_fixedSites_L19 F σ (mdB p (liveP p)) F (nI 0) (nI 0)) _ = _
  rw [hl]
  rfl
end AL
