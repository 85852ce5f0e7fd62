/-! What is known of a SITE. -/
section OF
variable {σ τ : St} {p : PG}
theorem m_owner (h : AM τ p) (hw : WF p) {t : Nat} (ht : t < pT p) : f_M_owner τ (nI t) = some (nI (pow p (pmk p t))) := by
  have hT := hw.2.2.2.1
  have hs := (hw.2.2.2.2.2.1 t ht).1
  have h64 := (WF_step hw hs).1
  unfold f_M_owner
  rw [if_pos (ix_in (by omega) (by omega)), ix_c (by omega), h.2.2.2.2 t ht, if_pos (ix_in (by omega) (by omega)), ix_c (by omega), (h.2.2.2.1 _ hs).1]
theorem site_m (hw : WF p) {t : Nat} (ht : t < pT p) : pow p (pmk p t) < 8 := (WF_step hw (hw.2.2.2.2.2.1 t ht).1).2.1
-- LEVELS
theorem m_levelOf (hS : SR p σ τ) {F : Nat} (hF : 64 < F) {t : Nat} (ht : t < 16) : ∃ r, f_M_levelOf F τ (nI t) = some r ∧ LV (itP p) t r := by
  have hw := hS.wf
  have hx : lowb 16 (s0P p) := okv_low hw (s0P_okv hw)
  have hf : lowF (XS p).2.1 := (XS_low hw).2.1
  have hall : ∀ y, f_M_allFields F τ y = some (held (XS p).2.1 y) := fun y => by
    rw [m_allFields hS.am hw (by rw [hS.x2.2]; exact XS_fdz hw) (by omega), hS.x2.2]
  have never : bt (itP p 16) t = false → ∀ k, bt (itP p k) t = false := by
    intro h k
    cases g : bt (itP p k) t
    · rfl
    · rcases Nat.le_total k 16 with d | d
      · have := itH_mono (XS p).2.1 (s0P p) d t g
        rw [← h]; exact this.symm
      · have e : itP p k = itP p 16 := itH_16 hx hf k d
        rw [e, h] at g; cases g
  have key : ∀ d k fu b, k + d = 17 → d + 1 < fu → (∀ j, j < k → bt (itP p j) t = false) → (¬ itP p k = b ∨ itP p k = itP p 16) → ∃ A B C, f_M_levelOf_L10 F τ (nI t) fu (itP p k) (nI k) b = some (A, B, C) ∧ ((bt A t = true ∧ ∃ k', k' < 32 ∧ isLev (itP p) t k' ∧ B = nI k') ∨ (bt A t = false ∧ ∀ k, bt (itP p k) t = false)) := by
    intro d
    induction d with
    | zero =>
      intro k fu b e hfu hj hb
      obtain ⟨fu, rfl⟩ : ∃ z, fu = z + 2 := ⟨fu - 2, by omega⟩
      have hk : k = 17 := by omega
      subst hk
      have e17 : itP p 17 = itP p 16 := itH_16 hx hf 17 (by omega)
      have e18 : itP p 18 = itP p 16 := itH_16 hx hf 18 (by omega)
      have f16 := hj 16 (by omega)
      show ∃ A B C, f_M_levelOf_B10 F τ (nI t) (f_M_levelOf_L10 F τ (nI t) (fu + 1)) (itP p 17) (nI 17) b = _ ∧ _
      unfold f_M_levelOf_B10
      rw [v_Mhas (by omega), e17, f16]
      show ∃ A B C, (if itP p 16 = b then some (itP p 16, nI 17, b) else _) = _ ∧ _
      by_cases c : itP p 16 = b
      · rw [if_pos c]
        exact ⟨_, _, _, rfl, Or.inr ⟨f16, never f16⟩⟩
      · rw [if_neg c, hall]
        have e18' : itP p 16 ||| held (XS p).2.1 (itP p 16) = itP p 16 := by
          have : itP p 17 = itP p 16 ||| held (XS p).2.1 (itP p 16) := rfl
          rw [← this, e17]
        show ∃ A B C, f_M_levelOf_B10 F τ (nI t) (f_M_levelOf_L10 F τ (nI t) fu) (itP p 16 ||| held (XS p).2.1 (itP p 16)) (nI 17 + 1) (itP p 16) = _ ∧ _
        rw [e18']
        unfold f_M_levelOf_B10
        rw [v_Mhas (by omega), f16]
        show ∃ A B C, (if itP p 16 = itP p 16 then some (itP p 16, nI 17 + 1, itP p 16) else _) = _ ∧ _
        rw [if_pos rfl]
        exact ⟨_, _, _, rfl, Or.inr ⟨f16, never f16⟩⟩
    | succ d ih =>
      intro k fu b e hfu hj hb
      obtain ⟨fu, rfl⟩ : ∃ z, fu = z + 1 := ⟨fu - 1, by omega⟩
      show ∃ A B C, f_M_levelOf_B10 F τ (nI t) (f_M_levelOf_L10 F τ (nI t) fu) (itP p k) (nI k) b = _ ∧ _
      unfold f_M_levelOf_B10
      rw [v_Mhas (by omega)]
      cases g : bt (itP p k) t
      · show ∃ A B C, (if itP p k = b then some (itP p k, nI k, b) else _) = _ ∧ _
        by_cases c : itP p k = b
        · rw [if_pos c]
          have e16 := hb.resolve_left (fun z => z c)
          exact ⟨_, _, _, rfl, Or.inr ⟨g, never (by rw [← e16]; exact g)⟩⟩
        · rw [if_neg c, hall, nI_1]
          show ∃ A B C, f_M_levelOf_L10 F τ (nI t) fu (itP p (k + 1)) (nI (k + 1)) (itP p k) = _ ∧ _
          refine ih (k + 1) fu _ (by omega) (by omega) (fun j hjk => ?_) ?_
          · by_cases z : j = k
            · rw [z]; exact g
            · exact hj j (by omega)
          · by_cases z : itP p (k + 1) = itP p k
            · right; rw [z]; exact itH_st hx hf z
            · exact Or.inl z
      · exact ⟨itP p k, nI k, b, rfl, Or.inl ⟨g, k, by omega, ⟨g, hj⟩, rfl⟩⟩
  have h0 : ¬ itP p 0 = 0 ∨ itP p 0 = itP p 16 := by
    by_cases c : s0P p = 0
    · right
      have hst : itP p 1 = itP p 0 := by
        show s0P p ||| held (XS p).2.1 (s0P p) = s0P p
        rw [c, held_0]
        rfl
      exact itH_st hx hf hst
    · exact Or.inl c
  obtain ⟨A, B, C, e, hr⟩ := key 17 0 F 0 (by omega) (by omega) (fun j hj => absurd hj (Nat.not_lt_zero j)) h0
  have e' : f_M_levelOf_L10 F τ (nI t) F (s0P p) 0 0 = some (A, B, C) := e
  unfold f_M_levelOf
  rw [m_firstShared hS hF]
  show ∃ r, Option.bind (f_M_levelOf_L10 F τ (nI t) F (s0P p) 0 0) _ = _ ∧ _
  rw [e']
  show ∃ r, Option.bind (f_M_has A (nI t)) _ = _ ∧ _
  rw [v_Mhas (by omega)]
  rcases hr with ⟨g, k', h1, h2, h3⟩ | ⟨g, h1⟩
  · rw [g]
    exact ⟨B, rfl, Or.inl ⟨k', h1, h2, h3⟩⟩
  · rw [g]
    exact ⟨-1, rfl, Or.inr ⟨h1, rfl⟩⟩
-- who holds
def hld (p : PG) (t : Nat) : Nat := cnt (fun k => bt ((XS p).2.1 k) t) 64
theorem cnt_le (c : Nat → Bool) : ∀ n, cnt c n ≤ n := by
  intro n
  induction n with
  | zero => exact Nat.le_refl _
  | succ n ih => rw [cnt_s]; have := toNat_le1 (c n); omega
theorem cnt_ext {c c' : Nat → Bool} : ∀ n, (∀ k, k < n → c k = c' k) → cnt c n = cnt c' n := by
  intro n
  induction n with
  | zero => intro _; rfl
  | succ n ih => intro h; rw [cnt_s, cnt_s, ih (fun k hk => h k (by omega)), h n (by omega)]
theorem cnt_z {c : Nat → Bool} {N : Nat} : ∀ n, N ≤ n → (∀ k, N ≤ k → k < n → c k = false) → cnt c n = cnt c N := by
  intro n
  induction n with
  | zero => intro h _; rw [show N = 0 by omega]
  | succ n ih =>
    intro h hz
    by_cases e : N = n + 1
    · rw [e]
    · rw [cnt_s, ih (by omega) (fun k h1 h2 => hz k h1 (by omega)), hz n (by omega) (by omega)]; rfl
theorem fd_z (hw : WF p) {k : Nat} (h : 4 * pT p ≤ k) : (XS p).2.1 k = 0 := by
  have := XS_fdz hw (k / 4) (k % 4) (by omega) (by omega)
  rw [show 4 * (k / 4) + k % 4 = k by omega] at this
  exact this
theorem e_countHolders (hS : SR p σ τ) {F : Nat} (hF : 64 < F) {t : Nat} (ht : t < 16) : f_X_countHolders F σ (nI t) = some (nI (hld p t)) := by
  have inner : ∀ s, s < 16 → f_X_countHolders_L13 F σ (nI t) (nI s) F (nI (cnt (fun k => bt ((XS p).2.1 k) t) (4 * s))) (nI 0) = some (nI (cnt (fun k => bt ((XS p).2.1 k) t) (4 * s + 4)), nI 4) := by
    intro s hs
    exact loop2 4 (f_X_countHolders_L13 F σ (nI t) (nI s)) (fun f => nI (cnt (fun k => bt ((XS p).2.1 k) t) (4 * s + f))) (fun f => nI f) (nI (cnt (fun k => bt ((XS p).2.1 k) t) (4 * s + 4)), nI 4) (fun fu => by
      show f_X_countHolders_B13 F σ (nI t) (nI s) _ _ (nI 4) = _
      unfold f_X_countHolders_B13
      rw [if_pos le_4]) (fun f fu hf => by
      show f_X_countHolders_B13 F σ (nI t) (nI s) _ (nI (cnt (fun k => bt ((XS p).2.1 k) t) (4 * s + f))) (nI f) = f_X_countHolders_L13 F σ (nI t) (nI s) fu (nI (cnt (fun k => bt ((XS p).2.1 k) t) (4 * s + f + 1))) (nI (f + 1))
      unfold f_X_countHolders_B13
      rw [if_neg (lt_4 hf), e_ofField hs hf, hS.x2.1, nI_1, nI_1, cnt_s]
      show Option.bind (f_E_has ((XS p).2.1 (4 * s + f)) (nI t)) _ = _
      rw [v_has (by omega)]
      cases g : bt ((XS p).2.1 (4 * s + f)) t <;> rfl) F (by omega)
  have hl := loop2 16 (f_X_countHolders_L4 F σ (nI t)) (fun s => nI (cnt (fun k => bt ((XS p).2.1 k) t) (4 * s))) (fun s => nI s) (nI (hld p t), nI 16) (fun fu => by
      show f_X_countHolders_B4 F σ (nI t) _ _ (nI 16) = _
      unfold f_X_countHolders_B4
      rw [if_pos le_16]
      rfl) (fun s fu hs => by
      show f_X_countHolders_B4 F σ (nI t) _ (nI (cnt (fun k => bt ((XS p).2.1 k) t) (4 * s))) (nI s) = f_X_countHolders_L4 F σ (nI t) fu (nI (cnt (fun k => bt ((XS p).2.1 k) t) (4 * s + 4))) (nI (s + 1))
      unfold f_X_countHolders_B4
      rw [if_neg (lt_16 hs), show (0 : Int32) = nI 0 from rfl, inner s hs, nI_1]
      rfl) F (by omega)
  unfold f_X_countHolders
  rw [show (0 : Int32) = nI 0 from rfl]
  have e : f_X_countHolders_L4 F σ (nI t) F (nI 0) (nI 0) = some (nI (hld p t), nI 16) := hl
  rw [e]
  rfl
theorem m_4T (h : AM τ p) : (4 : Int32) * τ 0 2 = nI (4 * pT p) := by rw [h.2.2.1, n4_I]
theorem m_holders (hS : SR p σ τ) {F : Nat} (hF : 64 < F) {t : Nat} (ht : t < 16) : f_M_holders F τ (nI t) = some (nI (hld p t)) := by
  have hw := hS.wf
  have hT := hw.2.2.2.1
  have hl := lpC (N := 4 * pT p) (F := F) (fun k => bt ((XS p).2.1 k) t) (f_M_holders_L4 F τ (nI t)) (fun fu y => by
      show f_M_holders_B4 F τ (nI t) _ y (nI (4 * pT p)) = _
      unfold f_M_holders_B4
      rw [m_4T hS.am, if_pos (nI_le (Nat.le_refl _) (by omega))]) (fun k fu y hk => by
      show f_M_holders_B4 F τ (nI t) _ y (nI k) = _
      unfold f_M_holders_B4
      rw [m_4T hS.am, if_neg (nI_ge hk (by omega)), if_pos (ix_in (by omega) (by omega)), ix_c (by omega), hS.x2.2, v_Mhas (by omega), nI_1]
      show (if bI _ = 0 then _ else _) = _
      rw [bIif]
      split <;> rfl) (by omega)
  unfold f_M_holders
  rw [show (0 : Int32) = nI 0 from rfl, hl]
  show some (nI _) = _
  unfold hld
  rw [cnt_z (N := 4 * pT p) 64 (by omega) (fun k h1 _ => by rw [fd_z hw h1, b_0])]
-- SITES that hold
theorem nd4 : ∀ k, k < 64 → nI k / 4 = nI (k / 4) := by decide +kernel
theorem nd8 : ∀ k, k < 64 → nI k / 8 = nI (k / 8) := by decide +kernel
def hsi (p : PG) (t : Nat) : Int32 := orS (fun k => bt ((XS p).2.1 k) t) (fun k => k / 4) (4 * pT p)
theorem e_holdingSites (hS : SR p σ τ) {F : Nat} (hF : 64 < F) {t : Nat} (ht : t < 16) : f_X_holdingSites F σ (nI t) = some (hsi p t) := by
  have hw := hS.wf
  have hT := hw.2.2.2.1
  have hl := lpO (N := 16) (F := F) (fun s => bt (held (XS p).2.1 (sh s)) t) (fun s => s) (f_X_holdingSites_L4 F σ (nI t)) (fun fu y => by
      show f_X_holdingSites_B4 F σ (nI t) _ y (nI 16) = _
      unfold f_X_holdingSites_B4
      rw [if_pos le_16]) (fun s fu y hs => by
      show f_X_holdingSites_B4 F σ (nI t) _ y (nI s) = _
      unfold f_X_holdingSites_B4
      rw [if_neg (lt_16 hs), e_heldBy (by omega), hS.x2.1, nI_1]
      show Option.bind (f_E_has (held (XS p).2.1 (sh s)) (nI t)) _ = _
      rw [v_has (by omega)]
      show (if bI _ = 0 then _ else _) = _
      rw [bIif]
      split <;> rfl) (by omega)
  unfold f_X_holdingSites
  rw [show (0 : Int32) = nI 0 from rfl, hl]
  show some _ = _
  congr 1
  unfold hsi
  apply b_iff
  intro i _
  rw [orS_bit 16 (fun s hs _ => by omega), orS_bit (4 * pT p) (fun s hs _ => by omega)]
  refine ⟨fun ⟨s, h1, h2, h3⟩ => ?_, fun ⟨k, h1, h2, h3⟩ => ?_⟩
  · obtain ⟨f, g1, s', g2, g3, g4⟩ := held_iff.mp h2
    rw [b_sh (by omega) (by omega), decide_eq_true_eq] at g3
    subst g3
    subst h3
    refine ⟨4 * s' + f, ?_, g4, by omega⟩
    apply Classical.byContradiction
    intro z
    rw [fd_z hw (by omega), b_0] at g4; cases g4
  · refine ⟨i, by omega, held_iff.mpr ⟨k % 4, by omega, i, by omega, ?_, ?_⟩, rfl⟩
    · rw [b_sh (by omega) (by omega), decide_eq_true_eq]
    · rw [show 4 * i + k % 4 = k by omega]; exact h2
theorem m_holderSites (hS : SR p σ τ) {F : Nat} (hF : 64 < F) {t : Nat} (ht : t < 16) : f_M_holderSites F τ (nI t) = some (hsi p t) := by
  have hw := hS.wf
  have hT := hw.2.2.2.1
  have hl := lpO (N := 4 * pT p) (F := F) (fun k => bt ((XS p).2.1 k) t) (fun k => k / 4) (f_M_holderSites_L4 F τ (nI t)) (fun fu y => by
      show f_M_holderSites_B4 F τ (nI t) _ y (nI (4 * pT p)) = _
      unfold f_M_holderSites_B4
      rw [m_4T hS.am, if_pos (nI_le (Nat.le_refl _) (by omega))]) (fun k fu y hk => by
      show f_M_holderSites_B4 F τ (nI t) _ y (nI k) = _
      unfold f_M_holderSites_B4
      rw [m_4T hS.am, if_neg (nI_ge hk (by omega)), if_pos (ix_in (by omega) (by omega)), ix_c (by omega), hS.x2.2, v_Mhas (by omega), nI_1, nd4 k (by omega)]
      show (if bI _ = 0 then _ else _) = _
      rw [bIif]
      split <;> rfl) (by omega)
  unfold f_M_holderSites
  rw [show (0 : Int32) = nI 0 from rfl, hl]
  rfl
-- METHODS whose NAMES point
def pme (p : PG) (t : Nat) : Nat → Int32 := orS (fun k => bt ((XS p).1 k) t) (fun k => k / 8)
theorem pme_s (p : PG) (t k : Nat) : pme p t (k + 1) = if bt ((XS p).1 k) t = true then pme p t k ||| sh (k / 8) else pme p t k := rfl
theorem e_pointingMethods (hS : SR p σ τ) {F : Nat} (hF : 64 < F) {t : Nat} (ht : t < 16) : f_X_pointingMethods F σ (nI t) = some (pme p t 64) := by
  have inner : ∀ m, m < 8 → f_X_pointingMethods_L13 F σ (nI t) (nI m) F (pme p t (8 * m)) (nI 0) = some (pme p t (8 * m + 8), nI 8) := by
    intro m hm
    exact loop2 8 (f_X_pointingMethods_L13 F σ (nI t) (nI m)) (fun x => pme p t (8 * m + x)) (fun x => nI x) (pme p t (8 * m + 8), nI 8) (fun fu => by
      show f_X_pointingMethods_B13 F σ (nI t) (nI m) _ _ (nI 8) = _
      unfold f_X_pointingMethods_B13
      rw [if_pos le_8]) (fun x fu hx => by
      show f_X_pointingMethods_B13 F σ (nI t) (nI m) _ (pme p t (8 * m + x)) (nI x) = f_X_pointingMethods_L13 F σ (nI t) (nI m) fu (pme p t (8 * m + x + 1)) (nI (x + 1))
      unfold f_X_pointingMethods_B13
      rw [if_neg (lt_8 hx), e_ofName hm hx, hS.x1.1, nI_1, pme_s, show (8 * m + x) / 8 = m by omega]
      show Option.bind (f_E_has ((XS p).1 (8 * m + x)) (nI t)) _ = _
      rw [v_has (by omega)]
      show (if bI _ = 0 then _ else _) = _
      rw [bIif]
      split <;> rfl) F (by omega)
  have hl := loop2 8 (f_X_pointingMethods_L4 F σ (nI t)) (fun m => pme p t (8 * m)) (fun m => nI m) (pme p t 64, nI 8) (fun fu => by
      show f_X_pointingMethods_B4 F σ (nI t) _ _ (nI 8) = _
      unfold f_X_pointingMethods_B4
      rw [if_pos le_8]) (fun m fu hm => by
      show f_X_pointingMethods_B4 F σ (nI t) _ (pme p t (8 * m)) (nI m) = f_X_pointingMethods_L4 F σ (nI t) fu (pme p t (8 * m + 8)) (nI (m + 1))
      unfold f_X_pointingMethods_B4
      rw [if_neg (lt_8 hm), show (0 : Int32) = nI 0 from rfl, inner m hm, nI_1]
      rfl) F (by omega)
  unfold f_X_pointingMethods
  rw [show (0 : Int32) = nI 0 from rfl]
  have e : f_X_pointingMethods_L4 F σ (nI t) F (nI 0) (nI 0) = some (pme p t 64, nI 8) := hl
  rw [e]
  rfl
theorem m_namers (hS : SR p σ τ) {F : Nat} (hF : 64 < F) {t : Nat} (ht : t < 16) : f_M_namers F τ (nI t) = some (pme p t 64) := by
  have hl := lpO (N := 64) (F := F) (fun k => bt ((XS p).1 k) t) (fun k => k / 8) (f_M_namers_L4 F τ (nI t)) (fun fu y => by
      show f_M_namers_B4 F τ (nI t) _ y (nI 64) = _
      unfold f_M_namers_B4
      rw [if_pos le_64]) (fun k fu y hk => by
      show f_M_namers_B4 F τ (nI t) _ y (nI k) = _
      unfold f_M_namers_B4
      rw [if_neg (lt_64 hk), if_pos (ix_in hk (by omega)), ix_c (by omega), hS.x1.2, v_Mhas (by omega), nI_1, nd8 k hk]
      show (if bI _ = 0 then _ else _) = _
      rw [bIif]
      split <;> rfl) (by omega)
  unfold f_M_namers
  rw [show (0 : Int32) = nI 0 from rfl, hl]
  rfl
-- METHODS that STORE to it
def stB (p : PG) (t s : Nat) : Bool := decide (pkd p s = 3) && bt ((XS p).1 (8 * pow p s + pnv p s 0)) t
def str (p : PG) (t : Nat) : Int32 := orS (stB p t) (pow p) (pS p)
theorem e_storedTo (hS : SR p σ τ) {s : Nat} (hs : s < pS p) (hk : pkd p s = 3) : f_X_storedTo σ (nI s) = some ((XS p).1 (8 * pow p s + pnv p s 0)) := by
  have hw := hS.wf
  obtain ⟨h64, hm, hst⟩ := WF_step hw hs
  obtain ⟨n1, n2⟩ := e_n0 hS.ae hw hs (by omega)
  unfold f_X_storedTo
  rw [e_owner hS.ae hw hs]
  show Option.bind (f_P_need σ (nI s) (nI 0)) _ = _
  rw [n1]
  show Option.bind (f_S_ofName σ (nI (pow p s)) (nI (pnv p s 0))) _ = _
  rw [e_ofName hm n2, hS.x1.1]
  rfl
theorem e_storingMethods (hS : SR p σ τ) {F : Nat} (hF : 64 < F) {t : Nat} (ht : t < 16) : f_X_storingMethods F σ (nI t) = some (str p t) := by
  have hw := hS.wf
  have h := hS.ae
  have hSt := hw.2.2.1
  have hl := lpO (N := pS p) (F := F) (stB p t) (pow p) (f_X_storingMethods_L4 F σ (nI t)) (fun fu y => by
      show f_X_storingMethods_B4 F σ (nI t) _ y (nI (pS p)) = _
      unfold f_X_storingMethods_B4
      rw [h.2.1, if_pos (nI_le (Nat.le_refl _) (by omega))]) (fun k fu y hk => by
      show f_X_storingMethods_B4 F σ (nI t) _ y (nI k) = _
      have e3 : (nI (pkd p k) = 3) ↔ pkd p k = 3 := kdI hw hk 3 (by omega)
      unfold f_X_storingMethods_B4 stB
      rw [h.2.1, if_neg (nI_ge hk (by omega)), e_kind h hw hk, e_owner h hw hk, nI_1]
      show (if nI (pkd p k) = 3 then _ else _) = _
      by_cases c : pkd p k = 3
      · rw [if_pos (e3.mpr c), e_storedTo hS hk c, decide_eq_true c, Bool.true_and]
        show Option.bind (f_E_has ((XS p).1 (8 * pow p k + pnv p k 0)) (nI t)) _ = _
        rw [v_has (by omega)]
        show (if bI _ = 0 then _ else _) = _
        rw [bIif]
        split <;> rfl
      · rw [if_neg (fun z => c (e3.mp z)), decide_eq_false c, Bool.false_and]
        rfl) (by omega)
  unfold f_X_storingMethods
  rw [show (0 : Int32) = nI 0 from rfl, hl]
  rfl
theorem m_storers (hS : SR p σ τ) {F : Nat} (hF : 64 < F) {t : Nat} (ht : t < 16) : f_M_storers F τ (nI t) = some (str p t) := by
  have hw := hS.wf
  have h := hS.am
  have hSt := hw.2.2.1
  have hl := lpO (N := pS p) (F := F) (stB p t) (pow p) (f_M_storers_L4 F τ (nI t)) (fun fu y => by
      show f_M_storers_B4 F τ (nI t) _ y (nI (pS p)) = _
      unfold f_M_storers_B4
      rw [h.2.1, if_pos (nI_le (Nat.le_refl _) (by omega))]) (fun k fu y hk => by
      show f_M_storers_B4 F τ (nI t) _ y (nI k) = _
      have e3 : (nI (pkd p k) = 3) ↔ pkd p k = 3 := kdI hw hk 3 (by omega)
      obtain ⟨h64, hm, hst⟩ := WF_step hw hk
      obtain ⟨i0, i5, c0, c5⟩ := m_ix hw hk
      obtain ⟨r1, r2, r3, r4⟩ := h.2.2.2.1 k hk
      unfold f_M_storers_B4 stB
      rw [h.2.1, if_neg (nI_ge hk (by omega)), m_isLive h hw hk, hS.lv.2]
      show (if bI (bt (liveP p) (pow p k)) = 0 then _ else _) = _
      rw [bIif]
      simp only [n5_I, c0, c5, if_pos i0, if_pos i5, r1, r2, nI_1, if_neg h10, if_true]
      by_cases c : pkd p k = 3
      · obtain ⟨n1, n2⟩ := m_n0 h hw hk (by omega)
        rw [if_pos (e3.mpr c), decide_eq_true c, Bool.true_and, n1, m_name hm n2, hS.x1.2]
        by_cases l : bt (liveP p) (pow p k) = true
        · rw [if_pos l]
          show Option.bind (f_M_has ((XS p).1 (8 * pow p k + pnv p k 0)) (nI t)) _ = _
          rw [v_Mhas (by omega)]
          show (if bI _ = 0 then _ else _) = _
          rw [bIif]
          split <;> rfl
        · rw [if_neg l, (XS_dead hw l).1 _ n2, b_0]
          rfl
      · rw [if_neg (fun z => c (e3.mp z)), decide_eq_false c, Bool.false_and]
        split <;> rfl) (by omega)
  unfold f_M_storers
  rw [show (0 : Int32) = nI 0 from rfl, hl]
  rfl
end OF
theorem op_of : Op_of FU Rel := by
  intro σ τ a1 a2 hR
  have hR0 := hR
  obtain ⟨p, hw, h, h', hz, hz', hs, hs'⟩ := hR
  have hT := hw.2.2.2.1
  have hF : 64 < FU := by decide
  unfold f_E_of f_M_of
  rcases rg a1 (pT p) (by omega) with ⟨t, ht, rfl⟩ | ho
  · rw [e_isSi_in h hw ht, m_isSi_in h' hw ht]
    have ht6 : t < 16 := by omega
    rcases rg a2 7 (by omega) with ⟨x, hx, rfl⟩ | ho
    · obtain ⟨σ', τ', e1, e2, hS⟩ := both hw h h' hz hz' hs hs'
      have b1 : f_E_isBelow (nI x) 7 = some 1 := v_below_in (n := 7) hx (by omega)
      obtain ⟨lr, el, hlr⟩ := m_levelOf hS hF ht6
      have key : ∃ r, (if nI x = 0 then (Option.bind (f_P_methodOfSite σ' (nI t)) (fun u73 => some (u73, σ'))) else if nI x = 1 then (Option.bind (f_P_maker σ' (nI t)) (fun u82 => some (u82, σ'))) else if nI x = 2 then (Option.bind (f_E_at 16 (σ' 15) (nI t)) (fun u94 => some (u94, σ'))) else if nI x = 3 then (Option.bind (f_X_countHolders FU σ' (nI t)) (fun u103 => some (u103, σ'))) else if nI x = 4 then (Option.bind (f_X_holdingSites FU σ' (nI t)) (fun u112 => some (u112, σ'))) else if nI x = 5 then (Option.bind (f_X_pointingMethods FU σ' (nI t)) (fun u121 => some (u121, σ'))) else (Option.bind (f_X_storingMethods FU σ' (nI t)) (fun u130 => some (u130, σ')))) = some (r, σ') ∧ (if nI x = 0 then (Option.bind (f_M_owner τ' (nI t)) (fun u66 => some (u66, τ'))) else if nI x = 1 then (if ¬ (nI t < 0 ∨ 16 ≤ (nI t).toNatClampNeg) then (some (((τ' 5) (nI t).toNatClampNeg), τ')) else none) else if nI x = 2 then (Option.bind (f_M_levelOf FU τ' (nI t)) (fun u79 => some (u79, τ'))) else if nI x = 3 then (Option.bind (f_M_holders FU τ' (nI t)) (fun u85 => some (u85, τ'))) else if nI x = 4 then (Option.bind (f_M_holderSites FU τ' (nI t)) (fun u91 => some (u91, τ'))) else if nI x = 5 then (Option.bind (f_M_namers FU τ' (nI t)) (fun u97 => some (u97, τ'))) else (Option.bind (f_M_storers FU τ' (nI t)) (fun u103 => some (u103, τ')))) = some (r, τ') := by
        rw [e_methodOfSite hS.ae hw ht, e_maker hS.ae hw ht, v_at ht6 (by omega), e_countHolders hS hF ht6, e_holdingSites hS hF ht6, e_pointingMethods hS hF ht6, e_storingMethods hS hF ht6, m_owner hS.am hw ht, if_pos (ix_in ht6 (by omega)), ix_c (by omega), hS.am.2.2.2.2 t ht, el, m_holders hS hF ht6, m_holderSites hS hF ht6, m_namers hS hF ht6, m_storers hS hF ht6, LV_u (hS.lev t ht6) hlr]
        rcases (show x = 0 ∨ x = 1 ∨ x = 2 ∨ x = 3 ∨ x = 4 ∨ x = 5 ∨ x = 6 by omega) with rfl | rfl | rfl | rfl | rfl | rfl | rfl <;> exact ⟨_, rfl, rfl⟩
      obtain ⟨r, k1, k2⟩ := key
      refine ⟨(r, σ'), (r, τ'), ?_, ?_, rfl, hS.rel⟩
      · show Option.bind (f_E_isBelow (nI x) 7) _ = _
        rw [b1]
        show Option.bind (f_S_solve FU σ) _ = _
        rw [e1]
        exact k1
      · show Option.bind (f_M_isIn (nI x) 0 6) _ = _
        rw [v_isIn_inC (n := 7) (by decide) hx (by omega)]
        show Option.bind (f_M_solve FU τ) _ = _
        rw [e2]
        exact k2
    · have b1 : f_E_isBelow a2 7 = some 0 := v_below_out (n := 7) ho
      refine ⟨(-2, σ), (-2, τ), ?_, ?_, rfl, hR0⟩
      · show Option.bind (f_E_isBelow a2 7) _ = _
        rw [b1]; rfl
      · show Option.bind (f_M_isIn a2 0 6) _ = _
        rw [v_isIn_outC (n := 7) (by decide) (by omega) ho]; rfl
  · rw [e_isSi_out h ho, m_isSi_out h' hw ho]
    exact ⟨(-2, σ), (-2, τ), rfl, rfl, rfl, hR0⟩
