/-! METHODS over all; locks; LEVELS; all. -/
section AP
variable {σ τ : St} {p : PG}
def hrm (p : PG) (C : Int32) (s : Nat) : Bool := decide (pkd p s = 5 ∨ pkd p s = 8 ∨ pkd p s = 9 ∨ (pkd p s = 3 ∧ ¬ (XS p).1 (8 * pow p s + pnv p s 0) &&& (mdB p C ^^^ (-1)) = 0))
def hmS (p : PG) (C : Int32) (s : Nat) : Bool := bt C (pow p s) && hrm p C s
theorem e_isHarm (hS : SR p σ τ) {C : Int32} {s : Nat} (hs : s < pS p) : f_X_isHarm σ (nI s) (mdB p C ^^^ (-1)) = some (bI (hrm p C s)) := by
  have hw := hS.wf
  obtain ⟨h64, hm, hst⟩ := WF_step hw hs
  have h2 := hst.2.1
  unfold f_X_isHarm hrm
  rw [e_kind hS.ae hw hs]
  have hk : pkd p s = 0 ∨ pkd p s = 1 ∨ pkd p s = 2 ∨ pkd p s = 3 ∨ pkd p s = 4 ∨ pkd p s = 5 ∨ pkd p s = 6 ∨ pkd p s = 7 ∨ pkd p s = 8 ∨ pkd p s = 9 ∨ pkd p s = 10 := by omega
  rcases hk with k | k | k | k | k | k | k | k | k | k | k
  · rw [k, decide_eq_false (by omega)]; rfl
  · rw [k, decide_eq_false (by omega)]; rfl
  · rw [k, decide_eq_false (by omega)]; rfl
  · rw [e_storedTo hS hs k, k]
    show (if (XS p).1 (8 * pow p s + pnv p s 0) &&& (mdB p C ^^^ (-1)) = 0 then _ else _) = _
    by_cases c : (XS p).1 (8 * pow p s + pnv p s 0) &&& (mdB p C ^^^ (-1)) = 0
    · rw [if_pos c, decide_eq_false (fun z => by rcases z with z | z | z | z; omega; omega; omega; exact z.2 c)]; rfl
    · rw [if_neg c, decide_eq_true (Or.inr (Or.inr (Or.inr ⟨rfl, c⟩)))]; rfl
  · rw [k, decide_eq_false (by omega)]; rfl
  · rw [k, decide_eq_true (by omega)]; rfl
  · rw [k, decide_eq_false (by omega)]; rfl
  · rw [k, decide_eq_false (by omega)]; rfl
  · rw [k, decide_eq_true (by omega)]; rfl
  · rw [k, decide_eq_true (by omega)]; rfl
  · rw [k, decide_eq_false (by omega)]; rfl
theorem e_areHarmless (hS : SR p σ τ) {F : Nat} (hF : 64 < F) {C : Int32} : f_X_areHarmless F σ C = some (bI (nonB (hmS p C) (pS p))) := by
  have hw := hS.wf
  have h := hS.ae
  have hSt := hw.2.2.1
  have hl := lpE (N := pS p) (F := F) (hmS p C) 0 (f_X_areHarmless_L13 F σ C (mdB p C ^^^ (-1))) (fun fu => by
      show f_X_areHarmless_B13 F σ _ _ _ (nI (pS p)) = _
      unfold f_X_areHarmless_B13
      rw [h.2.1, if_pos (nI_le (Nat.le_refl _) (by omega))]) (fun k fu hk => by
      show f_X_areHarmless_B13 F σ _ _ _ (nI k) = _
      unfold f_X_areHarmless_B13 hmS
      rw [h.2.1, if_neg (nI_ge hk (by omega)), e_isIn h hw hk, e_isHarm hS hk, nI_1]
      cases bt C (pow p k) <;> cases hrm p C k <;> rfl) (by omega)
  unfold f_X_areHarmless
  rw [e_madeBy h hw hF]
  show Option.bind (f_X_areHarmless_L13 F σ C (mdB p C ^^^ (-1)) F (nI 0)) _ = _
  rw [hl]
  cases nonB (hmS p C) (pS p) <;> rfl
theorem m_pureL (hS : SR p σ τ) {F : Nat} (hF : 64 < F) {C : Int32} : f_M_isPure_L20 F τ C (mdB p C) F (bI true) (nI 0) = some (bI (nonB (hmS p C) (pS p)), nI (pS p)) := by
  have hw := hS.wf
  have h := hS.am
  have hSt := hw.2.2.1
  have hl := lpF (N := pS p) (F := F) (hmS p C) true (f_M_isPure_L20 F τ C (mdB p C)) (fun fu y => by
      show f_M_isPure_B20 F τ _ _ _ y (nI (pS p)) = _
      unfold f_M_isPure_B20
      rw [h.2.1, if_pos (nI_le (Nat.le_refl _) (by omega))]) (fun k fu b hk => by
      show f_M_isPure_B20 F τ _ _ _ (bI b) (nI k) = _
      obtain ⟨h64, hm, hst⟩ := WF_step hw hk
      obtain ⟨i0, i5, c0, c5⟩ := m_ix hw hk
      obtain ⟨r1, r2, r3, r4⟩ := h.2.2.2.1 k hk
      have h2 := hst.2.1
      have e5 : (nI (pkd p k) = 5) ↔ pkd p k = 5 := kdI hw hk 5 (by omega)
      have e8 : (nI (pkd p k) = 8) ↔ pkd p k = 8 := kdI hw hk 8 (by omega)
      have e9 : (nI (pkd p k) = 9) ↔ pkd p k = 9 := kdI hw hk 9 (by omega)
      have e3 : (nI (pkd p k) = 3) ↔ pkd p k = 3 := kdI hw hk 3 (by omega)
      unfold f_M_isPure_B20 hmS hrm
      simp only [n5_I, c0, c5, if_pos i0, if_pos i5, r1, r2, nI_1, if_neg h10, if_true]
      rw [h.2.1, if_neg (nI_ge hk (by omega)), v_Mhas (by omega)]
      by_cases k5 : pkd p k = 5
      · rw [if_pos (e5.mpr k5), decide_eq_true (by omega)]
        cases b <;> cases bt C (pow p k) <;> rfl
      · rw [if_neg (fun z => k5 (e5.mp z))]
        by_cases k8 : pkd p k = 8
        · rw [if_pos (e8.mpr k8), decide_eq_true (by omega)]
          cases b <;> cases bt C (pow p k) <;> rfl
        · rw [if_neg (fun z => k8 (e8.mp z))]
          by_cases k9 : pkd p k = 9
          · rw [if_pos (e9.mpr k9), decide_eq_true (by omega)]
            cases b <;> cases bt C (pow p k) <;> rfl
          · rw [if_neg (fun z => k9 (e9.mp z))]
            by_cases k3 : pkd p k = 3
            · obtain ⟨n1, n2⟩ := m_n0 h hw hk (by omega)
              rw [if_pos (e3.mpr k3), n1, m_name hm n2, hS.x1.2]
              show (if (XS p).1 (8 * pow p k + pnv p k 0) &&& (mdB p C ^^^ (-1)) = 0 then _ else _) = _
              by_cases c : (XS p).1 (8 * pow p k + pnv p k 0) &&& (mdB p C ^^^ (-1)) = 0
              · rw [if_pos c, decide_eq_false (fun z => by rcases z with z | z | z | z; omega; omega; omega; exact z.2 c)]
                cases b <;> cases bt C (pow p k) <;> rfl
              · rw [if_neg c, decide_eq_true (Or.inr (Or.inr (Or.inr ⟨k3, c⟩)))]
                cases b <;> cases bt C (pow p k) <;> rfl
            · rw [if_neg (fun z => k3 (e3.mp z)), decide_eq_false (by omega)]
              cases b <;> cases bt C (pow p k) <;> rfl) (by omega)
  rw [Bool.true_and] at hl
  exact hl
/-- what a LIVE METHOD and all that it comes to by CALLS are -/
def wcl (p : PG) (m : Nat) : Int32 := wcO (calE p (liveP p)) (sh m) 8
theorem low_sh {m : Nat} (hm : m < 8) : lowb 8 (sh m) := fun i hi => by
  rcases Nat.lt_or_ge i 32 with g | g
  · rw [b_sh (by omega) g, decide_eq_true_eq] at hi; omega
  · rw [b_big g] at hi; cases hi
theorem sub_sh {m : Nat} {x : Int32} (hm : m < 8) (h : bt x m = true) : subb (sh m) x := fun i hi => by
  rcases Nat.lt_or_ge i 32 with g | g
  · rw [b_sh (by omega) g, decide_eq_true_eq] at hi; rw [hi]; exact h
  · rw [b_big g] at hi; cases hi
theorem m_isPure (hS : SR p σ τ) {F : Nat} (hF : 64 < F) {m : Nat} (hm : m < 8) (hl : bt (liveP p) m = true) : f_M_isPure F τ (nI m) = some (bI (nonB (hmS p (wcl p m)) (pS p))) := by
  have hw := hS.wf
  obtain ⟨r, er, hr⟩ := m_allCalled hS.am hw hF (low_sh hm)
  have h1 := calE_lst hw (sub_sh hm hl) (wcO_lst (low_sh hm) (calE_low hw))
  have e : r = wcl p m := Lst_u hr h1
  rw [e] at er
  unfold f_M_isPure
  show Option.bind (f_M_allCalled F τ (sh m)) _ = _
  rw [er]
  show Option.bind (f_M_madeBy F τ (wcl p m)) _ = _
  rw [m_madeBy hS.am hw hF]
  show Option.bind (f_M_isPure_L20 F τ (wcl p m) (mdB p (wcl p m)) F (bI true) (nI 0)) _ = _
  rw [m_pureL hS hF]
  exact bIchk _ _
-- FRESH
def freE (p : PG) (m : Nat) : Bool := decide (¬ (XS p).2.2.2 m = 0 ∧ (XS p).2.2.2 m &&& ((((mdB p (sh m) ^^^ (-1)) ||| itP p 16) ||| prs (XS p).1 m) ||| held (XS p).2.1 (mdB p (liveP p))) = 0)
theorem e_isFresh (hS : SR p σ τ) {F : Nat} (hF : 64 < F) {m : Nat} (hm : m < 8) : f_X_isFresh F σ (nI m) = some (bI (freE p m)) := by
  have hw := hS.wf
  have h := hS.ae
  unfold f_X_isFresh freE
  rw [v_at hm (by omega), hS.x4.1, e_ofParameters hF hm, hS.x1.1, hS.lv.1, hS.shd]
  show Option.bind (f_P_madeBy F σ (sh m)) _ = _
  rw [e_madeBy h hw hF]
  show Option.bind (f_P_madeBy F σ (liveP p)) _ = _
  rw [e_madeBy h hw hF]
  show Option.bind (f_S_heldBy F σ (mdB p (liveP p))) _ = _
  rw [e_heldBy (by omega), hS.x2.1]
  show (if (XS p).2.2.2 m = 0 then _ else (if (XS p).2.2.2 m &&& ((((mdB p (sh m) ^^^ (-1)) ||| itP p 16) ||| prs (XS p).1 m) ||| held (XS p).2.1 (mdB p (liveP p))) = 0 then _ else _)) = _
  by_cases c : (XS p).2.2.2 m = 0
  · rw [if_pos c, decide_eq_false (fun z => z.1 c)]; rfl
  · rw [if_neg c]
    by_cases d : (XS p).2.2.2 m &&& ((((mdB p (sh m) ^^^ (-1)) ||| itP p 16) ||| prs (XS p).1 m) ||| held (XS p).2.1 (mdB p (liveP p))) = 0
    · rw [if_pos d, decide_eq_true ⟨c, d⟩]; rfl
    · rw [if_neg d, decide_eq_false (fun z => d z.2)]; rfl
def frB (p : PG) (m t : Nat) : Bool := bt ((XS p).2.2.2 m) t && !(decide (pow p (pmk p t) = m) && decide (hld p t = 0))
theorem m_freshL (hS : SR p σ τ) {F : Nat} (hF : 64 < F) {m : Nat} (hm : m < 8) (b0 : Bool) : f_M_isFresh_L35 F τ (nI m) ((XS p).2.2.2 m) F (bI b0) (nI 0) = some (bI (b0 && nonB (frB p m) (pT p)), nI (pT p)) := by
  have hw := hS.wf
  have h := hS.am
  have hT := hw.2.2.2.1
  exact lpF (N := pT p) (F := F) (frB p m) b0 (f_M_isFresh_L35 F τ (nI m) ((XS p).2.2.2 m)) (fun fu y => by
      show f_M_isFresh_B35 F τ _ _ _ y (nI (pT p)) = _
      unfold f_M_isFresh_B35
      rw [h.2.2.1, if_pos (nI_le (Nat.le_refl _) (by omega))]) (fun t fu b ht => by
      show f_M_isFresh_B35 F τ _ _ _ (bI b) (nI t) = _
      have hm' := site_m hw ht
      have em : (nI (pow p (pmk p t)) = nI m) ↔ pow p (pmk p t) = m := nI_eq (by omega) (by omega)
      have eh : (nI (hld p t) = 0) ↔ hld p t = 0 := nI_eq (b := 0) (by have : hld p t ≤ 64 := cnt_le _ 64; omega) (by omega)
      unfold f_M_isFresh_B35 frB
      rw [h.2.2.1, if_neg (nI_ge ht (by omega)), v_Mhas (by omega), m_owner h hw ht, m_holders hS hF (by omega), nI_1]
      show (if bI b = 0 then _ else (if bI (bt ((XS p).2.2.2 m) t) = 0 then _ else (if nI (pow p (pmk p t)) = nI m then (if nI (hld p t) = 0 then _ else _) else _))) = _
      by_cases c : pow p (pmk p t) = m
      · rw [if_pos (em.mpr c), decide_eq_true c]
        by_cases d : hld p t = 0
        · rw [if_pos (eh.mpr d), decide_eq_true d]
          cases b <;> cases bt ((XS p).2.2.2 m) t <;> rfl
        · rw [if_neg (fun z => d (eh.mp z)), decide_eq_false d]
          cases b <;> cases bt ((XS p).2.2.2 m) t <;> rfl
      · rw [if_neg (fun z => c (em.mp z)), decide_eq_false c]
        cases b <;> cases bt ((XS p).2.2.2 m) t <;> rfl) (by omega)
theorem fre_eq (hw : WF p) {m : Nat} (hm : m < 8) : freE p m = (decide (¬ (XS p).2.2.2 m = 0 ∧ (XS p).2.2.2 m &&& (itP p 16 ||| prs (XS p).1 m) = 0) && nonB (frB p m) (pT p)) := by
  have hT := hw.2.2.2.1
  have hI := (XS_inv hw).1
  apply Bool.eq_iff_iff.mpr
  rw [Bool.and_eq_true, nonB_iff, decide_eq_true_eq]
  unfold freE frB
  rw [decide_eq_true_eq, and_z, and_z]
  have hbit : ∀ i, i < 32 → bt ((XS p).2.2.2 m) i = true → (bt ((((mdB p (sh m) ^^^ (-1)) ||| itP p 16) ||| prs (XS p).1 m) ||| held (XS p).2.1 (mdB p (liveP p))) i = false ↔ (bt (itP p 16 ||| prs (XS p).1 m) i = false ∧ pow p (pmk p i) = m ∧ hld p i = 0)) := by
    intro i hi hb
    have hiT := hI.2.2.2 m i hb
    have hm' := site_m hw hiT.1
    have e1 : bt (mdB p (sh m)) i = decide (pow p (pmk p i) = m) := Bool.eq_iff_iff.mpr (by
      rw [mdB_bit hw, b_sh (by omega) (by omega), decide_eq_true_eq]
      exact ⟨fun z => z.2, fun z => ⟨hiT.1, z⟩⟩)
    have e2 : bt (held (XS p).2.1 (mdB p (liveP p))) i = false ↔ hld p i = 0 := by
      rw [hld_0]
      refine ⟨fun z k hk => ?_, fun z => ?_⟩
      · cases g : bt ((XS p).2.1 k) i
        · rfl
        · have : bt (held (XS p).2.1 (mdB p (liveP p))) i = true := held_iff.mpr ⟨k % 4, by omega, k / 4, by omega, (by
            apply Classical.byContradiction
            intro hn
            have := XS_dfz hw (k / 4) (k % 4) (by omega) (fun q => hn ((mdB_bit hw).mpr q))
            rw [show 4 * (k / 4) + k % 4 = k by omega] at this
            rw [this, b_0] at g; cases g), by rw [show 4 * (k / 4) + k % 4 = k by omega]; exact g⟩
          rw [z] at this; cases this
      · cases g : bt (held (XS p).2.1 (mdB p (liveP p))) i
        · rfl
        · obtain ⟨f, h1, s, h2, h3, h4⟩ := held_iff.mp g
          rw [z _ (by omega)] at h4; cases h4
    rw [b_or, b_or, b_or, b_not hi, e1, b_or, Bool.or_eq_false_iff, e2]
    cases bt (itP p 16) i <;> cases bt (prs (XS p).1 m) i <;> simp
  refine ⟨fun ⟨h1, h2⟩ => ⟨⟨h1, fun i hi hb => ((hbit i hi hb).mp (h2 i hi hb)).1⟩, fun t ht => ?_⟩, fun ⟨⟨h1, h2⟩, h3⟩ => ⟨h1, fun i hi hb => (hbit i hi hb).mpr ⟨h2 i hi hb, ?_⟩⟩⟩
  · cases g : bt ((XS p).2.2.2 m) t
    · rfl
    · obtain ⟨-, h4, h5⟩ := (hbit t (by omega) g).mp (h2 t (by omega) g)
      rw [decide_eq_true h4, decide_eq_true h5]
      rfl
  · have hiT := hI.2.2.2 m i hb
    have := h3 i hiT.1
    rw [hb, Bool.true_and, Bool.not_eq_false', Bool.and_eq_true, decide_eq_true_eq, decide_eq_true_eq] at this
    exact this
theorem m_isFresh (hS : SR p σ τ) {F : Nat} (hF : 64 < F) {m : Nat} (hm : m < 8) : f_M_isFresh F τ (nI m) = some (bI (freE p m)) := by
  have hw := hS.wf
  have h := hS.am
  rw [fre_eq hw hm]
  unfold f_M_isFresh
  have c0 : (nI m).toNatClampNeg = m := ix_c (by omega)
  have i0 : ¬ (nI m < 0 ∨ 8 ≤ m) := fun z => z.elim (ix_n (by omega)) (by omega)
  rw [c0, if_pos i0, hS.x4.2, m_shared hS hF, m_parametersOf hm, hS.x1.2]
  have lf := m_freshL hS hF hm false
  have lt := m_freshL hS hF hm true
  show (if (XS p).2.2.2 m = 0 then Option.bind (f_M_isFresh_L35 F τ (nI m) ((XS p).2.2.2 m) F (bI false) (nI 0)) _ else (if (XS p).2.2.2 m &&& (itP p 16 ||| prs (XS p).1 m) = 0 then Option.bind (f_M_isFresh_L35 F τ (nI m) ((XS p).2.2.2 m) F (bI true) (nI 0)) _ else Option.bind (f_M_isFresh_L35 F τ (nI m) ((XS p).2.2.2 m) F (bI false) (nI 0)) _)) = _
  rw [lf, lt]
  by_cases c : (XS p).2.2.2 m = 0
  · rw [if_pos c, decide_eq_false (fun z => z.1 c)]; rfl
  · rw [if_neg c]
    by_cases d : (XS p).2.2.2 m &&& (itP p 16 ||| prs (XS p).1 m) = 0
    · rw [if_pos d, decide_eq_true ⟨c, d⟩]
      exact bIchk _ _
    · rw [if_neg d, decide_eq_false (fun z => d z.2)]; rfl
-- METHODS of a kind
def meK (p : PG) (k : Nat) : Int32 := orS (fun m => bt (liveP p) m && (if k = 1 then nonB (hmS p (wcl p m)) (pS p) else freE p m)) (fun m => m) 8
theorem meK_n (hw : WF p) (k : Nat) : orS (fun m => bt (liveP p) m && (if k = 1 then nonB (hmS p (wcl p m)) (pS p) else freE p m)) (fun m => m) (pM p) = meK p k := by
  have hM := hw.2.1
  unfold meK
  apply b_iff
  intro i _
  rw [orS_bit (pM p) (fun s hs _ => by omega), orS_bit 8 (fun s hs _ => by omega)]
  refine ⟨fun ⟨s, h1, h2⟩ => ⟨s, by omega, h2⟩, fun ⟨s, h1, h2, h3⟩ => ⟨s, ?_, h2, h3⟩⟩
  exact liveP_low hw s (Bool.and_eq_true_iff.mp h2).1
theorem m_methodsOf (hS : SR p σ τ) {F : Nat} (hF : 64 < F) {k : Nat} (hk : k = 0 ∨ k = 1) : f_M_methodsOf F τ (nI k) = some (meK p k) := by
  have hw := hS.wf
  have hM := hw.2.1
  have h := hS.am
  have hl := lpO (N := pM p) (F := F) (fun m => bt (liveP p) m && (if k = 1 then nonB (hmS p (wcl p m)) (pS p) else freE p m)) (fun m => m) (f_M_methodsOf_L4 F τ (nI k)) (fun fu y => by
      show f_M_methodsOf_B4 F τ _ _ y (nI (pM p)) = _
      unfold f_M_methodsOf_B4
      rw [h.1, if_pos (nI_le (Nat.le_refl _) (by omega))]) (fun m fu y hm => by
      show f_M_methodsOf_B4 F τ _ _ y (nI m) = _
      unfold f_M_methodsOf_B4
      rw [h.1, if_neg (nI_ge hm (by omega)), v_Mhas (by omega), hS.lv.2, m_isFresh hS hF (by omega), nI_1]
      cases l : bt (liveP p) m
      · rfl
      · rw [m_isPure hS hF (by omega) l]
        rcases hk with rfl | rfl
        · show (if bI (freE p m) = 0 then _ else _) = f_M_methodsOf_L4 F τ (nI 0) fu (if (true && freE p m) = true then _ else _) _
          cases freE p m <;> rfl
        · show (if bI (nonB (hmS p (wcl p m)) (pS p)) = 0 then _ else _) = f_M_methodsOf_L4 F τ (nI 1) fu (if (true && nonB (hmS p (wcl p m)) (pS p)) = true then _ else _) _
          cases nonB (hmS p (wcl p m)) (pS p) <;> rfl) (by omega)
  unfold f_M_methodsOf
  rw [show (0 : Int32) = nI 0 from rfl, hl]
  show some _ = _
  rw [meK_n hw]
theorem e_pureMethods (hS : SR p σ τ) {F : Nat} (hF : 64 < F) : f_X_pureMethods F σ = some (meK p 1) := by
  have hl := lpO (N := 8) (F := F) (fun m => bt (liveP p) m && (if 1 = 1 then nonB (hmS p (wcl p m)) (pS p) else freE p m)) (fun m => m) (f_X_pureMethods_L4 F σ) (fun fu y => by
      show f_X_pureMethods_B4 F σ _ y (nI 8) = _
      unfold f_X_pureMethods_B4
      rw [if_pos le_8]) (fun m fu y hm => by
      show f_X_pureMethods_B4 F σ _ y (nI m) = _
      have ew : f_S_withCallees F σ ((1 : Int32) <<< (nI m &&& 31)) = some (wcl p m) := by rw [e_withCallees (by omega), hS.cl]; rfl
      unfold f_X_pureMethods_B4
      rw [if_neg (lt_8 hm), v_has (by omega), hS.lv.1, ew, nI_1]
      show (if bI (bt (liveP p) m) = 0 then _ else Option.bind (f_X_areHarmless F σ (wcl p m)) _) = f_X_pureMethods_L4 F σ fu (if (bt (liveP p) m && nonB (hmS p (wcl p m)) (pS p)) = true then _ else _) _
      rw [e_areHarmless hS hF]
      cases bt (liveP p) m <;> cases nonB (hmS p (wcl p m)) (pS p) <;> rfl) (by omega)
  unfold f_X_pureMethods
  rw [show (0 : Int32) = nI 0 from rfl, hl]
  rfl
theorem e_freshMethods (hS : SR p σ τ) {F : Nat} (hF : 64 < F) : f_X_freshMethods F σ = some (meK p 0) := by
  have hw := hS.wf
  have hl := lpO (N := 8) (F := F) (fun m => bt (liveP p) m && (if 0 = 1 then nonB (hmS p (wcl p m)) (pS p) else freE p m)) (fun m => m) (f_X_freshMethods_L4 F σ) (fun fu y => by
      show f_X_freshMethods_B4 F σ _ y (nI 8) = _
      unfold f_X_freshMethods_B4
      rw [if_pos le_8]) (fun m fu y hm => by
      show f_X_freshMethods_B4 F σ _ y (nI m) = _
      unfold f_X_freshMethods_B4
      rw [if_neg (lt_8 hm), e_isFresh hS hF hm, nI_1]
      show (if bI (freE p m) = 0 then _ else _) = f_X_freshMethods_L4 F σ fu (if (bt (liveP p) m && freE p m) = true then _ else _) _
      by_cases l : bt (liveP p) m = true
      · rw [l]
        cases freE p m <;> rfl
      · have e : freE p m = false := decide_eq_false (fun z => z.1 (XS_dead hw l).2)
        rw [e, Bool.and_false]
        rfl) (by omega)
  unfold f_X_freshMethods
  rw [show (0 : Int32) = nI 0 from rfl, hl]
  rfl
-- idle locks
theorem e_countIdle (hS : SR p σ τ) {F : Nat} (hF : 64 < F) : f_X_countIdle F σ = some (nI (cnt (fun s => decide (pkd p s = 10) && idl p s) (pS p))) := by
  have hw := hS.wf
  have h := hS.ae
  have hSt := hw.2.2.1
  have hl := lpC (N := pS p) (F := F) (fun s => decide (pkd p s = 10) && idl p s) (f_X_countIdle_L4 F σ) (fun fu y => by
      show f_X_countIdle_B4 F σ _ y (nI (pS p)) = _
      unfold f_X_countIdle_B4
      rw [h.2.1, if_pos (nI_le (Nat.le_refl _) (by omega))]) (fun k fu y hk => by
      show f_X_countIdle_B4 F σ _ y (nI k) = _
      have e10 : (nI (pkd p k) = 10) ↔ pkd p k = 10 := kdI hw hk 10 (by omega)
      unfold f_X_countIdle_B4
      rw [h.2.1, if_neg (nI_ge hk (by omega)), e_kind h hw hk, nI_1]
      show (if nI (pkd p k) = 10 then _ else _) = _
      by_cases c : pkd p k = 10
      · rw [if_pos (e10.mpr c), e_isIdle hS hk c, decide_eq_true c]
        cases idl p k <;> rfl
      · rw [if_neg (fun z => c (e10.mp z)), decide_eq_false c]
        rfl) (by omega)
  unfold f_X_countIdle
  rw [show (0 : Int32) = nI 0 from rfl, hl]
  rfl
theorem m_countIdle (hS : SR p σ τ) {F : Nat} (hF : 64 < F) : f_M_all_L122 F τ F (nI 0) (nI 0) = some (nI (cnt (fun s => decide (pkd p s = 10) && idl p s) (pS p)), nI (pS p)) := by
  have hw := hS.wf
  have h := hS.am
  have hSt := hw.2.2.1
  exact lpC (N := pS p) (F := F) (fun s => decide (pkd p s = 10) && idl p s) (f_M_all_L122 F τ) (fun fu y => by
      show f_M_all_B122 F τ _ y (nI (pS p)) = _
      unfold f_M_all_B122
      rw [h.2.1, if_pos (nI_le (Nat.le_refl _) (by omega))]) (fun k fu y hk => by
      show f_M_all_B122 F τ _ y (nI k) = _
      have e10 : (nI (pkd p k) = 10) ↔ pkd p k = 10 := kdI hw hk 10 (by omega)
      obtain ⟨i0, i5, c0, c5⟩ := m_ix hw hk
      obtain ⟨r1, r2, r3, r4⟩ := h.2.2.2.1 k hk
      unfold f_M_all_B122
      rw [h.2.1, if_neg (nI_ge hk (by omega)), m_isLive h hw hk, hS.lv.2, nI_1, c0, if_pos i0, r2]
      show (if bI (bt (liveP p) (pow p k)) = 0 then _ else _) = _
      by_cases c : pkd p k = 10
      · rw [if_pos (e10.mpr c), m_isIdle hS hF hk c, decide_eq_true c, Bool.true_and]
        by_cases l : bt (liveP p) (pow p k) = true
        · rw [l]
          cases idl p k <;> rfl
        · have n2 := (m_n0 h hw hk (by omega)).2
          have e : idl p k = false := decide_eq_false (fun z => z.1 ((XS_dead hw l).1 _ n2))
          rw [bIif, if_neg l, e]
          rfl
      · rw [if_neg (fun z => c (e10.mp z)), decide_eq_false c]
        cases bt (liveP p) (pow p k) <;> rfl) (by omega)
-- the greatest LEVEL
def mxL (r : Nat → Int32) : Nat → Int32
  | 0 => -1
  | n + 1 => if r n ≤ mxL r n then mxL r n else r n
theorem mxL_s (r : Nat → Int32) (n : Nat) : mxL r (n + 1) = if r n ≤ mxL r n then mxL r n else r n := rfl
theorem mxL_ok {it r : Nat → Int32} {N : Nat} (hr : ∀ s, s < N → LV it s (r s)) : ∀ n, n ≤ N → (∃ k, k < 32 ∧ (∃ s, s < n ∧ isLev it s k) ∧ (∀ s j, s < n → isLev it s j → j ≤ k) ∧ mxL r n = nI k) ∨ ((∀ s k, s < n → bt (it k) s = false) ∧ mxL r n = -1) := by
  intro n
  induction n with
  | zero => intro _; exact Or.inr ⟨fun s k h => absurd h (Nat.not_lt_zero s), rfl⟩
  | succ n ih =>
    intro hn
    rw [mxL_s]
    have hm1 : (-1 : Int32).toInt = -1 := by decide
    rcases hr n (by omega) with ⟨k, h1, h2, h3⟩ | ⟨h1, h2⟩
    · rcases ih (by omega) with ⟨k', g1, ⟨s, g2, g3⟩, g4, g5⟩ | ⟨g1, g2⟩
      · rw [h3, g5]
        left
        by_cases c : k ≤ k'
        · rw [if_pos (nI_le c (by omega))]
          refine ⟨k', g1, ⟨s, by omega, g3⟩, fun t j ht hl => ?_, rfl⟩
          by_cases e : t = n
          · subst e; rw [isLev_u hl h2]; exact c
          · exact g4 t j (by omega) hl
        · rw [if_neg (nI_ge (by omega) (by omega))]
          refine ⟨k, h1, ⟨n, by omega, h2⟩, fun t j ht hl => ?_, rfl⟩
          by_cases e : t = n
          · subst e; rw [isLev_u hl h2]; exact Nat.le_refl _
          · have := g4 t j (by omega) hl; omega
      · rw [h3, g2]
        left
        rw [if_neg (fun z => by rw [Int32.le_iff_toInt_le, nI_toInt (by omega), hm1] at z; omega)]
        refine ⟨k, h1, ⟨n, by omega, h2⟩, fun t j ht hl => ?_, rfl⟩
        by_cases e : t = n
        · subst e; rw [isLev_u hl h2]; exact Nat.le_refl _
        · have := g1 t j (by omega); rw [hl.1] at this; cases this
    · rw [h2]
      rcases ih (by omega) with ⟨k', g1, ⟨s, g2, g3⟩, g4, g5⟩ | ⟨g1, g2⟩
      · rw [g5]
        left
        rw [if_pos (by rw [Int32.le_iff_toInt_le, nI_toInt (by omega), hm1]; omega)]
        refine ⟨k', g1, ⟨s, by omega, g3⟩, fun t j ht hl => ?_, rfl⟩
        by_cases e : t = n
        · subst e; have := h1 j; rw [hl.1] at this; cases this
        · exact g4 t j (by omega) hl
      · rw [g2]
        right
        refine ⟨fun t k ht => ?_, by split <;> rfl⟩
        by_cases e : t = n
        · subst e; exact h1 k
        · exact g1 t k (by omega)
theorem m_greatest (hS : SR p σ τ) {F : Nat} (hF : 64 < F) : ∃ v, f_M_all_L177 F τ F (-1) (nI 0) = some (v, nI (pT p)) ∧ GL (itP p) v := by
  have hw := hS.wf
  have h := hS.am
  have hT := hw.2.2.2.1
  have hr : ∀ t, t < pT p → f_M_levelOf F τ (nI t) = some ((f_M_levelOf F τ (nI t)).getD 0) ∧ LV (itP p) t ((f_M_levelOf F τ (nI t)).getD 0) := by
    intro t ht
    obtain ⟨r, e, hv⟩ := m_levelOf hS hF (t := t) (by omega)
    rw [e]
    exact ⟨rfl, hv⟩
  generalize hg : (fun t => (f_M_levelOf F τ (nI t)).getD 0) = r at hr
  have hr1 : ∀ t, t < pT p → f_M_levelOf F τ (nI t) = some (r t) ∧ LV (itP p) t (r t) := by
    intro t ht
    rw [← hg]
    exact hr t ht
  have hl := loop2 (pT p) (f_M_all_L177 F τ) (fun k => mxL r k) (fun k => nI k) (mxL r (pT p), nI (pT p)) (fun fu => by
      show f_M_all_B177 F τ _ _ (nI (pT p)) = _
      unfold f_M_all_B177
      rw [h.2.2.1, if_pos (nI_le (Nat.le_refl _) (by omega))]) (fun k fu hk => by
      show f_M_all_B177 F τ _ (mxL r k) (nI k) = f_M_all_L177 F τ fu (mxL r (k + 1)) (nI (k + 1))
      unfold f_M_all_B177
      rw [h.2.2.1, if_neg (nI_ge hk (by omega)), (hr1 k hk).1, nI_1, mxL_s]
      show (if r k ≤ mxL r k then _ else _) = _
      split <;> rfl) F (by omega)
  refine ⟨mxL r (pT p), hl, ?_⟩
  have hz : ∀ s k, pT p ≤ s → bt (itP p k) s = false := fun s k hs => by
    cases g : bt (itP p k) s
    · rfl
    · have := (itH_okv hw (s0P_okv hw) k s g).1; omega
  rcases mxL_ok (N := pT p) (fun s hs => (hr1 s hs).2) (pT p) (Nat.le_refl _) with ⟨k, h1, ⟨s, h2, h3⟩, h4, h5⟩ | ⟨h1, h2⟩
  · refine Or.inl ⟨k, h1, ⟨s, by omega, h3⟩, fun t j hl => ?_, h5⟩
    by_cases c : t < pT p
    · exact h4 t j c hl
    · have := hz t j (by omega); rw [hl.1] at this; cases this
  · refine Or.inr ⟨fun t k => ?_, h2⟩
    by_cases c : t < pT p
    · exact h1 t k c
    · exact hz t k (by omega)
end AP
theorem op_all : Op_all FU Rel := by
  intro σ τ a1 hR
  have hR0 := hR
  obtain ⟨p, hw, h, h', hz, hz', hs, hs'⟩ := hR
  have hF : 64 < FU := by decide
  unfold f_E_all f_M_all
  rcases rg a1 13 (by omega) with ⟨x, hx, rfl⟩ | ho
  · obtain ⟨σ', τ', e1, e2, hS⟩ := both hw h h' hz hz' hs hs'
    have b1 : f_E_isBelow (nI x) 13 = some 1 := v_below_in (n := 13) hx (by omega)
    rw [b1, v_isIn_inC (n := 13) (by decide) hx (by omega), e1, e2]
    obtain ⟨gv, eg, hgv⟩ := m_greatest hS hF
    have egl := GL_u hS.gl hgv
    rcases (show x = 0 ∨ x = 1 ∨ x = 2 ∨ x = 3 ∨ x = 4 ∨ x = 5 ∨ x = 6 ∨ x = 7 ∨ x = 8 ∨ x = 9 ∨ x = 10 ∨ x = 11 ∨ x = 12 by omega) with rfl | rfl | rfl | rfl | rfl | rfl | rfl | rfl | rfl | rfl | rfl | rfl | rfl
    · exact ⟨(σ' 1 0, σ'), (τ' 0 0, τ'), rfl, rfl, by rw [hS.ae.1, hS.am.1], hS.rel⟩
    · exact ⟨(σ' 1 1, σ'), (τ' 0 1, τ'), rfl, rfl, by rw [hS.ae.2.1, hS.am.2.1], hS.rel⟩
    · exact ⟨(σ' 1 2, σ'), (τ' 0 2, τ'), rfl, rfl, by rw [hS.ae.2.2.1, hS.am.2.2.1], hS.rel⟩
    · exact ⟨(σ' 2 7, σ'), (τ' 0 12, τ'), rfl, rfl, by rw [hS.lv.1, hS.lv.2], hS.rel⟩
    · refine ⟨(mdB p (liveP p), σ'), (siK p 4, τ'), ?_, ?_, (siK_4 hw).symm, hS.rel⟩
      · show Option.bind (f_P_madeBy FU σ' (σ' 2 7)) _ = _
        rw [hS.lv.1, e_madeBy hS.ae hw hF]; rfl
      · show Option.bind (f_M_sitesOf FU τ' (nI 4)) _ = _
        rw [m_sitesOf hS hF (by omega)]; rfl
    · refine ⟨(itP p 16, σ'), (siK p 5, τ'), ?_, ?_, (siK_5 hw).symm, hS.rel⟩
      · show some (σ' 2 8, σ') = _
        rw [hS.shd]
      · show Option.bind (f_M_sitesOf FU τ' (nI 5)) _ = _
        rw [m_sitesOf hS hF (by omega)]; rfl
    · refine ⟨(otN p 8, σ'), (siK p 6, τ'), ?_, ?_, (siK_6 hw).symm, hS.rel⟩
      · show Option.bind (f_X_outSites FU σ') _ = _
        rw [e_outSites hS hF]; rfl
      · show Option.bind (f_M_sitesOf FU τ' (nI 6)) _ = _
        rw [m_sitesOf hS hF (by omega)]; rfl
    · refine ⟨(siK p 7, σ'), (siK p 7, τ'), ?_, ?_, rfl, hS.rel⟩
      · show Option.bind (f_X_ownedSites FU σ') _ = _
        rw [e_ownedSites hS hF]; rfl
      · show Option.bind (f_M_sitesOf FU τ' (nI 7)) _ = _
        rw [m_sitesOf hS hF (by omega)]; rfl
    · refine ⟨(siK p 8, σ'), (siK p 8, τ'), ?_, ?_, rfl, hS.rel⟩
      · show Option.bind (f_X_fixedSites FU σ') _ = _
        rw [e_fixedSites hS hF]; rfl
      · show Option.bind (f_M_sitesOf FU τ' (nI 8)) _ = _
        rw [m_sitesOf hS hF (by omega)]; rfl
    · refine ⟨(meK p 1, σ'), (meK p 1, τ'), ?_, ?_, rfl, hS.rel⟩
      · show Option.bind (f_X_pureMethods FU σ') _ = _
        rw [e_pureMethods hS hF]; rfl
      · show Option.bind (f_M_methodsOf FU τ' (nI 1)) _ = _
        rw [m_methodsOf hS hF (Or.inr rfl)]; rfl
    · refine ⟨(meK p 0, σ'), (meK p 0, τ'), ?_, ?_, rfl, hS.rel⟩
      · show Option.bind (f_X_freshMethods FU σ') _ = _
        rw [e_freshMethods hS hF]; rfl
      · show Option.bind (f_M_methodsOf FU τ' (nI 0)) _ = _
        rw [m_methodsOf hS hF (Or.inl rfl)]; rfl
    · refine ⟨(nI (cnt (fun s => decide (pkd p s = 10) && idl p s) (pS p)), σ'), (nI (cnt (fun s => decide (pkd p s = 10) && idl p s) (pS p)), τ'), ?_, ?_, rfl, hS.rel⟩
      · show Option.bind (f_X_countIdle FU σ') _ = _
        rw [e_countIdle hS hF]; rfl
      · show Option.bind (f_M_all_L122 FU τ' FU (nI 0) (nI 0)) _ = _
        rw [m_countIdle hS hF]; rfl
    · refine ⟨(σ' 2 9, σ'), (gv, τ'), rfl, ?_, egl, hS.rel⟩
      show Option.bind (f_M_all_L177 FU τ' FU (-1) (nI 0)) _ = _
      rw [eg]; rfl
  · have b1 : f_E_isBelow a1 13 = some 0 := v_below_out (n := 13) ho
    rw [b1, v_isIn_outC (n := 13) (by decide) (by omega) ho]
    exact ⟨(-2, σ), (-2, τ), rfl, rfl, rfl, hR0⟩
