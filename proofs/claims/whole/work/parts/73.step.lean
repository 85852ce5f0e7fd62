/-! step and call, whole. -/
def gdA (k i : Nat) (v : Int32) : Prop := limN 0 k i = 0 ∨ ∃ j, j < limN 0 k i ∧ v = nI j
def bdA (k i : Nat) (v : Int32) : Prop := ¬ limN 0 k i = 0 ∧ (v < 0 ∨ nI (limN 0 k i) ≤ v)
theorem lim_le : ∀ k, k < 11 → ∀ i, i < 3 → limN 0 k i ≤ 9 := by decide +kernel
theorem gbA {k i : Nat} (hk : k < 11) (hi : i < 3) (v : Int32) : gdA k i v ∨ bdA k i v := by
  by_cases c : limN 0 k i = 0
  · exact Or.inl (Or.inl c)
  · have := lim_le k hk i hi
    rcases rg v (limN 0 k i) (by omega) with h | h
    · exact Or.inl (Or.inr h)
    · exact Or.inr ⟨c, h⟩
theorem lim_tab : ∀ k, k < 11 → ¬ k = 6 → ∀ i, i < 3 → limV (3 * k + i) = nI (limN 0 k i) := by decide +kernel
theorem lim_nds : ∀ k, k < 11 → ¬ k = 6 → ∀ i, i < 3 → (limN 0 k i = 0 ↔ nds k ≤ i) := by decide +kernel
theorem nds_3 : ∀ k, k < 11 → ¬ k = 6 → 1 ≤ nds k ∧ nds k ≤ 3 := by decide +kernel
theorem limN_M {M k i : Nat} (h : ¬ k = 6) : limN M k i = limN 0 k i := by
  unfold limN
  rw [if_neg h, if_neg h]
theorem e_limitOf {k i : Nat} (hk : k < 11) (h6 : ¬ k = 6) (hi : i < 3) : f_E_limitOf (nI k) (nI i) = some (nI (limN 0 k i)) := by
  unfold f_E_limitOf
  have e3 : nI k * 3 = nI (3 * k) := by rw [Nat.mul_comm]; exact pk_mul k 3
  rw [e3, nI_add, v_at (by omega) (by omega), lim_tab k hk h6 i hi]
  rfl
theorem nI_z {n : Nat} (h : n < 100) : (nI n = 0) ↔ n = 0 := nI_eq (b := 0) (by omega) (by omega)
theorem e_fits_g {k i : Nat} {v : Int32} (hk : k < 11) (h6 : ¬ k = 6) (hi : i < 3) (h : gdA k i v) : f_E_fits (nI k) (nI i) v = some 1 := by
  have hl := lim_le k hk i hi
  unfold f_E_fits
  rw [e_limitOf hk h6 hi]
  show (if nI (limN 0 k i) = 0 then some (1 : Int32) else Option.bind (f_E_isBelow v (nI (limN 0 k i))) _) = _
  by_cases c : limN 0 k i = 0
  · rw [if_pos ((nI_z (by omega)).mpr c)]
  · rw [if_neg (fun z => c ((nI_z (by omega)).mp z))]
    obtain ⟨j, hj, rfl⟩ := h.resolve_left c
    rw [v_below_in hj (by omega)]
    rfl
theorem e_fits_b {k i : Nat} {v : Int32} (hk : k < 11) (h6 : ¬ k = 6) (hi : i < 3) (h : bdA k i v) : f_E_fits (nI k) (nI i) v = some 0 := by
  have hl := lim_le k hk i hi
  unfold f_E_fits
  rw [e_limitOf hk h6 hi]
  show (if nI (limN 0 k i) = 0 then some (1 : Int32) else Option.bind (f_E_isBelow v (nI (limN 0 k i))) _) = _
  rw [if_neg (fun z => h.1 ((nI_z (by omega)).mp z)), v_below_out h.2]
  rfl
theorem e_needed {k i : Nat} {v : Int32} (hk : k < 11) (h6 : ¬ k = 6) (hi : i < 3) : f_E_needed (nI k) (nI i) v = some (if limN 0 k i = 0 then -1 else v) := by
  have hl := lim_le k hk i hi
  unfold f_E_needed
  rw [e_limitOf hk h6 hi]
  show (if nI (limN 0 k i) = 0 then some (-1 : Int32) else some v) = _
  by_cases c : limN 0 k i = 0
  · rw [if_pos ((nI_z (by omega)).mpr c), if_pos c]
  · rw [if_neg (fun z => c ((nI_z (by omega)).mp z)), if_neg c]
/-- the reference's test of a need: a NAME, or below four -/
theorem m_isNeed {k i : Nat} (hk : k < 11) (h6 : ¬ k = 6) (hi : i < nds k) (v : Int32) : (limN 0 k i = 8 ∧ f_M_isNeed (nI k) (nI i) v = Option.bind (f_M_isName v) (fun u => if u = 0 ∨ u = 1 then some u else none)) ∨ (limN 0 k i = 4 ∧ f_M_isNeed (nI k) (nI i) v = Option.bind (f_M_isIn v 0 3) (fun u => if u = 0 ∨ u = 1 then some u else none)) := by
  have h3 := nds_3 k hk h6
  rcases (show k = 0 ∨ k = 1 ∨ k = 2 ∨ k = 3 ∨ k = 4 ∨ k = 5 ∨ k = 7 ∨ k = 8 ∨ k = 9 ∨ k = 10 by omega) with rfl | rfl | rfl | rfl | rfl | rfl | rfl | rfl | rfl | rfl
  · have : i < 1 := hi
    rcases (show i = 0 by omega) with rfl
    exact Or.inl ⟨rfl, rfl⟩
  · have : i < 2 := hi
    rcases (show i = 0 ∨ i = 1 by omega) with rfl | rfl
    · exact Or.inl ⟨rfl, rfl⟩
    · exact Or.inl ⟨rfl, rfl⟩
  · have : i < 3 := hi
    rcases (show i = 0 ∨ i = 1 ∨ i = 2 by omega) with rfl | rfl | rfl
    · exact Or.inl ⟨rfl, rfl⟩
    · exact Or.inl ⟨rfl, rfl⟩
    · exact Or.inr ⟨rfl, rfl⟩
  · have : i < 3 := hi
    rcases (show i = 0 ∨ i = 1 ∨ i = 2 by omega) with rfl | rfl | rfl
    · exact Or.inl ⟨rfl, rfl⟩
    · exact Or.inr ⟨rfl, rfl⟩
    · exact Or.inl ⟨rfl, rfl⟩
  · have : i < 2 := hi
    rcases (show i = 0 ∨ i = 1 by omega) with rfl | rfl
    · exact Or.inl ⟨rfl, rfl⟩
    · exact Or.inr ⟨rfl, rfl⟩
  · have : i < 2 := hi
    rcases (show i = 0 ∨ i = 1 by omega) with rfl | rfl
    · exact Or.inr ⟨rfl, rfl⟩
    · exact Or.inl ⟨rfl, rfl⟩
  · have : i < 1 := hi
    rcases (show i = 0 by omega) with rfl
    exact Or.inl ⟨rfl, rfl⟩
  · have : i < 1 := hi
    rcases (show i = 0 by omega) with rfl
    exact Or.inl ⟨rfl, rfl⟩
  · have : i < 1 := hi
    rcases (show i = 0 by omega) with rfl
    exact Or.inl ⟨rfl, rfl⟩
  · have : i < 1 := hi
    rcases (show i = 0 by omega) with rfl
    exact Or.inl ⟨rfl, rfl⟩
theorem m_need_g {k i : Nat} {v : Int32} (hk : k < 11) (h6 : ¬ k = 6) (hi : i < nds k) (h : gdA k i v) : f_M_isNeed (nI k) (nI i) v = some 1 := by
  rcases m_isNeed hk h6 hi v with ⟨e, q⟩ | ⟨e, q⟩
  · obtain ⟨j, hj, rfl⟩ := h.resolve_left (by omega)
    rw [q, v_isName_in (by omega)]
    rfl
  · obtain ⟨j, hj, rfl⟩ := h.resolve_left (by omega)
    rw [q, v_isIn_inC (n := 4) (by decide) (by omega) (by omega)]
    rfl
theorem m_need_b {k i : Nat} {v : Int32} (hk : k < 11) (h6 : ¬ k = 6) (hi : i < nds k) (h : bdA k i v) : f_M_isNeed (nI k) (nI i) v = some 0 := by
  have h2 := h.2
  rcases m_isNeed hk h6 hi v with ⟨e, q⟩ | ⟨e, q⟩
  · rw [e] at h2
    rw [q, v_isName_out h2]
    rfl
  · rw [e] at h2
    rw [q, v_isIn_outC (n := 4) (by decide) (by omega) h2]
    rfl
theorem e_room {σ : St} {p : PG} (h : AE σ p) (hw : WF p) {k : Nat} (hk : k < 11) : f_P_hasRoomFor σ (nI k) = some (if pS p < 64 ∧ (k = 0 → pT p < 16) then 1 else 0) := by
  have hS := hw.2.2.1
  have hT := hw.2.2.2.1
  unfold f_P_hasRoomFor
  rw [h.2.1, h.2.2.1]
  by_cases c : pS p < 64
  · rw [if_neg (lt_64 c)]
    by_cases d : k = 0
    · rw [if_pos ((nI_z (by omega)).mpr d)]
      by_cases e : pT p < 16
      · rw [if_neg (lt_16 e), if_pos ⟨c, fun _ => e⟩]
      · rw [show pT p = 16 by omega, if_pos le_16, if_neg (fun z => absurd (z.2 d) (by omega))]
    · rw [if_neg (fun z => d ((nI_z (by omega)).mp z)), if_pos ⟨c, fun z => absurd z d⟩]
  · rw [show pS p = 64 by omega, if_pos le_64, if_neg (fun z => by have := z.1; omega)]
def n3 (a b c : Int32) (i : Nat) : Int32 := if i = 0 then a else if i = 1 then b else c
theorem op_step : Op_step FU Rel := by
  intro σ τ a1 a2 a3 a4 a5 hR
  have hR0 := hR
  obtain ⟨p, hw, h, h', hz, hz', hs, hs'⟩ := hR
  have hM := hw.2.1
  have hS64 := hw.2.2.1
  have hT16 := hw.2.2.2.1
  have bad : ∀ {x : Option (Int32 × St)} {y : Option (Int32 × St)}, x = some (-2, σ) → y = some (-2, τ) → ∃ u v : Int32 × St, x = some u ∧ y = some v ∧ u.1 = v.1 ∧ Rel u.2 v.2 := fun hx hy => ⟨_, _, hx, hy, rfl, hR0⟩
  rcases rg a1 (pM p) (by omega) with ⟨m, hm, rfl⟩ | ho
  · rcases rg a2 11 (by omega) with ⟨k, hk, rfl⟩ | ho
    · have b1 : f_E_isBelow (nI k) 11 = some 1 := v_below_in (n := 11) hk (by omega)
      have b2 : f_M_isIn (nI k) 0 10 = some 1 := v_isIn_inC (n := 11) (by decide) hk (by omega)
      by_cases h6 : k = 6
      · apply bad
        · unfold f_E_step
          rw [e_isM_in h hw hm]
          show Option.bind (f_E_isBelow (nI k) 11) _ = _
          rw [b1, h6]
          rfl
        · rw [stM_eq, m_isM_in h' hw hm]
          show Option.bind (f_M_isIn (nI k) 0 10) _ = _
          rw [b2, h6]
          rfl
      · have k6 : ¬ nI k = 6 := fun e => h6 ((nI_eq (b := 6) (by omega) (by omega)).mp e)
        -- up to the needs
        have hE : ∀ z, Option.bind (f_E_fits (nI k) (nI 0) a3) (fun u29 => if u29 = 0 then (some ((-2 : Int32), σ)) else (Option.bind (f_E_fits (nI k) (nI 1) a4) (fun u39 => if u39 = 0 then (some ((-2 : Int32), σ)) else (Option.bind (f_E_fits (nI k) (nI 2) a5) (fun u49 => if u49 = 0 then (some ((-2 : Int32), σ)) else (Option.bind (f_P_hasRoomFor σ (nI k)) (fun u63 => if u63 = 0 then (some ((-3 : Int32), σ)) else (Option.bind (f_S_forget σ) (fun u76 => Option.bind (f_P_addStep FU u76 (nI m) (nI k)) (fun u85 => Option.bind (f_E_needed (nI k) (nI 0) a3) (fun u100 => Option.bind (f_P_setNeed u85.2 u85.1 (nI 0) u100) (fun u103 => Option.bind (f_E_needed (nI k) (nI 1) a4) (fun u117 => Option.bind (f_P_setNeed u103 u85.1 (nI 1) u117) (fun u120 => Option.bind (f_E_needed (nI k) (nI 2) a5) (fun u134 => Option.bind (f_P_setNeed u120 u85.1 (nI 2) u134) (fun u137 => some (u85.1, u137))))))))))))))))) = z → f_E_step FU σ (nI m) (nI k) a3 a4 a5 = z := by
          intro z hz
          unfold f_E_step
          rw [e_isM_in h hw hm]
          show Option.bind (f_E_isBelow (nI k) 11) _ = _
          rw [b1]
          show (if nI k = 6 then _ else _) = _
          rw [if_neg k6]
          exact hz
        have hMm : ∀ z, Option.bind (f_M_isNeed (nI k) (nI 0) a3) (fun u36 => if u36 = 0 then (some ((-2 : Int32), τ)) else (if nI (nds k) ≤ (1 : Int32) then (if nI (nds k) ≤ (2 : Int32) then (stRest τ (nI m) (nI k) a3 a4 a5) else (Option.bind (f_M_isNeed (nI k) (nI 2) a5) (fun u68 => if u68 = 0 then (some ((-2 : Int32), τ)) else (stRest τ (nI m) (nI k) a3 a4 a5)))) else (Option.bind (f_M_isNeed (nI k) (nI 1) a4) (fun u52 => if u52 = 0 then (some ((-2 : Int32), τ)) else (if nI (nds k) ≤ (2 : Int32) then (stRest τ (nI m) (nI k) a3 a4 a5) else (Option.bind (f_M_isNeed (nI k) (nI 2) a5) (fun u68 => if u68 = 0 then (some ((-2 : Int32), τ)) else (stRest τ (nI m) (nI k) a3 a4 a5)))))))) = z → f_M_step τ (nI m) (nI k) a3 a4 a5 = z := by
          intro z hz
          rw [stM_eq, m_isM_in h' hw hm]
          show Option.bind (f_M_isIn (nI k) 0 10) _ = _
          rw [b2]
          show (if nI k = 6 then _ else _) = _
          rw [if_neg k6, v_needs k (by omega)]
          exact hz
        obtain ⟨g1, g3⟩ := nds_3 k hk h6
        have le1 : nI (nds k) ≤ (1 : Int32) ↔ nds k ≤ 1 := nI_leI (b := 1) (by omega) (by omega)
        have le2 : nI (nds k) ≤ (2 : Int32) ↔ nds k ≤ 2 := nI_leI (b := 2) (by omega) (by omega)
        have z1 := lim_nds k hk h6 1 (by omega)
        have z2 := lim_nds k hk h6 2 (by omega)
        rcases gbA hk (show 0 < 3 by omega) a3 with q0 | q0
        · rcases gbA hk (show 1 < 3 by omega) a4 with q1 | q1
          · rcases gbA hk (show 2 < 3 by omega) a5 with q2 | q2
            · -- all needs are right
              have hM2 : f_M_step τ (nI m) (nI k) a3 a4 a5 = stRest τ (nI m) (nI k) a3 a4 a5 := by
                apply hMm
                rw [m_need_g hk h6 (by omega) q0]
                show (if nI (nds k) ≤ (1 : Int32) then _ else _) = _
                by_cases c1 : nds k ≤ 1
                · rw [if_pos (le1.mpr c1), if_pos (le2.mpr (by omega))]
                · rw [if_neg (fun z => c1 (le1.mp z)), m_need_g hk h6 (by omega) q1]
                  show (if nI (nds k) ≤ (2 : Int32) then _ else _) = _
                  by_cases c2 : nds k ≤ 2
                  · rw [if_pos (le2.mpr c2)]
                  · rw [if_neg (fun z => c2 (le2.mp z)), m_need_g hk h6 (by omega) q2]
                    rfl
              have nM : nI (pS p) = 64 ↔ pS p = 64 := nI_eq (b := 64) (by omega) (by omega)
              have nT : nI (pT p) = 16 ↔ pT p = 16 := nI_eq (b := 16) (by omega) (by omega)
              by_cases room : pS p < 64 ∧ (k = 0 → pT p < 16)
              · -- the class
                have hA2 : AE (su σ 2 10 0) p := AE_su h (by omega)
                obtain ⟨σ1, w1, w10, w11, w12, w5, w6, w7, w8, w8', w9, wn⟩ := e_addStep (m := m) (F := FU) hA2 room.1 room.2 (show k ≤ 10 by omega) (by decide)
                generalize hv : (fun i => if limN 0 k i = 0 then (-1 : Int32) else n3 a3 a4 a5 i) = v
                have v0 : (if limN 0 k 0 = 0 then (-1 : Int32) else a3) = v 0 := by rw [← hv]; rfl
                have v1 : (if limN 0 k 1 = 0 then (-1 : Int32) else a4) = v 1 := by rw [← hv]; rfl
                have v2 : (if limN 0 k 2 = 0 then (-1 : Int32) else a5) = v 2 := by rw [← hv]; rfl
                generalize hσ2 : sr σ1 8 (upd (upd (upd (σ1 8) (5 * pS p + 0) (v 0)) (5 * pS p + 1) (v 1)) (5 * pS p + 2) (v 2)) = σ2
                have e1 : f_E_step FU σ (nI m) (nI k) a3 a4 a5 = some (nI (pS p), σ2) := by
                  apply hE
                  rw [e_fits_g hk h6 (by omega) q0]
                  show Option.bind (f_E_fits (nI k) (nI 1) a4) _ = _
                  rw [e_fits_g hk h6 (by omega) q1]
                  show Option.bind (f_E_fits (nI k) (nI 2) a5) _ = _
                  rw [e_fits_g hk h6 (by omega) q2]
                  show Option.bind (f_P_hasRoomFor σ (nI k)) _ = _
                  rw [e_room h hw hk, if_pos room]
                  show Option.bind (f_P_addStep FU (su σ 2 10 0) (nI m) (nI k)) _ = _
                  rw [w1]
                  show Option.bind (f_E_needed (nI k) (nI 0) a3) _ = _
                  rw [e_needed hk h6 (by omega), v0]
                  show Option.bind (f_P_setNeed σ1 (nI (pS p)) (nI 0) (v 0)) _ = _
                  rw [e_setNeed room.1 (by omega)]
                  show Option.bind (f_E_needed (nI k) (nI 1) a4) _ = _
                  rw [e_needed hk h6 (by omega), v1]
                  show Option.bind (f_P_setNeed (sr σ1 8 _) (nI (pS p)) (nI 1) (v 1)) _ = _
                  rw [e_setNeed room.1 (by omega), sr_s, sr_sr]
                  show Option.bind (f_E_needed (nI k) (nI 2) a5) _ = _
                  rw [e_needed hk h6 (by omega), v2]
                  show Option.bind (f_P_setNeed (sr σ1 8 _) (nI (pS p)) (nI 2) (v 2)) _ = _
                  rw [e_setNeed room.1 (by omega), sr_s, sr_sr, hσ2]
                  rfl
                have m2 : ∀ r, r ≠ 8 → σ2 r = σ1 r := fun r hr => by rw [← hσ2, sr_n hr]
                -- the reference
                generalize hτ1 : sr τ 4 (upd (upd (upd (τ 4) (5 * pS p) a3) (5 * pS p + 1) a4) (5 * pS p + 2) a5) = τ1
                have t0 : τ1 0 = τ 0 := by rw [← hτ1, sr_n (by omega)]
                have tn : ∀ r, r ≠ 4 → τ1 r = τ r := fun r hr => by rw [← hτ1, sr_n hr]
                have t4 : τ1 4 = upd (upd (upd (τ 4) (5 * pS p) a3) (5 * pS p + 1) a4) (5 * pS p + 2) a5 := by rw [← hτ1, sr_s]
                obtain ⟨τ2, x1, x10, x11, x12, x13, x5, x6, x7, x9, xn⟩ := m_add (τ := τ1) (S := pS p) (T := pT p) (m := m) (k := k) (by rw [t0]; exact h'.2.1) (by rw [t0]; exact h'.2.2.1) room.1 room.2 (by omega)
                have e2 : f_M_step τ (nI m) (nI k) a3 a4 a5 = some (nI (pS p), τ2) := by
                  rw [hM2]
                  have wr : stWr τ (nI m) (nI k) a3 a4 a5 = some (nI (pS p), τ2) := by
                    have i5 : ¬ (nI (5 * pS p) < 0 ∨ 320 ≤ 5 * pS p) := fun z => z.elim (ix_n (by omega)) (by omega)
                    have i51 : ¬ (nI (5 * pS p + 1) < 0 ∨ 320 ≤ 5 * pS p + 1) := fun z => z.elim (ix_n (by omega)) (by omega)
                    have i52 : ¬ (nI (5 * pS p + 2) < 0 ∨ 320 ≤ 5 * pS p + 2) := fun z => z.elim (ix_n (by omega)) (by omega)
                    have c5 : (nI (5 * pS p)).toNatClampNeg = 5 * pS p := ix_c (by omega)
                    have c51 : (nI (5 * pS p + 1)).toNatClampNeg = 5 * pS p + 1 := ix_c (by omega)
                    have c52 : (nI (5 * pS p + 2)).toNatClampNeg = 5 * pS p + 2 := ix_c (by omega)
                    unfold stWr
                    simp only [lett, sr_n (show (0 : Nat) ≠ 4 by omega), sr_s, h'.2.1, n5_I, nI_1, nI_p2, c5, c51, c52, if_pos i5, if_pos i51, if_pos i52, sr_sr]
                    rw [hτ1, x1]
                    rfl
                  unfold stRest
                  rw [h'.2.1, h'.2.2.1, if_neg (fun z => by have := nM.mp z; omega)]
                  by_cases c : k = 0
                  · rw [if_pos ((nI_z (by omega)).mpr c), if_neg (fun z => by have := nT.mp z; have := room.2 c; omega)]
                    exact wr
                  · rw [if_neg (fun z => c ((nI_z (by omega)).mp z))]
                    exact wr
                generalize hnv : (fun i => (n3 a3 a4 a5 i).toNatClampNeg) = nv
                have good : ∀ i, i < nds k → nv i < limN 0 k i ∧ n3 a3 a4 a5 i = ndI k i (nv i) := by
                  intro i hi
                  have gi : gdA k i (n3 a3 a4 a5 i) := by
                    rcases (show i = 0 ∨ i = 1 ∨ i = 2 by omega) with rfl | rfl | rfl
                    · exact q0
                    · exact q1
                    · exact q2
                  have hz := lim_nds k hk h6 i (by omega)
                  obtain ⟨j, hj, e⟩ := gi.resolve_left (fun z => by have := hz.mp z; omega)
                  have hlim := lim_le k hk i (by omega)
                  have ej : nv i = j := by
                    rw [← hnv]
                    show (n3 a3 a4 a5 i).toNatClampNeg = j
                    rw [e, ix_c (by omega)]
                  rw [ej, ndI_o h6]
                  exact ⟨hj, e⟩
                have hw2 : WF (addP p m k nv) := WF_add hw hm (by omega) room.1 room.2 (fun i hi => by rw [limN_M h6]; exact (good i hi).1)
                have hAE : AE σ2 (addP p m k nv) := by
                  refine AE_add h hw ?_ ?_ ?_ ?_ ?_ ?_ ?_ ?_ ?_
                  · rw [m2 1 (by omega), w10, su_n (by omega)]; exact h.1
                  · rw [m2 1 (by omega), w11]
                  · rw [m2 1 (by omega), w12]
                  · rw [m2 5 (by omega), w5, su_n (by omega)]
                  · rw [m2 6 (by omega), w6, su_n (by omega)]
                  · rw [m2 7 (by omega), w7, su_n (by omega)]
                  · intro j hj
                    rw [← hσ2, sr_s, pk_un (by omega), pk_un (by omega), pk_un (by omega), w8 j hj, su_n (by omega)]
                  · intro i hi
                    rw [← hσ2, sr_s]
                    have vi : ∀ i, i < 3 → v i = if i < nds k then ndI k i (nv i) else -1 := by
                      intro i hi
                      have hz := lim_nds k hk h6 i hi
                      rw [← hv]
                      show (if limN 0 k i = 0 then (-1 : Int32) else n3 a3 a4 a5 i) = _
                      by_cases c : nds k ≤ i
                      · rw [if_pos (hz.mpr c), if_neg (by omega)]
                      · rw [if_neg (fun z => c (hz.mp z)), if_pos (by omega)]
                        exact (good i (by omega)).2
                    rcases (show i = 0 ∨ i = 1 ∨ i = 2 ∨ i = 3 ∨ i = 4 by omega) with rfl | rfl | rfl | rfl | rfl
                    · rw [pk_un (by omega), pk_un (by omega), pk_us]; exact vi 0 (by omega)
                    · rw [pk_un (by omega), pk_us]; exact vi 1 (by omega)
                    · rw [pk_us]; exact vi 2 (by omega)
                    · rw [pk_un (by omega), pk_un (by omega), pk_un (by omega), w8' 3 (by omega), if_neg (by omega)]
                    · rw [pk_un (by omega), pk_un (by omega), pk_un (by omega), w8' 4 (by omega), if_neg (by omega)]
                  · rw [m2 9 (by omega), w9, su_n (by omega)]
                have hAM : AM τ2 (addP p m k nv) := by
                  refine AM_add h' hw ?_ x11 x12 ?_ ?_ ?_ ?_ ?_ ?_
                  · rw [x10, t0]; exact h'.1
                  · rw [x5, tn 1 (by omega)]
                  · rw [x6, tn 2 (by omega)]
                  · rw [x7, tn 3 (by omega)]
                  · intro j hj
                    rw [xn 4 (by omega), t4, pk_un (by omega), pk_un (by omega), pk_un (by omega)]
                  · intro i hi
                    rw [xn 4 (by omega), t4, ← (good i hi).2]
                    rcases (show i = 0 ∨ i = 1 ∨ i = 2 by omega) with rfl | rfl | rfl
                    · rw [pk_un (by omega), pk_un (by omega)]; exact pk_us
                    · rw [pk_un (by omega)]; exact pk_us
                    · exact pk_us
                  · rw [x9, tn 5 (by omega)]
                have hzE : ZE σ2 := hz.same (by rw [m2 10 (by omega), wn 10 (by omega) (by omega), su_n (by omega)]) (by rw [m2 11 (by omega), wn 11 (by omega) (by omega), su_n (by omega)]) (by rw [m2 12 (by omega), wn 12 (by omega) (by omega), su_n (by omega)]) (by rw [m2 13 (by omega), wn 13 (by omega) (by omega), su_n (by omega)]) (by rw [m2 14 (by omega), wn 14 (by omega) (by omega), su_n (by omega)])
                have hzM : ZM τ2 := hz'.same (by rw [xn 6 (by omega), tn 6 (by omega)]) (by rw [xn 7 (by omega), tn 7 (by omega)]) (by rw [xn 8 (by omega), tn 8 (by omega)]) (by rw [xn 9 (by omega), tn 9 (by omega)])
                have h210 : σ2 2 10 = 0 := by rw [m2 2 (by omega), wn 2 (by omega) (by omega), su_s]
                exact ⟨(nI (pS p), σ2), (nI (pS p), τ2), e1, e2, rfl, addP p m k nv, hw2, hAE, hAM, hzE, hzM, Or.inl h210, Or.inl x13⟩
              · refine ⟨(-3, σ), (-3, τ), ?_, ?_, rfl, hR0⟩
                · apply hE
                  rw [e_fits_g hk h6 (by omega) q0]
                  show Option.bind (f_E_fits (nI k) (nI 1) a4) _ = _
                  rw [e_fits_g hk h6 (by omega) q1]
                  show Option.bind (f_E_fits (nI k) (nI 2) a5) _ = _
                  rw [e_fits_g hk h6 (by omega) q2]
                  show Option.bind (f_P_hasRoomFor σ (nI k)) _ = _
                  rw [e_room h hw hk, if_neg room]
                  rfl
                · rw [hM2]
                  unfold stRest
                  rw [h'.2.1, h'.2.2.1]
                  by_cases c : pS p = 64
                  · rw [if_pos (nM.mpr c)]
                  · have hk0 : k = 0 := Classical.byContradiction (fun z => room ⟨by omega, fun y => absurd y z⟩)
                    have hT0 : pT p = 16 := Classical.byContradiction (fun z => room ⟨by omega, fun _ => by omega⟩)
                    rw [if_neg (fun z => c (nM.mp z)), if_pos ((nI_z (by omega)).mpr hk0), if_pos (nT.mpr hT0)]
            · have hn2 : 2 < nds k := Nat.not_le.mp (fun z => q2.1 (z2.mpr z))
              apply bad
              · apply hE
                rw [e_fits_g hk h6 (by omega) q0]
                show Option.bind (f_E_fits (nI k) (nI 1) a4) _ = _
                rw [e_fits_g hk h6 (by omega) q1]
                show Option.bind (f_E_fits (nI k) (nI 2) a5) _ = _
                rw [e_fits_b hk h6 (by omega) q2]
                rfl
              · apply hMm
                rw [m_need_g hk h6 (by omega) q0]
                show (if nI (nds k) ≤ (1 : Int32) then _ else _) = _
                rw [if_neg (fun z => by have := le1.mp z; omega), m_need_g hk h6 (by omega) q1]
                show (if nI (nds k) ≤ (2 : Int32) then _ else _) = _
                rw [if_neg (fun z => by have := le2.mp z; omega), m_need_b hk h6 (by omega) q2]
                rfl
          · have hn1 : 1 < nds k := Nat.not_le.mp (fun z => q1.1 (z1.mpr z))
            apply bad
            · apply hE
              rw [e_fits_g hk h6 (by omega) q0]
              show Option.bind (f_E_fits (nI k) (nI 1) a4) _ = _
              rw [e_fits_b hk h6 (by omega) q1]
              rfl
            · apply hMm
              rw [m_need_g hk h6 (by omega) q0]
              show (if nI (nds k) ≤ (1 : Int32) then _ else _) = _
              rw [if_neg (fun z => by have := le1.mp z; omega), m_need_b hk h6 (by omega) q1]
              rfl
        · apply bad
          · apply hE
            rw [e_fits_b hk h6 (by omega) q0]
            rfl
          · apply hMm
            rw [m_need_b hk h6 (by omega) q0]
            rfl
    · have b1 : f_E_isBelow a2 11 = some 0 := v_below_out (n := 11) ho
      have b2 : f_M_isIn a2 0 10 = some 0 := v_isIn_outC (n := 11) (by decide) (by omega) ho
      apply bad
      · unfold f_E_step
        rw [e_isM_in h hw hm]
        show Option.bind (f_E_isBelow a2 11) _ = _
        rw [b1]
        rfl
      · rw [stM_eq, m_isM_in h' hw hm]
        show Option.bind (f_M_isIn a2 0 10) _ = _
        rw [b2]
        rfl
  · apply bad
    · unfold f_E_step
      rw [e_isM_out h ho]
      rfl
    · rw [stM_eq, m_isM_out h' hw ho]
      rfl
