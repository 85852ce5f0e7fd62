/-! How many NAMES are marked; parameter; all operations. -/
theorem bc8 : ∀ v, v < 256 → f_J_bitCount (nI v) = some (nI (pcn (nI v) 8)) := by decide +kernel
theorem low8 {x : Int32} (h : lowb 8 x) : ∃ v, v < 256 ∧ x = nI v := by
  have hb : ∀ i, bt x i = x.toBitVec.toNat.testBit i := fun i => rfl
  have hv : x.toBitVec.toNat < 2 ^ 8 := Nat.lt_pow_two_of_testBit _ (fun i hi => by
    rw [← hb]
    cases g : bt x i
    · rfl
    · have := h i g; omega)
  refine ⟨x.toBitVec.toNat, hv, ?_⟩
  apply Int32.toBitVec_inj.mp
  show x.toBitVec = BitVec.ofNat 32 x.toBitVec.toNat
  rw [BitVec.ofNat_toNat, BitVec.setWidth_eq]
theorem e_bitCount {x : Int32} (h : lowb 8 x) : f_J_bitCount x = some (nI (pcn x 8)) := by
  obtain ⟨v, hv, rfl⟩ := low8 h
  exact bc8 v hv
section PA
variable {p : PG} {σ τ : St}
def cnN (N : Nat → Int32) : Nat → Nat := cnt (fun k => bt (N (k / 8)) (k % 8))
theorem cnN_8 (N : Nat → Int32) (m : Nat) : cnN N (8 * m + 8) = cnN N (8 * m) + pcn (N m) 8 := by
  have : ∀ x, x ≤ 8 → cnN N (8 * m + x) = cnN N (8 * m) + pcn (N m) x := by
    intro x
    induction x with
    | zero => intro _; rfl
    | succ x ih =>
      intro hx
      show cnN N (8 * m + x) + (bt (N ((8 * m + x) / 8)) ((8 * m + x) % 8)).toNat = _
      rw [ih (by omega), pcn_s, show (8 * m + x) / 8 = m by omega, show (8 * m + x) % 8 = x by omega]
      omega
  exact this 8 (Nat.le_refl _)
theorem e_countNames (hl : lowK σ) {F : Nat} (hF : 64 < F) : f_K_countNames F σ = some (nI (cnN (σ 16) 64)) := by
  have l4 := loop2 8 (f_K_countNames_L4 F σ) (fun m => nI (cnN (σ 16) (8 * m))) (fun m => nI m) (nI (cnN (σ 16) 64), nI 8) (fun fu => by
      show f_K_countNames_B4 F σ _ _ (nI 8) = _
      unfold f_K_countNames_B4
      rw [if_pos le_8]) (fun m fu hm => by
      show f_K_countNames_B4 F σ _ (nI (cnN (σ 16) (8 * m))) (nI m) = f_K_countNames_L4 F σ fu (nI (cnN (σ 16) (8 * m + 8))) (nI (m + 1))
      unfold f_K_countNames_B4
      rw [if_neg (lt_8 hm), v_at hm (by omega), nI_1, cnN_8]
      rw [Option.bind_some, e_bitCount (hl.1 m hm), Option.bind_some, nI_add]) F (by omega)
  unfold f_K_countNames
  have e : f_K_countNames_L4 F σ F 0 0 = some (nI (cnN (σ 16) 64), nI 8) := l4
  rw [e]
  rfl
theorem m_countNames {F : Nat} (hF : 64 < F) : f_M_parameter_L94 F τ F 0 0 = some (nI (msM τ), nI 64) :=
  lpC (N := 64) (F := F) (fun k => decide (¬ τ 10 k = 0)) (f_M_parameter_L94 F τ) (fun fu y => by
      show f_M_parameter_B94 F τ _ y (nI 64) = _
      unfold f_M_parameter_B94
      rw [if_pos le_64]) (fun k fu y hk => by
      show f_M_parameter_B94 F τ _ y (nI k) = _
      unfold f_M_parameter_B94
      rw [if_neg (lt_64 hk), if_pos (ix_in hk (by omega)), ix_c (by omega), nI_1]
      by_cases c : τ 10 k = 0
      · rw [if_pos c, decide_eq_false (fun z => z c)]; rfl
      · rw [if_neg c, decide_eq_true c]; rfl) (by omega)
/-- both mark the same -/
theorem mk_eq {m x : Nat} (h : LM p m x (mkE σ)) (h' : LM p m x (mkM τ)) {k y : Nat} (hk : k < 8) (hy : y < 8) : bt (σ 16 k) y = mkb τ k y := Bool.eq_iff_iff.mpr (by
  rw [mkb_iff]
  exact LM_u h h' hk hy)
theorem cn_eq {m x : Nat} (h : LM p m x (mkE σ)) (h' : LM p m x (mkM τ)) : cnN (σ 16) 64 = msM τ := cnt_ext 64 (fun k hk => by
  show bt (σ 16 (k / 8)) (k % 8) = _
  rw [mk_eq h h' (by omega) (by omega)]
  show decide (¬ τ 10 (8 * (k / 8) + k % 8) = 0) = _
  rw [show 8 * (k / 8) + k % 8 = k by omega])
theorem kp_eq (hw : WF p) (he : AE σ p) {m x : Nat} (h : LM p m x (mkE σ)) (h' : LM p m x (mkM τ)) : nonB (kep p (fun m x => bt (σ 16 m) x)) (pS p) = nonB (kep p (mkb τ)) (pS p) := nonB_ext _ (fun s hs => by
  unfold kep
  have h9 := (e_keptName he hw hs).2
  by_cases c : knm p s = 8
  · rw [decide_eq_true c]; rfl
  · have e := mk_eq h h' (WF_step hw hs).2.1 (show knm p s < 8 by omega)
    show (bt (liveP p) (pow p s) && (!decide (knm p s = 8) && bt (σ 16 (pow p s)) (knm p s))) = _
    rw [e])
theorem gv_eq {m x : Nat} (hw : WF p) (h : LM p m x (mkE σ)) (h' : LM p m x (mkM τ)) (hg : ∀ k, k < 8 → (bt (σ 4 2) k = true ↔ gvB p (mkE σ) k)) {k : Nat} (hk : k < 8) : bt (σ 4 2) k = !nonB (gvF p τ k) (pS p) := Bool.eq_iff_iff.mpr (by
  rw [hg k hk, gvF_iff]
  have nm : ∀ s, s < pS p → pkd p s = 7 → pnv p s 0 < 8 := fun s hs h7 => by
    have := (WF_step hw hs).2.2.2.2.2
    rw [h7] at this
    exact this 0 (by decide)
  exact ⟨fun ⟨s, q1, q2, q3, q4, q5⟩ => ⟨s, q1, q2, q3, q4, (LM_u h h' hk (nm s q1 q3)).mp q5⟩, fun ⟨s, q1, q2, q3, q4, q5⟩ => ⟨s, q1, q2, q3, q4, (LM_u h h' hk (nm s q1 q3)).mpr q5⟩⟩)
end PA
theorem op_parameter : Op_parameter FU Rel := by
  intro σ τ a1 a2 a3 hR
  have hR0 := hR
  obtain ⟨p, hw, h, h', hz, hz', hs, hs'⟩ := hR
  have hM := hw.2.1
  have hF : 64 < FU := by decide
  have hF2 : 100 < FU := by decide
  unfold f_E_parameter f_M_parameter
  rcases rg a1 (pM p) (by omega) with ⟨m, hm, rfl⟩ | ho
  · rw [e_isM_in h hw hm, m_isM_in h' hw hm]
    have hm8 : m < 8 := by omega
    rcases rg a2 3 (by omega) with ⟨x, hx, rfl⟩ | ho
    · have b1 : f_E_isBelow (nI x) 3 = some 1 := v_below_in (n := 3) hx (by omega)
      have d1 : f_M_isIn (nI x) 0 2 = some 1 := v_isIn_inC (n := 3) (by decide) hx (by omega)
      rcases rg a3 3 (by omega) with ⟨w, hww, rfl⟩ | ho
      · have b2 : f_E_isBelow (nI w) 3 = some 1 := v_below_in (n := 3) hww (by omega)
        have d2 : f_M_isIn (nI w) 0 2 = some 1 := v_isIn_inC (n := 3) (by decide) hww (by omega)
        obtain ⟨σ', τ', e1, e2, hS⟩ := both hw h h' hz hz' hs hs'
        by_cases l : bt (liveP p) m = true
        · obtain ⟨σ'', f1, f2, f3, f4, f5, f6⟩ := e_spreadFrom hS.ae hw hF2 hm8 (show x < 8 by omega)
          obtain ⟨τ'', g1, g2, g3, g4⟩ := m_findMarked hS.am hw hS.lv.2 hF2 hm8 (show x < 8 by omega)
          have hae : AE σ'' p := hS.ae.same (f2 1 (by omega) (by omega)) (f2 5 (by omega) (by omega)) (f2 6 (by omega) (by omega)) (f2 7 (by omega) (by omega)) (f2 8 (by omega) (by omega)) (f2 9 (by omega) (by omega))
          have ham : AM τ'' p := hS.am.same ⟨g3 0 (by omega), g3 1 (by omega), g3 2 (by omega)⟩ (g2 1 (by omega) (by omega)) (g2 2 (by omega) (by omega)) (g2 3 (by omega) (by omega)) (g2 4 (by omega) (by omega)) (g2 5 (by omega) (by omega))
          have hS2 : SR p σ'' τ'' := by
            refine ⟨hw, hae, ham, hS.2.2.2.1.same (f2 10 (by omega) (by omega)) (f2 11 (by omega) (by omega)) (f2 12 (by omega) (by omega)) (f2 13 (by omega) (by omega)) (f2 14 (by omega) (by omega)), hS.2.2.2.2.1.same (g2 6 (by omega) (by omega)) (g2 7 (by omega) (by omega)) (g2 8 (by omega) (by omega)) (g2 9 (by omega) (by omega)), ?_, ?_⟩
            · have q := hS.2.2.2.2.2.1
              unfold SolE xE at q ⊢
              rw [f2 2 (by omega) (by omega), f2 10 (by omega) (by omega), f2 11 (by omega) (by omega), f2 12 (by omega) (by omega), f2 13 (by omega) (by omega), f2 14 (by omega) (by omega), f2 15 (by omega) (by omega)]
              exact q
            · have q := hS.2.2.2.2.2.2
              unfold SolM xM at q ⊢
              rw [g3 13 (by omega), g3 12 (by omega), g2 6 (by omega) (by omega), g2 7 (by omega) (by omega), g2 8 (by omega) (by omega), g2 9 (by omega) (by omega)]
              exact q
          have key : ∃ r, (if nI w = 0 then (Option.bind (f_K_isKept FU σ'') (fun u96 => if u96 = 0 then (some ((0 : Int32), σ'')) else (some ((1 : Int32), σ'')))) else if nI w = 1 then (Option.bind (f_E_has (σ'' 4 2) (nI m)) (fun u116 => if u116 = 0 then (some ((0 : Int32), σ'')) else (some ((1 : Int32), σ'')))) else (Option.bind (f_K_countNames FU σ'') (fun u132 => some (u132, σ'')))) = some (r, σ'') ∧ (if nI w = 0 then (Option.bind (f_M_isKept FU τ'') (fun u57 => if u57 = 0 then (some ((0 : Int32), τ'')) else (some ((1 : Int32), τ'')))) else (if nI w = (1 : Int32) then (Option.bind (f_M_givesMarked FU τ'' (nI m)) (fun u76 => if u76 = 0 then (some ((0 : Int32), τ'')) else (some ((1 : Int32), τ'')))) else (Option.bind (f_M_parameter_L94 FU τ'' FU (0 : Int32) (0 : Int32)) (fun u94 => some (u94.1, τ''))))) = some (r, τ'') := by
            rw [e_isKept hae hw f3 hF, m_isKept ham hw hS2.lv.2 hF, v_has (by omega), m_givesMarked ham hw hS2.lv.2 hF hm8, e_countNames f4 hF, m_countNames hF, cn_eq f5 g4, kp_eq hw hae f5 g4, gv_eq hw f5 g4 f6 hm8]
            rcases (show w = 0 ∨ w = 1 ∨ w = 2 by omega) with rfl | rfl | rfl
            · refine ⟨bI (!nonB (kep p (mkb τ'')) (pS p)), ?_, ?_⟩ <;> cases nonB (kep p (mkb τ'')) (pS p) <;> rfl
            · refine ⟨bI (!nonB (gvF p τ'' m) (pS p)), ?_, ?_⟩ <;> cases nonB (gvF p τ'' m) (pS p) <;> rfl
            · exact ⟨nI (msM τ''), rfl, rfl⟩
          obtain ⟨r, k1, k2⟩ := key
          refine ⟨(r, σ''), (r, τ''), ?_, ?_, rfl, hS2.rel⟩
          · show Option.bind (f_E_isBelow (nI x) 3) _ = _
            rw [b1]
            show Option.bind (f_E_isBelow (nI w) 3) _ = _
            rw [b2]
            show Option.bind (f_S_solve FU σ) _ = _
            rw [e1]
            show Option.bind (f_E_has (σ' 2 7) (nI m)) _ = _
            rw [v_has (by omega), hS.lv.1, l]
            show Option.bind (f_K_spreadFrom FU σ' (nI m) (nI x) (liveP p)) _ = _
            rw [f1]
            exact k1
          · show Option.bind (f_M_isIn (nI x) 0 2) _ = _
            rw [d1]
            show Option.bind (f_M_isIn (nI w) 0 2) _ = _
            rw [d2]
            show Option.bind (f_M_solve FU τ) _ = _
            rw [e2]
            show Option.bind (f_M_has (τ' 0 12) (nI m)) _ = _
            rw [v_Mhas (by omega), hS.lv.2, l]
            show Option.bind (f_M_findMarked FU τ' (nI m) (nI x)) _ = _
            rw [g1]
            exact k2
        · have lf : bt (liveP p) m = false := by cases g : bt (liveP p) m; rfl; exact absurd g l
          refine ⟨(-1, σ'), (-1, τ'), ?_, ?_, rfl, hS.rel⟩
          · show Option.bind (f_E_isBelow (nI x) 3) _ = _
            rw [b1]
            show Option.bind (f_E_isBelow (nI w) 3) _ = _
            rw [b2]
            show Option.bind (f_S_solve FU σ) _ = _
            rw [e1]
            show Option.bind (f_E_has (σ' 2 7) (nI m)) _ = _
            rw [v_has (by omega), hS.lv.1, lf]
            rfl
          · show Option.bind (f_M_isIn (nI x) 0 2) _ = _
            rw [d1]
            show Option.bind (f_M_isIn (nI w) 0 2) _ = _
            rw [d2]
            show Option.bind (f_M_solve FU τ) _ = _
            rw [e2]
            show Option.bind (f_M_has (τ' 0 12) (nI m)) _ = _
            rw [v_Mhas (by omega), hS.lv.2, lf]
            rfl
      · have b2 : f_E_isBelow a3 3 = some 0 := v_below_out (n := 3) ho
        have d2 : f_M_isIn a3 0 2 = some 0 := v_isIn_outC (n := 3) (by decide) (by omega) ho
        refine ⟨(-2, σ), (-2, τ), ?_, ?_, rfl, hR0⟩
        · show Option.bind (f_E_isBelow (nI x) 3) _ = _
          rw [b1]
          show Option.bind (f_E_isBelow a3 3) _ = _
          rw [b2]; rfl
        · show Option.bind (f_M_isIn (nI x) 0 2) _ = _
          rw [d1]
          show Option.bind (f_M_isIn a3 0 2) _ = _
          rw [d2]; rfl
    · have b1 : f_E_isBelow a2 3 = some 0 := v_below_out (n := 3) ho
      have d1 : f_M_isIn a2 0 2 = some 0 := v_isIn_outC (n := 3) (by decide) (by omega) ho
      refine ⟨(-2, σ), (-2, τ), ?_, ?_, rfl, hR0⟩
      · show Option.bind (f_E_isBelow a2 3) _ = _
        rw [b1]; rfl
      · show Option.bind (f_M_isIn a2 0 2) _ = _
        rw [d1]; rfl
  · rw [e_isM_out h ho, m_isM_out h' hw ho]
    exact ⟨(-2, σ), (-2, τ), rfl, rfl, rfl, hR0⟩
theorem rel0 : Rel st0 mt0 := by
  refine ⟨((1, 0, 0), fun _ => 0, fun _ => 0, fun _ => 0, fun _ => 0, fun _ _ => 0), ?_, ?_, ?_, ?_, ?_, Or.inl rfl, Or.inl rfl⟩
  · exact ⟨Nat.le_refl 1, by decide, by decide, by decide, fun s hs => absurd hs (Nat.not_lt_zero s), fun t ht => absurd ht (Nat.not_lt_zero t), fun t u h1 hu => absurd hu (Nat.not_lt_zero u)⟩
  · exact ⟨rfl, rfl, rfl, fun s hs => absurd hs (Nat.not_lt_zero s), fun t ht => absurd ht (Nat.not_lt_zero t)⟩
  · exact ⟨rfl, rfl, rfl, fun s hs => absurd hs (Nat.not_lt_zero s), fun t ht => absurd ht (Nat.not_lt_zero t)⟩
  · exact ⟨fun i _ => rfl, fun i _ => rfl, fun i _ => rfl, fun i _ => rfl, fun i _ => rfl⟩
  · exact ⟨fun i _ => rfl, fun i _ => rfl, fun i _ => rfl, fun i _ => rfl⟩
theorem ops_ok : OpsOK FU Rel := ⟨op_clear, op_method, op_step, op_call, op_undo, op_told, op_all, op_points, op_field, op_place, op_result, op_of, op_meet, op_reach, op_parameter, op_idle, op_calls⟩
