/-! The relation of class and reference; the plain questions. -/
def FU : Nat := 3000
def Rel (σ τ : St) : Prop := ∃ p : PG, WF p ∧ AE σ p ∧ AM τ p ∧ ZE σ ∧ ZM τ ∧ (σ 2 10 = 0 ∨ SolE σ p) ∧ (τ 0 13 = 1 ∨ SolM τ p)
/-- behind solve -/
def SR (p : PG) (σ τ : St) : Prop := WF p ∧ AE σ p ∧ AM τ p ∧ ZE σ ∧ ZM τ ∧ SolE σ p ∧ SolM τ p
theorem SR.rel {p : PG} {σ τ : St} (h : SR p σ τ) : Rel σ τ := ⟨p, h.1, h.2.1, h.2.2.1, h.2.2.2.1, h.2.2.2.2.1, Or.inr h.2.2.2.2.2.1, Or.inr h.2.2.2.2.2.2⟩
theorem rg (x : Int32) (n : Nat) (hn : n < 2 ^ 31) : (∃ j, j < n ∧ x = nI j) ∨ (x < 0 ∨ nI n ≤ x) := by
  rcases pk_ix x hn with h | h | h
  · exact Or.inr (Or.inl h)
  · exact Or.inr (Or.inr h)
  · exact Or.inl h
theorem v_isIn_inC {j n : Nat} {c : Int32} (hc : nI n - 1 = c) (h : j < n) (hn : n < 2 ^ 30) : f_M_isIn (nI j) 0 c = some 1 := hc ▸ v_isIn_in h hn
theorem v_isIn_outC {x : Int32} {n : Nat} {c : Int32} (hc : nI n - 1 = c) (hn : n < 2 ^ 30) (h : x < 0 ∨ nI n ≤ x) : f_M_isIn x 0 c = some 0 := hc ▸ v_isIn_out hn h
theorem v_isName_in {j : Nat} (h : j < 8) : f_M_isName (nI j) = some 1 := by
  unfold f_M_isName
  rw [v_isIn_inC (n := 8) (by decide) h (by omega)]
  rfl
theorem v_isName_out {x : Int32} (h : x < 0 ∨ nI 8 ≤ x) : f_M_isName x = some 0 := by
  unfold f_M_isName
  rw [v_isIn_outC (n := 8) (by decide) (by omega) h]
  rfl
section GD
variable {σ τ : St} {p : PG}
theorem e_isM_in (h : AE σ p) (hw : WF p) {m : Nat} (hm : m < pM p) : f_E_isMethod σ (nI m) = some 1 := by
  unfold f_E_isMethod
  have := hw.2.1
  rw [h.1, v_below_in hm (by omega)]
  rfl
theorem e_isM_out (h : AE σ p) {x : Int32} (hx : x < 0 ∨ nI (pM p) ≤ x) : f_E_isMethod σ x = some 0 := by
  unfold f_E_isMethod
  rw [h.1, v_below_out hx]
  rfl
theorem e_isSt_in (h : AE σ p) (hw : WF p) {m : Nat} (hm : m < pS p) : f_E_isStep σ (nI m) = some 1 := by
  unfold f_E_isStep
  have := hw.2.2.1
  rw [h.2.1, v_below_in hm (by omega)]
  rfl
theorem e_isSt_out (h : AE σ p) {x : Int32} (hx : x < 0 ∨ nI (pS p) ≤ x) : f_E_isStep σ x = some 0 := by
  unfold f_E_isStep
  rw [h.2.1, v_below_out hx]
  rfl
theorem e_isSi_in (h : AE σ p) (hw : WF p) {m : Nat} (hm : m < pT p) : f_E_isSite σ (nI m) = some 1 := by
  unfold f_E_isSite
  have := hw.2.2.2.1
  rw [h.2.2.1, v_below_in hm (by omega)]
  rfl
theorem e_isSi_out (h : AE σ p) {x : Int32} (hx : x < 0 ∨ nI (pT p) ≤ x) : f_E_isSite σ x = some 0 := by
  unfold f_E_isSite
  rw [h.2.2.1, v_below_out hx]
  rfl
theorem m_isM_in (h : AM τ p) (hw : WF p) {m : Nat} (hm : m < pM p) : f_M_isMethod τ (nI m) = some 1 := by
  unfold f_M_isMethod
  have := hw.2.1
  rw [h.1, v_isIn_in hm (by omega)]
  rfl
theorem m_isM_out (h : AM τ p) (hw : WF p) {x : Int32} (hx : x < 0 ∨ nI (pM p) ≤ x) : f_M_isMethod τ x = some 0 := by
  unfold f_M_isMethod
  have := hw.2.1
  rw [h.1, v_isIn_out (by omega) hx]
  rfl
theorem m_isSi_in (h : AM τ p) (hw : WF p) {m : Nat} (hm : m < pT p) : f_M_isSite τ (nI m) = some 1 := by
  unfold f_M_isSite
  have := hw.2.2.2.1
  rw [h.2.2.1, v_isIn_in hm (by omega)]
  rfl
theorem m_isSi_out (h : AM τ p) (hw : WF p) {x : Int32} (hx : x < 0 ∨ nI (pT p) ≤ x) : f_M_isSite τ x = some 0 := by
  unfold f_M_isSite
  have := hw.2.2.2.1
  rw [h.2.2.1, v_isIn_out (by omega) hx]
  rfl
theorem m_isSt_in (h : AM τ p) (hw : WF p) {m : Nat} (hm : m < pS p) : f_M_isIn (nI m) 0 (τ 0 1 - 1) = some 1 := by
  have := hw.2.2.1
  rw [h.2.1, v_isIn_in hm (by omega)]
theorem m_isSt_out (h : AM τ p) (hw : WF p) {x : Int32} (hx : x < 0 ∨ nI (pS p) ≤ x) : f_M_isIn x 0 (τ 0 1 - 1) = some 0 := by
  have := hw.2.2.1
  rw [h.2.1, v_isIn_out (by omega) hx]
/-- both solve -/
theorem both (hw : WF p) (h : AE σ p) (h' : AM τ p) (hz : ZE σ) (hz' : ZM τ) (hs : σ 2 10 = 0 ∨ SolE σ p) (hs' : τ 0 13 = 1 ∨ SolM τ p) : ∃ σ' τ', f_S_solve FU σ = some σ' ∧ f_M_solve FU τ = some τ' ∧ SR p σ' τ' := by
  have hF : 2300 < FU := by decide
  have a : ∃ σ', f_S_solve FU σ = some σ' ∧ AE σ' p ∧ ZE σ' ∧ SolE σ' p := by
    rcases hs with hs | hs
    · obtain ⟨σ', e, r1, r2, r3⟩ := e_solve h hw hz hs hF
      exact ⟨σ', e, h.same (r3 1 (by omega)) (r3 5 (by omega)) (r3 6 (by omega)) (r3 7 (by omega)) (r3 8 (by omega)) (r3 9 (by omega)), r2, r1⟩
    · refine ⟨σ, ?_, h, hz, hs⟩
      unfold f_S_solve
      rw [if_neg (by rw [hs.1]; decide)]
  have b : ∃ τ', f_M_solve FU τ = some τ' ∧ AM τ' p ∧ ZM τ' ∧ SolM τ' p := by
    rcases hs' with hs | hs
    · obtain ⟨τ', e, r1, r2, r3, r4⟩ := m_solve h' hw hz' hs hF
      exact ⟨τ', e, h'.same ⟨r3 0 (by omega) (by omega) (by omega), r3 1 (by omega) (by omega) (by omega), r3 2 (by omega) (by omega) (by omega)⟩ (r4 1 (by omega) (by omega)) (r4 2 (by omega) (by omega)) (r4 3 (by omega) (by omega)) (r4 4 (by omega) (by omega)) (r4 5 (by omega) (by omega)), r2, r1⟩
    · refine ⟨τ, ?_, h', hz', hs⟩
      unfold f_M_solve
      rw [if_pos hs.1]
  obtain ⟨σ', e1, a1, a2, a3⟩ := a
  obtain ⟨τ', e2, b1, b2, b3⟩ := b
  exact ⟨σ', τ', e1, e2, hw, a1, b1, a2, b2, a3, b3⟩
theorem SR.x1 (h : SR p σ τ) : σ 11 = (XS p).1 ∧ τ 6 = (XS p).1 := ⟨congrArg (fun X : XX => X.1) h.2.2.2.2.2.1.2.2.2.1, congrArg (fun X : XX => X.1) h.2.2.2.2.2.2.2.2⟩
theorem SR.x2 (h : SR p σ τ) : σ 12 = (XS p).2.1 ∧ τ 7 = (XS p).2.1 := ⟨congrArg (fun X : XX => X.2.1) h.2.2.2.2.2.1.2.2.2.1, congrArg (fun X : XX => X.2.1) h.2.2.2.2.2.2.2.2⟩
theorem SR.x3 (h : SR p σ τ) : σ 13 = (XS p).2.2.1 ∧ τ 8 = (XS p).2.2.1 := ⟨congrArg (fun X : XX => X.2.2.1) h.2.2.2.2.2.1.2.2.2.1, congrArg (fun X : XX => X.2.2.1) h.2.2.2.2.2.2.2.2⟩
theorem SR.x4 (h : SR p σ τ) : σ 14 = (XS p).2.2.2 ∧ τ 9 = (XS p).2.2.2 := ⟨congrArg (fun X : XX => X.2.2.2) h.2.2.2.2.2.1.2.2.2.1, congrArg (fun X : XX => X.2.2.2) h.2.2.2.2.2.2.2.2⟩
theorem SR.lv (h : SR p σ τ) : σ 2 7 = liveP p ∧ τ 0 12 = liveP p := ⟨h.2.2.2.2.2.1.2.1, h.2.2.2.2.2.2.2.1⟩
end GD
theorem op_points : Op_points FU Rel := by
  intro σ τ a1 a2 hR
  have hR0 := hR
  obtain ⟨p, hw, h, h', hz, hz', hs, hs'⟩ := hR
  have hM := hw.2.1
  unfold f_E_points f_M_points
  rcases rg a1 (pM p) (by omega) with ⟨m, hm, rfl⟩ | ho
  · rw [e_isM_in h hw hm, m_isM_in h' hw hm]
    rcases rg a2 8 (by omega) with ⟨x, hx, rfl⟩ | ho
    · obtain ⟨σ', τ', e1, e2, hS⟩ := both hw h h' hz hz' hs hs'
      have b1 : f_E_isBelow (nI x) 8 = some 1 := v_below_in (n := 8) hx (by omega)
      refine ⟨(σ' 11 (8 * m + x), σ'), (τ' 6 (8 * m + x), τ'), ?_, ?_, ?_, hS.rel⟩
      · show Option.bind (f_E_isBelow (nI x) 8) _ = _
        rw [b1]
        show Option.bind (f_S_solve FU σ) _ = _
        rw [e1]
        show Option.bind (f_S_ofName σ' (nI m) (nI x)) _ = _
        rw [e_ofName (by omega) hx]
        rfl
      · show Option.bind (f_M_isName (nI x)) _ = _
        rw [v_isName_in hx]
        show Option.bind (f_M_solve FU τ) _ = _
        rw [e2]
        show Option.bind (f_M_name τ' (nI m) (nI x)) _ = _
        rw [m_name (by omega) hx]
        rfl
      · show σ' 11 _ = τ' 6 _
        rw [hS.x1.1, hS.x1.2]
    · have b1 : f_E_isBelow a2 8 = some 0 := v_below_out (n := 8) ho
      refine ⟨(-2, σ), (-2, τ), ?_, ?_, rfl, hR0⟩
      · show Option.bind (f_E_isBelow a2 8) _ = _
        rw [b1]; rfl
      · show Option.bind (f_M_isName a2) _ = _
        rw [v_isName_out ho]; rfl
  · rw [e_isM_out h ho, m_isM_out h' hw ho]
    exact ⟨(-2, σ), (-2, τ), rfl, rfl, rfl, hR0⟩
theorem op_field : Op_field FU Rel := by
  intro σ τ a1 a2 hR
  have hR0 := hR
  obtain ⟨p, hw, h, h', hz, hz', hs, hs'⟩ := hR
  have hT := hw.2.2.2.1
  unfold f_E_field f_M_field
  rcases rg a1 (pT p) (by omega) with ⟨m, hm, rfl⟩ | ho
  · rw [e_isSi_in h hw hm, m_isSi_in h' hw hm]
    rcases rg a2 4 (by omega) with ⟨x, hx, rfl⟩ | ho
    · obtain ⟨σ', τ', e1, e2, hS⟩ := both hw h h' hz hz' hs hs'
      have b1 : f_E_isBelow (nI x) 4 = some 1 := v_below_in (n := 4) hx (by omega)
      refine ⟨(σ' 12 (4 * m + x), σ'), (τ' 7 (4 * m + x), τ'), ?_, ?_, ?_, hS.rel⟩
      · show Option.bind (f_E_isBelow (nI x) 4) _ = _
        rw [b1]
        show Option.bind (f_S_solve FU σ) _ = _
        rw [e1]
        show Option.bind (f_S_ofField σ' (nI m) (nI x)) _ = _
        rw [e_ofField (by omega) hx]
        rfl
      · show Option.bind (f_M_isIn (nI x) 0 3) _ = _
        rw [v_isIn_inC (n := 4) (by decide) hx (by omega)]
        show Option.bind (f_M_solve FU τ) _ = _
        rw [e2]
        show (if ¬ (4 * nI m + nI x < 0 ∨ 64 ≤ (4 * nI m + nI x).toNatClampNeg) then some (τ' 7 (4 * nI m + nI x).toNatClampNeg, τ') else none) = _
        rw [n4_I, nI_add, if_pos (ix_in (by omega) (by omega)), ix_c (by omega)]
      · show σ' 12 _ = τ' 7 _
        rw [hS.x2.1, hS.x2.2]
    · have b1 : f_E_isBelow a2 4 = some 0 := v_below_out (n := 4) ho
      refine ⟨(-2, σ), (-2, τ), ?_, ?_, rfl, hR0⟩
      · show Option.bind (f_E_isBelow a2 4) _ = _
        rw [b1]; rfl
      · show Option.bind (f_M_isIn a2 0 3) _ = _
        rw [v_isIn_outC (n := 4) (by decide) (by omega) ho]; rfl
  · rw [e_isSi_out h ho, m_isSi_out h' hw ho]
    exact ⟨(-2, σ), (-2, τ), rfl, rfl, rfl, hR0⟩
theorem op_place : Op_place FU Rel := by
  intro σ τ a1 hR
  have hR0 := hR
  obtain ⟨p, hw, h, h', hz, hz', hs, hs'⟩ := hR
  unfold f_E_place f_M_place
  rcases rg a1 4 (by omega) with ⟨x, hx, rfl⟩ | ho
  · obtain ⟨σ', τ', e1, e2, hS⟩ := both hw h h' hz hz' hs hs'
    have b1 : f_E_isBelow (nI x) 4 = some 1 := v_below_in (n := 4) hx (by omega)
    refine ⟨(σ' 13 x, σ'), (τ' 8 x, τ'), ?_, ?_, ?_, hS.rel⟩
    · rw [b1]
      show Option.bind (f_S_solve FU σ) _ = _
      rw [e1]
      show Option.bind (f_E_at 4 (σ' 13) (nI x)) _ = _
      rw [v_at hx (by omega)]
      rfl
    · rw [v_isIn_inC (n := 4) (by decide) hx (by omega)]
      show Option.bind (f_M_solve FU τ) _ = _
      rw [e2]
      show (if ¬ (nI x < 0 ∨ 4 ≤ (nI x).toNatClampNeg) then some (τ' 8 (nI x).toNatClampNeg, τ') else none) = _
      rw [if_pos (ix_in hx (by omega)), ix_c (by omega)]
    · show σ' 13 _ = τ' 8 _
      rw [hS.x3.1, hS.x3.2]
  · have b1 : f_E_isBelow a1 4 = some 0 := v_below_out (n := 4) ho
    rw [b1, v_isIn_outC (n := 4) (by decide) (by omega) ho]
    exact ⟨(-2, σ), (-2, τ), rfl, rfl, rfl, hR0⟩
theorem op_result : Op_result FU Rel := by
  intro σ τ a1 hR
  have hR0 := hR
  obtain ⟨p, hw, h, h', hz, hz', hs, hs'⟩ := hR
  have hM := hw.2.1
  unfold f_E_result f_M_result
  rcases rg a1 (pM p) (by omega) with ⟨m, hm, rfl⟩ | ho
  · obtain ⟨σ', τ', e1, e2, hS⟩ := both hw h h' hz hz' hs hs'
    rw [e_isM_in h hw hm, m_isM_in h' hw hm]
    refine ⟨(σ' 14 m, σ'), (τ' 9 m, τ'), ?_, ?_, ?_, hS.rel⟩
    · show Option.bind (f_S_solve FU σ) _ = _
      rw [e1]
      show Option.bind (f_E_at 8 (σ' 14) (nI m)) _ = _
      rw [v_at (by omega) (by omega)]
      rfl
    · show Option.bind (f_M_solve FU τ) _ = _
      rw [e2]
      show (if ¬ (nI m < 0 ∨ 8 ≤ (nI m).toNatClampNeg) then some (τ' 9 (nI m).toNatClampNeg, τ') else none) = _
      rw [if_pos (ix_in (by omega) (by omega)), ix_c (by omega)]
    · show σ' 14 _ = τ' 9 _
      rw [hS.x4.1, hS.x4.2]
  · rw [e_isM_out h ho, m_isM_out h' hw ho]
    exact ⟨(-2, σ), (-2, τ), rfl, rfl, rfl, hR0⟩
theorem op_meet : Op_meet FU Rel := by
  intro σ τ a1 a2 a3 a4 hR
  have hR0 := hR
  obtain ⟨p, hw, h, h', hz, hz', hs, hs'⟩ := hR
  have hM := hw.2.1
  unfold f_E_meet f_M_meet
  rcases rg a1 (pM p) (by omega) with ⟨m, hm, rfl⟩ | ho
  · rw [e_isM_in h hw hm, m_isM_in h' hw hm]
    rcases rg a2 8 (by omega) with ⟨x, hx, rfl⟩ | ho
    · have b1 : f_E_isBelow (nI x) 8 = some 1 := v_below_in (n := 8) hx (by omega)
      rcases rg a3 (pM p) (by omega) with ⟨k, hk, rfl⟩ | ho
      · rcases rg a4 8 (by omega) with ⟨y, hy, rfl⟩ | ho
        · have b2 : f_E_isBelow (nI y) 8 = some 1 := v_below_in (n := 8) hy (by omega)
          obtain ⟨σ', τ', e1, e2, hS⟩ := both hw h h' hz hz' hs hs'
          have ea : f_S_ofName σ' (nI m) (nI x) = some ((XS p).1 (8 * m + x)) := by rw [e_ofName (by omega) hx, hS.x1.1]
          have eb : f_S_ofName σ' (nI k) (nI y) = some ((XS p).1 (8 * k + y)) := by rw [e_ofName (by omega) hy, hS.x1.1]
          have ma : f_M_name τ' (nI m) (nI x) = some ((XS p).1 (8 * m + x)) := by rw [m_name (by omega) hx, hS.x1.2]
          have mb : f_M_name τ' (nI k) (nI y) = some ((XS p).1 (8 * k + y)) := by rw [m_name (by omega) hy, hS.x1.2]
          refine ⟨(if (XS p).1 (8 * m + x) &&& (XS p).1 (8 * k + y) = 0 then 0 else 1, σ'), (if (XS p).1 (8 * m + x) &&& (XS p).1 (8 * k + y) = 0 then 0 else 1, τ'), ?_, ?_, rfl, hS.rel⟩
          · show Option.bind (f_E_isBelow (nI x) 8) _ = _
            rw [b1]
            show Option.bind (f_E_isMethod σ (nI k)) _ = _
            rw [e_isM_in h hw hk]
            show Option.bind (f_E_isBelow (nI y) 8) _ = _
            rw [b2]
            show Option.bind (f_S_solve FU σ) _ = _
            rw [e1]
            show Option.bind (f_S_ofName σ' (nI m) (nI x)) _ = _
            rw [ea]
            show Option.bind (f_S_ofName σ' (nI k) (nI y)) _ = _
            rw [eb]
            show (if (XS p).1 (8 * m + x) &&& (XS p).1 (8 * k + y) = 0 then some ((0 : Int32), σ') else some ((1 : Int32), σ')) = _
            split <;> rfl
          · show Option.bind (f_M_isName (nI x)) _ = _
            rw [v_isName_in hx]
            show Option.bind (f_M_isMethod τ (nI k)) _ = _
            rw [m_isM_in h' hw hk]
            show Option.bind (f_M_isName (nI y)) _ = _
            rw [v_isName_in hy]
            show Option.bind (f_M_solve FU τ) _ = _
            rw [e2]
            show Option.bind (f_M_name τ' (nI m) (nI x)) _ = _
            rw [ma]
            show Option.bind (f_M_name τ' (nI k) (nI y)) _ = _
            rw [mb]
            show (if (XS p).1 (8 * m + x) &&& (XS p).1 (8 * k + y) = 0 then some ((0 : Int32), τ') else some ((1 : Int32), τ')) = _
            split <;> rfl
        · have b2 : f_E_isBelow a4 8 = some 0 := v_below_out (n := 8) ho
          refine ⟨(-2, σ), (-2, τ), ?_, ?_, rfl, hR0⟩
          · show Option.bind (f_E_isBelow (nI x) 8) _ = _
            rw [b1]
            show Option.bind (f_E_isMethod σ (nI k)) _ = _
            rw [e_isM_in h hw hk]
            show Option.bind (f_E_isBelow a4 8) _ = _
            rw [b2]; rfl
          · show Option.bind (f_M_isName (nI x)) _ = _
            rw [v_isName_in hx]
            show Option.bind (f_M_isMethod τ (nI k)) _ = _
            rw [m_isM_in h' hw hk]
            show Option.bind (f_M_isName a4) _ = _
            rw [v_isName_out ho]; rfl
      · refine ⟨(-2, σ), (-2, τ), ?_, ?_, rfl, hR0⟩
        · show Option.bind (f_E_isBelow (nI x) 8) _ = _
          rw [b1]
          show Option.bind (f_E_isMethod σ a3) _ = _
          rw [e_isM_out h ho]; rfl
        · show Option.bind (f_M_isName (nI x)) _ = _
          rw [v_isName_in hx]
          show Option.bind (f_M_isMethod τ a3) _ = _
          rw [m_isM_out h' hw ho]; rfl
    · have b1 : f_E_isBelow a2 8 = some 0 := v_below_out (n := 8) ho
      refine ⟨(-2, σ), (-2, τ), ?_, ?_, rfl, hR0⟩
      · show Option.bind (f_E_isBelow a2 8) _ = _
        rw [b1]; rfl
      · show Option.bind (f_M_isName a2) _ = _
        rw [v_isName_out ho]; rfl
  · rw [e_isM_out h ho, m_isM_out h' hw ho]
    exact ⟨(-2, σ), (-2, τ), rfl, rfl, rfl, hR0⟩
/-- what the solution's rows hold -/
theorem XS_low {p : PG} (hw : WF p) : (∀ i, lowb 16 ((XS p).1 i)) ∧ lowF (XS p).2.1 ∧ (∀ i, lowb 16 ((XS p).2.2.1 i)) ∧ (∀ i, lowb 16 ((XS p).2.2.2 i)) := by
  have hI := XS_inv hw
  exact ⟨fun i => okv_low hw (hI.1.1 i), fun i => okv_low hw (hI.1.2.1 i), fun i => okv_low hw (hI.1.2.2.1 i), fun i => okv_low hw (hI.1.2.2.2 i)⟩
theorem XS_fdz {p : PG} (hw : WF p) : fdz (pT p) (XS p).2.1 := (XS_inv hw).2.2.1
theorem op_reach : Op_reach FU Rel := by
  intro σ τ a1 a2 hR
  have hR0 := hR
  obtain ⟨p, hw, h, h', hz, hz', hs, hs'⟩ := hR
  have hM := hw.2.1
  unfold f_E_reach f_M_reach
  rcases rg a1 (pM p) (by omega) with ⟨m, hm, rfl⟩ | ho
  · rw [e_isM_in h hw hm, m_isM_in h' hw hm]
    rcases rg a2 8 (by omega) with ⟨x, hx, rfl⟩ | ho
    · obtain ⟨σ', τ', e1, e2, hS⟩ := both hw h h' hz hz' hs hs'
      have b1 : f_E_isBelow (nI x) 8 = some 1 := v_below_in (n := 8) hx (by omega)
      refine ⟨(itH (XS p).2.1 ((XS p).1 (8 * m + x)) 16, σ'), (itH (XS p).2.1 ((XS p).1 (8 * m + x)) 16, τ'), ?_, ?_, rfl, hS.rel⟩
      · show Option.bind (f_E_isBelow (nI x) 8) _ = _
        rw [b1]
        show Option.bind (f_S_solve FU σ) _ = _
        rw [e1]
        show Option.bind (f_S_ofName σ' (nI m) (nI x)) _ = _
        rw [e_ofName (by omega) hx]
        show Option.bind (f_S_reachedFrom FU σ' (σ' 11 (8 * m + x))) _ = _
        rw [e_reachedFrom (by decide), hS.x2.1, hS.x1.1]
        rfl
      · show Option.bind (f_M_isName (nI x)) _ = _
        rw [v_isName_in hx]
        show Option.bind (f_M_solve FU τ) _ = _
        rw [e2]
        show Option.bind (f_M_name τ' (nI m) (nI x)) _ = _
        rw [m_name (by omega) hx]
        show Option.bind (f_M_closed FU τ' (τ' 6 (8 * m + x))) _ = _
        rw [m_closed hS.2.2.1 hw (by rw [hS.x2.2]; exact XS_fdz hw) (by rw [hS.x2.2]; exact (XS_low hw).2.1) (by decide) (by rw [hS.x1.2]; exact (XS_low hw).1 _), hS.x2.2, hS.x1.2]
        rfl
    · have b1 : f_E_isBelow a2 8 = some 0 := v_below_out (n := 8) ho
      refine ⟨(-2, σ), (-2, τ), ?_, ?_, rfl, hR0⟩
      · show Option.bind (f_E_isBelow a2 8) _ = _
        rw [b1]; rfl
      · show Option.bind (f_M_isName a2) _ = _
        rw [v_isName_out ho]; rfl
  · rw [e_isM_out h ho, m_isM_out h' hw ho]
    exact ⟨(-2, σ), (-2, τ), rfl, rfl, rfl, hR0⟩
