/-! call, whole. -/
def caWr (σ : St) (x1 x2 x3 x4 x5 x6 : Int32) : Option (Int32 × St) := if ¬ (((5 : Int32) * (σ 0 1)) < 0 ∨ 320 ≤ ((5 : Int32) * (σ 0 1)).toNatClampNeg) then (lett (sr σ 4 (upd (σ 4) ((5 : Int32) * (σ 0 1)).toNatClampNeg x2)) (fun s73 => if ¬ ((((5 : Int32) * (s73 0 1)) + (1 : Int32)) < 0 ∨ 320 ≤ (((5 : Int32) * (s73 0 1)) + (1 : Int32)).toNatClampNeg) then (lett (sr s73 4 (upd (s73 4) (((5 : Int32) * (s73 0 1)) + (1 : Int32)).toNatClampNeg x3)) (fun s87 => if ¬ ((((5 : Int32) * (s87 0 1)) + (2 : Int32)) < 0 ∨ 320 ≤ (((5 : Int32) * (s87 0 1)) + (2 : Int32)).toNatClampNeg) then (lett (sr s87 4 (upd (s87 4) (((5 : Int32) * (s87 0 1)) + (2 : Int32)).toNatClampNeg x4)) (fun s102 => if ¬ ((((5 : Int32) * (s102 0 1)) + (3 : Int32)) < 0 ∨ 320 ≤ (((5 : Int32) * (s102 0 1)) + (3 : Int32)).toNatClampNeg) then (lett (sr s102 4 (upd (s102 4) (((5 : Int32) * (s102 0 1)) + (3 : Int32)).toNatClampNeg x5)) (fun s117 => if ¬ ((((5 : Int32) * (s117 0 1)) + (4 : Int32)) < 0 ∨ 320 ≤ (((5 : Int32) * (s117 0 1)) + (4 : Int32)).toNatClampNeg) then (lett (sr s117 4 (upd (s117 4) (((5 : Int32) * (s117 0 1)) + (4 : Int32)).toNatClampNeg x6)) (fun s132 => Option.bind (f_M_add s132 x1 (6 : Int32)) (fun u137 => some (u137.1, u137.2)))) else none)) else none)) else none)) else none)) else none
def caRest (σ : St) (x1 x2 x3 x4 x5 x6 : Int32) : Option (Int32 × St) := if (σ 0 1) = (64 : Int32) then (some ((-3 : Int32), σ)) else (caWr σ x1 x2 x3 x4 x5 x6)
theorem caM_eq (σ : St) (x1 x2 x3 x4 x5 x6 : Int32) : f_M_call σ x1 x2 x3 x4 x5 x6 = Option.bind (f_M_isMethod σ x1) (fun u2 => if u2 = 0 then (some ((-2 : Int32), σ)) else (Option.bind (f_M_isMethod σ x2) (fun u10 => if u10 = 0 then (some ((-2 : Int32), σ)) else (Option.bind (f_M_isNameOrNone x3) (fun u17 => if u17 = 0 then (some ((-2 : Int32), σ)) else (Option.bind (f_M_isNameOrNone x4) (fun u25 => if u25 = 0 then (some ((-2 : Int32), σ)) else (Option.bind (f_M_isNameOrNone x5) (fun u33 => if u33 = 0 then (some ((-2 : Int32), σ)) else (Option.bind (f_M_isNameOrNone x6) (fun u41 => if u41 = 0 then (some ((-2 : Int32), σ)) else (caRest σ x1 x2 x3 x4 x5 x6)))))))))))) := rfl
def caRestE (F : Nat) (σ : St) (x1 x2 x3 x4 x5 x6 : Int32) : Option (Int32 × St) := Option.bind (f_P_hasRoomFor σ (6 : Int32)) (fun u59 => if u59 = 0 then (some ((-3 : Int32), σ)) else (Option.bind (f_S_forget σ) (fun u72 => Option.bind (f_P_addStep F u72 x1 (6 : Int32)) (fun u82 => Option.bind (f_P_setNeed u82.2 u82.1 (0 : Int32) x2) (fun u95 => Option.bind (f_P_setNeed u95 u82.1 (1 : Int32) x3) (fun u106 => Option.bind (f_P_setNeed u106 u82.1 (2 : Int32) x4) (fun u118 => Option.bind (f_P_setNeed u118 u82.1 (3 : Int32) x5) (fun u130 => Option.bind (f_P_setNeed u130 u82.1 (4 : Int32) x6) (fun u142 => some (u82.1, u142))))))))))
theorem caE_eq (F : Nat) (σ : St) (x1 x2 x3 x4 x5 x6 : Int32) : f_E_call F σ x1 x2 x3 x4 x5 x6 = Option.bind (f_E_isMethod σ x1) (fun u2 => if u2 = 0 then (some ((-2 : Int32), σ)) else (Option.bind (f_E_isMethod σ x2) (fun u10 => if u10 = 0 then (some ((-2 : Int32), σ)) else (Option.bind (f_E_isNameOrNone x3) (fun u20 => if u20 = 0 then (some ((-2 : Int32), σ)) else (Option.bind (f_E_isNameOrNone x4) (fun u28 => if u28 = 0 then (some ((-2 : Int32), σ)) else (Option.bind (f_E_isNameOrNone x5) (fun u36 => if u36 = 0 then (some ((-2 : Int32), σ)) else (Option.bind (f_E_isNameOrNone x6) (fun u44 => if u44 = 0 then (some ((-2 : Int32), σ)) else (caRestE F σ x1 x2 x3 x4 x5 x6)))))))))))) := rfl

def gdN (x : Int32) : Prop := x = -1 ∨ ∃ j, j < 8 ∧ x = nI j
def bdN (x : Int32) : Prop := ¬ x = -1 ∧ (x < 0 ∨ nI 8 ≤ x)
theorem gbN (x : Int32) : gdN x ∨ bdN x := by
  by_cases c : x = -1
  · exact Or.inl (Or.inl c)
  · rcases rg x 8 (by omega) with h | h
    · exact Or.inl (Or.inr h)
    · exact Or.inr ⟨c, h⟩
theorem e_nn_g {x : Int32} (h : gdN x) : f_E_isNameOrNone x = some 1 := by
  unfold f_E_isNameOrNone
  by_cases c : x = -1
  · rw [if_pos c]
  · rw [if_neg c]
    obtain ⟨j, hj, rfl⟩ := h.resolve_left c
    have b : f_E_isBelow (nI j) 8 = some 1 := v_below_in (n := 8) hj (by omega)
    rw [b]
    rfl
theorem e_nn_b {x : Int32} (h : bdN x) : f_E_isNameOrNone x = some 0 := by
  unfold f_E_isNameOrNone
  have b : f_E_isBelow x 8 = some 0 := v_below_out (n := 8) h.2
  rw [if_neg h.1, b]
  rfl
theorem m_nn_g {x : Int32} (h : gdN x) : f_M_isNameOrNone x = some 1 := by
  unfold f_M_isNameOrNone
  by_cases c : x = -1
  · rw [if_pos c]
  · rw [if_neg c]
    obtain ⟨j, hj, rfl⟩ := h.resolve_left c
    rw [v_isName_in hj]
    rfl
theorem m_nn_b {x : Int32} (h : bdN x) : f_M_isNameOrNone x = some 0 := by
  unfold f_M_isNameOrNone
  rw [if_neg h.1, v_isName_out h.2]
  rfl
/-- 8 for NONE -/
def nvN (x : Int32) : Nat := if x = -1 then 8 else x.toNatClampNeg
theorem nvN_ok {x : Int32} (h : gdN x) {i : Nat} (hi : 0 < i) : nvN x < 9 ∧ x = ndI 6 i (nvN x) := by
  unfold nvN ndI
  by_cases c : x = -1
  · rw [if_pos c, if_pos ⟨rfl, hi, rfl⟩]
    exact ⟨by omega, c⟩
  · rw [if_neg c]
    obtain ⟨j, hj, rfl⟩ := h.resolve_left c
    rw [ix_c (by omega), if_neg (fun z => by have := z.2.2; omega)]
    exact ⟨by omega, rfl⟩
def n5v (a b c d e : Int32) (i : Nat) : Int32 := if i = 0 then a else if i = 1 then b else if i = 2 then c else if i = 3 then d else e
def n5n (a : Nat) (b c d e : Int32) (i : Nat) : Nat := if i = 0 then a else if i = 1 then nvN b else if i = 2 then nvN c else if i = 3 then nvN d else nvN e
theorem op_call : Op_call FU Rel := by
  intro σ τ a1 a2 a3 a4 a5 a6 hR
  have hR0 := hR
  obtain ⟨p, hw, h, h', hz, hz', hs, hs'⟩ := hR
  have hM := hw.2.1
  have hS64 := hw.2.2.1
  have hT16 := hw.2.2.2.1
  have bad : ∀ {x : Option (Int32 × St)} {y : Option (Int32 × St)}, x = some (-2, σ) → y = some (-2, τ) → ∃ u v : Int32 × St, x = some u ∧ y = some v ∧ u.1 = v.1 ∧ Rel u.2 v.2 := fun hx hy => ⟨_, _, hx, hy, rfl, hR0⟩
  rw [caE_eq, caM_eq]
  rcases rg a1 (pM p) (by omega) with ⟨m, hm, rfl⟩ | ho
  · rw [e_isM_in h hw hm, m_isM_in h' hw hm]
    rcases rg a2 (pM p) (by omega) with ⟨to, hto, rfl⟩ | ho
    · have e2 := e_isM_in h hw hto
      have m2 := m_isM_in h' hw hto
      rcases gbN a3 with g3 | g3
      · rcases gbN a4 with g4 | g4
        · rcases gbN a5 with g5 | g5
          · rcases gbN a6 with g6 | g6
            · have hE : ∀ z, caRestE FU σ (nI m) (nI to) a3 a4 a5 a6 = z → Option.bind (some (1 : Int32)) (fun u2 => if u2 = 0 then (some ((-2 : Int32), σ)) else (Option.bind (f_E_isMethod σ (nI to)) (fun u10 => if u10 = 0 then (some ((-2 : Int32), σ)) else (Option.bind (f_E_isNameOrNone a3) (fun u20 => if u20 = 0 then (some ((-2 : Int32), σ)) else (Option.bind (f_E_isNameOrNone a4) (fun u28 => if u28 = 0 then (some ((-2 : Int32), σ)) else (Option.bind (f_E_isNameOrNone a5) (fun u36 => if u36 = 0 then (some ((-2 : Int32), σ)) else (Option.bind (f_E_isNameOrNone a6) (fun u44 => if u44 = 0 then (some ((-2 : Int32), σ)) else (caRestE FU σ (nI m) (nI to) a3 a4 a5 a6)))))))))))) = z := by
                intro z hz
                show Option.bind (f_E_isMethod σ (nI to)) _ = _
                rw [e2]
                show Option.bind (f_E_isNameOrNone a3) _ = _
                rw [e_nn_g g3]
                show Option.bind (f_E_isNameOrNone a4) _ = _
                rw [e_nn_g g4]
                show Option.bind (f_E_isNameOrNone a5) _ = _
                rw [e_nn_g g5]
                show Option.bind (f_E_isNameOrNone a6) _ = _
                rw [e_nn_g g6]
                exact hz
              have hMm : ∀ z, caRest τ (nI m) (nI to) a3 a4 a5 a6 = z → Option.bind (some (1 : Int32)) (fun u2 => if u2 = 0 then (some ((-2 : Int32), τ)) else (Option.bind (f_M_isMethod τ (nI to)) (fun u10 => if u10 = 0 then (some ((-2 : Int32), τ)) else (Option.bind (f_M_isNameOrNone a3) (fun u17 => if u17 = 0 then (some ((-2 : Int32), τ)) else (Option.bind (f_M_isNameOrNone a4) (fun u25 => if u25 = 0 then (some ((-2 : Int32), τ)) else (Option.bind (f_M_isNameOrNone a5) (fun u33 => if u33 = 0 then (some ((-2 : Int32), τ)) else (Option.bind (f_M_isNameOrNone a6) (fun u41 => if u41 = 0 then (some ((-2 : Int32), τ)) else (caRest τ (nI m) (nI to) a3 a4 a5 a6)))))))))))) = z := by
                intro z hz
                show Option.bind (f_M_isMethod τ (nI to)) _ = _
                rw [m2]
                show Option.bind (f_M_isNameOrNone a3) _ = _
                rw [m_nn_g g3]
                show Option.bind (f_M_isNameOrNone a4) _ = _
                rw [m_nn_g g4]
                show Option.bind (f_M_isNameOrNone a5) _ = _
                rw [m_nn_g g5]
                show Option.bind (f_M_isNameOrNone a6) _ = _
                rw [m_nn_g g6]
                exact hz
              have nM : nI (pS p) = 64 ↔ pS p = 64 := nI_eq (b := 64) (by omega) (by omega)
              have er : f_P_hasRoomFor σ 6 = some (if pS p < 64 ∧ (6 = 0 → pT p < 16) then 1 else 0) := e_room h hw (k := 6) (by omega)
              by_cases room : pS p < 64
              · have hA2 : AE (su σ 2 10 0) p := AE_su h (by omega)
                obtain ⟨σ1, w1, w10, w11, w12, w5, w6, w7, w8, w8', w9, wn⟩ := e_addStep (m := m) (k := 6) (F := FU) hA2 room (fun z => by omega) (by omega) (by decide)
                generalize hσ2 : sr σ1 8 (upd (upd (upd (upd (upd (σ1 8) (5 * pS p + 0) (nI to)) (5 * pS p + 1) a3) (5 * pS p + 2) a4) (5 * pS p + 3) a5) (5 * pS p + 4) a6) = σ2
                have e1 : caRestE FU σ (nI m) (nI to) a3 a4 a5 a6 = some (nI (pS p), σ2) := by
                  unfold caRestE
                  rw [er, if_pos ⟨room, fun z => by omega⟩]
                  show Option.bind (f_P_addStep FU (su σ 2 10 0) (nI m) (nI 6)) _ = _
                  rw [w1]
                  show Option.bind (f_P_setNeed σ1 (nI (pS p)) (nI 0) (nI to)) _ = _
                  rw [e_setNeed room (by omega)]
                  show Option.bind (f_P_setNeed (sr σ1 8 _) (nI (pS p)) (nI 1) a3) _ = _
                  rw [e_setNeed room (by omega), sr_s, sr_sr]
                  show Option.bind (f_P_setNeed (sr σ1 8 _) (nI (pS p)) (nI 2) a4) _ = _
                  rw [e_setNeed room (by omega), sr_s, sr_sr]
                  show Option.bind (f_P_setNeed (sr σ1 8 _) (nI (pS p)) (nI 3) a5) _ = _
                  rw [e_setNeed room (by omega), sr_s, sr_sr]
                  show Option.bind (f_P_setNeed (sr σ1 8 _) (nI (pS p)) (nI 4) a6) _ = _
                  rw [e_setNeed room (by omega), sr_s, sr_sr, hσ2]
                  rfl
                have mm2 : ∀ r, r ≠ 8 → σ2 r = σ1 r := fun r hr => by rw [← hσ2, sr_n hr]
                generalize hτ1 : sr τ 4 (upd (upd (upd (upd (upd (τ 4) (5 * pS p) (nI to)) (5 * pS p + 1) a3) (5 * pS p + 2) a4) (5 * pS p + 3) a5) (5 * pS p + 4) a6) = τ1
                have t0 : τ1 0 = τ 0 := by rw [← hτ1, sr_n (by omega)]
                have tn : ∀ r, r ≠ 4 → τ1 r = τ r := fun r hr => by rw [← hτ1, sr_n hr]
                have t4 : τ1 4 = upd (upd (upd (upd (upd (τ 4) (5 * pS p) (nI to)) (5 * pS p + 1) a3) (5 * pS p + 2) a4) (5 * pS p + 3) a5) (5 * pS p + 4) a6 := by rw [← hτ1, sr_s]
                obtain ⟨τ2, x1, x10, x11, x12, x13, x5, x6, x7, x9, xn⟩ := m_add (τ := τ1) (S := pS p) (T := pT p) (m := m) (k := 6) (by rw [t0]; exact h'.2.1) (by rw [t0]; exact h'.2.2.1) room (fun z => by omega) (by omega)
                have e3 : caRest τ (nI m) (nI to) a3 a4 a5 a6 = some (nI (pS p), τ2) := by
                  unfold caRest
                  rw [h'.2.1, if_neg (fun z => by have := nM.mp z; omega)]
                  have i5 : ¬ (nI (5 * pS p) < 0 ∨ 320 ≤ 5 * pS p) := fun z => z.elim (ix_n (by omega)) (by omega)
                  have i51 : ¬ (nI (5 * pS p + 1) < 0 ∨ 320 ≤ 5 * pS p + 1) := fun z => z.elim (ix_n (by omega)) (by omega)
                  have i52 : ¬ (nI (5 * pS p + 2) < 0 ∨ 320 ≤ 5 * pS p + 2) := fun z => z.elim (ix_n (by omega)) (by omega)
                  have i53 : ¬ (nI (5 * pS p + 3) < 0 ∨ 320 ≤ 5 * pS p + 3) := fun z => z.elim (ix_n (by omega)) (by omega)
                  have i54 : ¬ (nI (5 * pS p + 4) < 0 ∨ 320 ≤ 5 * pS p + 4) := fun z => z.elim (ix_n (by omega)) (by omega)
                  have c5 : (nI (5 * pS p)).toNatClampNeg = 5 * pS p := ix_c (by omega)
                  have c51 : (nI (5 * pS p + 1)).toNatClampNeg = 5 * pS p + 1 := ix_c (by omega)
                  have c52 : (nI (5 * pS p + 2)).toNatClampNeg = 5 * pS p + 2 := ix_c (by omega)
                  have c53 : (nI (5 * pS p + 3)).toNatClampNeg = 5 * pS p + 3 := ix_c (by omega)
                  have c54 : (nI (5 * pS p + 4)).toNatClampNeg = 5 * pS p + 4 := ix_c (by omega)
                  unfold caWr
                  simp only [lett, sr_n (show (0 : Nat) ≠ 4 by omega), sr_s, h'.2.1, n5_I, nI_1, nI_p2, nI_p3, nI_p4, c5, c51, c52, c53, c54, if_pos i5, if_pos i51, if_pos i52, if_pos i53, if_pos i54, sr_sr]
                  rw [hτ1]
                  show Option.bind (f_M_add τ1 (nI m) (nI 6)) _ = _
                  rw [x1]
                  rfl
                generalize hnv : n5n to a3 a4 a5 a6 = nv
                have good : ∀ i, i < 5 → nv i < limN (pM p) 6 i ∧ n5v (nI to) a3 a4 a5 a6 i = ndI 6 i (nv i) := by
                  intro i hi
                  rw [← hnv]
                  rcases (show i = 0 ∨ i = 1 ∨ i = 2 ∨ i = 3 ∨ i = 4 by omega) with rfl | rfl | rfl | rfl | rfl
                  · exact ⟨hto, ndI_z.symm⟩
                  · exact nvN_ok g3 (by omega)
                  · exact nvN_ok g4 (by omega)
                  · exact nvN_ok g5 (by omega)
                  · exact nvN_ok g6 (by omega)
                have hw2 : WF (addP p m 6 nv) := WF_add hw hm (by omega) room (fun z => by omega) (fun i hi => (good i hi).1)
                have hAE : AE σ2 (addP p m 6 nv) := by
                  refine AE_add h hw ?_ ?_ ?_ ?_ ?_ ?_ ?_ ?_ ?_
                  · rw [mm2 1 (by omega), w10, su_n (by omega)]; exact h.1
                  · rw [mm2 1 (by omega), w11]
                  · rw [mm2 1 (by omega), w12]
                  · rw [mm2 5 (by omega), w5, su_n (by omega)]
                  · rw [mm2 6 (by omega), w6, su_n (by omega)]
                  · rw [mm2 7 (by omega), w7, su_n (by omega)]
                  · intro j hj
                    rw [← hσ2, sr_s, pk_un (by omega), pk_un (by omega), pk_un (by omega), pk_un (by omega), pk_un (by omega), w8 j hj, su_n (by omega)]
                  · intro i hi
                    rw [if_pos (show i < nds 6 from hi), ← (good i hi).2, ← hσ2, sr_s]
                    rcases (show i = 0 ∨ i = 1 ∨ i = 2 ∨ i = 3 ∨ i = 4 by omega) with rfl | rfl | rfl | rfl | rfl
                    · rw [pk_un (by omega), pk_un (by omega), pk_un (by omega), pk_un (by omega), pk_us]; rfl
                    · rw [pk_un (by omega), pk_un (by omega), pk_un (by omega), pk_us]; rfl
                    · rw [pk_un (by omega), pk_un (by omega), pk_us]; rfl
                    · rw [pk_un (by omega), pk_us]; rfl
                    · rw [pk_us]; rfl
                  · rw [mm2 9 (by omega), w9, su_n (by omega)]
                have hAM : AM τ2 (addP p m 6 nv) := by
                  refine AM_add h' hw ?_ x11 x12 ?_ ?_ ?_ ?_ ?_ ?_
                  · rw [x10, t0]; exact h'.1
                  · rw [x5, tn 1 (by omega)]
                  · rw [x6, tn 2 (by omega)]
                  · rw [x7, tn 3 (by omega)]
                  · intro j hj
                    rw [xn 4 (by omega), t4, pk_un (by omega), pk_un (by omega), pk_un (by omega), pk_un (by omega), pk_un (by omega)]
                  · intro i hi
                    have hi5 : i < 5 := hi
                    rw [xn 4 (by omega), t4, ← (good i hi5).2]
                    rcases (show i = 0 ∨ i = 1 ∨ i = 2 ∨ i = 3 ∨ i = 4 by omega) with rfl | rfl | rfl | rfl | rfl
                    · rw [pk_un (by omega), pk_un (by omega), pk_un (by omega), pk_un (by omega)]; exact pk_us
                    · rw [pk_un (by omega), pk_un (by omega), pk_un (by omega)]; exact pk_us
                    · rw [pk_un (by omega), pk_un (by omega)]; exact pk_us
                    · rw [pk_un (by omega)]; exact pk_us
                    · exact pk_us
                  · rw [x9, tn 5 (by omega)]
                have hzE : ZE σ2 := hz.same (by rw [mm2 10 (by omega), wn 10 (by omega) (by omega), su_n (by omega)]) (by rw [mm2 11 (by omega), wn 11 (by omega) (by omega), su_n (by omega)]) (by rw [mm2 12 (by omega), wn 12 (by omega) (by omega), su_n (by omega)]) (by rw [mm2 13 (by omega), wn 13 (by omega) (by omega), su_n (by omega)]) (by rw [mm2 14 (by omega), wn 14 (by omega) (by omega), su_n (by omega)])
                have hzM : ZM τ2 := hz'.same (by rw [xn 6 (by omega), tn 6 (by omega)]) (by rw [xn 7 (by omega), tn 7 (by omega)]) (by rw [xn 8 (by omega), tn 8 (by omega)]) (by rw [xn 9 (by omega), tn 9 (by omega)])
                have h210 : σ2 2 10 = 0 := by rw [mm2 2 (by omega), wn 2 (by omega) (by omega), su_s]
                exact ⟨(nI (pS p), σ2), (nI (pS p), τ2), hE _ e1, hMm _ e3, rfl, addP p m 6 nv, hw2, hAE, hAM, hzE, hzM, Or.inl h210, Or.inl x13⟩
              · refine ⟨(-3, σ), (-3, τ), hE _ ?_, hMm _ ?_, rfl, hR0⟩
                · unfold caRestE
                  rw [er, if_neg (fun z => room z.1)]
                  rfl
                · unfold caRest
                  rw [h'.2.1, if_pos (nM.mpr (by omega))]
            · apply bad
              · show Option.bind (f_E_isMethod σ (nI to)) _ = _
                rw [e2]
                show Option.bind (f_E_isNameOrNone a3) _ = _
                rw [e_nn_g g3]
                show Option.bind (f_E_isNameOrNone a4) _ = _
                rw [e_nn_g g4]
                show Option.bind (f_E_isNameOrNone a5) _ = _
                rw [e_nn_g g5]
                show Option.bind (f_E_isNameOrNone a6) _ = _
                rw [e_nn_b g6]
                rfl
              · show Option.bind (f_M_isMethod τ (nI to)) _ = _
                rw [m2]
                show Option.bind (f_M_isNameOrNone a3) _ = _
                rw [m_nn_g g3]
                show Option.bind (f_M_isNameOrNone a4) _ = _
                rw [m_nn_g g4]
                show Option.bind (f_M_isNameOrNone a5) _ = _
                rw [m_nn_g g5]
                show Option.bind (f_M_isNameOrNone a6) _ = _
                rw [m_nn_b g6]
                rfl
          · apply bad
            · show Option.bind (f_E_isMethod σ (nI to)) _ = _
              rw [e2]
              show Option.bind (f_E_isNameOrNone a3) _ = _
              rw [e_nn_g g3]
              show Option.bind (f_E_isNameOrNone a4) _ = _
              rw [e_nn_g g4]
              show Option.bind (f_E_isNameOrNone a5) _ = _
              rw [e_nn_b g5]
              rfl
            · show Option.bind (f_M_isMethod τ (nI to)) _ = _
              rw [m2]
              show Option.bind (f_M_isNameOrNone a3) _ = _
              rw [m_nn_g g3]
              show Option.bind (f_M_isNameOrNone a4) _ = _
              rw [m_nn_g g4]
              show Option.bind (f_M_isNameOrNone a5) _ = _
              rw [m_nn_b g5]
              rfl
        · apply bad
          · show Option.bind (f_E_isMethod σ (nI to)) _ = _
            rw [e2]
            show Option.bind (f_E_isNameOrNone a3) _ = _
            rw [e_nn_g g3]
            show Option.bind (f_E_isNameOrNone a4) _ = _
            rw [e_nn_b g4]
            rfl
          · show Option.bind (f_M_isMethod τ (nI to)) _ = _
            rw [m2]
            show Option.bind (f_M_isNameOrNone a3) _ = _
            rw [m_nn_g g3]
            show Option.bind (f_M_isNameOrNone a4) _ = _
            rw [m_nn_b g4]
            rfl
      · apply bad
        · show Option.bind (f_E_isMethod σ (nI to)) _ = _
          rw [e2]
          show Option.bind (f_E_isNameOrNone a3) _ = _
          rw [e_nn_b g3]
          rfl
        · show Option.bind (f_M_isMethod τ (nI to)) _ = _
          rw [m2]
          show Option.bind (f_M_isNameOrNone a3) _ = _
          rw [m_nn_b g3]
          rfl
    · apply bad
      · show Option.bind (f_E_isMethod σ a2) _ = _
        rw [e_isM_out h ho]
        rfl
      · show Option.bind (f_M_isMethod τ a2) _ = _
        rw [m_isM_out h' hw ho]
        rfl
  · rw [e_isM_out h ho, m_isM_out h' hw ho]
    exact bad rfl rfl
