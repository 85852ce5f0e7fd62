/-! The solution, as class and reference hold it. -/
def XS (p : PG) : XX := itX p (liveP p) 2241
def s0P (p : PG) : Int32 := opn p (XS p) (pS p)
def itP (p : PG) : Nat → Int32 := itH (XS p).2.1 (s0P p)
theorem XS_inv {p : PG} (hw : WF p) : INV p (liveP p) (XS p) := itX_inv hw (lvc_live hw) 2241
def SolE (σ : St) (p : PG) : Prop := σ 2 10 = 1 ∧ σ 2 7 = liveP p ∧ σ 10 = calE p (liveP p) ∧ xE σ = XS p ∧ σ 2 8 = itP p 16 ∧ (∀ s, s < 16 → LV (itP p) s (σ 15 s)) ∧ GL (itP p) (σ 2 9)
def SolM (τ : St) (p : PG) : Prop := τ 0 13 = 0 ∧ τ 0 12 = liveP p ∧ xM τ = XS p
def ZE (σ : St) : Prop := (∀ i, 8 ≤ i → σ 10 i = 0) ∧ (∀ i, 64 ≤ i → σ 11 i = 0) ∧ (∀ i, 64 ≤ i → σ 12 i = 0) ∧ (∀ i, 4 ≤ i → σ 13 i = 0) ∧ (∀ i, 8 ≤ i → σ 14 i = 0)
def ZM (τ : St) : Prop := (∀ i, 64 ≤ i → τ 6 i = 0) ∧ (∀ i, 64 ≤ i → τ 7 i = 0) ∧ (∀ i, 4 ≤ i → τ 8 i = 0) ∧ (∀ i, 8 ≤ i → τ 9 i = 0)
theorem okv_low {p : PG} (hw : WF p) {lv x : Int32} (h : okv p lv x) : lowb 16 x := fun i hi => by have := (h i hi).1; have := hw.2.2.2.1; omega
theorem fld_z {p : PG} (hw : WF p) {lv : Int32} {X : XX} (hI : INV p lv X) : ∀ i, 64 ≤ i → X.2.1 i = 0 := by
  intro i hi
  have hT := hw.2.2.2.1
  have := hI.2.2.1 (i / 4) (i % 4) (by omega) (by omega)
  rw [show 4 * (i / 4) + i % 4 = i by omega] at this
  exact this
section SS
variable {σ τ : St} {p : PG} {F : Nat}
theorem e_solve (h : AE σ p) (hw : WF p) (hz : ZE σ) (h10 : σ 2 10 = 0) (hF : 2300 < F) : ∃ σ', f_S_solve F σ = some σ' ∧ SolE σ' p ∧ ZE σ' ∧ (∀ k, k = 0 ∨ k = 1 ∨ k = 3 ∨ k = 4 ∨ (5 ≤ k ∧ k ≤ 9) ∨ k = 16 → σ' k = σ k) := by
  obtain ⟨z10, z11, z12, z13, z14⟩ := hz
  have fz : ∀ (f : Nat → Int32) (n : Nat), (∀ i, n ≤ i → f i = 0) → (fun i => if i < n then (0 : Int32) else f i) = fun _ => 0 := by
    intro f n hf
    funext i
    by_cases c : i < n
    · rw [if_pos c]
    · rw [if_neg c, hf i (by omega)]
  generalize hs1 : su σ 2 10 1 = s1
  have n1 : ∀ k, k ≠ 2 → s1 k = σ k := fun k hk => by rw [← hs1, su_n hk]
  generalize hs2 : sr s1 10 (fun _ => 0) = s2
  have n2 : ∀ k, k ≠ 10 → s2 k = s1 k := fun k hk => by rw [← hs2, sr_n hk]
  generalize hs3 : sr s2 11 (fun _ => 0) = s3
  have n3 : ∀ k, k ≠ 11 → s3 k = s2 k := fun k hk => by rw [← hs3, sr_n hk]
  generalize hs4 : sr s3 12 (fun _ => 0) = s4
  have n4 : ∀ k, k ≠ 12 → s4 k = s3 k := fun k hk => by rw [← hs4, sr_n hk]
  generalize hs5 : sr s4 13 (fun _ => 0) = s5
  have n5 : ∀ k, k ≠ 13 → s5 k = s4 k := fun k hk => by rw [← hs5, sr_n hk]
  generalize hs6 : sr s5 14 (fun _ => 0) = s6
  have n6 : ∀ k, k ≠ 14 → s6 k = s5 k := fun k hk => by rw [← hs6, sr_n hk]
  have nn : ∀ k, k ≠ 2 → (k < 10 ∨ 14 < k) → s6 k = σ k := fun k h1 h2 => by rw [n6 k (by omega), n5 k (by omega), n4 k (by omega), n3 k (by omega), n2 k (by omega), n1 k h1]
  have e2 : s6 2 = s1 2 := by rw [n6 2 (by omega), n5 2 (by omega), n4 2 (by omega), n3 2 (by omega), n2 2 (by omega)]
  have e10 : s6 10 = fun _ => 0 := by rw [n6 10 (by omega), n5 10 (by omega), n4 10 (by omega), n3 10 (by omega), ← hs2, sr_s]
  have exE : xE s6 = X0 := by
    unfold xE X0
    rw [n6 11 (by omega), n5 11 (by omega), n4 11 (by omega), ← hs3, sr_s, n6 12 (by omega), n5 12 (by omega), ← hs4, sr_s, n6 13 (by omega), ← hs5, sr_s, ← hs6, sr_s]
  have hA6 : AE s6 p := h.same (nn 1 (by omega) (by omega)) (nn 5 (by omega) (by omega)) (nn 6 (by omega) (by omega)) (nn 7 (by omega) (by omega)) (nn 8 (by omega) (by omega)) (nn 9 (by omega) (by omega))
  obtain ⟨s7, e7, r10, r27, r2j, rn⟩ := e_findLive hA6 hw e10 (F := F) (by omega)
  have hA7 : AE s7 p := hA6.same (rn 1 (by omega) (by omega)) (rn 5 (by omega) (by omega)) (rn 6 (by omega) (by omega)) (rn 7 (by omega) (by omega)) (rn 8 (by omega) (by omega)) (rn 9 (by omega) (by omega))
  have x7 : xE s7 = X0 := by
    rw [← exE]
    unfold xE
    rw [rn 11 (by omega) (by omega), rn 12 (by omega) (by omega), rn 13 (by omega) (by omega), rn 14 (by omega) (by omega)]
  have hlc := lvc_live hw
  obtain ⟨K, hK, hg, hgt⟩ := itX_end hw hlc
  -- the sweeps
  have hloop : f_S_solve_L61 F F (nI 1) (nI 0) s7 = some (nI 0, nI (K + 1), setE s7 (itX p (liveP p) (K + 1))) := by
    have hl := loop3 (K + 1) (f_S_solve_L61 F) (fun k => if k = K + 1 then nI 0 else nI 1) (fun k => nI k) (fun k => setE s7 (itX p (liveP p) k)) (nI 0, nI (K + 1), setE s7 (itX p (liveP p) (K + 1))) (fun fu => by
      show f_S_solve_B61 F _ (if K + 1 = K + 1 then nI 0 else nI 1) (nI (K + 1)) _ = _
      rw [if_pos rfl]
      unfold f_S_solve_B61
      rw [if_pos (show nI 0 = 0 from rfl)]) (fun k fu hk => by
      show f_S_solve_B61 F _ (if k = K + 1 then nI 0 else nI 1) (nI k) (setE s7 (itX p (liveP p) k)) = f_S_solve_L61 F fu (if k + 1 = K + 1 then nI 0 else nI 1) (nI (k + 1)) (setE s7 (itX p (liveP p) (k + 1)))
      rw [if_neg (by omega)]
      unfold f_S_solve_B61
      rw [if_neg (show ¬ nI 1 = 0 by decide), if_neg (lt_2241 (by omega)), e_sweep (AE_set hA7) hw (by omega), setE_o (k := 2) (by omega), r27, xE_set, setE_set, nI_1]
      show f_S_solve_L61 F fu (bI (itG p (liveP p) k)) (nI (k + 1)) (setE s7 (itX p (liveP p) (k + 1))) = _
      by_cases c : k = K
      · rw [c, hg, if_pos rfl]; rfl
      · rw [hgt k (by omega), if_neg (by omega)]; rfl) F (by omega)
    have e : setE s7 (itX p (liveP p) 0) = s7 := by
      show setE s7 X0 = s7
      rw [← x7, setE_id]
    rw [e] at hl
    simpa using hl
  have hXS : itX p (liveP p) (K + 1) = XS p := by
    unfold XS
    rw [itX_stay hw hlc hg (K + 1) (by omega), itX_stay hw hlc hg 2241 (by omega)]
  rw [hXS] at hloop
  have hI := XS_inv hw
  generalize hs8 : setE s7 (XS p) = s8 at hloop
  have n8 : ∀ k, k < 11 ∨ 14 < k → s8 k = s7 k := fun k hk => by rw [← hs8, setE_o hk]
  have x8 : xE s8 = XS p := by rw [← hs8, xE_set]
  have q11 : s8 11 = (XS p).1 := congrArg (fun X : XX => X.1) x8
  have q12 : s8 12 = (XS p).2.1 := congrArg (fun X : XX => X.2.1) x8
  have q13 : s8 13 = (XS p).2.2.1 := congrArg (fun X : XX => X.2.2.1) x8
  have hA8 : AE s8 p := hA7.same (n8 1 (by omega)) (n8 5 (by omega)) (n8 6 (by omega)) (n8 7 (by omega)) (n8 8 (by omega)) (n8 9 (by omega))
  obtain ⟨L, a, b, e9, ra, rL, rb⟩ := e_findShared hA8 hw (F := F) (fun i => by rw [q11]; exact okv_low hw (hI.1.1 i)) (fun i => by rw [q13]; exact okv_low hw (hI.1.2.2.1 i)) (fun i => by rw [q12]; exact okv_low hw (hI.1.2.1 i)) (by omega)
  rw [x8, q12] at ra rL rb
  have xf : xE (setS s8 L a b) = XS p := by
    rw [← x8]
    unfold xE
    rw [setS_o (by omega) (by omega), setS_o (by omega) (by omega), setS_o (by omega) (by omega), setS_o (by omega) (by omega)]
  refine ⟨setS s8 L a b, ?_, ⟨?_, ?_, ?_, xf, ?_, ?_, ?_⟩, ⟨?_, ?_, ?_, ?_, ?_⟩, ?_⟩
  · unfold f_S_solve
    rw [if_pos h10]
    simp only [lett]
    rw [hs1, v_fill (by omega) (by omega), fz (s1 10) 8 (by rw [n1 10 (by omega)]; exact z10)]
    show Option.bind (f_E_fill F 64 (sr s1 10 (fun _ => 0) 11) 0) _ = _
    rw [hs2, v_fill (by omega) (by omega), fz (s2 11) 64 (by rw [n2 11 (by omega), n1 11 (by omega)]; exact z11)]
    show Option.bind (f_E_fill F 64 (sr s2 11 (fun _ => 0) 12) 0) _ = _
    rw [hs3, v_fill (by omega) (by omega), fz (s3 12) 64 (by rw [n3 12 (by omega), n2 12 (by omega), n1 12 (by omega)]; exact z12)]
    show Option.bind (f_E_fill F 4 (sr s3 12 (fun _ => 0) 13) 0) _ = _
    rw [hs4, v_fill (by omega) (by omega), fz (s4 13) 4 (by rw [n4 13 (by omega), n3 13 (by omega), n2 13 (by omega), n1 13 (by omega)]; exact z13)]
    show Option.bind (f_E_fill F 8 (sr s4 13 (fun _ => 0) 14) 0) _ = _
    rw [hs5, v_fill (by omega) (by omega), fz (s5 14) 8 (by rw [n5 14 (by omega), n4 14 (by omega), n3 14 (by omega), n2 14 (by omega), n1 14 (by omega)]; exact z14)]
    show Option.bind (f_S_findLive F (sr s5 14 (fun _ => 0))) _ = _
    rw [hs6, e7]
    show Option.bind (f_S_solve_L61 F F (nI 1) (nI 0) s7) _ = _
    rw [hloop]
    show Option.bind (f_S_findShared F s8) _ = _
    rw [e9]
    rfl
  · rw [setS_2j (by omega) (by omega), n8 2 (by omega), r2j 10 (by omega), e2, ← hs1, su_s]
  · rw [setS_2j (by omega) (by omega), n8 2 (by omega), r27]
  · rw [setS_o (by omega) (by omega), n8 10 (by omega), r10]
  · rw [setS_28]; exact ra
  · intro s hs
    exact rL s hs
  · rw [setS_29]; exact rb
  · intro i hi
    rw [setS_o (by omega) (by omega), n8 10 (by omega), r10]
    unfold calE
    rw [if_neg (by omega), cal_big hw (by have := hw.2.1; omega)]
  · intro i hi
    rw [setS_o (by omega) (by omega), q11]; exact hI.2.2.2.1 i hi
  · intro i hi
    rw [setS_o (by omega) (by omega), q12]; exact fld_z hw hI i hi
  · intro i hi
    rw [setS_o (by omega) (by omega), q13]; exact hI.2.2.2.2.1 i hi
  · intro i hi
    have q14 : s8 14 = (XS p).2.2.2 := congrArg (fun X : XX => X.2.2.2) x8
    rw [setS_o (by omega) (by omega), q14]; exact hI.2.2.2.2.2 i hi
  · intro k hk
    rw [setS_o (by omega) (by omega), n8 k (by omega), rn k (by omega) (by omega), nn k (by omega) (by omega)]
theorem m_isLive (h : AM τ p) (hw : WF p) {s : Nat} (hs : s < pS p) : f_M_isLive τ (nI s) = some (bI (bt (τ 0 12) (pow p s))) := by
  obtain ⟨h64, hm, hst⟩ := WF_step hw hs
  unfold f_M_isLive
  rw [if_pos (ix_in (by omega) (by omega)), ix_c (by omega), (h.2.2.2.1 s hs).1, v_Mhas (by omega)]
  exact bIchk _ _
theorem m_sweep (h : AM τ p) (hw : WF p) (hc : lvc p (τ 0 12)) (hI : INV p (τ 0 12) (xM τ)) (hg : τ 0 14 = bI false) (hF : 64 < F) : f_M_solve_L110 F F (nI 0) τ = some (nI (pS p), setM τ (swX p (τ 0 12) (xM τ) (pS p)) (swG p (τ 0 12) (xM τ) (pS p))) := by
  have hS := hw.2.2.1
  have hl := loop2 (pS p) (f_M_solve_L110 F) (fun k => nI k) (fun k => setM τ (swX p (τ 0 12) (xM τ) k) (swG p (τ 0 12) (xM τ) k)) (nI (pS p), setM τ (swX p (τ 0 12) (xM τ) (pS p)) (swG p (τ 0 12) (xM τ) (pS p))) (fun fu => by
      show f_M_solve_B110 F _ (nI (pS p)) (setM _ _ _) = _
      unfold f_M_solve_B110
      rw [setM_0 (by omega), h.2.1, if_pos (nI_le (Nat.le_refl _) (by omega))]) (fun k fu hk => by
      show f_M_solve_B110 F _ (nI k) (setM τ (swX p (τ 0 12) (xM τ) k) (swG p (τ 0 12) (xM τ) k)) = f_M_solve_L110 F fu (nI (k + 1)) (setM τ (swX p (τ 0 12) (xM τ) (k + 1)) (swG p (τ 0 12) (xM τ) (k + 1)))
      unfold f_M_solve_B110
      rw [setM_0 (by omega), h.2.1, if_neg (nI_ge hk (by omega)), m_isLive (AM_set h) hw hk, setM_0 (by omega), nI_1, swX_s, swG_s]
      show (if bI (bt (τ 0 12) (pow p k)) = 0 then _ else _) = _
      rw [bIif]
      by_cases c : bt (τ 0 12) (pow p k) = true
      · have hIk := (sw_all hw hc hI k (by omega)).1
        rw [if_pos c, if_pos c, if_pos c, m_doStep (AM_set h) hw (setM_g _ _ _) (fun i j hj => by
          have e : setM τ (swX p (τ 0 12) (xM τ) k) (swG p (τ 0 12) (xM τ) k) 6 = (swX p (τ 0 12) (xM τ) k).1 := rfl
          rw [e]
          cases g : bt ((swX p (τ 0 12) (xM τ) k).1 i) j
          · rfl
          · have := (hIk.1.1 i j g).1
            omega) hk (by omega), xM_set, setM_set]
        rfl
      · rw [if_neg c, if_neg c, if_neg c]) F (by omega)
  rw [← hl]
  show _ = f_M_solve_L110 F F (nI 0) (setM τ (xM τ) false)
  rw [setM_id hg]
theorem m_solve (h : AM τ p) (hw : WF p) (hz : ZM τ) (h13 : τ 0 13 = 1) (hF : 2300 < F) : ∃ τ', f_M_solve F τ = some τ' ∧ SolM τ' p ∧ ZM τ' ∧ (∀ j, j ≠ 12 → j ≠ 13 → j ≠ 14 → τ' 0 j = τ 0 j) ∧ (∀ k, k ≠ 0 → k < 6 ∨ 9 < k → τ' k = τ k) := by
  obtain ⟨z6, z7, z8, z9⟩ := hz
  generalize hs1 : su τ 0 13 0 = s1
  have n1 : ∀ k, k ≠ 0 → s1 k = τ k := fun k hk => by rw [← hs1, su_n hk]
  have l15 := loop2 64 (f_M_solve_L15 F) (fun k => nI k) (fun k => sr (sr s1 6 (fun i => if i < k then 0 else s1 6 i)) 7 (fun i => if i < k then 0 else s1 7 i)) (nI 64, sr (sr s1 6 (fun i => if i < 64 then 0 else s1 6 i)) 7 (fun i => if i < 64 then 0 else s1 7 i)) (fun fu => by
      show f_M_solve_B15 F _ (nI 64) _ = _
      unfold f_M_solve_B15
      rw [if_pos le_64]) (fun k fu hk => by
      show f_M_solve_B15 F _ (nI k) _ = f_M_solve_L15 F fu (nI (k + 1)) _
      have ix : ¬ (nI k < 0 ∨ 64 ≤ k) := fun z => z.elim (ix_n (by omega)) (by omega)
      have ec : (nI k).toNatClampNeg = k := ix_c (by omega)
      have step : ∀ f : Nat → Int32, upd (fun i => if i < k then 0 else f i) k 0 = fun i => if i < k + 1 then 0 else f i := by
        intro f
        funext i
        unfold upd
        by_cases g : i = k
        · rw [if_pos g, if_pos (by omega)]
        · rw [if_neg g]
          show (if i < k then 0 else f i) = _
          by_cases d : i < k
          · rw [if_pos d, if_pos (by omega)]
          · rw [if_neg d, if_neg (by omega)]
      unfold f_M_solve_B15
      simp only [lett, ec, if_pos ix, nI_1]
      rw [if_neg (lt_64 hk)]
      congr 1
      rw [sr_n (show (6 : Nat) ≠ 7 by omega), sr_s, step, sr_n (show (7 : Nat) ≠ 6 by omega), sr_s, step]
      funext j
      by_cases h7 : j = 7
      · subst h7; rw [sr_s, sr_s]
      · rw [sr_n h7, sr_n h7]
        by_cases h6 : j = 6
        · subst h6; rw [sr_s, sr_s]
        · rw [sr_n h6, sr_n h6, sr_n h7, sr_n h6]) F (by omega)
  have e15 : f_M_solve_L15 F F (nI 0) s1 = some (nI 64, sr (sr s1 6 (fun _ => 0)) 7 (fun _ => 0)) := by
    have a : (fun i => if i < 0 then (0 : Int32) else s1 6 i) = s1 6 := by funext i; simp
    have b : (fun i => if i < 0 then (0 : Int32) else s1 7 i) = s1 7 := by funext i; simp
    have c : (fun i => if i < 64 then (0 : Int32) else s1 6 i) = fun _ => 0 := by
      funext i
      by_cases g : i < 64
      · rw [if_pos g]
      · rw [if_neg g, n1 6 (by omega), z6 i (by omega)]
    have d : (fun i => if i < 64 then (0 : Int32) else s1 7 i) = fun _ => 0 := by
      funext i
      by_cases g : i < 64
      · rw [if_pos g]
      · rw [if_neg g, n1 7 (by omega), z7 i (by omega)]
    rw [c, d] at l15
    rw [← l15]
    show _ = f_M_solve_L15 F F (nI 0) (sr (sr s1 6 (fun i => if i < 0 then (0 : Int32) else s1 6 i)) 7 (fun i => if i < 0 then (0 : Int32) else s1 7 i))
    rw [a, b, sr_id, sr_id]
  generalize hs2 : sr (sr s1 6 (fun _ => 0)) 7 (fun _ => 0) = s2 at e15
  have n2 : ∀ k, k ≠ 6 → k ≠ 7 → s2 k = s1 k := fun k h6 h7 => by rw [← hs2, sr_n h7, sr_n h6]
  have fil : ∀ (row n : Nat) (g : St) (L : Nat → Int32 → St → Option (Int32 × St)), n < F → (∀ i, n ≤ i → g row i = 0) → (∀ fu f, L (fu + 1) (nI n) (sr g row f) = some (nI n, sr g row f)) → (∀ k fu f, k < n → L (fu + 1) (nI k) (sr g row f) = L fu (nI (k + 1)) (sr g row (upd f k 0))) → L F (nI 0) g = some (nI n, sr g row (fun _ => 0)) := by
    intro row n g L hn hz0 he hs
    have hl := loop2 n L (fun k => nI k) (fun k => sr g row (fun i => if i < k then 0 else g row i)) (nI n, sr g row (fun i => if i < n then 0 else g row i)) (fun fu => he fu _) (fun k fu hk => by
      show L (fu + 1) (nI k) (sr g row _) = L fu (nI (k + 1)) (sr g row _)
      rw [hs k fu _ hk]
      congr 2
      funext i
      unfold upd
      by_cases e : i = k
      · rw [if_pos e, if_pos (by omega)]
      · rw [if_neg e]
        show (if i < k then 0 else g row i) = _
        by_cases d : i < k
        · rw [if_pos d, if_pos (by omega)]
        · rw [if_neg d, if_neg (by omega)]) F hn
    have a : (fun i => if i < 0 then (0 : Int32) else g row i) = g row := by funext i; simp
    have c : (fun i => if i < n then (0 : Int32) else g row i) = fun _ => 0 := by
      funext i
      by_cases e : i < n
      · rw [if_pos e]
      · rw [if_neg e, hz0 i (by omega)]
    rw [c] at hl
    rw [← hl]
    show _ = L F (nI 0) (sr g row (fun i => if i < 0 then (0 : Int32) else g row i))
    rw [a, sr_id]
  have e43 : f_M_solve_L43 F F (nI 0) s2 = some (nI 8, sr s2 9 (fun _ => 0)) := fil 9 8 s2 (f_M_solve_L43 F) (by omega) (by rw [n2 9 (by omega) (by omega), n1 9 (by omega)]; exact z9) (fun fu f => by
      show f_M_solve_B43 F _ (nI 8) _ = _
      unfold f_M_solve_B43
      rw [if_pos le_8]) (fun k fu f hk => by
      show f_M_solve_B43 F _ (nI k) _ = _
      unfold f_M_solve_B43
      rw [if_neg (lt_8 hk), if_pos (ix_in hk (by omega)), ix_c (by omega), nI_1, sr_s]
      simp only [lett]
      rw [sr_sr])
  generalize hs3 : sr s2 9 (fun _ => 0) = s3 at e43
  have n3 : ∀ k, k ≠ 9 → s3 k = s2 k := fun k hk => by rw [← hs3, sr_n hk]
  have e64 : f_M_solve_L64 F F (nI 0) s3 = some (nI 4, sr s3 8 (fun _ => 0)) := fil 8 4 s3 (f_M_solve_L64 F) (by omega) (by rw [n3 8 (by omega), n2 8 (by omega) (by omega), n1 8 (by omega)]; exact z8) (fun fu f => by
      show f_M_solve_B64 F _ (nI 4) _ = _
      unfold f_M_solve_B64
      rw [if_pos le_4]) (fun k fu f hk => by
      show f_M_solve_B64 F _ (nI k) _ = _
      unfold f_M_solve_B64
      rw [if_neg (lt_4 hk), if_pos (ix_in hk (by omega)), ix_c (by omega), nI_1, sr_s]
      simp only [lett]
      rw [sr_sr])
  generalize hs4 : sr s3 8 (fun _ => 0) = s4 at e64
  have n4 : ∀ k, k ≠ 8 → s4 k = s3 k := fun k hk => by rw [← hs4, sr_n hk]
  have nn : ∀ k, k ≠ 0 → k < 6 ∨ 9 < k → s4 k = τ k := fun k h0 hk => by rw [n4 k (by omega), n3 k (by omega), n2 k (by omega) (by omega), n1 k h0]
  have e0 : s4 0 = s1 0 := by rw [n4 0 (by omega), n3 0 (by omega), n2 0 (by omega) (by omega)]
  have x4 : xM s4 = X0 := by
    unfold xM X0
    have a6 : s4 6 = fun _ => 0 := by rw [n4 6 (by omega), n3 6 (by omega), ← hs2, sr_n (by omega), sr_s]
    have a7 : s4 7 = fun _ => 0 := by rw [n4 7 (by omega), n3 7 (by omega), ← hs2, sr_s]
    have a8 : s4 8 = fun _ => 0 := by rw [← hs4, sr_s]
    have a9 : s4 9 = fun _ => 0 := by rw [n4 9 (by omega), ← hs3, sr_s]
    rw [a6, a7, a8, a9]
  have j4 : ∀ j, j ≠ 13 → s4 0 j = τ 0 j := fun j hj => by rw [e0, ← hs1, su_j hj]
  have hA4 : AM s4 p := h.same ⟨j4 0 (by omega), j4 1 (by omega), j4 2 (by omega)⟩ (nn 1 (by omega) (by omega)) (nn 2 (by omega) (by omega)) (nn 3 (by omega) (by omega)) (nn 4 (by omega) (by omega)) (nn 5 (by omega) (by omega))
  obtain ⟨r, er, hr⟩ := m_allCalled hA4 hw (F := F) (by omega) low_1
  have hr' : r = liveP p := Lst_u hr (liveP_lst hw)
  rw [hr'] at er
  generalize hs5 : su s4 0 12 (liveP p) = s5
  generalize hs6 : su s5 0 14 1 = s6
  have n6 : ∀ k, k ≠ 0 → s6 k = s4 k := fun k hk => by rw [← hs6, su_n hk, ← hs5, su_n hk]
  have j612 : s6 0 12 = liveP p := by rw [← hs6, su_j (by omega), ← hs5, su_s]
  have j614 : s6 0 14 = bI true := by rw [← hs6, su_s]; rfl
  have j6 : ∀ j, j ≠ 12 → j ≠ 14 → s6 0 j = s4 0 j := fun j h1 h2 => by rw [← hs6, su_j h2, ← hs5, su_j h1]
  have x6 : xM s6 = X0 := by
    rw [← x4]
    unfold xM
    rw [n6 6 (by omega), n6 7 (by omega), n6 8 (by omega), n6 9 (by omega)]
  have hA6 : AM s6 p := hA4.same ⟨j6 0 (by omega) (by omega), j6 1 (by omega) (by omega), j6 2 (by omega) (by omega)⟩ (n6 1 (by omega)) (n6 2 (by omega)) (n6 3 (by omega)) (n6 4 (by omega)) (n6 5 (by omega))
  have hlc := lvc_live hw
  obtain ⟨K, hK, hg, hgt⟩ := itX_end hw hlc
  have hloop : f_M_solve_L96 F F s6 = some (setM s6 (itX p (liveP p) (K + 1)) false) := by
    have hl := loop1 (K + 1) (f_M_solve_L96 F) (fun k => setM s6 (itX p (liveP p) k) (decide (k ≠ K + 1))) (setM s6 (itX p (liveP p) (K + 1)) false) (fun fu => by
      show f_M_solve_B96 F _ (setM s6 (itX p (liveP p) (K + 1)) (decide (K + 1 ≠ K + 1))) = _
      unfold f_M_solve_B96
      rw [decide_eq_false (by omega), setM_g, if_pos (show bI false = 0 from rfl)]) (fun k fu hk => by
      show f_M_solve_B96 F (f_M_solve_L96 F fu) (setM s6 (itX p (liveP p) k) (decide (k ≠ K + 1))) = f_M_solve_L96 F fu (setM s6 (itX p (liveP p) (k + 1)) (decide (k + 1 ≠ K + 1)))
      unfold f_M_solve_B96
      rw [decide_eq_true (by omega), setM_g, if_neg (show ¬ bI true = 0 by decide)]
      simp only [lett]
      have ez : su (setM s6 (itX p (liveP p) k) true) 0 14 0 = setM s6 (itX p (liveP p) k) false := by
        have e1 : su (setM s6 (itX p (liveP p) k) true) 0 14 0 = setM (su (setM s6 (itX p (liveP p) k) true) 0 14 0) (xM (su (setM s6 (itX p (liveP p) k) true) 0 14 0)) false := (setM_id (by rw [su_s]; rfl)).symm
        have e2 : xM (su (setM s6 (itX p (liveP p) k) true) 0 14 0) = itX p (liveP p) k := by
          unfold xM
          rw [su_n (by omega), su_n (by omega), su_n (by omega), su_n (by omega)]
          rfl
        rw [e2] at e1
        rw [e1]
        funext j
        by_cases h0 : j = 0
        · subst h0
          show upd (su (setM s6 (itX p (liveP p) k) true) 0 14 0 0) 14 (bI false) = upd (s6 0) 14 (bI false)
          funext i
          unfold upd
          by_cases hi : i = 14
          · rw [if_pos hi, if_pos hi]
          · rw [if_neg hi, if_neg hi, su_j hi, setM_0 hi]
        · by_cases hr : 6 ≤ j ∧ j ≤ 9
          · rcases (show j = 6 ∨ j = 7 ∨ j = 8 ∨ j = 9 by omega) with rfl | rfl | rfl | rfl <;> rfl
          · rw [setM_o (by omega), su_n h0, setM_o (by omega), setM_o (by omega)]
      rw [ez]
      have e12 : setM s6 (itX p (liveP p) k) false 0 12 = liveP p := by rw [setM_0 (by omega), j612]
      have := m_sweep (τ := setM s6 (itX p (liveP p) k) false) (F := F) (AM_set hA6) hw (by rw [e12]; exact hlc) (by rw [e12, xM_set]; exact itX_inv hw hlc k) (setM_g _ _ _) (by omega)
      rw [e12, xM_set, setM_set] at this
      rw [show (0 : Int32) = nI 0 from rfl, this]
      show f_M_solve_L96 F fu (setM s6 (itX p (liveP p) (k + 1)) (itG p (liveP p) k)) = _
      by_cases c : k = K
      · rw [c, hg, decide_eq_false (by omega)]
      · rw [hgt k (by omega), decide_eq_true (by omega)]) F (by omega)
    have e : setM s6 (itX p (liveP p) 0) (decide (0 ≠ K + 1)) = s6 := by
      rw [decide_eq_true (by omega)]
      show setM s6 X0 true = s6
      rw [← x6, setM_id j614]
    rw [e] at hl
    exact hl
  have hXS : itX p (liveP p) (K + 1) = XS p := by
    unfold XS
    rw [itX_stay hw hlc hg (K + 1) (by omega), itX_stay hw hlc hg 2241 (by omega)]
  rw [hXS] at hloop
  have hI := XS_inv hw
  refine ⟨setM s6 (XS p) false, ?_, ⟨?_, ?_, xM_set _ _ _⟩, ⟨hI.2.2.2.1, fld_z hw hI, hI.2.2.2.2.1, hI.2.2.2.2.2⟩, ?_, ?_⟩
  · unfold f_M_solve
    rw [if_neg (by rw [h13]; decide)]
    simp only [lett]
    rw [hs1, show (0 : Int32) = nI 0 from rfl, e15]
    show Option.bind (f_M_solve_L43 F F (nI 0) s2) _ = _
    rw [e43]
    show Option.bind (f_M_solve_L64 F F (nI 0) s3) _ = _
    rw [e64]
    show Option.bind (f_M_allCalled F s4 1) _ = _
    rw [er]
    show Option.bind (f_M_solve_L96 F F (su (su s4 0 12 (liveP p)) 0 14 1)) _ = _
    rw [hs5, hs6, hloop]
    rfl
  · rw [setM_0 (by omega), j6 13 (by omega) (by omega), e0, ← hs1, su_s]
  · rw [setM_0 (by omega), j612]
  · intro j h1 h2 h3
    rw [setM_0 h3, j6 j h1 h3, j4 j h2]
  · intro k h0 hk
    rw [setM_o (by omega), n6 k h0, nn k h0 hk]
end SS
