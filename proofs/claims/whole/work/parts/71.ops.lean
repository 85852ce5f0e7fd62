/-! clear, method, undo, told. -/
theorem ZE.same {σ σ' : St} (h : ZE σ) (a : σ' 10 = σ 10) (b : σ' 11 = σ 11) (c : σ' 12 = σ 12) (d : σ' 13 = σ 13) (e : σ' 14 = σ 14) : ZE σ' := by
  unfold ZE
  rw [a, b, c, d, e]
  exact h
theorem ZM.same {τ τ' : St} (h : ZM τ) (b : τ' 6 = τ 6) (c : τ' 7 = τ 7) (d : τ' 8 = τ 8) (e : τ' 9 = τ 9) : ZM τ' := by
  unfold ZM
  rw [b, c, d, e]
  exact h
theorem op_clear : Op_clear FU Rel := by
  intro σ τ hR
  obtain ⟨p, hw, h, h', hz, hz', hs, hs'⟩ := hR
  refine ⟨(σ 1 1, su (su (su (su σ 1 0 1) 1 1 0) 1 2 0) 2 10 0), (τ 0 1, su (su (su (su τ 0 1 0) 0 2 0) 0 0 1) 0 13 1), rfl, rfl, by show σ 1 1 = τ 0 1; rw [h.2.1, h'.2.1], ((1, 0, 0), p.2), ⟨Nat.le_refl _, (by decide : (1 : Nat) ≤ 8), (by decide : (0 : Nat) ≤ 64), (by decide : (0 : Nat) ≤ 16), fun s hs => absurd hs (Nat.not_lt_zero s), fun t ht => absurd ht (Nat.not_lt_zero t), fun t u _ hu => absurd hu (Nat.not_lt_zero u)⟩, ?_, ?_, ?_, ?_, Or.inl ?_, Or.inl ?_⟩
  · refine ⟨?_, ?_, ?_, fun s hs => absurd hs (Nat.not_lt_zero s), fun t ht => absurd ht (Nat.not_lt_zero t)⟩
    · show su (su (su (su σ 1 0 1) 1 1 0) 1 2 0) 2 10 0 1 0 = 1
      rw [su_n (by omega), su_j (by omega), su_j (by omega), su_s]
    · show su (su (su (su σ 1 0 1) 1 1 0) 1 2 0) 2 10 0 1 1 = 0
      rw [su_n (by omega), su_j (by omega), su_s]
    · show su (su (su (su σ 1 0 1) 1 1 0) 1 2 0) 2 10 0 1 2 = 0
      rw [su_n (by omega), su_s]
  · refine ⟨?_, ?_, ?_, fun s hs => absurd hs (Nat.not_lt_zero s), fun t ht => absurd ht (Nat.not_lt_zero t)⟩
    · show su (su (su (su τ 0 1 0) 0 2 0) 0 0 1) 0 13 1 0 0 = 1
      rw [su_j (by omega), su_s]
    · show su (su (su (su τ 0 1 0) 0 2 0) 0 0 1) 0 13 1 0 1 = 0
      rw [su_j (by omega), su_j (by omega), su_j (by omega), su_s]
    · show su (su (su (su τ 0 1 0) 0 2 0) 0 0 1) 0 13 1 0 2 = 0
      rw [su_j (by omega), su_j (by omega), su_s]
  · refine hz.same ?_ ?_ ?_ ?_ ?_ <;> (dsimp only; rw [su_n (by omega), su_n (by omega), su_n (by omega), su_n (by omega)])
  · refine hz'.same ?_ ?_ ?_ ?_ <;> (dsimp only; rw [su_n (by omega), su_n (by omega), su_n (by omega), su_n (by omega)])
  · dsimp only; exact su_s _ _ _ _
  · dsimp only; exact su_s _ _ _ _
-- a METHOD more changes no set
section MM
variable {p : PG}
def pM1 (p : PG) : PG := ((pM p + 1, p.1.2), p.2)
theorem swX_M (lv : Int32) (X : XX) : ∀ n, swX (pM1 p) lv X n = swX p lv X n := by
  intro n
  induction n with
  | zero => rfl
  | succ n ih => rw [swX_s, swX_s, ih]; rfl
theorem itX_M (lv : Int32) : ∀ k, itX (pM1 p) lv k = itX p lv k := by
  intro k
  induction k with
  | zero => rfl
  | succ k ih =>
    show swX (pM1 p) lv (itX (pM1 p) lv k) (pS p) = swX p lv (itX p lv k) (pS p)
    rw [ih, swX_M]
theorem cal_M : cal (pM1 p) = cal p := by
  funext m
  have : ∀ n, calN (pM1 p) m n = calN p m n := by
    intro n
    induction n with
    | zero => rfl
    | succ n ih => rw [calN_s, calN_s, ih]; rfl
  exact this (pS p)
theorem live_M : liveP (pM1 p) = liveP p := by
  unfold liveP
  rw [cal_M]
theorem XS_M : XS (pM1 p) = XS p := by
  unfold XS
  rw [live_M, itX_M]
theorem itP_M : itP (pM1 p) = itP p := by
  have h : s0P (pM1 p) = s0P p := by
    unfold s0P
    rw [XS_M]
    have : ∀ n, opn (pM1 p) (XS p) n = opn p (XS p) n := by
      intro n
      induction n with
      | zero => rfl
      | succ n ih => rw [opn_s, opn_s, ih]; rfl
    exact this (pS p)
  unfold itP
  rw [h, XS_M]
theorem calE_M : calE (pM1 p) (liveP (pM1 p)) = calE p (liveP p) := by
  unfold calE
  rw [live_M, cal_M]
end MM
theorem limN_mono {M M' k i : Nat} (h : M ≤ M') : limN M k i ≤ limN M' k i := by
  unfold limN
  by_cases c : k = 6
  · rw [if_pos c, if_pos c]
    by_cases d : i = 0
    · rw [if_pos d, if_pos d]; exact h
    · rw [if_neg d, if_neg d]; exact Nat.le_refl _
  · rw [if_neg c, if_neg c]; exact Nat.le_refl _
theorem op_method : Op_method FU Rel := by
  intro σ τ hR
  have hR0 := hR
  obtain ⟨p, hw, h, h', hz, hz', hs, hs'⟩ := hR
  have hM := hw.2.1
  unfold f_E_method f_M_method
  rw [h.1, h'.1]
  by_cases c : pM p = 8
  · rw [if_neg (show ¬ nI (pM p) < 8 from nI_nlt (b := 8) (by omega) (by omega)), if_pos (show nI (pM p) = 8 by rw [c]; rfl)]
    exact ⟨(-3, σ), (-3, τ), rfl, rfl, rfl, hR0⟩
  · have ne8 : ¬ nI (pM p) = 8 := fun e => c ((nI_eq (b := 8) (by omega) (by omega)).mp e)
    rw [if_pos (show nI (pM p) < 8 from nI_lt (b := 8) (by omega) (by omega)), if_neg ne8]
    have q1 : Option.bind (f_P_addMethod σ) (fun u19 => some (u19.1, u19.2)) = some (nI (pM p), su σ 1 0 (nI (pM p + 1))) := by
      unfold f_P_addMethod
      simp only [lett]
      rw [h.1, nI_1, su_s]
      show some (nI (pM p + 1) - 1, su σ 1 0 (nI (pM p + 1))) = _
      rw [nI_pred]
    have r1 : lett (su τ 0 0 (nI (pM p) + 1)) (fun s19 => lett (su s19 0 13 (1 : Int32)) (fun s24 => some (((s24 0 0) - (1 : Int32)), s24))) = some (nI (pM p), su (su τ 0 0 (nI (pM p + 1))) 0 13 1) := by
      simp only [lett]
      rw [nI_1, su_j (by omega), su_s, nI_pred]
    generalize hσ1 : su σ 1 0 (nI (pM p + 1)) = σ1 at q1
    generalize hτ1 : su (su τ 0 0 (nI (pM p + 1))) 0 13 1 = τ1 at r1
    have a0 : σ1 1 0 = nI (pM p + 1) := by rw [← hσ1, su_s]
    have a1 : σ1 1 1 = nI (pS p) := by rw [← hσ1, su_j (by omega)]; exact h.2.1
    have a2 : σ1 1 2 = nI (pT p) := by rw [← hσ1, su_j (by omega)]; exact h.2.2.1
    have an : ∀ k, k ≠ 1 → σ1 k = σ k := fun k hk => by rw [← hσ1, su_n hk]
    have b0 : τ1 0 0 = nI (pM p + 1) := by rw [← hτ1, su_j (by omega), su_s]
    have b1 : τ1 0 1 = nI (pS p) := by rw [← hτ1, su_j (by omega), su_j (by omega)]; exact h'.2.1
    have b2 : τ1 0 2 = nI (pT p) := by rw [← hτ1, su_j (by omega), su_j (by omega)]; exact h'.2.2.1
    have b13 : τ1 0 13 = 1 := by rw [← hτ1, su_s]
    have bn : ∀ k, k ≠ 0 → τ1 k = τ k := fun k hk => by rw [← hτ1, su_n hk, su_n hk]
    have hw' : WF (pM1 p) := by
      refine ⟨?_, ?_, hw.2.2.1, hw.2.2.2.1, fun s hs => ?_, hw.2.2.2.2.2⟩
      · show 1 ≤ pM p + 1
        omega
      · show pM p + 1 ≤ 8
        omega
      · obtain ⟨a, b, c, d⟩ := hw.2.2.2.2.1 s hs
        exact ⟨Nat.lt_succ_of_lt a, b, c, fun i hi => Nat.lt_of_lt_of_le (d i hi) (limN_mono (Nat.le_succ _))⟩
    have hA : AE σ1 (pM1 p) := by
      refine ⟨a0, a1, a2, ?_, ?_⟩
      · rw [an 5 (by omega), an 6 (by omega), an 7 (by omega), an 8 (by omega)]
        exact h.2.2.2.1
      · rw [an 9 (by omega)]
        exact h.2.2.2.2
    have hB : AM τ1 (pM1 p) := by
      refine ⟨b0, b1, b2, ?_, ?_⟩
      · rw [bn 1 (by omega), bn 2 (by omega), bn 3 (by omega), bn 4 (by omega)]
        exact h'.2.2.2.1
      · rw [bn 5 (by omega)]
        exact h'.2.2.2.2
    have hzE : ZE σ1 := hz.same (an 10 (by omega)) (an 11 (by omega)) (an 12 (by omega)) (an 13 (by omega)) (an 14 (by omega))
    have hzM : ZM τ1 := hz'.same (bn 6 (by omega)) (bn 7 (by omega)) (bn 8 (by omega)) (bn 9 (by omega))
    have hsE : σ1 2 10 = 0 ∨ SolE σ1 (pM1 p) := by
      rcases hs with hs | ⟨a1, a2, a3, a4, a5, a6, a7⟩
      · left
        rw [an 2 (by omega)]
        exact hs
      · right
        have qx : xE σ1 = xE σ := by
          unfold xE
          rw [an 11 (by omega), an 12 (by omega), an 13 (by omega), an 14 (by omega)]
        unfold SolE
        rw [an 2 (by omega), an 10 (by omega), an 15 (by omega), qx, live_M, XS_M, itP_M]
        refine ⟨a1, a2, ?_, a4, a5, a6, a7⟩
        have := calE_M (p := p)
        rw [live_M] at this
        rw [this]
        exact a3
    exact ⟨(nI (pM p), σ1), (nI (pM p), τ1), q1, r1, rfl, pM1 p, hw', hA, hB, hzE, hzM, hsE, Or.inl b13⟩
theorem op_undo : Op_undo FU Rel := by
  intro σ τ hR
  have hR0 := hR
  obtain ⟨p, hw, h, h', hz, hz', hs, hs'⟩ := hR
  have hS := hw.2.2.1
  have hT := hw.2.2.2.1
  unfold f_E_undo f_M_undo
  rw [h.2.1, h'.2.1]
  by_cases c : pS p = 0
  · rw [if_neg (show ¬ 0 < nI (pS p) by rw [c]; decide), if_pos (show nI (pS p) = 0 by rw [c]; rfl)]
    exact ⟨(-1, σ), (-1, τ), rfl, rfl, rfl, hR0⟩
  · obtain ⟨n, hn⟩ : ∃ n, pS p = n + 1 := ⟨pS p - 1, by omega⟩
    have hnS : n < pS p := by omega
    obtain ⟨st1, st2, st3, st4⟩ := hw.2.2.2.2.1 n hnS
    -- the last SITE is the last STEP's
    have hlast : pkd p n = 0 → psi p n + 1 = pT p := by
      intro k
      obtain ⟨g1, g2⟩ := st3 k
      apply Classical.byContradiction
      intro hne
      have h1 := hw.2.2.2.2.2.2 (psi p n) (pT p - 1) (by omega) (by omega)
      have h2 := (hw.2.2.2.2.2.1 (pT p - 1) (by omega)).1
      omega
    generalize hT' : (if pkd p n = 0 then pT p - 1 else pT p) = T'
    have hT'le : T' ≤ pT p := by rw [← hT']; split <;> omega
    let p' : PG := ((pM p, n, T'), p.2)
    have hw' : WF p' := by
      refine ⟨hw.1, hw.2.1, by show n ≤ 64; omega, by show T' ≤ 16; omega, fun s hs => ?_, fun t ht => ?_, fun t u htu hu => ?_⟩
      · have hs1 : s < n := hs
        obtain ⟨a, b, c, d⟩ := hw.2.2.2.2.1 s (by omega)
        refine ⟨a, b, fun k => ?_, d⟩
        obtain ⟨g1, g2⟩ := c k
        refine ⟨?_, g2⟩
        show psi p s < T'
        rw [← hT']
        by_cases k0 : pkd p n = 0
        · rw [if_pos k0]
          have hl := hlast k0
          apply Classical.byContradiction
          intro hge
          have e : psi p s = psi p n := by omega
          rw [e, (st3 k0).2] at g2
          omega
        · rw [if_neg k0]; exact g1
      · have ht1 : t < T' := ht
        obtain ⟨a, b, c⟩ := hw.2.2.2.2.2.1 t (by omega)
        refine ⟨?_, b, c⟩
        show pmk p t < n
        by_cases k0 : pkd p n = 0
        · rw [if_pos k0] at hT'
          have hl := hlast k0
          have h1 := hw.2.2.2.2.2.2 t (psi p n) (by omega) (by omega)
          rw [(st3 k0).2] at h1
          exact h1
        · apply Classical.byContradiction
          intro hge
          have e : pmk p t = n := by omega
          rw [e] at b
          exact k0 b
      · have hu1 : u < T' := hu
        exact hw.2.2.2.2.2.2 t u htu (by omega)
    have en : nI (pS p) - 1 = nI n := by rw [hn]; exact nI_pred n
    have eT : (if pkd p n = 0 then nI (pT p) - 1 else nI (pT p)) = nI T' := by
      rw [← hT']
      by_cases k0 : pkd p n = 0
      · rw [if_pos k0, if_pos k0]
        have := (st3 k0).1
        obtain ⟨t, ht⟩ : ∃ t, pT p = t + 1 := ⟨pT p - 1, by omega⟩
        rw [ht]
        exact nI_pred t
      · rw [if_neg k0, if_neg k0]
    have e0 : (nI (pkd p n) = 0) ↔ pkd p n = 0 := nI_eq (b := 0) (by omega) (by omega)
    rw [if_pos (show 0 < nI (pS p) from nI_lt (a := 0) (by omega) (by omega)), if_neg (show ¬ nI (pS p) = 0 from fun e => c ((nI_eq (b := 0) (by omega) (by omega)).mp e))]
    -- the class
    have hE : ∃ σ', Option.bind (f_S_forget σ) (fun u16 => Option.bind (f_P_dropStep u16) (fun u23 => some (u23.1, u23.2))) = some (nI n, σ') ∧ σ' 1 0 = nI (pM p) ∧ σ' 1 1 = nI n ∧ σ' 1 2 = nI T' ∧ σ' 2 10 = 0 ∧ ∀ k, k ≠ 1 → k ≠ 2 → σ' k = σ k := by
      unfold f_S_forget
      simp only [lett]
      show ∃ σ', Option.bind (f_P_dropStep (su σ 2 10 0)) (fun u23 => some (u23.1, u23.2)) = _ ∧ _
      unfold f_P_dropStep
      simp only [lett]
      have r1 : su σ 2 10 0 1 = σ 1 := su_n (by omega)
      rw [r1, h.2.1, en]
      generalize hs7 : su (su σ 2 10 0) 1 1 (nI n) = s7
      have a11 : s7 1 1 = nI n := by rw [← hs7, su_s]
      have a6 : s7 6 = σ 6 := by rw [← hs7, su_n (by omega), su_n (by omega)]
      have a12 : s7 1 2 = nI (pT p) := by rw [← hs7, su_j (by omega), r1]; exact h.2.2.1
      have a10 : s7 1 0 = nI (pM p) := by rw [← hs7, su_j (by omega), r1]; exact h.1
      have a2 : s7 2 10 = 0 := by rw [← hs7, su_n (by omega), su_s]
      have an : ∀ k, k ≠ 1 → k ≠ 2 → s7 k = σ k := fun k k1 k2 => by rw [← hs7, su_n k1, su_n k2]
      have ek : f_P_kind s7 (nI n) = some (nI (pkd p n)) := by
        unfold f_P_kind
        rw [v_at (by omega) (by omega), a6, (h.2.2.2.1 n hnS).2.1]
        rfl
      rw [a11, ek]
      by_cases k0 : pkd p n = 0
      · rw [if_pos k0] at eT
        refine ⟨su s7 1 2 (nI T'), ?_, by rw [su_j (by omega)]; exact a10, by rw [su_j (by omega)]; exact a11, su_s _ _ _ _, by rw [su_n (by omega)]; exact a2, fun k k1 k2 => by rw [su_n k1]; exact an k k1 k2⟩
        show Option.bind (if nI (pkd p n) = 0 then some (su s7 1 2 (s7 1 2 - 1) 1 1, su s7 1 2 (s7 1 2 - 1)) else some (nI n, s7)) _ = _
        rw [if_pos (e0.mpr k0), a12, eT, su_j (by omega), a11]
        rfl
      · rw [if_neg k0] at eT
        refine ⟨s7, ?_, a10, a11, by rw [a12]; exact eT, a2, an⟩
        show Option.bind (if nI (pkd p n) = 0 then some (su s7 1 2 (s7 1 2 - 1) 1 1, su s7 1 2 (s7 1 2 - 1)) else some (nI n, s7)) _ = _
        rw [if_neg (fun z => k0 (e0.mp z))]
        rfl
    have hMm : ∃ τ', lett (su τ 0 1 (nI (pS p) - 1)) (fun s16 => if ¬ ((s16 0 1) < 0 ∨ 64 ≤ (s16 0 1).toNatClampNeg) then (if ((s16 2) (s16 0 1).toNatClampNeg) = 0 then (lett (su s16 0 2 ((s16 0 2) - (1 : Int32))) (fun s45 => lett (su s45 0 13 (1 : Int32)) (fun s50 => some ((s50 0 1), s50)))) else (lett (su s16 0 2 (s16 0 2)) (fun s45 => lett (su s45 0 13 (1 : Int32)) (fun s50 => some ((s50 0 1), s50))))) else none) = some (nI n, τ') ∧ τ' 0 0 = nI (pM p) ∧ τ' 0 1 = nI n ∧ τ' 0 2 = nI T' ∧ τ' 0 13 = 1 ∧ ∀ k, k ≠ 0 → τ' k = τ k := by
      simp only [lett]
      rw [en, su_s, if_pos (ix_in (by omega) (by omega)), ix_c (by omega), su_n (by omega), (h'.2.2.2.1 n hnS).2.1, su_j (show (2 : Nat) ≠ 1 by omega), h'.2.2.1]
      have key : ∀ w : Int32, w = nI T' → some (su (su (su τ 0 1 (nI n)) 0 2 w) 0 13 1 0 1, su (su (su τ 0 1 (nI n)) 0 2 w) 0 13 1) = some (nI n, su (su (su τ 0 1 (nI n)) 0 2 (nI T')) 0 13 1) := by
        intro w e
        rw [e, su_j (by omega), su_j (by omega), su_s]
      refine ⟨su (su (su τ 0 1 (nI n)) 0 2 (nI T')) 0 13 1, ?_, ?_, ?_, ?_, su_s _ _ _ _, fun k k0 => by rw [su_n k0, su_n k0, su_n k0]⟩
      · by_cases k0 : pkd p n = 0
        · rw [if_pos k0] at eT
          rw [if_pos (e0.mpr k0)]
          exact key _ eT
        · rw [if_neg k0] at eT
          rw [if_neg (fun z => k0 (e0.mp z))]
          exact key _ eT
      · rw [su_j (by omega), su_j (by omega), su_j (by omega)]; exact h'.1
      · rw [su_j (by omega), su_j (by omega), su_s]
      · rw [su_j (by omega), su_s]
    obtain ⟨σ', q1, q2, q3, q4, q5, q6⟩ := hE
    obtain ⟨τ', r1, r2, r3, r4, r5, r6⟩ := hMm
    refine ⟨(nI n, σ'), (nI n, τ'), q1, r1, rfl, p', hw', ⟨q2, q3, q4, ?_, ?_⟩, ⟨r2, r3, r4, ?_, ?_⟩, ?_, ?_, Or.inl q5, Or.inl r5⟩
    · intro s hs
      have hs1 : s < n := hs
      dsimp only
      rw [q6 5 (by omega) (by omega), q6 6 (by omega) (by omega), q6 7 (by omega) (by omega), q6 8 (by omega) (by omega)]
      exact h.2.2.2.1 s (by omega)
    · intro t ht
      have ht1 : t < T' := ht
      dsimp only
      rw [q6 9 (by omega) (by omega)]
      exact h.2.2.2.2 t (by omega)
    · intro s hs
      have hs1 : s < n := hs
      dsimp only
      rw [r6 1 (by omega), r6 2 (by omega), r6 3 (by omega), r6 4 (by omega)]
      exact h'.2.2.2.1 s (by omega)
    · intro t ht
      have ht1 : t < T' := ht
      dsimp only
      rw [r6 5 (by omega)]
      exact h'.2.2.2.2 t (by omega)
    · exact hz.same (q6 10 (by omega) (by omega)) (q6 11 (by omega) (by omega)) (q6 12 (by omega) (by omega)) (q6 13 (by omega) (by omega)) (q6 14 (by omega) (by omega))
    · exact hz'.same (r6 6 (by omega)) (r6 7 (by omega)) (r6 8 (by omega)) (r6 9 (by omega))
theorem v_needs : ∀ k, k ≤ 10 → f_M_needs (nI k) = some (nI (nds k)) := by
  intro k hk
  rcases (show k = 0 ∨ k = 1 ∨ k = 2 ∨ k = 3 ∨ k = 4 ∨ k = 5 ∨ k = 6 ∨ k = 7 ∨ k = 8 ∨ k = 9 ∨ k = 10 by omega) with rfl | rfl | rfl | rfl | rfl | rfl | rfl | rfl | rfl | rfl | rfl <;> rfl
theorem nds_le (k : Nat) (hk : k ≤ 10) : nds k ≤ 5 := by
  rcases (show k = 0 ∨ k = 1 ∨ k = 2 ∨ k = 3 ∨ k = 4 ∨ k = 5 ∨ k = 6 ∨ k = 7 ∨ k = 8 ∨ k = 9 ∨ k = 10 by omega) with rfl | rfl | rfl | rfl | rfl | rfl | rfl | rfl | rfl | rfl | rfl <;> decide
theorem op_told : Op_told FU Rel := by
  intro σ τ a1 a2 hR
  obtain ⟨p, hw, h, h', hz, hz', hs, hs'⟩ := hR
  have hS := hw.2.2.1
  unfold f_E_told f_M_told
  rcases rg a1 (pS p) (by omega) with ⟨s, hs1, rfl⟩ | ho
  · rw [e_isSt_in h hw hs1, m_isSt_in h' hw hs1]
    obtain ⟨r1, r2, r3, r4⟩ := h'.2.2.2.1 s hs1
    obtain ⟨g1, g2, g3, g4⟩ := hw.2.2.2.2.1 s hs1
    have ix := ix_in (k := s) (n := 64) (by omega) (by omega)
    have ec : (nI s).toNatClampNeg = s := ix_c (by omega)
    rcases rg a2 8 (by omega) with ⟨w, hw8, rfl⟩ | ho
    · have b1 : f_E_isBelow (nI w) 8 = some 1 := v_below_in (n := 8) hw8 (by omega)
      have b2 : f_M_isIn (nI w) 0 7 = some 1 := v_isIn_inC (n := 8) (by decide) hw8 (by omega)
      by_cases c3 : w < 3
      · rcases (show w = 0 ∨ w = 1 ∨ w = 2 by omega) with rfl | rfl | rfl
        · refine ⟨nI (pow p s), ?_, ?_⟩
          · show Option.bind (f_E_isBelow (nI 0) 8) _ = _
            rw [b1]
            show Option.bind (f_P_owner σ (nI s)) _ = _
            rw [e_owner h hw hs1]; rfl
          · show Option.bind (f_M_isIn (nI 0) 0 7) _ = _
            rw [b2]
            show (if ¬ (nI s < 0 ∨ 64 ≤ (nI s).toNatClampNeg) then some (τ 1 (nI s).toNatClampNeg) else none) = _
            rw [if_pos ix, ec, r1]
        · refine ⟨nI (pkd p s), ?_, ?_⟩
          · show Option.bind (f_E_isBelow (nI 1) 8) _ = _
            rw [b1]
            show Option.bind (f_P_kind σ (nI s)) _ = _
            rw [e_kind h hw hs1]; rfl
          · show Option.bind (f_M_isIn (nI 1) 0 7) _ = _
            rw [b2]
            show (if ¬ (nI s < 0 ∨ 64 ≤ (nI s).toNatClampNeg) then some (τ 2 (nI s).toNatClampNeg) else none) = _
            rw [if_pos ix, ec, r2]
        · refine ⟨if pkd p s = 0 then nI (psi p s) else -1, ?_, ?_⟩
          · show Option.bind (f_E_isBelow (nI 2) 8) _ = _
            rw [b1]
            show Option.bind (f_P_siteOf σ (nI s)) _ = _
            rw [e_siteOf h hw hs1]; rfl
          · show Option.bind (f_M_isIn (nI 2) 0 7) _ = _
            rw [b2]
            show (if ¬ (nI s < 0 ∨ 64 ≤ (nI s).toNatClampNeg) then some (τ 3 (nI s).toNatClampNeg) else none) = _
            rw [if_pos ix, ec, r3]
      · obtain ⟨i, rfl⟩ : ∃ i, w = i + 3 := ⟨w - 3, by omega⟩
        have w0 : ¬ nI (i + 3) = 0 := fun e => absurd ((nI_eq (b := 0) (by omega) (by omega)).mp e) (by omega)
        have w1 : ¬ nI (i + 3) = 1 := fun e => absurd ((nI_eq (b := 1) (by omega) (by omega)).mp e) (by omega)
        have w2 : ¬ nI (i + 3) = 2 := fun e => absurd ((nI_eq (b := 2) (by omega) (by omega)).mp e) (by omega)
        have ew : nI (i + 3) - 3 = nI i := by
          have := pk_sub (a := i + 3) (b := 3) (by omega)
          rw [Nat.add_sub_cancel] at this
          exact this
        refine ⟨if i < nds (pkd p s) then ndI (pkd p s) i (pnv p s i) else -1, ?_, ?_⟩
        · show Option.bind (f_E_isBelow (nI (i + 3)) 8) _ = _
          rw [b1]
          show (if nI (i + 3) = 0 then _ else _) = _
          rw [if_neg w0, if_neg w1, if_neg w2, ew, e_need h hw hs1 (by omega)]
          rfl
        · show Option.bind (f_M_isIn (nI (i + 3)) 0 7) _ = _
          rw [b2]
          show (if nI (i + 3) = 0 then _ else _) = _
          have e5 : 5 * nI s + nI (i + 3) - 3 = nI (5 * s + i) := by
            rw [n5_I, nI_add]
            have := pk_sub (a := 5 * s + (i + 3)) (b := 3) (by omega)
            rw [show 5 * s + (i + 3) - 3 = 5 * s + i by omega] at this
            exact this
          rw [if_neg w0, if_neg w1, if_neg w2, if_pos ix, ec, r2, v_needs _ g2]
          show (if nI (nds (pkd p s)) ≤ nI (i + 3) - 3 then some (-1 : Int32) else if ¬ (5 * nI s + nI (i + 3) - 3 < 0 ∨ 320 ≤ (5 * nI s + nI (i + 3) - 3).toNatClampNeg) then some (τ 4 (5 * nI s + nI (i + 3) - 3).toNatClampNeg) else none) = _
          have hn5 := nds_le _ g2
          rw [ew, e5]
          by_cases d : i < nds (pkd p s)
          · rw [if_neg (nI_ge d (by omega)), if_pos (ix_in (by omega) (by omega)), ix_c (by omega), r4 i d, if_pos d]
          · rw [if_pos (nI_le (by omega) (by omega)), if_neg d]
    · have b1 : f_E_isBelow a2 8 = some 0 := v_below_out (n := 8) ho
      have b2 : f_M_isIn a2 0 7 = some 0 := v_isIn_outC (n := 8) (by decide) (by omega) ho
      refine ⟨-2, ?_, ?_⟩
      · show Option.bind (f_E_isBelow a2 8) _ = _
        rw [b1]; rfl
      · show Option.bind (f_M_isIn a2 0 7) _ = _
        rw [b2]; rfl
  · rw [e_isSt_out h ho, m_isSt_out h' hw ho]
    exact ⟨-2, rfl, rfl⟩
