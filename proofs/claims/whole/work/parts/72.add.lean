/-! step and call. -/
def stWr (σ : St) (x1 x2 x3 x4 x5 : Int32) : Option (Int32 × St) := if ¬ (((5 : Int32) * (σ 0 1)) < 0 ∨ 320 ≤ ((5 : Int32) * (σ 0 1)).toNatClampNeg) then (lett (sr σ 4 (upd (σ 4) ((5 : Int32) * (σ 0 1)).toNatClampNeg x3)) (fun s113 => if ¬ ((((5 : Int32) * (s113 0 1)) + (1 : Int32)) < 0 ∨ 320 ≤ (((5 : Int32) * (s113 0 1)) + (1 : Int32)).toNatClampNeg) then (lett (sr s113 4 (upd (s113 4) (((5 : Int32) * (s113 0 1)) + (1 : Int32)).toNatClampNeg x4)) (fun s128 => if ¬ ((((5 : Int32) * (s128 0 1)) + (2 : Int32)) < 0 ∨ 320 ≤ (((5 : Int32) * (s128 0 1)) + (2 : Int32)).toNatClampNeg) then (lett (sr s128 4 (upd (s128 4) (((5 : Int32) * (s128 0 1)) + (2 : Int32)).toNatClampNeg x5)) (fun s143 => Option.bind (f_M_add s143 x1 x2) (fun u147 => some (u147.1, u147.2)))) else none)) else none)) else none
def stRest (σ : St) (x1 x2 x3 x4 x5 : Int32) : Option (Int32 × St) := if (σ 0 1) = (64 : Int32) then (some ((-3 : Int32), σ)) else (if x2 = 0 then (if (σ 0 2) = (16 : Int32) then (some ((-3 : Int32), σ)) else (stWr σ x1 x2 x3 x4 x5)) else (stWr σ x1 x2 x3 x4 x5))
theorem stM_eq (σ : St) (x1 x2 x3 x4 x5 : Int32) : f_M_step σ x1 x2 x3 x4 x5 = Option.bind (f_M_isMethod σ x1) (fun u2 => if u2 = 0 then (some ((-2 : Int32), σ)) else (Option.bind (f_M_isIn x2 (0 : Int32) (10 : Int32)) (fun u12 => if u12 = 0 then (some ((-2 : Int32), σ)) else (if x2 = (6 : Int32) then (some ((-2 : Int32), σ)) else (Option.bind (f_M_needs x2) (fun u28 => Option.bind (f_M_isNeed x2 (0 : Int32) x3) (fun u36 => if u36 = 0 then (some ((-2 : Int32), σ)) else (if u28 ≤ (1 : Int32) then (if u28 ≤ (2 : Int32) then (stRest σ x1 x2 x3 x4 x5) else (Option.bind (f_M_isNeed x2 (2 : Int32) x5) (fun u68 => if u68 = 0 then (some ((-2 : Int32), σ)) else (stRest σ x1 x2 x3 x4 x5)))) else (Option.bind (f_M_isNeed x2 (1 : Int32) x4) (fun u52 => if u52 = 0 then (some ((-2 : Int32), σ)) else (if u28 ≤ (2 : Int32) then (stRest σ x1 x2 x3 x4 x5) else (Option.bind (f_M_isNeed x2 (2 : Int32) x5) (fun u68 => if u68 = 0 then (some ((-2 : Int32), σ)) else (stRest σ x1 x2 x3 x4 x5)))))))))))))) := rfl

def addP (p : PG) (m k : Nat) (nv : Nat → Nat) : PG := ((pM p, pS p + 1, if k = 0 then pT p + 1 else pT p), fun s => if s = pS p then m else pow p s, fun s => if s = pS p then k else pkd p s, fun s => if s = pS p then pT p else psi p s, fun t => if k = 0 ∧ t = pT p then pS p else pmk p t, fun s i => if s = pS p then nv i else pnv p s i)
section AD
variable {p : PG} {m k : Nat} {nv : Nat → Nat}
theorem ad_o1 {s : Nat} (h : s ≠ pS p) : pow (addP p m k nv) s = pow p s := if_neg h
theorem ad_o2 {s : Nat} (h : s ≠ pS p) : pkd (addP p m k nv) s = pkd p s := if_neg h
theorem ad_o3 {s : Nat} (h : s ≠ pS p) : psi (addP p m k nv) s = psi p s := if_neg h
theorem ad_o4 {s i : Nat} (h : s ≠ pS p) : pnv (addP p m k nv) s i = pnv p s i := if_neg h
theorem ad_s1 : pow (addP p m k nv) (pS p) = m := if_pos rfl
theorem ad_s2 : pkd (addP p m k nv) (pS p) = k := if_pos rfl
theorem ad_s3 : psi (addP p m k nv) (pS p) = pT p := if_pos rfl
theorem ad_s4 {i : Nat} : pnv (addP p m k nv) (pS p) i = nv i := if_pos rfl
theorem ad_t {t : Nat} (h : t < pT p) : pmk (addP p m k nv) t = pmk p t := if_neg (fun z => by have := z.2; omega)
theorem ad_tn (h : k = 0) : pmk (addP p m k nv) (pT p) = pS p := if_pos ⟨h, rfl⟩
theorem WF_add (hw : WF p) (hm : m < pM p) (hk : k ≤ 10) (hS : pS p < 64) (hT : k = 0 → pT p < 16) (hn : ∀ i, i < nds k → nv i < limN (pM p) k i) : WF (addP p m k nv) := by
  have hT16 := hw.2.2.2.1
  refine ⟨hw.1, hw.2.1, by show pS p + 1 ≤ 64; omega, ?_, fun s hs => ?_, fun t ht => ?_, fun t u htu hu => ?_⟩
  · show (if k = 0 then pT p + 1 else pT p) ≤ 16
    by_cases c : k = 0
    · rw [if_pos c]; have := hT c; omega
    · rw [if_neg c]; exact hT16
  · have hs1 : s < pS p + 1 := hs
    by_cases e : s = pS p
    · subst e
      refine ⟨by rw [ad_s1]; exact hm, by rw [ad_s2]; exact hk, fun g => ?_, fun i hi => ?_⟩
      · rw [ad_s2] at g
        rw [ad_s3]
        refine ⟨?_, ad_tn g⟩
        show pT p < (if k = 0 then pT p + 1 else pT p)
        rw [if_pos g]; omega
      · rw [ad_s2] at hi ⊢
        rw [ad_s4]
        exact hn i hi
    · obtain ⟨a, b, c, d⟩ := hw.2.2.2.2.1 s (by omega)
      refine ⟨by rw [ad_o1 e]; exact a, by rw [ad_o2 e]; exact b, fun g => ?_, fun i hi => ?_⟩
      · rw [ad_o2 e] at g
        rw [ad_o3 e]
        obtain ⟨c1, c2⟩ := c g
        refine ⟨?_, by rw [ad_t c1]; exact c2⟩
        show psi p s < (if k = 0 then pT p + 1 else pT p)
        by_cases c : k = 0
        · rw [if_pos c]; omega
        · rw [if_neg c]; exact c1
      · rw [ad_o2 e] at hi ⊢
        rw [ad_o4 e]
        exact d i hi
  · have ht1 : t < (if k = 0 then pT p + 1 else pT p) := ht
    by_cases e : t < pT p
    · obtain ⟨a, b, c⟩ := hw.2.2.2.2.2.1 t e
      have hne : pmk p t ≠ pS p := by omega
      rw [ad_t e, ad_o2 hne, ad_o3 hne]
      exact ⟨by show pmk p t < pS p + 1; omega, b, c⟩
    · have hk0 : k = 0 := by
        apply Classical.byContradiction
        intro c
        rw [if_neg c] at ht1
        exact e ht1
      rw [if_pos hk0] at ht1
      have et : t = pT p := by omega
      rw [et, ad_tn hk0, ad_s2, ad_s3]
      exact ⟨Nat.lt_succ_self _, hk0, rfl⟩
  · have hu1 : u < (if k = 0 then pT p + 1 else pT p) := hu
    have htT : t < pT p := by
      by_cases c : k = 0
      · rw [if_pos c] at hu1; omega
      · rw [if_neg c] at hu1; omega
    rw [ad_t htT]
    by_cases e : u < pT p
    · rw [ad_t e]; exact hw.2.2.2.2.2.2 t u htu e
    · have hk0 : k = 0 := by
        apply Classical.byContradiction
        intro c
        rw [if_neg c] at hu1
        exact e hu1
      rw [if_pos hk0] at hu1
      have eu : u = pT p := by omega
      rw [eu, ad_tn hk0]
      exact (hw.2.2.2.2.2.1 t htT).1
theorem AE_add {σ σ' : St} (h : AE σ p) (hw : WF p) (a0 : σ' 1 0 = nI (pM p)) (a1 : σ' 1 1 = nI (pS p + 1)) (a2 : σ' 1 2 = nI (if k = 0 then pT p + 1 else pT p)) (r5 : σ' 5 = upd (σ 5) (pS p) (nI m)) (r6 : σ' 6 = upd (σ 6) (pS p) (nI k)) (r7 : σ' 7 = upd (σ 7) (pS p) (if k = 0 then nI (pT p) else -1)) (r8 : ∀ j, j < 5 * pS p → σ' 8 j = σ 8 j) (r8' : ∀ i, i < 5 → σ' 8 (5 * pS p + i) = if i < nds k then ndI k i (nv i) else -1) (r9 : σ' 9 = if k = 0 then upd (σ 9) (pT p) (nI (pS p)) else σ 9) : AE σ' (addP p m k nv) := by
  refine ⟨a0, a1, a2, fun s hs => ?_, fun t ht => ?_⟩
  · have hs1 : s < pS p + 1 := hs
    rw [r5, r6, r7]
    by_cases e : s = pS p
    · subst e
      rw [ad_s1, ad_s2, ad_s3, pk_us, pk_us, pk_us]
      refine ⟨rfl, rfl, rfl, fun i hi => ?_⟩
      rw [ad_s4]
      exact r8' i hi
    · rw [ad_o1 e, ad_o2 e, ad_o3 e, pk_un e, pk_un e, pk_un e]
      obtain ⟨b1, b2, b3, b4⟩ := h.2.2.2.1 s (by omega)
      refine ⟨b1, b2, b3, fun i hi => ?_⟩
      rw [ad_o4 e, r8 _ (by omega)]
      exact b4 i hi
  · have ht1 : t < (if k = 0 then pT p + 1 else pT p) := ht
    rw [r9]
    by_cases e : t < pT p
    · rw [ad_t e]
      by_cases c : k = 0
      · rw [if_pos c, pk_un (by omega)]; exact h.2.2.2.2 t e
      · rw [if_neg c]; exact h.2.2.2.2 t e
    · have hk0 : k = 0 := by
        apply Classical.byContradiction
        intro c
        rw [if_neg c] at ht1
        exact e ht1
      rw [if_pos hk0] at ht1
      have et : t = pT p := by omega
      rw [et, ad_tn hk0, if_pos hk0, pk_us]
theorem AM_add {τ τ' : St} (h : AM τ p) (hw : WF p) (a0 : τ' 0 0 = nI (pM p)) (a1 : τ' 0 1 = nI (pS p + 1)) (a2 : τ' 0 2 = nI (if k = 0 then pT p + 1 else pT p)) (r5 : τ' 1 = upd (τ 1) (pS p) (nI m)) (r6 : τ' 2 = upd (τ 2) (pS p) (nI k)) (r7 : τ' 3 = upd (τ 3) (pS p) (if k = 0 then nI (pT p) else -1)) (r8 : ∀ j, j < 5 * pS p → τ' 4 j = τ 4 j) (r8' : ∀ i, i < nds k → τ' 4 (5 * pS p + i) = ndI k i (nv i)) (r9 : τ' 5 = if k = 0 then upd (τ 5) (pT p) (nI (pS p)) else τ 5) : AM τ' (addP p m k nv) := by
  refine ⟨a0, a1, a2, fun s hs => ?_, fun t ht => ?_⟩
  · have hs1 : s < pS p + 1 := hs
    rw [r5, r6, r7]
    by_cases e : s = pS p
    · subst e
      rw [ad_s1, ad_s2, ad_s3, pk_us, pk_us, pk_us]
      refine ⟨rfl, rfl, rfl, fun i hi => ?_⟩
      rw [ad_s4]
      exact r8' i hi
    · rw [ad_o1 e, ad_o2 e, ad_o3 e, pk_un e, pk_un e, pk_un e]
      obtain ⟨b1, b2, b3, b4⟩ := h.2.2.2.1 s (by omega)
      refine ⟨b1, b2, b3, fun i hi => ?_⟩
      have h5 := nds_le _ (hw.2.2.2.2.1 s (by omega)).2.1
      rw [ad_o4 e, r8 _ (by omega)]
      exact b4 i hi
  · have ht1 : t < (if k = 0 then pT p + 1 else pT p) := ht
    rw [r9]
    by_cases e : t < pT p
    · rw [ad_t e]
      by_cases c : k = 0
      · rw [if_pos c, pk_un (by omega)]; exact h.2.2.2.2 t e
      · rw [if_neg c]; exact h.2.2.2.2 t e
    · have hk0 : k = 0 := by
        apply Classical.byContradiction
        intro c
        rw [if_neg c] at ht1
        exact e ht1
      rw [if_pos hk0] at ht1
      have et : t = pT p := by omega
      rw [et, ad_tn hk0, if_pos hk0, pk_us]
end AD
theorem e_setNeed {σ : St} {s i : Nat} {v : Int32} (hs : s < 64) (hi : i < 5) : f_P_setNeed σ (nI s) (nI i) v = some (sr σ 8 (upd (σ 8) (5 * s + i) v)) := by
  unfold f_P_setNeed
  rw [nI_5, nI_add, v_put (by omega) (by omega)]
  rfl
theorem e_addStep {σ : St} {p : PG} {F m k : Nat} (h : AE σ p) (hS : pS p < 64) (hT : k = 0 → pT p < 16) (hk : k ≤ 10) (hF : 16 < F) : ∃ σ', f_P_addStep F σ (nI m) (nI k) = some (nI (pS p), σ') ∧ σ' 1 0 = σ 1 0 ∧ σ' 1 1 = nI (pS p + 1) ∧ σ' 1 2 = nI (if k = 0 then pT p + 1 else pT p) ∧ σ' 5 = upd (σ 5) (pS p) (nI m) ∧ σ' 6 = upd (σ 6) (pS p) (nI k) ∧ σ' 7 = upd (σ 7) (pS p) (if k = 0 then nI (pT p) else -1) ∧ (∀ j, j < 5 * pS p → σ' 8 j = σ 8 j) ∧ (∀ i, i < 5 → σ' 8 (5 * pS p + i) = -1) ∧ (σ' 9 = if k = 0 then upd (σ 9) (pT p) (nI (pS p)) else σ 9) ∧ (∀ r, r ≠ 1 → (r < 5 ∨ 9 < r) → σ' r = σ r) := by
  have h11 := h.2.1
  have h12 := h.2.2.1
  generalize hs1 : sr σ 5 (upd (σ 5) (pS p) (nI m)) = s1
  generalize hs2 : sr s1 6 (upd (σ 6) (pS p) (nI k)) = s2
  generalize hs3 : sr s2 7 (upd (σ 7) (pS p) (-1)) = s3
  have n3 : ∀ r, r ≠ 5 → r ≠ 6 → r ≠ 7 → s3 r = σ r := fun r a b c => by rw [← hs3, sr_n c, ← hs2, sr_n b, ← hs1, sr_n a]
  have a5 : s3 5 = upd (σ 5) (pS p) (nI m) := by rw [← hs3, sr_n (by omega), ← hs2, sr_n (by omega), ← hs1, sr_s]
  have a6 : s3 6 = upd (σ 6) (pS p) (nI k) := by rw [← hs3, sr_n (by omega), ← hs2, sr_s]
  have a7 : s3 7 = upd (σ 7) (pS p) (-1) := by rw [← hs3, sr_s]
  have hl := loop2 5 (f_P_addStep_L35 F (nI k) (nI (pS p))) (fun i => nI i) (fun i => sr s3 8 (fun j => if 5 * pS p ≤ j ∧ j < 5 * pS p + i then -1 else s3 8 j)) (nI 5, sr s3 8 (fun j => if 5 * pS p ≤ j ∧ j < 5 * pS p + 5 then -1 else s3 8 j)) (fun fu => by
      show f_P_addStep_B35 F _ _ _ (nI 5) _ = _
      unfold f_P_addStep_B35
      rw [if_pos le_5]) (fun i fu hi => by
      show f_P_addStep_B35 F (nI k) (nI (pS p)) _ (nI i) _ = f_P_addStep_L35 F (nI k) (nI (pS p)) fu (nI (i + 1)) _
      unfold f_P_addStep_B35
      rw [if_neg (lt_5 hi), e_setNeed hS hi, nI_1, sr_s, sr_sr]
      show f_P_addStep_L35 F (nI k) (nI (pS p)) fu (nI (i + 1)) (sr s3 8 _) = _
      congr 2
      funext j
      unfold upd
      by_cases g : j = 5 * pS p + i
      · rw [if_pos g, if_pos ⟨by omega, by omega⟩]
      · rw [if_neg g]
        show (if 5 * pS p ≤ j ∧ j < 5 * pS p + i then -1 else s3 8 j) = _
        by_cases d : 5 * pS p ≤ j ∧ j < 5 * pS p + i
        · rw [if_pos d, if_pos ⟨d.1, by omega⟩]
        · rw [if_neg d, if_neg (fun z => d ⟨z.1, by omega⟩)]) F (by omega)
  have e0 : f_P_addStep_L35 F (nI k) (nI (pS p)) F (nI 0) s3 = some (nI 5, sr s3 8 (fun j => if 5 * pS p ≤ j ∧ j < 5 * pS p + 5 then -1 else s3 8 j)) := by
    rw [← hl]
    show _ = f_P_addStep_L35 F (nI k) (nI (pS p)) F (nI 0) (sr s3 8 (fun j => if 5 * pS p ≤ j ∧ j < 5 * pS p + 0 then -1 else s3 8 j))
    have : (fun j => if 5 * pS p ≤ j ∧ j < 5 * pS p + 0 then -1 else s3 8 j) = s3 8 := by
      funext j
      rw [if_neg (by omega)]
    rw [this, sr_id]
  generalize hs4 : sr s3 8 (fun j => if 5 * pS p ≤ j ∧ j < 5 * pS p + 5 then -1 else s3 8 j) = s4 at e0
  have n4 : ∀ r, r ≠ 8 → s4 r = s3 r := fun r a => by rw [← hs4, sr_n a]
  have a8 : s4 8 = fun j => if 5 * pS p ≤ j ∧ j < 5 * pS p + 5 then -1 else s3 8 j := by rw [← hs4, sr_s]
  have r8 : ∀ j, j < 5 * pS p → s4 8 j = σ 8 j := fun j hj => by
    rw [a8]
    show (if 5 * pS p ≤ j ∧ j < 5 * pS p + 5 then -1 else s3 8 j) = _
    rw [if_neg (by omega), n3 8 (by omega) (by omega) (by omega)]
  have r8' : ∀ i, i < 5 → s4 8 (5 * pS p + i) = -1 := fun i hi => by
    rw [a8]
    show (if 5 * pS p ≤ 5 * pS p + i ∧ 5 * pS p + i < 5 * pS p + 5 then -1 else s3 8 (5 * pS p + i)) = _
    rw [if_pos ⟨by omega, by omega⟩]
  have b1 : s4 1 = σ 1 := by rw [n4 1 (by omega), n3 1 (by omega) (by omega) (by omega)]
  have e00 : (nI k = 0) ↔ k = 0 := nI_eq (b := 0) (by omega) (by omega)
  have start : f_P_addStep F σ (nI m) (nI k) = (if nI k = 0 then (Option.bind (f_E_put 64 (s4 7) (nI (pS p)) (s4 1 2)) (fun u68 => lett (sr s4 7 u68) (fun s68 => Option.bind (f_E_put 16 (s68 9) (s68 1 2) (nI (pS p))) (fun u80 => lett (sr s68 9 u80) (fun s80 => lett (su s80 1 2 ((s80 1 2) + (1 : Int32))) (fun s90 => lett (su s90 1 1 ((s90 1 1) + (1 : Int32))) (fun s100 => some (nI (pS p), s100)))))))) else (lett (su s4 1 1 ((s4 1 1) + (1 : Int32))) (fun s100 => some (nI (pS p), s100)))) := by
    unfold f_P_addStep
    simp only [lett]
    rw [h11, v_put (by omega) (by omega)]
    show Option.bind (f_E_put 64 (sr σ 5 (upd (σ 5) (pS p) (nI m)) 6) (nI (pS p)) (nI k)) _ = _
    rw [hs1, show s1 6 = σ 6 by rw [← hs1, sr_n (by omega)], v_put (by omega) (by omega)]
    show Option.bind (f_E_put 64 (sr s1 6 (upd (σ 6) (pS p) (nI k)) 7) (nI (pS p)) (-1)) _ = _
    rw [hs2, show s2 7 = σ 7 by rw [← hs2, sr_n (by omega), ← hs1, sr_n (by omega)], v_put (by omega) (by omega)]
    show Option.bind (f_P_addStep_L35 F (nI k) (nI (pS p)) F (nI 0) (sr s2 7 (upd (σ 7) (pS p) (-1)))) _ = _
    rw [hs3, e0]
    rfl
  rw [start]
  by_cases c : k = 0
  · have hT' := hT c
    rw [if_pos (e00.mpr c), b1, h12, v_put (by omega) (by omega)]
    generalize hs5 : sr s4 7 (upd (s4 7) (pS p) (nI (pT p))) = s5
    have n5 : ∀ r, r ≠ 7 → s5 r = s4 r := fun r a => by rw [← hs5, sr_n a]
    have c9 : s5 9 = σ 9 := by rw [n5 9 (by omega), n4 9 (by omega), n3 9 (by omega) (by omega) (by omega)]
    have c1 : s5 1 = σ 1 := by rw [n5 1 (by omega), b1]
    have c7 : s5 7 = upd (σ 7) (pS p) (nI (pT p)) := by
      rw [← hs5, sr_s, n4 7 (by omega), a7]
      funext j
      unfold upd
      by_cases g : j = pS p
      · rw [if_pos g, if_pos g]
      · rw [if_neg g, if_neg g, if_neg g]
    generalize hs6 : sr s5 9 (upd (σ 9) (pT p) (nI (pS p))) = s6
    have n6 : ∀ r, r ≠ 9 → s6 r = s5 r := fun r a => by rw [← hs6, sr_n a]
    have d1 : s6 1 = σ 1 := by rw [n6 1 (by omega), c1]
    refine ⟨su (su s6 1 2 (nI (pT p + 1))) 1 1 (nI (pS p + 1)), ?_, ?_, su_s _ _ _ _, ?_, ?_, ?_, ?_, ?_, ?_, ?_, ?_⟩
    · show Option.bind (f_E_put 16 (sr s4 7 (upd (s4 7) (pS p) (nI (pT p))) 9) (sr s4 7 (upd (s4 7) (pS p) (nI (pT p))) 1 2) (nI (pS p))) (fun u80 => some (nI (pS p), su (su (sr (sr s4 7 (upd (s4 7) (pS p) (nI (pT p)))) 9 u80) 1 2 (sr (sr s4 7 (upd (s4 7) (pS p) (nI (pT p)))) 9 u80 1 2 + 1)) 1 1 (su (sr (sr s4 7 (upd (s4 7) (pS p) (nI (pT p)))) 9 u80) 1 2 (sr (sr s4 7 (upd (s4 7) (pS p) (nI (pT p)))) 9 u80 1 2 + 1) 1 1 + 1))) = _
      rw [hs5, c9, c1, h12, v_put (by omega) (by omega)]
      show some (nI (pS p), su (su (sr s5 9 (upd (σ 9) (pT p) (nI (pS p)))) 1 2 (sr s5 9 (upd (σ 9) (pT p) (nI (pS p))) 1 2 + 1)) 1 1 (su (sr s5 9 (upd (σ 9) (pT p) (nI (pS p)))) 1 2 (sr s5 9 (upd (σ 9) (pT p) (nI (pS p))) 1 2 + 1) 1 1 + 1)) = _
      rw [hs6, d1, h12, nI_1, su_j (by omega), d1, h11, nI_1]
    · rw [su_j (by omega), su_j (by omega), d1]
    · rw [su_j (by omega), su_s, if_pos c]
    · rw [su_n (by omega), su_n (by omega), n6 5 (by omega), n5 5 (by omega), n4 5 (by omega), a5]
    · rw [su_n (by omega), su_n (by omega), n6 6 (by omega), n5 6 (by omega), n4 6 (by omega), a6]
    · rw [su_n (by omega), su_n (by omega), n6 7 (by omega), c7, if_pos c]
    · intro j hj
      rw [su_n (by omega), su_n (by omega), n6 8 (by omega), n5 8 (by omega)]
      exact r8 j hj
    · intro i hi
      rw [su_n (by omega), su_n (by omega), n6 8 (by omega), n5 8 (by omega)]
      exact r8' i hi
    · rw [su_n (by omega), su_n (by omega), if_pos c, ← hs6, sr_s]
    · intro r g1 g2
      rw [su_n g1, su_n g1, n6 r (by omega), n5 r (by omega), n4 r (by omega), n3 r (by omega) (by omega) (by omega)]
  · rw [if_neg (fun z => c (e00.mp z))]
    refine ⟨su s4 1 1 (nI (pS p + 1)), ?_, ?_, su_s _ _ _ _, ?_, ?_, ?_, ?_, ?_, ?_, ?_, ?_⟩
    · simp only [lett]
      rw [b1, h11, nI_1]
    · rw [su_j (by omega), b1]
    · rw [su_j (by omega), b1, h12, if_neg c]
    · rw [su_n (by omega), n4 5 (by omega), a5]
    · rw [su_n (by omega), n4 6 (by omega), a6]
    · rw [su_n (by omega), n4 7 (by omega), a7, if_neg c]
    · intro j hj
      rw [su_n (by omega)]
      exact r8 j hj
    · intro i hi
      rw [su_n (by omega)]
      exact r8' i hi
    · rw [su_n (by omega), if_neg c, n4 9 (by omega), n3 9 (by omega) (by omega) (by omega)]
    · intro r g1 g2
      rw [su_n g1, n4 r (by omega), n3 r (by omega) (by omega) (by omega)]
theorem m_add {τ : St} {S T m k : Nat} (h11 : τ 0 1 = nI S) (h12 : τ 0 2 = nI T) (hS : S < 64) (hT : k = 0 → T < 16) (hk : k ≤ 10) : ∃ τ', f_M_add τ (nI m) (nI k) = some (nI S, τ') ∧ τ' 0 0 = τ 0 0 ∧ τ' 0 1 = nI (S + 1) ∧ τ' 0 2 = nI (if k = 0 then T + 1 else T) ∧ τ' 0 13 = 1 ∧ τ' 1 = upd (τ 1) S (nI m) ∧ τ' 2 = upd (τ 2) S (nI k) ∧ τ' 3 = upd (τ 3) S (if k = 0 then nI T else -1) ∧ (τ' 5 = if k = 0 then upd (τ 5) T (nI S) else τ 5) ∧ (∀ r, r = 4 ∨ 5 < r → τ' r = τ r) := by
  generalize hs1 : sr τ 1 (upd (τ 1) S (nI m)) = s1
  generalize hs2 : sr s1 2 (upd (τ 2) S (nI k)) = s2
  generalize hs3 : sr s2 3 (upd (τ 3) S (-1)) = s3
  have n1 : ∀ r, r ≠ 1 → s1 r = τ r := fun r a => by rw [← hs1, sr_n a]
  have n2 : ∀ r, r ≠ 2 → s2 r = s1 r := fun r a => by rw [← hs2, sr_n a]
  have n3 : ∀ r, r ≠ 3 → s3 r = s2 r := fun r a => by rw [← hs3, sr_n a]
  have z1 : s1 0 = τ 0 := n1 0 (by omega)
  have z2 : s2 0 = τ 0 := by rw [n2 0 (by omega), z1]
  have z3 : s3 0 = τ 0 := by rw [n3 0 (by omega), z2]
  have ix : ¬ (nI S < 0 ∨ 64 ≤ S) := fun z => z.elim (ix_n (by omega)) (by omega)
  have ec : (nI S).toNatClampNeg = S := ix_c (by omega)
  have e00 : (nI k = 0) ↔ k = 0 := nI_eq (b := 0) (by omega) (by omega)
  have a1 : s3 1 = upd (τ 1) S (nI m) := by rw [n3 1 (by omega), n2 1 (by omega), ← hs1, sr_s]
  have a2 : s3 2 = upd (τ 2) S (nI k) := by rw [n3 2 (by omega), ← hs2, sr_s]
  have a3 : s3 3 = upd (τ 3) S (-1) := by rw [← hs3, sr_s]
  have nn : ∀ r, r = 4 ∨ 5 ≤ r → s3 r = τ r := fun r a => by rw [n3 r (by omega), n2 r (by omega), n1 r (by omega)]
  have start : f_M_add τ (nI m) (nI k) = (if nI k = 0 then (if ¬ ((s3 0 1) < 0 ∨ 64 ≤ (s3 0 1).toNatClampNeg) then (lett (sr s3 3 (upd (s3 3) (s3 0 1).toNatClampNeg (s3 0 2))) (fun s46 => if ¬ ((s46 0 2) < 0 ∨ 16 ≤ (s46 0 2).toNatClampNeg) then (lett (sr s46 5 (upd (s46 5) (s46 0 2).toNatClampNeg (s46 0 1))) (fun s59 => lett (su s59 0 2 ((s59 0 2) + (1 : Int32))) (fun s67 => lett (su s67 0 13 (1 : Int32)) (fun s72 => lett (su s72 0 1 ((s72 0 1) + (1 : Int32))) (fun s82 => some (((s82 0 1) - (1 : Int32)), s82)))))) else none)) else none) else (lett (su s3 0 13 (1 : Int32)) (fun s72 => lett (su s72 0 1 ((s72 0 1) + (1 : Int32))) (fun s82 => some (((s82 0 1) - (1 : Int32)), s82))))) := by
    unfold f_M_add
    simp only [lett]
    rw [h11, ec, if_pos ix, hs1, z1, h11, ec, if_pos ix, n1 2 (by omega), hs2, z2, h11, ec, if_pos ix, show s2 3 = τ 3 by rw [n2 3 (by omega), n1 3 (by omega)], hs3]
  rw [start]
  by_cases c : k = 0
  · have hT' := hT c
    have ix2 : ¬ (nI T < 0 ∨ 16 ≤ T) := fun z => z.elim (ix_n (by omega)) (by omega)
    have ec2 : (nI T).toNatClampNeg = T := ix_c (by omega)
    generalize hs4 : sr s3 3 (upd (s3 3) S (nI T)) = s4
    have n4 : ∀ r, r ≠ 3 → s4 r = s3 r := fun r a => by rw [← hs4, sr_n a]
    have z4 : s4 0 = τ 0 := by rw [n4 0 (by omega), z3]
    have a43 : s4 3 = upd (τ 3) S (nI T) := by
      rw [← hs4, sr_s, a3]
      funext j
      unfold upd
      by_cases g : j = S
      · rw [if_pos g, if_pos g]
      · rw [if_neg g, if_neg g, if_neg g]
    generalize hs5 : sr s4 5 (upd (τ 5) T (nI S)) = s5
    have n5 : ∀ r, r ≠ 5 → s5 r = s4 r := fun r a => by rw [← hs5, sr_n a]
    have z5 : s5 0 = τ 0 := by rw [n5 0 (by omega), z4]
    refine ⟨su (su (su s5 0 2 (nI (T + 1))) 0 13 1) 0 1 (nI (S + 1)), ?_, ?_, su_s _ _ _ _, ?_, ?_, ?_, ?_, ?_, ?_, ?_⟩
    · simp only [lett]
      rw [if_pos (e00.mpr c), z3, h11, h12, ec, if_pos ix, hs4, z4, h12, h11, ec2, if_pos ix2, show s4 5 = τ 5 by rw [n4 5 (by omega), nn 5 (by omega)], hs5, z5, h12, nI_1, su_j (show (1 : Nat) ≠ 13 by omega), su_j (show (1 : Nat) ≠ 2 by omega), z5, h11, nI_1, su_s, nI_pred]
    · rw [su_j (by omega), su_j (by omega), su_j (by omega), z5]
    · rw [su_j (by omega), su_j (by omega), su_s, if_pos c]
    · rw [su_j (by omega), su_s]
    · rw [su_n (by omega), su_n (by omega), su_n (by omega), n5 1 (by omega), n4 1 (by omega), a1]
    · rw [su_n (by omega), su_n (by omega), su_n (by omega), n5 2 (by omega), n4 2 (by omega), a2]
    · rw [su_n (by omega), su_n (by omega), su_n (by omega), n5 3 (by omega), a43, if_pos c]
    · rw [su_n (by omega), su_n (by omega), su_n (by omega), ← hs5, sr_s, if_pos c]
    · intro r hr
      rw [su_n (by omega), su_n (by omega), su_n (by omega), n5 r (by omega), n4 r (by omega), nn r (by omega)]
  · rw [if_neg (fun z => c (e00.mp z))]
    refine ⟨su (su s3 0 13 1) 0 1 (nI (S + 1)), ?_, ?_, su_s _ _ _ _, ?_, ?_, ?_, ?_, ?_, ?_, ?_⟩
    · simp only [lett]
      rw [su_j (show (1 : Nat) ≠ 13 by omega), z3, h11, nI_1, su_s, nI_pred]
    · rw [su_j (by omega), su_j (by omega), z3]
    · rw [su_j (by omega), su_j (by omega), z3, h12, if_neg c]
    · rw [su_j (by omega), su_s]
    · rw [su_n (by omega), su_n (by omega), a1]
    · rw [su_n (by omega), su_n (by omega), a2]
    · rw [su_n (by omega), su_n (by omega), a3, if_neg c]
    · rw [su_n (by omega), su_n (by omega), nn 5 (by omega), if_neg c]
    · intro r hr
      rw [su_n (by omega), su_n (by omega), nn r (by omega)]
