/-! Marks of the reference: all sweeps; parameter. -/
section MR
variable {p : PG} {σ τ τ' : St}
theorem SQ_lv {b : Bool} (h : SQ p τ τ' b) (hlv : τ 0 12 = liveP p) : τ' 0 12 = liveP p := by rw [h.2.1 12 (by omega), hlv]
theorem m_sweepMarks (h : AM τ p) (hw : WF p) (hlv : τ 0 12 = liveP p) {F : Nat} (hF : 64 < F) : ∃ b τ', f_M_findMarked_L46 F F 0 τ = some (nI (pS p), τ') ∧ SQ p τ τ' b ∧ (b = false → ∀ s, s < pS p → bt (liveP p) (pow p s) = true → rulM p τ s) := by
  have hSt := hw.2.2.1
  have back : ∀ {τk : St} {s : Nat}, s < pS p → SQ p τ τk false → rulM p τk s → rulM p τ s := by
    intro τk s hs hq hr
    obtain ⟨h64, hm, hst⟩ := WF_step hw hs
    have dn : ∀ m x, m < 8 → x < 8 → mkM τk m x → mkM τ m x := fun m x hm hx hb => hq.2.2.2.2.2.2 rfl _ (by omega) hb
    refine ⟨fun hk hb => ?_, fun hk => ⟨fun i hi hne hb => ?_, fun hne hg => ?_⟩⟩
    · obtain ⟨n0, n1⟩ := k1_n hw hs hk
      exact dn _ _ hm n0 (hr.1 hk (hq.2.2.2.2.2.1 _ hb))
    · exact dn _ _ (k6_n hw hs hk).1 (by omega) ((hr.2 hk).1 i hi hne (hq.2.2.2.2.2.1 _ hb))
    · have h9 := (k6_n hw hs hk).2 3 (by omega)
      obtain ⟨s', q1, q2, q3, q4, q5⟩ := hg
      exact dn _ _ hm (by have : pnv p s 4 < 9 := h9; omega) ((hr.2 hk).2 hne ⟨s', q1, q2, q3, q4, hq.2.2.2.2.2.1 _ q5⟩)
  have key : ∀ d k fu b τk, k + d = pS p → d < fu → SQ p τ τk b → (b = false → ∀ s, s < k → bt (liveP p) (pow p s) = true → rulM p τ s) → ∃ b' τ', f_M_findMarked_L46 F fu (nI k) τk = some (nI (pS p), τ') ∧ SQ p τ τ' b' ∧ (b' = false → ∀ s, s < pS p → bt (liveP p) (pow p s) = true → rulM p τ s) := by
    intro d
    induction d with
    | zero =>
      intro k fu b τk e hfu hsp hr
      obtain ⟨fu, rfl⟩ : ∃ z, fu = z + 1 := ⟨fu - 1, by omega⟩
      have hk : k = pS p := by omega
      subst hk
      refine ⟨b, τk, ?_, hsp, hr⟩
      show f_M_findMarked_B46 F _ (nI (pS p)) τk = _
      unfold f_M_findMarked_B46
      rw [(SQ_am hsp h).2.1, if_pos (nI_le (Nat.le_refl _) (by omega))]
    | succ d ih =>
      intro k fu b τk e hfu hsp hr
      obtain ⟨fu, rfl⟩ : ∃ z, fu = z + 1 := ⟨fu - 1, by omega⟩
      have ha := SQ_am hsp h
      have hk : k < pS p := by omega
      show ∃ b' τ', f_M_findMarked_B46 F (f_M_findMarked_L46 F fu) (nI k) τk = _ ∧ _
      unfold f_M_findMarked_B46
      rw [ha.2.1, if_neg (nI_ge hk (by omega)), m_isLive ha hw hk, SQ_lv hsp hlv, nI_1]
      cases l : bt (liveP p) (pow p k)
      · show ∃ b' τ', f_M_findMarked_L46 F fu (nI (k + 1)) τk = _ ∧ _
        refine ih (k + 1) fu b τk (by omega) (by omega) hsp (fun eb s hs2 hl => ?_)
        by_cases q : s = k
        · subst q; rw [l] at hl; cases hl
        · exact hr eb s (by omega) hl
      · obtain ⟨c, τ', e', hsp', hr'⟩ := m_markBy ha hw (SQ_lv hsp hlv) hF hk l
        show ∃ b' τ', Option.bind (f_M_markBy F τk (nI k)) _ = _ ∧ _
        rw [e']
        show ∃ b' τ'', f_M_findMarked_L46 F fu (nI (k + 1)) τ' = _ ∧ _
        refine ih (k + 1) fu (b || c) τ' (by omega) (by omega) (SQ_t hsp hsp') (fun eb s hs2 hl => ?_)
        rw [Bool.or_eq_false_iff] at eb
        by_cases q : s = k
        · subst q
          obtain ⟨eb1, eb2⟩ := eb
          subst eb1
          exact back hk hsp (hr' eb2)
        · exact hr eb.1 s (by omega) hl
  exact key (pS p) 0 F false τ (by omega) (by omega) SQ_r (fun _ s hs => absurd hs (Nat.not_lt_zero s))
/-- what all sweeps keep -/
def SW (p : PG) (τ τ' : St) : Prop := (∀ k, k ≠ 10 → k ≠ 0 → τ' k = τ k) ∧ (∀ j, j ≠ 16 → τ' 0 j = τ 0 j) ∧ (∀ B, clM p B → inM τ B → inM τ' B) ∧ (∀ k, ¬ τ 10 k = 0 → ¬ τ' 10 k = 0)
theorem m_sweepsM (h : AM τ p) (hw : WF p) (hlv : τ 0 12 = liveP p) (h16 : τ 0 16 = 1) {F : Nat} (hF : 100 < F) : ∃ τ', f_M_findMarked_L32 F F τ = some τ' ∧ SW p τ τ' ∧ ∀ s, s < pS p → bt (liveP p) (pow p s) = true → rulM p τ' s := by
  have key : ∀ d fu τk, 64 - msM τk ≤ d → d + 2 < fu → SW p τ τk → τk 0 16 = 1 → ∃ τ', f_M_findMarked_L32 F fu τk = some τ' ∧ SW p τ τ' ∧ ∀ s, s < pS p → bt (liveP p) (pow p s) = true → rulM p τ' s := by
    intro d
    induction d with
    | zero =>
      intro fu τk hd hfu hsw hk16
      obtain ⟨fu, rfl⟩ : ∃ z, fu = z + 2 := ⟨fu - 2, by omega⟩
      generalize hr0 : su τk 0 16 0 = τr
      have nr : ∀ k, k ≠ 0 → τr k = τk k := fun k hk => by rw [← hr0, su_n hk]
      have jr : ∀ j, j ≠ 16 → τr 0 j = τk 0 j := fun j hj => by rw [← hr0, su_j hj]
      have ha : AM τr p := h.same ⟨by rw [jr 0 (by omega), hsw.2.1 0 (by omega)], by rw [jr 1 (by omega), hsw.2.1 1 (by omega)], by rw [jr 2 (by omega), hsw.2.1 2 (by omega)]⟩ (by rw [nr 1 (by omega), hsw.1 1 (by omega) (by omega)]) (by rw [nr 2 (by omega), hsw.1 2 (by omega) (by omega)]) (by rw [nr 3 (by omega), hsw.1 3 (by omega) (by omega)]) (by rw [nr 4 (by omega), hsw.1 4 (by omega) (by omega)]) (by rw [nr 5 (by omega), hsw.1 5 (by omega) (by omega)])
      have hlr : τr 0 12 = liveP p := by rw [jr 12 (by omega), hsw.2.1 12 (by omega), hlv]
      obtain ⟨b, τ', e, hsq, hr⟩ := m_sweepMarks ha hw hlr (F := F) (by omega)
      have hb : b = false := by
        cases hb : b
        · rfl
        · subst hb
          have h1 : msM τr + 1 ≤ msM τ' := hsq.2.2.2.1
          have h2 : msM τr = msM τk := by unfold msM; rw [nr 10 (by omega)]
          have h3 : msM τ' ≤ 64 := cnt_le _ 64
          omega
      subst hb
      have e16 : τ' 0 16 = 0 := hsq.2.2.1 false (by rw [← hr0, su_s]; rfl)
      refine ⟨τ', ?_, ⟨fun k k1 k2 => by rw [hsq.1 k k1 k2, nr k k2, hsw.1 k k1 k2], fun j hj => by rw [hsq.2.1 j hj, jr j hj, hsw.2.1 j hj], fun B hB hin => hsq.2.2.2.2.1 B hB (by
        intro m x hm hx hb
        unfold mkM at hb
        rw [nr 10 (by omega)] at hb
        exact hsw.2.2.1 B hB hin m x hm hx hb), fun k hk => hsq.2.2.2.2.2.1 k (by rw [nr 10 (by omega)]; exact hsw.2.2.2 k hk)⟩, fun s hs hl => ?_⟩
      · show f_M_findMarked_B32 F (f_M_findMarked_L32 F (fu + 1)) τk = _
        unfold f_M_findMarked_B32
        rw [hk16, if_neg h10]
        simp only [lett]
        rw [hr0, e]
        show f_M_findMarked_B32 F (f_M_findMarked_L32 F fu) τ' = _
        unfold f_M_findMarked_B32
        rw [if_pos e16]
      · have hrs := hr rfl s hs hl
        obtain ⟨h64, hm, hst⟩ := WF_step hw hs
        have dn : ∀ m x, m < 8 → x < 8 → mkM τ' m x → mkM τr m x := fun m x hm hx hb => hsq.2.2.2.2.2.2 rfl _ (by omega) hb
        refine ⟨fun hk hb => hsq.2.2.2.2.2.1 _ (hrs.1 hk (dn _ _ hm (k1_n hw hs hk).2 hb)), fun hk => ⟨fun i hi hne hb => hsq.2.2.2.2.2.1 _ ((hrs.2 hk).1 i hi hne (dn _ _ hm (by have := (k6_n hw hs hk).2 i (by omega); omega) hb)), fun hne ⟨s', q1, q2, q3, q4, q5⟩ => hsq.2.2.2.2.2.1 _ ((hrs.2 hk).2 hne ⟨s', q1, q2, q3, q4, dn _ _ (k6_n hw hs hk).1 ?_ q5⟩)⟩⟩
        have := (WF_step hw q1).2.2.2.2.2
        rw [q3] at this
        exact this 0 (by decide)
    | succ d ih =>
      intro fu τk hd hfu hsw hk16
      obtain ⟨fu, rfl⟩ : ∃ z, fu = z + 2 := ⟨fu - 2, by omega⟩
      generalize hr0 : su τk 0 16 0 = τr
      have nr : ∀ k, k ≠ 0 → τr k = τk k := fun k hk => by rw [← hr0, su_n hk]
      have jr : ∀ j, j ≠ 16 → τr 0 j = τk 0 j := fun j hj => by rw [← hr0, su_j hj]
      have ha : AM τr p := h.same ⟨by rw [jr 0 (by omega), hsw.2.1 0 (by omega)], by rw [jr 1 (by omega), hsw.2.1 1 (by omega)], by rw [jr 2 (by omega), hsw.2.1 2 (by omega)]⟩ (by rw [nr 1 (by omega), hsw.1 1 (by omega) (by omega)]) (by rw [nr 2 (by omega), hsw.1 2 (by omega) (by omega)]) (by rw [nr 3 (by omega), hsw.1 3 (by omega) (by omega)]) (by rw [nr 4 (by omega), hsw.1 4 (by omega) (by omega)]) (by rw [nr 5 (by omega), hsw.1 5 (by omega) (by omega)])
      have hlr : τr 0 12 = liveP p := by rw [jr 12 (by omega), hsw.2.1 12 (by omega), hlv]
      obtain ⟨b, τ', e, hsq, hr⟩ := m_sweepMarks ha hw hlr (F := F) (by omega)
      have hsw' : SW p τ τ' := ⟨fun k k1 k2 => by rw [hsq.1 k k1 k2, nr k k2, hsw.1 k k1 k2], fun j hj => by rw [hsq.2.1 j hj, jr j hj, hsw.2.1 j hj], fun B hB hin => hsq.2.2.2.2.1 B hB (by
        intro m x hm hx hb
        unfold mkM at hb
        rw [nr 10 (by omega)] at hb
        exact hsw.2.2.1 B hB hin m x hm hx hb), fun k hk => hsq.2.2.2.2.2.1 k (by rw [nr 10 (by omega)]; exact hsw.2.2.2 k hk)⟩
      have eL : f_M_findMarked_L32 F (fu + 2) τk = f_M_findMarked_L32 F (fu + 1) τ' := by
        show f_M_findMarked_B32 F (f_M_findMarked_L32 F (fu + 1)) τk = _
        unfold f_M_findMarked_B32
        rw [hk16, if_neg h10]
        simp only [lett]
        rw [hr0, e]
        rfl
      rw [eL]
      cases hb : b
      · subst hb
        have e16 : τ' 0 16 = 0 := hsq.2.2.1 false (by rw [← hr0, su_s]; rfl)
        refine ⟨τ', ?_, hsw', fun s hs hl => ?_⟩
        · show f_M_findMarked_B32 F (f_M_findMarked_L32 F fu) τ' = _
          unfold f_M_findMarked_B32
          rw [if_pos e16]
        · have hrs := hr rfl s hs hl
          obtain ⟨h64, hm, hst⟩ := WF_step hw hs
          have dn : ∀ m x, m < 8 → x < 8 → mkM τ' m x → mkM τr m x := fun m x hm hx hb => hsq.2.2.2.2.2.2 rfl _ (by omega) hb
          refine ⟨fun hk hb => hsq.2.2.2.2.2.1 _ (hrs.1 hk (dn _ _ hm (k1_n hw hs hk).2 hb)), fun hk => ⟨fun i hi hne hb => hsq.2.2.2.2.2.1 _ ((hrs.2 hk).1 i hi hne (dn _ _ hm (by have := (k6_n hw hs hk).2 i (by omega); omega) hb)), fun hne ⟨s', q1, q2, q3, q4, q5⟩ => hsq.2.2.2.2.2.1 _ ((hrs.2 hk).2 hne ⟨s', q1, q2, q3, q4, dn _ _ (k6_n hw hs hk).1 ?_ q5⟩)⟩⟩
          have := (WF_step hw q1).2.2.2.2.2
          rw [q3] at this
          exact this 0 (by decide)
      · subst hb
        have h1 : msM τr + 1 ≤ msM τ' := hsq.2.2.2.1
        have h2 : msM τr = msM τk := by unfold msM; rw [nr 10 (by omega)]
        have h3 : msM τ' ≤ 64 := cnt_le _ 64
        have e16 : τ' 0 16 = 1 := hsq.2.2.1 false (by rw [← hr0, su_s]; rfl)
        exact ih (fu + 1) τ' (by omega) (by omega) hsw' e16
  exact key 64 F τ (by omega) (by omega) ⟨fun _ _ _ => rfl, fun _ _ => rfl, fun _ _ h => h, fun _ h => h⟩ h16
theorem m_findMarked (h : AM τ p) (hw : WF p) (hlv : τ 0 12 = liveP p) {F : Nat} (hF : 100 < F) {m x : Nat} (hm : m < 8) (hx : x < 8) : ∃ τ', f_M_findMarked F τ (nI m) (nI x) = some τ' ∧ (∀ k, k ≠ 10 → k ≠ 0 → τ' k = τ k) ∧ (∀ j, j ≠ 16 → τ' 0 j = τ 0 j) ∧ LM p m x (mkM τ') := by
  have l2 := loop2 64 (f_M_findMarked_L2 F (nI m) (nI x)) (fun k => nI k) (fun k => sr τ 10 (fun i => if i < k then 0 else τ 10 i)) (nI 64, sr τ 10 (fun i => if i < 64 then 0 else τ 10 i)) (fun fu => by
      show f_M_findMarked_B2 F _ _ _ (nI 64) _ = _
      unfold f_M_findMarked_B2
      rw [if_pos le_64]) (fun k fu hk => by
      show f_M_findMarked_B2 F _ _ _ (nI k) (sr τ 10 (fun i => if i < k then 0 else τ 10 i)) = f_M_findMarked_L2 F (nI m) (nI x) fu (nI (k + 1)) (sr τ 10 (fun i => if i < k + 1 then 0 else τ 10 i))
      unfold f_M_findMarked_B2
      rw [if_neg (lt_64 hk), if_pos (ix_in hk (by omega)), ix_c (by omega), nI_1]
      simp only [lett]
      rw [sr_s, sr_sr]
      congr 2
      funext i
      unfold upd
      by_cases e : i = k
      · rw [if_pos e, if_pos (by omega)]
      · rw [if_neg e]
        show (if i < k then 0 else τ 10 i) = _
        by_cases d : i < k
        · rw [if_pos d, if_pos (by omega)]
        · rw [if_neg d, if_neg (by omega)]) F (by omega)
  have e2 : f_M_findMarked_L2 F (nI m) (nI x) F 0 τ = some (nI 64, sr τ 10 (fun i => if i < 64 then 0 else τ 10 i)) := by
    rw [← l2]
    show _ = f_M_findMarked_L2 F (nI m) (nI x) F (nI 0) (sr τ 10 (fun i => if i < 0 then 0 else τ 10 i))
    have : (fun i => if i < 0 then (0 : Int32) else τ 10 i) = τ 10 := by funext i; simp
    rw [this, sr_id]
    rfl
  generalize hs2 : sr τ 10 (fun i => if i < 64 then 0 else τ 10 i) = s2 at e2
  have n2 : ∀ k, k ≠ 10 → s2 k = τ k := fun k hk => by rw [← hs2, sr_n hk]
  have z2 : ∀ i, i < 64 → s2 10 i = 0 := fun i hi => by rw [← hs2, sr_s]; exact if_pos hi
  obtain ⟨w, ew, -⟩ := m_mark (τ := s2) hm hx
  generalize hs3 : sr (su s2 0 16 (bI w)) 10 (upd (s2 10) (8 * m + x) 1) = s3 at ew
  have n3 : ∀ k, k ≠ 10 → k ≠ 0 → s3 k = s2 k := fun k h1 h2 => by rw [← hs3, sr_n h1, su_n h2]
  have j3 : ∀ j, j ≠ 16 → s3 0 j = s2 0 j := fun j hj => by rw [← hs3, sr_n (by omega), su_j hj]
  generalize hs4 : su s3 0 16 1 = s4
  have n4 : ∀ k, k ≠ 0 → s4 k = s3 k := fun k hk => by rw [← hs4, su_n hk]
  have j4 : ∀ j, j ≠ 16 → s4 0 j = s3 0 j := fun j hj => by rw [← hs4, su_j hj]
  have nn : ∀ k, k ≠ 10 → k ≠ 0 → s4 k = τ k := fun k h1 h2 => by rw [n4 k h2, n3 k h1 h2, n2 k h1]
  have jj : ∀ j, j ≠ 16 → s4 0 j = τ 0 j := fun j hj => by rw [j4 j hj, j3 j hj, n2 0 (by omega)]
  have r4 : s4 10 = upd (s2 10) (8 * m + x) 1 := by rw [n4 10 (by omega), ← hs3, sr_s]
  have hA4 : AM s4 p := h.same ⟨jj 0 (by omega), jj 1 (by omega), jj 2 (by omega)⟩ (nn 1 (by omega) (by omega)) (nn 2 (by omega) (by omega)) (nn 3 (by omega) (by omega)) (nn 4 (by omega) (by omega)) (nn 5 (by omega) (by omega))
  obtain ⟨τ', e5, hsw, hr⟩ := m_sweepsM hA4 hw (by rw [jj 12 (by omega), hlv]) (by rw [← hs4, su_s]) hF
  have hmx : mkM τ' m x := hsw.2.2.2 _ (by rw [r4, pk_us]; exact h10)
  refine ⟨τ', ?_, fun k k1 k2 => by rw [hsw.1 k k1 k2, nn k k1 k2], fun j hj => by rw [hsw.2.1 j hj, jj j hj], hmx, fun s hs hl => hr s hs hl, fun B hb hB k y hk hy hA => ?_⟩
  · unfold f_M_findMarked
    rw [e2]
    show Option.bind (f_M_mark s2 (nI m) (nI x)) _ = _
    rw [ew]
    show Option.bind (f_M_findMarked_L32 F F (su s3 0 16 1)) _ = _
    rw [hs4, e5]
    rfl
  · refine hsw.2.2.1 B hB (fun k' y' hk' hy' hm' => ?_) k y hk hy hA
    unfold mkM at hm'
    rw [r4] at hm'
    by_cases q : 8 * k' + y' = 8 * m + x
    · have q1 : k' = m := by omega
      have q2 : y' = x := by omega
      rw [q1, q2]; exact hb
    · rw [pk_un q, z2 _ (by omega)] at hm'
      exact absurd rfl hm'
-- kept
def knm (p : PG) (s : Nat) : Nat := if pkd p s = 3 then pnv p s 2 else if pkd p s = 5 then pnv p s 1 else if pkd p s = 8 ∨ pkd p s = 9 then pnv p s 0 else 8
theorem e_keptName (h : AE σ p) (hw : WF p) {s : Nat} (hs : s < pS p) : f_K_keptName σ (nI s) = some (if knm p s = 8 then -1 else nI (knm p s)) ∧ knm p s < 9 := by
  obtain ⟨h64, hm, hst⟩ := WF_step hw hs
  have h2 := hst.2.1
  have h4 := hst.2.2.2
  have hk : pkd p s = 0 ∨ pkd p s = 1 ∨ pkd p s = 2 ∨ pkd p s = 3 ∨ pkd p s = 4 ∨ pkd p s = 5 ∨ pkd p s = 6 ∨ pkd p s = 7 ∨ pkd p s = 8 ∨ pkd p s = 9 ∨ pkd p s = 10 := by omega
  have fin : ∀ i, i < 5 → i < nds (pkd p s) → pnv p s i < 8 → ¬ pkd p s = 6 → f_P_need σ (nI s) (nI i) = some (if pnv p s i = 8 then -1 else nI (pnv p s i)) := by
    intro i hi hn hv h6
    rw [e_need h hw hs hi, if_pos hn, ndI_o h6, if_neg (by omega)]
  unfold f_K_keptName knm
  rw [e_kind h hw hs]
  rcases hk with k | k | k | k | k | k | k | k | k | k | k
  · rw [k]; exact ⟨rfl, (show (8 : Nat) < 9 from by omega)⟩
  · rw [k]; exact ⟨rfl, (show (8 : Nat) < 9 from by omega)⟩
  · rw [k]; exact ⟨rfl, (show (8 : Nat) < 9 from by omega)⟩
  · have hv : pnv p s 2 < 8 := by rw [k] at h4; exact h4 2 (by decide)
    have hf := fin 2 (by omega) (by rw [k]; decide) hv (by omega)
    rw [k]
    refine ⟨?_, by rw [if_pos rfl]; omega⟩
    rw [if_pos (rfl : (3 : Nat) = 3)]
    show Option.bind (f_P_need σ (nI s) (nI 2)) _ = _
    rw [hf]; rfl
  · rw [k]; exact ⟨rfl, (show (8 : Nat) < 9 from by omega)⟩
  · have hv : pnv p s 1 < 8 := by rw [k] at h4; exact h4 1 (by decide)
    have hf := fin 1 (by omega) (by rw [k]; decide) hv (by omega)
    rw [k]
    refine ⟨?_, by rw [if_neg (by omega), if_pos rfl]; omega⟩
    rw [if_neg (show ¬ (5 : Nat) = 3 by omega), if_pos (rfl : (5 : Nat) = 5)]
    show Option.bind (f_P_need σ (nI s) (nI 1)) _ = _
    rw [hf]; rfl
  · rw [k]; exact ⟨rfl, (show (8 : Nat) < 9 from by omega)⟩
  · rw [k]; exact ⟨rfl, (show (8 : Nat) < 9 from by omega)⟩
  · have hv : pnv p s 0 < 8 := by rw [k] at h4; exact h4 0 (by decide)
    have hf := fin 0 (by omega) (by rw [k]; decide) hv (by omega)
    rw [k]
    refine ⟨?_, by rw [if_neg (by omega), if_neg (by omega), if_pos (by omega)]; omega⟩
    rw [if_neg (show ¬ (8 : Nat) = 3 by omega), if_neg (show ¬ (8 : Nat) = 5 by omega), if_pos (show (8 : Nat) = 8 ∨ (8 : Nat) = 9 by omega)]
    show Option.bind (f_P_need σ (nI s) (nI 0)) _ = _
    rw [hf]; rfl
  · have hv : pnv p s 0 < 8 := by rw [k] at h4; exact h4 0 (by decide)
    have hf := fin 0 (by omega) (by rw [k]; decide) hv (by omega)
    rw [k]
    refine ⟨?_, by rw [if_neg (by omega), if_neg (by omega), if_pos (by omega)]; omega⟩
    rw [if_neg (show ¬ (9 : Nat) = 3 by omega), if_neg (show ¬ (9 : Nat) = 5 by omega), if_pos (show (9 : Nat) = 8 ∨ (9 : Nat) = 9 by omega)]
    show Option.bind (f_P_need σ (nI s) (nI 0)) _ = _
    rw [hf]; rfl
  · rw [k]; exact ⟨rfl, (show (8 : Nat) < 9 from by omega)⟩
def kep (p : PG) (A : Nat → Nat → Bool) (s : Nat) : Bool := bt (liveP p) (pow p s) && (!decide (knm p s = 8) && A (pow p s) (knm p s))
theorem e_isKept (h : AE σ p) (hw : WF p) (h43 : σ 4 3 = liveP p) {F : Nat} (hF : 64 < F) : f_K_isKept F σ = some (bI (!nonB (kep p (fun m x => bt (σ 16 m) x)) (pS p))) := by
  have hSt := hw.2.2.1
  have hl := lpE (N := pS p) (F := F) (kep p (fun m x => bt (σ 16 m) x)) 1 (f_K_isKept_L2 F σ) (fun fu => by
      show f_K_isKept_B2 F σ _ (nI (pS p)) = _
      unfold f_K_isKept_B2
      rw [h.2.1, if_pos (nI_le (Nat.le_refl _) (by omega))]) (fun k fu hk => by
      show f_K_isKept_B2 F σ _ (nI k) = _
      obtain ⟨h64, hm, hst⟩ := WF_step hw hk
      obtain ⟨ek, hk9⟩ := e_keptName h hw hk
      unfold f_K_isKept_B2 kep
      rw [h.2.1, if_neg (nI_ge hk (by omega)), e_isIn h hw hk, h43, e_owner h hw hk, ek, nI_1]
      show (if bI (bt (liveP p) (pow p k)) = 0 then _ else Option.bind (f_K_isMarked σ (nI (pow p k)) (if knm p k = 8 then -1 else nI (knm p k))) _) = _
      by_cases c : knm p k = 8
      · rw [if_pos c, e_isMarkedN hm, decide_eq_true c]
        cases bt (liveP p) (pow p k) <;> rfl
      · rw [if_neg c, e_isMarked hm (by omega), decide_eq_false c]
        show _ = if (bt (liveP p) (pow p k) && (!false && bt (σ 16 (pow p k)) (knm p k))) = true then _ else _
        cases bt (liveP p) (pow p k) <;> cases bt (σ 16 (pow p k)) (knm p k) <;> rfl) (by omega)
  unfold f_K_isKept
  rw [show (0 : Int32) = nI 0 from rfl, hl]
  cases nonB (kep p (fun m x => bt (σ 16 m) x)) (pS p) <;> rfl
theorem m_isKept (h : AM τ p) (hw : WF p) (hlv : τ 0 12 = liveP p) {F : Nat} (hF : 64 < F) : f_M_isKept F τ = some (bI (!nonB (kep p (mkb τ)) (pS p))) := by
  have hSt := hw.2.2.1
  have hl := lpR (N := pS p) (F := F) (kep p (mkb τ)) (f_M_isKept_L4 F τ) (fun fu y => by
      show f_M_isKept_B4 F τ _ y (nI (pS p)) = _
      unfold f_M_isKept_B4
      rw [h.2.1, if_pos (nI_le (Nat.le_refl _) (by omega))]) (fun k fu b hk => by
      show f_M_isKept_B4 F τ _ (bI b) (nI k) = _
      obtain ⟨h64, hm, hst⟩ := WF_step hw hk
      obtain ⟨i0, i5, c0, c5⟩ := m_ix hw hk
      obtain ⟨r1, r2, r3, r4⟩ := h.2.2.2.1 k hk
      have h4 := hst.2.2.2
      have e3 : (nI (pkd p k) = 3) ↔ pkd p k = 3 := kdI hw hk 3 (by omega)
      have e5 : (nI (pkd p k) = 5) ↔ pkd p k = 5 := kdI hw hk 5 (by omega)
      have e8 : (nI (pkd p k) = 8) ↔ pkd p k = 8 := kdI hw hk 8 (by omega)
      have e9 : (nI (pkd p k) = 9) ↔ pkd p k = 9 := kdI hw hk 9 (by omega)
      have p1 : nI (5 * k) + 1 = nI (5 * k + 1) := nI_1 _
      have p2 : nI (5 * k) + 2 = nI (5 * k + 2) := nI_p2 _
      have c51 : (nI (5 * k + 1)).toNatClampNeg = 5 * k + 1 := ix_c (by omega)
      have c52 : (nI (5 * k + 2)).toNatClampNeg = 5 * k + 2 := ix_c (by omega)
      have i51 : ¬ (nI (5 * k + 1) < 0 ∨ 320 ≤ 5 * k + 1) := fun z => z.elim (ix_n (by omega)) (by omega)
      have i52 : ¬ (nI (5 * k + 2) < 0 ∨ 320 ≤ 5 * k + 2) := fun z => z.elim (ix_n (by omega)) (by omega)
      have p0 : nI k + 1 = nI (k + 1) := nI_1 _
      unfold f_M_isKept_B4 kep knm
      rw [m_isLive h hw hk, hlv]
      simp only [p0, n5_I, p1, p2, c0, c5, c51, c52, if_pos i0, if_pos i5, if_pos i51, if_pos i52, r1, r2]
      rw [h.2.1, if_neg (nI_ge hk (by omega))]
      by_cases k3 : pkd p k = 3
      · have hv : pnv p k 2 < 8 := by rw [k3] at h4; exact h4 2 (by decide)
        have a2 : τ 4 (5 * k + 2) = nI (pnv p k 2) := by rw [r4 2 (by rw [k3]; decide), k3, ndI_o (by omega)]
        rw [if_pos (e3.mpr k3), if_pos k3, a2, m_isMarked hm hv, decide_eq_false (by omega)]
        cases b <;> cases bt (liveP p) (pow p k) <;> cases mkb τ (pow p k) (pnv p k 2) <;> rfl
      · rw [if_neg (fun z => k3 (e3.mp z)), if_neg k3]
        by_cases k5 : pkd p k = 5
        · have hv : pnv p k 1 < 8 := by rw [k5] at h4; exact h4 1 (by decide)
          have a1 : τ 4 (5 * k + 1) = nI (pnv p k 1) := by rw [r4 1 (by rw [k5]; decide), k5, ndI_o (by omega)]
          rw [if_pos (e5.mpr k5), if_pos k5, a1, m_isMarked hm hv, decide_eq_false (by omega)]
          cases b <;> cases bt (liveP p) (pow p k) <;> cases mkb τ (pow p k) (pnv p k 1) <;> rfl
        · rw [if_neg (fun z => k5 (e5.mp z)), if_neg k5]
          by_cases k8 : pkd p k = 8
          · obtain ⟨n1, n2⟩ := m_n0 h hw hk (by omega)
            rw [if_pos (e8.mpr k8), if_pos (Or.inl k8), n1, m_isMarked hm n2, decide_eq_false (by omega)]
            cases b <;> cases bt (liveP p) (pow p k) <;> cases mkb τ (pow p k) (pnv p k 0) <;> rfl
          · rw [if_neg (fun z => k8 (e8.mp z))]
            by_cases k9 : pkd p k = 9
            · obtain ⟨n1, n2⟩ := m_n0 h hw hk (by omega)
              rw [if_pos (e9.mpr k9), if_pos (Or.inr k9), n1, m_isMarked hm n2, decide_eq_false (by omega)]
              cases b <;> cases bt (liveP p) (pow p k) <;> cases mkb τ (pow p k) (pnv p k 0) <;> rfl
            · rw [if_neg (fun z => k9 (e9.mp z)), if_neg (show ¬ (pkd p k = 8 ∨ pkd p k = 9) by omega), m_isMarkedN]
              cases b <;> cases bt (liveP p) (pow p k) <;> rfl) (by omega)
  unfold f_M_isKept
  have hl' : f_M_isKept_L4 F τ F 0 0 = some (bI (!nonB (kep p (mkb τ)) (pS p)), nI (pS p)) := hl
  rw [hl']
  exact bIchk _ _
end MR
