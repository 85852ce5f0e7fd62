/-! Marks of the class: a STEP, a sweep, all sweeps. -/
section MS
variable {p : PG} {σ σ' σ'' : St}
theorem e_spread (h : AE σ p) (hw : WF p) {F : Nat} (hF : 64 < F) {s : Nat} (hs : s < pS p) (hl : bt (liveP p) (pow p s) = true) : ∃ b σ', f_K_spread F σ (nI s) = some (bI b, σ') ∧ SP p σ σ' b ∧ (b = false → rulK p (σ 16) (σ 4 2) s) := by
  obtain ⟨h64, hm, hst⟩ := WF_step hw hs
  have e1 : (nI (pkd p s) = 1) ↔ pkd p s = 1 := kdI hw hs 1 (by omega)
  have e6 : (nI (pkd p s) = 6) ↔ pkd p s = 6 := kdI hw hs 6 (by omega)
  have e7 : (nI (pkd p s) = 7) ↔ pkd p s = 7 := kdI hw hs 7 (by omega)
  unfold f_K_spread
  rw [e_owner h hw hs]
  show ∃ b σ', Option.bind (f_P_kind σ (nI s)) _ = _ ∧ _
  rw [e_kind h hw hs]
  show ∃ b σ', (if nI (pkd p s) = 1 then _ else if nI (pkd p s) = 6 then _ else if nI (pkd p s) = 7 then _ else _) = _ ∧ _
  by_cases k1 : pkd p s = 1
  · obtain ⟨n0, n1⟩ := k1_n hw hs k1
    have a0 : f_P_need σ (nI s) (nI 0) = some (nI (pnv p s 0)) := by rw [e_need h hw hs (by omega), k1, if_pos (by decide), ndI_z]
    have a1 : f_P_need σ (nI s) (nI 1) = some (nI (pnv p s 1)) := by rw [e_need h hw hs (by omega), k1, if_pos (by decide), ndI_o (by omega)]
    rw [if_pos (e1.mpr k1)]
    show ∃ b σ', Option.bind (f_P_need σ (nI s) (nI 1)) _ = _ ∧ _
    rw [a1]
    show ∃ b σ', Option.bind (f_K_isMarked σ (nI (pow p s)) (nI (pnv p s 1))) _ = _ ∧ _
    rw [e_isMarked hm n1]
    cases g : bt (σ 16 (pow p s)) (pnv p s 1)
    · refine ⟨false, σ, rfl, SP_r, fun _ => ⟨fun _ hb => ?_, fun z => absurd (k1.symm.trans z) (by omega), fun z => absurd (k1.symm.trans z) (by omega)⟩⟩
      rw [g] at hb; cases hb
    · show ∃ b σ', Option.bind (f_P_need σ (nI s) (nI 0)) _ = _ ∧ _
      rw [a0]
      show ∃ b σ', Option.bind (f_K_mark σ (nI (pow p s)) (nI (pnv p s 0))) _ = _ ∧ _
      rw [e_mark hm]
      refine ⟨jg (σ 16) (pow p s) (sh (pnv p s 0)), sr σ 16 (jn (σ 16) (pow p s) (sh (pnv p s 0))), ?_, SP_mark hm n0 (fun B hB hin => (hB s hs hl).1 k1 (hin.1 _ _ hm n1 g)), fun eb => ⟨fun _ _ => jg_bit (by omega) eb, fun z => absurd (k1.symm.trans z) (by omega), fun z => absurd (k1.symm.trans z) (by omega)⟩⟩
      show (if bI (jg (σ 16) (pow p s) (sh (pnv p s 0))) = 0 then _ else _) = _
      cases jg (σ 16) (pow p s) (sh (pnv p s 0)) <;> rfl
  · rw [if_neg (fun z => k1 (e1.mp z))]
    by_cases k6 : pkd p s = 6
    · have a0 : f_P_need σ (nI s) (nI 0) = some (nI (pnv p s 0)) := by rw [e_need h hw hs (by omega), k6, if_pos (by decide), ndI_z]
      obtain ⟨b, σ', e, hsp, hr⟩ := e_spreadCall h hw hF hs hl k6
      rw [if_pos (e6.mpr k6)]
      show ∃ b σ', Option.bind (f_P_need σ (nI s) (nI 0)) _ = _ ∧ _
      rw [a0]
      show ∃ b σ', Option.bind (f_K_spreadCall F σ (nI s) (nI (pow p s)) (nI (pnv p s 0))) _ = _ ∧ _
      rw [e]
      exact ⟨b, σ', bIchk _ _, hsp, hr⟩
    · rw [if_neg (fun z => k6 (e6.mp z))]
      by_cases k7 : pkd p s = 7
      · obtain ⟨a0, n0⟩ := e_n0 h hw hs (by omega)
        rw [if_pos (e7.mpr k7)]
        show ∃ b σ', Option.bind (f_P_need σ (nI s) (nI 0)) _ = _ ∧ _
        rw [a0]
        show ∃ b σ', Option.bind (f_K_isMarked σ (nI (pow p s)) (nI (pnv p s 0))) _ = _ ∧ _
        rw [e_isMarked hm n0]
        cases g : bt (σ 16 (pow p s)) (pnv p s 0)
        · refine ⟨false, σ, rfl, SP_r, fun _ => ⟨fun z => absurd z k1, fun z => absurd z k6, fun _ hb => ?_⟩⟩
          rw [g] at hb; cases hb
        · show ∃ b σ', Option.bind (f_K_addGiver σ (nI (pow p s))) _ = _ ∧ _
          have eg : f_K_addGiver σ (nI (pow p s)) = some (bI (decide (¬ σ 4 2 ||| sh (pow p s) = σ 4 2)), su σ 4 2 (σ 4 2 ||| sh (pow p s))) := by
            unfold f_K_addGiver
            show (if su σ 4 2 (σ 4 2 ||| sh (pow p s)) 4 2 = σ 4 2 then _ else _) = _
            rw [su_s]
            by_cases c : σ 4 2 ||| sh (pow p s) = σ 4 2
            · rw [if_pos c, decide_eq_false (fun z => z c)]; rfl
            · rw [if_neg c, decide_eq_true c]; rfl
          rw [eg]
          have n16 : su σ 4 2 (σ 4 2 ||| sh (pow p s)) 16 = σ 16 := su_n (by omega)
          refine ⟨decide (¬ σ 4 2 ||| sh (pow p s) = σ 4 2), su σ 4 2 (σ 4 2 ||| sh (pow p s)), ?_, ⟨fun k _ hk => su_n hk, fun j hj => su_j hj, fun l => ⟨⟨by rw [n16]; exact l.1, ?_⟩, ?_⟩, fun B hB hin => ⟨by rw [n16]; exact hin.1, fun k hk hb => ?_⟩, fun k => by rw [n16]; exact subb_r _, fun eb => ⟨n16, ?_⟩⟩, fun eb => ⟨fun z => absurd z k1, fun z => absurd z k6, fun _ _ => ?_⟩⟩
          · show (if bI (decide (¬ σ 4 2 ||| sh (pow p s) = σ 4 2)) = 0 then _ else _) = _
            cases decide (¬ σ 4 2 ||| sh (pow p s) = σ 4 2) <;> rfl
          · rw [su_s]
            intro i hi
            rcases bor_sh (x := 0) (by omega) hi with q | q
            · exact l.2 i q
            · omega
          · unfold msr
            rw [n16, su_s]
            have hlow : lowb 16 (σ 4 2 ||| sh (pow p s)) := fun i hi => by
              rcases bor_sh (x := 0) (by omega) hi with q | q
              · have := l.2 i q; omega
              · omega
            by_cases c : σ 4 2 ||| sh (pow p s) = σ 4 2
            · rw [decide_eq_false (fun z => z c), c]; exact Nat.le_refl _
            · rw [decide_eq_true c]
              have := pcn_grow (subb_l (σ 4 2) (sh (pow p s))) hlow c
              show smN (σ 16) 8 + pcn (σ 4 2) 16 + 1 ≤ _
              omega
          · rw [su_s] at hb
            rcases bor_sh (x := 0) (by omega) hb with q | q
            · exact hin.2 k hk q
            · subst q
              exact ⟨s, hs, hl, k7, rfl, hin.1 _ _ hm n0 g⟩
          · have := of_decide_eq_false eb
            rw [su_s]
            exact Classical.byContradiction (fun z => this z)
          · have e' : σ 4 2 ||| sh (pow p s) = σ 4 2 := Classical.byContradiction (fun z => (of_decide_eq_false eb) z)
            rw [← e', b_or, b_sh (by omega) (by omega), decide_eq_true rfl, Bool.or_true]
      · rw [if_neg (fun z => k7 (e7.mp z))]
        exact ⟨false, σ, rfl, SP_r, fun _ => ⟨fun z => absurd z k1, fun z => absurd z k6, fun z => absurd z k7⟩⟩
theorem e_sweepMarks (h : AE σ p) (hw : WF p) (h43 : σ 4 3 = liveP p) {F : Nat} (hF : 64 < F) : ∃ b σ', f_K_sweepMarks F σ = some (bI b, σ') ∧ SP p σ σ' b ∧ (b = false → ∀ s, s < pS p → bt (liveP p) (pow p s) = true → rulK p (σ 16) (σ 4 2) s) := by
  have hSt := hw.2.2.1
  have key : ∀ d k fu b σk, k + d = pS p → d < fu → SP p σ σk b → (b = false → ∀ s, s < k → bt (liveP p) (pow p s) = true → rulK p (σ 16) (σ 4 2) s) → ∃ b' σ', f_K_sweepMarks_L4 F fu (bI b) (nI k) σk = some (bI b', nI (pS p), σ') ∧ SP p σ σ' b' ∧ (b' = false → ∀ s, s < pS p → bt (liveP p) (pow p s) = true → rulK p (σ 16) (σ 4 2) s) := by
    intro d
    induction d with
    | zero =>
      intro k fu b σk e hfu hsp hr
      obtain ⟨fu, rfl⟩ : ∃ z, fu = z + 1 := ⟨fu - 1, by omega⟩
      have hk : k = pS p := by omega
      subst hk
      refine ⟨b, σk, ?_, hsp, hr⟩
      show f_K_sweepMarks_B4 F _ (bI b) (nI (pS p)) σk = _
      unfold f_K_sweepMarks_B4
      rw [(SP_ae hsp h).2.1, if_pos (nI_le (Nat.le_refl _) (by omega))]
    | succ d ih =>
      intro k fu b σk e hfu hsp hr
      obtain ⟨fu, rfl⟩ : ∃ z, fu = z + 1 := ⟨fu - 1, by omega⟩
      have ha := SP_ae hsp h
      have hk : k < pS p := by omega
      show ∃ b' σ', f_K_sweepMarks_B4 F (f_K_sweepMarks_L4 F fu) (bI b) (nI k) σk = _ ∧ _
      unfold f_K_sweepMarks_B4
      rw [ha.2.1, if_neg (nI_ge hk (by omega)), e_isIn ha hw hk, hsp.2.1 3 (by omega), h43, nI_1]
      cases l : bt (liveP p) (pow p k)
      · show ∃ b' σ', f_K_sweepMarks_L4 F fu (bI b) (nI (k + 1)) σk = _ ∧ _
        refine ih (k + 1) fu b σk (by omega) (by omega) hsp (fun eb s hs2 hl => ?_)
        by_cases q : s = k
        · subst q; rw [l] at hl; cases hl
        · exact hr eb s (by omega) hl
      · obtain ⟨c, σ', e', hsp', hr'⟩ := e_spread ha hw hF hk l
        show ∃ b' σ', Option.bind (f_K_spread F σk (nI k)) _ = _ ∧ _
        rw [e']
        have e2 : (if bI c = 0 then f_K_sweepMarks_L4 F fu (bI b) (nI (k + 1)) σ' else f_K_sweepMarks_L4 F fu 1 (nI (k + 1)) σ') = f_K_sweepMarks_L4 F fu (bI (b || c)) (nI (k + 1)) σ' := by
          cases b <;> cases c <;> rfl
        show ∃ b' σ'', (if bI c = 0 then f_K_sweepMarks_L4 F fu (bI b) (nI (k + 1)) σ' else f_K_sweepMarks_L4 F fu 1 (nI (k + 1)) σ') = _ ∧ _
        rw [e2]
        refine ih (k + 1) fu (b || c) σ' (by omega) (by omega) (SP_t hsp hsp') (fun eb s hs2 hl => ?_)
        rw [Bool.or_eq_false_iff] at eb
        by_cases q : s = k
        · subst q
          have := hr' eb.2
          rw [(hsp.2.2.2.2.2 eb.1).1, (hsp.2.2.2.2.2 eb.1).2] at this
          exact this
        · exact hr eb.1 s (by omega) hl
  obtain ⟨b, σ', e, hsp, hr⟩ := key (pS p) 0 F false σ (by omega) (by omega) SP_r (fun _ s hs => absurd hs (Nat.not_lt_zero s))
  refine ⟨b, σ', ?_, hsp, hr⟩
  unfold f_K_sweepMarks
  have e' : f_K_sweepMarks_L4 F F 0 0 σ = some (bI b, nI (pS p), σ') := e
  rw [e']
  exact bIchk _ _
theorem pcn_8 {x : Int32} (h : lowb 8 x) : ∀ n, pcn x n ≤ 8 := by
  intro n
  rcases Nat.le_total n 8 with c | c
  · exact Nat.le_trans (pcn_le x n) c
  · obtain ⟨d, rfl⟩ : ∃ d, n = 8 + d := ⟨n - 8, by omega⟩
    clear c
    induction d with
    | zero => exact pcn_le x 8
    | succ d ih =>
      have : bt x (8 + d) = false := by
        cases g : bt x (8 + d)
        · rfl
        · have := h _ g; omega
      show pcn x (8 + d) + (bt x (8 + d)).toNat ≤ 8
      rw [this]
      exact ih
theorem msr_le (l : lowK σ) : msr σ ≤ 72 := by
  have a : ∀ n, n ≤ 8 → smN (σ 16) n ≤ 8 * n := by
    intro n
    induction n with
    | zero => intro _; exact Nat.le_refl _
    | succ n ih =>
      intro hn
      have := ih (by omega)
      have := pcn_8 (l.1 n (by omega)) 16
      rw [smN_s]
      omega
  have := a 8 (Nat.le_refl _)
  have := pcn_8 l.2 16
  unfold msr
  omega
theorem lt_73 {k : Nat} (h : k ≤ 72) : ¬ (72 : Int32) < nI k := nI_nlt (a := 72) (b := k) h (by omega)
/-- all sweeps -/
theorem e_sweeps (h : AE σ p) (hw : WF p) (h43 : σ 4 3 = liveP p) (hl : lowK σ) {F : Nat} (hF : 100 < F) : ∃ σ' b, (∃ a c, f_K_spreadFrom_L31 F F 1 0 σ = some (a, c, σ')) ∧ SP p σ σ' b ∧ ∀ s, s < pS p → bt (liveP p) (pow p s) = true → rulK p (σ' 16) (σ' 4 2) s := by
  have key : ∀ d k fu σk b, k + d = 73 → d + 1 < fu → SP p σ σk b → lowK σk → k ≤ msr σk → ∃ σ' b', (∃ a c, f_K_spreadFrom_L31 F fu 1 (nI k) σk = some (a, c, σ')) ∧ SP p σ σ' b' ∧ ∀ s, s < pS p → bt (liveP p) (pow p s) = true → rulK p (σ' 16) (σ' 4 2) s := by
    intro d
    induction d with
    | zero =>
      intro k fu σk b e hfu hsp hlk hms
      have := msr_le hlk
      omega
    | succ d ih =>
      intro k fu σk b e hfu hsp hlk hms
      obtain ⟨fu, rfl⟩ : ∃ z, fu = z + 2 := ⟨fu - 2, by omega⟩
      obtain ⟨c, σ', e', hsp', hr'⟩ := e_sweepMarks (SP_ae hsp h) hw (by rw [hsp.2.1 3 (by omega), h43]) (F := F) (by omega)
      have eL : f_K_spreadFrom_L31 F (fu + 2) 1 (nI k) σk = f_K_spreadFrom_L31 F (fu + 1) (bI c) (nI (k + 1)) σ' := by
        show f_K_spreadFrom_B31 F (f_K_spreadFrom_L31 F (fu + 1)) 1 (nI k) σk = _
        unfold f_K_spreadFrom_B31
        rw [if_neg h10, if_neg (lt_73 (by omega)), e', nI_1]
        rfl
      rw [eL]
      obtain ⟨l', m'⟩ := hsp'.2.2.1 hlk
      cases hc : c
      · subst hc
        refine ⟨σ', b || false, ⟨0, nI (k + 1), ?_⟩, SP_t hsp hsp', fun s hs hls => ?_⟩
        · show f_K_spreadFrom_B31 F (f_K_spreadFrom_L31 F fu) 0 (nI (k + 1)) σ' = _
          unfold f_K_spreadFrom_B31
          rw [if_pos rfl]
        · rw [(hsp'.2.2.2.2.2 rfl).1, (hsp'.2.2.2.2.2 rfl).2]
          exact hr' rfl s hs hls
      · subst hc
        have m2 : msr σk + 1 ≤ msr σ' := m'
        exact ih (k + 1) (fu + 1) σ' (b || true) (by omega) (by omega) (SP_t hsp hsp') l' (by omega)
  exact key 73 0 F σ false (by omega) (by omega) SP_r hl (Nat.zero_le _)
def mkE (σ : St) (m x : Nat) : Prop := bt (σ 16 m) x = true
theorem e_spreadFrom (h : AE σ p) (hw : WF p) {F : Nat} (hF : 100 < F) {m x : Nat} (hm : m < 8) (hx : x < 8) : ∃ σ', f_K_spreadFrom F σ (nI m) (nI x) (liveP p) = some σ' ∧ (∀ k, k ≠ 16 → k ≠ 4 → σ' k = σ k) ∧ σ' 4 3 = liveP p ∧ lowK σ' ∧ LM p m x (mkE σ') ∧ ∀ k, k < 8 → (bt (σ' 4 2) k = true ↔ gvB p (mkE σ') k) := by
  generalize hs1 : su (su σ 4 3 (liveP p)) 4 2 0 = s1
  have n1 : ∀ k, k ≠ 4 → s1 k = σ k := fun k hk => by rw [← hs1, su_n hk, su_n hk]
  have j42 : s1 4 2 = 0 := by rw [← hs1, su_s]
  have j43 : s1 4 3 = liveP p := by rw [← hs1, su_j (by omega), su_s]
  generalize hs2 : sr s1 16 (fun i => if i < 8 then 0 else s1 16 i) = s2
  have n2 : ∀ k, k ≠ 16 → s2 k = s1 k := fun k hk => by rw [← hs2, sr_n hk]
  have r2 : ∀ i, i < 8 → s2 16 i = 0 := fun i hi => by rw [← hs2, sr_s]; exact if_pos hi
  generalize hs3 : sr s2 16 (jn (s2 16) m (sh x)) = s3
  have n3 : ∀ k, k ≠ 16 → s3 k = s2 k := fun k hk => by rw [← hs3, sr_n hk]
  have n4 : s3 4 = s1 4 := by rw [n3 4 (by omega), n2 4 (by omega)]
  have r3 : ∀ k y, k < 8 → bt (s3 16 k) y = true → k = m ∧ y = x := by
    intro k y hk hb
    rw [← hs3, sr_s] at hb
    by_cases e : k = m
    · subst e
      rw [jn_s] at hb
      rcases bor_sh (x := 0) (by omega) hb with g | g
      · rw [r2 k hk, b_0] at g; cases g
      · exact ⟨rfl, g⟩
    · rw [jn_o e, r2 k hk, b_0] at hb; cases hb
  have a3 : bt (s3 16 m) x = true := by rw [← hs3, sr_s, jn_s, b_or, b_sh (by omega) (by omega), decide_eq_true rfl, Bool.or_true]
  have hA3 : AE s3 p := h.same (by rw [n3 1 (by omega), n2 1 (by omega), n1 1 (by omega)]) (by rw [n3 5 (by omega), n2 5 (by omega), n1 5 (by omega)]) (by rw [n3 6 (by omega), n2 6 (by omega), n1 6 (by omega)]) (by rw [n3 7 (by omega), n2 7 (by omega), n1 7 (by omega)]) (by rw [n3 8 (by omega), n2 8 (by omega), n1 8 (by omega)]) (by rw [n3 9 (by omega), n2 9 (by omega), n1 9 (by omega)])
  have l3 : lowK s3 := ⟨fun k hk i hi => by have := (r3 k i hk hi).2; omega, fun i hi => by rw [n4, j42, b_0] at hi; cases hi⟩
  obtain ⟨σ', b, ⟨a, c, e⟩, hsp, hr⟩ := e_sweeps hA3 hw (by rw [n4, j43]) l3 hF
  have hin : ∀ B : Nat → Nat → Prop, clM p B → B m x → inB p σ' B := fun B hB hb => hsp.2.2.2.1 B hB ⟨fun k y hk _ hbt => by obtain ⟨q1, q2⟩ := r3 k y hk hbt; rw [q1, q2]; exact hb, fun k _ hbt => by rw [n4, j42, b_0] at hbt; cases hbt⟩
  have hg : ∀ k, gvB p (mkE σ') k → bt (σ' 4 2) k = true := by
    intro k ⟨s, q1, q2, q3, q4, q5⟩
    subst q4
    exact (hr s q1 q2).2.2 q3 q5
  have hcl : clM p (mkE σ') := by
    intro s hs hls
    refine ⟨fun hk hb => (hr s hs hls).1 hk hb, fun hk => ⟨fun i hi hne hb => ((hr s hs hls).2.1 hk).1 i hi hne hb, fun hne hgv => ((hr s hs hls).2.1 hk).2 hne (hg _ hgv)⟩⟩
  have hmx : mkE σ' m x := hsp.2.2.2.2.1 m x a3
  refine ⟨σ', ?_, fun k k1 k2 => ?_, ?_, (hsp.2.2.1 l3).1, ⟨hmx, hcl, fun B hb hB k y hk hy hA => (hin B hB hb).1 k y hk hy hA⟩, fun k hk => ⟨fun hb => (hin _ hcl hmx).2 k hk hb, hg k⟩⟩
  · unfold f_K_spreadFrom
    show Option.bind (f_E_fill F 8 (su (su σ 4 3 (liveP p)) 4 2 0 16) 0) _ = _
    rw [hs1, v_fill (by omega) (by omega)]
    show Option.bind (f_K_mark (sr s1 16 (fun i => if i < 8 then 0 else s1 16 i)) (nI m) (nI x)) _ = _
    rw [hs2, e_mark hm, hs3]
    show Option.bind (f_K_spreadFrom_L31 F F 1 0 s3) _ = _
    rw [e]
    rfl
  · rw [hsp.1 k k1 k2, n3 k k1, n2 k k1, n1 k k2]
  · rw [hsp.2.1 3 (by omega), n4, j43]
end MS
