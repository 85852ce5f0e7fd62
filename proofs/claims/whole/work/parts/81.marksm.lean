/-! Marks of the reference. -/
section MM
variable {p : PG} {τ τ' τ'' : St}
def mkM (τ : St) (m x : Nat) : Prop := ¬ τ 10 (8 * m + x) = 0
def mkb (τ : St) (m x : Nat) : Bool := decide (¬ τ 10 (8 * m + x) = 0)
theorem mkb_iff {m x : Nat} : mkb τ m x = true ↔ mkM τ m x := decide_eq_true_iff
def msM (τ : St) : Nat := cnt (fun k => decide (¬ τ 10 k = 0)) 64
def inM (τ : St) (B : Nat → Nat → Prop) : Prop := ∀ m x, m < 8 → x < 8 → mkM τ m x → B m x
def SQ (p : PG) (τ τ' : St) (b : Bool) : Prop := (∀ k, k ≠ 10 → k ≠ 0 → τ' k = τ k) ∧ (∀ j, j ≠ 16 → τ' 0 j = τ 0 j) ∧ (∀ g, τ 0 16 = bI g → τ' 0 16 = bI (g || b)) ∧ msM τ + b.toNat ≤ msM τ' ∧ (∀ B, clM p B → inM τ B → inM τ' B) ∧ (∀ k, ¬ τ 10 k = 0 → ¬ τ' 10 k = 0) ∧ (b = false → ∀ k, k < 64 → ¬ τ' 10 k = 0 → ¬ τ 10 k = 0)
theorem SQ_r : SQ p τ τ false := ⟨fun _ _ _ => rfl, fun _ _ => rfl, fun g h => by rw [Bool.or_false]; exact h, Nat.le_refl _, fun _ _ h => h, fun _ h => h, fun _ _ _ h => h⟩
theorem SQ_t {b b' : Bool} (h : SQ p τ τ' b) (h' : SQ p τ' τ'' b') : SQ p τ τ'' (b || b') := by
  obtain ⟨h1, h2, h3, h4, h5, h6, h7⟩ := h
  obtain ⟨g1, g2, g3, g4, g5, g6, g7⟩ := h'
  refine ⟨fun k a c => by rw [g1 k a c, h1 k a c], fun j a => by rw [g2 j a, h2 j a], fun g e => by rw [← Bool.or_assoc]; exact g3 _ (h3 g e), ?_, fun B c i => g5 B c (h5 B c i), fun k z => g6 k (h6 k z), fun e k hk z => ?_⟩
  · cases b <;> cases b' <;> simp at h4 g4 ⊢ <;> omega
  · rw [Bool.or_eq_false_iff] at e
    exact h7 e.1 k hk (g7 e.2 k hk z)
theorem SQ_am {b : Bool} (h : SQ p τ τ' b) (ha : AM τ p) : AM τ' p := ha.same ⟨h.2.1 0 (by omega), h.2.1 1 (by omega), h.2.1 2 (by omega)⟩ (h.1 1 (by omega) (by omega)) (h.1 2 (by omega) (by omega)) (h.1 3 (by omega) (by omega)) (h.1 4 (by omega) (by omega)) (h.1 5 (by omega) (by omega))
theorem cnt_up {f : Nat → Int32} {k : Nat} : ∀ n, (k < n → cnt (fun i => decide (¬ f i = 0)) n + (decide (f k = 0)).toNat = cnt (fun i => decide (¬ upd f k 1 i = 0)) n) ∧ (n ≤ k → cnt (fun i => decide (¬ upd f k 1 i = 0)) n = cnt (fun i => decide (¬ f i = 0)) n) := by
  intro n
  induction n with
  | zero => exact ⟨fun h => absurd h (Nat.not_lt_zero k), fun _ => rfl⟩
  | succ n ih =>
    rw [cnt_s, cnt_s]
    refine ⟨fun hk => ?_, fun hk => ?_⟩
    · by_cases e : k = n
      · subst e
        rw [ih.2 (Nat.le_refl _), pk_us]
        by_cases c : f k = 0
        · rw [decide_eq_true c, decide_eq_false (fun z => z c), decide_eq_true h10]; rfl
        · rw [decide_eq_false c, decide_eq_true c, decide_eq_true h10]; rfl
      · rw [pk_un (Ne.symm e)]
        have := ih.1 (by omega)
        omega
    · rw [ih.2 (by omega), pk_un (by omega)]
theorem m_mark {m x : Nat} (hm : m < 8) (hx : x < 8) : ∃ w, f_M_mark τ (nI m) (nI x) = some (sr (su τ 0 16 (bI w)) 10 (upd (τ 10) (8 * m + x) 1)) ∧ ∀ g, τ 0 16 = bI g → w = (g || decide (τ 10 (8 * m + x) = 0)) := by
  have c0 : (nI (8 * m + x)).toNatClampNeg = 8 * m + x := ix_c (by omega)
  have i0 : ¬ (nI (8 * m + x) < 0 ∨ 64 ≤ 8 * m + x) := fun z => z.elim (ix_n (by omega)) (by omega)
  unfold f_M_mark
  simp only [lett, n8_I, nI_add, c0, if_pos i0]
  have hu : ∀ v, su τ 0 16 v 10 = τ 10 := fun v => su_n (by omega)
  rw [hu, hu]
  by_cases c : τ 0 16 = 0
  · rw [if_pos c]
    by_cases d : τ 10 (8 * m + x) = 0
    · rw [if_pos d]
      refine ⟨true, rfl, fun g e => ?_⟩
      rw [decide_eq_true d, Bool.or_true]
    · rw [if_neg d]
      refine ⟨false, rfl, fun g e => ?_⟩
      rw [decide_eq_false d, Bool.or_false]
      rw [e] at c
      exact ((bI_0 g).mp c).symm
  · rw [if_neg c]
    refine ⟨true, rfl, fun g e => ?_⟩
    cases g
    · exact absurd e c
    · rfl
theorem SQ_mark {m x : Nat} (hm : m < 8) (hx : x < 8) {w : Bool} (hw : ∀ g, τ 0 16 = bI g → w = (g || decide (τ 10 (8 * m + x) = 0))) (hj : ∀ B, clM p B → inM τ B → B m x) : SQ p τ (sr (su τ 0 16 (bI w)) 10 (upd (τ 10) (8 * m + x) 1)) (decide (τ 10 (8 * m + x) = 0)) := by
  refine ⟨fun k h1 h2 => by rw [sr_n h1, su_n h2], fun j hj => by rw [sr_n (by omega), su_j hj], fun g e => by rw [sr_n (by omega), su_s, hw g e], ?_, fun B hB hin k y hk hy hb => ?_, fun k hk => ?_, fun e k hk => ?_⟩
  · unfold msM
    rw [sr_s]
    exact Nat.le_of_eq ((cnt_up 64).1 (by omega))
  · unfold mkM at hb
    rw [sr_s] at hb
    by_cases e : 8 * k + y = 8 * m + x
    · have e1 : k = m := by omega
      have e2 : y = x := by omega
      rw [e1, e2]
      exact hj B hB hin
    · rw [pk_un e] at hb
      exact hin k y hk hy hb
  · rw [sr_s]
    by_cases e : k = 8 * m + x
    · subst e; rw [pk_us]; exact h10
    · rw [pk_un e]; exact hk
  · rw [sr_s]
    by_cases q : k = 8 * m + x
    · subst q; intro _; exact of_decide_eq_false e
    · rw [pk_un q]; exact id
theorem m_isMarked {m x : Nat} (hm : m < 8) (hx : x < 8) : f_M_isMarked τ (nI m) (nI x) = some (bI (mkb τ m x)) := by
  unfold f_M_isMarked mkb
  rw [if_neg (nI_nm (by omega)), n8_I, nI_add, if_pos (ix_in (by omega) (by omega)), ix_c (by omega)]
  by_cases c : τ 10 (8 * m + x) = 0
  · rw [if_pos c, decide_eq_false (fun z => z c)]; rfl
  · rw [if_neg c, decide_eq_true c]; rfl
theorem m_isMarkedN {x : Int32} : f_M_isMarked τ x (-1) = some 0 := by
  unfold f_M_isMarked
  rw [if_pos rfl]
def gvF (p : PG) (τ : St) (m s : Nat) : Bool := bt (liveP p) (pow p s) && (decide (pkd p s = 7 ∧ pow p s = m) && mkb τ m (pnv p s 0))
theorem m_givesMarked (h : AM τ p) (hw : WF p) (hlv : τ 0 12 = liveP p) {F : Nat} (hF : 64 < F) {m : Nat} (hm : m < 8) : f_M_givesMarked F τ (nI m) = some (bI (!nonB (gvF p τ m) (pS p))) := by
  have hSt := hw.2.2.1
  have hl := lpR (N := pS p) (F := F) (gvF p τ m) (f_M_givesMarked_L4 F τ (nI m)) (fun fu y => by
      show f_M_givesMarked_B4 F τ _ _ y (nI (pS p)) = _
      unfold f_M_givesMarked_B4
      rw [h.2.1, if_pos (nI_le (Nat.le_refl _) (by omega))]) (fun k fu b hk => by
      show f_M_givesMarked_B4 F τ _ _ (bI b) (nI k) = _
      obtain ⟨h64, hm', hst⟩ := WF_step hw hk
      obtain ⟨i0, i5, c0, c5⟩ := m_ix hw hk
      obtain ⟨r1, r2, r3, r4⟩ := h.2.2.2.1 k hk
      have e7 : (nI (pkd p k) = 7) ↔ pkd p k = 7 := kdI hw hk 7 (by omega)
      have em : (nI (pow p k) = nI m) ↔ pow p k = m := nI_eq (by omega) (by omega)
      unfold f_M_givesMarked_B4 gvF
      rw [m_isLive h hw hk, hlv]
      simp only [n5_I, c0, c5, if_pos i0, if_pos i5, r1, r2, nI_1]
      rw [h.2.1, if_neg (nI_ge hk (by omega))]
      cases b
      · show (if bI (bt (liveP p) (pow p k)) = 0 then _ else _) = _
        by_cases c7 : pkd p k = 7
        · obtain ⟨n1, n2⟩ := m_n0 h hw hk (by omega)
          rw [if_pos (e7.mpr c7), n1]
          by_cases cm : pow p k = m
          · rw [if_pos (em.mpr cm), m_isMarked hm n2, decide_eq_true ⟨c7, cm⟩]
            cases bt (liveP p) (pow p k) <;> cases mkb τ m (pnv p k 0) <;> rfl
          · rw [if_neg (fun z => cm (em.mp z)), decide_eq_false (fun z => cm z.2)]
            cases bt (liveP p) (pow p k) <;> rfl
        · rw [if_neg (fun z => c7 (e7.mp z)), decide_eq_false (fun z => c7 z.1)]
          cases bt (liveP p) (pow p k) <;> rfl
      · rfl) (by omega)
  unfold f_M_givesMarked
  have hl' : f_M_givesMarked_L4 F τ (nI m) F 0 0 = some (bI (!nonB (gvF p τ m) (pS p)), nI (pS p)) := hl
  rw [hl']
  exact bIchk _ _
theorem gvF_iff {m : Nat} : (!nonB (gvF p τ m) (pS p)) = true ↔ gvB p (mkM τ) m := by
  rw [Bool.not_eq_true', ← Bool.not_eq_true, nonB_iff]
  refine ⟨fun h => ?_, fun ⟨s, h1, h2, h3, h4, h5⟩ z => ?_⟩
  · apply Classical.byContradiction
    intro hn
    apply h
    intro s hs
    cases g : gvF p τ m s
    · rfl
    · exfalso
      unfold gvF at g
      rw [Bool.and_eq_true, Bool.and_eq_true, decide_eq_true_eq] at g
      exact hn ⟨s, hs, g.1, g.2.1.1, g.2.1.2, mkb_iff.mp g.2.2⟩
  · have := z s h1
    unfold gvF at this
    rw [h2, decide_eq_true ⟨h3, h4⟩, mkb_iff.mpr h5] at this
    cases this
/-- a STEP's rule -/
def rulM (p : PG) (τ : St) (s : Nat) : Prop := (pkd p s = 1 → mkM τ (pow p s) (pnv p s 1) → mkM τ (pow p s) (pnv p s 0)) ∧ (pkd p s = 6 → (∀ i, i < 3 → pnv p s (1 + i) ≠ 8 → mkM τ (pow p s) (pnv p s (1 + i)) → mkM τ (pnv p s 0) i) ∧ (pnv p s 4 ≠ 8 → gvB p (mkM τ) (pnv p s 0) → mkM τ (pow p s) (pnv p s 4)))
theorem m_need6 (h : AM τ p) {s i : Nat} (hs : s < pS p) (hk : pkd p s = 6) (hi : i < 5) (h0 : 0 < i) : τ 4 (5 * s + i) = if pnv p s i = 8 then -1 else nI (pnv p s i) := by
  have := (h.2.2.2.1 s hs).2.2.2 i (by rw [hk]; exact hi)
  rw [this, hk, ndI_6 h0]
theorem m_markCall (h : AM τ p) (hw : WF p) {F : Nat} (hF : 64 < F) {s : Nat} (hs : s < pS p) (hl : bt (liveP p) (pow p s) = true) (hk : pkd p s = 6) : ∃ b τ', f_M_markBy_L72 F (nI s) (nI (pow p s)) (nI (pnv p s 0)) F (nI 0) τ = some (nI 3, τ') ∧ SQ p τ τ' b ∧ (b = false → ∀ j, j < 3 → pnv p s (1 + j) ≠ 8 → mkM τ (pow p s) (pnv p s (1 + j)) → mkM τ (pnv p s 0) j) := by
  obtain ⟨h64, hm, hst⟩ := WF_step hw hs
  obtain ⟨hto, hnv⟩ := k6_n hw hs hk
  have key : ∀ d i fu b τi, i + d = 3 → d < fu → SQ p τ τi b → (b = false → ∀ j, j < i → pnv p s (1 + j) ≠ 8 → mkM τ (pow p s) (pnv p s (1 + j)) → mkM τ (pnv p s 0) j) → ∃ b' τ', f_M_markBy_L72 F (nI s) (nI (pow p s)) (nI (pnv p s 0)) fu (nI i) τi = some (nI 3, τ') ∧ SQ p τ τ' b' ∧ (b' = false → ∀ j, j < 3 → pnv p s (1 + j) ≠ 8 → mkM τ (pow p s) (pnv p s (1 + j)) → mkM τ (pnv p s 0) j) := by
    intro d
    induction d with
    | zero =>
      intro i fu b τi e hfu hsp hr
      obtain ⟨fu, rfl⟩ : ∃ z, fu = z + 1 := ⟨fu - 1, by omega⟩
      have hi : i = 3 := by omega
      subst hi
      refine ⟨b, τi, ?_, hsp, hr⟩
      show f_M_markBy_B72 F _ _ _ _ (nI 3) τi = _
      unfold f_M_markBy_B72
      rw [if_pos le_3]
    | succ d ih =>
      intro i fu b τi e hfu hsp hr
      obtain ⟨fu, rfl⟩ : ∃ z, fu = z + 1 := ⟨fu - 1, by omega⟩
      have ha := SQ_am hsp h
      have c1 : (nI (5 * s + (1 + i))).toNatClampNeg = 5 * s + (1 + i) := ix_c (by omega)
      have i1 : ¬ (nI (5 * s + (1 + i)) < 0 ∨ 320 ≤ 5 * s + (1 + i)) := fun z => z.elim (ix_n (by omega)) (by omega)
      have en : (5 : Int32) * nI s + 1 + nI i = nI (5 * s + (1 + i)) := by rw [n5_I, nI_1, nI_add]; congr 1; omega
      show ∃ b' τ', f_M_markBy_B72 F _ _ _ (f_M_markBy_L72 F (nI s) (nI (pow p s)) (nI (pnv p s 0)) fu) (nI i) τi = _ ∧ _
      unfold f_M_markBy_B72
      rw [if_neg (lt_3 (by omega)), en, c1, if_pos i1, m_need6 ha hs hk (by omega) (by omega), nI_1]
      by_cases c : pnv p s (1 + i) = 8
      · rw [if_pos c, m_isMarkedN]
        show ∃ b' τ', f_M_markBy_L72 F (nI s) (nI (pow p s)) (nI (pnv p s 0)) fu (nI (i + 1)) τi = _ ∧ _
        refine ih (i + 1) fu b τi (by omega) (by omega) hsp (fun eb j hj hne => ?_)
        by_cases q : j = i
        · subst q; exact absurd c hne
        · exact hr eb j (by omega) hne
      · rw [if_neg c]
        have hv : pnv p s (1 + i) < 8 := by have := hnv i (by omega); omega
        rw [m_isMarked hm hv]
        cases g : mkb τi (pow p s) (pnv p s (1 + i))
        · show ∃ b' τ', f_M_markBy_L72 F (nI s) (nI (pow p s)) (nI (pnv p s 0)) fu (nI (i + 1)) τi = _ ∧ _
          refine ih (i + 1) fu b τi (by omega) (by omega) hsp (fun eb j hj hne hb => ?_)
          by_cases q : j = i
          · subst q
            have := hsp.2.2.2.2.2.1 _ hb
            rw [mkb_iff.mpr this] at g; cases g
          · exact hr eb j (by omega) hne hb
        · show ∃ b' τ', Option.bind (f_M_mark τi (nI (pnv p s 0)) (nI i)) _ = _ ∧ _
          obtain ⟨w, ew, hww⟩ := m_mark (τ := τi) hto (show i < 8 by omega)
          rw [ew]
          have hsp' := SQ_t hsp (SQ_mark (p := p) hto (show i < 8 by omega) hww (fun B hB hin => ((hB s hs hl).2 hk).1 i (by omega) c (hin _ _ hm hv (mkb_iff.mp g))))
          refine ih (i + 1) fu _ _ (by omega) (by omega) hsp' (fun eb j hj hne hb => ?_)
          rw [Bool.or_eq_false_iff] at eb
          by_cases q : j = i
          · subst q
            exact hsp.2.2.2.2.2.2 eb.1 _ (by omega) (of_decide_eq_false eb.2)
          · exact hr eb.1 j (by omega) hne hb
  exact key 3 0 F false τ (by omega) (by omega) SQ_r (fun _ j hj => absurd hj (Nat.not_lt_zero j))
theorem m_markBy (h : AM τ p) (hw : WF p) (hlv : τ 0 12 = liveP p) {F : Nat} (hF : 64 < F) {s : Nat} (hs : s < pS p) (hl : bt (liveP p) (pow p s) = true) : ∃ b τ', f_M_markBy F τ (nI s) = some τ' ∧ SQ p τ τ' b ∧ (b = false → rulM p τ s) := by
  obtain ⟨h64, hm, hst⟩ := WF_step hw hs
  obtain ⟨i0, i5, c0, c5⟩ := m_ix hw hs
  obtain ⟨r1, r2, r3, r4⟩ := h.2.2.2.1 s hs
  have e1 : (nI (pkd p s) = 1) ↔ pkd p s = 1 := kdI hw hs 1 (by omega)
  have e6 : (nI (pkd p s) = 6) ↔ pkd p s = 6 := kdI hw hs 6 (by omega)
  have p1 : nI (5 * s) + 1 = nI (5 * s + 1) := nI_1 _
  have p4 : nI (5 * s) + 4 = nI (5 * s + 4) := nI_p4 _
  have c51 : (nI (5 * s + 1)).toNatClampNeg = 5 * s + 1 := ix_c (by omega)
  have c54 : (nI (5 * s + 4)).toNatClampNeg = 5 * s + 4 := ix_c (by omega)
  have i51 : ¬ (nI (5 * s + 1) < 0 ∨ 320 ≤ 5 * s + 1) := fun z => z.elim (ix_n (by omega)) (by omega)
  have i54 : ¬ (nI (5 * s + 4) < 0 ∨ 320 ≤ 5 * s + 4) := fun z => z.elim (ix_n (by omega)) (by omega)
  unfold f_M_markBy
  simp only [p1, p4, n5_I, c0, c5, c51, c54, if_pos i0, if_pos i5, if_pos i51, if_pos i54, r1, r2]
  by_cases k1 : pkd p s = 1
  · obtain ⟨n0, n1⟩ := k1_n hw hs k1
    have k6 : ¬ pkd p s = 6 := by omega
    have a0 : τ 4 (5 * s) = nI (pnv p s 0) := by
      have := r4 0 (by rw [k1]; decide)
      rw [Nat.add_zero, ndI_z] at this
      exact this
    have a1 : τ 4 (5 * s + 1) = nI (pnv p s 1) := by
      have := r4 1 (by rw [k1]; decide)
      rw [k1, ndI_o (by omega)] at this
      exact this
    rw [if_pos (e1.mpr k1), a1, m_isMarked hm n1]
    cases g : mkb τ (pow p s) (pnv p s 1)
    · refine ⟨false, τ, ?_, SQ_r, fun _ => ⟨fun _ hb => ?_, fun z => absurd z k6⟩⟩
      · show (if nI (pkd p s) = 6 then _ else some τ) = _
        rw [if_neg (fun z => k6 (e6.mp z))]
      · rw [mkb_iff.mpr hb] at g; cases g
    · obtain ⟨w, ew, hww⟩ := m_mark (τ := τ) hm n0
      rw [a0, ew]
      have hsq := SQ_mark (p := p) hm n0 hww (fun B hB hin => (hB s hs hl).1 k1 (hin _ _ hm n1 (mkb_iff.mp g)))
      generalize sr (su τ 0 16 (bI w)) 10 (upd (τ 10) (8 * pow p s + pnv p s 0) 1) = τ1 at hsq
      refine ⟨_, τ1, ?_, hsq, fun eb => ⟨fun _ _ => of_decide_eq_false eb, fun z => absurd z k6⟩⟩
      show (if τ1 2 s = 6 then _ else some τ1) = _
      rw [hsq.1 2 (by omega) (by omega), r2, if_neg (fun z => k6 (e6.mp z))]
  · rw [if_neg (fun z => k1 (e1.mp z))]
    by_cases k6 : pkd p s = 6
    · obtain ⟨hto, hnv⟩ := k6_n hw hs k6
      have a0 : τ 4 (5 * s) = nI (pnv p s 0) := by
        have := r4 0 (by rw [k6]; decide)
        rw [Nat.add_zero, ndI_z] at this
        exact this
      have h4 : pnv p s 4 < 9 := hnv 3 (by omega)
      obtain ⟨b, τ3, e3, hsq, hr⟩ := m_markCall h hw hF hs hl k6
      have ha := SQ_am hsq h
      have e3' : f_M_markBy_L72 F (nI s) (nI (pow p s)) (nI (pnv p s 0)) F 0 τ = some (nI 3, τ3) := e3
      rw [if_pos (e6.mpr k6), a0, e3']
      show ∃ b τ', (if τ3 4 (5 * s + 4) = -1 then some τ3 else Option.bind (f_M_givesMarked F τ3 (nI (pnv p s 0))) _) = _ ∧ _
      rw [m_need6 ha hs k6 (by omega) (by omega)]
      by_cases c : pnv p s 4 = 8
      · rw [if_pos c, if_pos rfl]
        exact ⟨b, τ3, rfl, hsq, fun eb => ⟨fun z => absurd z k1, fun _ => ⟨hr eb, fun z => absurd c z⟩⟩⟩
      · have hv : pnv p s 4 < 8 := by omega
        rw [if_neg c, if_neg (nI_nm (by omega)), m_givesMarked ha hw (by rw [hsq.2.1 12 (by omega), hlv]) hF hto]
        have gmono : gvB p (mkM τ) (pnv p s 0) → gvB p (mkM τ3) (pnv p s 0) := fun ⟨s', q1, q2, q3, q4, q5⟩ => ⟨s', q1, q2, q3, q4, hsq.2.2.2.2.2.1 _ q5⟩
        cases g : (!nonB (gvF p τ3 (pnv p s 0)) (pS p))
        · refine ⟨b, τ3, rfl, hsq, fun eb => ⟨fun z => absurd z k1, fun _ => ⟨hr eb, fun _ hb => ?_⟩⟩⟩
          rw [gvF_iff.mpr (gmono hb)] at g; cases g
        · obtain ⟨w, ew, hww⟩ := m_mark (τ := τ3) hm hv
          have hsq2 := SQ_mark (p := p) hm hv hww (fun B hB hin => ((hB s hs hl).2 k6).2 c (by
            obtain ⟨s', q1, q2, q3, q4, q5⟩ := gvF_iff.mp g
            refine ⟨s', q1, q2, q3, q4, hin _ _ hto ?_ q5⟩
            have := (WF_step hw q1).2.2.2.2.2
            rw [q3] at this
            exact this 0 (by decide)))
          refine ⟨_, _, ?_, SQ_t hsq hsq2, fun eb => ?_⟩
          · show Option.bind (f_M_mark τ3 (nI (pow p s)) (τ3 4 (5 * s + 4))) _ = _
            rw [m_need6 ha hs k6 (by omega) (by omega), if_neg c, ew]
            rfl
          · rw [Bool.or_eq_false_iff] at eb
            refine ⟨fun z => absurd z k1, fun _ => ⟨hr eb.1, fun _ _ => ?_⟩⟩
            exact hsq.2.2.2.2.2.2 eb.1 _ (by omega) (of_decide_eq_false eb.2)
    · rw [if_neg (fun z => k6 (e6.mp z))]
      exact ⟨false, τ, rfl, SQ_r, fun _ => ⟨fun z => absurd z k1, fun z => absurd z k6⟩⟩
end MM
