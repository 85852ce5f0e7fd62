/-! The same of the reference. -/
def xM (τ : St) : XX := (τ 6, τ 7, τ 8, τ 9)
def setM (τ : St) (X : XX) (g : Bool) : St := fun k => if k = 0 then upd (τ 0) 14 (bI g) else if k = 6 then X.1 else if k = 7 then X.2.1 else if k = 8 then X.2.2.1 else if k = 9 then X.2.2.2 else τ k
theorem xM_set (τ : St) (X : XX) (g : Bool) : xM (setM τ X g) = X := by simp [xM, setM]
theorem setM_g (τ : St) (X : XX) (g : Bool) : setM τ X g 0 14 = bI g := by simp [setM, upd]
theorem setM_0 {τ : St} {X : XX} {g : Bool} {j : Nat} (h : j ≠ 14) : setM τ X g 0 j = τ 0 j := by simp [setM, upd, h]
theorem setM_o {τ : St} {X : XX} {g : Bool} {k : Nat} (h : 0 < k ∧ k < 6 ∨ 9 < k) : setM τ X g k = τ k := by
  unfold setM
  rw [if_neg (by omega), if_neg (by omega), if_neg (by omega), if_neg (by omega), if_neg (by omega)]
theorem setM_set (τ : St) (X Y : XX) (g g' : Bool) : setM (setM τ X g) Y g' = setM τ Y g' := by
  funext k
  unfold setM
  by_cases h : k = 0
  · rw [if_pos h, if_pos h, if_pos rfl]
    funext j
    unfold upd
    by_cases c : j = 14
    · rw [if_pos c, if_pos c]
    · rw [if_neg c, if_neg c, if_neg c]
  · rw [if_neg h, if_neg h]
    repeat' split
    all_goals rfl
theorem setM_id {τ : St} {g : Bool} (h : τ 0 14 = bI g) : setM τ (xM τ) g = τ := by
  funext k
  unfold setM xM
  by_cases h0 : k = 0
  · rw [if_pos h0, h0]
    funext j
    unfold upd
    by_cases c : j = 14
    · rw [if_pos c, c, h]
    · rw [if_neg c]
  · rw [if_neg h0]
    split
    · rename_i h; rw [h]
    · split
      · rename_i h; rw [h]
      · split
        · rename_i h; rw [h]
        · split
          · rename_i h; rw [h]
          · rfl
theorem setM_1 (τ : St) (f : Nat → Int32) (g : Bool) : sr (su τ 0 14 (bI g)) 6 f = setM τ (f, (xM τ).2) g := by
  funext k
  by_cases h : k = 6
  · subst h; rw [sr_s]; rfl
  · rw [sr_n h]
    by_cases h0 : k = 0
    · subst h0; unfold su; rw [sr_s]; rfl
    · rw [su_n h0]
      unfold setM xM
      rw [if_neg h0, if_neg h]
      repeat' split
      all_goals (first | rfl | (rename_i h; rw [h]))
theorem setM_2 (τ : St) (f : Nat → Int32) (g : Bool) : sr (su τ 0 14 (bI g)) 7 f = setM τ ((xM τ).1, f, (xM τ).2.2) g := by
  funext k
  by_cases h : k = 7
  · subst h; rw [sr_s]; rfl
  · rw [sr_n h]
    by_cases h0 : k = 0
    · subst h0; unfold su; rw [sr_s]; rfl
    · rw [su_n h0]
      unfold setM xM
      rw [if_neg h0]
      repeat' split
      all_goals (first | rfl | (rename_i h; rw [h]) | (rename_i h1 h2; exact absurd h2 h) | contradiction)
theorem setM_3 (τ : St) (f : Nat → Int32) (g : Bool) : sr (su τ 0 14 (bI g)) 8 f = setM τ ((xM τ).1, (xM τ).2.1, f, (xM τ).2.2.2) g := by
  funext k
  by_cases h : k = 8
  · subst h; rw [sr_s]; rfl
  · rw [sr_n h]
    by_cases h0 : k = 0
    · subst h0; unfold su; rw [sr_s]; rfl
    · rw [su_n h0]
      unfold setM xM
      rw [if_neg h0]
      repeat' split
      all_goals (first | rfl | (rename_i h; rw [h]) | contradiction)
theorem setM_4 (τ : St) (f : Nat → Int32) (g : Bool) : sr (su τ 0 14 (bI g)) 9 f = setM τ ((xM τ).1, (xM τ).2.1, (xM τ).2.2.1, f) g := by
  funext k
  by_cases h : k = 9
  · subst h; rw [sr_s]; rfl
  · rw [sr_n h]
    by_cases h0 : k = 0
    · subst h0; unfold su; rw [sr_s]; rfl
    · rw [su_n h0]
      unfold setM xM
      rw [if_neg h0]
      repeat' split
      all_goals (first | rfl | (rename_i h; rw [h]) | contradiction)
section FM
variable {τ : St} {p : PG} {F : Nat} {g : Bool}
theorem AM_set {X : XX} {g : Bool} (h : AM τ p) : AM (setM τ X g) p := h.same ⟨setM_0 (by omega), setM_0 (by omega), setM_0 (by omega)⟩ (setM_o (by omega)) (setM_o (by omega)) (setM_o (by omega)) (setM_o (by omega)) (setM_o (by omega))
theorem m_name {m x : Nat} (hm : m < 8) (hx : x < 8) : f_M_name τ (nI m) (nI x) = some (τ 6 (8 * m + x)) := by
  unfold f_M_name
  rw [n8_I, nI_add, if_pos (ix_in (by omega) (by omega)), ix_c (by omega)]
theorem m_toName (hg : τ 0 14 = bI g) {m x : Nat} {v : Int32} (hm : m < 8) (hx : x < 8) : f_M_toName τ (nI m) (nI x) v = some (setM τ (jn (τ 6) (8 * m + x) v, (xM τ).2) (g || jg (τ 6) (8 * m + x) v)) := by
  have ix : ¬ (nI (8 * m + x) < 0 ∨ 64 ≤ 8 * m + x) := fun z => z.elim (ix_n (by omega)) (by omega)
  have ec : (nI (8 * m + x)).toNatClampNeg = 8 * m + x := ix_c (by omega)
  unfold f_M_toName
  rw [n8_I, nI_add]
  simp only [lett, ec, if_pos ix, hg, su_n (show (6 : Nat) ≠ 0 by omega), su_n (show (8 : Nat) ≠ 0 by omega), su_n (show (9 : Nat) ≠ 0 by omega)]
  cases g
  · rw [if_pos (show bI false = 0 from rfl)]
    unfold jg
    by_cases c : τ 6 (8 * m + x) ||| v = τ 6 (8 * m + x)
    · rw [if_pos c, decide_eq_false (fun z => z c)]
      exact congrArg some (setM_1 τ _ false)
    · rw [if_neg c, decide_eq_true c]
      exact congrArg some (setM_1 τ _ true)
  · rw [if_neg (show ¬ bI true = 0 by decide)]
    exact congrArg some (setM_1 τ _ true)
theorem m_toPlace (hg : τ 0 14 = bI g) {x : Nat} {v : Int32} (hx : x < 4) : f_M_toPlace τ (nI x) v = some (setM τ ((xM τ).1, (xM τ).2.1, jn (τ 8) x v, (xM τ).2.2.2) (g || jg (τ 8) x v)) := by
  have ix : ¬ (nI (x) < 0 ∨ 4 ≤ x) := fun z => z.elim (ix_n (by omega)) (by omega)
  have ec : (nI (x)).toNatClampNeg = x := ix_c (by omega)
  unfold f_M_toPlace
  simp only [lett, ec, if_pos ix, hg, su_n (show (6 : Nat) ≠ 0 by omega), su_n (show (8 : Nat) ≠ 0 by omega), su_n (show (9 : Nat) ≠ 0 by omega)]
  cases g
  · rw [if_pos (show bI false = 0 from rfl)]
    unfold jg
    by_cases c : τ 8 x ||| v = τ 8 x
    · rw [if_pos c, decide_eq_false (fun z => z c)]
      exact congrArg some (setM_3 τ _ false)
    · rw [if_neg c, decide_eq_true c]
      exact congrArg some (setM_3 τ _ true)
  · rw [if_neg (show ¬ bI true = 0 by decide)]
    exact congrArg some (setM_3 τ _ true)
theorem m_toResult (hg : τ 0 14 = bI g) {x : Nat} {v : Int32} (hx : x < 8) : f_M_toResult τ (nI x) v = some (setM τ ((xM τ).1, (xM τ).2.1, (xM τ).2.2.1, jn (τ 9) x v) (g || jg (τ 9) x v)) := by
  have ix : ¬ (nI (x) < 0 ∨ 8 ≤ x) := fun z => z.elim (ix_n (by omega)) (by omega)
  have ec : (nI (x)).toNatClampNeg = x := ix_c (by omega)
  unfold f_M_toResult
  simp only [lett, ec, if_pos ix, hg, su_n (show (6 : Nat) ≠ 0 by omega), su_n (show (8 : Nat) ≠ 0 by omega), su_n (show (9 : Nat) ≠ 0 by omega)]
  cases g
  · rw [if_pos (show bI false = 0 from rfl)]
    unfold jg
    by_cases c : τ 9 x ||| v = τ 9 x
    · rw [if_pos c, decide_eq_false (fun z => z c)]
      exact congrArg some (setM_4 τ _ false)
    · rw [if_neg c, decide_eq_true c]
      exact congrArg some (setM_4 τ _ true)
  · rw [if_neg (show ¬ bI true = 0 by decide)]
    exact congrArg some (setM_4 τ _ true)
theorem m_fromField (h : AM τ p) (hw : WF p) {set : Int32} {f : Nat} (hf : f < 4) (hF : 16 < F) : f_M_fromField F τ set (nI f) = some (ofF (τ 7) set f (pT p)) := by
  have hT := hw.2.2.2.1
  have hl := loop2 (pT p) (f_M_fromField_L5 F τ set (nI f)) (fun k => ofF (τ 7) set f k) (fun k => nI k) (ofF (τ 7) set f (pT p), nI (pT p)) (fun fu => by
      show f_M_fromField_B5 F τ set (nI f) _ _ (nI (pT p)) = _
      unfold f_M_fromField_B5
      rw [h.2.2.1, if_pos (nI_le (Nat.le_refl _) (by omega))]) (fun k fu hk => by
      show f_M_fromField_B5 F τ set (nI f) _ (ofF (τ 7) set f k) (nI k) = f_M_fromField_L5 F τ set (nI f) fu (ofF (τ 7) set f (k + 1)) (nI (k + 1))
      unfold f_M_fromField_B5
      rw [h.2.2.1, if_neg (nI_ge hk (by omega)), v_Mhas (by omega), n4_I, nI_add, ix_c (by omega)]
      show (if bI (bt set k) = 0 then _ else _) = _
      rw [bIif, nI_1, if_pos (show ¬ (nI (4 * k + f) < 0 ∨ 64 ≤ 4 * k + f) from fun z => z.elim (ix_n (by omega)) (by omega)), ofF_s]
      by_cases c : bt set k = true
      · rw [if_pos c, if_pos c]
      · rw [if_neg c, if_neg c]) F (by omega)
  unfold f_M_fromField
  rw [show (0 : Int32) = nI 0 from rfl]
  show Option.bind (f_M_fromField_L5 F τ set (nI f) F (ofF (τ 7) set f 0) (nI 0)) _ = _
  rw [hl]
  rfl
theorem upd_id (f : Nat → Int32) (k : Nat) : upd f k (f k) = f := by
  funext j
  unfold upd
  by_cases h : j = k
  · rw [if_pos h, h]
  · rw [if_neg h]
theorem m_toField (h : AM τ p) (hw : WF p) (hg : τ 0 14 = bI g) {set v : Int32} {f : Nat} (hf : f < 4) (hF : 16 < F) : f_M_toField F τ set (nI f) v = some (setM τ ((xM τ).1, jF (τ 7) set f v (pT p), (xM τ).2.2) (g || jFg (τ 7) set f v (pT p))) := by
  have hT := hw.2.2.2.1
  have hl := loop2 (pT p) (f_M_toField_L3 F set (nI f) v) (fun k => nI k) (fun k => setM τ ((xM τ).1, jF (τ 7) set f v k, (xM τ).2.2) (g || jFg (τ 7) set f v k)) (nI (pT p), setM τ ((xM τ).1, jF (τ 7) set f v (pT p), (xM τ).2.2) (g || jFg (τ 7) set f v (pT p))) (fun fu => by
      show f_M_toField_B3 F set (nI f) v _ (nI (pT p)) (setM _ _ _) = _
      unfold f_M_toField_B3
      rw [setM_0 (by omega), h.2.2.1, if_pos (nI_le (Nat.le_refl _) (by omega))]) (fun k fu hk => by
      generalize hgg : (g || jFg (τ 7) set f v k) = gg
      generalize hff : jF (τ 7) set f v k = ff
      show f_M_toField_B3 F set (nI f) v _ (nI k) (setM τ ((xM τ).1, ff, (xM τ).2.2) gg) = f_M_toField_L3 F set (nI f) v fu (nI (k + 1)) (setM τ ((xM τ).1, jF (τ 7) set f v (k + 1), (xM τ).2.2) (g || jFg (τ 7) set f v (k + 1)))
      unfold f_M_toField_B3
      have ix : ¬ (nI (4 * k + f) < 0 ∨ 64 ≤ 4 * k + f) := fun z => z.elim (ix_n (by omega)) (by omega)
      rw [setM_0 (by omega), h.2.2.1, if_neg (nI_ge hk (by omega)), v_Mhas (by omega), n4_I, nI_add, ix_c (by omega)]
      show (if bI (bt set k) = 0 then _ else _) = _
      have e7 : ∀ (G : Bool), setM τ ((xM τ).1, ff, (xM τ).2.2) G 7 = ff := fun G => rfl
      have key : ∀ (G : Bool) (w : Int32), sr (su (setM τ ((xM τ).1, ff, (xM τ).2.2) gg) 0 14 (bI G)) 7 (upd ff (4 * k + f) w) = setM τ ((xM τ).1, upd ff (4 * k + f) w, (xM τ).2.2) G := fun G w => by
        rw [setM_2, xM_set, setM_set]
      rw [bIif, nI_1, setM_g, e7, jF_s, jFg_s, hff]
      simp only [lett, if_pos ix, su_n (show (7 : Nat) ≠ 0 by omega), e7]
      have k0 := key false
      have k1 := key true
      rw [bI_f] at k0
      rw [bI_t] at k1
      by_cases c : bt set k = true
      · rw [if_pos c, if_pos c, if_pos c, ← Bool.or_assoc, hgg, k0, k1]
        cases gg
        · rw [if_pos (show bI false = 0 from rfl), Bool.false_or]
          unfold jg
          by_cases d : ff (4 * k + f) ||| v = ff (4 * k + f)
          · rw [if_pos d, decide_eq_false (fun z => z d)]; rfl
          · rw [if_neg d, decide_eq_true d]; rfl
        · rw [if_neg (show ¬ bI true = 0 by decide), Bool.true_or]; rfl
      · rw [if_neg c, if_neg c, if_neg c, hgg, k0, k1, upd_id]
        cases gg
        · simp [bI]
        · simp [bI]) F (by omega)
  have e0 : f_M_toField_L3 F set (nI f) v F (nI 0) τ = some (nI (pT p), setM τ ((xM τ).1, jF (τ 7) set f v (pT p), (xM τ).2.2) (g || jFg (τ 7) set f v (pT p))) := by
    rw [← hl]
    show _ = f_M_toField_L3 F set (nI f) v F (nI 0) (setM τ (xM τ) (g || false))
    rw [Bool.or_false, setM_id hg]
  unfold f_M_toField
  rw [show (0 : Int32) = nI 0 from rfl, e0]
  rfl
theorem ofF_T {fd : Nat → Int32} {set : Int32} {f T : Nat} (hb : ∀ j, T ≤ j → bt set j = false) : ∀ n, T ≤ n → ofF fd set f n = ofF fd set f T := by
  intro n
  induction n with
  | zero => intro h; rw [show T = 0 by omega]
  | succ n ih =>
    intro h
    by_cases e : T = n + 1
    · rw [e]
    · rw [ofF_s, if_neg (by rw [hb n (by omega)]; decide), ih (by omega)]
theorem jF_T {fd : Nat → Int32} {set v : Int32} {f T : Nat} (hb : ∀ j, T ≤ j → bt set j = false) : ∀ n, T ≤ n → jF fd set f v n = jF fd set f v T ∧ jFg fd set f v n = jFg fd set f v T := by
  intro n
  induction n with
  | zero => intro h; rw [show T = 0 by omega]; exact ⟨rfl, rfl⟩
  | succ n ih =>
    intro h
    by_cases e : T = n + 1
    · rw [e]; exact ⟨rfl, rfl⟩
    · rw [jF_s, jFg_s, if_neg (by rw [hb n (by omega)]; decide), if_neg (by rw [hb n (by omega)]; decide)]
      exact ih (by omega)
theorem m_need (h : AM τ p) {s i : Nat} (hs : s < pS p) (hi : i < nds (pkd p s)) : τ 4 (5 * s + i) = ndI (pkd p s) i (pnv p s i) := (h.2.2.2.1 s hs).2.2.2 i hi
theorem ndI_o {k i v : Nat} (h : k ≠ 6) : ndI k i v = nI v := if_neg (fun z => h z.1)
theorem ndI_z {k v : Nat} : ndI k 0 v = nI v := if_neg (fun z => absurd z.2.1 (by omega))
theorem m_call (h : AM τ p) (hw : WF p) (hg : τ 0 14 = bI g) {s : Nat} (hs : s < pS p) (hk : pkd p s = 6) (hF : 16 < F) :
    f_M_doStep_L203 F (nI s) (nI (pow p s)) (nI (pnv p s 0)) F (nI 0) τ = some (nI 3, setM τ (cN (τ 6) (pow p s) (pnv p s 0) (fun i => pnv p s (1 + i)) 3, (xM τ).2) (g || cNg (τ 6) (pow p s) (pnv p s 0) (fun i => pnv p s (1 + i)) 3)) := by
  obtain ⟨h64, hm, hst⟩ := WF_step hw hs
  obtain ⟨h1, h2, -, h4⟩ := hst
  rw [hk] at h4
  have hto : pnv p s 0 < 8 := by have := h4 0 (by decide); simp [limN] at this; have := hw.2.1; omega
  have ha : ∀ i, i < 4 → pnv p s (1 + i) < 9 := fun i hi => by have := h4 (1 + i) (by show _ < 5; omega); simp [limN] at this; exact this
  have hn : ∀ i, i < 4 → τ 4 (5 * s + 1 + i) = if pnv p s (1 + i) = 8 then -1 else nI (pnv p s (1 + i)) := by
    intro i hi
    rw [show 5 * s + 1 + i = 5 * s + (1 + i) by omega, m_need h hs (by rw [hk]; show _ < 5; omega), hk]
    unfold ndI
    by_cases c : pnv p s (1 + i) = 8
    · rw [if_pos ⟨rfl, by omega, c⟩, if_pos c]
    · rw [if_neg (fun z => c z.2.2), if_neg c]
  have hl := loop2 3 (f_M_doStep_L203 F (nI s) (nI (pow p s)) (nI (pnv p s 0))) (fun k => nI k) (fun k => setM τ (cN (τ 6) (pow p s) (pnv p s 0) (fun i => pnv p s (1 + i)) k, (xM τ).2) (g || cNg (τ 6) (pow p s) (pnv p s 0) (fun i => pnv p s (1 + i)) k)) (nI 3, setM τ (cN (τ 6) (pow p s) (pnv p s 0) (fun i => pnv p s (1 + i)) 3, (xM τ).2) (g || cNg (τ 6) (pow p s) (pnv p s 0) (fun i => pnv p s (1 + i)) 3)) (fun fu => by
      show f_M_doStep_B203 F _ _ _ _ (nI 3) _ = _
      unfold f_M_doStep_B203
      rw [if_pos le_3]) (fun k fu hk3 => by
      generalize hgg : cNg (τ 6) (pow p s) (pnv p s 0) (fun i => pnv p s (1 + i)) = cg
      generalize hcc : cN (τ 6) (pow p s) (pnv p s 0) (fun i => pnv p s (1 + i)) = cn
      show f_M_doStep_B203 F _ _ _ _ (nI k) (setM τ (cn k, (xM τ).2) (g || cg k)) = f_M_doStep_L203 F (nI s) (nI (pow p s)) (nI (pnv p s 0)) fu (nI (k + 1)) (setM τ (cn (k + 1), (xM τ).2) (g || cg (k + 1)))
      unfold f_M_doStep_B203
      have e1 : cn (k + 1) = if pnv p s (1 + k) = 8 then cn k else jn (cn k) (8 * pnv p s 0 + k) (cn k (8 * pow p s + pnv p s (1 + k))) := by rw [← hcc]; rfl
      have e2 : cg (k + 1) = if pnv p s (1 + k) = 8 then cg k else (cg k || jg (cn k) (8 * pnv p s 0 + k) (cn k (8 * pow p s + pnv p s (1 + k)))) := by rw [← hgg, ← hcc]; rfl
      rw [if_neg (lt_3 hk3), n5_I, nI_1, nI_add, if_pos (ix_in (by omega) (by omega)), ix_c (by omega), setM_o (by omega), hn k (by omega), nI_1]
      by_cases c : pnv p s (1 + k) = 8
      · rw [e1, e2, if_pos c, if_pos c, if_pos c, if_pos rfl]
      · rw [e1, e2, if_neg c, if_neg c, if_neg c]
        have h8 := ha k (by omega)
        rw [if_neg (nIne8 _ (by omega)), m_name hm (by omega)]
        show Option.bind (f_M_toName _ _ _ (cn k (8 * pow p s + pnv p s (1 + k)))) _ = _
        rw [m_toName (g := (g || cg k)) (setM_g _ _ _) hto (by omega), setM_set, Bool.or_assoc]
        rfl) F (by omega)
  rw [← hl]
  show _ = f_M_doStep_L203 F (nI s) (nI (pow p s)) (nI (pnv p s 0)) F (nI 0) (setM τ (xM τ) (g || false))
  rw [Bool.or_false, setM_id hg]
theorem m_doStep (h : AM τ p) (hw : WF p) (hg : τ 0 14 = bI g) (hb : ∀ i j, pT p ≤ j → bt (τ 6 i) j = false) {s : Nat} (hs : s < pS p) (hF : 16 < F) : f_M_doStep F τ (nI s) = some (setM τ (flX p (xM τ) s) (g || flG p (xM τ) s)) := by
  obtain ⟨h64, hm, hst⟩ := WF_step hw hs
  obtain ⟨h1, h2, h3, h4⟩ := hst
  have hT := hw.2.2.2.1
  obtain ⟨r1, r2, r3, -⟩ := h.2.2.2.1 s hs
  have hn : ∀ i, i < nds (pkd p s) → τ 4 (5 * s + i) = ndI (pkd p s) i (pnv p s i) := fun i hi => m_need h hs hi
  have c0 : (nI s).toNatClampNeg = s := ix_c (by omega)
  have c5 : (nI (5 * s)).toNatClampNeg = 5 * s := ix_c (by omega)
  have c51 : (nI (5 * s + 1)).toNatClampNeg = 5 * s + 1 := ix_c (by omega)
  have c52 : (nI (5 * s + 2)).toNatClampNeg = 5 * s + 2 := ix_c (by omega)
  have c54 : (nI (5 * s + 4)).toNatClampNeg = 5 * s + 4 := ix_c (by omega)
  have i0 : ¬ (nI s < 0 ∨ 64 ≤ s) := fun z => z.elim (ix_n (by omega)) (by omega)
  have i5 : ¬ (nI (5 * s) < 0 ∨ 320 ≤ 5 * s) := fun z => z.elim (ix_n (by omega)) (by omega)
  have i51 : ¬ (nI (5 * s + 1) < 0 ∨ 320 ≤ 5 * s + 1) := fun z => z.elim (ix_n (by omega)) (by omega)
  have i52 : ¬ (nI (5 * s + 2) < 0 ∨ 320 ≤ 5 * s + 2) := fun z => z.elim (ix_n (by omega)) (by omega)
  have i54 : ¬ (nI (5 * s + 4) < 0 ∨ 320 ≤ 5 * s + 4) := fun z => z.elim (ix_n (by omega)) (by omega)
  unfold f_M_doStep
  simp only [n5_I, nI_1, nI_p2, nI_p4, c0, c5, c51, c52, c54, if_pos i0, if_pos i5, if_pos i51, if_pos i52, if_pos i54, r1, r2, r3]
  have hk : pkd p s = 0 ∨ pkd p s = 1 ∨ pkd p s = 2 ∨ pkd p s = 3 ∨ pkd p s = 4 ∨ pkd p s = 5 ∨ pkd p s = 6 ∨ pkd p s = 7 ∨ pkd p s = 8 ∨ pkd p s = 9 ∨ pkd p s = 10 := by omega
  rcases hk with k | k | k | k | k | k | k | k | k | k | k
  · unfold flG flX
    rw [k] at h4 hn ⊢
    have a0 : pnv p s 0 < 8 := h4 0 (by decide)
    have n0 : τ 4 (5 * s) = nI (pnv p s 0) := hn 0 (by decide)
    rw [n0]
    show Option.bind (f_M_toName τ (nI (pow p s)) (nI (pnv p s 0)) (sh (psi p s))) _ = _
    rw [m_toName hg hm a0]
    rfl
  · unfold flG flX
    rw [k] at h4 hn ⊢
    have a0 : pnv p s 0 < 8 := h4 0 (by decide)
    have a1 : pnv p s 1 < 8 := h4 1 (by decide)
    have n0 : τ 4 (5 * s) = nI (pnv p s 0) := hn 0 (by decide)
    have n1 : τ 4 (5 * s + 1) = nI (pnv p s 1) := hn 1 (by decide)
    rw [n0, n1]
    show Option.bind (f_M_name τ (nI (pow p s)) (nI (pnv p s 1))) _ = _
    rw [m_name hm a1]
    show Option.bind (f_M_toName τ (nI (pow p s)) (nI (pnv p s 0)) _) _ = _
    rw [m_toName hg hm a0]
    rfl
  · unfold flG flX
    rw [k] at h4 hn ⊢
    have a0 : pnv p s 0 < 8 := h4 0 (by decide)
    have a1 : pnv p s 1 < 8 := h4 1 (by decide)
    have a2 : pnv p s 2 < 4 := h4 2 (by decide)
    have n0 : τ 4 (5 * s) = nI (pnv p s 0) := hn 0 (by decide)
    have n1 : τ 4 (5 * s + 1) = nI (pnv p s 1) := hn 1 (by decide)
    have n2 : τ 4 (5 * s + 2) = nI (pnv p s 2) := hn 2 (by decide)
    rw [n0, n1, n2]
    show Option.bind (f_M_name τ (nI (pow p s)) (nI (pnv p s 1))) _ = _
    rw [m_name hm a1]
    show Option.bind (f_M_fromField F τ (τ 6 (8 * pow p s + pnv p s 1)) (nI (pnv p s 2))) _ = _
    rw [m_fromField h hw a2 hF]
    show Option.bind (f_M_toName τ (nI (pow p s)) (nI (pnv p s 0)) (ofF (τ 7) (τ 6 (8 * pow p s + pnv p s 1)) (pnv p s 2) (pT p))) _ = _
    rw [m_toName hg hm a0, ← ofF_T (hb (8 * pow p s + pnv p s 1)) 16 hT]
    rfl
  · unfold flG flX
    rw [k] at h4 hn ⊢
    have a0 : pnv p s 0 < 8 := h4 0 (by decide)
    have a1 : pnv p s 1 < 4 := h4 1 (by decide)
    have a2 : pnv p s 2 < 8 := h4 2 (by decide)
    have n0 : τ 4 (5 * s) = nI (pnv p s 0) := hn 0 (by decide)
    have n1 : τ 4 (5 * s + 1) = nI (pnv p s 1) := hn 1 (by decide)
    have n2 : τ 4 (5 * s + 2) = nI (pnv p s 2) := hn 2 (by decide)
    rw [n0, n1, n2]
    show Option.bind (f_M_name τ (nI (pow p s)) (nI (pnv p s 0))) _ = _
    rw [m_name hm a0]
    show Option.bind (f_M_name τ (nI (pow p s)) (nI (pnv p s 2))) _ = _
    rw [m_name hm a2]
    show Option.bind (f_M_toField F τ (τ 6 (8 * pow p s + pnv p s 0)) (nI (pnv p s 1)) (τ 6 (8 * pow p s + pnv p s 2))) _ = _
    rw [m_toField h hw hg a1 hF, ← (jF_T (hb (8 * pow p s + pnv p s 0)) 16 hT).1, ← (jF_T (hb (8 * pow p s + pnv p s 0)) 16 hT).2]
    rfl
  · unfold flG flX
    rw [k] at h4 hn ⊢
    have a0 : pnv p s 0 < 8 := h4 0 (by decide)
    have a1 : pnv p s 1 < 4 := h4 1 (by decide)
    have n0 : τ 4 (5 * s) = nI (pnv p s 0) := hn 0 (by decide)
    have n1 : τ 4 (5 * s + 1) = nI (pnv p s 1) := hn 1 (by decide)
    rw [n0, n1]
    show (if ¬ (nI (pnv p s 1) < 0 ∨ 4 ≤ (nI (pnv p s 1)).toNatClampNeg) then _ else _) = _
    rw [if_pos (ix_in a1 (by omega)), ix_c (by omega), m_toName hg hm a0]
    rfl
  · unfold flG flX
    rw [k] at h4 hn ⊢
    have a0 : pnv p s 0 < 4 := h4 0 (by decide)
    have a1 : pnv p s 1 < 8 := h4 1 (by decide)
    have n0 : τ 4 (5 * s) = nI (pnv p s 0) := hn 0 (by decide)
    have n1 : τ 4 (5 * s + 1) = nI (pnv p s 1) := hn 1 (by decide)
    rw [n0, n1]
    show Option.bind (f_M_name τ (nI (pow p s)) (nI (pnv p s 1))) _ = _
    rw [m_name hm a1]
    show Option.bind (f_M_toPlace τ (nI (pnv p s 0)) (τ 6 (8 * pow p s + pnv p s 1))) _ = _
    rw [m_toPlace hg a0]
    rfl
  · have hto : pnv p s 0 < 8 := by have := h4 0 (by rw [k]; decide); rw [k] at this; simp [limN] at this; have := hw.2.1; omega
    have h5 : pnv p s 4 < 9 := by have := h4 4 (by rw [k]; decide); rw [k] at this; simp [limN] at this; exact this
    have n0 : τ 4 (5 * s) = nI (pnv p s 0) := by have := hn 0 (by rw [k]; decide); rw [k] at this; exact this
    have n4 : τ 4 (5 * s + 4) = if pnv p s 4 = 8 then -1 else nI (pnv p s 4) := by
      have := hn 4 (by rw [k]; decide)
      rw [this, k]
      unfold ndI
      by_cases c : pnv p s 4 = 8
      · rw [if_pos ⟨rfl, by omega, c⟩, if_pos c]
      · rw [if_neg (fun z => c z.2.2), if_neg c]
    have e := m_call h hw hg hs k hF
    rw [n0, k]
    show Option.bind (f_M_doStep_L203 F (nI s) (nI (pow p s)) (nI (pnv p s 0)) F (nI 0) τ) _ = _
    rw [e]
    unfold flG flX
    rw [k]
    generalize hgg : cNg (τ 6) (pow p s) (pnv p s 0) (fun i => pnv p s (1 + i)) 3 = cg
    generalize hcc : cN (τ 6) (pow p s) (pnv p s 0) (fun i => pnv p s (1 + i)) 3 = cn
    have hg' : cNg (xM τ).1 (pow p s) (pnv p s 0) (fun i => pnv p s (1 + i)) 3 = cg := hgg
    have hc' : cN (xM τ).1 (pow p s) (pnv p s 0) (fun i => pnv p s (1 + i)) 3 = cn := hcc
    rw [hg', hc']
    show (if setM τ (cn, (xM τ).2) (g || cg) 4 (5 * s + 4) = -1 then some (setM τ (cn, (xM τ).2) (g || cg)) else if ¬ (nI (pnv p s 0) < 0 ∨ 8 ≤ (nI (pnv p s 0)).toNatClampNeg) then Option.bind (f_M_toName (setM τ (cn, (xM τ).2) (g || cg)) (nI (pow p s)) (setM τ (cn, (xM τ).2) (g || cg) 4 (5 * s + 4)) (setM τ (cn, (xM τ).2) (g || cg) 9 (nI (pnv p s 0)).toNatClampNeg)) (fun u => some u) else none) = _
    rw [setM_o (k := 4) (by omega), n4]
    by_cases c : pnv p s 4 = 8
    · rw [if_pos c, if_pos rfl]
      simp only [c]
      rfl
    · rw [if_neg c, if_neg (nIne8 _ (by omega)), if_pos (ix_in hto (by omega)), ix_c (by omega), m_toName (g := (g || cg)) (setM_g _ _ _) hm (by omega), setM_set, Bool.or_assoc]
      simp only [c]
      rfl
  · unfold flG flX
    rw [k] at h4 hn ⊢
    have a0 : pnv p s 0 < 8 := h4 0 (by decide)
    have n0 : τ 4 (5 * s) = nI (pnv p s 0) := hn 0 (by decide)
    rw [n0]
    show Option.bind (f_M_name τ (nI (pow p s)) (nI (pnv p s 0))) _ = _
    rw [m_name hm a0]
    show Option.bind (f_M_toResult τ (nI (pow p s)) (τ 6 (8 * pow p s + pnv p s 0))) _ = _
    rw [m_toResult hg hm]
    rfl
  · unfold flG flX
    rw [k]
    show some τ = some (setM τ (xM τ) (g || false))
    rw [Bool.or_false, setM_id hg]
  · unfold flG flX
    rw [k]
    show some τ = some (setM τ (xM τ) (g || false))
    rw [Bool.or_false, setM_id hg]
  · unfold flG flX
    rw [k]
    show some τ = some (setM τ (xM τ) (g || false))
    rw [Bool.or_false, setM_id hg]
end FM
