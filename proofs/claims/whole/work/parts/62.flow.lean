/-! What a STEP does to the sets: names, fields, places, results. -/
abbrev XX : Type := (Nat → Int32) × (Nat → Int32) × (Nat → Int32) × (Nat → Int32)
theorem sr_id (σ : St) (k : Nat) : sr σ k (σ k) = σ := by
  funext j
  by_cases h : j = k
  · subst h; rw [sr_s]
  · rw [sr_n h]
theorem sr_sr (σ : St) (k : Nat) (f g : Nat → Int32) : sr (sr σ k f) k g = sr σ k g := by
  funext j
  by_cases h : j = k
  · subst h; rw [sr_s, sr_s]
  · rw [sr_n h, sr_n h, sr_n h]
def xE (σ : St) : XX := (σ 11, σ 12, σ 13, σ 14)
def setE (σ : St) (X : XX) : St := fun k => if k = 11 then X.1 else if k = 12 then X.2.1 else if k = 13 then X.2.2.1 else if k = 14 then X.2.2.2 else σ k
theorem xE_set (σ : St) (X : XX) : xE (setE σ X) = X := by simp [xE, setE]
theorem setE_o {σ : St} {X : XX} {k : Nat} (h : k < 11 ∨ 14 < k) : setE σ X k = σ k := by
  unfold setE
  rw [if_neg (by omega), if_neg (by omega), if_neg (by omega), if_neg (by omega)]
theorem setE_id (σ : St) : setE σ (xE σ) = σ := by
  funext k
  unfold setE xE
  split
  · rename_i h; rw [h]
  · split
    · rename_i h; rw [h]
    · split
      · rename_i h; rw [h]
      · split
        · rename_i h; rw [h]
        · rfl
theorem setE_set (σ : St) (X Y : XX) : setE (setE σ X) Y = setE σ Y := by
  funext k
  unfold setE
  repeat' split
  all_goals rfl
theorem setE_1 (σ : St) (f : Nat → Int32) : sr σ 11 f = setE σ (f, (xE σ).2) := by
  funext k
  by_cases h : k = 11
  · subst h; rw [sr_s]; rfl
  · rw [sr_n h]
    have := congrFun (setE_id σ) k
    unfold setE at this ⊢
    rw [if_neg h] at this ⊢
    exact this.symm
theorem setE_2 (σ : St) (f : Nat → Int32) : sr σ 12 f = setE σ ((xE σ).1, f, (xE σ).2.2) := by
  funext k
  by_cases h : k = 12
  · subst h; rw [sr_s]; rfl
  · rw [sr_n h]
    have := congrFun (setE_id σ) k
    unfold setE at this ⊢
    rw [if_neg h] at this ⊢
    exact this.symm
theorem setE_3 (σ : St) (f : Nat → Int32) : sr σ 13 f = setE σ ((xE σ).1, (xE σ).2.1, f, (xE σ).2.2.2) := by
  funext k
  by_cases h : k = 13
  · subst h; rw [sr_s]; rfl
  · rw [sr_n h]
    have := congrFun (setE_id σ) k
    unfold setE at this ⊢
    rw [if_neg h] at this ⊢
    exact this.symm
theorem setE_4 (σ : St) (f : Nat → Int32) : sr σ 14 f = setE σ ((xE σ).1, (xE σ).2.1, (xE σ).2.2.1, f) := by
  funext k
  by_cases h : k = 14
  · subst h; rw [sr_s]; rfl
  · rw [sr_n h]
    have := congrFun (setE_id σ) k
    unfold setE at this ⊢
    rw [if_neg h] at this ⊢
    exact this.symm
/-- FIELD f of a set of SITES below n -/
def ofF (fd : Nat → Int32) (set : Int32) (f : Nat) : Nat → Int32
  | 0 => 0
  | n + 1 => if bt set n = true then ofF fd set f n ||| fd (4 * n + f) else ofF fd set f n
def jF (fd : Nat → Int32) (set : Int32) (f : Nat) (v : Int32) : Nat → (Nat → Int32)
  | 0 => fd
  | n + 1 => if bt set n = true then jn (jF fd set f v n) (4 * n + f) v else jF fd set f v n
def jFg (fd : Nat → Int32) (set : Int32) (f : Nat) (v : Int32) : Nat → Bool
  | 0 => false
  | n + 1 => if bt set n = true then (jFg fd set f v n || jg (jF fd set f v n) (4 * n + f) v) else jFg fd set f v n
/-- the PARAMETERS of a CALL -/
def cN (f : Nat → Int32) (m to : Nat) (a : Nat → Nat) : Nat → (Nat → Int32)
  | 0 => f
  | n + 1 => if a n = 8 then cN f m to a n else jn (cN f m to a n) (8 * to + n) (cN f m to a n (8 * m + a n))
def cNg (f : Nat → Int32) (m to : Nat) (a : Nat → Nat) : Nat → Bool
  | 0 => false
  | n + 1 => if a n = 8 then cNg f m to a n else (cNg f m to a n || jg (cN f m to a n) (8 * to + n) (cN f m to a n (8 * m + a n)))
theorem ofF_s (fd : Nat → Int32) (set : Int32) (f n : Nat) : ofF fd set f (n + 1) = if bt set n = true then ofF fd set f n ||| fd (4 * n + f) else ofF fd set f n := rfl
theorem jF_s (fd : Nat → Int32) (set : Int32) (f : Nat) (v : Int32) (n : Nat) : jF fd set f v (n + 1) = if bt set n = true then jn (jF fd set f v n) (4 * n + f) v else jF fd set f v n := rfl
theorem jFg_s (fd : Nat → Int32) (set : Int32) (f : Nat) (v : Int32) (n : Nat) : jFg fd set f v (n + 1) = if bt set n = true then (jFg fd set f v n || jg (jF fd set f v n) (4 * n + f) v) else jFg fd set f v n := rfl
theorem cN_s (f : Nat → Int32) (m to : Nat) (a : Nat → Nat) (n : Nat) : cN f m to a (n + 1) = if a n = 8 then cN f m to a n else jn (cN f m to a n) (8 * to + n) (cN f m to a n (8 * m + a n)) := rfl
theorem cNg_s (f : Nat → Int32) (m to : Nat) (a : Nat → Nat) (n : Nat) : cNg f m to a (n + 1) = if a n = 8 then cNg f m to a n else (cNg f m to a n || jg (cN f m to a n) (8 * to + n) (cN f m to a n (8 * m + a n))) := rfl
section FE
variable {σ : St} {p : PG} {F : Nat}
theorem e_joinName {m x : Nat} {v : Int32} (hm : m < 8) (hx : x < 8) : f_S_joinName σ (nI m) (nI x) v = some (bI (jg (σ 11) (8 * m + x) v), setE σ (jn (σ 11) (8 * m + x) v, (xE σ).2)) := by
  unfold f_S_joinName
  rw [nI_8, nI_add, v_join (by omega) (by omega), ← setE_1]
  exact bIchk _ _
theorem e_ofName {m x : Nat} (hm : m < 8) (hx : x < 8) : f_S_ofName σ (nI m) (nI x) = some (σ 11 (8 * m + x)) := by
  unfold f_S_ofName
  rw [nI_8, nI_add, v_at (by omega) (by omega)]
  rfl
theorem e_ofField {s f : Nat} (hs : s < 16) (hf : f < 4) : f_S_ofField σ (nI s) (nI f) = some (σ 12 (4 * s + f)) := by
  unfold f_S_ofField
  rw [nI_4, nI_add, v_at (by omega) (by omega)]
  rfl
theorem e_ofFieldOfAll {set : Int32} {f : Nat} (hf : f < 4) (hF : 16 < F) : f_S_ofFieldOfAll F σ set (nI f) = some (ofF (σ 12) set f 16) := by
  have h := loop2 16 (f_S_ofFieldOfAll_L5 F σ set (nI f)) (fun k => ofF (σ 12) set f k) (fun k => nI k) (ofF (σ 12) set f 16, nI 16) (fun fu => by
      show f_S_ofFieldOfAll_B5 F σ set (nI f) _ (ofF (σ 12) set f 16) (nI 16) = _
      unfold f_S_ofFieldOfAll_B5
      rw [if_pos le_16]) (fun k fu hk => by
      show f_S_ofFieldOfAll_B5 F σ set (nI f) _ (ofF (σ 12) set f k) (nI k) = f_S_ofFieldOfAll_L5 F σ set (nI f) fu (ofF (σ 12) set f (k + 1)) (nI (k + 1))
      unfold f_S_ofFieldOfAll_B5
      rw [if_neg (lt_16 hk), v_has (by omega)]
      show (if bI (bt set k) = 0 then _ else _) = _
      rw [bIif, e_ofField hk hf, nI_1]
      show (if bt set k = true then f_S_ofFieldOfAll_L5 F σ set (nI f) fu (ofF (σ 12) set f k ||| σ 12 (4 * k + f)) (nI (k + 1)) else _) = f_S_ofFieldOfAll_L5 F σ set (nI f) fu (if bt set k = true then _ else _) (nI (k + 1))
      split <;> rfl) F hF
  unfold f_S_ofFieldOfAll
  rw [show (0 : Int32) = nI 0 from rfl]
  show Option.bind (f_S_ofFieldOfAll_L5 F σ set (nI f) F (ofF (σ 12) set f 0) (nI 0)) _ = _
  rw [h]
  rfl
theorem e_joinFields {set v : Int32} {f : Nat} (hf : f < 4) (hF : 16 < F) : f_S_joinFields F σ set (nI f) v = some (bI (jFg (σ 12) set f v 16), setE σ ((xE σ).1, jF (σ 12) set f v 16, (xE σ).2.2)) := by
  have h := loop3 16 (f_S_joinFields_L6 F set (nI f) v) (fun k => bI (jFg (σ 12) set f v k)) (fun k => nI k) (fun k => sr σ 12 (jF (σ 12) set f v k)) (bI (jFg (σ 12) set f v 16), nI 16, sr σ 12 (jF (σ 12) set f v 16)) (fun fu => by
      show f_S_joinFields_B6 F set (nI f) v _ _ (nI 16) _ = _
      unfold f_S_joinFields_B6
      rw [if_pos le_16]) (fun k fu hk => by
      show f_S_joinFields_B6 F set (nI f) v _ (bI (jFg (σ 12) set f v k)) (nI k) (sr σ 12 (jF (σ 12) set f v k)) = f_S_joinFields_L6 F set (nI f) v fu (bI (jFg (σ 12) set f v (k + 1))) (nI (k + 1)) (sr σ 12 (jF (σ 12) set f v (k + 1)))
      unfold f_S_joinFields_B6
      rw [if_neg (lt_16 hk), v_has (by omega)]
      show (if bI (bt set k) = 0 then _ else _) = _
      rw [bIif, nI_1, sr_s, nI_4, nI_add, v_join (by omega) (by omega)]
      rw [jFg_s, jF_s]
      by_cases c : bt set k = true
      · rw [if_pos c, if_pos c, if_pos c]
        show (if bI (jg (jF (σ 12) set f v k) (4 * k + f) v) = 0 then f_S_joinFields_L6 F set (nI f) v fu (bI (jFg (σ 12) set f v k)) (nI (k + 1)) (sr (sr σ 12 (jF (σ 12) set f v k)) 12 (jn (jF (σ 12) set f v k) (4 * k + f) v)) else f_S_joinFields_L6 F set (nI f) v fu 1 (nI (k + 1)) (sr (sr σ 12 (jF (σ 12) set f v k)) 12 (jn (jF (σ 12) set f v k) (4 * k + f) v))) = _
        rw [sr_sr]
        cases jg (jF (σ 12) set f v k) (4 * k + f) v
        · rw [Bool.or_false]; rfl
        · rw [Bool.or_true]; rfl
      · rw [if_neg c, if_neg c, if_neg c]) F hF
  unfold f_S_joinFields
  rw [show (0 : Int32) = nI 0 from rfl, ← setE_2]
  have e0 : f_S_joinFields_L6 F set (nI f) v F (nI 0) (nI 0) σ = some (bI (jFg (σ 12) set f v 16), nI 16, sr σ 12 (jF (σ 12) set f v 16)) := by
    rw [← h]
    show _ = f_S_joinFields_L6 F set (nI f) v F (nI 0) (nI 0) (sr σ 12 (σ 12))
    rw [sr_id]
  rw [e0]
  exact bIchk _ _
/-- what a STEP makes of the sets, and whether one grows -/
def flX (p : PG) (X : XX) (s : Nat) : XX :=
  if pkd p s = 0 then (jn X.1 (8 * pow p s + pnv p s 0) (sh (psi p s)), X.2)
  else if pkd p s = 1 then (jn X.1 (8 * pow p s + pnv p s 0) (X.1 (8 * pow p s + pnv p s 1)), X.2)
  else if pkd p s = 2 then (jn X.1 (8 * pow p s + pnv p s 0) (ofF X.2.1 (X.1 (8 * pow p s + pnv p s 1)) (pnv p s 2) 16), X.2)
  else if pkd p s = 3 then (X.1, jF X.2.1 (X.1 (8 * pow p s + pnv p s 0)) (pnv p s 1) (X.1 (8 * pow p s + pnv p s 2)) 16, X.2.2)
  else if pkd p s = 4 then (jn X.1 (8 * pow p s + pnv p s 0) (X.2.2.1 (pnv p s 1)), X.2)
  else if pkd p s = 5 then (X.1, X.2.1, jn X.2.2.1 (pnv p s 0) (X.1 (8 * pow p s + pnv p s 1)), X.2.2.2)
  else if pkd p s = 6 then (if pnv p s 4 = 8 then (cN X.1 (pow p s) (pnv p s 0) (fun i => pnv p s (1 + i)) 3, X.2) else (jn (cN X.1 (pow p s) (pnv p s 0) (fun i => pnv p s (1 + i)) 3) (8 * pow p s + pnv p s 4) (X.2.2.2 (pnv p s 0)), X.2))
  else if pkd p s = 7 then (X.1, X.2.1, X.2.2.1, jn X.2.2.2 (pow p s) (X.1 (8 * pow p s + pnv p s 0)))
  else X
def flG (p : PG) (X : XX) (s : Nat) : Bool :=
  if pkd p s = 0 then jg X.1 (8 * pow p s + pnv p s 0) (sh (psi p s))
  else if pkd p s = 1 then jg X.1 (8 * pow p s + pnv p s 0) (X.1 (8 * pow p s + pnv p s 1))
  else if pkd p s = 2 then jg X.1 (8 * pow p s + pnv p s 0) (ofF X.2.1 (X.1 (8 * pow p s + pnv p s 1)) (pnv p s 2) 16)
  else if pkd p s = 3 then jFg X.2.1 (X.1 (8 * pow p s + pnv p s 0)) (pnv p s 1) (X.1 (8 * pow p s + pnv p s 2)) 16
  else if pkd p s = 4 then jg X.1 (8 * pow p s + pnv p s 0) (X.2.2.1 (pnv p s 1))
  else if pkd p s = 5 then jg X.2.2.1 (pnv p s 0) (X.1 (8 * pow p s + pnv p s 1))
  else if pkd p s = 6 then (if pnv p s 4 = 8 then cNg X.1 (pow p s) (pnv p s 0) (fun i => pnv p s (1 + i)) 3 else (cNg X.1 (pow p s) (pnv p s 0) (fun i => pnv p s (1 + i)) 3 || jg (cN X.1 (pow p s) (pnv p s 0) (fun i => pnv p s (1 + i)) 3) (8 * pow p s + pnv p s 4) (X.2.2.2 (pnv p s 0))))
  else if pkd p s = 7 then jg X.2.2.2 (pow p s) (X.1 (8 * pow p s + pnv p s 0))
  else false
theorem AE_set {X : XX} (h : AE σ p) : AE (setE σ X) p := h.same (setE_o (by omega)) (setE_o (by omega)) (setE_o (by omega)) (setE_o (by omega)) (setE_o (by omega)) (setE_o (by omega))
theorem WF_step (hw : WF p) {s : Nat} (hs : s < pS p) : s < 64 ∧ pow p s < 8 ∧ stepOK p s := by
  have h1 := hw.2.2.2.2.1 s hs
  have h2 := h1.1
  have h3 := hw.2.1
  have h4 := hw.2.2.1
  exact ⟨by omega, by omega, h1⟩
theorem nIne8 : ∀ v, v < 8 → ¬ (nI v = -1) := by decide +kernel
theorem e_flowCall (h : AE σ p) (hw : WF p) {s : Nat} (hs : s < pS p) (hk : pkd p s = 6) (hF : 16 < F) : f_S_flowCall F σ (nI s) (nI (pow p s)) (nI (pnv p s 0)) = some (bI (flG p (xE σ) s), setE σ (flX p (xE σ) s)) := by
  obtain ⟨h64, hm, hst⟩ := WF_step hw hs
  obtain ⟨h1, h2, -, h4⟩ := hst
  rw [hk] at h4
  have hto : pnv p s 0 < 8 := by have := h4 0 (by decide); simp [limN] at this; have := hw.2.1; omega
  have ha : ∀ i, i < 4 → pnv p s (1 + i) < 9 := fun i hi => by have := h4 (1 + i) (by show _ < 5; omega); simp [limN] at this; exact this
  have hn : ∀ (σ' : St) (i : Nat), AE σ' p → i < 4 → f_P_need σ' (nI s) (nI (1 + i)) = some (if pnv p s (1 + i) = 8 then -1 else nI (pnv p s (1 + i))) := by
    intro σ' i h' hi
    rw [e_need h' hw hs (by omega), hk, if_pos (show 1 + i < nds 6 by show _ < 5; omega)]
    unfold ndI
    by_cases c : pnv p s (1 + i) = 8
    · rw [if_pos ⟨rfl, by omega, c⟩, if_pos c]
    · rw [if_neg (fun z => c z.2.2), if_neg c]
  have hl := loop3 3 (f_S_flowCall_L6 F (nI s) (nI (pow p s)) (nI (pnv p s 0))) (fun k => bI (cNg (σ 11) (pow p s) (pnv p s 0) (fun i => pnv p s (1 + i)) k)) (fun k => nI k) (fun k => setE σ (cN (σ 11) (pow p s) (pnv p s 0) (fun i => pnv p s (1 + i)) k, (xE σ).2)) (bI (cNg (σ 11) (pow p s) (pnv p s 0) (fun i => pnv p s (1 + i)) 3), nI 3, setE σ (cN (σ 11) (pow p s) (pnv p s 0) (fun i => pnv p s (1 + i)) 3, (xE σ).2)) (fun fu => by
      show f_S_flowCall_B6 F _ _ _ _ _ (nI 3) _ = _
      unfold f_S_flowCall_B6
      rw [if_pos le_3]) (fun k fu hk3 => by
      generalize hg : cNg (σ 11) (pow p s) (pnv p s 0) (fun i => pnv p s (1 + i)) = cg
      generalize hc : cN (σ 11) (pow p s) (pnv p s 0) (fun i => pnv p s (1 + i)) = cn
      show f_S_flowCall_B6 F _ _ _ _ (bI (cg k)) (nI k) (setE σ (cn k, (xE σ).2)) = f_S_flowCall_L6 F (nI s) (nI (pow p s)) (nI (pnv p s 0)) fu (bI (cg (k + 1))) (nI (k + 1)) (setE σ (cn (k + 1), (xE σ).2))
      unfold f_S_flowCall_B6
      rw [if_neg (lt_3 hk3), n1_p, hn _ k (AE_set h) (by omega), nI_1]
      have e1 : cn (k + 1) = if pnv p s (1 + k) = 8 then cn k else jn (cn k) (8 * pnv p s 0 + k) (cn k (8 * pow p s + pnv p s (1 + k))) := by rw [← hc]; rfl
      have e2 : cg (k + 1) = if pnv p s (1 + k) = 8 then cg k else (cg k || jg (cn k) (8 * pnv p s 0 + k) (cn k (8 * pow p s + pnv p s (1 + k)))) := by rw [← hg, ← hc]; rfl
      by_cases c : pnv p s (1 + k) = 8
      · rw [e1, e2, if_pos c, if_pos c, if_pos c]
        rfl
      · rw [e1, e2, if_neg c, if_neg c, if_neg c]
        have h8 := ha k (by omega)
        show (if nI (pnv p s (1 + k)) = -1 then _ else _) = _
        rw [if_neg (nIne8 _ (by omega)), e_ofName hm (by omega)]
        show Option.bind (f_S_joinName _ _ _ (cn k (8 * pow p s + pnv p s (1 + k)))) _ = _
        rw [e_joinName hto (by omega), setE_set]
        show (if bI (jg (cn k) (8 * pnv p s 0 + k) (cn k (8 * pow p s + pnv p s (1 + k)))) = 0 then f_S_flowCall_L6 F (nI s) (nI (pow p s)) (nI (pnv p s 0)) fu (bI (cg k)) (nI (k + 1)) (setE σ (jn (cn k) (8 * pnv p s 0 + k) (cn k (8 * pow p s + pnv p s (1 + k))), (xE σ).2)) else f_S_flowCall_L6 F (nI s) (nI (pow p s)) (nI (pnv p s 0)) fu 1 (nI (k + 1)) (setE σ (jn (cn k) (8 * pnv p s 0 + k) (cn k (8 * pow p s + pnv p s (1 + k))), (xE σ).2))) = _
        cases jg (cn k) (8 * pnv p s 0 + k) (cn k (8 * pow p s + pnv p s (1 + k)))
        · rw [Bool.or_false]; rfl
        · rw [Bool.or_true]; rfl) F (by omega)
  have e0 : f_S_flowCall_L6 F (nI s) (nI (pow p s)) (nI (pnv p s 0)) F (nI 0) (nI 0) σ = some (bI (cNg (σ 11) (pow p s) (pnv p s 0) (fun i => pnv p s (1 + i)) 3), nI 3, setE σ (cN (σ 11) (pow p s) (pnv p s 0) (fun i => pnv p s (1 + i)) 3, (xE σ).2)) := by
    rw [← hl]
    show _ = f_S_flowCall_L6 F (nI s) (nI (pow p s)) (nI (pnv p s 0)) F (nI 0) (nI 0) (setE σ (xE σ))
    rw [setE_id]
  unfold f_S_flowCall
  rw [show (0 : Int32) = nI 0 from rfl, e0]
  show Option.bind (f_P_need (setE σ (cN (σ 11) (pow p s) (pnv p s 0) (fun i => pnv p s (1 + i)) 3, (xE σ).2)) (nI s) (nI (1 + 3))) _ = _
  rw [hn _ 3 (AE_set h) (by omega)]
  unfold flG flX
  rw [hk]
  generalize hg : cNg (σ 11) (pow p s) (pnv p s 0) (fun i => pnv p s (1 + i)) 3 = cg
  generalize hc : cN (σ 11) (pow p s) (pnv p s 0) (fun i => pnv p s (1 + i)) 3 = cn
  have hg' : cNg (xE σ).1 (pow p s) (pnv p s 0) (fun i => pnv p s (1 + i)) 3 = cg := hg
  have hc' : cN (xE σ).1 (pow p s) (pnv p s 0) (fun i => pnv p s (1 + i)) 3 = cn := hc
  rw [hg', hc']
  by_cases c : pnv p s 4 = 8
  · rw [if_pos c]
    simp only [c]
    exact bIchk _ _
  · rw [if_neg c]
    have h8 : pnv p s 4 < 9 := ha 3 (by omega)
    show (if nI (pnv p s 4) = -1 then _ else _) = _
    rw [if_neg (nIne8 _ (by omega))]
    show Option.bind (f_E_at 8 (σ 14) (nI (pnv p s 0))) _ = _
    rw [v_at hto (by omega)]
    show Option.bind (f_S_joinName _ (nI (pow p s)) (nI (pnv p s 4)) (σ 14 (pnv p s 0))) _ = _
    rw [e_joinName hm (by omega), setE_set]
    show (if bI (jg cn (8 * pow p s + pnv p s 4) (σ 14 (pnv p s 0))) = 0 then (if bI cg = 0 ∨ bI cg = 1 then some (bI cg, setE σ (jn cn (8 * pow p s + pnv p s 4) (σ 14 (pnv p s 0)), (xE σ).2)) else none) else some ((1 : Int32), setE σ (jn cn (8 * pow p s + pnv p s 4) (σ 14 (pnv p s 0)), (xE σ).2))) = _
    rw [bIchk]
    simp only [c]
    show _ = some (bI (cg || jg cn (8 * pow p s + pnv p s 4) (σ 14 (pnv p s 0))), setE σ (jn cn (8 * pow p s + pnv p s 4) (σ 14 (pnv p s 0)), (xE σ).2))
    cases jg cn (8 * pow p s + pnv p s 4) (σ 14 (pnv p s 0))
    · rw [Bool.or_false]; rfl
    · rw [Bool.or_true]; rfl
theorem e_flow (h : AE σ p) (hw : WF p) {s : Nat} (hs : s < pS p) (hF : 16 < F) : f_S_flow F σ (nI s) = some (bI (flG p (xE σ) s), setE σ (flX p (xE σ) s)) := by
  obtain ⟨h64, hm, hst⟩ := WF_step hw hs
  have hst' := hst
  obtain ⟨h1, h2, h3, h4⟩ := hst
  unfold f_S_flow
  have n0 := e_need h hw hs (i := 0) (by omega)
  have n1 := e_need h hw hs (i := 1) (by omega)
  have n2 := e_need h hw hs (i := 2) (by omega)
  rw [e_owner h hw hs]
  show Option.bind (f_P_need σ (nI s) (nI 0)) _ = _
  rw [n0]
  show Option.bind (f_P_need σ (nI s) (nI 1)) _ = _
  rw [n1]
  show Option.bind (f_P_need σ (nI s) (nI 2)) _ = _
  rw [n2]
  show Option.bind (f_P_kind σ (nI s)) _ = _
  rw [e_kind h hw hs]
  have hk : pkd p s = 0 ∨ pkd p s = 1 ∨ pkd p s = 2 ∨ pkd p s = 3 ∨ pkd p s = 4 ∨ pkd p s = 5 ∨ pkd p s = 6 ∨ pkd p s = 7 ∨ pkd p s = 8 ∨ pkd p s = 9 ∨ pkd p s = 10 := by omega
  rcases hk with k | k | k | k | k | k | k | k | k | k | k
  · unfold flG flX
    rw [k] at h4 ⊢
    have a0 : pnv p s 0 < 8 := h4 0 (by decide)
    show Option.bind (f_P_siteOf σ (nI s)) _ = _
    rw [e_siteOf h hw hs, if_pos k]
    show Option.bind (f_S_joinName σ (nI (pow p s)) (nI (pnv p s 0)) (sh (psi p s))) _ = _
    rw [e_joinName hm a0]
    exact bIchk _ _
  · unfold flG flX
    rw [k] at h4 ⊢
    have a0 : pnv p s 0 < 8 := h4 0 (by decide)
    have a1 : pnv p s 1 < 8 := h4 1 (by decide)
    show Option.bind (f_S_ofName σ (nI (pow p s)) (nI (pnv p s 1))) _ = _
    rw [e_ofName hm a1]
    show Option.bind (f_S_joinName σ (nI (pow p s)) (nI (pnv p s 0)) _) _ = _
    rw [e_joinName hm a0]
    exact bIchk _ _
  · unfold flG flX
    rw [k] at h4 ⊢
    have a0 : pnv p s 0 < 8 := h4 0 (by decide)
    have a1 : pnv p s 1 < 8 := h4 1 (by decide)
    have a2 : pnv p s 2 < 4 := h4 2 (by decide)
    show Option.bind (f_S_ofName σ (nI (pow p s)) (nI (pnv p s 1))) _ = _
    rw [e_ofName hm a1]
    show Option.bind (f_S_ofFieldOfAll F σ (σ 11 (8 * pow p s + pnv p s 1)) (nI (pnv p s 2))) _ = _
    rw [e_ofFieldOfAll a2 hF]
    show Option.bind (f_S_joinName σ (nI (pow p s)) (nI (pnv p s 0)) _) _ = _
    rw [e_joinName hm a0]
    exact bIchk _ _
  · unfold flG flX
    rw [k] at h4 ⊢
    have a0 : pnv p s 0 < 8 := h4 0 (by decide)
    have a1 : pnv p s 1 < 4 := h4 1 (by decide)
    have a2 : pnv p s 2 < 8 := h4 2 (by decide)
    show Option.bind (f_S_ofName σ (nI (pow p s)) (nI (pnv p s 0))) _ = _
    rw [e_ofName hm a0]
    show Option.bind (f_S_ofName σ (nI (pow p s)) (nI (pnv p s 2))) _ = _
    rw [e_ofName hm a2]
    show Option.bind (f_S_joinFields F σ (σ 11 (8 * pow p s + pnv p s 0)) (nI (pnv p s 1)) (σ 11 (8 * pow p s + pnv p s 2))) _ = _
    rw [e_joinFields a1 hF]
    exact bIchk _ _
  · unfold flG flX
    rw [k] at h4 ⊢
    have a0 : pnv p s 0 < 8 := h4 0 (by decide)
    have a1 : pnv p s 1 < 4 := h4 1 (by decide)
    show Option.bind (f_E_at 4 (σ 13) (nI (pnv p s 1))) _ = _
    rw [v_at a1 (by omega)]
    show Option.bind (f_S_joinName σ (nI (pow p s)) (nI (pnv p s 0)) _) _ = _
    rw [e_joinName hm a0]
    exact bIchk _ _
  · unfold flG flX
    rw [k] at h4 ⊢
    have a0 : pnv p s 0 < 4 := h4 0 (by decide)
    have a1 : pnv p s 1 < 8 := h4 1 (by decide)
    show Option.bind (f_S_ofName σ (nI (pow p s)) (nI (pnv p s 1))) _ = _
    rw [e_ofName hm a1]
    show Option.bind (f_E_join 4 (σ 13) (nI (pnv p s 0)) _) _ = _
    rw [v_join a0 (by omega)]
    show (if bI (jg (σ 13) (pnv p s 0) (σ 11 (8 * pow p s + pnv p s 1))) = 0 ∨ bI (jg (σ 13) (pnv p s 0) (σ 11 (8 * pow p s + pnv p s 1))) = 1 then some (bI (jg (σ 13) (pnv p s 0) (σ 11 (8 * pow p s + pnv p s 1))), sr σ 13 (jn (σ 13) (pnv p s 0) (σ 11 (8 * pow p s + pnv p s 1)))) else none) = _
    rw [setE_3, bIchk]
    rfl
  · have hto : pnv p s 0 < 8 := by have := h4 0 (by rw [k]; decide); rw [k] at this; simp [limN] at this; have := hw.2.1; omega
    have e := e_flowCall h hw hs k hF
    rw [k]
    show Option.bind (f_S_flowCall F σ (nI s) (nI (pow p s)) (nI (pnv p s 0))) _ = _
    rw [e]
    exact bIchk _ _
  · unfold flG flX
    rw [k] at h4 ⊢
    have a0 : pnv p s 0 < 8 := h4 0 (by decide)
    show Option.bind (f_S_ofName σ (nI (pow p s)) (nI (pnv p s 0))) _ = _
    rw [e_ofName hm a0]
    show Option.bind (f_E_join 8 (σ 14) (nI (pow p s)) _) _ = _
    rw [v_join hm (by omega)]
    show (if bI (jg (σ 14) (pow p s) (σ 11 (8 * pow p s + pnv p s 0))) = 0 ∨ bI (jg (σ 14) (pow p s) (σ 11 (8 * pow p s + pnv p s 0))) = 1 then some (bI (jg (σ 14) (pow p s) (σ 11 (8 * pow p s + pnv p s 0))), sr σ 14 (jn (σ 14) (pow p s) (σ 11 (8 * pow p s + pnv p s 0)))) else none) = _
    rw [setE_4, bIchk]
    rfl
  · unfold flG flX
    rw [k]
    show some ((0 : Int32), σ) = some (bI false, setE σ (xE σ))
    rw [setE_id]
    rfl
  · unfold flG flX
    rw [k]
    show some ((0 : Int32), σ) = some (bI false, setE σ (xE σ))
    rw [setE_id]
    rfl
  · unfold flG flX
    rw [k]
    show some ((0 : Int32), σ) = some (bI false, setE σ (xE σ))
    rw [setE_id]
    rfl
/-- the STEPS below n, those of live METHODS -/
def swX (p : PG) (lv : Int32) (X : XX) : Nat → XX
  | 0 => X
  | n + 1 => if bt lv (pow p n) = true then flX p (swX p lv X n) n else swX p lv X n
def swG (p : PG) (lv : Int32) (X : XX) : Nat → Bool
  | 0 => false
  | n + 1 => if bt lv (pow p n) = true then (swG p lv X n || flG p (swX p lv X n) n) else swG p lv X n
theorem swX_s (p : PG) (lv : Int32) (X : XX) (n : Nat) : swX p lv X (n + 1) = if bt lv (pow p n) = true then flX p (swX p lv X n) n else swX p lv X n := rfl
theorem swG_s (p : PG) (lv : Int32) (X : XX) (n : Nat) : swG p lv X (n + 1) = if bt lv (pow p n) = true then (swG p lv X n || flG p (swX p lv X n) n) else swG p lv X n := rfl
theorem e_sweep (h : AE σ p) (hw : WF p) (hF : 64 < F) : f_S_sweep F σ = some (bI (swG p (σ 2 7) (xE σ) (pS p)), setE σ (swX p (σ 2 7) (xE σ) (pS p))) := by
  have h64 := hw.2.2.1
  have hl := loop3 (pS p) (f_S_sweep_L4 F) (fun k => bI (swG p (σ 2 7) (xE σ) k)) (fun k => nI k) (fun k => setE σ (swX p (σ 2 7) (xE σ) k)) (bI (swG p (σ 2 7) (xE σ) (pS p)), nI (pS p), setE σ (swX p (σ 2 7) (xE σ) (pS p))) (fun fu => by
      show f_S_sweep_B4 F _ _ (nI (pS p)) (setE σ _) = _
      unfold f_S_sweep_B4
      rw [setE_o (by omega), h.2.1, if_pos (nI_le (Nat.le_refl _) (by omega))]) (fun k fu hk => by
      show f_S_sweep_B4 F _ (bI (swG p (σ 2 7) (xE σ) k)) (nI k) (setE σ (swX p (σ 2 7) (xE σ) k)) = f_S_sweep_L4 F fu (bI (swG p (σ 2 7) (xE σ) (k + 1))) (nI (k + 1)) (setE σ (swX p (σ 2 7) (xE σ) (k + 1)))
      unfold f_S_sweep_B4
      rw [setE_o (k := 1) (by omega), setE_o (k := 2) (by omega), h.2.1, if_neg (nI_ge hk (by omega)), e_isIn (AE_set h) hw hk, swX_s, swG_s]
      show (if bI (bt (σ 2 7) (pow p k)) = 0 then _ else _) = _
      rw [bIif, nI_1]
      by_cases c : bt (σ 2 7) (pow p k) = true
      · rw [if_pos c, if_pos c, if_pos c, e_flow (AE_set h) hw hk (by omega), xE_set, setE_set]
        show (if bI (flG p (swX p (σ 2 7) (xE σ) k) k) = 0 then f_S_sweep_L4 F fu (bI (swG p (σ 2 7) (xE σ) k)) (nI (k + 1)) (setE σ (flX p (swX p (σ 2 7) (xE σ) k) k)) else f_S_sweep_L4 F fu 1 (nI (k + 1)) (setE σ (flX p (swX p (σ 2 7) (xE σ) k) k))) = _
        cases flG p (swX p (σ 2 7) (xE σ) k) k
        · rw [Bool.or_false]; rfl
        · rw [Bool.or_true]; rfl
      · rw [if_neg c, if_neg c, if_neg c]) F (by omega)
  have e0 : f_S_sweep_L4 F F (nI 0) (nI 0) σ = some (bI (swG p (σ 2 7) (xE σ) (pS p)), nI (pS p), setE σ (swX p (σ 2 7) (xE σ) (pS p))) := by
    rw [← hl]
    show _ = f_S_sweep_L4 F F (nI 0) (nI 0) (setE σ (xE σ))
    rw [setE_id]
  unfold f_S_sweep
  rw [show (0 : Int32) = nI 0 from rfl, e0]
  exact bIchk _ _
end FE
