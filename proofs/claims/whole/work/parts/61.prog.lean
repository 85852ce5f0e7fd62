/-! The program as a value; class and reference hold it in their arrays. -/
abbrev PG : Type := (Nat × Nat × Nat) × (Nat → Nat) × (Nat → Nat) × (Nat → Nat) × (Nat → Nat) × (Nat → Nat → Nat)
def pM (p : PG) : Nat := p.1.1
def pS (p : PG) : Nat := p.1.2.1
def pT (p : PG) : Nat := p.1.2.2
def pow (p : PG) : Nat → Nat := p.2.1
def pkd (p : PG) : Nat → Nat := p.2.2.1
def psi (p : PG) : Nat → Nat := p.2.2.2.1
def pmk (p : PG) : Nat → Nat := p.2.2.2.2.1
def pnv (p : PG) : Nat → Nat → Nat := p.2.2.2.2.2
def nds (k : Nat) : Nat := [1, 2, 3, 3, 2, 2, 5, 1, 1, 1, 1].getD k 0
def limN (M k i : Nat) : Nat := if k = 6 then (if i = 0 then M else 9) else [8, 0, 0, 8, 8, 0, 8, 8, 4, 8, 4, 8, 8, 4, 0, 4, 8, 0, 0, 0, 0, 8, 0, 0, 8, 0, 0, 8, 0, 0, 8, 0, 0].getD (3 * k + i) 0
/-- a need as the arrays hold it: 8 stands for NONE in a CALL -/
def ndI (k i v : Nat) : Int32 := if k = 6 ∧ 0 < i ∧ v = 8 then -1 else nI v
def stepOK (p : PG) (s : Nat) : Prop := pow p s < pM p ∧ pkd p s ≤ 10 ∧ (pkd p s = 0 → psi p s < pT p ∧ pmk p (psi p s) = s) ∧ (∀ i, i < nds (pkd p s) → pnv p s i < limN (pM p) (pkd p s) i)
def WF (p : PG) : Prop := 1 ≤ pM p ∧ pM p ≤ 8 ∧ pS p ≤ 64 ∧ pT p ≤ 16 ∧ (∀ s, s < pS p → stepOK p s) ∧ (∀ t, t < pT p → pmk p t < pS p ∧ pkd p (pmk p t) = 0 ∧ psi p (pmk p t) = t) ∧ (∀ t u, t < u → u < pT p → pmk p t < pmk p u)
def AE (σ : St) (p : PG) : Prop := σ 1 0 = nI (pM p) ∧ σ 1 1 = nI (pS p) ∧ σ 1 2 = nI (pT p) ∧ (∀ s, s < pS p → σ 5 s = nI (pow p s) ∧ σ 6 s = nI (pkd p s) ∧ σ 7 s = (if pkd p s = 0 then nI (psi p s) else -1) ∧ ∀ i, i < 5 → σ 8 (5 * s + i) = if i < nds (pkd p s) then ndI (pkd p s) i (pnv p s i) else -1) ∧ (∀ t, t < pT p → σ 9 t = nI (pmk p t))
def AM (τ : St) (p : PG) : Prop := τ 0 0 = nI (pM p) ∧ τ 0 1 = nI (pS p) ∧ τ 0 2 = nI (pT p) ∧ (∀ s, s < pS p → τ 1 s = nI (pow p s) ∧ τ 2 s = nI (pkd p s) ∧ τ 3 s = (if pkd p s = 0 then nI (psi p s) else -1) ∧ ∀ i, i < nds (pkd p s) → τ 4 (5 * s + i) = ndI (pkd p s) i (pnv p s i)) ∧ (∀ t, t < pT p → τ 5 t = nI (pmk p t))
theorem AE.same {σ σ' : St} {p : PG} (h : AE σ p) (h1 : σ' 1 = σ 1) (h5 : σ' 5 = σ 5) (h6 : σ' 6 = σ 6) (h7 : σ' 7 = σ 7) (h8 : σ' 8 = σ 8) (h9 : σ' 9 = σ 9) : AE σ' p := by
  unfold AE
  rw [h1, h5, h6, h7, h8, h9]
  exact h
theorem AM.same {τ τ' : St} {p : PG} (h : AM τ p) (h0 : τ' 0 0 = τ 0 0 ∧ τ' 0 1 = τ 0 1 ∧ τ' 0 2 = τ 0 2) (h1 : τ' 1 = τ 1) (h2 : τ' 2 = τ 2) (h3 : τ' 3 = τ 3) (h4 : τ' 4 = τ 4) (h5 : τ' 5 = τ 5) : AM τ' p := by
  unfold AM
  rw [h0.1, h0.2.1, h0.2.2, h1, h2, h3, h4, h5]
  exact h
-- states
theorem sr_s (σ : St) (k : Nat) (f : Nat → Int32) : sr σ k f k = f := by
  unfold sr
  simp
theorem sr_n {σ : St} {k j : Nat} {f : Nat → Int32} (h : j ≠ k) : sr σ k f j = σ j := by
  unfold sr
  have : Nat.beq j k = false := by
    cases e : Nat.beq j k
    · rfl
    · exact absurd (Nat.eq_of_beq_eq_true e) h
  rw [this]
  rfl
theorem su_s (σ : St) (k j : Nat) (v : Int32) : su σ k j v k j = v := by
  unfold su
  rw [sr_s, pk_us]
theorem su_j {σ : St} {k j i : Nat} {v : Int32} (h : i ≠ j) : su σ k j v k i = σ k i := by
  unfold su
  rw [sr_s, pk_un h]
theorem su_n {σ : St} {k j a : Nat} {v : Int32} (h : a ≠ k) : su σ k j v a = σ a := by
  unfold su
  rw [sr_n h]
theorem nI_p2 (a : Nat) : nI a + 2 = nI (a + 2) := nI_add a 2
theorem nI_p3 (a : Nat) : nI a + 3 = nI (a + 3) := nI_add a 3
theorem nI_p4 (a : Nat) : nI a + 4 = nI (a + 4) := nI_add a 4
theorem n1_p (a : Nat) : 1 + nI a = nI (1 + a) := nI_add 1 a
theorem bIchk {β : Type} (b : Bool) (x : Option β) : (if bI b = 0 ∨ bI b = 1 then x else none) = x := if_pos (bI_01 b)
theorem bIif {β : Type} (b : Bool) (x y : β) : (if bI b = 0 then x else y) = if b = true then y else x := by cases b <;> simp [bI]
theorem lt_3 {k : Nat} (h : k < 3) : ¬ (3 : Int32) ≤ nI k := nI_ge (b := 3) h (by omega)
theorem le_3 : (3 : Int32) ≤ nI 3 := nI_le (a := 3) (b := 3) (Nat.le_refl _) (by omega)
theorem lt_4 {k : Nat} (h : k < 4) : ¬ (4 : Int32) ≤ nI k := nI_ge (b := 4) h (by omega)
theorem le_4 : (4 : Int32) ≤ nI 4 := nI_le (a := 4) (b := 4) (Nat.le_refl _) (by omega)
theorem lt_5 {k : Nat} (h : k < 5) : ¬ (5 : Int32) ≤ nI k := nI_ge (b := 5) h (by omega)
theorem le_5 : (5 : Int32) ≤ nI 5 := nI_le (a := 5) (b := 5) (Nat.le_refl _) (by omega)
theorem lt_8 {k : Nat} (h : k < 8) : ¬ (8 : Int32) ≤ nI k := nI_ge (b := 8) h (by omega)
theorem le_8 : (8 : Int32) ≤ nI 8 := nI_le (a := 8) (b := 8) (Nat.le_refl _) (by omega)
theorem lt_16 {k : Nat} (h : k < 16) : ¬ (16 : Int32) ≤ nI k := nI_ge (b := 16) h (by omega)
theorem le_16 : (16 : Int32) ≤ nI 16 := nI_le (a := 16) (b := 16) (Nat.le_refl _) (by omega)
theorem lt_64 {k : Nat} (h : k < 64) : ¬ (64 : Int32) ≤ nI k := nI_ge (b := 64) h (by omega)
theorem le_64 : (64 : Int32) ≤ nI 64 := nI_le (a := 64) (b := 64) (Nat.le_refl _) (by omega)
theorem lt_2241 {k : Nat} (h : k < 2241) : ¬ (2241 : Int32) ≤ nI k := nI_ge (b := 2241) h (by omega)
theorem le_2241 : (2241 : Int32) ≤ nI 2241 := nI_le (a := 2241) (b := 2241) (Nat.le_refl _) (by omega)
section PE
variable {σ : St} {p : PG}
theorem e_owner (h : AE σ p) {s : Nat} (hw : WF p) (hs : s < pS p) : f_P_owner σ (nI s) = some (nI (pow p s)) := by
  unfold f_P_owner
  have := hw.2.2.1
  rw [v_at (by omega) (by omega), (h.2.2.2.1 s hs).1]
  rfl
theorem e_kind (h : AE σ p) {s : Nat} (hw : WF p) (hs : s < pS p) : f_P_kind σ (nI s) = some (nI (pkd p s)) := by
  unfold f_P_kind
  have := hw.2.2.1
  rw [v_at (by omega) (by omega), (h.2.2.2.1 s hs).2.1]
  rfl
theorem e_siteOf (h : AE σ p) {s : Nat} (hw : WF p) (hs : s < pS p) : f_P_siteOf σ (nI s) = some (if pkd p s = 0 then nI (psi p s) else -1) := by
  unfold f_P_siteOf
  have := hw.2.2.1
  rw [v_at (by omega) (by omega), (h.2.2.2.1 s hs).2.2.1]
  rfl
theorem e_need (h : AE σ p) {s i : Nat} (hw : WF p) (hs : s < pS p) (hi : i < 5) : f_P_need σ (nI s) (nI i) = some (if i < nds (pkd p s) then ndI (pkd p s) i (pnv p s i) else -1) := by
  unfold f_P_need
  have := hw.2.2.1
  rw [nI_5, nI_add, v_at (by omega) (by omega), (h.2.2.2.1 s hs).2.2.2 i hi]
  rfl
theorem e_maker (h : AE σ p) {t : Nat} (hw : WF p) (ht : t < pT p) : f_P_maker σ (nI t) = some (nI (pmk p t)) := by
  unfold f_P_maker
  have := hw.2.2.2.1
  rw [v_at (by omega) (by omega), h.2.2.2.2 t ht]
  rfl
theorem e_methodOfSite (h : AE σ p) {t : Nat} (hw : WF p) (ht : t < pT p) : f_P_methodOfSite σ (nI t) = some (nI (pow p (pmk p t))) := by
  unfold f_P_methodOfSite
  rw [e_maker h hw ht]
  show Option.bind (f_P_owner σ (nI (pmk p t))) _ = _
  rw [e_owner h hw (hw.2.2.2.2.2.1 t ht).1]
  rfl
theorem e_isIn (h : AE σ p) {s : Nat} {x : Int32} (hw : WF p) (hs : s < pS p) : f_P_isIn σ x (nI s) = some (bI (bt x (pow p s))) := by
  unfold f_P_isIn
  have h1 := (hw.2.2.2.2.1 s hs).1
  have h2 := hw.2.1
  rw [e_owner h hw hs]
  show Option.bind (f_E_has x (nI (pow p s))) _ = _
  rw [v_has (by omega)]
  exact bIchk _ _
end PE
