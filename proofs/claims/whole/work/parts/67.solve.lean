/-! solve, of the class. -/
def liveP (p : PG) : Int32 := wcO (cal p) 1 8
def calE (p : PG) (lv : Int32) : Nat → Int32 := fun m => if m < 8 ∧ bt lv m = false then 0 else cal p m
theorem low_1 : lowb 8 1 := fun i h => by
  rcases Nat.lt_or_ge i 32 with g | g
  · rw [b_1 i g, decide_eq_true_eq] at h; omega
  · rw [b_big g] at h; cases h
theorem cal_low8 {p : PG} (hw : WF p) (m : Nat) : lowb 8 (cal p m) := fun i h => by have := cal_low hw m i h; have := hw.2.1; omega
theorem liveP_lst {p : PG} (hw : WF p) : Lst (cal p) 1 (liveP p) := wcO_lst low_1 (cal_low8 hw)
theorem liveP_low {p : PG} (hw : WF p) : lowb (pM p) (liveP p) := by
  have h1 : lowb (pM p) 1 := fun i h => by
    rcases Nat.lt_or_ge i 32 with g | g
    · rw [b_1 i g, decide_eq_true_eq] at h; have := hw.1; omega
    · rw [b_big g] at h; cases h
  have : ∀ n, lowb (pM p) (wcO (cal p) 1 n) := by
    intro n
    induction n with
    | zero => exact h1
    | succ n ih => rw [wcO_s]; exact wcI_low ih (cal_low hw) 8
  exact this 8
theorem liveP_0 {p : PG} (hw : WF p) : bt (liveP p) 0 = true := (liveP_lst hw).1 0 (by decide)
theorem lvc_live {p : PG} (hw : WF p) : lvc p (liveP p) := by
  intro s hs hl hk
  have h8 : pow p s < 8 := (WF_step hw hs).2.1
  exact (liveP_lst hw).2.1 (pow p s) h8 hl _ ((cal_iff hw).mpr ⟨s, hs, hk, rfl, rfl⟩)
section SE
variable {σ : St} {p : PG} {F : Nat}
theorem AE_sr {k : Nat} {f : Nat → Int32} (h : AE σ p) (hk : k ≠ 1 ∧ k ≠ 5 ∧ k ≠ 6 ∧ k ≠ 7 ∧ k ≠ 8 ∧ k ≠ 9) : AE (sr σ k f) p := h.same (sr_n (by omega)) (sr_n (by omega)) (sr_n (by omega)) (sr_n (by omega)) (sr_n (by omega)) (sr_n (by omega))
theorem AE_su {k j : Nat} {v : Int32} (h : AE σ p) (hk : k ≠ 1 ∧ k ≠ 5 ∧ k ≠ 6 ∧ k ≠ 7 ∧ k ≠ 8 ∧ k ≠ 9) : AE (su σ k j v) p := AE_sr h hk
theorem e_findLive (h : AE σ p) (hw : WF p) (h10 : σ 10 = fun _ => 0) (hF : 64 < F) : ∃ σ', f_S_findLive F σ = some σ' ∧ σ' 10 = calE p (liveP p) ∧ σ' 2 7 = liveP p ∧ (∀ j, j ≠ 7 → σ' 2 j = σ 2 j) ∧ (∀ k, k ≠ 2 → k ≠ 10 → σ' k = σ k) := by
  have hS := hw.2.2.1
  have l2 := loop2 (pS p) (f_S_findLive_L2 F) (fun k => nI k) (fun k => sr σ 10 (fun m => calN p m k)) (nI (pS p), sr σ 10 (fun m => calN p m (pS p))) (fun fu => by
      show f_S_findLive_B2 F _ (nI (pS p)) (sr σ 10 _) = _
      unfold f_S_findLive_B2
      rw [sr_n (by omega), h.2.1, if_pos (nI_le (Nat.le_refl _) (by omega))]) (fun k fu hk => by
      show f_S_findLive_B2 F _ (nI k) (sr σ 10 (fun m => calN p m k)) = f_S_findLive_L2 F fu (nI (k + 1)) (sr σ 10 (fun m => calN p m (k + 1)))
      have hA : AE (sr σ 10 (fun m => calN p m k)) p := AE_sr h (by omega)
      obtain ⟨h64, hm, hst⟩ := WF_step hw hk
      unfold f_S_findLive_B2
      rw [sr_n (by omega), h.2.1, if_neg (nI_ge hk (by omega)), e_kind hA hw hk, nI_1]
      show (if nI (pkd p k) = 6 then _ else _) = _
      have e6 : (nI (pkd p k) = 6) ↔ pkd p k = 6 := nI_eq (b := 6) (by have := hst.2.1; omega) (by omega)
      by_cases c : pkd p k = 6
      · rw [if_pos (e6.mpr c), e_owner hA hw hk]
        show Option.bind (f_P_need (sr σ 10 (fun m => calN p m k)) (nI k) (nI 0)) _ = _
        rw [e_need hA hw hk (by omega), c, if_pos (by decide), ndI_z]
        show Option.bind (f_E_join 8 (sr σ 10 (fun m => calN p m k) 10) (nI (pow p k)) (sh (pnv p k 0))) _ = _
        rw [sr_s, v_join hm (by omega)]
        show f_S_findLive_L2 F fu (nI (k + 1)) (sr (sr σ 10 (fun m => calN p m k)) 10 (jn (fun m => calN p m k) (pow p k) (sh (pnv p k 0)))) = _
        rw [sr_sr]
        congr 2
        funext m
        rw [calN_s]
        unfold jn upd
        by_cases g : m = pow p k
        · rw [if_pos g, if_pos ⟨c, g.symm⟩, g]
        · rw [if_neg g, if_neg (fun z => g z.2.symm)]
      · rw [if_neg (fun z => c (e6.mp z))]
        congr 2
        funext m
        rw [calN_s, if_neg (fun z => c z.1)]) F (by omega)
  have e2 : f_S_findLive_L2 F F (nI 0) σ = some (nI (pS p), sr σ 10 (fun m => calN p m (pS p))) := by
    rw [← l2]
    show _ = f_S_findLive_L2 F F (nI 0) (sr σ 10 (fun m => 0))
    rw [← h10, sr_id]
  have hc : (fun m => calN p m (pS p)) = cal p := rfl
  rw [hc] at e2
  generalize hs1 : sr σ 10 (cal p) = s1 at e2
  have hs10 : s1 10 = cal p := by rw [← hs1, sr_s]
  have hs1n : ∀ k, k ≠ 10 → s1 k = σ k := fun k hk => by rw [← hs1, sr_n hk]
  generalize hs2 : su s1 2 7 (liveP p) = s2
  have hs27 : s2 2 7 = liveP p := by rw [← hs2, su_s]
  have hs2j : ∀ j, j ≠ 7 → s2 2 j = σ 2 j := fun j hj => by rw [← hs2, su_j hj, hs1n 2 (by omega)]
  have hs2n : ∀ k, k ≠ 2 → k ≠ 10 → s2 k = σ k := fun k hk hk2 => by rw [← hs2, su_n hk, hs1n k hk2]
  have hs210 : s2 10 = cal p := by rw [← hs2, su_n (by omega), hs10]
  have l70 := loop2 8 (f_S_findLive_L70 F) (fun k => nI k) (fun k => sr s2 10 (fun m => if m < k ∧ bt (liveP p) m = false then 0 else cal p m)) (nI 8, sr s2 10 (calE p (liveP p))) (fun fu => by
      show f_S_findLive_B70 F _ (nI 8) _ = _
      unfold f_S_findLive_B70
      rw [if_pos le_8]
      rfl) (fun k fu hk => by
      show f_S_findLive_B70 F _ (nI k) (sr s2 10 (fun m => if m < k ∧ bt (liveP p) m = false then 0 else cal p m)) = f_S_findLive_L70 F fu (nI (k + 1)) (sr s2 10 (fun m => if m < k + 1 ∧ bt (liveP p) m = false then 0 else cal p m))
      unfold f_S_findLive_B70
      rw [if_neg (lt_8 hk), sr_n (by omega), hs27, v_has (by omega), nI_1]
      show (if bI (bt (liveP p) k) = 0 then _ else _) = _
      rw [bIif, sr_s, v_put hk (by omega)]
      by_cases c : bt (liveP p) k = true
      · rw [if_pos c]
        congr 2
        funext m
        by_cases g : m = k
        · subst g
          rw [if_neg (fun z => by rw [c] at z; cases z.2), if_neg (fun z => by rw [c] at z; cases z.2)]
        · by_cases d : m < k ∧ bt (liveP p) m = false
          · rw [if_pos d, if_pos ⟨by omega, d.2⟩]
          · rw [if_neg d, if_neg (fun z => d ⟨by omega, z.2⟩)]
      · rw [if_neg c]
        show f_S_findLive_L70 F fu (nI (k + 1)) (sr (sr s2 10 _) 10 (upd _ k 0)) = _
        rw [sr_sr]
        congr 2
        funext m
        unfold upd
        have cf : bt (liveP p) k = false := by cases g : bt (liveP p) k; rfl; exact absurd g c
        by_cases g : m = k
        · subst g
          rw [if_pos rfl, if_pos ⟨by omega, cf⟩]
        · rw [if_neg g]
          show (if m < k ∧ bt (liveP p) m = false then 0 else cal p m) = _
          by_cases d : m < k ∧ bt (liveP p) m = false
          · rw [if_pos d, if_pos ⟨by omega, d.2⟩]
          · rw [if_neg d, if_neg (fun z => d ⟨by omega, z.2⟩)]) F (by omega)
  have e70 : f_S_findLive_L70 F F (nI 0) s2 = some (nI 8, sr s2 10 (calE p (liveP p))) := by
    rw [← l70]
    show _ = f_S_findLive_L70 F F (nI 0) (sr s2 10 (fun m => if m < 0 ∧ bt (liveP p) m = false then 0 else cal p m))
    have : (fun m => if m < 0 ∧ bt (liveP p) m = false then 0 else cal p m) = s2 10 := by
      rw [hs210]
      funext m
      rw [if_neg (fun z => absurd z.1 (Nat.not_lt_zero m))]
    rw [this, sr_id]
  refine ⟨sr s2 10 (calE p (liveP p)), ?_, sr_s _ _ _, by rw [sr_n (by omega)]; exact hs27, fun j hj => by rw [sr_n (by omega)]; exact hs2j j hj, fun k h1 h2 => by rw [sr_n h2]; exact hs2n k h1 h2⟩
  unfold f_S_findLive
  rw [show (0 : Int32) = nI 0 from rfl, e2]
  show Option.bind (f_S_withCallees F s1 1) _ = _
  rw [e_withCallees (by omega), hs10]
  show Option.bind (f_S_findLive_L70 F F (nI 0) (su s1 2 7 (liveP p))) _ = _
  rw [hs2, e70]
  rfl
end SE
-- LEVELS
def isLev (it : Nat → Int32) (s k : Nat) : Prop := bt (it k) s = true ∧ ∀ j, j < k → bt (it j) s = false
def LV (it : Nat → Int32) (s : Nat) (v : Int32) : Prop := (∃ k, k < 32 ∧ isLev it s k ∧ v = nI k) ∨ ((∀ k, bt (it k) s = false) ∧ v = -1)
def GL (it : Nat → Int32) (v : Int32) : Prop := (∃ k, k < 32 ∧ (∃ s, s < 16 ∧ isLev it s k) ∧ (∀ s j, isLev it s j → j ≤ k) ∧ v = nI k) ∨ ((∀ s k, bt (it k) s = false) ∧ v = -1)
theorem isLev_u {it : Nat → Int32} {s j k : Nat} (h : isLev it s j) (h' : isLev it s k) : j = k := by
  rcases Nat.lt_trichotomy j k with g | g | g
  · have := h'.2 j g; rw [h.1] at this; cases this
  · exact g
  · have := h.2 k g; rw [h'.1] at this; cases this
theorem LV_u {it : Nat → Int32} {s : Nat} {v w : Int32} (h : LV it s v) (h' : LV it s w) : v = w := by
  rcases h with ⟨k, -, h1, h2⟩ | ⟨h1, h2⟩
  · rcases h' with ⟨j, -, g1, g2⟩ | ⟨g1, g2⟩
    · rw [h2, g2, isLev_u h1 g1]
    · have := g1 k; rw [h1.1] at this; cases this
  · rcases h' with ⟨j, -, g1, g2⟩ | ⟨g1, g2⟩
    · have := h1 j; rw [g1.1] at this; cases this
    · rw [h2, g2]
theorem GL_u {it : Nat → Int32} {v w : Int32} (h : GL it v) (h' : GL it w) : v = w := by
  rcases h with ⟨k, -, ⟨s, -, h1⟩, h2, h3⟩ | ⟨h1, h2⟩
  · rcases h' with ⟨j, -, ⟨t, -, g1⟩, g2, g3⟩ | ⟨g1, g2⟩
    · have := h2 t j g1
      have := g2 s k h1
      rw [h3, g3, show j = k by omega]
    · have := g1 s k; rw [h1.1] at this; cases this
  · rcases h' with ⟨j, -, ⟨t, -, g1⟩, g2, g3⟩ | ⟨g1, g2⟩
    · have := h1 t j; rw [g1.1] at this; cases this
    · rw [h2, g2]
def plc (X : XX) : Int32 := X.2.2.1 0 ||| X.2.2.1 1 ||| X.2.2.1 2 ||| X.2.2.1 3
def opn (p : PG) (X : XX) : Nat → Int32
  | 0 => plc X
  | n + 1 => if pkd p n = 8 ∨ pkd p n = 9 then opn p X n ||| X.1 (8 * pow p n + pnv p n 0) else opn p X n
theorem opn_s (p : PG) (X : XX) (n : Nat) : opn p X (n + 1) = if pkd p n = 8 ∨ pkd p n = 9 then opn p X n ||| X.1 (8 * pow p n + pnv p n 0) else opn p X n := rfl
def setS (σ : St) (L : Nat → Int32) (a b : Int32) : St := fun k => if k = 2 then upd (upd (σ 2) 8 a) 9 b else if k = 15 then L else σ k
theorem setS_o {σ : St} {L : Nat → Int32} {a b : Int32} {k : Nat} (h : k ≠ 2) (h' : k ≠ 15) : setS σ L a b k = σ k := by
  unfold setS; rw [if_neg h, if_neg h']
theorem setS_15 (σ : St) (L L' : Nat → Int32) (a b : Int32) : sr (setS σ L a b) 15 L' = setS σ L' a b := by
  funext k
  by_cases h : k = 15
  · subst h; rw [sr_s]; rfl
  · rw [sr_n h]; unfold setS; rw [if_neg h, if_neg h]
theorem setS_8 (σ : St) (L : Nat → Int32) (a b a' : Int32) : su (setS σ L a b) 2 8 a' = setS σ L a' b := by
  funext k
  by_cases h : k = 2
  · subst h
    unfold su
    rw [sr_s]
    show upd (upd (upd (σ 2) 8 a) 9 b) 8 a' = upd (upd (σ 2) 8 a') 9 b
    funext j
    unfold upd
    by_cases h8 : j = 8
    · subst h8; simp
    · simp [h8]
  · rw [su_n h]; unfold setS; rw [if_neg h, if_neg h]
theorem setS_9 (σ : St) (L : Nat → Int32) (a b b' : Int32) : su (setS σ L a b) 2 9 b' = setS σ L a b' := by
  funext k
  by_cases h : k = 2
  · subst h
    unfold su
    rw [sr_s]
    show upd (upd (upd (σ 2) 8 a) 9 b) 9 b' = upd (upd (σ 2) 8 a) 9 b'
    funext j
    unfold upd
    by_cases h9 : j = 9
    · simp [h9]
    · simp [h9]
  · rw [su_n h]; unfold setS; rw [if_neg h, if_neg h]
theorem setS_28 (σ : St) (L : Nat → Int32) (a b : Int32) : setS σ L a b 2 8 = a := by simp [setS, upd]
theorem setS_29 (σ : St) (L : Nat → Int32) (a b : Int32) : setS σ L a b 2 9 = b := by simp [setS, upd]
theorem setS_2j {σ : St} {L : Nat → Int32} {a b : Int32} {j : Nat} (h : j ≠ 8) (h' : j ≠ 9) : setS σ L a b 2 j = σ 2 j := by simp [setS, upd, h, h']
section SH
variable {σ : St} {p : PG} {F : Nat}
theorem e_ofPlaces (hF : 16 < F) : f_S_ofPlaces F σ = some (plc (xE σ)) := by
  have hl := loop2 4 (f_S_ofPlaces_L4 F σ) (fun k => match k with | 0 => 0 | 1 => σ 13 0 | 2 => σ 13 0 ||| σ 13 1 | 3 => σ 13 0 ||| σ 13 1 ||| σ 13 2 | _ => plc (xE σ)) (fun k => nI k) (plc (xE σ), nI 4) (fun fu => by
      show f_S_ofPlaces_B4 F σ _ _ (nI 4) = _
      unfold f_S_ofPlaces_B4
      rw [if_pos le_4]
      rfl) (fun k fu hk => by
      show f_S_ofPlaces_B4 F σ _ _ (nI k) = f_S_ofPlaces_L4 F σ fu _ (nI (k + 1))
      unfold f_S_ofPlaces_B4
      rw [if_neg (lt_4 hk), v_at hk (by omega), nI_1]
      match k, hk with
      | 0, _ =>
        show f_S_ofPlaces_L4 F σ fu (0 ||| σ 13 0) _ = _
        rw [show (0 : Int32) ||| σ 13 0 = σ 13 0 from b_ext (fun i _ => by rw [b_or, b_0, Bool.false_or])]
        rfl
      | 1, _ => rfl
      | 2, _ => rfl
      | 3, _ => rfl
      | k + 4, hk => exact absurd hk (by omega)) F (by omega)
  unfold f_S_ofPlaces
  rw [show (0 : Int32) = nI 0 from rfl]
  have e : f_S_ofPlaces_L4 F σ F (nI 0) (nI 0) = some (plc (xE σ), nI 4) := hl
  rw [e]
  rfl
theorem e_openToAll (h : AE σ p) (hw : WF p) (hF : 64 < F) : f_S_openToAll F σ = some (opn p (xE σ) (pS p)) := by
  have hS := hw.2.2.1
  have hl := loop2 (pS p) (f_S_openToAll_L7 F σ) (fun k => opn p (xE σ) k) (fun k => nI k) (opn p (xE σ) (pS p), nI (pS p)) (fun fu => by
      show f_S_openToAll_B7 F σ _ _ (nI (pS p)) = _
      unfold f_S_openToAll_B7
      rw [h.2.1, if_pos (nI_le (Nat.le_refl _) (by omega))]) (fun k fu hk => by
      show f_S_openToAll_B7 F σ _ (opn p (xE σ) k) (nI k) = f_S_openToAll_L7 F σ fu (opn p (xE σ) (k + 1)) (nI (k + 1))
      obtain ⟨h64, hm, hst⟩ := WF_step hw hk
      have e8 : (nI (pkd p k) = 8) ↔ pkd p k = 8 := nI_eq (b := 8) (by have := hst.2.1; omega) (by omega)
      have e9 : (nI (pkd p k) = 9) ↔ pkd p k = 9 := nI_eq (b := 9) (by have := hst.2.1; omega) (by omega)
      unfold f_S_openToAll_B7
      rw [h.2.1, if_neg (nI_ge hk (by omega)), e_kind h hw hk, e_owner h hw hk, nI_1, opn_s]
      show (if nI (pkd p k) = 8 then _ else _) = _
      have nd : (pkd p k = 8 ∨ pkd p k = 9) → f_P_need σ (nI k) (nI 0) = some (nI (pnv p k 0)) ∧ pnv p k 0 < 8 := by
        intro c
        rw [e_need h hw hk (by omega)]
        have h4 := hst.2.2.2 0
        rcases c with c | c <;> rw [c] at h4 ⊢ <;> exact ⟨by rw [if_pos (by decide), ndI_z], h4 (by decide)⟩
      by_cases c : pkd p k = 8
      · obtain ⟨n1, n2⟩ := nd (Or.inl c)
        rw [if_pos (e8.mpr c), if_pos (Or.inl c)]
        show Option.bind (f_P_need σ (nI k) (nI 0)) _ = _
        rw [n1]
        show Option.bind (f_S_ofName σ (nI (pow p k)) (nI (pnv p k 0))) _ = _
        rw [e_ofName hm n2]
        rfl
      · rw [if_neg (fun z => c (e8.mp z))]
        by_cases d : pkd p k = 9
        · obtain ⟨n1, n2⟩ := nd (Or.inr d)
          rw [if_pos (e9.mpr d), if_pos (Or.inr d)]
          show Option.bind (f_P_need σ (nI k) (nI 0)) _ = _
          rw [n1]
          show Option.bind (f_S_ofName σ (nI (pow p k)) (nI (pnv p k 0))) _ = _
          rw [e_ofName hm n2]
          rfl
        · rw [if_neg (fun z => d (e9.mp z)), if_neg (fun z => z.elim c d)]) F (by omega)
  unfold f_S_openToAll
  rw [e_ofPlaces (by omega), show (0 : Int32) = nI 0 from rfl]
  show Option.bind (f_S_openToAll_L7 F σ F (opn p (xE σ) 0) (nI 0)) _ = _
  rw [hl]
  rfl
theorem e_setLevel {set v : Int32} (hF : 16 < F) : f_S_setLevel F σ set v = some (sr σ 15 (fun s => if s < 16 ∧ bt set s = true then v else σ 15 s)) := by
  have hl := loop2 16 (f_S_setLevel_L2 F set v) (fun k => nI k) (fun k => sr σ 15 (fun s => if s < k ∧ bt set s = true then v else σ 15 s)) (nI 16, sr σ 15 (fun s => if s < 16 ∧ bt set s = true then v else σ 15 s)) (fun fu => by
      show f_S_setLevel_B2 F set v _ (nI 16) _ = _
      unfold f_S_setLevel_B2
      rw [if_pos le_16]) (fun k fu hk => by
      show f_S_setLevel_B2 F set v _ (nI k) (sr σ 15 (fun s => if s < k ∧ bt set s = true then v else σ 15 s)) = f_S_setLevel_L2 F set v fu (nI (k + 1)) (sr σ 15 (fun s => if s < k + 1 ∧ bt set s = true then v else σ 15 s))
      unfold f_S_setLevel_B2
      rw [if_neg (lt_16 hk), v_has (by omega), nI_1]
      show (if bI (bt set k) = 0 then _ else _) = _
      rw [bIif, sr_s, v_put hk (by omega)]
      by_cases c : bt set k = true
      · rw [if_pos c]
        show f_S_setLevel_L2 F set v fu (nI (k + 1)) (sr (sr σ 15 _) 15 (upd _ k v)) = _
        rw [sr_sr]
        congr 2
        funext s
        unfold upd
        by_cases g : s = k
        · subst g; rw [if_pos rfl, if_pos ⟨by omega, c⟩]
        · rw [if_neg g]
          show (if s < k ∧ bt set s = true then v else σ 15 s) = _
          by_cases d : s < k ∧ bt set s = true
          · rw [if_pos d, if_pos ⟨by omega, d.2⟩]
          · rw [if_neg d, if_neg (fun z => d ⟨by omega, z.2⟩)]
      · rw [if_neg c]
        congr 2
        funext s
        by_cases d : s < k ∧ bt set s = true
        · rw [if_pos d, if_pos ⟨by omega, d.2⟩]
        · rw [if_neg d, if_neg (fun z => d ⟨by
            by_cases g : s = k
            · subst g; exact absurd z.2 c
            · omega, z.2⟩)]) F (by omega)
  have e0 : f_S_setLevel_L2 F set v F (nI 0) σ = some (nI 16, sr σ 15 (fun s => if s < 16 ∧ bt set s = true then v else σ 15 s)) := by
    rw [← hl]
    show _ = f_S_setLevel_L2 F set v F (nI 0) (sr σ 15 (fun s => if s < 0 ∧ bt set s = true then v else σ 15 s))
    have : (fun s => if s < 0 ∧ bt set s = true then v else σ 15 s) = σ 15 := by
      funext s
      rw [if_neg (fun z => absurd z.1 (Nat.not_lt_zero s))]
    rw [this, sr_id]
  unfold f_S_setLevel
  rw [show (0 : Int32) = nI 0 from rfl, e0]
  rfl
/-- before the front k -/
def shk (it : Nat → Int32) : Nat → Int32
  | 0 => 0
  | k + 1 => it k
def shL (it : Nat → Int32) (k : Nat) (L : Nat → Int32) : Prop := ∀ s, s < 16 → (bt (shk it k) s = true → ∃ j, j < k ∧ isLev it s j ∧ L s = nI j) ∧ (bt (shk it k) s = false → L s = -1)
def glk : Nat → Int32
  | 0 => -1
  | k + 1 => nI k
theorem fr_lev (fd : Nat → Int32) (x : Int32) (k : Nat) {s : Nat} (hs : s < 32) (h : bt (fr fd x k) s = true) : isLev (itH fd x) s k := by
  refine ⟨(fr_ok fd x k).2.2 s h, fun j hj => ?_⟩
  obtain ⟨k, rfl⟩ : ∃ z, k = z + 1 := ⟨k - 1, by omega⟩
  cases g : bt (itH fd x j) s
  · rfl
  · have h1 := itH_mono fd x (show j ≤ k by omega) s g
    rw [fr_apart fd x k hs h] at h1
    cases h1
theorem e_findShared (h : AE σ p) (hw : WF p) (hX : ∀ i, lowb 16 (σ 11 i)) (hP : ∀ i, lowb 16 (σ 13 i)) (hf : lowF (σ 12)) (hF : 64 < F) :
    ∃ L a b, f_S_findShared F σ = some (setS σ L a b) ∧ a = itH (σ 12) (opn p (xE σ) (pS p)) 16 ∧ (∀ s, s < 16 → LV (itH (σ 12) (opn p (xE σ) (pS p))) s (L s)) ∧ GL (itH (σ 12) (opn p (xE σ) (pS p))) b := by
  have hx0 : lowb 16 (opn p (xE σ) (pS p)) := by
    have : ∀ n, lowb 16 (opn p (xE σ) n) := by
      intro n
      induction n with
      | zero =>
        intro i hi
        rw [show opn p (xE σ) 0 = plc (xE σ) from rfl] at hi
        unfold plc at hi
        rw [b_or, b_or, b_or, Bool.or_eq_true, Bool.or_eq_true, Bool.or_eq_true] at hi
        rcases hi with ((hi | hi) | hi) | hi
        · exact hP _ i hi
        · exact hP _ i hi
        · exact hP _ i hi
        · exact hP _ i hi
      | succ n ih =>
        rw [opn_s]
        by_cases c : pkd p n = 8 ∨ pkd p n = 9
        · rw [if_pos c]
          intro i hi
          rw [b_or, Bool.or_eq_true] at hi
          exact hi.elim (ih i) (hX _ i)
        · rw [if_neg c]; exact ih
    exact this _
  generalize hx : opn p (xE σ) (pS p) = x at hx0
  generalize hit : itH (σ 12) x = it
  have hup : ∀ k, subb (it k) (it (k + 1)) := fun k => by rw [← hit]; exact itH_up _ _ k
  -- at the end
  have fin : ∀ k L, k ≤ 16 → fr (σ 12) x k = 0 → (∀ j, j < k → ¬ fr (σ 12) x j = 0) → shL it k L → shk it k = it 16 ∧ (∀ s, s < 16 → LV it s (L s)) ∧ GL it (glk k) := by
    intro k L hk h0 hne hL
    cases k with
    | zero =>
      have hx00 : x = 0 := h0
      have z : ∀ n, it n = 0 := by
        intro n
        have e : itH (σ 12) x (0 + 1) = itH (σ 12) x 0 := by
          show x ||| held (σ 12) x = x
          rw [hx00, held_0]; rfl
        rw [← hit, itH_stay e n (Nat.zero_le _)]
        exact hx00
      refine ⟨(z 16).symm, fun s hs => Or.inr ⟨fun k => by rw [z]; exact b_0 s, (hL s hs).2 (b_0 s)⟩, Or.inr ⟨fun s k => by rw [z]; exact b_0 s, rfl⟩⟩
    | succ k =>
      have est : itH (σ 12) x (k + 1) = itH (σ 12) x k := fr_0 h0
      have e16 : it k = it 16 := by rw [← hit]; exact itH_st hx0 hf est
      have stay : ∀ n, k ≤ n → it n = it k := fun n hn => by rw [← hit]; exact itH_stay est n hn
      refine ⟨e16, fun s hs => ?_, ?_⟩
      · cases g : bt (it k) s
        · right
          refine ⟨fun n => ?_, (hL s hs).2 g⟩
          rcases Nat.le_total n k with hn | hn
          · cases g2 : bt (it n) s
            · rfl
            · have := itH_mono (σ 12) x hn s (by rw [hit]; exact g2)
              rw [hit, g] at this; cases this
          · rw [stay n hn]; exact g
        · obtain ⟨j, hj, h1, h2⟩ := (hL s hs).1 g
          exact Or.inl ⟨j, by omega, h1, h2⟩
      · left
        have hnz := hne k (Nat.lt_succ_self k)
        obtain ⟨s, -, hb⟩ := b_ne hnz
        rw [b_0] at hb
        have hb' : bt (fr (σ 12) x k) s = true := by
          cases g : bt (fr (σ 12) x k) s
          · rw [g] at hb; exact absurd rfl hb
          · rfl
        have hlow : s < 16 := itH_low hx0 hf k s ((fr_ok (σ 12) x k).2.2 s hb')
        have hlv := fr_lev (σ 12) x k (by omega) hb'
        rw [hit] at hlv
        refine ⟨k, by omega, ⟨s, hlow, hlv⟩, fun t j ht => ?_, rfl⟩
        rcases Nat.le_total j k with g | g
        · exact g
        · have h1 := ht.1
          rw [stay j g] at h1
          rcases Nat.lt_or_ge k j with h2 | h2
          · have := ht.2 k h2
            rw [h1] at this; cases this
          · exact h2
  -- the loop
  have key : ∀ d k fu L, k + d = 16 → d < fu → (∀ j, j < k → ¬ fr (σ 12) x j = 0) → shL it k L → ∃ L' k' y1 y2, f_S_findShared_L25 F fu (fr (σ 12) x k) (nI k) (setS σ L (shk it k) (glk k)) = some (y1, y2, setS σ L' (shk it k') (glk k')) ∧ k' ≤ 16 ∧ fr (σ 12) x k' = 0 ∧ (∀ j, j < k' → ¬ fr (σ 12) x j = 0) ∧ shL it k' L' := by
    intro d
    induction d with
    | zero =>
      intro k fu L e hfu hne hL
      obtain ⟨fu, rfl⟩ : ∃ z, fu = z + 1 := ⟨fu - 1, by omega⟩
      have hk : k = 16 := by omega
      subst hk
      by_cases c : fr (σ 12) x 16 = 0
      · refine ⟨L, 16, fr (σ 12) x 16, nI 16, ?_, Nat.le_refl _, c, hne, hL⟩
        show f_S_findShared_B25 F _ (fr (σ 12) x 16) (nI 16) _ = _
        unfold f_S_findShared_B25
        rw [if_pos c]
      · exfalso
        have hgr := itH_grow hx0 hf 16 (fun j hj e2 => by
          have h1 := (fr_ok (σ 12) x j).2.1
          rw [e2] at h1
          have h2 : fr (σ 12) x (j + 1) = 0 := by
            apply b_iff
            intro i hi
            rw [b_0]
            refine ⟨fun g => ?_, fun g => by cases g⟩
            have h3 := fr_apart (σ 12) x j hi g
            rw [h1, b_or, g, Bool.or_true] at h3
            cases h3
          by_cases hj2 : j + 1 = 16
          · rw [hj2] at h2; exact c h2
          · exact hne (j + 1) (by omega) h2)
        have hp := pcn_pos hx0 (hne 0 (by omega))
        have hl := pcn_le (itH (σ 12) x 16) 16
        omega
    | succ d ih =>
      intro k fu L e hfu hne hL
      obtain ⟨fu, rfl⟩ : ∃ z, fu = z + 1 := ⟨fu - 1, by omega⟩
      by_cases c : fr (σ 12) x k = 0
      · refine ⟨L, k, fr (σ 12) x k, nI k, ?_, by omega, c, hne, hL⟩
        show f_S_findShared_B25 F _ (fr (σ 12) x k) (nI k) _ = _
        unfold f_S_findShared_B25
        rw [if_pos c]
      · have esh : shk it k ||| fr (σ 12) x k = it k := by
          cases k with
          | zero =>
            show 0 ||| x = it 0
            rw [← hit]
            exact b_ext (fun i _ => by rw [b_or, b_0, Bool.false_or]; rfl)
          | succ k => rw [← hit]; exact (fr_ok (σ 12) x k).2.1.symm
        have hL' : shL it (k + 1) (fun s => if s < 16 ∧ bt (fr (σ 12) x k) s = true then nI k else L s) := by
          intro s hs
          refine ⟨fun hb => ?_, fun hb => ?_⟩
          · have hb2 : bt (it k) s = true := hb
            cases g : bt (fr (σ 12) x k) s
            · rw [← esh, b_or, g, Bool.or_false] at hb2
              obtain ⟨j, h1, h2, h3⟩ := (hL s hs).1 hb2
              refine ⟨j, by omega, h2, ?_⟩
              show (if s < 16 ∧ bt (fr (σ 12) x k) s = true then nI k else L s) = _
              rw [if_neg (fun z => by rw [g] at z; cases z.2)]
              exact h3
            · refine ⟨k, by omega, ?_, ?_⟩
              · have := fr_lev (σ 12) x k (by omega) g
                rw [hit] at this
                exact this
              · show (if s < 16 ∧ bt (fr (σ 12) x k) s = true then nI k else L s) = _
                rw [if_pos ⟨hs, g⟩]
          · have hb2 : bt (it k) s = false := hb
            rw [← esh, b_or, Bool.or_eq_false_iff] at hb2
            show (if s < 16 ∧ bt (fr (σ 12) x k) s = true then nI k else L s) = _
            rw [if_neg (fun z => by rw [hb2.2] at z; cases z.2)]
            exact (hL s hs).2 hb2.1
        obtain ⟨L2, k2, y1, y2, e2, r⟩ := ih (k + 1) fu _ (by omega) (by omega) (fun j hj => by
          by_cases g : j = k
          · rw [g]; exact c
          · exact hne j (by omega)) hL'
        refine ⟨L2, k2, y1, y2, ?_, r⟩
        rw [← e2]
        show f_S_findShared_B25 F (f_S_findShared_L25 F fu) (fr (σ 12) x k) (nI k) (setS σ L (shk it k) (glk k)) = _
        unfold f_S_findShared_B25
        rw [if_neg c, if_neg (lt_16 (by omega)), e_setLevel (by omega), setS_15]
        show lett (su (setS σ (fun s => if s < 16 ∧ bt (fr (σ 12) x k) s = true then nI k else L s) (shk it k) (glk k)) 2 8 (setS σ (fun s => if s < 16 ∧ bt (fr (σ 12) x k) s = true then nI k else L s) (shk it k) (glk k) 2 8 ||| fr (σ 12) x k)) (fun s48 => lett (su s48 2 9 (nI k)) (fun s53 => Option.bind (f_S_heldBy F s53 (fr (σ 12) x k)) (fun u58 => f_S_findShared_L25 F fu (u58 &&& (s53 2 8 ^^^ (-1))) (nI k + 1) s53))) = _
        simp only [lett]
        rw [setS_28, esh, setS_8, setS_9, e_heldBy (by omega), setS_28, nI_1, setS_o (by omega) (by omega)]
        show f_S_findShared_L25 F fu (held (σ 12) (fr (σ 12) x k) &&& (it k ^^^ (-1))) (nI (k + 1)) _ = _
        rw [show held (σ 12) (fr (σ 12) x k) &&& (it k ^^^ (-1)) = fr (σ 12) x (k + 1) by rw [← hit]; rfl]
        rfl
  obtain ⟨L', k', y1, y2, e1, r1, r2, r3, r4⟩ := key 16 0 F (fun s => if s < 16 then -1 else σ 15 s) (by omega) (by omega) (fun j hj => absurd hj (Nat.not_lt_zero j)) (fun s hs => ⟨fun hb => (by rw [show shk it 0 = 0 from rfl, b_0] at hb; cases hb), fun _ => if_pos hs⟩)
  obtain ⟨f1, f2, f3⟩ := fin k' L' r1 r2 r3 r4
  refine ⟨L', shk it k', glk k', ?_, f1, f2, f3⟩
  have s15 : su (su (sr σ 15 (fun i => if i < 16 then -1 else σ 15 i)) 2 8 0) 2 9 (-1) = setS σ (fun i => if i < 16 then -1 else σ 15 i) 0 (-1) := by
    have e0 : su (su σ 2 8 (σ 2 8)) 2 9 (σ 2 9) = σ := by
      have : ∀ (g : St) (j : Nat), su g 2 j (g 2 j) = g := fun g j => by
        unfold su
        rw [upd_id, sr_id]
      rw [this, this]
    have e1 : σ = setS σ (σ 15) (σ 2 8) (σ 2 9) := by
      funext k
      unfold setS
      by_cases h2 : k = 2
      · rw [if_pos h2, h2]
        funext j
        unfold upd
        by_cases h9 : j = 9
        · rw [if_pos h9, h9]
        · rw [if_neg h9]
          by_cases h8 : j = 8
          · rw [if_pos h8, h8]
          · rw [if_neg h8]
      · rw [if_neg h2]
        by_cases h15 : k = 15
        · rw [if_pos h15, h15]
        · rw [if_neg h15]
    have e2 := setS_15 σ (σ 15) (fun i => if i < 16 then -1 else σ 15 i) (σ 2 8) (σ 2 9)
    rw [← e1] at e2
    rw [e2, setS_8, setS_9]
  unfold f_S_findShared
  rw [v_fill (by omega) (by omega)]
  show Option.bind (f_S_openToAll F (su (su (sr σ 15 (fun i => if i < 16 then -1 else σ 15 i)) 2 8 0) 2 9 (-1))) (fun u19 => Option.bind (f_S_findShared_L25 F F u19 0 (su (su (sr σ 15 (fun i => if i < 16 then -1 else σ 15 i)) 2 8 0) 2 9 (-1))) (fun u25 => some u25.2.2)) = _
  rw [s15]
  have hA : AE (setS σ (fun i => if i < 16 then -1 else σ 15 i) 0 (-1)) p := h.same (setS_o (by omega) (by omega)) (setS_o (by omega) (by omega)) (setS_o (by omega) (by omega)) (setS_o (by omega) (by omega)) (setS_o (by omega) (by omega)) (setS_o (by omega) (by omega))
  have hxe : xE (setS σ (fun i => if i < 16 then -1 else σ 15 i) 0 (-1)) = xE σ := rfl
  rw [e_openToAll hA hw hF, hxe, hx]
  show Option.bind (f_S_findShared_L25 F F (fr (σ 12) x 0) (nI 0) (setS σ (fun i => if i < 16 then -1 else σ 15 i) (shk it 0) (glk 0))) _ = _
  rw [e1]
  rfl
end SH
