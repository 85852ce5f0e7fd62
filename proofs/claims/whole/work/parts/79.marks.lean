/-! Marks: what a PARAMETER may come to; of the class. -/
def gvB (p : PG) (B : Nat → Nat → Prop) (m : Nat) : Prop := ∃ s, s < pS p ∧ bt (liveP p) (pow p s) = true ∧ pkd p s = 7 ∧ pow p s = m ∧ B m (pnv p s 0)
def clM (p : PG) (B : Nat → Nat → Prop) : Prop := ∀ s, s < pS p → bt (liveP p) (pow p s) = true → (pkd p s = 1 → B (pow p s) (pnv p s 1) → B (pow p s) (pnv p s 0)) ∧ (pkd p s = 6 → (∀ i, i < 3 → pnv p s (1 + i) ≠ 8 → B (pow p s) (pnv p s (1 + i)) → B (pnv p s 0) i) ∧ (pnv p s 4 ≠ 8 → gvB p B (pnv p s 0) → B (pow p s) (pnv p s 4)))
/-- the least marks -/
def LM (p : PG) (m0 x0 : Nat) (A : Nat → Nat → Prop) : Prop := A m0 x0 ∧ clM p A ∧ ∀ B, B m0 x0 → clM p B → ∀ m x, m < 8 → x < 8 → A m x → B m x
theorem LM_u {p : PG} {m0 x0 : Nat} {A A' : Nat → Nat → Prop} (h : LM p m0 x0 A) (h' : LM p m0 x0 A') {m x : Nat} (hm : m < 8) (hx : x < 8) : A m x ↔ A' m x := ⟨h.2.2 A' h'.1 h'.2.1 m x hm hx, h'.2.2 A h.1 h.2.1 m x hm hx⟩
/-- NAMES that a STEP has, by its kind -/
theorem k1_n {p : PG} (hw : WF p) {s : Nat} (hs : s < pS p) (hk : pkd p s = 1) : pnv p s 0 < 8 ∧ pnv p s 1 < 8 := by
  have h4 := (WF_step hw hs).2.2.2.2.2
  rw [hk] at h4
  exact ⟨h4 0 (by decide), h4 1 (by decide)⟩
theorem k6_n {p : PG} (hw : WF p) {s : Nat} (hs : s < pS p) (hk : pkd p s = 6) : pnv p s 0 < 8 ∧ ∀ i, i < 4 → pnv p s (1 + i) < 9 := by
  have h4 := (WF_step hw hs).2.2.2.2.2
  rw [hk] at h4
  refine ⟨?_, fun i hi => ?_⟩
  · have := h4 0 (by decide)
    simp [limN] at this
    have := hw.2.1
    omega
  · have := h4 (1 + i) (by show 1 + i < 5; omega)
    rcases (show i = 0 ∨ i = 1 ∨ i = 2 ∨ i = 3 by omega) with rfl | rfl | rfl | rfl <;> simpa [limN] using this
section MK
variable {p : PG} {σ σ' σ'' : St}
def lowK (σ : St) : Prop := (∀ m, m < 8 → lowb 8 (σ 16 m)) ∧ lowb 8 (σ 4 2)
def msr (σ : St) : Nat := smN (σ 16) 8 + pcn (σ 4 2) 16
def inB (p : PG) (σ : St) (B : Nat → Nat → Prop) : Prop := (∀ m x, m < 8 → x < 8 → bt (σ 16 m) x = true → B m x) ∧ (∀ m, m < 8 → bt (σ 4 2) m = true → gvB p B m)
def SP (p : PG) (σ σ' : St) (b : Bool) : Prop := (∀ k, k ≠ 16 → k ≠ 4 → σ' k = σ k) ∧ (∀ j, j ≠ 2 → σ' 4 j = σ 4 j) ∧ (lowK σ → lowK σ' ∧ msr σ + b.toNat ≤ msr σ') ∧ (∀ B, clM p B → inB p σ B → inB p σ' B) ∧ (∀ m, subb (σ 16 m) (σ' 16 m)) ∧ (b = false → σ' 16 = σ 16 ∧ σ' 4 2 = σ 4 2)
theorem SP_r : SP p σ σ false := ⟨fun _ _ _ => rfl, fun _ _ => rfl, fun h => ⟨h, Nat.le_refl _⟩, fun _ _ h => h, fun _ => subb_r _, fun _ => ⟨rfl, rfl⟩⟩
theorem SP_t {b b' : Bool} (h : SP p σ σ' b) (h' : SP p σ' σ'' b') : SP p σ σ'' (b || b') := by
  obtain ⟨h1, h2, h3, h4, h5, h6⟩ := h
  obtain ⟨g1, g2, g3, g4, g5, g6⟩ := h'
  refine ⟨fun k a c => by rw [g1 k a c, h1 k a c], fun j a => by rw [g2 j a, h2 j a], fun l => ?_, fun B c i => g4 B c (h4 B c i), fun m => subb_t (h5 m) (g5 m), fun e => ?_⟩
  · obtain ⟨l1, m1⟩ := h3 l
    obtain ⟨l2, m2⟩ := g3 l1
    refine ⟨l2, ?_⟩
    cases b <;> cases b' <;> simp at m1 m2 ⊢ <;> omega
  · rw [Bool.or_eq_false_iff] at e
    rw [(g6 e.2).1, (g6 e.2).2]
    exact h6 e.1
theorem SP_ae {b : Bool} (h : SP p σ σ' b) (ha : AE σ p) : AE σ' p := ha.same (h.1 1 (by omega) (by omega)) (h.1 5 (by omega) (by omega)) (h.1 6 (by omega) (by omega)) (h.1 7 (by omega) (by omega)) (h.1 8 (by omega) (by omega)) (h.1 9 (by omega) (by omega))
theorem e_mark {m x : Nat} (hm : m < 8) : f_K_mark σ (nI m) (nI x) = some (bI (jg (σ 16) m (sh x)), sr σ 16 (jn (σ 16) m (sh x))) := by
  unfold f_K_mark
  show Option.bind (f_E_join 8 (σ 16) (nI m) (sh x)) _ = _
  rw [v_join hm (by omega)]
  exact bIchk _ _
theorem bor_sh {x y : Int32} {i v : Nat} (hv : v < 32) (h : bt (y ||| sh v) i = true) : bt y i = true ∨ i = v := by
  rw [b_or, Bool.or_eq_true] at h
  rcases h with h | h
  · exact Or.inl h
  · rcases Nat.lt_or_ge i 32 with g | g
    · rw [b_sh hv g, decide_eq_true_eq] at h; exact Or.inr h
    · rw [b_big g] at h; cases h
theorem jn_s (f : Nat → Int32) (k : Nat) (v : Int32) : jn f k v k = f k ||| v := pk_us
theorem SP_mark {m x : Nat} (hm : m < 8) (hx : x < 8) (hj : ∀ B, clM p B → inB p σ B → B m x) : SP p σ (sr σ 16 (jn (σ 16) m (sh x))) (jg (σ 16) m (sh x)) := by
  have n4 : sr σ 16 (jn (σ 16) m (sh x)) 4 = σ 4 := sr_n (by omega)
  refine ⟨fun k a _ => sr_n a, fun j _ => by rw [n4], fun l => ⟨⟨fun k hk => ?_, by rw [n4]; exact l.2⟩, ?_⟩, fun B c i => ⟨fun k y hk hy hb => ?_, fun k hk hb => i.2 k hk (by rw [n4] at hb; exact hb)⟩, fun k => ?_, fun e => ⟨by rw [sr_s, jn_id e], by rw [n4]⟩⟩
  · rw [sr_s]
    by_cases e : k = m
    · subst e
      rw [jn_s]
      intro i hi
      rcases bor_sh (x := 0) (by omega) hi with g | g
      · exact l.1 k hk i g
      · omega
    · rw [jn_o e]; exact l.1 k hk
  · unfold msr
    rw [n4, sr_s]
    have hlow : lowb 16 (σ 16 m ||| sh x) := fun i hi => by
      rcases bor_sh (x := 0) (by omega) hi with g | g
      · have := l.1 m hm i g; omega
      · omega
    have hp : pcn (σ 16 m) 16 + (jg (σ 16) m (sh x)).toNat ≤ pcn (σ 16 m ||| sh x) 16 := by
      unfold jg
      by_cases c : σ 16 m ||| sh x = σ 16 m
      · rw [decide_eq_false (fun z => z c), c]; exact Nat.le_refl _
      · rw [decide_eq_true c]; exact pcn_grow (subb_l _ _) hlow c
    have := (smN_upd hp 8).1 hm
    unfold jn
    omega
  · rw [sr_s] at hb
    by_cases e : k = m
    · subst e
      rw [jn_s] at hb
      rcases bor_sh (x := 0) (by omega) hb with g | g
      · exact i.1 k y hk hy g
      · subst g; exact hj B c i
    · rw [jn_o e] at hb; exact i.1 k y hk hy hb
  · rw [sr_s]
    by_cases e : k = m
    · subst e; rw [jn_s]; exact subb_l _ _
    · rw [jn_o e]; exact subb_r _
theorem jg_bit {f : Nat → Int32} {m x : Nat} (hx : x < 32) (h : jg f m (sh x) = false) : bt (f m) x = true := by
  have e := congrFun (jn_id h) m
  rw [jn_s] at e
  rw [← e, b_or, b_sh hx hx, decide_eq_true rfl, Bool.or_true]
theorem e_isMarked {m x : Nat} (hm : m < 8) (hx : x < 8) : f_K_isMarked σ (nI m) (nI x) = some (bI (bt (σ 16 m) x)) := by
  unfold f_K_isMarked
  rw [v_at hm (by omega)]
  show Option.bind (f_E_has (σ 16 m) (nI x)) _ = _
  rw [v_has (by omega)]
  exact bIchk _ _
theorem e_isMarkedN {m : Nat} (hm : m < 8) : f_K_isMarked σ (nI m) (-1) = some 0 := by
  unfold f_K_isMarked
  rw [v_at hm (by omega)]
  show Option.bind (f_E_has (σ 16 m) (-1)) _ = _
  rw [v_hasN]
  rfl
/-- a STEP's rule -/
def rulK (p : PG) (N : Nat → Int32) (G : Int32) (s : Nat) : Prop := (pkd p s = 1 → bt (N (pow p s)) (pnv p s 1) = true → bt (N (pow p s)) (pnv p s 0) = true) ∧ (pkd p s = 6 → (∀ i, i < 3 → pnv p s (1 + i) ≠ 8 → bt (N (pow p s)) (pnv p s (1 + i)) = true → bt (N (pnv p s 0)) i = true) ∧ (pnv p s 4 ≠ 8 → bt G (pnv p s 0) = true → bt (N (pow p s)) (pnv p s 4) = true)) ∧ (pkd p s = 7 → bt (N (pow p s)) (pnv p s 0) = true → bt G (pow p s) = true)
theorem ndI_6 {i v : Nat} (hi : 0 < i) : ndI 6 i v = if v = 8 then -1 else nI v := by
  unfold ndI
  by_cases c : v = 8
  · rw [if_pos ⟨rfl, hi, c⟩, if_pos c]
  · rw [if_neg (fun z => c z.2.2), if_neg c]
theorem nI_nm {v : Nat} (h : v < 2 ^ 31) : ¬ nI v = -1 := fun e => by
  have h1 := nI_pos h
  rw [e] at h1
  exact h1 (by decide)
theorem e_spreadCall (h : AE σ p) (hw : WF p) {F : Nat} (hF : 64 < F) {s : Nat} (hs : s < pS p) (hl : bt (liveP p) (pow p s) = true) (hk : pkd p s = 6) : ∃ b σ', f_K_spreadCall F σ (nI s) (nI (pow p s)) (nI (pnv p s 0)) = some (bI b, σ') ∧ SP p σ σ' b ∧ (b = false → rulK p (σ 16) (σ 4 2) s) := by
  obtain ⟨h64, hm, hst⟩ := WF_step hw hs
  obtain ⟨hto, hnv⟩ := k6_n hw hs hk
  have key : ∀ d i fu b σi, i + d = 3 → d < fu → SP p σ σi b → (b = false → ∀ j, j < i → pnv p s (1 + j) ≠ 8 → bt (σ 16 (pow p s)) (pnv p s (1 + j)) = true → bt (σ 16 (pnv p s 0)) j = true) → ∃ b' σ', f_K_spreadCall_L6 F (nI s) (nI (pow p s)) (nI (pnv p s 0)) fu (bI b) (nI i) σi = some (bI b', nI 3, σ') ∧ SP p σ σ' b' ∧ (b' = false → ∀ j, j < 3 → pnv p s (1 + j) ≠ 8 → bt (σ 16 (pow p s)) (pnv p s (1 + j)) = true → bt (σ 16 (pnv p s 0)) j = true) := by
    intro d
    induction d with
    | zero =>
      intro i fu b σi e hfu hsp hr
      obtain ⟨fu, rfl⟩ : ∃ z, fu = z + 1 := ⟨fu - 1, by omega⟩
      have hi : i = 3 := by omega
      subst hi
      refine ⟨b, σi, ?_, hsp, hr⟩
      show f_K_spreadCall_B6 F _ _ _ _ (bI b) (nI 3) σi = _
      unfold f_K_spreadCall_B6
      rw [if_pos le_3]
    | succ d ih =>
      intro i fu b σi e hfu hsp hr
      obtain ⟨fu, rfl⟩ : ∃ z, fu = z + 1 := ⟨fu - 1, by omega⟩
      have ha := SP_ae hsp h
      show ∃ b' σ', f_K_spreadCall_B6 F _ _ _ (f_K_spreadCall_L6 F (nI s) (nI (pow p s)) (nI (pnv p s 0)) fu) (bI b) (nI i) σi = _ ∧ _
      unfold f_K_spreadCall_B6
      rw [if_neg (lt_3 (by omega)), n1_p, e_need ha hw hs (by omega), hk, if_pos (show 1 + i < nds 6 from (by show 1 + i < 5; omega)), ndI_6 (by omega), nI_1]
      by_cases c : pnv p s (1 + i) = 8
      · rw [if_pos c]
        show ∃ b' σ', Option.bind (f_K_isMarked σi (nI (pow p s)) (-1)) _ = _ ∧ _
        rw [e_isMarkedN hm]
        show ∃ b' σ', f_K_spreadCall_L6 F (nI s) (nI (pow p s)) (nI (pnv p s 0)) fu (bI b) (nI (i + 1)) σi = _ ∧ _
        refine ih (i + 1) fu b σi (by omega) (by omega) hsp (fun eb j hj hne => ?_)
        by_cases q : j = i
        · subst q; exact absurd c hne
        · exact hr eb j (by omega) hne
      · rw [if_neg c]
        have hv : pnv p s (1 + i) < 8 := by have := hnv i (by omega); omega
        show ∃ b' σ', Option.bind (f_K_isMarked σi (nI (pow p s)) (nI (pnv p s (1 + i)))) _ = _ ∧ _
        rw [e_isMarked hm hv]
        cases g : bt (σi 16 (pow p s)) (pnv p s (1 + i))
        · show ∃ b' σ', f_K_spreadCall_L6 F (nI s) (nI (pow p s)) (nI (pnv p s 0)) fu (bI b) (nI (i + 1)) σi = _ ∧ _
          refine ih (i + 1) fu b σi (by omega) (by omega) hsp (fun eb j hj hne hb => ?_)
          by_cases q : j = i
          · subst q
            rw [(hsp.2.2.2.2.2 eb).1] at g
            rw [g] at hb; cases hb
          · exact hr eb j (by omega) hne hb
        · show ∃ b' σ', Option.bind (f_K_mark σi (nI (pnv p s 0)) (nI i)) _ = _ ∧ _
          rw [e_mark hto]
          have hsp' : SP p σ _ (b || jg (σi 16) (pnv p s 0) (sh i)) := SP_t hsp (SP_mark hto (by omega) (fun B hB hin => ((hB s hs hl).2 hk).1 i (by omega) c (hin.1 _ _ hm hv g)))
          have e' : (if bI (jg (σi 16) (pnv p s 0) (sh i)) = 0 then f_K_spreadCall_L6 F (nI s) (nI (pow p s)) (nI (pnv p s 0)) fu (bI b) (nI (i + 1)) (sr σi 16 (jn (σi 16) (pnv p s 0) (sh i))) else f_K_spreadCall_L6 F (nI s) (nI (pow p s)) (nI (pnv p s 0)) fu 1 (nI (i + 1)) (sr σi 16 (jn (σi 16) (pnv p s 0) (sh i)))) = f_K_spreadCall_L6 F (nI s) (nI (pow p s)) (nI (pnv p s 0)) fu (bI (b || jg (σi 16) (pnv p s 0) (sh i))) (nI (i + 1)) (sr σi 16 (jn (σi 16) (pnv p s 0) (sh i))) := by
            cases jg (σi 16) (pnv p s 0) (sh i) <;> cases b <;> rfl
          show ∃ b' σ', (if bI (jg (σi 16) (pnv p s 0) (sh i)) = 0 then f_K_spreadCall_L6 F (nI s) (nI (pow p s)) (nI (pnv p s 0)) fu (bI b) (nI (i + 1)) (sr σi 16 (jn (σi 16) (pnv p s 0) (sh i))) else f_K_spreadCall_L6 F (nI s) (nI (pow p s)) (nI (pnv p s 0)) fu 1 (nI (i + 1)) (sr σi 16 (jn (σi 16) (pnv p s 0) (sh i)))) = _ ∧ _
          rw [e']
          refine ih (i + 1) fu _ _ (by omega) (by omega) hsp' (fun eb j hj hne hb => ?_)
          rw [Bool.or_eq_false_iff] at eb
          by_cases q : j = i
          · subst q
            have := jg_bit (by omega) eb.2
            rw [(hsp.2.2.2.2.2 eb.1).1] at this
            exact this
          · exact hr eb.1 j (by omega) hne hb
  obtain ⟨b, σ3, e3, hsp, hr⟩ := key 3 0 F false σ (by omega) (by omega) SP_r (fun _ j hj => absurd hj (Nat.not_lt_zero j))
  have ha := SP_ae hsp h
  have h4 : pnv p s 4 < 9 := hnv 3 (by omega)
  unfold f_K_spreadCall
  have e3' : f_K_spreadCall_L6 F (nI s) (nI (pow p s)) (nI (pnv p s 0)) F 0 0 σ = some (bI b, nI 3, σ3) := e3
  rw [e3']
  show ∃ b σ', Option.bind (f_P_need σ3 (nI s) (nI 4)) _ = _ ∧ _
  rw [e_need ha hw hs (by omega), hk, if_pos (by decide), ndI_6 (by omega)]
  have ek1 : ¬ pkd p s = 1 := by omega
  have ek7 : ¬ pkd p s = 7 := by omega
  by_cases c : pnv p s 4 = 8
  · rw [if_pos c]
    exact ⟨b, σ3, bIchk _ _, hsp, fun eb => ⟨fun z => absurd z ek1, fun _ => ⟨hr eb, fun z => absurd c z⟩, fun z => absurd z ek7⟩⟩
  · rw [if_neg c]
    have hv : pnv p s 4 < 8 := by omega
    show ∃ b' σ', (if nI (pnv p s 4) = -1 then _ else Option.bind (f_E_has (σ3 4 2) (nI (pnv p s 0))) _) = _ ∧ _
    rw [if_neg (nI_nm (by omega)), v_has (by omega)]
    cases g : bt (σ3 4 2) (pnv p s 0)
    · refine ⟨b, σ3, bIchk _ _, hsp, fun eb => ⟨fun z => absurd z ek1, fun _ => ⟨hr eb, fun _ hb => ?_⟩, fun z => absurd z ek7⟩⟩
      rw [(hsp.2.2.2.2.2 eb).2] at g
      rw [g] at hb; cases hb
    · show ∃ b' σ', Option.bind (f_K_mark σ3 (nI (pow p s)) (nI (pnv p s 4))) _ = _ ∧ _
      rw [e_mark hm]
      refine ⟨b || jg (σ3 16) (pow p s) (sh (pnv p s 4)), sr σ3 16 (jn (σ3 16) (pow p s) (sh (pnv p s 4))), ?_, SP_t hsp (SP_mark hm hv (fun B hB hin => ((hB s hs hl).2 hk).2 c (hin.2 _ hto g))), fun eb => ?_⟩
      · show (if bI (jg (σ3 16) (pow p s) (sh (pnv p s 4))) = 0 then (if bI b = 0 ∨ bI b = 1 then some (bI b, _) else none) else some (1, _)) = _
        rw [bIchk]
        cases jg (σ3 16) (pow p s) (sh (pnv p s 4)) <;> cases b <;> rfl
      · rw [Bool.or_eq_false_iff] at eb
        refine ⟨fun z => absurd z ek1, fun _ => ⟨hr eb.1, fun _ _ => ?_⟩, fun z => absurd z ek7⟩
        have := jg_bit (by omega) eb.2
        rw [(hsp.2.2.2.2.2 eb.1).1] at this
        exact this
end MK
