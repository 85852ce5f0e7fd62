/-! Sets and counts gathered by loops; what METHODS CALL; locks. -/
def orS (c : Nat → Bool) (x : Nat → Nat) : Nat → Int32
  | 0 => 0
  | n + 1 => if c n = true then orS c x n ||| sh (x n) else orS c x n
theorem orS_s (c : Nat → Bool) (x : Nat → Nat) (n : Nat) : orS c x (n + 1) = if c n = true then orS c x n ||| sh (x n) else orS c x n := rfl
theorem orS_bit {c : Nat → Bool} {x : Nat → Nat} {i : Nat} : ∀ n, (∀ s, s < n → c s = true → x s < 32) → (bt (orS c x n) i = true ↔ ∃ s, s < n ∧ c s = true ∧ x s = i) := by
  intro n
  induction n with
  | zero => intro _; exact ⟨fun h => (by rw [show orS c x 0 = 0 from rfl, b_0] at h; cases h), fun ⟨s, h, _⟩ => absurd h (Nat.not_lt_zero s)⟩
  | succ n ih =>
    intro hx
    have ih := ih (fun s hs => hx s (by omega))
    rw [orS_s]
    by_cases g : c n = true
    · have hn := hx n (by omega) g
      rw [if_pos g, b_or, Bool.or_eq_true, ih]
      refine ⟨fun h => ?_, fun ⟨s, h1, h2, h3⟩ => ?_⟩
      · rcases h with ⟨s, h1, h2⟩ | h
        · exact ⟨s, by omega, h2⟩
        · rcases Nat.lt_or_ge i 32 with d | d
          · rw [b_sh hn d, decide_eq_true_eq] at h
            exact ⟨n, by omega, g, h.symm⟩
          · rw [b_big d] at h; cases h
      · by_cases e : s = n
        · subst e
          right
          rw [b_sh hn (by omega), decide_eq_true_eq]
          exact h3.symm
        · exact Or.inl ⟨s, by omega, h2, h3⟩
    · rw [if_neg g, ih]
      refine ⟨fun ⟨s, h1, h2⟩ => ⟨s, by omega, h2⟩, fun ⟨s, h1, h2, h3⟩ => ?_⟩
      by_cases e : s = n
      · subst e; exact absurd h2 g
      · exact ⟨s, by omega, h2, h3⟩
theorem lpO {N F : Nat} (c : Nat → Bool) (x : Nat → Nat) (L : Nat → Int32 → Int32 → Option (Int32 × Int32)) (he : ∀ fu y, L (fu + 1) y (nI N) = some (y, nI N)) (hs : ∀ k fu y, k < N → L (fu + 1) y (nI k) = L fu (if c k = true then y ||| sh (x k) else y) (nI (k + 1))) (hF : N < F) : L F (nI 0) (nI 0) = some (orS c x N, nI N) :=
  loop2 N L (fun k => orS c x k) (fun k => nI k) (orS c x N, nI N) (fun fu => he fu _) (fun k fu hk => hs k fu _ hk) F hF
def cnt (c : Nat → Bool) : Nat → Nat
  | 0 => 0
  | n + 1 => cnt c n + (c n).toNat
theorem cnt_s (c : Nat → Bool) (n : Nat) : cnt c (n + 1) = cnt c n + (c n).toNat := rfl
theorem lpC {N F : Nat} (c : Nat → Bool) (L : Nat → Int32 → Int32 → Option (Int32 × Int32)) (he : ∀ fu y, L (fu + 1) y (nI N) = some (y, nI N)) (hs : ∀ k fu y, k < N → L (fu + 1) y (nI k) = L fu (if c k = true then y + 1 else y) (nI (k + 1))) (hF : N < F) : L F (nI 0) (nI 0) = some (nI (cnt c N), nI N) :=
  loop2 N L (fun k => nI (cnt c k)) (fun k => nI k) (nI (cnt c N), nI N) (fun fu => he fu _) (fun k fu hk => by
    show L (fu + 1) (nI (cnt c k)) (nI k) = L fu (nI (cnt c (k + 1))) (nI (k + 1))
    rw [hs k fu _ hk, cnt_s]
    by_cases g : c k = true
    · rw [if_pos g, g, nI_1]; rfl
    · have gf : c k = false := by cases h : c k; rfl; exact absurd h g
      rw [if_neg g, gf]; rfl) F hF
theorem h10 : ¬ (1 : Int32) = 0 := by decide
theorem or_z (x : Int32) : x ||| 0 = x := b_ext (fun i _ => by rw [b_or, b_0, Bool.or_false])
section CA
variable {σ τ : St} {p : PG}
theorem SR.wf (h : SR p σ τ) : WF p := h.1
theorem SR.ae (h : SR p σ τ) : AE σ p := h.2.1
theorem SR.am (h : SR p σ τ) : AM τ p := h.2.2.1
theorem SR.cl (h : SR p σ τ) : σ 10 = calE p (liveP p) := h.2.2.2.2.2.1.2.2.1
theorem SR.shd (h : SR p σ τ) : σ 2 8 = itP p 16 := h.2.2.2.2.2.1.2.2.2.2.1
theorem SR.lev (h : SR p σ τ) : ∀ s, s < 16 → LV (itP p) s (σ 15 s) := h.2.2.2.2.2.1.2.2.2.2.2.1
theorem SR.gl (h : SR p σ τ) : GL (itP p) (σ 2 9) := h.2.2.2.2.2.1.2.2.2.2.2.2
/-- NAMES and RESULTS of METHODS that aren't LIVE are empty -/
theorem XS_dead (hw : WF p) {m : Nat} (h : ¬ bt (liveP p) m = true) : (∀ x, x < 8 → (XS p).1 (8 * m + x) = 0) ∧ (XS p).2.2.2 m = 0 := (XS_inv hw).2.1 m (by cases g : bt (liveP p) m; rfl; exact absurd g h)
theorem m_placed (hS : SR p σ τ) : f_M_placed τ = some (plc (XS p)) := by
  unfold f_M_placed
  rw [if_pos (by decide), if_pos (by decide), if_pos (by decide), if_pos (by decide), hS.x3.2]
  rfl
theorem m_ix (hw : WF p) {s : Nat} (hs : s < pS p) : ¬ (nI s < 0 ∨ 64 ≤ s) ∧ ¬ (nI (5 * s) < 0 ∨ 320 ≤ 5 * s) ∧ (nI s).toNatClampNeg = s ∧ (nI (5 * s)).toNatClampNeg = 5 * s := by
  have := hw.2.2.1
  exact ⟨fun z => z.elim (ix_n (by omega)) (by omega), fun z => z.elim (ix_n (by omega)) (by omega), ix_c (by omega), ix_c (by omega)⟩
/-- a STEP's first NAME -/
theorem m_n0 (h : AM τ p) (hw : WF p) {s : Nat} (hs : s < pS p) (hk : pkd p s = 3 ∨ pkd p s = 7 ∨ pkd p s = 8 ∨ pkd p s = 9 ∨ pkd p s = 10) : τ 4 (5 * s) = nI (pnv p s 0) ∧ pnv p s 0 < 8 := by
  obtain ⟨h64, hm, hst⟩ := WF_step hw hs
  have h4 := hst.2.2.2 0
  have r4 := (h.2.2.2.1 s hs).2.2.2 0
  rw [Nat.add_zero, ndI_z] at r4
  rcases hk with c | c | c | c | c <;> rw [c] at h4 r4 <;> exact ⟨r4 (by decide), h4 (by decide)⟩
theorem e_n0 (h : AE σ p) (hw : WF p) {s : Nat} (hs : s < pS p) (hk : pkd p s = 3 ∨ pkd p s = 7 ∨ pkd p s = 8 ∨ pkd p s = 9 ∨ pkd p s = 10) : f_P_need σ (nI s) (nI 0) = some (nI (pnv p s 0)) ∧ pnv p s 0 < 8 := by
  obtain ⟨h64, hm, hst⟩ := WF_step hw hs
  have h4 := hst.2.2.2 0
  rw [e_need h hw hs (by omega)]
  rcases hk with c | c | c | c | c <;> rw [c] at h4 ⊢ <;> exact ⟨by rw [if_pos (by decide), ndI_z], h4 (by decide)⟩
theorem kdI (hw : WF p) {s : Nat} (hs : s < pS p) (k : Nat) (hk : k < 16) : (nI (pkd p s) = nI k) ↔ pkd p s = k := nI_eq (by have := (WF_step hw hs).2.2.2.1; omega) (by omega)
theorem m_firstShared (hS : SR p σ τ) {F : Nat} (hF : 64 < F) : f_M_firstShared F τ = some (s0P p) := by
  have hw := hS.wf
  have h := hS.am
  have hSt := hw.2.2.1
  have hl := loop2 (pS p) (f_M_firstShared_L7 F τ) (fun k => opn p (XS p) k) (fun k => nI k) (s0P p, nI (pS p)) (fun fu => by
      show f_M_firstShared_B7 F τ _ _ (nI (pS p)) = _
      unfold f_M_firstShared_B7
      rw [h.2.1, if_pos (nI_le (Nat.le_refl _) (by omega))]
      rfl) (fun k fu hk => by
      show f_M_firstShared_B7 F τ _ (opn p (XS p) k) (nI k) = f_M_firstShared_L7 F τ fu (opn p (XS p) (k + 1)) (nI (k + 1))
      obtain ⟨h64, hm, hst⟩ := WF_step hw hk
      obtain ⟨i0, i5, c0, c5⟩ := m_ix hw hk
      obtain ⟨r1, r2, r3, r4⟩ := h.2.2.2.1 k hk
      have e8 : (nI (pkd p k) = 8) ↔ pkd p k = 8 := kdI hw hk 8 (by omega)
      have e9 : (nI (pkd p k) = 9) ↔ pkd p k = 9 := kdI hw hk 9 (by omega)
      unfold f_M_firstShared_B7
      rw [h.2.1, if_neg (nI_ge hk (by omega)), m_isLive h hw hk, hS.lv.2, opn_s]
      show (if bI (bt (liveP p) (pow p k)) = 0 then _ else _) = _
      rw [bIif]
      simp only [n5_I, c0, c5, if_pos i0, if_pos i5, r1, r2, nI_1, if_neg h10, if_true]
      by_cases l : bt (liveP p) (pow p k) = true
      · rw [if_pos l]
        by_cases c : pkd p k = 8
        · obtain ⟨n1, n2⟩ := m_n0 h hw hk (by omega)
          rw [if_pos (e8.mpr c), if_pos (Or.inl c), n1, m_name hm n2, hS.x1.2]
          rfl
        · rw [if_neg (fun z => c (e8.mp z))]
          by_cases d : pkd p k = 9
          · obtain ⟨n1, n2⟩ := m_n0 h hw hk (by omega)
            rw [if_pos (e9.mpr d), if_pos (Or.inr d), n1, m_name hm n2, hS.x1.2]
            rfl
          · rw [if_neg (fun z => d (e9.mp z)), if_neg (fun z => z.elim c d)]
      · rw [if_neg l]
        by_cases c : pkd p k = 8 ∨ pkd p k = 9
        · obtain ⟨n1, n2⟩ := m_n0 h hw hk (by omega)
          rw [if_pos c, (XS_dead hw l).1 _ n2, or_z]
        · rw [if_neg c]) F (by omega)
  unfold f_M_firstShared
  rw [m_placed hS]
  show Option.bind (f_M_firstShared_L7 F τ F (opn p (XS p) 0) (nI 0)) _ = _
  rw [hl]
  rfl
theorem opn_okv (hw : WF p) : ∀ n, okv p (liveP p) (opn p (XS p) n) := by
  have hI := (XS_inv hw).1
  intro n
  induction n with
  | zero => exact okv_or (okv_or (okv_or (hI.2.2.1 0) (hI.2.2.1 1)) (hI.2.2.1 2)) (hI.2.2.1 3)
  | succ n ih =>
    rw [opn_s]
    by_cases c : pkd p n = 8 ∨ pkd p n = 9
    · rw [if_pos c]; exact okv_or ih (hI.1 _)
    · rw [if_neg c]; exact ih
theorem s0P_okv (hw : WF p) : okv p (liveP p) (s0P p) := opn_okv hw _
theorem held_okv (hw : WF p) {x : Int32} : okv p (liveP p) (held (XS p).2.1 x) := by
  intro i hi
  obtain ⟨f, h1, s, h2, h3, h4⟩ := held_iff.mp hi
  exact (XS_inv hw).1.2.1 _ i h4
theorem itH_okv (hw : WF p) {x : Int32} (hx : okv p (liveP p) x) : ∀ k, okv p (liveP p) (itH (XS p).2.1 x k) := by
  intro k
  induction k with
  | zero => exact hx
  | succ k ih => rw [itH_s]; exact okv_or ih (held_okv hw)
theorem m_close (hS : SR p σ τ) {F : Nat} (hF : 64 < F) {x : Int32} (hx : okv p (liveP p) x) : f_M_closed F τ x = some (itH (XS p).2.1 x 16) := by
  have hw := hS.wf
  rw [m_closed hS.am hw (by rw [hS.x2.2]; exact XS_fdz hw) (by rw [hS.x2.2]; exact (XS_low hw).2.1) hF (okv_low hw hx), hS.x2.2]
theorem m_shared (hS : SR p σ τ) {F : Nat} (hF : 64 < F) : f_M_shared F τ = some (itP p 16) := by
  unfold f_M_shared
  rw [m_firstShared hS hF]
  show Option.bind (f_M_closed F τ (s0P p)) _ = _
  rw [m_close hS hF (s0P_okv hS.wf)]
  rfl
-- locks
def idl (p : PG) (s : Nat) : Bool := decide (¬ (XS p).1 (8 * pow p s + pnv p s 0) = 0 ∧ (XS p).1 (8 * pow p s + pnv p s 0) &&& itP p 16 = 0)
theorem e_isIdle (hS : SR p σ τ) {s : Nat} (hs : s < pS p) (hk : pkd p s = 10) : f_X_isIdle σ (nI s) = some (bI (idl p s)) := by
  have hw := hS.wf
  obtain ⟨h64, hm, hst⟩ := WF_step hw hs
  obtain ⟨n1, n2⟩ := e_n0 hS.ae hw hs (by omega)
  unfold f_X_isIdle idl
  rw [e_owner hS.ae hw hs]
  show Option.bind (f_P_need σ (nI s) (nI 0)) _ = _
  rw [n1]
  show Option.bind (f_S_ofName σ (nI (pow p s)) (nI (pnv p s 0))) _ = _
  rw [e_ofName hm n2, hS.x1.1]
  show (if (XS p).1 (8 * pow p s + pnv p s 0) = 0 then _ else _) = _
  rw [hS.shd]
  by_cases c : (XS p).1 (8 * pow p s + pnv p s 0) = 0
  · rw [if_pos c, decide_eq_false (fun z => z.1 c)]; rfl
  · rw [if_neg c]
    by_cases d : (XS p).1 (8 * pow p s + pnv p s 0) &&& itP p 16 = 0
    · rw [if_pos d, decide_eq_true ⟨c, d⟩]; rfl
    · rw [if_neg d, decide_eq_false (fun z => d z.2)]; rfl
theorem m_isIdle (hS : SR p σ τ) {F : Nat} (hF : 64 < F) {s : Nat} (hs : s < pS p) (hk : pkd p s = 10) : f_M_isIdle F τ (nI s) = some (bI (idl p s)) := by
  have hw := hS.wf
  obtain ⟨h64, hm, hst⟩ := WF_step hw hs
  obtain ⟨i0, i5, c0, c5⟩ := m_ix hw hs
  obtain ⟨r1, r2, r3, r4⟩ := hS.am.2.2.2.1 s hs
  obtain ⟨n1, n2⟩ := m_n0 hS.am hw hs (by omega)
  unfold f_M_isIdle idl
  rw [n5_I, c0, if_pos i0, c5, if_pos i5, r1, n1, m_name hm n2, hS.x1.2, m_shared hS hF]
  show (if (XS p).1 (8 * pow p s + pnv p s 0) = 0 then _ else _) = _
  by_cases c : (XS p).1 (8 * pow p s + pnv p s 0) = 0
  · rw [if_pos c, decide_eq_false (fun z => z.1 c)]; rfl
  · rw [if_neg c]
    show (if (XS p).1 (8 * pow p s + pnv p s 0) &&& itP p 16 = 0 then _ else _) = _
    by_cases d : (XS p).1 (8 * pow p s + pnv p s 0) &&& itP p 16 = 0
    · rw [if_pos d, decide_eq_true ⟨c, d⟩]; rfl
    · rw [if_neg d, decide_eq_false (fun z => d z.2)]; rfl
end CA
theorem op_idle : Op_idle FU Rel := by
  intro σ τ a1 hR
  have hR0 := hR
  obtain ⟨p, hw, h, h', hz, hz', hs, hs'⟩ := hR
  have hSt := hw.2.2.1
  unfold f_E_idle f_M_idle
  rcases rg a1 (pS p) (by omega) with ⟨s, hss, rfl⟩ | ho
  · obtain ⟨h64, hm, hst⟩ := WF_step hw hss
    have e10 : (nI (pkd p s) = 10) ↔ pkd p s = 10 := kdI hw hss 10 (by omega)
    rw [e_isSt_in h hw hss, m_isSt_in h' hw hss]
    by_cases c : pkd p s = 10
    · obtain ⟨σ', τ', e1, e2, hS⟩ := both hw h h' hz hz' hs hs'
      refine ⟨(if bt (liveP p) (pow p s) = true then bI (idl p s) else -1, σ'), (if bt (liveP p) (pow p s) = true then bI (idl p s) else -1, τ'), ?_, ?_, rfl, hS.rel⟩
      · show Option.bind (f_P_kind σ (nI s)) _ = _
        rw [e_kind h hw hss]
        show (if nI (pkd p s) = 10 then _ else _) = _
        rw [if_pos (e10.mpr c), e1]
        show Option.bind (f_P_owner σ' (nI s)) _ = _
        rw [e_owner hS.ae hw hss]
        show Option.bind (f_E_has (σ' 2 7) (nI (pow p s))) _ = _
        rw [v_has (by omega), hS.lv.1]
        show (if bI (bt (liveP p) (pow p s)) = 0 then _ else _) = _
        rw [bIif, e_isIdle hS hss c]
        by_cases l : bt (liveP p) (pow p s) = true
        · rw [if_pos l, if_pos l]
          cases idl p s <;> rfl
        · rw [if_neg l, if_neg l]
      · obtain ⟨i0, i5, c0, c5⟩ := m_ix hw hss
        obtain ⟨r1, r2, r3, r4⟩ := h'.2.2.2.1 s hss
        show (if ¬ (nI s < 0 ∨ 64 ≤ (nI s).toNatClampNeg) then _ else _) = _
        rw [c0, if_pos i0, r2, if_pos (e10.mpr c), e2]
        show Option.bind (f_M_isLive τ' (nI s)) _ = _
        rw [m_isLive hS.am hw hss, hS.lv.2]
        show (if bI (bt (liveP p) (pow p s)) = 0 then _ else _) = _
        rw [bIif, m_isIdle hS (by decide) hss c]
        by_cases l : bt (liveP p) (pow p s) = true
        · rw [if_pos l, if_pos l]
          cases idl p s <;> rfl
        · rw [if_neg l, if_neg l]
    · refine ⟨(-2, σ), (-2, τ), ?_, ?_, rfl, hR0⟩
      · show Option.bind (f_P_kind σ (nI s)) _ = _
        rw [e_kind h hw hss]
        show (if nI (pkd p s) = 10 then _ else _) = _
        rw [if_neg (fun z => c (e10.mp z))]
      · obtain ⟨i0, i5, c0, c5⟩ := m_ix hw hss
        obtain ⟨r1, r2, r3, r4⟩ := h'.2.2.2.1 s hss
        show (if ¬ (nI s < 0 ∨ 64 ≤ (nI s).toNatClampNeg) then _ else _) = _
        rw [c0, if_pos i0, r2, if_neg (fun z => c (e10.mp z))]
  · rw [e_isSt_out h ho, m_isSt_out h' hw ho]
    exact ⟨(-2, σ), (-2, τ), rfl, rfl, rfl, hR0⟩
section CB
variable {σ τ : St} {p : PG}
theorem calE_live {m : Nat} (h : bt (liveP p) m = true) : calE p (liveP p) m = cal p m := by
  unfold calE
  rw [if_neg (fun z => by rw [h] at z; cases z.2)]
theorem calE_dead {m : Nat} (hm : m < 8) (h : ¬ bt (liveP p) m = true) : calE p (liveP p) m = 0 := by
  unfold calE
  rw [if_pos ⟨hm, by cases g : bt (liveP p) m; rfl; exact absurd g h⟩]
theorem calE_sub (m : Nat) : subb (calE p (liveP p) m) (cal p m) := by
  unfold calE
  by_cases c : m < 8 ∧ bt (liveP p) m = false
  · rw [if_pos c]; exact subb_0 _
  · rw [if_neg c]; exact subb_r _
theorem calE_low (hw : WF p) (m : Nat) : lowb 8 (calE p (liveP p) m) := fun i hi => cal_low8 hw m i (calE_sub m i hi)
/-- from LIVE METHODS both come to the same -/
theorem calE_lst (hw : WF p) {x r : Int32} (hx : subb x (liveP p)) (h : Lst (calE p (liveP p)) x r) : Lst (cal p) x r := by
  have hL := (liveP_lst hw).2.1
  have hr : subb r (liveP p) := h.2.2 _ hx (fun m hm hb => subb_t (calE_sub m) (hL m hm hb))
  refine ⟨h.1, fun m hm hb => ?_, fun y h1 h2 => h.2.2 y h1 (fun m hm hb => subb_t (calE_sub m) (h2 m hm hb))⟩
  rw [← calE_live (hr m hb)]
  exact h.2.1 m hm hb
theorem wcO_0 (c : Nat → Int32) : ∀ n, wcO c 0 n = 0 := by
  have z : ∀ n, wcI c 0 n = 0 := by
    intro n
    induction n with
    | zero => rfl
    | succ n ih => rw [wcI_s, ih, if_neg (by rw [b_0]; decide)]
  intro n
  induction n with
  | zero => rfl
  | succ n ih => rw [wcO_s, ih, z]
def cll (p : PG) (m : Nat) : Int32 := orS (fun s => decide (pkd p s = 6 ∧ pnv p s 0 = m)) (pow p) (pS p)
theorem cll_iff (hw : WF p) {m i : Nat} : bt (cll p m) i = true ↔ bt (cal p i) m = true := by
  unfold cll
  rw [orS_bit (pS p) (fun s hs _ => by have := (WF_step hw hs).2.1; omega), cal_iff hw]
  refine ⟨fun ⟨s, h1, h2, h3⟩ => ?_, fun ⟨s, h1, h2, h3, h4⟩ => ⟨s, h1, decide_eq_true ⟨h2, h4⟩, h3⟩⟩
  have := of_decide_eq_true h2
  exact ⟨s, h1, this.1, h3, this.2⟩
theorem e_callersOf (hS : SR p σ τ) {F : Nat} (hF : 64 < F) {m : Nat} (hm : m < 8) : f_S_callersOf F σ (nI m) = some (orS (fun k => bt (calE p (liveP p) k) m) (fun k => k) 8) := by
  have hl := lpO (N := 8) (F := F) (fun k => bt (calE p (liveP p) k) m) (fun k => k) (f_S_callersOf_L4 F σ (nI m)) (fun fu y => by
      show f_S_callersOf_B4 F σ (nI m) _ y (nI 8) = _
      unfold f_S_callersOf_B4
      rw [if_pos le_8]) (fun k fu y hk => by
      show f_S_callersOf_B4 F σ (nI m) _ y (nI k) = _
      unfold f_S_callersOf_B4
      rw [if_neg (lt_8 hk), v_at hk (by omega), hS.cl, nI_1]
      show Option.bind (f_E_has (calE p (liveP p) k) (nI m)) _ = _
      rw [v_has (by omega)]
      show (if bI _ = 0 then _ else _) = _
      rw [bIif]
      split <;> rfl) (by omega)
  unfold f_S_callersOf
  rw [show (0 : Int32) = nI 0 from rfl, hl]
  rfl
theorem m_callers (hS : SR p σ τ) {F : Nat} (hF : 64 < F) {m : Nat} (hm : m < 8) : f_M_callers F τ (nI m) = some (cll p m) := by
  have hw := hS.wf
  have h := hS.am
  have hSt := hw.2.2.1
  have hl := lpO (N := pS p) (F := F) (fun s => decide (pkd p s = 6 ∧ pnv p s 0 = m)) (pow p) (f_M_callers_L4 F τ (nI m)) (fun fu y => by
      show f_M_callers_B4 F τ (nI m) _ y (nI (pS p)) = _
      unfold f_M_callers_B4
      rw [h.2.1, if_pos (nI_le (Nat.le_refl _) (by omega))]) (fun k fu y hk => by
      show f_M_callers_B4 F τ (nI m) _ y (nI k) = _
      obtain ⟨h64, hm', hst⟩ := WF_step hw hk
      obtain ⟨i0, i5, c0, c5⟩ := m_ix hw hk
      obtain ⟨r1, r2, r3, r4⟩ := h.2.2.2.1 k hk
      have e6 : (nI (pkd p k) = 6) ↔ pkd p k = 6 := kdI hw hk 6 (by omega)
      unfold f_M_callers_B4
      simp only [n5_I, c0, c5, if_pos i0, if_pos i5, r1, r2, nI_1]
      rw [h.2.1, if_neg (nI_ge hk (by omega))]
      by_cases c : pkd p k = 6
      · have n0 : τ 4 (5 * k) = nI (pnv p k 0) := by
          have := r4 0 (by rw [c]; decide)
          rw [Nat.add_zero, ndI_z] at this
          exact this
        have hto : pnv p k 0 < 16 := by have := hst.2.2.2 0 (by rw [c]; decide); rw [c] at this; simp [limN] at this; have := hw.2.1; omega
        have em : (nI (pnv p k 0) = nI m) ↔ pnv p k 0 = m := nI_eq (by omega) (by omega)
        rw [if_pos (e6.mpr c), n0]
        by_cases d : pnv p k 0 = m
        · rw [if_pos (em.mpr d), if_pos (decide_eq_true ⟨c, d⟩)]; rfl
        · rw [if_neg (fun z => d (em.mp z)), if_neg (fun z => d (of_decide_eq_true z).2)]
      · rw [if_neg (fun z => c (e6.mp z)), if_neg (fun z => c (of_decide_eq_true z).1)]) (by omega)
  unfold f_M_callers
  rw [show (0 : Int32) = nI 0 from rfl, hl]
  rfl
end CB
theorem op_calls : Op_calls FU Rel := by
  intro σ τ a1 a2 hR
  have hR0 := hR
  obtain ⟨p, hw, h, h', hz, hz', hs, hs'⟩ := hR
  have hM := hw.2.1
  have hF : 64 < FU := by decide
  unfold f_E_calls f_M_calls
  rcases rg a1 (pM p) (by omega) with ⟨m, hm, rfl⟩ | ho
  · rw [e_isM_in h hw hm, m_isM_in h' hw hm]
    have hm8 : m < 8 := by omega
    rcases rg a2 3 (by omega) with ⟨x, hx, rfl⟩ | ho
    · obtain ⟨σ', τ', e1, e2, hS⟩ := both hw h h' hz hz' hs hs'
      have b1 : f_E_isBelow (nI x) 3 = some 1 := v_below_in (n := 3) hx (by omega)
      -- the common answer
      have key : ∃ r, (if nI x = 0 then (Option.bind (f_E_at 8 (σ' 10) (nI m)) (fun u60 => some (u60, σ'))) else if nI x = 1 then (Option.bind (f_E_at 8 (σ' 10) (nI m)) (fun u76 => Option.bind (f_S_withCallees FU σ' u76) (fun u79 => some (u79, σ')))) else (Option.bind (f_S_callersOf FU σ' (nI m)) (fun u88 => some (u88, σ')))) = some (r, σ') ∧ (if bI (bt (liveP p) m) = 0 then (some ((0 : Int32), τ')) else (if nI x = 0 then (Option.bind (f_M_calledBy FU τ' (nI m)) (fun u43 => some (u43, τ'))) else (if nI x = (1 : Int32) then (Option.bind (f_M_calledBy FU τ' (nI m)) (fun u57 => Option.bind (f_M_allCalled FU τ' u57) (fun u60 => some (u60, τ')))) else (Option.bind (f_M_callers FU τ' (nI m)) (fun u68 => some ((u68 &&& (τ' 0 12)), τ')))))) = some (r, τ') := by
        rw [bIif, v_at hm8 (by omega), hS.cl, e_callersOf hS hF hm8, m_calledBy hS.am hw hF hm8, m_callers hS hF hm8, hS.lv.2]
        by_cases l : bt (liveP p) m = true
        · rw [if_pos l, calE_live l]
          rcases (show x = 0 ∨ x = 1 ∨ x = 2 by omega) with rfl | rfl | rfl
          · exact ⟨cal p m, rfl, rfl⟩
          · refine ⟨wcO (calE p (liveP p)) (cal p m) 8, ?_, ?_⟩
            · show Option.bind (f_S_withCallees FU σ' (cal p m)) _ = _
              rw [e_withCallees (by decide), hS.cl]
              rfl
            · show Option.bind (f_M_allCalled FU τ' (cal p m)) _ = _
              obtain ⟨r, er, hr⟩ := m_allCalled hS.am hw hF (cal_low8 hw m)
              have h1 := calE_lst hw ((liveP_lst hw).2.1 m hm8 l) (wcO_lst (cal_low8 hw m) (calE_low hw))
              rw [er, Lst_u hr h1]
              rfl
          · refine ⟨cll p m &&& liveP p, ?_, rfl⟩
            show some (orS (fun k => bt (calE p (liveP p) k) m) (fun k => k) 8, σ') = _
            congr 2
            apply b_iff
            intro i _
            rw [orS_bit 8 (fun s hs _ => by omega), b_and, Bool.and_eq_true, cll_iff hw]
            refine ⟨fun ⟨s, h1, h2, h3⟩ => ?_, fun ⟨h1, h2⟩ => ?_⟩
            · subst h3
              by_cases g : bt (liveP p) s = true
              · exact ⟨calE_sub s m h2, g⟩
              · have h2' : bt (calE p (liveP p) s) m = true := h2
                rw [calE_dead h1 g, b_0] at h2'; cases h2'
            · have := liveP_low hw i h2
              refine ⟨i, by omega, ?_, rfl⟩
              show bt (calE p (liveP p) i) m = true
              rw [calE_live h2]; exact h1
        · rw [if_neg l, calE_dead hm8 l]
          refine ⟨0, ?_, rfl⟩
          rcases (show x = 0 ∨ x = 1 ∨ x = 2 by omega) with rfl | rfl | rfl
          · rfl
          · rw [if_neg (by decide), if_pos (by decide)]
            show Option.bind (f_S_withCallees FU σ' 0) _ = _
            rw [e_withCallees (by decide), wcO_0]
            rfl
          · show some (orS (fun k => bt (calE p (liveP p) k) m) (fun k => k) 8, σ') = _
            congr 2
            apply b_iff
            intro i _
            rw [orS_bit 8 (fun s hs _ => by omega), b_0]
            refine ⟨fun ⟨s, h1, h2, h3⟩ => ?_, fun h => by cases h⟩
            exfalso
            have h2' : bt (calE p (liveP p) s) m = true := h2
            by_cases g : bt (liveP p) s = true
            · rw [calE_live g] at h2'
              exact l ((liveP_lst hw).2.1 s h1 g m h2')
            · rw [calE_dead h1 g, b_0] at h2'; cases h2'
      obtain ⟨r, k1, k2⟩ := key
      refine ⟨(r, σ'), (r, τ'), ?_, ?_, rfl, hS.rel⟩
      · show Option.bind (f_E_isBelow (nI x) 3) _ = _
        rw [b1]
        show Option.bind (f_S_solve FU σ) _ = _
        rw [e1]
        exact k1
      · show Option.bind (f_M_isIn (nI x) 0 2) _ = _
        rw [v_isIn_inC (n := 3) (by decide) hx (by omega)]
        show Option.bind (f_M_solve FU τ) _ = _
        rw [e2]
        show Option.bind (f_M_has (τ' 0 12) (nI m)) _ = _
        rw [v_Mhas (by omega)]
        have k2' := k2
        rw [← hS.lv.2] at k2'
        exact k2'
    · have b1 : f_E_isBelow a2 3 = some 0 := v_below_out (n := 3) ho
      refine ⟨(-2, σ), (-2, τ), ?_, ?_, rfl, hR0⟩
      · show Option.bind (f_E_isBelow a2 3) _ = _
        rw [b1]; rfl
      · show Option.bind (f_M_isIn a2 0 2) _ = _
        rw [v_isIn_outC (n := 3) (by decide) (by omega) ho]; rfl
  · rw [e_isM_out h ho, m_isM_out h' hw ho]
    exact ⟨(-2, σ), (-2, τ), rfl, rfl, rfl, hR0⟩
