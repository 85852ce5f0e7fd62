/-! Pure rows: the functional programs in closed form. -/
def bt (x : Int32) (i : Nat) : Bool := x.toBitVec.getLsbD i
theorem b_ext {x y : Int32} (h : ∀ i, i < 32 → bt x i = bt y i) : x = y := Int32.toBitVec_inj.mp (BitVec.eq_of_getLsbD_eq (fun i hi => h i hi))
theorem b_or (x y : Int32) (i : Nat) : bt (x ||| y) i = (bt x i || bt y i) := by unfold bt; rw [Int32.toBitVec_or, BitVec.getLsbD_or]
theorem b_and (x y : Int32) (i : Nat) : bt (x &&& y) i = (bt x i && bt y i) := by unfold bt; rw [Int32.toBitVec_and, BitVec.getLsbD_and]
theorem b_xor (x y : Int32) (i : Nat) : bt (x ^^^ y) i = (bt x i ^^ bt y i) := by unfold bt; rw [Int32.toBitVec_xor, BitVec.getLsbD_xor]
theorem b_big {x : Int32} {i : Nat} (h : 32 ≤ i) : bt x i = false := BitVec.getLsbD_of_ge _ _ h
theorem b_m1 : ∀ i, i < 32 → bt (-1) i = true := by decide +kernel
theorem b_0 (i : Nat) : bt 0 i = false := BitVec.getLsbD_zero
theorem s_l : ∀ n, n < 32 → ((nI n &&& 31).toBitVec.smod 32).toNat = n := by decide +kernel
theorem s_u : ∀ n, n < 32 → (((nI n).toUInt32 &&& Int32.toUInt32 31).toBitVec % 32).toNat = n := by decide +kernel
theorem b_shl (n : Nat) (hn : n < 32) (x : Int32) {i : Nat} (hi : i < 32) : bt (x <<< (nI n &&& 31)) i = (decide (n ≤ i) && bt x (i - n)) := by
  unfold bt
  rw [Int32.toBitVec_shiftLeft]
  show (x.toBitVec <<< ((nI n &&& 31).toBitVec.smod 32).toNat).getLsbD i = _
  rw [s_l n hn, BitVec.getLsbD_shiftLeft]
  rcases Nat.lt_or_ge i n with h | h
  · simp [h, Nat.not_le.mpr h]
  · simp [hi, h, Nat.not_lt.mpr h]
theorem b_ushr (n : Nat) (hn : n < 32) (x : Int32) (i : Nat) : bt ((x.toUInt32 >>> ((nI n).toUInt32 &&& Int32.toUInt32 31)).toInt32) i = bt x (n + i) := by
  show (x.toUInt32 >>> ((nI n).toUInt32 &&& Int32.toUInt32 31)).toBitVec.getLsbD i = x.toUInt32.toBitVec.getLsbD (n + i)
  rw [UInt32.toBitVec_shiftRight]
  show (x.toUInt32.toBitVec >>> (((nI n).toUInt32 &&& Int32.toUInt32 31).toBitVec % 32).toNat).getLsbD i = _
  rw [s_u n hn, BitVec.getLsbD_ushiftRight]
theorem b_sshr (n : Nat) (hn : n < 32) (x : Int32) {i : Nat} (hi : i < 32) : bt (x >>> (nI n &&& 31)) i = if n + i < 32 then bt x (n + i) else bt x 31 := by
  unfold bt
  rw [Int32.toBitVec_shiftRight]
  show (x.toBitVec.sshiftRight ((nI n &&& 31).toBitVec.smod 32).toNat).getLsbD i = _
  rw [s_l n hn, BitVec.getLsbD_sshiftRight, BitVec.msb_eq_getLsbD_last]
  simp [hi]
theorem b_1 : ∀ i, i < 32 → bt 1 i = decide (i = 0) := by decide +kernel
/-- one bit -/
def sh (n : Nat) : Int32 := (1 : Int32) <<< (nI n &&& 31)
theorem b_sh {n i : Nat} (hn : n < 32) (hi : i < 32) : bt (sh n) i = decide (i = n) := by
  unfold sh
  rw [b_shl n hn 1 hi]
  by_cases h : n ≤ i
  · rw [b_1 (i - n) (by omega), decide_eq_true h, Bool.true_and]
    apply decide_eq_decide.mpr
    omega
  · rw [decide_eq_false h, Bool.false_and, decide_eq_false (by omega)]
theorem b_iff {x y : Int32} (h : ∀ i, i < 32 → (bt x i = true ↔ bt y i = true)) : x = y := b_ext (fun i hi => Bool.eq_iff_iff.mpr (h i hi))
def bI (b : Bool) : Int32 := if b then 1 else 0
theorem bI_t : bI true = 1 := rfl
theorem bI_f : bI false = 0 := rfl
theorem bI_01 (b : Bool) : bI b = 0 ∨ bI b = 1 := by cases b <;> simp [bI]
theorem bI_0 (b : Bool) : bI b = 0 ↔ b = false := by cases b <;> decide
theorem and1 (x : Int32) : x &&& 1 = bI (bt x 0) := by
  apply b_ext
  intro i hi
  rw [b_and, b_1 i hi]
  by_cases h : i = 0
  · subst h
    cases bt x 0 <;> decide
  · rw [decide_eq_false h, Bool.and_false]
    cases bt x 0
    · rw [bI_f, b_0]
    · rw [bI_t, b_1 i hi, decide_eq_false h]
-- indices
theorem ix_n {k : Nat} (h : k < 2 ^ 31) : ¬ (nI k < 0) := nI_pos h
theorem ix_c {k : Nat} (h : k < 2 ^ 31) : (nI k).toNatClampNeg = k := nI_clamp h
theorem ix_in {k n : Nat} (h : k < n) (hn : n < 2 ^ 31) : ¬ (nI k < 0 ∨ n ≤ (nI k).toNatClampNeg) := nI_in h hn
theorem nI_mul (a b : Nat) : nI a * nI b = nI (a * b) := pk_mul a b
theorem nI_8 (a : Nat) : nI a * 8 = nI (8 * a) := by rw [Nat.mul_comm]; exact pk_mul a 8
theorem nI_5 (a : Nat) : nI a * 5 = nI (5 * a) := by rw [Nat.mul_comm]; exact pk_mul a 5
theorem nI_4 (a : Nat) : nI a * 4 = nI (4 * a) := by rw [Nat.mul_comm]; exact pk_mul a 4
theorem n5_I (a : Nat) : 5 * nI a = nI (5 * a) := pk_mul 5 a
theorem n8_I (a : Nat) : 8 * nI a = nI (8 * a) := pk_mul 8 a
theorem n4_I (a : Nat) : 4 * nI a = nI (4 * a) := pk_mul 4 a
theorem nI_k0 : (0 : Int32) = nI 0 := rfl
theorem nI_k1 : (1 : Int32) = nI 1 := rfl
theorem nI_k2 : (2 : Int32) = nI 2 := rfl
theorem nI_k3 : (3 : Int32) = nI 3 := rfl
theorem nI_k4 : (4 : Int32) = nI 4 := rfl
theorem nI_k8 : (8 : Int32) = nI 8 := rfl
theorem nI_k16 : (16 : Int32) = nI 16 := rfl
theorem nI_k64 : (64 : Int32) = nI 64 := rfl
-- primitives
theorem v_below_in {j n : Nat} (h : j < n) (hn : n < 2 ^ 31) : f_E_isBelow (nI j) (nI n) = some 1 := by
  unfold f_E_isBelow
  rw [if_neg (ix_n (by omega)), if_neg (nI_ge h hn)]
theorem v_below_out {x : Int32} {n : Nat} (h : x < 0 ∨ nI n ≤ x) : f_E_isBelow x (nI n) = some 0 := by
  unfold f_E_isBelow
  by_cases c : x < 0
  · rw [if_pos c]
  · rw [if_neg c, if_pos (h.resolve_left c)]
theorem v_at {k n : Nat} {f : Nat → Int32} (h : k < n) (hn : n < 2 ^ 31) : f_E_at n f (nI k) = some (f k) := by
  unfold f_E_at
  rw [if_neg (ix_n (by omega)), if_neg (nI_ge h hn), if_pos (ix_in h hn), ix_c (by omega)]
theorem v_put {k n : Nat} {f : Nat → Int32} {v : Int32} (h : k < n) (hn : n < 2 ^ 31) : f_E_put n f (nI k) v = some (upd f k v) := by
  unfold f_E_put
  rw [if_neg (ix_n (by omega)), if_neg (nI_ge h hn), if_pos (ix_in h hn), ix_c (by omega)]
/-- a set joined to a place -/
def jn (f : Nat → Int32) (k : Nat) (v : Int32) : Nat → Int32 := upd f k (f k ||| v)
def jg (f : Nat → Int32) (k : Nat) (v : Int32) : Bool := decide (¬ (f k ||| v = f k))
theorem v_join {k n : Nat} {f : Nat → Int32} {v : Int32} (h : k < n) (hn : n < 2 ^ 31) : f_E_join n f (nI k) v = some (bI (jg f k v), jn f k v) := by
  unfold f_E_join
  rw [if_neg (ix_n (by omega)), if_pos (nI_lt h hn), if_pos (ix_in h hn), if_pos (ix_in h hn), if_pos (ix_in h hn), ix_c (by omega)]
  rw [pk_us]
  unfold jg jn
  by_cases c : f k ||| v = f k
  · rw [if_pos c]; simp [c, bI]
  · rw [if_neg c]; simp [c, bI]
theorem v_has {k : Nat} {x : Int32} (h : k < 32) : f_E_has x (nI k) = some (bI (bt x k)) := by
  unfold f_E_has
  rw [if_neg (ix_n (by omega)), if_neg (show ¬ (32 : Int32) ≤ nI k from nI_ge (b := 32) h (by omega)), and1]
  have e : bt (ushr x (nI k)) 0 = bt x k := by
    unfold ushr
    rw [b_ushr k h x 0, Nat.add_zero]
  rw [e]
  cases bt x k <;> simp [bI]
theorem v_hasN {x : Int32} : f_E_has x (-1) = some 0 := by
  unfold f_E_has
  rw [if_pos (by decide)]
theorem v_Mhas {k : Nat} {x : Int32} (h : k < 32) : f_M_has x (nI k) = some (bI (bt x k)) := by
  unfold f_M_has
  rw [and1]
  have e : bt (x >>> (nI k &&& 31)) 0 = bt x k := by
    rw [b_sshr k h x (by omega), Nat.add_zero, if_pos h]
  rw [e]
  cases bt x k <;> simp [bI]
theorem v_isIn_in {j n : Nat} (h : j < n) (hn : n < 2 ^ 30) : f_M_isIn (nI j) 0 (nI n - 1) = some 1 := by
  have e : nI n - 1 = nI (n - 1) := by
    have := nI_pred (n - 1)
    rw [show n - 1 + 1 = n by omega] at this
    exact this
  unfold f_M_isIn
  rw [if_neg (ix_n (by omega)), e, if_neg (nI_nlt (by omega) (by omega))]
theorem v_isIn_out {x : Int32} {n : Nat} (hn : n < 2 ^ 30) (h : x < 0 ∨ nI n ≤ x) : f_M_isIn x 0 (nI n - 1) = some 0 := by
  unfold f_M_isIn
  by_cases c : x < 0
  · rw [if_pos c]
  · rw [if_neg c, if_pos ?_]
    have h2 := h.resolve_left c
    rw [Int32.le_iff_toInt_le, nI_toInt (by omega)] at h2
    have e1 : (nI n - 1).toInt = (n : Int) - 1 := pk_sub_toInt (a := n) (b := 1) (by omega) (by omega)
    rw [Int32.lt_iff_toInt_lt, e1]
    omega
theorem loopN {α β : Type} (N : Nat) (L : Nat → α → Option β) (st : Nat → α) (res : β) (he : ∀ fu, L (fu + 1) (st N) = some res) (hs : ∀ k fu, k < N → L (fu + 1) (st k) = L fu (st (k + 1))) : ∀ fu, N < fu → L fu (st 0) = some res := by
  have key : ∀ d k fu, k + d = N → d < fu → L fu (st k) = some res := by
    intro d
    induction d with
    | zero =>
      intro k fu e h
      obtain ⟨fu, rfl⟩ : ∃ z, fu = z + 1 := ⟨fu - 1, by omega⟩
      rw [show k = N by omega]
      exact he fu
    | succ d ih =>
      intro k fu e h
      obtain ⟨fu, rfl⟩ : ∃ z, fu = z + 1 := ⟨fu - 1, by omega⟩
      rw [hs k fu (by omega)]
      exact ih (k + 1) fu (by omega) (by omega)
  intro fu h
  exact key N 0 fu (by omega) h
theorem loop1 {A β : Type} (N : Nat) (L : Nat → A → Option β) (a : Nat → A) (res : β) (he : ∀ fu, L (fu + 1) (a N) = some res) (hs : ∀ k fu, k < N → L (fu + 1) (a k) = L fu (a (k + 1))) (fu : Nat) (h : N < fu) : L fu (a 0) = some res := loopN N L a res he hs fu h
theorem loop2 {A B β : Type} (N : Nat) (L : Nat → A → B → Option β) (a : Nat → A) (b : Nat → B) (res : β) (he : ∀ fu, L (fu + 1) (a N) (b N) = some res) (hs : ∀ k fu, k < N → L (fu + 1) (a k) (b k) = L fu (a (k + 1)) (b (k + 1))) (fu : Nat) (h : N < fu) : L fu (a 0) (b 0) = some res := loopN N (fun fu p => L fu p.1 p.2) (fun k => (a k, b k)) res he hs fu h
theorem loop3 {A B C β : Type} (N : Nat) (L : Nat → A → B → C → Option β) (a : Nat → A) (b : Nat → B) (c : Nat → C) (res : β) (he : ∀ fu, L (fu + 1) (a N) (b N) (c N) = some res) (hs : ∀ k fu, k < N → L (fu + 1) (a k) (b k) (c k) = L fu (a (k + 1)) (b (k + 1)) (c (k + 1))) (fu : Nat) (h : N < fu) : L fu (a 0) (b 0) (c 0) = some res := loopN N (fun fu p => L fu p.1 p.2.1 p.2.2) (fun k => (a k, b k, c k)) res he hs fu h
theorem v_fill {F n : Nat} {f : Nat → Int32} {v : Int32} (hF : n < F) (hn : n < 2 ^ 31) : f_E_fill F n f v = some (fun i => if i < n then v else f i) := by
  have h := loop2 n (f_E_fill_L2 F n v) (fun k => nI k) (fun k i => if i < k then v else f i) (nI n, fun i => if i < n then v else f i) (fun fu => by
      show f_E_fill_B2 F n v (f_E_fill_L2 F n v fu) (nI n) _ = _
      unfold f_E_fill_B2
      rw [if_pos (nI_le (Nat.le_refl n) hn)]) (fun k fu hk => by
      show f_E_fill_B2 F n v (f_E_fill_L2 F n v fu) (nI k) _ = f_E_fill_L2 F n v fu (nI (k + 1)) _
      unfold f_E_fill_B2
      rw [if_neg (nI_ge hk hn), if_pos (ix_in hk hn), ix_c (by omega), nI_1]
      congr 1
      funext i
      unfold upd
      by_cases e : i = k
      · subst e; simp
      · rw [if_neg e]
        show (if i < k then v else f i) = _
        by_cases g : i < k
        · rw [if_pos g, if_pos (by omega)]
        · rw [if_neg g, if_neg (by omega)]) F hF
  have e : (fun i => if i < 0 then v else f i) = f := by funext i; simp
  unfold f_E_fill
  rw [e] at h
  rw [show (0 : Int32) = nI 0 from rfl, h]
  rfl
