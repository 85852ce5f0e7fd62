/-! THE CLAIM OUT OF ONE WALK OF THE LAW'S BODY. Your part is whole_start (and what it stands on); all else here is the same for every law, but numbers. -/
def R_law : String := "EscapeOwnersLaw"
def lw_P (b : Addr) (xs : List Int32) (args : Array Value) (s : State) : Prop := args = #[.ref b] ∧ s.IntsAt b xs ∧ xs.length ≤ 3584 ∧ (Jvm.Cond.and given_1 narrow_1).before args s = true
def lw_Q (_ : Array Value) (s : State) (o : Outcome) (t : State) : Prop := o = .returned (some (.int 1)) ∧ Framed s o t [] 28 1478
def lw_Z (below : List Frame) (a : Array Value) (s : State) : State → Prop := fun t => ∃ o, t.status = .running ∧ Ended t below o ∧ lw_Q a s o t
/-- the law's own end, with 1 on the stack, nothing written that was there before, its room as the claim has it -/
theorem lw_ret {p : Program} {l : Launch} {e : Env} {s : State} {m : MethodId} {below : List Frame} {meth : Method} {c : Code} {b : Nat} (hx : p.tables.exec = Jvm.exec) (hb : c.code = code) (hr : meth.sig.returnType = ret) (hlocks : meth.locks = false) {pc : Nat} {H : Heap} {ls : Array Slot} (hdg : decode code pc = .ok (.ireturn, 1)) : W p l e room_1 s m #[Value.ref b] below meth c H [] 28 1478 (lw_Z below #[Value.ref b] s) (F0 m pc ls [.int 1]) := by
  intro T hT X
  obtain ⟨fs, hret, hrun, hended, hW, hframe⟩ := X.leave (v := some (.int 1)) (hlocks := hlocks) (fun h => by rw [hr] at h; cases h)
  have hmeth' : T.vm.method? m = some meth := X.method'
  refine ⟨T.setFrames fs, ?_, .returned (some (.int 1)), hrun, hended, rfl, ⟨_, rfl⟩, hW, hframe⟩
  jvm_step X.here [X.here.top, hx, hb, hdg, hmeth', hr, ret, narrow_b1]
  (try refine ⟨rfl, ?_⟩); (try refine ⟨rfl, ?_⟩)
  first | (intro acts; rw [hret _ acts rfl rfl rfl]) | rw [hret _ _ rfl rfl rfl]
  exact Steps.refl _
/-- what holds at the law's entry: the machine, the code, the tables' words (any of lw_tbl by 'hts w (by decide +kernel)'), the script of L ints xs at the cell b, what the Statement gives of the start (any of its parts by flat_of_before) -/
def lw_At (p : Program) (s : State) (m : MethodId) (meth : Method) (c : Code) (b L : Nat) (xs : Nat → Int32) : Prop :=
  p.tables.exec = Jvm.exec ∧ c.code = code ∧ meth.sig.returnType = ret ∧ c.maxLocals = 4 ∧ s.vm.findClass R_law = some m.cls ∧ (∀ w ∈ lw_tbl, w.before #[Value.ref b] s = true) ∧ va_X b L xs s s.heap ∧ b < s.heap.size ∧ meth.locks = false ∧ (Jvm.Cond.and given_1 narrow_1).before #[Value.ref b] s = true
theorem TB_lwc {y : MethodName} {b : ByteArray} {n : Nat} {r : Option FieldType} (h : Cond.code y b n r ∈ TB) : GoodIn lw_tbl (Cond.code y b n r :: TB) := fun w hw => by
  have hT : w ∈ TB := by rcases List.mem_cons.mp hw with rfl | hw <;> assumption
  exact ⟨TB_lw w hT, good_of_word (TB_good w hT)⟩
theorem gVL {own C : String} {i : Nat} {y : MethodName} {b : ByteArray} {n : Nat} {r : Option FieldType} (h1 : Cond.methodLink own i y ∈ lw_tbl) (h2 : Cond.instanceMethod y ∈ TB) (h3 : Cond.selects C y y ∈ TB) (h4 : Cond.initialized C ∈ TB) (h : Cond.code y b n r ∈ TB) : GoodIn lw_tbl (wsV own i C y (Cond.code y b n r :: TB)) := fun w hw => by
  have hT : w = Cond.methodLink own i y ∨ w ∈ TB := by
    unfold wsV at hw
    rcases List.mem_append.mp hw with hw | hw
    · simp only [List.mem_cons, List.not_mem_nil, or_false] at hw
      rcases hw with rfl | rfl | rfl | rfl
      · exact Or.inl rfl
      · exact Or.inr h2
      · exact Or.inr h3
      · exact Or.inr h4
    · rcases List.mem_cons.mp hw with rfl | hw
      · exact Or.inr h
      · exact Or.inr hw
  rcases hT with rfl | hT
  · exact ⟨h1, good_of_word rfl⟩
  · exact ⟨TB_lw w hT, good_of_word (TB_good w hT)⟩
theorem va_Pswap {D : va_G} {cl : List vw_C} {a b : va_W} {H : Heap} (h : va_P D cl (a ++ b) H) : va_P D cl (b ++ a) H := by
  intro k q hk
  have hm : q ∈ a ++ b := by
    rcases List.mem_append.mp (List.mem_of_getElem? hk) with h | h
    · exact List.mem_append_right _ h
    · exact List.mem_append_left _ h
  obtain ⟨j, hj⟩ := List.getElem?_of_mem hm
  exact h j q hj
theorem va_Dswap {A : Nat → Prop} {a b : va_W} (h : va_D A (a ++ b)) : va_D A (b ++ a) := by
  have key : ∀ (k : Nat) (q : Nat × va_E), (b ++ a)[k]? = some q → (a ++ b)[if k < b.length then a.length + k else k - b.length]? = some q := by
    intro k q hk
    by_cases hl : k < b.length
    · rw [if_pos hl, List.getElem?_append_right (by omega)]
      rw [List.getElem?_append_left hl] at hk
      rw [show a.length + k - a.length = k by omega]
      exact hk
    · rw [if_neg hl]
      rw [List.getElem?_append_right (by omega)] at hk
      have hz := (List.getElem?_eq_some_iff.mp hk).1
      rw [List.getElem?_append_left hz]
      exact hk
  refine ⟨fun i j p q hp hq e => ?_, fun k q hk => h.2 _ q (key k q hk)⟩
  have hi := (List.getElem?_eq_some_iff.mp hp).1
  have hj := (List.getElem?_eq_some_iff.mp hq).1
  rw [List.length_append] at hi hj
  have e1 := h.1 _ _ p q (key i p hp) (key j q hq) e
  by_cases h1 : i < b.length <;> by_cases h2 : j < b.length
  · rw [if_pos h1, if_pos h2] at e1; omega
  · rw [if_pos h1, if_neg h2] at e1; omega
  · rw [if_neg h1, if_pos h2] at e1; omega
  · rw [if_neg h1, if_neg h2] at e1; omega
def mt0 : St := fun k j => cond (Nat.beq k 0 && (Nat.beq j 0 || Nat.beq j 13)) 1 0
theorem lw_room7 {i L : Nat} (hL : L ≤ 3584) (hi : i ≤ L) (c : ¬ nI L - 7 < nI i) : i + 7 ≤ L := by
  have e1 : (nI L - 7).toInt = (L : Int) - 7 := pk_sub_toInt (a := L) (b := 7) (by omega) (by omega)
  have e2 : (nI i).toInt = (i : Int) := nI_toInt (by omega)
  rw [Int32.lt_iff_toInt_lt, e1, e2] at c
  omega
def Op_clear (F : Nat) (Rel : St → St → Prop) : Prop := ∀ (σ τ : St), Rel σ τ → ∃ (u v : Int32 × St), f_E_clear σ = some u ∧ f_M_clear τ = some v ∧ u.1 = v.1 ∧ Rel u.2 v.2
def Op_method (F : Nat) (Rel : St → St → Prop) : Prop := ∀ (σ τ : St), Rel σ τ → ∃ (u v : Int32 × St), f_E_method σ = some u ∧ f_M_method τ = some v ∧ u.1 = v.1 ∧ Rel u.2 v.2
def Op_step (F : Nat) (Rel : St → St → Prop) : Prop := ∀ (σ τ : St) (a1 a2 a3 a4 a5 : Int32), Rel σ τ → ∃ (u v : Int32 × St), f_E_step F σ a1 a2 a3 a4 a5 = some u ∧ f_M_step τ a1 a2 a3 a4 a5 = some v ∧ u.1 = v.1 ∧ Rel u.2 v.2
def Op_call (F : Nat) (Rel : St → St → Prop) : Prop := ∀ (σ τ : St) (a1 a2 a3 a4 a5 a6 : Int32), Rel σ τ → ∃ (u v : Int32 × St), f_E_call F σ a1 a2 a3 a4 a5 a6 = some u ∧ f_M_call τ a1 a2 a3 a4 a5 a6 = some v ∧ u.1 = v.1 ∧ Rel u.2 v.2
def Op_undo (F : Nat) (Rel : St → St → Prop) : Prop := ∀ (σ τ : St), Rel σ τ → ∃ (u v : Int32 × St), f_E_undo σ = some u ∧ f_M_undo τ = some v ∧ u.1 = v.1 ∧ Rel u.2 v.2
def Op_told (F : Nat) (Rel : St → St → Prop) : Prop := ∀ (σ τ : St) (a1 a2 : Int32), Rel σ τ → ∃ u : Int32, f_E_told σ a1 a2 = some u ∧ f_M_told τ a1 a2 = some u
def Op_all (F : Nat) (Rel : St → St → Prop) : Prop := ∀ (σ τ : St) (a1 : Int32), Rel σ τ → ∃ (u v : Int32 × St), f_E_all F σ a1 = some u ∧ f_M_all F τ a1 = some v ∧ u.1 = v.1 ∧ Rel u.2 v.2
def Op_points (F : Nat) (Rel : St → St → Prop) : Prop := ∀ (σ τ : St) (a1 a2 : Int32), Rel σ τ → ∃ (u v : Int32 × St), f_E_points F σ a1 a2 = some u ∧ f_M_points F τ a1 a2 = some v ∧ u.1 = v.1 ∧ Rel u.2 v.2
def Op_field (F : Nat) (Rel : St → St → Prop) : Prop := ∀ (σ τ : St) (a1 a2 : Int32), Rel σ τ → ∃ (u v : Int32 × St), f_E_field F σ a1 a2 = some u ∧ f_M_field F τ a1 a2 = some v ∧ u.1 = v.1 ∧ Rel u.2 v.2
def Op_place (F : Nat) (Rel : St → St → Prop) : Prop := ∀ (σ τ : St) (a1 : Int32), Rel σ τ → ∃ (u v : Int32 × St), f_E_place F σ a1 = some u ∧ f_M_place F τ a1 = some v ∧ u.1 = v.1 ∧ Rel u.2 v.2
def Op_result (F : Nat) (Rel : St → St → Prop) : Prop := ∀ (σ τ : St) (a1 : Int32), Rel σ τ → ∃ (u v : Int32 × St), f_E_result F σ a1 = some u ∧ f_M_result F τ a1 = some v ∧ u.1 = v.1 ∧ Rel u.2 v.2
def Op_of (F : Nat) (Rel : St → St → Prop) : Prop := ∀ (σ τ : St) (a1 a2 : Int32), Rel σ τ → ∃ (u v : Int32 × St), f_E_of F σ a1 a2 = some u ∧ f_M_of F τ a1 a2 = some v ∧ u.1 = v.1 ∧ Rel u.2 v.2
def Op_meet (F : Nat) (Rel : St → St → Prop) : Prop := ∀ (σ τ : St) (a1 a2 a3 a4 : Int32), Rel σ τ → ∃ (u v : Int32 × St), f_E_meet F σ a1 a2 a3 a4 = some u ∧ f_M_meet F τ a1 a2 a3 a4 = some v ∧ u.1 = v.1 ∧ Rel u.2 v.2
def Op_reach (F : Nat) (Rel : St → St → Prop) : Prop := ∀ (σ τ : St) (a1 a2 : Int32), Rel σ τ → ∃ (u v : Int32 × St), f_E_reach F σ a1 a2 = some u ∧ f_M_reach F τ a1 a2 = some v ∧ u.1 = v.1 ∧ Rel u.2 v.2
def Op_parameter (F : Nat) (Rel : St → St → Prop) : Prop := ∀ (σ τ : St) (a1 a2 a3 : Int32), Rel σ τ → ∃ (u v : Int32 × St), f_E_parameter F σ a1 a2 a3 = some u ∧ f_M_parameter F τ a1 a2 a3 = some v ∧ u.1 = v.1 ∧ Rel u.2 v.2
def Op_idle (F : Nat) (Rel : St → St → Prop) : Prop := ∀ (σ τ : St) (a1 : Int32), Rel σ τ → ∃ (u v : Int32 × St), f_E_idle F σ a1 = some u ∧ f_M_idle F τ a1 = some v ∧ u.1 = v.1 ∧ Rel u.2 v.2
def Op_calls (F : Nat) (Rel : St → St → Prop) : Prop := ∀ (σ τ : St) (a1 a2 : Int32), Rel σ τ → ∃ (u v : Int32 × St), f_E_calls F σ a1 a2 = some u ∧ f_M_calls F τ a1 a2 = some v ∧ u.1 = v.1 ∧ Rel u.2 v.2
def OpsOK (F : Nat) (Rel : St → St → Prop) : Prop := Op_clear F Rel ∧ Op_method F Rel ∧ Op_step F Rel ∧ Op_call F Rel ∧ Op_undo F Rel ∧ Op_told F Rel ∧ Op_all F Rel ∧ Op_points F Rel ∧ Op_field F Rel ∧ Op_place F Rel ∧ Op_result F Rel ∧ Op_of F Rel ∧ Op_meet F Rel ∧ Op_reach F Rel ∧ Op_parameter F Rel ∧ Op_idle F Rel ∧ Op_calls F Rel
theorem ok_clear {F : Nat} {Rel : St → St → Prop} (h : OpsOK F Rel) : Op_clear F Rel := h.1
theorem ok_method {F : Nat} {Rel : St → St → Prop} (h : OpsOK F Rel) : Op_method F Rel := h.2.1
theorem ok_step {F : Nat} {Rel : St → St → Prop} (h : OpsOK F Rel) : Op_step F Rel := h.2.2.1
theorem ok_call {F : Nat} {Rel : St → St → Prop} (h : OpsOK F Rel) : Op_call F Rel := h.2.2.2.1
theorem ok_undo {F : Nat} {Rel : St → St → Prop} (h : OpsOK F Rel) : Op_undo F Rel := h.2.2.2.2.1
theorem ok_told {F : Nat} {Rel : St → St → Prop} (h : OpsOK F Rel) : Op_told F Rel := h.2.2.2.2.2.1
theorem ok_all {F : Nat} {Rel : St → St → Prop} (h : OpsOK F Rel) : Op_all F Rel := h.2.2.2.2.2.2.1
theorem ok_points {F : Nat} {Rel : St → St → Prop} (h : OpsOK F Rel) : Op_points F Rel := h.2.2.2.2.2.2.2.1
theorem ok_field {F : Nat} {Rel : St → St → Prop} (h : OpsOK F Rel) : Op_field F Rel := h.2.2.2.2.2.2.2.2.1
theorem ok_place {F : Nat} {Rel : St → St → Prop} (h : OpsOK F Rel) : Op_place F Rel := h.2.2.2.2.2.2.2.2.2.1
theorem ok_result {F : Nat} {Rel : St → St → Prop} (h : OpsOK F Rel) : Op_result F Rel := h.2.2.2.2.2.2.2.2.2.2.1
theorem ok_of {F : Nat} {Rel : St → St → Prop} (h : OpsOK F Rel) : Op_of F Rel := h.2.2.2.2.2.2.2.2.2.2.2.1
theorem ok_meet {F : Nat} {Rel : St → St → Prop} (h : OpsOK F Rel) : Op_meet F Rel := h.2.2.2.2.2.2.2.2.2.2.2.2.1
theorem ok_reach {F : Nat} {Rel : St → St → Prop} (h : OpsOK F Rel) : Op_reach F Rel := h.2.2.2.2.2.2.2.2.2.2.2.2.2.1
theorem ok_parameter {F : Nat} {Rel : St → St → Prop} (h : OpsOK F Rel) : Op_parameter F Rel := h.2.2.2.2.2.2.2.2.2.2.2.2.2.2.1
theorem ok_idle {F : Nat} {Rel : St → St → Prop} (h : OpsOK F Rel) : Op_idle F Rel := h.2.2.2.2.2.2.2.2.2.2.2.2.2.2.2.1
theorem ok_calls {F : Nat} {Rel : St → St → Prop} (h : OpsOK F Rel) : Op_calls F Rel := h.2.2.2.2.2.2.2.2.2.2.2.2.2.2.2.2
