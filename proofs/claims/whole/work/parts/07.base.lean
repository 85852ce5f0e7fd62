/-! The base of the generated contracts: a state is a table of ints, a world is a list of cells read off it; a contract says: in the world ws the method answers r and leaves the world ws'. -/
abbrev St : Type := Nat → Nat → Int32
def sr (σ : St) (k : Nat) (f : Nat → Int32) : St := fun a => cond (Nat.beq a k) f (σ a)
def su (σ : St) (k j : Nat) (v : Int32) : St := sr σ k (upd (σ k) j v)
def ushr (x y : Int32) : Int32 := (x.toUInt32 >>> (y.toUInt32 &&& Int32.toUInt32 31)).toInt32
theorem bnd {α β : Type} {x : Option α} {f : α → Option β} {y : β} (h : Option.bind x f = some y) : ∃ u, x = some u ∧ f u = some y := by
  cases x with
  | none => cases h
  | some u => exact ⟨u, rfl, h⟩
theorem ifp {α : Type} {c : Prop} [Decidable c] {a b y : α} (hc : c) (h : (if c then a else b) = y) : a = y := by rw [if_pos hc] at h; exact h
theorem ifn {α : Type} {c : Prop} [Decidable c] {a b y : α} (hc : ¬ c) (h : (if c then a else b) = y) : b = y := by rw [if_neg hc] at h; exact h
theorem ifs {α : Type} {c : Prop} [Decidable c] {a : Option α} {y : α} (h : (if c then a else none) = some y) : c ∧ a = some y := by
  by_cases hc : c
  · rw [if_pos hc] at h; exact ⟨hc, h⟩
  · rw [if_neg hc] at h; cases h
def lett {α β : Type} (x : α) (f : α → Option β) : Option β := f x
theorem lettE {α β : Type} {x : α} {f : α → Option β} {y : β} (h : lett x f = some y) : ∃ s, s = x ∧ f s = some y := ⟨x, rfl, h⟩
theorem elimL {α β γ : Type} {f : α → γ} {g : β → γ} {v : α} {y : γ} (h : Sum.elim f g (Sum.inl v) = y) : f v = y := h
theorem gz {v : Int32} (h : v = 0 ∨ v = 1) : narrow .boolean (.int v) = .int v := by
  rcases h with rfl | rfl <;> rfl
theorem gzf {v : Int32} (h : v = 0 ∨ v = 1) : fits .boolean (.int v) = true := by
  rcases h with rfl | rfl <;> rfl
-- worlds
def wA (ws : va_W) (k a : Nat) (cI : ClassId) (n : Nat) (f : Nat → Int32) : va_W := ws.set k (a, .inl (cI, n, .inl f))
theorem wA_get {ws : va_W} {k a : Nat} {cI : ClassId} {n : Nat} {f : Nat → Int32} (hk : k < ws.length) : (wA ws k a cI n f)[k]? = some (a, .inl (cI, n, .inl f)) := by
  unfold wA
  rw [List.getElem?_set_self hk]
theorem wA_set {ws : va_W} {k a : Nat} {cI : ClassId} {n : Nat} {f g : Nat → Int32} : (wA ws k a cI n f).set k (a, .inl (cI, n, .inl g)) = wA ws k a cI n g := by
  unfold wA
  rw [List.set_set]
theorem wA_fst {ws : va_W} {k a : Nat} {cI : ClassId} {n : Nat} (f g : Nat → Int32) : (wA ws k a cI n f).map Prod.fst = (wA ws k a cI n g).map Prod.fst := by
  unfold wA
  rw [List.map_set, List.map_set]
theorem wA_self {ws : va_W} {k a : Nat} {cI : ClassId} {n : Nat} {f : Nat → Int32} (hw : ws[k]? = some (a, .inl (cI, n, .inl f))) : wA ws k a cI n f = ws := by
  unfold wA
  apply List.ext_getElem?
  intro j
  rw [List.getElem?_set]
  by_cases e : k = j
  · subst e
    have hk : k < ws.length := (List.getElem?_eq_some_iff.mp hw).1
    rw [if_pos rfl, if_pos hk, hw]
  · rw [if_neg e]
theorem va_Dsame {A : Nat → Prop} {ws ws' : va_W} (h : va_D A ws) (e : ws.map Prod.fst = ws'.map Prod.fst) : va_D A ws' := by
  have at' : ∀ (k : Nat) (q : Nat × va_E), ws'[k]? = some q → ∃ x, ws[k]? = some (q.1, x) := by
    intro k q hq
    have h1 : (ws'.map Prod.fst)[k]? = some q.1 := by rw [List.getElem?_map, hq]; rfl
    rw [← e, List.getElem?_map] at h1
    cases hw : ws[k]? with
    | none => rw [hw] at h1; cases h1
    | some z =>
      rw [hw] at h1
      have h2 : z.1 = q.1 := Option.some.inj h1
      exact ⟨z.2, by rw [← h2]⟩
  refine ⟨fun i j p q hp hq hpq => ?_, fun k q hq => ?_⟩
  · obtain ⟨x, hx⟩ := at' i p hp
    obtain ⟨y, hy⟩ := at' j q hq
    exact h.1 i j _ _ hx hy hpq
  · obtain ⟨x, hx⟩ := at' k q hq
    exact h.2 k (q.1, x) hx
def limC : String := R_E
def limL : List Int32 := [8, 0, 0, 8, 8, 0, 8, 8, 4, 8, 4, 8, 8, 4, 0, 4, 8, 0, 0, 0, 0, 8, 0, 0, 8, 0, 0, 8, 0, 0, 8, 0, 0]
def limV (j : Nat) : Int32 := limL.getD j 0
/-- what no method changes: the links of nest mates, the static table -/
def EX (tL : Nat) (A : Nat → Prop) (U : State) (H : Heap) : Prop :=
  (∀ x ∈ nestF, va_Nw (.fieldLinkNest x.1 x.2.1 x.2.2.1 x.2.2.2.1 x.2.2.2.2.1 x.2.2.2.2.2) U) ∧ (∀ x ∈ nestM, va_Nw (.methodLinkNest x.1 x.2.1 x.2.2.1 x.2.2.2) U) ∧
  va_Z limC "LIMITS" "[I" (.ref tL) A U H ∧ va_T .int tL 33 (fun j => .int (limV j)) A U H
theorem EX.same {tL : Nat} {A : Nat → Prop} {u U : State} {H : Heap} (h : EX tL A u H) (e : u.vm = U.vm) : EX tL A U H := by
  obtain ⟨h1, h2, h3, h4⟩ := h
  have hv : u.vm.Alike U.vm := by rw [e]; exact Vm.Alike.refl U.vm
  exact ⟨fun x hx => va_Nw.same rfl e (h1 x hx), fun x hx => va_Nw.same rfl e (h2 x hx), h3.moved hv, h4.moved hv⟩
theorem EX.warm {tL : Nat} {A : Nat → Prop} {s U : State} {H : Heap} (h : EX tL A s H) (hW : s.WarmedH U.vm) : EX tL A U H := by
  obtain ⟨h1, h2, h3, h4⟩ := h
  exact ⟨fun x hx => va_Nw.warmF hW (h1 x hx), fun x hx => va_Nw.warmM hW (h2 x hx), h3.moved hW.alike, h4.moved hW.alike⟩
theorem EX.kept {tL : Nat} {A : Nat → Prop} {U : State} {H H1 : Heap} (h : EX tL A U H) (hq : ∀ a : Nat, a < H.size → ¬ A a → H1[a]? = H[a]?) : EX tL A U H1 := by
  obtain ⟨h1, h2, h3, h4⟩ := h
  exact ⟨h1, h2, h3.kept hq, h4.kept hq⟩
theorem EX.narrow {tL : Nat} {A B : Nat → Prop} {U : State} {H : Heap} (h : EX tL A U H) (hAB : ∀ q, B q → A q) : EX tL B U H := by
  obtain ⟨h1, h2, h3, h4⟩ := h
  exact ⟨h1, h2, h3.narrow hAB, h4.narrow hAB⟩
def gPre (D : va_G) (tys : List (ClassId × FieldType)) (tL : Nat) (vs : List Value) (ws : va_W) (sz : Nat) : Array Value → State → Prop :=
  va_Pc vs (fun U => U.heap.size = sz ∧ va_P D vwCl ws U.heap ∧ va_K D vwCl tys U ∧ va_D (fun _ => True) ws ∧ EX tL (va_A ws sz) U U.heap)
theorem gPre_blind {D : va_G} {tys : List (ClassId × FieldType)} {tL : Nat} {vs : List Value} {ws : va_W} {sz : Nat} : FrameBlind (gPre D tys tL vs ws sz) := by
  intro a U g mk q
  obtain ⟨q0, q1, qP, qK, qD, qE⟩ := q
  exact ⟨q0, q1, qP, va_K.moved (u := U) (U := U.calling g mk a) (Vm.Alike.refl U.vm) qK, qD, EX.same (U := U.calling g mk a) qE rfl⟩
abbrev gRi (D : va_G) (r : Int32) (ws' : va_W) (A : Nat → Prop) : Array Value → State → Outcome → State → Prop := va_Qi (fun r1 (_ : Unit) => r1 = r) (fun _ t => va_P D vwCl ws' t.heap) A
abbrev gRv (D : va_G) (ws' : va_W) (A : Nat → Prop) : Array Value → State → Outcome → State → Prop := va_Qv (fun (_ : Unit) => True) (fun _ t => va_P D vwCl ws' t.heap) A
/-- the contract of a method that answers an int (or a boolean) and makes nothing -/
def gCi (l : Launch) (y : MethodName) (w : List Cond) (rm : Room) (D : va_G) (tys : List (ClassId × FieldType)) (tL : Nat) (vs : List Value) (ws : va_W) (r : Int32) (ws' : va_W) : Prop :=
  ∀ sz : Nat, Met l y w rm (gPre D tys tL vs ws sz) (gRi D r ws' (va_A ws sz)) 0 0 (va_A ws sz)
def gCv (l : Launch) (y : MethodName) (w : List Cond) (rm : Room) (D : va_G) (tys : List (ClassId × FieldType)) (tL : Nat) (vs : List Value) (ws ws' : va_W) : Prop :=
  ∀ sz : Nat, Met l y w rm (gPre D tys tL vs ws sz) (gRv D ws' (va_A ws sz)) 0 0 (va_A ws sz)
abbrev gQi (below : List Frame) (D : va_G) (r : Int32) (ws' : va_W) (A : Nat → Prop) (args : Array Value) (s : State) : State → Prop := MQ below (gRi D r ws' A) args s 0 0 A
abbrev gQv (below : List Frame) (D : va_G) (ws' : va_W) (A : Nat → Prop) (args : Array Value) (s : State) : State → Prop := MQ below (gRv D ws' A) args s 0 0 A
theorem gCi_of {l : Launch} {y : MethodName} {w w' : List Cond} {rm : Room} {D : va_G} {tys : List (ClassId × FieldType)} {tL : Nat} {vs : List Value} {ws ws' : va_W} {r : Int32} {cc : ByteArray} {maxL : Nat} {ty : FieldType}
    (hy : plainName y.cls = true) (hw : w = Cond.code y cc maxL (some ty) :: w') (hn : (lg_sl vs).length ≤ maxL)
    (body : ∀ (p : Program) (e : Env) (s : State) (m : MethodId) (below : List Frame) (meth : Method) (c : Code) (A : Nat → Prop) (ls : Array Slot), CallFix p m c cc maxL s vs.toArray w y.cls → meth.sig.returnType = some ty → meth.locks = false → (∀ q : Nat, s.heap.size ≤ q → A q) → va_K D vwCl tys s → va_D A ws → EX tL A s s.heap → va_P D vwCl ws s.heap → lv_has ls maxL (lv_args 0 vs) →
      W p l e rm s m vs.toArray below meth c s.heap [] 0 0 (gQi below D r ws' A vs.toArray s) (F0 m 0 ls [])) : gCi l y w rm D tys tL vs ws r ws' := by
  intro sz
  refine Met.ofW (cc := cc) (maxL := maxL) (ret := some ty) hy hw ?_
  intro p e s m args below meth c s₁ B hml hv
  obtain ⟨rfl, hsz, hP, hK, hD0, hE⟩ := hv
  subst hsz
  have hl := lv_entry vs (n := maxL) hn
  rw [lg_entry_eq]
  exact body p e s m below meth c (va_A ws s.heap.size) _ ⟨B.exec, B.bytes, hml, findClass_of_methodNamed B.named, atoms_spec (ws := w) B.pre⟩ B.returns B.notSynchronized (fun q h => Or.inr h) hK hD0.self hE hP hl
theorem gCv_of {l : Launch} {y : MethodName} {w w' : List Cond} {rm : Room} {D : va_G} {tys : List (ClassId × FieldType)} {tL : Nat} {vs : List Value} {ws ws' : va_W} {cc : ByteArray} {maxL : Nat}
    (hy : plainName y.cls = true) (hw : w = Cond.code y cc maxL none :: w') (hn : (lg_sl vs).length ≤ maxL)
    (body : ∀ (p : Program) (e : Env) (s : State) (m : MethodId) (below : List Frame) (meth : Method) (c : Code) (A : Nat → Prop) (ls : Array Slot), CallFix p m c cc maxL s vs.toArray w y.cls → meth.sig.returnType = none → meth.locks = false → (∀ q : Nat, s.heap.size ≤ q → A q) → va_K D vwCl tys s → va_D A ws → EX tL A s s.heap → va_P D vwCl ws s.heap → lv_has ls maxL (lv_args 0 vs) →
      W p l e rm s m vs.toArray below meth c s.heap [] 0 0 (gQv below D ws' A vs.toArray s) (F0 m 0 ls [])) : gCv l y w rm D tys tL vs ws ws' := by
  intro sz
  refine Met.ofW (cc := cc) (maxL := maxL) (ret := none) hy hw ?_
  intro p e s m args below meth c s₁ B hml hv
  obtain ⟨rfl, hsz, hP, hK, hD0, hE⟩ := hv
  subst hsz
  have hl := lv_entry vs (n := maxL) hn
  rw [lg_entry_eq]
  exact body p e s m below meth c (va_A ws s.heap.size) _ ⟨B.exec, B.bytes, hml, findClass_of_methodNamed B.named, atoms_spec (ws := w) B.pre⟩ B.returns B.notSynchronized (fun q h => Or.inr h) hK hD0.self hE hP hl
section GR
variable {p : Program} {l : Launch} {e : Env} {R : Room} {s : State} {m : MethodId} {args : Array Value} {below : List Frame} {meth : Method} {c : Code} {H : Heap} {locs : List Loc} {cells slots : Nat} {Q : State → Prop}
variable {cc : ByteArray} {pc : Nat} {ls : Array Slot} {D : va_G} {A : Nat → Prop} {tys : List (ClassId × FieldType)} {tL : Nat} {ws ws' : va_W}
theorem gret_i {v : Int32} (hx : p.tables.exec = Jvm.exec) (hb : c.code = cc) (hr : meth.sig.returnType = some .int) (hlk : meth.locks = false) (hP : va_P D vwCl ws' H) (hS : va_S A s.heap H locs) (hdg : decode cc pc = .ok (.ireturn, 1)) :
    W p l e R s m args below meth c H locs 0 0 (gQi below D v ws' A args s) (F0 m pc ls [.int v]) :=
  W.iret hx hb hr (fun t ht hW => ⟨⟨v, (), rfl, rfl, by show va_P D vwCl ws' t.heap; rw [ht]; exact hP⟩, hS.F ht⟩) hS.2.2 hdg
theorem gret_z {v : Int32} (hx : p.tables.exec = Jvm.exec) (hb : c.code = cc) (hr : meth.sig.returnType = some .boolean) (hlk : meth.locks = false) (hn : narrow .boolean (.int v) = .int v) (hP : va_P D vwCl ws' H) (hS : va_S A s.heap H locs) (hdg : decode cc pc = .ok (.ireturn, 1)) :
    W p l e R s m args below meth c H locs 0 0 (gQi below D v ws' A args s) (F0 m pc ls [.int v]) :=
  W.zret hx hb hr hn (fun t ht hW => ⟨⟨v, (), rfl, rfl, by show va_P D vwCl ws' t.heap; rw [ht]; exact hP⟩, hS.F ht⟩) hS.2.2 hdg
theorem gret_v (hx : p.tables.exec = Jvm.exec) (hb : c.code = cc) (hr : meth.sig.returnType = none) (hlk : meth.locks = false) (hP : va_P D vwCl ws' H) (hS : va_S A s.heap H locs) (hdg : decode cc pc = .ok (.return_, 1)) :
    W p l e R s m args below meth c H locs 0 0 (gQv below D ws' A args s) (F0 m pc ls []) :=
  W.vret hx hb hr (fun t ht hW => ⟨⟨(), rfl, trivial, by show va_P D vwCl ws' t.heap; rw [ht]; exact hP⟩, hS.F ht⟩) hS.2.2 hdg
theorem gfree {H0 : Heap} (hA : ∀ q : Nat, H0.size ≤ q → A q) (hD : va_D A ws) (hS : va_S A H0 H locs) : ∀ q, va_A ws H.size q → A q := by
  intro q h
  rcases h with ⟨k, x, h⟩ | h
  · exact hD.2 k (q, x) h
  · exact hA q (Nat.le_trans hS.1 h)
theorem gEX (hA : ∀ q : Nat, s.heap.size ≤ q → A q) (hD : va_D A ws) (hS : va_S A s.heap H locs) (hE : EX tL A s s.heap) {U : State} (hU : U.heap = H) (hW : s.WarmedH U.vm) : EX tL (va_A ws H.size) U U.heap := by
  rw [hU]
  exact ((hE.kept (fun a h1 h2 => hS.2.1 a h1 h2)).narrow (gfree hA hD hS)).warm hW
theorem gpS {vs : List Value} (hA : ∀ q : Nat, s.heap.size ≤ q → A q) (hK : va_K D vwCl tys s) (hD : va_D A ws) (hE : EX tL A s s.heap) (hP : va_P D vwCl ws H) (hS : va_S A s.heap H locs) : PreS s H (gPre D tys tL vs ws H.size) vs :=
  ⟨gPre_blind, fun U hU hW => ⟨rfl, by rw [hU], by rw [hU]; exact hP, va_K.moved hW.alike hK, hD.weaken (fun _ _ _ _ => trivial), gEX hA hD hS hE hU hW⟩⟩
theorem gpV {b ci k : Nat} {C : String} {T : u_T} {N : Nat} {fs vs : List Value} (hA : ∀ q : Nat, s.heap.size ≤ q → A q) (hK : va_K D vwCl tys s) (hD : va_D A ws) (hE : EX tL A s s.heap) (hP : va_P D vwCl ws H) (hS : va_S A s.heap H locs)
    (hk : ws[k]? = some (b, .inr (ci, fs))) (hc : vwCl[ci]? = some (C, T, N)) : PreV s H C b (gPre D tys tL (.ref b :: vs) ws H.size) vs :=
  ⟨gPre_blind, va_recv hK hP hc hk, fun U hU hW => ⟨rfl, by rw [hU], by rw [hU]; exact hP, va_K.moved hW.alike hK, hD.weaken (fun _ _ _ _ => trivial), gEX hA hD hS hE hU hW⟩⟩
theorem gcall_i {st0 rest : List Value} {a : Array Value} {r : Int32} (hr : va_Run p l e R s m args below meth c H locs cells slots 0 0 (F0 m pc ls st0) rest (gRi D r ws' (va_A ws H.size) a) (va_A ws H.size)) (hA : ∀ q : Nat, s.heap.size ≤ q → A q) (hD : va_D A ws) (hS : va_S A s.heap H locs)
    (kk : ∀ (H : Heap) (locs : List Loc), va_P D vwCl ws' H → va_S A s.heap H locs → W p l e R s m args below meth c H locs cells slots Q (F0 m (pc + 3) ls (.int r :: rest))) : W p l e R s m args below meth c H locs cells slots Q (F0 m pc ls st0) :=
  va_calli hr hS (fun q _ h => gfree hA hD hS q h) (gfree hA hD hS) (fun r1 u t H1 locs1 ht hvm hp hB hz hk hS1 => by
    subst hp
    rw [ht] at hB
    exact kk H1 locs1 hB hS1)
theorem gcall_v {st0 rest : List Value} {a : Array Value} (hr : va_Run p l e R s m args below meth c H locs cells slots 0 0 (F0 m pc ls st0) rest (gRv D ws' (va_A ws H.size) a) (va_A ws H.size)) (hA : ∀ q : Nat, s.heap.size ≤ q → A q) (hD : va_D A ws) (hS : va_S A s.heap H locs)
    (kk : ∀ (H : Heap) (locs : List Loc), va_P D vwCl ws' H → va_S A s.heap H locs → W p l e R s m args below meth c H locs cells slots Q (F0 m (pc + 3) ls rest)) : W p l e R s m args below meth c H locs cells slots Q (F0 m pc ls st0) :=
  va_callv hr hS (fun q _ h => gfree hA hD hS q h) (gfree hA hD hS) (fun u t H1 locs1 ht hvm hp hB hz hk hS1 => by
    rw [ht] at hB
    exact kk H1 locs1 hB hS1)
end GR
