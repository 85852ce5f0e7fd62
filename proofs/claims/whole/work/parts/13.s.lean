/-! ===== EscapeOwners$LeastSets.forget()V ===== -/
def f_S_forget (σ : St) : Option (St) := lett (su σ 2 10 (0 : Int32)) (fun s2 => some s2)
set_option maxHeartbeats 4000000 in
set_option maxRecDepth 100000 in
theorem c_S_forget (l : Launch) (D : va_G) (cI cZ : ClassId) (tL : Nat) (q : Nat → Nat) (tl : va_W) (σ : St) (out0 : St) (h : f_S_forget σ = some out0) : gCv l y_S_forget (.code y_S_forget b_S_forget 1 none :: TB) { frames := 0, cells := 0, slots := 0, locals := 0 } D [(cI, .int), (cZ, .boolean)] tL [.ref (q 2)] (wE cI cZ q σ ++ tl) (wE cI cZ q out0 ++ tl) := by
  refine gCv_of (cc := b_S_forget) (maxL := 1)  (by decide) rfl (Nat.le_of_ble_eq_true rfl) ?_
  intro p e s m below meth c A ls hf hr hlk hA hK hD0 hE hP hl
  obtain ⟨hx, hb, hml, hown, hts⟩ := id hf
  have hts : ∀ w ∈ TB, w.before _ s = true := fun w h => hts w (List.mem_cons_of_mem _ h)
  have hown : s.vm.findClass R_S = some m.cls := hown
  have hl : lv_has ls 1 [(0, .ref (q 2))] := hl
  have hS : va_S A s.heap s.heap [] := va_S.rf
  have hD : ∀ σ' : St, va_D A (wE cI cZ q σ' ++ tl) := fun σ' => va_Dsame hD0 rfl
  unfold f_S_forget at h
  refine lv_aload_n hx hb d_S_forget_0 rfl (lv_at hl 0 rfl) ?_
  refine lv_iconst (v := 0) hx hb d_S_forget_1 (by decide) ?_
  refine va_put (D := D) (ci := 2) (v := .int (0 : Int32)) (ty := .boolean) (C := R_S) (T := T_S) (N := 11) hx hb hts l_S t_S t_S_ok n_S hown hK hP (hD σ) hS 2 rfl rfl 10 (by decide) (hts _ w_53) (fun _ h9 => h9) rfl (by decide +kernel) rfl rfl (Nat.le_of_ble_eq_true rfl) d_S_forget_2 (fun H locs hP _ hS => ?_)
  have hP : va_P D vwCl (wE cI cZ q (su σ 2 10 (0 : Int32)) ++ tl) H := hP
  obtain ⟨s2, es2, h⟩ := lettE h
  rw [← es2] at hP
  cases h
  exact gret_v hx hb hr hlk hP hS d_S_forget_5
/-! ===== EscapeOwners$LeastSets.withCallees(I)I ===== -/
def f_S_withCallees_B13 (F : Nat) (σ : St) (y3 : Int32) (rec : Int32 → Int32 → Option (Int32 × Int32)) (y2 : Int32) (y4 : Int32) : Option (Int32 × Int32) := if (8 : Int32) ≤ y4 then (some (y2, y4)) else (Option.bind (f_E_has y2 y4) (fun u23 => if u23 = 0 then (rec y2 (y4 + (1 : Int32))) else (Option.bind (f_E_at 8 (σ 10) y4) (fun u36 => rec (y2 ||| u36) (y4 + (1 : Int32))))))
def f_S_withCallees_L13 (F : Nat) (σ : St) (y3 : Int32) : Nat → Int32 → Int32 → Option (Int32 × Int32)
  | 0, _, _ => none
  | fu + 1, y2, y4 => f_S_withCallees_B13 F σ y3 (f_S_withCallees_L13 F σ y3 fu) y2 y4
def f_S_withCallees_B4 (F : Nat) (σ : St) (rec : Int32 → Int32 → Option (Int32 × Int32)) (y2 : Int32) (y3 : Int32) : Option (Int32 × Int32) := if (8 : Int32) ≤ y3 then (some (y2, y3)) else (Option.bind (f_S_withCallees_L13 F σ y3 F y2 (0 : Int32)) (fun u13 => rec u13.1 (y3 + (1 : Int32))))
def f_S_withCallees_L4 (F : Nat) (σ : St) : Nat → Int32 → Int32 → Option (Int32 × Int32)
  | 0, _, _ => none
  | fu + 1, y2, y3 => f_S_withCallees_B4 F σ (f_S_withCallees_L4 F σ fu) y2 y3
def f_S_withCallees (F : Nat) (σ : St) (x1 : Int32) : Option (Int32) := Option.bind (f_S_withCallees_L4 F σ F x1 (0 : Int32)) (fun u4 => some u4.1)
set_option maxHeartbeats 4000000 in
set_option maxRecDepth 100000 in
theorem c_S_withCallees (l : Launch) (D : va_G) (cI cZ : ClassId) (tL : Nat) (q : Nat → Nat) (tl : va_W) (F : Nat) (σ : St) (x1 : Int32) (out0 : Int32) (h : f_S_withCallees F σ x1 = some out0) : gCi l y_S_withCallees (.code y_S_withCallees b_S_withCallees 5 (some .int) :: TB) { frames := 1, cells := 0, slots := 0, locals := 21 } D [(cI, .int), (cZ, .boolean)] tL [.ref (q 2), .int x1] (wE cI cZ q σ ++ tl) out0 (wE cI cZ q σ ++ tl) := by
  refine gCi_of (cc := b_S_withCallees) (maxL := 5) (ty := .int) (by decide) rfl (Nat.le_of_ble_eq_true rfl) ?_
  intro p e s m below meth c A ls hf hr hlk hA hK hD0 hE hP hl
  obtain ⟨hx, hb, hml, hown, hts⟩ := id hf
  have hts : ∀ w ∈ TB, w.before _ s = true := fun w h => hts w (List.mem_cons_of_mem _ h)
  have hown : s.vm.findClass R_S = some m.cls := hown
  have hl : lv_has ls 5 [(0, .ref (q 2)), (1, .int x1)] := hl
  have hS : va_S A s.heap s.heap [] := va_S.rf
  have hD : ∀ σ' : St, va_D A (wE cI cZ q σ' ++ tl) := fun σ' => va_Dsame hD0 rfl
  have L13 : ∀ (σ : St) (y3 : Int32) (fu : Nat) (y2 : Int32) (y4 : Int32) (H : Heap) (locs : List Loc) (ls : Array Slot) (out : Int32 × Int32), f_S_withCallees_L13 F σ y3 fu y2 y4 = some out → va_P D vwCl (wE cI cZ q σ ++ tl) H → va_S A s.heap H locs → lv_has ls 5 [(0, .ref (q 2)), (2, .int y2), (3, .int y3), (4, .int y4)] → (∀ (H : Heap) (locs : List Loc) (ls : Array Slot), va_P D vwCl (wE cI cZ q σ ++ tl) H → va_S A s.heap H locs → lv_has ls 5 [(0, .ref (q 2)), (2, .int out.1), (3, .int y3), (4, .int out.2)] → W p l e { frames := 1, cells := 0, slots := 0, locals := 21 } s m ([.ref (q 2), .int x1] : List Value).toArray below meth c H locs 0 0 (gQi below D out0 (wE cI cZ q σ ++ tl) A (([.ref (q 2), .int x1] : List Value).toArray) s) (F0 m 47 ls [])) → W p l e { frames := 1, cells := 0, slots := 0, locals := 21 } s m ([.ref (q 2), .int x1] : List Value).toArray below meth c H locs 0 0 (gQi below D out0 (wE cI cZ q σ ++ tl) A (([.ref (q 2), .int x1] : List Value).toArray) s) (F0 m 13 ls []) := by
    intro σ y3 fu
    induction fu with
    | zero => intro y2 y4 H locs ls out h; exact absurd (show (none : Option (Int32 × Int32)) = some out from h) (fun z => by cases z)
    | succ fu ih =>
      intro y2 y4 H locs ls out h hP hS hl K
      have h : f_S_withCallees_B13 F σ y3 (f_S_withCallees_L13 F σ y3 fu) y2 y4 = some out := h
      unfold f_S_withCallees_B13 at h
      refine lv_iload hx hb d_S_withCallees_13 (lv_at hl 3 rfl) ?_
      refine lv_bipush (v := 8) hx hb d_S_withCallees_15 (by decide) ?_
      refine lv_icmp_ge (tgt := 47) hx hb d_S_withCallees_17 (by decide) (fun c => ?_) (fun c => ?_)
      · have h := ifp c h
        cases h
        exact K _ _ ls hP hS (lv_sub hl [0, 1, 2, 3] rfl)
      have h := ifn c h
      refine lv_iload_n hx hb d_S_withCallees_20 rfl (lv_at hl 1 rfl) ?_
      refine lv_iload hx hb d_S_withCallees_21 (lv_at hl 3 rfl) ?_
      obtain ⟨u23, hu23, h⟩ := bnd h
      refine gcall_i (va_runSN (As := [.int y2, .int y4]) (rest := []) ⟨hx, hb, hml, hown, hts⟩ (c_E_has l D cI cZ tL (wE cI cZ q σ ++ tl) y2 y4 u23 hu23 H.size) ⟨va_cnB 2 hts (TB_code w_210) rfl rfl rfl (nm_4 hE) (hts _ w_1) (by decide +kernel) ⟨Nat.le_of_ble_eq_true rfl, Nat.le_of_ble_eq_true rfl⟩, hts _ w_209, trivial⟩ (gpS hA hK (hD σ) hE hP hS) rfl rfl hl.1 rfl (lv_room (Nat.le_of_ble_eq_true rfl)) d_S_withCallees_23 ⟨Nat.le_of_ble_eq_true rfl, Nat.le_of_ble_eq_true rfl⟩) hA (hD σ) hS (fun H locs hP hS => ?_)
      refine lv_if_eq (tgt := 41) hx hb d_S_withCallees_26 (by decide) (fun c => ?_) (fun c => ?_)
      · have h := ifp c h
        refine lv_iinc (v := (y4 + (1 : Int32))) (lv' := [(4, .int (y4 + (1 : Int32))), (0, .ref (q 2)), (2, .int y2), (3, .int y3)]) hx hb d_S_withCallees_41 hl (k := 3) rfl rfl (by decide) rfl (fun ls hl => ?_)
        refine lv_goto (tgt := 13) hx hb d_S_withCallees_44 (by decide) ?_
        exact ih y2 (y4 + (1 : Int32)) _ _ ls out h hP hS (lv_sub hl [1, 2, 3, 0] rfl) K
      have h := ifn c h
      refine lv_iload_n hx hb d_S_withCallees_29 rfl (lv_at hl 1 rfl) ?_
      refine lv_aload_n hx hb d_S_withCallees_30 rfl (lv_at hl 0 rfl) ?_
      refine va_get (D := D) (ci := 2) (v := .ref (q 10)) (C := R_S) (T := T_S) (N := 11) hx hb hts l_S hown hK hP 2 rfl rfl 1 (by decide) (hts _ w_44) (fun _ h9 => h9) rfl d_S_withCallees_31 ?_
      refine lv_iload hx hb d_S_withCallees_34 (lv_at hl 3 rfl) ?_
      obtain ⟨u36, hu36, h⟩ := bnd h
      refine gcall_i (va_runSN (As := [.ref (q 10), .int y4]) (rest := [.int y2]) ⟨hx, hb, hml, hown, hts⟩ (c_E_at_u l D cI cZ tL (wE cI cZ q σ ++ tl) 10 (q 10) 8 (σ 10) rfl y4 u36 hu36 H.size) ⟨va_cnB 2 hts (TB_code w_133) rfl rfl rfl (nm_5 hE) (hts _ w_1) (by decide +kernel) ⟨Nat.le_of_ble_eq_true rfl, Nat.le_of_ble_eq_true rfl⟩, hts _ w_132, trivial⟩ (gpS hA hK (hD σ) hE hP hS) rfl rfl hl.1 rfl (lv_room (Nat.le_of_ble_eq_true rfl)) d_S_withCallees_36 ⟨Nat.le_of_ble_eq_true rfl, Nat.le_of_ble_eq_true rfl⟩) hA (hD σ) hS (fun H locs hP hS => ?_)
      refine lv_ior hx hb d_S_withCallees_39 ?_
      refine lv_istore_n (lv' := [(2, .int (y2 ||| u36)), (0, .ref (q 2)), (3, .int y3), (4, .int y4)]) hx hb d_S_withCallees_40 rfl hl (by decide) rfl (fun ls hl => ?_)
      refine lv_iinc (v := (y4 + (1 : Int32))) (lv' := [(4, .int (y4 + (1 : Int32))), (2, .int (y2 ||| u36)), (0, .ref (q 2)), (3, .int y3)]) hx hb d_S_withCallees_41 hl (k := 3) rfl rfl (by decide) rfl (fun ls hl => ?_)
      refine lv_goto (tgt := 13) hx hb d_S_withCallees_44 (by decide) ?_
      exact ih (y2 ||| u36) (y4 + (1 : Int32)) _ _ ls out h hP hS (lv_sub hl [2, 1, 3, 0] rfl) K
  have L4 : ∀ (σ : St) (fu : Nat) (y2 : Int32) (y3 : Int32) (H : Heap) (locs : List Loc) (ls : Array Slot) (out : Int32 × Int32), f_S_withCallees_L4 F σ fu y2 y3 = some out → va_P D vwCl (wE cI cZ q σ ++ tl) H → va_S A s.heap H locs → lv_has ls 5 [(0, .ref (q 2)), (2, .int y2), (3, .int y3)] → (∀ (H : Heap) (locs : List Loc) (ls : Array Slot), va_P D vwCl (wE cI cZ q σ ++ tl) H → va_S A s.heap H locs → lv_has ls 5 [(0, .ref (q 2)), (2, .int out.1), (3, .int out.2)] → W p l e { frames := 1, cells := 0, slots := 0, locals := 21 } s m ([.ref (q 2), .int x1] : List Value).toArray below meth c H locs 0 0 (gQi below D out0 (wE cI cZ q σ ++ tl) A (([.ref (q 2), .int x1] : List Value).toArray) s) (F0 m 53 ls [])) → W p l e { frames := 1, cells := 0, slots := 0, locals := 21 } s m ([.ref (q 2), .int x1] : List Value).toArray below meth c H locs 0 0 (gQi below D out0 (wE cI cZ q σ ++ tl) A (([.ref (q 2), .int x1] : List Value).toArray) s) (F0 m 4 ls []) := by
    intro σ fu
    induction fu with
    | zero => intro y2 y3 H locs ls out h; exact absurd (show (none : Option (Int32 × Int32)) = some out from h) (fun z => by cases z)
    | succ fu ih =>
      intro y2 y3 H locs ls out h hP hS hl K
      have h : f_S_withCallees_B4 F σ (f_S_withCallees_L4 F σ fu) y2 y3 = some out := h
      unfold f_S_withCallees_B4 at h
      refine lv_iload_n hx hb d_S_withCallees_4 rfl (lv_at hl 2 rfl) ?_
      refine lv_bipush (v := 8) hx hb d_S_withCallees_5 (by decide) ?_
      refine lv_icmp_ge (tgt := 53) hx hb d_S_withCallees_7 (by decide) (fun c => ?_) (fun c => ?_)
      · have h := ifp c h
        cases h
        exact K _ _ ls hP hS (lv_sub hl [0, 1, 2] rfl)
      have h := ifn c h
      refine lv_iconst (v := 0) hx hb d_S_withCallees_10 (by decide) ?_
      refine lv_istore (lv' := [(4, .int (0 : Int32)), (0, .ref (q 2)), (2, .int y2), (3, .int y3)]) hx hb d_S_withCallees_11 hl (by decide) rfl (fun ls hl => ?_)
      obtain ⟨u13, hu13, h⟩ := bnd h
      refine L13 σ y3 F y2 (0 : Int32) _ _ ls u13 hu13 hP hS (lv_sub hl [1, 2, 3, 0] rfl) (fun H locs ls hP hS hl => ?_)
      refine lv_iinc (v := (y3 + (1 : Int32))) (lv' := [(3, .int (y3 + (1 : Int32))), (0, .ref (q 2)), (2, .int u13.1), (4, .int u13.2)]) hx hb d_S_withCallees_47 hl (k := 2) rfl rfl (by decide) rfl (fun ls hl => ?_)
      refine lv_goto (tgt := 4) hx hb d_S_withCallees_50 (by decide) ?_
      exact ih u13.1 (y3 + (1 : Int32)) _ _ ls out h hP hS (lv_sub hl [1, 2, 0] rfl) K
  unfold f_S_withCallees at h
  refine lv_iload_n hx hb d_S_withCallees_0 rfl (lv_at hl 1 rfl) ?_
  refine lv_istore_n (lv' := [(2, .int x1), (0, .ref (q 2)), (1, .int x1)]) hx hb d_S_withCallees_1 rfl hl (by decide) rfl (fun ls hl => ?_)
  refine lv_iconst (v := 0) hx hb d_S_withCallees_2 (by decide) ?_
  refine lv_istore_n (lv' := [(3, .int (0 : Int32)), (2, .int x1), (0, .ref (q 2)), (1, .int x1)]) hx hb d_S_withCallees_3 rfl hl (by decide) rfl (fun ls hl => ?_)
  obtain ⟨u4, hu4, h⟩ := bnd h
  refine L4 σ F x1 (0 : Int32) _ _ ls u4 hu4 hP hS (lv_sub hl [2, 1, 0] rfl) (fun H locs ls hP hS hl => ?_)
  refine lv_iload_n hx hb d_S_withCallees_53 rfl (lv_at hl 1 rfl) ?_
  cases h
  exact gret_i hx hb hr hlk hP hS d_S_withCallees_54
/-! ===== EscapeOwners$LeastSets.findLive()V ===== -/
def f_S_findLive_B2 (F : Nat) (rec : Int32 → St → Option (Int32 × St)) (y1 : Int32) (σ : St) : Option (Int32 × St) := if (σ 1 1) ≤ y1 then (some (y1, σ)) else (Option.bind (f_P_kind σ y1) (fun u18 => if u18 = (6 : Int32) then (Option.bind (f_P_owner σ y1) (fun u35 => Option.bind (f_P_need σ y1 (0 : Int32)) (fun u45 => Option.bind (f_E_join 8 (σ 10) u35 ((1 : Int32) <<< (u45 &&& 31))) (fun u49 => lett (sr σ 10 u49.2) (fun s49 => rec (y1 + (1 : Int32)) s49))))) else (rec (y1 + (1 : Int32)) σ)))
def f_S_findLive_L2 (F : Nat) : Nat → Int32 → St → Option (Int32 × St)
  | 0, _, _ => none
  | fu + 1, y1, σ => f_S_findLive_B2 F (f_S_findLive_L2 F fu) y1 σ
def f_S_findLive_B70 (F : Nat) (rec : Int32 → St → Option (Int32 × St)) (y1 : Int32) (σ : St) : Option (Int32 × St) := if (8 : Int32) ≤ y1 then (some (y1, σ)) else (Option.bind (f_E_has (σ 2 7) y1) (fun u81 => if u81 = 0 then (Option.bind (f_E_put 8 (σ 10) y1 (0 : Int32)) (fun u93 => lett (sr σ 10 u93) (fun s93 => rec (y1 + (1 : Int32)) s93))) else (rec (y1 + (1 : Int32)) σ)))
def f_S_findLive_L70 (F : Nat) : Nat → Int32 → St → Option (Int32 × St)
  | 0, _, _ => none
  | fu + 1, y1, σ => f_S_findLive_B70 F (f_S_findLive_L70 F fu) y1 σ
def f_S_findLive (F : Nat) (σ : St) : Option (St) := Option.bind (f_S_findLive_L2 F F (0 : Int32) σ) (fun u2 => Option.bind (f_S_withCallees F u2.2 (1 : Int32)) (fun u62 => lett (su u2.2 2 7 u62) (fun s65 => Option.bind (f_S_findLive_L70 F F (0 : Int32) s65) (fun u70 => some u70.2))))
set_option maxHeartbeats 4000000 in
set_option maxRecDepth 100000 in
theorem c_S_findLive (l : Launch) (D : va_G) (cI cZ : ClassId) (tL : Nat) (q : Nat → Nat) (tl : va_W) (F : Nat) (σ : St) (out0 : St) (h : f_S_findLive F σ = some out0) : gCv l y_S_findLive (.code y_S_findLive b_S_findLive 2 none :: TB) { frames := 2, cells := 0, slots := 0, locals := 45 } D [(cI, .int), (cZ, .boolean)] tL [.ref (q 2)] (wE cI cZ q σ ++ tl) (wE cI cZ q out0 ++ tl) := by
  refine gCv_of (cc := b_S_findLive) (maxL := 2)  (by decide) rfl (Nat.le_of_ble_eq_true rfl) ?_
  intro p e s m below meth c A ls hf hr hlk hA hK hD0 hE hP hl
  obtain ⟨hx, hb, hml, hown, hts⟩ := id hf
  have hts : ∀ w ∈ TB, w.before _ s = true := fun w h => hts w (List.mem_cons_of_mem _ h)
  have hown : s.vm.findClass R_S = some m.cls := hown
  have hl : lv_has ls 2 [(0, .ref (q 2))] := hl
  have hS : va_S A s.heap s.heap [] := va_S.rf
  have hD : ∀ σ' : St, va_D A (wE cI cZ q σ' ++ tl) := fun σ' => va_Dsame hD0 rfl
  have L2 : ∀  (fu : Nat) (y1 : Int32) (σ : St) (H : Heap) (locs : List Loc) (ls : Array Slot) (out : Int32 × St), f_S_findLive_L2 F fu y1 σ = some out → va_P D vwCl (wE cI cZ q σ ++ tl) H → va_S A s.heap H locs → lv_has ls 2 [(0, .ref (q 2)), (1, .int y1)] → (∀ (H : Heap) (locs : List Loc) (ls : Array Slot), va_P D vwCl (wE cI cZ q out.2 ++ tl) H → va_S A s.heap H locs → lv_has ls 2 [(0, .ref (q 2)), (1, .int out.1)] → W p l e { frames := 2, cells := 0, slots := 0, locals := 45 } s m ([.ref (q 2)] : List Value).toArray below meth c H locs 0 0 (gQv below D (wE cI cZ q out0 ++ tl) A (([.ref (q 2)] : List Value).toArray) s) (F0 m 59 ls [])) → W p l e { frames := 2, cells := 0, slots := 0, locals := 45 } s m ([.ref (q 2)] : List Value).toArray below meth c H locs 0 0 (gQv below D (wE cI cZ q out0 ++ tl) A (([.ref (q 2)] : List Value).toArray) s) (F0 m 2 ls []) := by
    intro  fu
    induction fu with
    | zero => intro y1 σ H locs ls out h; exact absurd (show (none : Option (Int32 × St)) = some out from h) (fun z => by cases z)
    | succ fu ih =>
      intro y1 σ H locs ls out h hP hS hl K
      have h : f_S_findLive_B2 F (f_S_findLive_L2 F fu) y1 σ = some out := h
      unfold f_S_findLive_B2 at h
      refine lv_iload_n hx hb d_S_findLive_2 rfl (lv_at hl 1 rfl) ?_
      refine lv_aload_n hx hb d_S_findLive_3 rfl (lv_at hl 0 rfl) ?_
      refine va_get (D := D) (ci := 2) (v := .ref (q 1)) (C := R_S) (T := T_S) (N := 11) hx hb hts l_S hown hK hP 2 rfl rfl 0 (by decide) (hts _ w_43) (fun _ h9 => h9) rfl d_S_findLive_4 ?_
      refine va_getN (D := D) (ci := 1) (v := .int (σ 1 1)) (C := R_P) (T := T_P) (N := 8) hx hb hts l_P hown hK hP 1 rfl rfl 1 (by decide) (va_Nw.use rfl (nf_3 hE)) (fun _ h9 => h9) rfl d_S_findLive_7 ?_
      refine lv_icmp_ge (tgt := 59) hx hb d_S_findLive_10 (by decide) (fun c => ?_) (fun c => ?_)
      · have h := ifp c h
        cases h
        exact K _ _ ls hP hS (lv_sub hl [0, 1] rfl)
      have h := ifn c h
      refine lv_aload_n hx hb d_S_findLive_13 rfl (lv_at hl 0 rfl) ?_
      refine va_get (D := D) (ci := 2) (v := .ref (q 1)) (C := R_S) (T := T_S) (N := 11) hx hb hts l_S hown hK hP 2 rfl rfl 0 (by decide) (hts _ w_43) (fun _ h9 => h9) rfl d_S_findLive_14 ?_
      refine lv_iload_n hx hb d_S_findLive_17 rfl (lv_at hl 1 rfl) ?_
      obtain ⟨u18, hu18, h⟩ := bnd h
      refine gcall_i (va_runV (As := [.int y1]) (rest := []) ⟨hx, hb, hml, hown, hts⟩ (c_P_kind l D cI cZ tL q tl σ y1 u18 hu18 H.size) (cwV 1 hts (gV w_200 w_166 w_167 w_2 w_168) rfl rfl rfl (by decide +kernel) ⟨Nat.le_of_ble_eq_true rfl, Nat.le_of_ble_eq_true rfl⟩) (gpV (k := 1) (ci := 1) hA hK (hD σ) hE hP hS rfl rfl) rfl rfl hl.1 rfl (lv_room (Nat.le_of_ble_eq_true rfl)) d_S_findLive_18 ⟨Nat.le_of_ble_eq_true rfl, Nat.le_of_ble_eq_true rfl⟩) hA (hD σ) hS (fun H locs hP hS => ?_)
      refine lv_bipush (v := 6) hx hb d_S_findLive_21 (by decide) ?_
      refine lv_icmp_ne (tgt := 53) hx hb d_S_findLive_23 (by decide) (fun c => ?_) (fun c => ?_)
      · have h := ifn c h
        refine lv_iinc (v := (y1 + (1 : Int32))) (lv' := [(1, .int (y1 + (1 : Int32))), (0, .ref (q 2))]) hx hb d_S_findLive_53 hl (k := 1) rfl rfl (by decide) rfl (fun ls hl => ?_)
        refine lv_goto (tgt := 2) hx hb d_S_findLive_56 (by decide) ?_
        exact ih (y1 + (1 : Int32)) σ _ _ ls out h hP hS (lv_sub hl [1, 0] rfl) K
      have h := ifp c h
      refine lv_aload_n hx hb d_S_findLive_26 rfl (lv_at hl 0 rfl) ?_
      refine va_get (D := D) (ci := 2) (v := .ref (q 10)) (C := R_S) (T := T_S) (N := 11) hx hb hts l_S hown hK hP 2 rfl rfl 1 (by decide) (hts _ w_44) (fun _ h9 => h9) rfl d_S_findLive_27 ?_
      refine lv_aload_n hx hb d_S_findLive_30 rfl (lv_at hl 0 rfl) ?_
      refine va_get (D := D) (ci := 2) (v := .ref (q 1)) (C := R_S) (T := T_S) (N := 11) hx hb hts l_S hown hK hP 2 rfl rfl 0 (by decide) (hts _ w_43) (fun _ h9 => h9) rfl d_S_findLive_31 ?_
      refine lv_iload_n hx hb d_S_findLive_34 rfl (lv_at hl 1 rfl) ?_
      obtain ⟨u35, hu35, h⟩ := bnd h
      refine gcall_i (va_runV (As := [.int y1]) (rest := [.ref (q 10)]) ⟨hx, hb, hml, hown, hts⟩ (c_P_owner l D cI cZ tL q tl σ y1 u35 hu35 H.size) (cwV 1 hts (gV w_201 w_176 w_177 w_2 w_178) rfl rfl rfl (by decide +kernel) ⟨Nat.le_of_ble_eq_true rfl, Nat.le_of_ble_eq_true rfl⟩) (gpV (k := 1) (ci := 1) hA hK (hD σ) hE hP hS rfl rfl) rfl rfl hl.1 rfl (lv_room (Nat.le_of_ble_eq_true rfl)) d_S_findLive_35 ⟨Nat.le_of_ble_eq_true rfl, Nat.le_of_ble_eq_true rfl⟩) hA (hD σ) hS (fun H locs hP hS => ?_)
      refine lv_iconst (v := 1) hx hb d_S_findLive_38 (by decide) ?_
      refine lv_aload_n hx hb d_S_findLive_39 rfl (lv_at hl 0 rfl) ?_
      refine va_get (D := D) (ci := 2) (v := .ref (q 1)) (C := R_S) (T := T_S) (N := 11) hx hb hts l_S hown hK hP 2 rfl rfl 0 (by decide) (hts _ w_43) (fun _ h9 => h9) rfl d_S_findLive_40 ?_
      refine lv_iload_n hx hb d_S_findLive_43 rfl (lv_at hl 1 rfl) ?_
      refine lv_iconst (v := 0) hx hb d_S_findLive_44 (by decide) ?_
      obtain ⟨u45, hu45, h⟩ := bnd h
      refine gcall_i (va_runV (As := [.int y1, .int (0 : Int32)]) (rest := [.int (1 : Int32), .int u35, .ref (q 10)]) ⟨hx, hb, hml, hown, hts⟩ (c_P_need l D cI cZ tL q tl σ y1 (0 : Int32) u45 hu45 H.size) (cwV 2 hts (gV w_202 w_185 w_186 w_2 w_187) rfl rfl rfl (by decide +kernel) ⟨Nat.le_of_ble_eq_true rfl, Nat.le_of_ble_eq_true rfl⟩) (gpV (k := 1) (ci := 1) hA hK (hD σ) hE hP hS rfl rfl) rfl rfl hl.1 rfl (lv_room (Nat.le_of_ble_eq_true rfl)) d_S_findLive_45 ⟨Nat.le_of_ble_eq_true rfl, Nat.le_of_ble_eq_true rfl⟩) hA (hD σ) hS (fun H locs hP hS => ?_)
      refine lv_ishl hx hb d_S_findLive_48 ?_
      obtain ⟨u49, hu49, h⟩ := bnd h
      refine gcall_i (va_runSN (As := [.ref (q 10), .int u35, .int ((1 : Int32) <<< (u45 &&& 31))]) (rest := []) ⟨hx, hb, hml, hown, hts⟩ (c_E_join_u l D cI cZ tL (wE cI cZ q σ ++ tl) 10 (q 10) 8 (σ 10) rfl u35 ((1 : Int32) <<< (u45 &&& 31)) u49 hu49 H.size) ⟨va_cnB 3 hts (TB_code w_204) rfl rfl rfl (nm_3 hE) (hts _ w_1) (by decide +kernel) ⟨Nat.le_of_ble_eq_true rfl, Nat.le_of_ble_eq_true rfl⟩, hts _ w_203, trivial⟩ (gpS hA hK (hD σ) hE hP hS) rfl rfl hl.1 rfl (lv_room (Nat.le_of_ble_eq_true rfl)) d_S_findLive_49 ⟨Nat.le_of_ble_eq_true rfl, Nat.le_of_ble_eq_true rfl⟩) hA (hD σ) hS (fun H locs hP hS => ?_)
      have hP : va_P D vwCl (wE cI cZ q (sr σ 10 u49.2) ++ tl) H := hP
      obtain ⟨s49, es49, h⟩ := lettE h
      rw [← es49] at hP
      refine lv_pop hx hb d_S_findLive_52 rfl ?_
      refine lv_iinc (v := (y1 + (1 : Int32))) (lv' := [(1, .int (y1 + (1 : Int32))), (0, .ref (q 2))]) hx hb d_S_findLive_53 hl (k := 1) rfl rfl (by decide) rfl (fun ls hl => ?_)
      refine lv_goto (tgt := 2) hx hb d_S_findLive_56 (by decide) ?_
      exact ih (y1 + (1 : Int32)) s49 _ _ ls out h hP hS (lv_sub hl [1, 0] rfl) K
  have L70 : ∀  (fu : Nat) (y1 : Int32) (σ : St) (H : Heap) (locs : List Loc) (ls : Array Slot) (out : Int32 × St), f_S_findLive_L70 F fu y1 σ = some out → va_P D vwCl (wE cI cZ q σ ++ tl) H → va_S A s.heap H locs → lv_has ls 2 [(0, .ref (q 2)), (1, .int y1)] → (∀ (H : Heap) (locs : List Loc) (ls : Array Slot), va_P D vwCl (wE cI cZ q out.2 ++ tl) H → va_S A s.heap H locs → lv_has ls 2 [(0, .ref (q 2)), (1, .int out.1)] → W p l e { frames := 2, cells := 0, slots := 0, locals := 45 } s m ([.ref (q 2)] : List Value).toArray below meth c H locs 0 0 (gQv below D (wE cI cZ q out0 ++ tl) A (([.ref (q 2)] : List Value).toArray) s) (F0 m 102 ls [])) → W p l e { frames := 2, cells := 0, slots := 0, locals := 45 } s m ([.ref (q 2)] : List Value).toArray below meth c H locs 0 0 (gQv below D (wE cI cZ q out0 ++ tl) A (([.ref (q 2)] : List Value).toArray) s) (F0 m 70 ls []) := by
    intro  fu
    induction fu with
    | zero => intro y1 σ H locs ls out h; exact absurd (show (none : Option (Int32 × St)) = some out from h) (fun z => by cases z)
    | succ fu ih =>
      intro y1 σ H locs ls out h hP hS hl K
      have h : f_S_findLive_B70 F (f_S_findLive_L70 F fu) y1 σ = some out := h
      unfold f_S_findLive_B70 at h
      refine lv_iload_n hx hb d_S_findLive_70 rfl (lv_at hl 1 rfl) ?_
      refine lv_bipush (v := 8) hx hb d_S_findLive_71 (by decide) ?_
      refine lv_icmp_ge (tgt := 102) hx hb d_S_findLive_73 (by decide) (fun c => ?_) (fun c => ?_)
      · have h := ifp c h
        cases h
        exact K _ _ ls hP hS (lv_sub hl [0, 1] rfl)
      have h := ifn c h
      refine lv_aload_n hx hb d_S_findLive_76 rfl (lv_at hl 0 rfl) ?_
      refine va_get (D := D) (ci := 2) (v := .int (σ 2 7)) (C := R_S) (T := T_S) (N := 11) hx hb hts l_S hown hK hP 2 rfl rfl 7 (by decide) (hts _ w_50) (fun _ h9 => h9) rfl d_S_findLive_77 ?_
      refine lv_iload_n hx hb d_S_findLive_80 rfl (lv_at hl 1 rfl) ?_
      obtain ⟨u81, hu81, h⟩ := bnd h
      refine gcall_i (va_runSN (As := [.int (σ 2 7), .int y1]) (rest := []) ⟨hx, hb, hml, hown, hts⟩ (c_E_has l D cI cZ tL (wE cI cZ q σ ++ tl) (σ 2 7) y1 u81 hu81 H.size) ⟨va_cnB 2 hts (TB_code w_210) rfl rfl rfl (nm_4 hE) (hts _ w_1) (by decide +kernel) ⟨Nat.le_of_ble_eq_true rfl, Nat.le_of_ble_eq_true rfl⟩, hts _ w_209, trivial⟩ (gpS hA hK (hD σ) hE hP hS) rfl rfl hl.1 rfl (lv_room (Nat.le_of_ble_eq_true rfl)) d_S_findLive_81 ⟨Nat.le_of_ble_eq_true rfl, Nat.le_of_ble_eq_true rfl⟩) hA (hD σ) hS (fun H locs hP hS => ?_)
      refine lv_if_ne (tgt := 96) hx hb d_S_findLive_84 (by decide) (fun c => ?_) (fun c => ?_)
      · have h := ifn c h
        refine lv_iinc (v := (y1 + (1 : Int32))) (lv' := [(1, .int (y1 + (1 : Int32))), (0, .ref (q 2))]) hx hb d_S_findLive_96 hl (k := 1) rfl rfl (by decide) rfl (fun ls hl => ?_)
        refine lv_goto (tgt := 70) hx hb d_S_findLive_99 (by decide) ?_
        exact ih (y1 + (1 : Int32)) σ _ _ ls out h hP hS (lv_sub hl [1, 0] rfl) K
      have h := ifp c h
      refine lv_aload_n hx hb d_S_findLive_87 rfl (lv_at hl 0 rfl) ?_
      refine va_get (D := D) (ci := 2) (v := .ref (q 10)) (C := R_S) (T := T_S) (N := 11) hx hb hts l_S hown hK hP 2 rfl rfl 1 (by decide) (hts _ w_44) (fun _ h9 => h9) rfl d_S_findLive_88 ?_
      refine lv_iload_n hx hb d_S_findLive_91 rfl (lv_at hl 1 rfl) ?_
      refine lv_iconst (v := 0) hx hb d_S_findLive_92 (by decide) ?_
      obtain ⟨u93, hu93, h⟩ := bnd h
      refine gcall_v (va_runSN (As := [.ref (q 10), .int y1, .int (0 : Int32)]) (rest := []) ⟨hx, hb, hml, hown, hts⟩ (c_E_put_u l D cI cZ tL (wE cI cZ q σ ++ tl) 10 (q 10) 8 (σ 10) rfl y1 (0 : Int32) u93 hu93 H.size) ⟨va_cnB 3 hts (TB_code w_143) rfl rfl rfl (nm_6 hE) (hts _ w_1) (by decide +kernel) ⟨Nat.le_of_ble_eq_true rfl, Nat.le_of_ble_eq_true rfl⟩, hts _ w_142, trivial⟩ (gpS hA hK (hD σ) hE hP hS) rfl rfl hl.1 rfl (lv_room (Nat.le_of_ble_eq_true rfl)) d_S_findLive_93 ⟨Nat.le_of_ble_eq_true rfl, Nat.le_of_ble_eq_true rfl⟩) hA (hD σ) hS (fun H locs hP hS => ?_)
      have hP : va_P D vwCl (wE cI cZ q (sr σ 10 u93) ++ tl) H := hP
      obtain ⟨s93, es93, h⟩ := lettE h
      rw [← es93] at hP
      refine lv_iinc (v := (y1 + (1 : Int32))) (lv' := [(1, .int (y1 + (1 : Int32))), (0, .ref (q 2))]) hx hb d_S_findLive_96 hl (k := 1) rfl rfl (by decide) rfl (fun ls hl => ?_)
      refine lv_goto (tgt := 70) hx hb d_S_findLive_99 (by decide) ?_
      exact ih (y1 + (1 : Int32)) s93 _ _ ls out h hP hS (lv_sub hl [1, 0] rfl) K
  unfold f_S_findLive at h
  refine lv_iconst (v := 0) hx hb d_S_findLive_0 (by decide) ?_
  refine lv_istore_n (lv' := [(1, .int (0 : Int32)), (0, .ref (q 2))]) hx hb d_S_findLive_1 rfl hl (by decide) rfl (fun ls hl => ?_)
  obtain ⟨u2, hu2, h⟩ := bnd h
  refine L2  F (0 : Int32) σ _ _ ls u2 hu2 hP hS (lv_sub hl [1, 0] rfl) (fun H locs ls hP hS hl => ?_)
  refine lv_aload_n hx hb d_S_findLive_59 rfl (lv_at hl 0 rfl) ?_
  refine lv_aload_n hx hb d_S_findLive_60 rfl (lv_at hl 0 rfl) ?_
  refine lv_iconst (v := 1) hx hb d_S_findLive_61 (by decide) ?_
  obtain ⟨u62, hu62, h⟩ := bnd h
  refine gcall_i (va_runV (As := [.int (1 : Int32)]) (rest := [.ref (q 2)]) ⟨hx, hb, hml, hown, hts⟩ (c_S_withCallees l D cI cZ tL q tl F u2.2 (1 : Int32) u62 hu62 H.size) (cwV 1 hts (gV w_205 w_206 w_207 w_3 w_208) rfl rfl rfl (by decide +kernel) ⟨Nat.le_of_ble_eq_true rfl, Nat.le_of_ble_eq_true rfl⟩) (gpV (k := 2) (ci := 2) hA hK (hD u2.2) hE hP hS rfl rfl) rfl rfl hl.1 rfl (lv_room (Nat.le_of_ble_eq_true rfl)) d_S_findLive_62 ⟨Nat.le_of_ble_eq_true rfl, Nat.le_of_ble_eq_true rfl⟩) hA (hD u2.2) hS (fun H locs hP hS => ?_)
  refine va_put (D := D) (ci := 2) (v := .int u62) (ty := .int) (C := R_S) (T := T_S) (N := 11) hx hb hts l_S t_S t_S_ok n_S hown hK hP (hD u2.2) hS 2 rfl rfl 7 (by decide) (hts _ w_50) (fun _ h9 => h9) rfl (by decide +kernel) rfl rfl (Nat.le_of_ble_eq_true rfl) d_S_findLive_65 (fun H locs hP _ hS => ?_)
  have hP : va_P D vwCl (wE cI cZ q (su u2.2 2 7 u62) ++ tl) H := hP
  obtain ⟨s65, es65, h⟩ := lettE h
  rw [← es65] at hP
  refine lv_iconst (v := 0) hx hb d_S_findLive_68 (by decide) ?_
  refine lv_istore_n (lv' := [(1, .int (0 : Int32)), (0, .ref (q 2))]) hx hb d_S_findLive_69 rfl hl (by decide) rfl (fun ls hl => ?_)
  obtain ⟨u70, hu70, h⟩ := bnd h
  refine L70  F (0 : Int32) s65 _ _ ls u70 hu70 hP hS (lv_sub hl [1, 0] rfl) (fun H locs ls hP hS hl => ?_)
  cases h
  exact gret_v hx hb hr hlk hP hS d_S_findLive_102
/-! ===== EscapeOwners$LeastSets.joinName(III)Z ===== -/
def f_S_joinName (σ : St) (x1 : Int32) (x2 : Int32) (x3 : Int32) : Option (Int32 × St) := Option.bind (f_E_join 64 (σ 11) ((x1 * (8 : Int32)) + x2) x3) (fun u11 => lett (sr σ 11 u11.2) (fun s11 => if u11.1 = 0 ∨ u11.1 = 1 then some (u11.1, s11) else none))
set_option maxHeartbeats 4000000 in
set_option maxRecDepth 100000 in
theorem c_S_joinName (l : Launch) (D : va_G) (cI cZ : ClassId) (tL : Nat) (q : Nat → Nat) (tl : va_W) (σ : St) (x1 : Int32) (x2 : Int32) (x3 : Int32) (out0 : Int32 × St) (h : f_S_joinName σ x1 x2 x3 = some out0) : gCi l y_S_joinName (.code y_S_joinName b_S_joinName 4 (some .boolean) :: TB) { frames := 1, cells := 0, slots := 0, locals := 23 } D [(cI, .int), (cZ, .boolean)] tL [.ref (q 2), .int x1, .int x2, .int x3] (wE cI cZ q σ ++ tl) out0.1 (wE cI cZ q out0.2 ++ tl) := by
  refine gCi_of (cc := b_S_joinName) (maxL := 4) (ty := .boolean) (by decide) rfl (Nat.le_of_ble_eq_true rfl) ?_
  intro p e s m below meth c A ls hf hr hlk hA hK hD0 hE hP hl
  obtain ⟨hx, hb, hml, hown, hts⟩ := id hf
  have hts : ∀ w ∈ TB, w.before _ s = true := fun w h => hts w (List.mem_cons_of_mem _ h)
  have hown : s.vm.findClass R_S = some m.cls := hown
  have hl : lv_has ls 4 [(0, .ref (q 2)), (1, .int x1), (2, .int x2), (3, .int x3)] := hl
  have hS : va_S A s.heap s.heap [] := va_S.rf
  have hD : ∀ σ' : St, va_D A (wE cI cZ q σ' ++ tl) := fun σ' => va_Dsame hD0 rfl
  unfold f_S_joinName at h
  refine lv_aload_n hx hb d_S_joinName_0 rfl (lv_at hl 0 rfl) ?_
  refine va_get (D := D) (ci := 2) (v := .ref (q 11)) (C := R_S) (T := T_S) (N := 11) hx hb hts l_S hown hK hP 2 rfl rfl 2 (by decide) (hts _ w_45) (fun _ h9 => h9) rfl d_S_joinName_1 ?_
  refine lv_iload_n hx hb d_S_joinName_4 rfl (lv_at hl 1 rfl) ?_
  refine lv_bipush (v := 8) hx hb d_S_joinName_5 (by decide) ?_
  refine lv_imul hx hb d_S_joinName_7 ?_
  refine lv_iload_n hx hb d_S_joinName_8 rfl (lv_at hl 2 rfl) ?_
  refine lv_iadd hx hb d_S_joinName_9 ?_
  refine lv_iload_n hx hb d_S_joinName_10 rfl (lv_at hl 3 rfl) ?_
  obtain ⟨u11, hu11, h⟩ := bnd h
  refine gcall_i (va_runSN (As := [.ref (q 11), .int ((x1 * (8 : Int32)) + x2), .int x3]) (rest := []) ⟨hx, hb, hml, hown, hts⟩ (c_E_join_u l D cI cZ tL (wE cI cZ q σ ++ tl) 11 (q 11) 64 (σ 11) rfl ((x1 * (8 : Int32)) + x2) x3 u11 hu11 s.heap.size) ⟨va_cnB 3 hts (TB_code w_204) rfl rfl rfl (nm_3 hE) (hts _ w_1) (by decide +kernel) ⟨Nat.le_of_ble_eq_true rfl, Nat.le_of_ble_eq_true rfl⟩, hts _ w_203, trivial⟩ (gpS hA hK (hD σ) hE hP hS) rfl rfl hl.1 rfl (lv_room (Nat.le_of_ble_eq_true rfl)) d_S_joinName_11 ⟨Nat.le_of_ble_eq_true rfl, Nat.le_of_ble_eq_true rfl⟩) hA (hD σ) hS (fun H locs hP hS => ?_)
  have hP : va_P D vwCl (wE cI cZ q (sr σ 11 u11.2) ++ tl) H := hP
  obtain ⟨s11, es11, h⟩ := lettE h
  rw [← es11] at hP
  obtain ⟨c, h⟩ := ifs h
  cases h
  exact gret_z hx hb hr hlk (gz c) hP hS d_S_joinName_14
/-! ===== EscapeOwners$LeastSets.ofName(II)I ===== -/
def f_S_ofName (σ : St) (x1 : Int32) (x2 : Int32) : Option (Int32) := Option.bind (f_E_at 64 (σ 11) ((x1 * (8 : Int32)) + x2)) (fun u10 => some u10)
set_option maxHeartbeats 4000000 in
set_option maxRecDepth 100000 in
theorem c_S_ofName (l : Launch) (D : va_G) (cI cZ : ClassId) (tL : Nat) (q : Nat → Nat) (tl : va_W) (σ : St) (x1 : Int32) (x2 : Int32) (out0 : Int32) (h : f_S_ofName σ x1 x2 = some out0) : gCi l y_S_ofName (.code y_S_ofName b_S_ofName 3 (some .int) :: TB) { frames := 1, cells := 0, slots := 0, locals := 21 } D [(cI, .int), (cZ, .boolean)] tL [.ref (q 2), .int x1, .int x2] (wE cI cZ q σ ++ tl) out0 (wE cI cZ q σ ++ tl) := by
  refine gCi_of (cc := b_S_ofName) (maxL := 3) (ty := .int) (by decide) rfl (Nat.le_of_ble_eq_true rfl) ?_
  intro p e s m below meth c A ls hf hr hlk hA hK hD0 hE hP hl
  obtain ⟨hx, hb, hml, hown, hts⟩ := id hf
  have hts : ∀ w ∈ TB, w.before _ s = true := fun w h => hts w (List.mem_cons_of_mem _ h)
  have hown : s.vm.findClass R_S = some m.cls := hown
  have hl : lv_has ls 3 [(0, .ref (q 2)), (1, .int x1), (2, .int x2)] := hl
  have hS : va_S A s.heap s.heap [] := va_S.rf
  have hD : ∀ σ' : St, va_D A (wE cI cZ q σ' ++ tl) := fun σ' => va_Dsame hD0 rfl
  unfold f_S_ofName at h
  refine lv_aload_n hx hb d_S_ofName_0 rfl (lv_at hl 0 rfl) ?_
  refine va_get (D := D) (ci := 2) (v := .ref (q 11)) (C := R_S) (T := T_S) (N := 11) hx hb hts l_S hown hK hP 2 rfl rfl 2 (by decide) (hts _ w_45) (fun _ h9 => h9) rfl d_S_ofName_1 ?_
  refine lv_iload_n hx hb d_S_ofName_4 rfl (lv_at hl 1 rfl) ?_
  refine lv_bipush (v := 8) hx hb d_S_ofName_5 (by decide) ?_
  refine lv_imul hx hb d_S_ofName_7 ?_
  refine lv_iload_n hx hb d_S_ofName_8 rfl (lv_at hl 2 rfl) ?_
  refine lv_iadd hx hb d_S_ofName_9 ?_
  obtain ⟨u10, hu10, h⟩ := bnd h
  refine gcall_i (va_runSN (As := [.ref (q 11), .int ((x1 * (8 : Int32)) + x2)]) (rest := []) ⟨hx, hb, hml, hown, hts⟩ (c_E_at_u l D cI cZ tL (wE cI cZ q σ ++ tl) 11 (q 11) 64 (σ 11) rfl ((x1 * (8 : Int32)) + x2) u10 hu10 s.heap.size) ⟨va_cnB 2 hts (TB_code w_133) rfl rfl rfl (nm_5 hE) (hts _ w_1) (by decide +kernel) ⟨Nat.le_of_ble_eq_true rfl, Nat.le_of_ble_eq_true rfl⟩, hts _ w_132, trivial⟩ (gpS hA hK (hD σ) hE hP hS) rfl rfl hl.1 rfl (lv_room (Nat.le_of_ble_eq_true rfl)) d_S_ofName_10 ⟨Nat.le_of_ble_eq_true rfl, Nat.le_of_ble_eq_true rfl⟩) hA (hD σ) hS (fun H locs hP hS => ?_)
  cases h
  exact gret_i hx hb hr hlk hP hS d_S_ofName_13
/-! ===== EscapeOwners$LeastSets.ofField(II)I ===== -/
def f_S_ofField (σ : St) (x1 : Int32) (x2 : Int32) : Option (Int32) := Option.bind (f_E_at 64 (σ 12) ((x1 * (4 : Int32)) + x2)) (fun u9 => some u9)
set_option maxHeartbeats 4000000 in
set_option maxRecDepth 100000 in
theorem c_S_ofField (l : Launch) (D : va_G) (cI cZ : ClassId) (tL : Nat) (q : Nat → Nat) (tl : va_W) (σ : St) (x1 : Int32) (x2 : Int32) (out0 : Int32) (h : f_S_ofField σ x1 x2 = some out0) : gCi l y_S_ofField (.code y_S_ofField b_S_ofField 3 (some .int) :: TB) { frames := 1, cells := 0, slots := 0, locals := 21 } D [(cI, .int), (cZ, .boolean)] tL [.ref (q 2), .int x1, .int x2] (wE cI cZ q σ ++ tl) out0 (wE cI cZ q σ ++ tl) := by
  refine gCi_of (cc := b_S_ofField) (maxL := 3) (ty := .int) (by decide) rfl (Nat.le_of_ble_eq_true rfl) ?_
  intro p e s m below meth c A ls hf hr hlk hA hK hD0 hE hP hl
  obtain ⟨hx, hb, hml, hown, hts⟩ := id hf
  have hts : ∀ w ∈ TB, w.before _ s = true := fun w h => hts w (List.mem_cons_of_mem _ h)
  have hown : s.vm.findClass R_S = some m.cls := hown
  have hl : lv_has ls 3 [(0, .ref (q 2)), (1, .int x1), (2, .int x2)] := hl
  have hS : va_S A s.heap s.heap [] := va_S.rf
  have hD : ∀ σ' : St, va_D A (wE cI cZ q σ' ++ tl) := fun σ' => va_Dsame hD0 rfl
  unfold f_S_ofField at h
  refine lv_aload_n hx hb d_S_ofField_0 rfl (lv_at hl 0 rfl) ?_
  refine va_get (D := D) (ci := 2) (v := .ref (q 12)) (C := R_S) (T := T_S) (N := 11) hx hb hts l_S hown hK hP 2 rfl rfl 3 (by decide) (hts _ w_46) (fun _ h9 => h9) rfl d_S_ofField_1 ?_
  refine lv_iload_n hx hb d_S_ofField_4 rfl (lv_at hl 1 rfl) ?_
  refine lv_iconst (v := 4) hx hb d_S_ofField_5 (by decide) ?_
  refine lv_imul hx hb d_S_ofField_6 ?_
  refine lv_iload_n hx hb d_S_ofField_7 rfl (lv_at hl 2 rfl) ?_
  refine lv_iadd hx hb d_S_ofField_8 ?_
  obtain ⟨u9, hu9, h⟩ := bnd h
  refine gcall_i (va_runSN (As := [.ref (q 12), .int ((x1 * (4 : Int32)) + x2)]) (rest := []) ⟨hx, hb, hml, hown, hts⟩ (c_E_at_u l D cI cZ tL (wE cI cZ q σ ++ tl) 12 (q 12) 64 (σ 12) rfl ((x1 * (4 : Int32)) + x2) u9 hu9 s.heap.size) ⟨va_cnB 2 hts (TB_code w_133) rfl rfl rfl (nm_5 hE) (hts _ w_1) (by decide +kernel) ⟨Nat.le_of_ble_eq_true rfl, Nat.le_of_ble_eq_true rfl⟩, hts _ w_132, trivial⟩ (gpS hA hK (hD σ) hE hP hS) rfl rfl hl.1 rfl (lv_room (Nat.le_of_ble_eq_true rfl)) d_S_ofField_9 ⟨Nat.le_of_ble_eq_true rfl, Nat.le_of_ble_eq_true rfl⟩) hA (hD σ) hS (fun H locs hP hS => ?_)
  cases h
  exact gret_i hx hb hr hlk hP hS d_S_ofField_12
/-! ===== EscapeOwners$LeastSets.ofFieldOfAll(II)I ===== -/
def f_S_ofFieldOfAll_B5 (F : Nat) (σ : St) (y1 : Int32) (y2 : Int32) (rec : Int32 → Int32 → Option (Int32 × Int32)) (y3 : Int32) (y4 : Int32) : Option (Int32 × Int32) := if (16 : Int32) ≤ y4 then (some (y3, y4)) else (Option.bind (f_E_has y1 y4) (fun u15 => if u15 = 0 then (rec y3 (y4 + (1 : Int32))) else (Option.bind (f_S_ofField σ y4 y2) (fun u26 => rec (y3 ||| u26) (y4 + (1 : Int32))))))
def f_S_ofFieldOfAll_L5 (F : Nat) (σ : St) (y1 : Int32) (y2 : Int32) : Nat → Int32 → Int32 → Option (Int32 × Int32)
  | 0, _, _ => none
  | fu + 1, y3, y4 => f_S_ofFieldOfAll_B5 F σ y1 y2 (f_S_ofFieldOfAll_L5 F σ y1 y2 fu) y3 y4
def f_S_ofFieldOfAll (F : Nat) (σ : St) (x1 : Int32) (x2 : Int32) : Option (Int32) := Option.bind (f_S_ofFieldOfAll_L5 F σ x1 x2 F (0 : Int32) (0 : Int32)) (fun u5 => some u5.1)
set_option maxHeartbeats 4000000 in
set_option maxRecDepth 100000 in
theorem c_S_ofFieldOfAll (l : Launch) (D : va_G) (cI cZ : ClassId) (tL : Nat) (q : Nat → Nat) (tl : va_W) (F : Nat) (σ : St) (x1 : Int32) (x2 : Int32) (out0 : Int32) (h : f_S_ofFieldOfAll F σ x1 x2 = some out0) : gCi l y_S_ofFieldOfAll (.code y_S_ofFieldOfAll b_S_ofFieldOfAll 5 (some .int) :: TB) { frames := 2, cells := 0, slots := 0, locals := 43 } D [(cI, .int), (cZ, .boolean)] tL [.ref (q 2), .int x1, .int x2] (wE cI cZ q σ ++ tl) out0 (wE cI cZ q σ ++ tl) := by
  refine gCi_of (cc := b_S_ofFieldOfAll) (maxL := 5) (ty := .int) (by decide) rfl (Nat.le_of_ble_eq_true rfl) ?_
  intro p e s m below meth c A ls hf hr hlk hA hK hD0 hE hP hl
  obtain ⟨hx, hb, hml, hown, hts⟩ := id hf
  have hts : ∀ w ∈ TB, w.before _ s = true := fun w h => hts w (List.mem_cons_of_mem _ h)
  have hown : s.vm.findClass R_S = some m.cls := hown
  have hl : lv_has ls 5 [(0, .ref (q 2)), (1, .int x1), (2, .int x2)] := hl
  have hS : va_S A s.heap s.heap [] := va_S.rf
  have hD : ∀ σ' : St, va_D A (wE cI cZ q σ' ++ tl) := fun σ' => va_Dsame hD0 rfl
  have L5 : ∀ (σ : St) (y1 : Int32) (y2 : Int32) (fu : Nat) (y3 : Int32) (y4 : Int32) (H : Heap) (locs : List Loc) (ls : Array Slot) (out : Int32 × Int32), f_S_ofFieldOfAll_L5 F σ y1 y2 fu y3 y4 = some out → va_P D vwCl (wE cI cZ q σ ++ tl) H → va_S A s.heap H locs → lv_has ls 5 [(0, .ref (q 2)), (1, .int y1), (2, .int y2), (3, .int y3), (4, .int y4)] → (∀ (H : Heap) (locs : List Loc) (ls : Array Slot), va_P D vwCl (wE cI cZ q σ ++ tl) H → va_S A s.heap H locs → lv_has ls 5 [(0, .ref (q 2)), (1, .int y1), (2, .int y2), (3, .int out.1), (4, .int out.2)] → W p l e { frames := 2, cells := 0, slots := 0, locals := 43 } s m ([.ref (q 2), .int x1, .int x2] : List Value).toArray below meth c H locs 0 0 (gQi below D out0 (wE cI cZ q σ ++ tl) A (([.ref (q 2), .int x1, .int x2] : List Value).toArray) s) (F0 m 37 ls [])) → W p l e { frames := 2, cells := 0, slots := 0, locals := 43 } s m ([.ref (q 2), .int x1, .int x2] : List Value).toArray below meth c H locs 0 0 (gQi below D out0 (wE cI cZ q σ ++ tl) A (([.ref (q 2), .int x1, .int x2] : List Value).toArray) s) (F0 m 5 ls []) := by
    intro σ y1 y2 fu
    induction fu with
    | zero => intro y3 y4 H locs ls out h; exact absurd (show (none : Option (Int32 × Int32)) = some out from h) (fun z => by cases z)
    | succ fu ih =>
      intro y3 y4 H locs ls out h hP hS hl K
      have h : f_S_ofFieldOfAll_B5 F σ y1 y2 (f_S_ofFieldOfAll_L5 F σ y1 y2 fu) y3 y4 = some out := h
      unfold f_S_ofFieldOfAll_B5 at h
      refine lv_iload hx hb d_S_ofFieldOfAll_5 (lv_at hl 4 rfl) ?_
      refine lv_bipush (v := 16) hx hb d_S_ofFieldOfAll_7 (by decide) ?_
      refine lv_icmp_ge (tgt := 37) hx hb d_S_ofFieldOfAll_9 (by decide) (fun c => ?_) (fun c => ?_)
      · have h := ifp c h
        cases h
        exact K _ _ ls hP hS (lv_sub hl [0, 1, 2, 3, 4] rfl)
      have h := ifn c h
      refine lv_iload_n hx hb d_S_ofFieldOfAll_12 rfl (lv_at hl 1 rfl) ?_
      refine lv_iload hx hb d_S_ofFieldOfAll_13 (lv_at hl 4 rfl) ?_
      obtain ⟨u15, hu15, h⟩ := bnd h
      refine gcall_i (va_runSN (As := [.int y1, .int y4]) (rest := []) ⟨hx, hb, hml, hown, hts⟩ (c_E_has l D cI cZ tL (wE cI cZ q σ ++ tl) y1 y4 u15 hu15 H.size) ⟨va_cnB 2 hts (TB_code w_210) rfl rfl rfl (nm_4 hE) (hts _ w_1) (by decide +kernel) ⟨Nat.le_of_ble_eq_true rfl, Nat.le_of_ble_eq_true rfl⟩, hts _ w_209, trivial⟩ (gpS hA hK (hD σ) hE hP hS) rfl rfl hl.1 rfl (lv_room (Nat.le_of_ble_eq_true rfl)) d_S_ofFieldOfAll_15 ⟨Nat.le_of_ble_eq_true rfl, Nat.le_of_ble_eq_true rfl⟩) hA (hD σ) hS (fun H locs hP hS => ?_)
      refine lv_if_eq (tgt := 31) hx hb d_S_ofFieldOfAll_18 (by decide) (fun c => ?_) (fun c => ?_)
      · have h := ifp c h
        refine lv_iinc (v := (y4 + (1 : Int32))) (lv' := [(4, .int (y4 + (1 : Int32))), (0, .ref (q 2)), (1, .int y1), (2, .int y2), (3, .int y3)]) hx hb d_S_ofFieldOfAll_31 hl (k := 4) rfl rfl (by decide) rfl (fun ls hl => ?_)
        refine lv_goto (tgt := 5) hx hb d_S_ofFieldOfAll_34 (by decide) ?_
        exact ih y3 (y4 + (1 : Int32)) _ _ ls out h hP hS (lv_sub hl [1, 2, 3, 4, 0] rfl) K
      have h := ifn c h
      refine lv_iload_n hx hb d_S_ofFieldOfAll_21 rfl (lv_at hl 3 rfl) ?_
      refine lv_aload_n hx hb d_S_ofFieldOfAll_22 rfl (lv_at hl 0 rfl) ?_
      refine lv_iload hx hb d_S_ofFieldOfAll_23 (lv_at hl 4 rfl) ?_
      refine lv_iload_n hx hb d_S_ofFieldOfAll_25 rfl (lv_at hl 2 rfl) ?_
      obtain ⟨u26, hu26, h⟩ := bnd h
      refine gcall_i (va_runV (As := [.int y4, .int y2]) (rest := [.int y3]) ⟨hx, hb, hml, hown, hts⟩ (c_S_ofField l D cI cZ tL q tl σ y4 y2 u26 hu26 H.size) (cwV 2 hts (gV w_233 w_234 w_235 w_3 w_236) rfl rfl rfl (by decide +kernel) ⟨Nat.le_of_ble_eq_true rfl, Nat.le_of_ble_eq_true rfl⟩) (gpV (k := 2) (ci := 2) hA hK (hD σ) hE hP hS rfl rfl) rfl rfl hl.1 rfl (lv_room (Nat.le_of_ble_eq_true rfl)) d_S_ofFieldOfAll_26 ⟨Nat.le_of_ble_eq_true rfl, Nat.le_of_ble_eq_true rfl⟩) hA (hD σ) hS (fun H locs hP hS => ?_)
      refine lv_ior hx hb d_S_ofFieldOfAll_29 ?_
      refine lv_istore_n (lv' := [(3, .int (y3 ||| u26)), (0, .ref (q 2)), (1, .int y1), (2, .int y2), (4, .int y4)]) hx hb d_S_ofFieldOfAll_30 rfl hl (by decide) rfl (fun ls hl => ?_)
      refine lv_iinc (v := (y4 + (1 : Int32))) (lv' := [(4, .int (y4 + (1 : Int32))), (3, .int (y3 ||| u26)), (0, .ref (q 2)), (1, .int y1), (2, .int y2)]) hx hb d_S_ofFieldOfAll_31 hl (k := 4) rfl rfl (by decide) rfl (fun ls hl => ?_)
      refine lv_goto (tgt := 5) hx hb d_S_ofFieldOfAll_34 (by decide) ?_
      exact ih (y3 ||| u26) (y4 + (1 : Int32)) _ _ ls out h hP hS (lv_sub hl [2, 3, 4, 1, 0] rfl) K
  unfold f_S_ofFieldOfAll at h
  refine lv_iconst (v := 0) hx hb d_S_ofFieldOfAll_0 (by decide) ?_
  refine lv_istore_n (lv' := [(3, .int (0 : Int32)), (0, .ref (q 2)), (1, .int x1), (2, .int x2)]) hx hb d_S_ofFieldOfAll_1 rfl hl (by decide) rfl (fun ls hl => ?_)
  refine lv_iconst (v := 0) hx hb d_S_ofFieldOfAll_2 (by decide) ?_
  refine lv_istore (lv' := [(4, .int (0 : Int32)), (3, .int (0 : Int32)), (0, .ref (q 2)), (1, .int x1), (2, .int x2)]) hx hb d_S_ofFieldOfAll_3 hl (by decide) rfl (fun ls hl => ?_)
  obtain ⟨u5, hu5, h⟩ := bnd h
  refine L5 σ x1 x2 F (0 : Int32) (0 : Int32) _ _ ls u5 hu5 hP hS (lv_sub hl [2, 3, 4, 1, 0] rfl) (fun H locs ls hP hS hl => ?_)
  refine lv_iload_n hx hb d_S_ofFieldOfAll_37 rfl (lv_at hl 3 rfl) ?_
  cases h
  exact gret_i hx hb hr hlk hP hS d_S_ofFieldOfAll_38
/-! ===== EscapeOwners$LeastSets.joinFields(III)Z ===== -/
def f_S_joinFields_B6 (F : Nat) (y1 : Int32) (y2 : Int32) (y3 : Int32) (rec : Int32 → Int32 → St → Option (Int32 × Int32 × St)) (y4 : Int32) (y5 : Int32) (σ : St) : Option (Int32 × Int32 × St) := if (16 : Int32) ≤ y5 then (some (y4, y5, σ)) else (Option.bind (f_E_has y1 y5) (fun u16 => if u16 = 0 then (rec y4 (y5 + (1 : Int32)) σ) else (Option.bind (f_E_join 64 (σ 12) ((y5 * (4 : Int32)) + y2) y3) (fun u33 => lett (sr σ 12 u33.2) (fun s33 => if u33.1 = 0 then (rec y4 (y5 + (1 : Int32)) s33) else (rec (1 : Int32) (y5 + (1 : Int32)) s33))))))
def f_S_joinFields_L6 (F : Nat) (y1 : Int32) (y2 : Int32) (y3 : Int32) : Nat → Int32 → Int32 → St → Option (Int32 × Int32 × St)
  | 0, _, _, _ => none
  | fu + 1, y4, y5, σ => f_S_joinFields_B6 F y1 y2 y3 (f_S_joinFields_L6 F y1 y2 y3 fu) y4 y5 σ
def f_S_joinFields (F : Nat) (σ : St) (x1 : Int32) (x2 : Int32) (x3 : Int32) : Option (Int32 × St) := Option.bind (f_S_joinFields_L6 F x1 x2 x3 F (0 : Int32) (0 : Int32) σ) (fun u6 => if u6.1 = 0 ∨ u6.1 = 1 then some (u6.1, u6.2.2) else none)
set_option maxHeartbeats 4000000 in
set_option maxRecDepth 100000 in
theorem c_S_joinFields (l : Launch) (D : va_G) (cI cZ : ClassId) (tL : Nat) (q : Nat → Nat) (tl : va_W) (F : Nat) (σ : St) (x1 : Int32) (x2 : Int32) (x3 : Int32) (out0 : Int32 × St) (h : f_S_joinFields F σ x1 x2 x3 = some out0) : gCi l y_S_joinFields (.code y_S_joinFields b_S_joinFields 6 (some .boolean) :: TB) { frames := 1, cells := 0, slots := 0, locals := 23 } D [(cI, .int), (cZ, .boolean)] tL [.ref (q 2), .int x1, .int x2, .int x3] (wE cI cZ q σ ++ tl) out0.1 (wE cI cZ q out0.2 ++ tl) := by
  refine gCi_of (cc := b_S_joinFields) (maxL := 6) (ty := .boolean) (by decide) rfl (Nat.le_of_ble_eq_true rfl) ?_
  intro p e s m below meth c A ls hf hr hlk hA hK hD0 hE hP hl
  obtain ⟨hx, hb, hml, hown, hts⟩ := id hf
  have hts : ∀ w ∈ TB, w.before _ s = true := fun w h => hts w (List.mem_cons_of_mem _ h)
  have hown : s.vm.findClass R_S = some m.cls := hown
  have hl : lv_has ls 6 [(0, .ref (q 2)), (1, .int x1), (2, .int x2), (3, .int x3)] := hl
  have hS : va_S A s.heap s.heap [] := va_S.rf
  have hD : ∀ σ' : St, va_D A (wE cI cZ q σ' ++ tl) := fun σ' => va_Dsame hD0 rfl
  have L6 : ∀ (y1 : Int32) (y2 : Int32) (y3 : Int32) (fu : Nat) (y4 : Int32) (y5 : Int32) (σ : St) (H : Heap) (locs : List Loc) (ls : Array Slot) (out : Int32 × Int32 × St), f_S_joinFields_L6 F y1 y2 y3 fu y4 y5 σ = some out → va_P D vwCl (wE cI cZ q σ ++ tl) H → va_S A s.heap H locs → lv_has ls 6 [(0, .ref (q 2)), (1, .int y1), (2, .int y2), (3, .int y3), (4, .int y4), (5, .int y5)] → (∀ (H : Heap) (locs : List Loc) (ls : Array Slot), va_P D vwCl (wE cI cZ q out.2.2 ++ tl) H → va_S A s.heap H locs → lv_has ls 6 [(0, .ref (q 2)), (1, .int y1), (2, .int y2), (3, .int y3), (4, .int out.1), (5, .int out.2.1)] → W p l e { frames := 1, cells := 0, slots := 0, locals := 23 } s m ([.ref (q 2), .int x1, .int x2, .int x3] : List Value).toArray below meth c H locs 0 0 (gQi below D out0.1 (wE cI cZ q out0.2 ++ tl) A (([.ref (q 2), .int x1, .int x2, .int x3] : List Value).toArray) s) (F0 m 48 ls [])) → W p l e { frames := 1, cells := 0, slots := 0, locals := 23 } s m ([.ref (q 2), .int x1, .int x2, .int x3] : List Value).toArray below meth c H locs 0 0 (gQi below D out0.1 (wE cI cZ q out0.2 ++ tl) A (([.ref (q 2), .int x1, .int x2, .int x3] : List Value).toArray) s) (F0 m 6 ls []) := by
    intro y1 y2 y3 fu
    induction fu with
    | zero => intro y4 y5 σ H locs ls out h; exact absurd (show (none : Option (Int32 × Int32 × St)) = some out from h) (fun z => by cases z)
    | succ fu ih =>
      intro y4 y5 σ H locs ls out h hP hS hl K
      have h : f_S_joinFields_B6 F y1 y2 y3 (f_S_joinFields_L6 F y1 y2 y3 fu) y4 y5 σ = some out := h
      unfold f_S_joinFields_B6 at h
      refine lv_iload hx hb d_S_joinFields_6 (lv_at hl 5 rfl) ?_
      refine lv_bipush (v := 16) hx hb d_S_joinFields_8 (by decide) ?_
      refine lv_icmp_ge (tgt := 48) hx hb d_S_joinFields_10 (by decide) (fun c => ?_) (fun c => ?_)
      · have h := ifp c h
        cases h
        exact K _ _ ls hP hS (lv_sub hl [0, 1, 2, 3, 4, 5] rfl)
      have h := ifn c h
      refine lv_iload_n hx hb d_S_joinFields_13 rfl (lv_at hl 1 rfl) ?_
      refine lv_iload hx hb d_S_joinFields_14 (lv_at hl 5 rfl) ?_
      obtain ⟨u16, hu16, h⟩ := bnd h
      refine gcall_i (va_runSN (As := [.int y1, .int y5]) (rest := []) ⟨hx, hb, hml, hown, hts⟩ (c_E_has l D cI cZ tL (wE cI cZ q σ ++ tl) y1 y5 u16 hu16 H.size) ⟨va_cnB 2 hts (TB_code w_210) rfl rfl rfl (nm_4 hE) (hts _ w_1) (by decide +kernel) ⟨Nat.le_of_ble_eq_true rfl, Nat.le_of_ble_eq_true rfl⟩, hts _ w_209, trivial⟩ (gpS hA hK (hD σ) hE hP hS) rfl rfl hl.1 rfl (lv_room (Nat.le_of_ble_eq_true rfl)) d_S_joinFields_16 ⟨Nat.le_of_ble_eq_true rfl, Nat.le_of_ble_eq_true rfl⟩) hA (hD σ) hS (fun H locs hP hS => ?_)
      refine lv_if_eq (tgt := 42) hx hb d_S_joinFields_19 (by decide) (fun c => ?_) (fun c => ?_)
      · have h := ifp c h
        refine lv_iinc (v := (y5 + (1 : Int32))) (lv' := [(5, .int (y5 + (1 : Int32))), (0, .ref (q 2)), (1, .int y1), (2, .int y2), (3, .int y3), (4, .int y4)]) hx hb d_S_joinFields_42 hl (k := 5) rfl rfl (by decide) rfl (fun ls hl => ?_)
        refine lv_goto (tgt := 6) hx hb d_S_joinFields_45 (by decide) ?_
        exact ih y4 (y5 + (1 : Int32)) σ _ _ ls out h hP hS (lv_sub hl [1, 2, 3, 4, 5, 0] rfl) K
      have h := ifn c h
      refine lv_aload_n hx hb d_S_joinFields_22 rfl (lv_at hl 0 rfl) ?_
      refine va_get (D := D) (ci := 2) (v := .ref (q 12)) (C := R_S) (T := T_S) (N := 11) hx hb hts l_S hown hK hP 2 rfl rfl 3 (by decide) (hts _ w_46) (fun _ h9 => h9) rfl d_S_joinFields_23 ?_
      refine lv_iload hx hb d_S_joinFields_26 (lv_at hl 5 rfl) ?_
      refine lv_iconst (v := 4) hx hb d_S_joinFields_28 (by decide) ?_
      refine lv_imul hx hb d_S_joinFields_29 ?_
      refine lv_iload_n hx hb d_S_joinFields_30 rfl (lv_at hl 2 rfl) ?_
      refine lv_iadd hx hb d_S_joinFields_31 ?_
      refine lv_iload_n hx hb d_S_joinFields_32 rfl (lv_at hl 3 rfl) ?_
      obtain ⟨u33, hu33, h⟩ := bnd h
      refine gcall_i (va_runSN (As := [.ref (q 12), .int ((y5 * (4 : Int32)) + y2), .int y3]) (rest := []) ⟨hx, hb, hml, hown, hts⟩ (c_E_join_u l D cI cZ tL (wE cI cZ q σ ++ tl) 12 (q 12) 64 (σ 12) rfl ((y5 * (4 : Int32)) + y2) y3 u33 hu33 H.size) ⟨va_cnB 3 hts (TB_code w_204) rfl rfl rfl (nm_3 hE) (hts _ w_1) (by decide +kernel) ⟨Nat.le_of_ble_eq_true rfl, Nat.le_of_ble_eq_true rfl⟩, hts _ w_203, trivial⟩ (gpS hA hK (hD σ) hE hP hS) rfl rfl hl.1 rfl (lv_room (Nat.le_of_ble_eq_true rfl)) d_S_joinFields_33 ⟨Nat.le_of_ble_eq_true rfl, Nat.le_of_ble_eq_true rfl⟩) hA (hD σ) hS (fun H locs hP hS => ?_)
      have hP : va_P D vwCl (wE cI cZ q (sr σ 12 u33.2) ++ tl) H := hP
      obtain ⟨s33, es33, h⟩ := lettE h
      rw [← es33] at hP
      refine lv_if_eq (tgt := 42) hx hb d_S_joinFields_36 (by decide) (fun c => ?_) (fun c => ?_)
      · have h := ifp c h
        refine lv_iinc (v := (y5 + (1 : Int32))) (lv' := [(5, .int (y5 + (1 : Int32))), (0, .ref (q 2)), (1, .int y1), (2, .int y2), (3, .int y3), (4, .int y4)]) hx hb d_S_joinFields_42 hl (k := 5) rfl rfl (by decide) rfl (fun ls hl => ?_)
        refine lv_goto (tgt := 6) hx hb d_S_joinFields_45 (by decide) ?_
        exact ih y4 (y5 + (1 : Int32)) s33 _ _ ls out h hP hS (lv_sub hl [1, 2, 3, 4, 5, 0] rfl) K
      have h := ifn c h
      refine lv_iconst (v := 1) hx hb d_S_joinFields_39 (by decide) ?_
      refine lv_istore (lv' := [(4, .int (1 : Int32)), (0, .ref (q 2)), (1, .int y1), (2, .int y2), (3, .int y3), (5, .int y5)]) hx hb d_S_joinFields_40 hl (by decide) rfl (fun ls hl => ?_)
      refine lv_iinc (v := (y5 + (1 : Int32))) (lv' := [(5, .int (y5 + (1 : Int32))), (4, .int (1 : Int32)), (0, .ref (q 2)), (1, .int y1), (2, .int y2), (3, .int y3)]) hx hb d_S_joinFields_42 hl (k := 5) rfl rfl (by decide) rfl (fun ls hl => ?_)
      refine lv_goto (tgt := 6) hx hb d_S_joinFields_45 (by decide) ?_
      exact ih (1 : Int32) (y5 + (1 : Int32)) s33 _ _ ls out h hP hS (lv_sub hl [2, 3, 4, 5, 1, 0] rfl) K
  unfold f_S_joinFields at h
  refine lv_iconst (v := 0) hx hb d_S_joinFields_0 (by decide) ?_
  refine lv_istore (lv' := [(4, .int (0 : Int32)), (0, .ref (q 2)), (1, .int x1), (2, .int x2), (3, .int x3)]) hx hb d_S_joinFields_1 hl (by decide) rfl (fun ls hl => ?_)
  refine lv_iconst (v := 0) hx hb d_S_joinFields_3 (by decide) ?_
  refine lv_istore (lv' := [(5, .int (0 : Int32)), (4, .int (0 : Int32)), (0, .ref (q 2)), (1, .int x1), (2, .int x2), (3, .int x3)]) hx hb d_S_joinFields_4 hl (by decide) rfl (fun ls hl => ?_)
  obtain ⟨u6, hu6, h⟩ := bnd h
  refine L6 x1 x2 x3 F (0 : Int32) (0 : Int32) σ _ _ ls u6 hu6 hP hS (lv_sub hl [2, 3, 4, 5, 1, 0] rfl) (fun H locs ls hP hS hl => ?_)
  refine lv_iload hx hb d_S_joinFields_48 (lv_at hl 4 rfl) ?_
  obtain ⟨c, h⟩ := ifs h
  cases h
  exact gret_z hx hb hr hlk (gz c) hP hS d_S_joinFields_50
/-! ===== EscapeOwners$LeastSets.flowCall(III)Z ===== -/
def f_S_flowCall_B6 (F : Nat) (y1 : Int32) (y2 : Int32) (y3 : Int32) (rec : Int32 → Int32 → St → Option (Int32 × Int32 × St)) (y4 : Int32) (y5 : Int32) (σ : St) : Option (Int32 × Int32 × St) := if (3 : Int32) ≤ y5 then (some (y4, y5, σ)) else (Option.bind (f_P_need σ y1 ((1 : Int32) + y5)) (fun u21 => if u21 = (-1 : Int32) then (rec y4 (y5 + (1 : Int32)) σ) else (Option.bind (f_S_ofName σ y2 u21) (fun u40 => Option.bind (f_S_joinName σ y3 y5 u40) (fun u43 => if u43.1 = 0 then (rec y4 (y5 + (1 : Int32)) u43.2) else (rec (1 : Int32) (y5 + (1 : Int32)) u43.2))))))
def f_S_flowCall_L6 (F : Nat) (y1 : Int32) (y2 : Int32) (y3 : Int32) : Nat → Int32 → Int32 → St → Option (Int32 × Int32 × St)
  | 0, _, _, _ => none
  | fu + 1, y4, y5, σ => f_S_flowCall_B6 F y1 y2 y3 (f_S_flowCall_L6 F y1 y2 y3 fu) y4 y5 σ
def f_S_flowCall (F : Nat) (σ : St) (x1 : Int32) (x2 : Int32) (x3 : Int32) : Option (Int32 × St) := Option.bind (f_S_flowCall_L6 F x1 x2 x3 F (0 : Int32) (0 : Int32) σ) (fun u6 => Option.bind (f_P_need u6.2.2 x1 (4 : Int32)) (fun u64 => if u64 = (-1 : Int32) then (if u6.1 = 0 ∨ u6.1 = 1 then some (u6.1, u6.2.2) else none) else (Option.bind (f_E_at 8 (u6.2.2 14) x3) (fun u84 => Option.bind (f_S_joinName u6.2.2 x2 u64 u84) (fun u87 => if u87.1 = 0 then (if u6.1 = 0 ∨ u6.1 = 1 then some (u6.1, u87.2) else none) else (some ((1 : Int32), u87.2)))))))
set_option maxHeartbeats 4000000 in
set_option maxRecDepth 100000 in
theorem c_S_flowCall (l : Launch) (D : va_G) (cI cZ : ClassId) (tL : Nat) (q : Nat → Nat) (tl : va_W) (F : Nat) (σ : St) (x1 : Int32) (x2 : Int32) (x3 : Int32) (out0 : Int32 × St) (h : f_S_flowCall F σ x1 x2 x3 = some out0) : gCi l y_S_flowCall (.code y_S_flowCall b_S_flowCall 7 (some .boolean) :: TB) { frames := 2, cells := 0, slots := 0, locals := 46 } D [(cI, .int), (cZ, .boolean)] tL [.ref (q 2), .int x1, .int x2, .int x3] (wE cI cZ q σ ++ tl) out0.1 (wE cI cZ q out0.2 ++ tl) := by
  refine gCi_of (cc := b_S_flowCall) (maxL := 7) (ty := .boolean) (by decide) rfl (Nat.le_of_ble_eq_true rfl) ?_
  intro p e s m below meth c A ls hf hr hlk hA hK hD0 hE hP hl
  obtain ⟨hx, hb, hml, hown, hts⟩ := id hf
  have hts : ∀ w ∈ TB, w.before _ s = true := fun w h => hts w (List.mem_cons_of_mem _ h)
  have hown : s.vm.findClass R_S = some m.cls := hown
  have hl : lv_has ls 7 [(0, .ref (q 2)), (1, .int x1), (2, .int x2), (3, .int x3)] := hl
  have hS : va_S A s.heap s.heap [] := va_S.rf
  have hD : ∀ σ' : St, va_D A (wE cI cZ q σ' ++ tl) := fun σ' => va_Dsame hD0 rfl
  have L6 : ∀ (y1 : Int32) (y2 : Int32) (y3 : Int32) (fu : Nat) (y4 : Int32) (y5 : Int32) (σ : St) (H : Heap) (locs : List Loc) (ls : Array Slot) (out : Int32 × Int32 × St), f_S_flowCall_L6 F y1 y2 y3 fu y4 y5 σ = some out → va_P D vwCl (wE cI cZ q σ ++ tl) H → va_S A s.heap H locs → lv_has ls 7 [(0, .ref (q 2)), (1, .int y1), (2, .int y2), (3, .int y3), (4, .int y4), (5, .int y5)] → (∀ (H : Heap) (locs : List Loc) (ls : Array Slot), va_P D vwCl (wE cI cZ q out.2.2 ++ tl) H → va_S A s.heap H locs → lv_has ls 7 [(0, .ref (q 2)), (1, .int y1), (2, .int y2), (3, .int y3), (4, .int out.1), (5, .int out.2.1)] → W p l e { frames := 2, cells := 0, slots := 0, locals := 46 } s m ([.ref (q 2), .int x1, .int x2, .int x3] : List Value).toArray below meth c H locs 0 0 (gQi below D out0.1 (wE cI cZ q out0.2 ++ tl) A (([.ref (q 2), .int x1, .int x2, .int x3] : List Value).toArray) s) (F0 m 58 ls [])) → W p l e { frames := 2, cells := 0, slots := 0, locals := 46 } s m ([.ref (q 2), .int x1, .int x2, .int x3] : List Value).toArray below meth c H locs 0 0 (gQi below D out0.1 (wE cI cZ q out0.2 ++ tl) A (([.ref (q 2), .int x1, .int x2, .int x3] : List Value).toArray) s) (F0 m 6 ls []) := by
    intro y1 y2 y3 fu
    induction fu with
    | zero => intro y4 y5 σ H locs ls out h; exact absurd (show (none : Option (Int32 × Int32 × St)) = some out from h) (fun z => by cases z)
    | succ fu ih =>
      intro y4 y5 σ H locs ls out h hP hS hl K
      have h : f_S_flowCall_B6 F y1 y2 y3 (f_S_flowCall_L6 F y1 y2 y3 fu) y4 y5 σ = some out := h
      unfold f_S_flowCall_B6 at h
      refine lv_iload hx hb d_S_flowCall_6 (lv_at hl 5 rfl) ?_
      refine lv_iconst (v := 3) hx hb d_S_flowCall_8 (by decide) ?_
      refine lv_icmp_ge (tgt := 58) hx hb d_S_flowCall_9 (by decide) (fun c => ?_) (fun c => ?_)
      · have h := ifp c h
        cases h
        exact K _ _ ls hP hS (lv_sub hl [0, 1, 2, 3, 4, 5] rfl)
      have h := ifn c h
      refine lv_aload_n hx hb d_S_flowCall_12 rfl (lv_at hl 0 rfl) ?_
      refine va_get (D := D) (ci := 2) (v := .ref (q 1)) (C := R_S) (T := T_S) (N := 11) hx hb hts l_S hown hK hP 2 rfl rfl 0 (by decide) (hts _ w_43) (fun _ h9 => h9) rfl d_S_flowCall_13 ?_
      refine lv_iload_n hx hb d_S_flowCall_16 rfl (lv_at hl 1 rfl) ?_
      refine lv_iconst (v := 1) hx hb d_S_flowCall_17 (by decide) ?_
      refine lv_iload hx hb d_S_flowCall_18 (lv_at hl 5 rfl) ?_
      refine lv_iadd hx hb d_S_flowCall_20 ?_
      obtain ⟨u21, hu21, h⟩ := bnd h
      refine gcall_i (va_runV (As := [.int y1, .int ((1 : Int32) + y5)]) (rest := []) ⟨hx, hb, hml, hown, hts⟩ (c_P_need l D cI cZ tL q tl σ y1 ((1 : Int32) + y5) u21 hu21 H.size) (cwV 2 hts (gV w_202 w_185 w_186 w_2 w_187) rfl rfl rfl (by decide +kernel) ⟨Nat.le_of_ble_eq_true rfl, Nat.le_of_ble_eq_true rfl⟩) (gpV (k := 1) (ci := 1) hA hK (hD σ) hE hP hS rfl rfl) rfl rfl hl.1 rfl (lv_room (Nat.le_of_ble_eq_true rfl)) d_S_flowCall_21 ⟨Nat.le_of_ble_eq_true rfl, Nat.le_of_ble_eq_true rfl⟩) hA (hD σ) hS (fun H locs hP hS => ?_)
      refine lv_istore (lv' := [(6, .int u21), (0, .ref (q 2)), (1, .int y1), (2, .int y2), (3, .int y3), (4, .int y4), (5, .int y5)]) hx hb d_S_flowCall_24 hl (by decide) rfl (fun ls hl => ?_)
      refine lv_iload hx hb d_S_flowCall_26 (lv_at hl 0 rfl) ?_
      refine lv_iconst (v := -1) hx hb d_S_flowCall_28 (by decide) ?_
      refine lv_icmp_eq (tgt := 52) hx hb d_S_flowCall_29 (by decide) (fun c => ?_) (fun c => ?_)
      · have h := ifp c h
        refine lv_iinc (v := (y5 + (1 : Int32))) (lv' := [(5, .int (y5 + (1 : Int32))), (6, .int u21), (0, .ref (q 2)), (1, .int y1), (2, .int y2), (3, .int y3), (4, .int y4)]) hx hb d_S_flowCall_52 hl (k := 6) rfl rfl (by decide) rfl (fun ls hl => ?_)
        refine lv_goto (tgt := 6) hx hb d_S_flowCall_55 (by decide) ?_
        exact ih y4 (y5 + (1 : Int32)) σ _ _ ls out h hP hS (lv_sub hl [2, 3, 4, 5, 6, 0] rfl) K
      have h := ifn c h
      refine lv_aload_n hx hb d_S_flowCall_32 rfl (lv_at hl 1 rfl) ?_
      refine lv_iload_n hx hb d_S_flowCall_33 rfl (lv_at hl 4 rfl) ?_
      refine lv_iload hx hb d_S_flowCall_34 (lv_at hl 6 rfl) ?_
      refine lv_aload_n hx hb d_S_flowCall_36 rfl (lv_at hl 1 rfl) ?_
      refine lv_iload_n hx hb d_S_flowCall_37 rfl (lv_at hl 3 rfl) ?_
      refine lv_iload hx hb d_S_flowCall_38 (lv_at hl 0 rfl) ?_
      obtain ⟨u40, hu40, h⟩ := bnd h
      refine gcall_i (va_runV (As := [.int y2, .int u21]) (rest := [.int y5, .int y3, .ref (q 2)]) ⟨hx, hb, hml, hown, hts⟩ (c_S_ofName l D cI cZ tL q tl σ y2 u21 u40 hu40 H.size) (cwV 2 hts (gV w_226 w_227 w_228 w_3 w_229) rfl rfl rfl (by decide +kernel) ⟨Nat.le_of_ble_eq_true rfl, Nat.le_of_ble_eq_true rfl⟩) (gpV (k := 2) (ci := 2) hA hK (hD σ) hE hP hS rfl rfl) rfl rfl hl.1 rfl (lv_room (Nat.le_of_ble_eq_true rfl)) d_S_flowCall_40 ⟨Nat.le_of_ble_eq_true rfl, Nat.le_of_ble_eq_true rfl⟩) hA (hD σ) hS (fun H locs hP hS => ?_)
      obtain ⟨u43, hu43, h⟩ := bnd h
      refine gcall_i (va_runV (As := [.int y3, .int y5, .int u40]) (rest := []) ⟨hx, hb, hml, hown, hts⟩ (c_S_joinName l D cI cZ tL q tl σ y3 y5 u40 u43 hu43 H.size) (cwV 3 hts (gV w_223 w_224 w_682 w_3 w_225) rfl rfl rfl (by decide +kernel) ⟨Nat.le_of_ble_eq_true rfl, Nat.le_of_ble_eq_true rfl⟩) (gpV (k := 2) (ci := 2) hA hK (hD σ) hE hP hS rfl rfl) rfl rfl hl.1 rfl (lv_room (Nat.le_of_ble_eq_true rfl)) d_S_flowCall_43 ⟨Nat.le_of_ble_eq_true rfl, Nat.le_of_ble_eq_true rfl⟩) hA (hD σ) hS (fun H locs hP hS => ?_)
      refine lv_if_eq (tgt := 52) hx hb d_S_flowCall_46 (by decide) (fun c => ?_) (fun c => ?_)
      · have h := ifp c h
        refine lv_iinc (v := (y5 + (1 : Int32))) (lv' := [(5, .int (y5 + (1 : Int32))), (6, .int u21), (0, .ref (q 2)), (1, .int y1), (2, .int y2), (3, .int y3), (4, .int y4)]) hx hb d_S_flowCall_52 hl (k := 6) rfl rfl (by decide) rfl (fun ls hl => ?_)
        refine lv_goto (tgt := 6) hx hb d_S_flowCall_55 (by decide) ?_
        exact ih y4 (y5 + (1 : Int32)) u43.2 _ _ ls out h hP hS (lv_sub hl [2, 3, 4, 5, 6, 0] rfl) K
      have h := ifn c h
      refine lv_iconst (v := 1) hx hb d_S_flowCall_49 (by decide) ?_
      refine lv_istore (lv' := [(4, .int (1 : Int32)), (6, .int u21), (0, .ref (q 2)), (1, .int y1), (2, .int y2), (3, .int y3), (5, .int y5)]) hx hb d_S_flowCall_50 hl (by decide) rfl (fun ls hl => ?_)
      refine lv_iinc (v := (y5 + (1 : Int32))) (lv' := [(5, .int (y5 + (1 : Int32))), (4, .int (1 : Int32)), (6, .int u21), (0, .ref (q 2)), (1, .int y1), (2, .int y2), (3, .int y3)]) hx hb d_S_flowCall_52 hl (k := 6) rfl rfl (by decide) rfl (fun ls hl => ?_)
      refine lv_goto (tgt := 6) hx hb d_S_flowCall_55 (by decide) ?_
      exact ih (1 : Int32) (y5 + (1 : Int32)) u43.2 _ _ ls out h hP hS (lv_sub hl [3, 4, 5, 6, 1, 0] rfl) K
  unfold f_S_flowCall at h
  refine lv_iconst (v := 0) hx hb d_S_flowCall_0 (by decide) ?_
  refine lv_istore (lv' := [(4, .int (0 : Int32)), (0, .ref (q 2)), (1, .int x1), (2, .int x2), (3, .int x3)]) hx hb d_S_flowCall_1 hl (by decide) rfl (fun ls hl => ?_)
  refine lv_iconst (v := 0) hx hb d_S_flowCall_3 (by decide) ?_
  refine lv_istore (lv' := [(5, .int (0 : Int32)), (4, .int (0 : Int32)), (0, .ref (q 2)), (1, .int x1), (2, .int x2), (3, .int x3)]) hx hb d_S_flowCall_4 hl (by decide) rfl (fun ls hl => ?_)
  obtain ⟨u6, hu6, h⟩ := bnd h
  refine L6 x1 x2 x3 F (0 : Int32) (0 : Int32) σ _ _ ls u6 hu6 hP hS (lv_sub hl [2, 3, 4, 5, 1, 0] rfl) (fun H locs ls hP hS hl => ?_)
  refine lv_aload_n hx hb d_S_flowCall_58 rfl (lv_at hl 0 rfl) ?_
  refine va_get (D := D) (ci := 2) (v := .ref (q 1)) (C := R_S) (T := T_S) (N := 11) hx hb hts l_S hown hK hP 2 rfl rfl 0 (by decide) (hts _ w_43) (fun _ h9 => h9) rfl d_S_flowCall_59 ?_
  refine lv_iload_n hx hb d_S_flowCall_62 rfl (lv_at hl 1 rfl) ?_
  refine lv_iconst (v := 4) hx hb d_S_flowCall_63 (by decide) ?_
  obtain ⟨u64, hu64, h⟩ := bnd h
  refine gcall_i (va_runV (As := [.int x1, .int (4 : Int32)]) (rest := []) ⟨hx, hb, hml, hown, hts⟩ (c_P_need l D cI cZ tL q tl u6.2.2 x1 (4 : Int32) u64 hu64 H.size) (cwV 2 hts (gV w_202 w_185 w_186 w_2 w_187) rfl rfl rfl (by decide +kernel) ⟨Nat.le_of_ble_eq_true rfl, Nat.le_of_ble_eq_true rfl⟩) (gpV (k := 1) (ci := 1) hA hK (hD u6.2.2) hE hP hS rfl rfl) rfl rfl hl.1 rfl (lv_room (Nat.le_of_ble_eq_true rfl)) d_S_flowCall_64 ⟨Nat.le_of_ble_eq_true rfl, Nat.le_of_ble_eq_true rfl⟩) hA (hD u6.2.2) hS (fun H locs hP hS => ?_)
  refine lv_istore (lv' := [(5, .int u64), (0, .ref (q 2)), (1, .int x1), (2, .int x2), (3, .int x3), (4, .int u6.1)]) hx hb d_S_flowCall_67 hl (by decide) rfl (fun ls hl => ?_)
  refine lv_iload hx hb d_S_flowCall_69 (lv_at hl 0 rfl) ?_
  refine lv_iconst (v := -1) hx hb d_S_flowCall_71 (by decide) ?_
  refine lv_icmp_eq (tgt := 96) hx hb d_S_flowCall_72 (by decide) (fun c => ?_) (fun c => ?_)
  · have h := ifp c h
    refine lv_iload hx hb d_S_flowCall_96 (lv_at hl 5 rfl) ?_
    obtain ⟨c, h⟩ := ifs h
    cases h
    exact gret_z hx hb hr hlk (gz c) hP hS d_S_flowCall_98
  have h := ifn c h
  refine lv_aload_n hx hb d_S_flowCall_75 rfl (lv_at hl 1 rfl) ?_
  refine lv_iload_n hx hb d_S_flowCall_76 rfl (lv_at hl 3 rfl) ?_
  refine lv_iload hx hb d_S_flowCall_77 (lv_at hl 0 rfl) ?_
  refine lv_aload_n hx hb d_S_flowCall_79 rfl (lv_at hl 1 rfl) ?_
  refine va_get (D := D) (ci := 2) (v := .ref (q 14)) (C := R_S) (T := T_S) (N := 11) hx hb hts l_S hown hK hP 2 rfl rfl 5 (by decide) (hts _ w_48) (fun _ h9 => h9) rfl d_S_flowCall_80 ?_
  refine lv_iload_n hx hb d_S_flowCall_83 rfl (lv_at hl 4 rfl) ?_
  obtain ⟨u84, hu84, h⟩ := bnd h
  refine gcall_i (va_runSN (As := [.ref (q 14), .int x3]) (rest := [.int u64, .int x2, .ref (q 2)]) ⟨hx, hb, hml, hown, hts⟩ (c_E_at_u l D cI cZ tL (wE cI cZ q u6.2.2 ++ tl) 14 (q 14) 8 (u6.2.2 14) rfl x3 u84 hu84 H.size) ⟨va_cnB 2 hts (TB_code w_133) rfl rfl rfl (nm_5 hE) (hts _ w_1) (by decide +kernel) ⟨Nat.le_of_ble_eq_true rfl, Nat.le_of_ble_eq_true rfl⟩, hts _ w_132, trivial⟩ (gpS hA hK (hD u6.2.2) hE hP hS) rfl rfl hl.1 rfl (lv_room (Nat.le_of_ble_eq_true rfl)) d_S_flowCall_84 ⟨Nat.le_of_ble_eq_true rfl, Nat.le_of_ble_eq_true rfl⟩) hA (hD u6.2.2) hS (fun H locs hP hS => ?_)
  obtain ⟨u87, hu87, h⟩ := bnd h
  refine gcall_i (va_runV (As := [.int x2, .int u64, .int u84]) (rest := []) ⟨hx, hb, hml, hown, hts⟩ (c_S_joinName l D cI cZ tL q tl u6.2.2 x2 u64 u84 u87 hu87 H.size) (cwV 3 hts (gV w_223 w_224 w_682 w_3 w_225) rfl rfl rfl (by decide +kernel) ⟨Nat.le_of_ble_eq_true rfl, Nat.le_of_ble_eq_true rfl⟩) (gpV (k := 2) (ci := 2) hA hK (hD u6.2.2) hE hP hS rfl rfl) rfl rfl hl.1 rfl (lv_room (Nat.le_of_ble_eq_true rfl)) d_S_flowCall_87 ⟨Nat.le_of_ble_eq_true rfl, Nat.le_of_ble_eq_true rfl⟩) hA (hD u6.2.2) hS (fun H locs hP hS => ?_)
  refine lv_if_eq (tgt := 96) hx hb d_S_flowCall_90 (by decide) (fun c => ?_) (fun c => ?_)
  · have h := ifp c h
    refine lv_iload hx hb d_S_flowCall_96 (lv_at hl 5 rfl) ?_
    obtain ⟨c, h⟩ := ifs h
    cases h
    exact gret_z hx hb hr hlk (gz c) hP hS d_S_flowCall_98
  have h := ifn c h
  refine lv_iconst (v := 1) hx hb d_S_flowCall_93 (by decide) ?_
  refine lv_istore (lv' := [(4, .int (1 : Int32)), (5, .int u64), (0, .ref (q 2)), (1, .int x1), (2, .int x2), (3, .int x3)]) hx hb d_S_flowCall_94 hl (by decide) rfl (fun ls hl => ?_)
  refine lv_iload hx hb d_S_flowCall_96 (lv_at hl 0 rfl) ?_
  cases h
  exact gret_z hx hb hr hlk (gz (Or.inr rfl)) hP hS d_S_flowCall_98
/-! ===== EscapeOwners$LeastSets.flow(I)Z ===== -/
def f_S_flow (F : Nat) (σ : St) (x1 : Int32) : Option (Int32 × St) := Option.bind (f_P_owner σ x1) (fun u5 => Option.bind (f_P_need σ x1 (0 : Int32)) (fun u15 => Option.bind (f_P_need σ x1 (1 : Int32)) (fun u25 => Option.bind (f_P_need σ x1 (2 : Int32)) (fun u36 => Option.bind (f_P_kind σ x1) (fun u46 => if u46 = 0 then (Option.bind (f_P_siteOf σ x1) (fun u105 => Option.bind (f_S_joinName σ u5 u15 ((1 : Int32) <<< (u105 &&& 31))) (fun u109 => if u109.1 = 0 ∨ u109.1 = 1 then some (u109.1, u109.2) else none))) else if u46 = 1 then (Option.bind (f_S_ofName σ u5 u25) (fun u120 => Option.bind (f_S_joinName σ u5 u15 u120) (fun u123 => if u123.1 = 0 ∨ u123.1 = 1 then some (u123.1, u123.2) else none))) else if u46 = 2 then (Option.bind (f_S_ofName σ u5 u25) (fun u135 => Option.bind (f_S_ofFieldOfAll F σ u135 u36) (fun u140 => Option.bind (f_S_joinName σ u5 u15 u140) (fun u143 => if u143.1 = 0 ∨ u143.1 = 1 then some (u143.1, u143.2) else none)))) else if u46 = 3 then (Option.bind (f_S_ofName σ u5 u15) (fun u151 => Option.bind (f_S_ofName σ u5 u36) (fun u160 => Option.bind (f_S_joinFields F σ u151 u25 u160) (fun u163 => if u163.1 = 0 ∨ u163.1 = 1 then some (u163.1, u163.2) else none)))) else if u46 = 4 then (Option.bind (f_E_at 4 (σ 13) u25) (fun u176 => Option.bind (f_S_joinName σ u5 u15 u176) (fun u179 => if u179.1 = 0 ∨ u179.1 = 1 then some (u179.1, u179.2) else none))) else if u46 = 5 then (Option.bind (f_S_ofName σ u5 u25) (fun u192 => Option.bind (f_E_join 4 (σ 13) u15 u192) (fun u195 => lett (sr σ 13 u195.2) (fun s195 => if u195.1 = 0 ∨ u195.1 = 1 then some (u195.1, s195) else none)))) else if u46 = 6 then (Option.bind (f_S_flowCall F σ x1 u5 u15) (fun u203 => if u203.1 = 0 ∨ u203.1 = 1 then some (u203.1, u203.2) else none)) else if u46 = 7 then (Option.bind (f_S_ofName σ u5 u15) (fun u215 => Option.bind (f_E_join 8 (σ 14) u5 u215) (fun u218 => lett (sr σ 14 u218.2) (fun s218 => if u218.1 = 0 ∨ u218.1 = 1 then some (u218.1, s218) else none)))) else (some ((0 : Int32), σ)))))))
set_option maxHeartbeats 4000000 in
set_option maxRecDepth 100000 in
theorem c_S_flow (l : Launch) (D : va_G) (cI cZ : ClassId) (tL : Nat) (q : Nat → Nat) (tl : va_W) (F : Nat) (σ : St) (x1 : Int32) (out0 : Int32 × St) (h : f_S_flow F σ x1 = some out0) : gCi l y_S_flow (.code y_S_flow b_S_flow 6 (some .boolean) :: TB) { frames := 3, cells := 0, slots := 0, locals := 72 } D [(cI, .int), (cZ, .boolean)] tL [.ref (q 2), .int x1] (wE cI cZ q σ ++ tl) out0.1 (wE cI cZ q out0.2 ++ tl) := by
  refine gCi_of (cc := b_S_flow) (maxL := 6) (ty := .boolean) (by decide) rfl (Nat.le_of_ble_eq_true rfl) ?_
  intro p e s m below meth c A ls hf hr hlk hA hK hD0 hE hP hl
  obtain ⟨hx, hb, hml, hown, hts⟩ := id hf
  have hts : ∀ w ∈ TB, w.before _ s = true := fun w h => hts w (List.mem_cons_of_mem _ h)
  have hown : s.vm.findClass R_S = some m.cls := hown
  have hl : lv_has ls 6 [(0, .ref (q 2)), (1, .int x1)] := hl
  have hS : va_S A s.heap s.heap [] := va_S.rf
  have hD : ∀ σ' : St, va_D A (wE cI cZ q σ' ++ tl) := fun σ' => va_Dsame hD0 rfl
  unfold f_S_flow at h
  refine lv_aload_n hx hb d_S_flow_0 rfl (lv_at hl 0 rfl) ?_
  refine va_get (D := D) (ci := 2) (v := .ref (q 1)) (C := R_S) (T := T_S) (N := 11) hx hb hts l_S hown hK hP 2 rfl rfl 0 (by decide) (hts _ w_43) (fun _ h9 => h9) rfl d_S_flow_1 ?_
  refine lv_iload_n hx hb d_S_flow_4 rfl (lv_at hl 1 rfl) ?_
  obtain ⟨u5, hu5, h⟩ := bnd h
  refine gcall_i (va_runV (As := [.int x1]) (rest := []) ⟨hx, hb, hml, hown, hts⟩ (c_P_owner l D cI cZ tL q tl σ x1 u5 hu5 s.heap.size) (cwV 1 hts (gV w_201 w_176 w_177 w_2 w_178) rfl rfl rfl (by decide +kernel) ⟨Nat.le_of_ble_eq_true rfl, Nat.le_of_ble_eq_true rfl⟩) (gpV (k := 1) (ci := 1) hA hK (hD σ) hE hP hS rfl rfl) rfl rfl hl.1 rfl (lv_room (Nat.le_of_ble_eq_true rfl)) d_S_flow_5 ⟨Nat.le_of_ble_eq_true rfl, Nat.le_of_ble_eq_true rfl⟩) hA (hD σ) hS (fun H locs hP hS => ?_)
  refine lv_istore_n (lv' := [(2, .int u5), (0, .ref (q 2)), (1, .int x1)]) hx hb d_S_flow_8 rfl hl (by decide) rfl (fun ls hl => ?_)
  refine lv_aload_n hx hb d_S_flow_9 rfl (lv_at hl 1 rfl) ?_
  refine va_get (D := D) (ci := 2) (v := .ref (q 1)) (C := R_S) (T := T_S) (N := 11) hx hb hts l_S hown hK hP 2 rfl rfl 0 (by decide) (hts _ w_43) (fun _ h9 => h9) rfl d_S_flow_10 ?_
  refine lv_iload_n hx hb d_S_flow_13 rfl (lv_at hl 2 rfl) ?_
  refine lv_iconst (v := 0) hx hb d_S_flow_14 (by decide) ?_
  obtain ⟨u15, hu15, h⟩ := bnd h
  refine gcall_i (va_runV (As := [.int x1, .int (0 : Int32)]) (rest := []) ⟨hx, hb, hml, hown, hts⟩ (c_P_need l D cI cZ tL q tl σ x1 (0 : Int32) u15 hu15 H.size) (cwV 2 hts (gV w_202 w_185 w_186 w_2 w_187) rfl rfl rfl (by decide +kernel) ⟨Nat.le_of_ble_eq_true rfl, Nat.le_of_ble_eq_true rfl⟩) (gpV (k := 1) (ci := 1) hA hK (hD σ) hE hP hS rfl rfl) rfl rfl hl.1 rfl (lv_room (Nat.le_of_ble_eq_true rfl)) d_S_flow_15 ⟨Nat.le_of_ble_eq_true rfl, Nat.le_of_ble_eq_true rfl⟩) hA (hD σ) hS (fun H locs hP hS => ?_)
  refine lv_istore_n (lv' := [(3, .int u15), (2, .int u5), (0, .ref (q 2)), (1, .int x1)]) hx hb d_S_flow_18 rfl hl (by decide) rfl (fun ls hl => ?_)
  refine lv_aload_n hx hb d_S_flow_19 rfl (lv_at hl 2 rfl) ?_
  refine va_get (D := D) (ci := 2) (v := .ref (q 1)) (C := R_S) (T := T_S) (N := 11) hx hb hts l_S hown hK hP 2 rfl rfl 0 (by decide) (hts _ w_43) (fun _ h9 => h9) rfl d_S_flow_20 ?_
  refine lv_iload_n hx hb d_S_flow_23 rfl (lv_at hl 3 rfl) ?_
  refine lv_iconst (v := 1) hx hb d_S_flow_24 (by decide) ?_
  obtain ⟨u25, hu25, h⟩ := bnd h
  refine gcall_i (va_runV (As := [.int x1, .int (1 : Int32)]) (rest := []) ⟨hx, hb, hml, hown, hts⟩ (c_P_need l D cI cZ tL q tl σ x1 (1 : Int32) u25 hu25 H.size) (cwV 2 hts (gV w_202 w_185 w_186 w_2 w_187) rfl rfl rfl (by decide +kernel) ⟨Nat.le_of_ble_eq_true rfl, Nat.le_of_ble_eq_true rfl⟩) (gpV (k := 1) (ci := 1) hA hK (hD σ) hE hP hS rfl rfl) rfl rfl hl.1 rfl (lv_room (Nat.le_of_ble_eq_true rfl)) d_S_flow_25 ⟨Nat.le_of_ble_eq_true rfl, Nat.le_of_ble_eq_true rfl⟩) hA (hD σ) hS (fun H locs hP hS => ?_)
  refine lv_istore (lv' := [(4, .int u25), (3, .int u15), (2, .int u5), (0, .ref (q 2)), (1, .int x1)]) hx hb d_S_flow_28 hl (by decide) rfl (fun ls hl => ?_)
  refine lv_aload_n hx hb d_S_flow_30 rfl (lv_at hl 3 rfl) ?_
  refine va_get (D := D) (ci := 2) (v := .ref (q 1)) (C := R_S) (T := T_S) (N := 11) hx hb hts l_S hown hK hP 2 rfl rfl 0 (by decide) (hts _ w_43) (fun _ h9 => h9) rfl d_S_flow_31 ?_
  refine lv_iload_n hx hb d_S_flow_34 rfl (lv_at hl 4 rfl) ?_
  refine lv_iconst (v := 2) hx hb d_S_flow_35 (by decide) ?_
  obtain ⟨u36, hu36, h⟩ := bnd h
  refine gcall_i (va_runV (As := [.int x1, .int (2 : Int32)]) (rest := []) ⟨hx, hb, hml, hown, hts⟩ (c_P_need l D cI cZ tL q tl σ x1 (2 : Int32) u36 hu36 H.size) (cwV 2 hts (gV w_202 w_185 w_186 w_2 w_187) rfl rfl rfl (by decide +kernel) ⟨Nat.le_of_ble_eq_true rfl, Nat.le_of_ble_eq_true rfl⟩) (gpV (k := 1) (ci := 1) hA hK (hD σ) hE hP hS rfl rfl) rfl rfl hl.1 rfl (lv_room (Nat.le_of_ble_eq_true rfl)) d_S_flow_36 ⟨Nat.le_of_ble_eq_true rfl, Nat.le_of_ble_eq_true rfl⟩) hA (hD σ) hS (fun H locs hP hS => ?_)
  refine lv_istore (lv' := [(5, .int u36), (4, .int u25), (3, .int u15), (2, .int u5), (0, .ref (q 2)), (1, .int x1)]) hx hb d_S_flow_39 hl (by decide) rfl (fun ls hl => ?_)
  refine lv_aload_n hx hb d_S_flow_41 rfl (lv_at hl 4 rfl) ?_
  refine va_get (D := D) (ci := 2) (v := .ref (q 1)) (C := R_S) (T := T_S) (N := 11) hx hb hts l_S hown hK hP 2 rfl rfl 0 (by decide) (hts _ w_43) (fun _ h9 => h9) rfl d_S_flow_42 ?_
  refine lv_iload_n hx hb d_S_flow_45 rfl (lv_at hl 5 rfl) ?_
  obtain ⟨u46, hu46, h⟩ := bnd h
  refine gcall_i (va_runV (As := [.int x1]) (rest := []) ⟨hx, hb, hml, hown, hts⟩ (c_P_kind l D cI cZ tL q tl σ x1 u46 hu46 H.size) (cwV 1 hts (gV w_200 w_166 w_167 w_2 w_168) rfl rfl rfl (by decide +kernel) ⟨Nat.le_of_ble_eq_true rfl, Nat.le_of_ble_eq_true rfl⟩) (gpV (k := 1) (ci := 1) hA hK (hD σ) hE hP hS rfl rfl) rfl rfl hl.1 rfl (lv_room (Nat.le_of_ble_eq_true rfl)) d_S_flow_46 ⟨Nat.le_of_ble_eq_true rfl, Nat.le_of_ble_eq_true rfl⟩) hA (hD σ) hS (fun H locs hP hS => ?_)
  by_cases c0 : u46 = 0
  · refine lv_tableIn (tgt := 96) hx hb d_S_flow_49 (by rw [c0]; decide) (by rw [c0]; decide) (by rw [c0]; rfl) (by decide) ?_
    have h := ifp c0 h
    refine lv_aload_n hx hb d_S_flow_96 rfl (lv_at hl 4 rfl) ?_
    refine lv_iload_n hx hb d_S_flow_97 rfl (lv_at hl 3 rfl) ?_
    refine lv_iload_n hx hb d_S_flow_98 rfl (lv_at hl 2 rfl) ?_
    refine lv_iconst (v := 1) hx hb d_S_flow_99 (by decide) ?_
    refine lv_aload_n hx hb d_S_flow_100 rfl (lv_at hl 4 rfl) ?_
    refine va_get (D := D) (ci := 2) (v := .ref (q 1)) (C := R_S) (T := T_S) (N := 11) hx hb hts l_S hown hK hP 2 rfl rfl 0 (by decide) (hts _ w_43) (fun _ h9 => h9) rfl d_S_flow_101 ?_
    refine lv_iload_n hx hb d_S_flow_104 rfl (lv_at hl 5 rfl) ?_
    obtain ⟨u105, hu105, h⟩ := bnd h
    refine gcall_i (va_runV (As := [.int x1]) (rest := [.int (1 : Int32), .int u15, .int u5, .ref (q 2)]) ⟨hx, hb, hml, hown, hts⟩ (c_P_siteOf l D cI cZ tL q tl σ x1 u105 hu105 H.size) (cwV 1 hts (gV w_222 w_181 w_182 w_2 w_183) rfl rfl rfl (by decide +kernel) ⟨Nat.le_of_ble_eq_true rfl, Nat.le_of_ble_eq_true rfl⟩) (gpV (k := 1) (ci := 1) hA hK (hD σ) hE hP hS rfl rfl) rfl rfl hl.1 rfl (lv_room (Nat.le_of_ble_eq_true rfl)) d_S_flow_105 ⟨Nat.le_of_ble_eq_true rfl, Nat.le_of_ble_eq_true rfl⟩) hA (hD σ) hS (fun H locs hP hS => ?_)
    refine lv_ishl hx hb d_S_flow_108 ?_
    obtain ⟨u109, hu109, h⟩ := bnd h
    refine gcall_i (va_runV (As := [.int u5, .int u15, .int ((1 : Int32) <<< (u105 &&& 31))]) (rest := []) ⟨hx, hb, hml, hown, hts⟩ (c_S_joinName l D cI cZ tL q tl σ u5 u15 ((1 : Int32) <<< (u105 &&& 31)) u109 hu109 H.size) (cwV 3 hts (gV w_223 w_224 w_682 w_3 w_225) rfl rfl rfl (by decide +kernel) ⟨Nat.le_of_ble_eq_true rfl, Nat.le_of_ble_eq_true rfl⟩) (gpV (k := 2) (ci := 2) hA hK (hD σ) hE hP hS rfl rfl) rfl rfl hl.1 rfl (lv_room (Nat.le_of_ble_eq_true rfl)) d_S_flow_109 ⟨Nat.le_of_ble_eq_true rfl, Nat.le_of_ble_eq_true rfl⟩) hA (hD σ) hS (fun H locs hP hS => ?_)
    obtain ⟨c, h⟩ := ifs h
    cases h
    exact gret_z hx hb hr hlk (gz c) hP hS d_S_flow_112
  have h := ifn c0 h
  by_cases c1 : u46 = 1
  · refine lv_tableIn (tgt := 113) hx hb d_S_flow_49 (by rw [c1]; decide) (by rw [c1]; decide) (by rw [c1]; rfl) (by decide) ?_
    have h := ifp c1 h
    refine lv_aload_n hx hb d_S_flow_113 rfl (lv_at hl 4 rfl) ?_
    refine lv_iload_n hx hb d_S_flow_114 rfl (lv_at hl 3 rfl) ?_
    refine lv_iload_n hx hb d_S_flow_115 rfl (lv_at hl 2 rfl) ?_
    refine lv_aload_n hx hb d_S_flow_116 rfl (lv_at hl 4 rfl) ?_
    refine lv_iload_n hx hb d_S_flow_117 rfl (lv_at hl 3 rfl) ?_
    refine lv_iload hx hb d_S_flow_118 (lv_at hl 1 rfl) ?_
    obtain ⟨u120, hu120, h⟩ := bnd h
    refine gcall_i (va_runV (As := [.int u5, .int u25]) (rest := [.int u15, .int u5, .ref (q 2)]) ⟨hx, hb, hml, hown, hts⟩ (c_S_ofName l D cI cZ tL q tl σ u5 u25 u120 hu120 H.size) (cwV 2 hts (gV w_226 w_227 w_228 w_3 w_229) rfl rfl rfl (by decide +kernel) ⟨Nat.le_of_ble_eq_true rfl, Nat.le_of_ble_eq_true rfl⟩) (gpV (k := 2) (ci := 2) hA hK (hD σ) hE hP hS rfl rfl) rfl rfl hl.1 rfl (lv_room (Nat.le_of_ble_eq_true rfl)) d_S_flow_120 ⟨Nat.le_of_ble_eq_true rfl, Nat.le_of_ble_eq_true rfl⟩) hA (hD σ) hS (fun H locs hP hS => ?_)
    obtain ⟨u123, hu123, h⟩ := bnd h
    refine gcall_i (va_runV (As := [.int u5, .int u15, .int u120]) (rest := []) ⟨hx, hb, hml, hown, hts⟩ (c_S_joinName l D cI cZ tL q tl σ u5 u15 u120 u123 hu123 H.size) (cwV 3 hts (gV w_223 w_224 w_682 w_3 w_225) rfl rfl rfl (by decide +kernel) ⟨Nat.le_of_ble_eq_true rfl, Nat.le_of_ble_eq_true rfl⟩) (gpV (k := 2) (ci := 2) hA hK (hD σ) hE hP hS rfl rfl) rfl rfl hl.1 rfl (lv_room (Nat.le_of_ble_eq_true rfl)) d_S_flow_123 ⟨Nat.le_of_ble_eq_true rfl, Nat.le_of_ble_eq_true rfl⟩) hA (hD σ) hS (fun H locs hP hS => ?_)
    obtain ⟨c, h⟩ := ifs h
    cases h
    exact gret_z hx hb hr hlk (gz c) hP hS d_S_flow_126
  have h := ifn c1 h
  by_cases c2 : u46 = 2
  · refine lv_tableIn (tgt := 127) hx hb d_S_flow_49 (by rw [c2]; decide) (by rw [c2]; decide) (by rw [c2]; rfl) (by decide) ?_
    have h := ifp c2 h
    refine lv_aload_n hx hb d_S_flow_127 rfl (lv_at hl 4 rfl) ?_
    refine lv_iload_n hx hb d_S_flow_128 rfl (lv_at hl 3 rfl) ?_
    refine lv_iload_n hx hb d_S_flow_129 rfl (lv_at hl 2 rfl) ?_
    refine lv_aload_n hx hb d_S_flow_130 rfl (lv_at hl 4 rfl) ?_
    refine lv_aload_n hx hb d_S_flow_131 rfl (lv_at hl 4 rfl) ?_
    refine lv_iload_n hx hb d_S_flow_132 rfl (lv_at hl 3 rfl) ?_
    refine lv_iload hx hb d_S_flow_133 (lv_at hl 1 rfl) ?_
    obtain ⟨u135, hu135, h⟩ := bnd h
    refine gcall_i (va_runV (As := [.int u5, .int u25]) (rest := [.ref (q 2), .int u15, .int u5, .ref (q 2)]) ⟨hx, hb, hml, hown, hts⟩ (c_S_ofName l D cI cZ tL q tl σ u5 u25 u135 hu135 H.size) (cwV 2 hts (gV w_226 w_227 w_228 w_3 w_229) rfl rfl rfl (by decide +kernel) ⟨Nat.le_of_ble_eq_true rfl, Nat.le_of_ble_eq_true rfl⟩) (gpV (k := 2) (ci := 2) hA hK (hD σ) hE hP hS rfl rfl) rfl rfl hl.1 rfl (lv_room (Nat.le_of_ble_eq_true rfl)) d_S_flow_135 ⟨Nat.le_of_ble_eq_true rfl, Nat.le_of_ble_eq_true rfl⟩) hA (hD σ) hS (fun H locs hP hS => ?_)
    refine lv_iload hx hb d_S_flow_138 (lv_at hl 0 rfl) ?_
    obtain ⟨u140, hu140, h⟩ := bnd h
    refine gcall_i (va_runV (As := [.int u135, .int u36]) (rest := [.int u15, .int u5, .ref (q 2)]) ⟨hx, hb, hml, hown, hts⟩ (c_S_ofFieldOfAll l D cI cZ tL q tl F σ u135 u36 u140 hu140 H.size) (cwV 2 hts (gV w_230 w_231 w_683 w_3 w_232) rfl rfl rfl (by decide +kernel) ⟨Nat.le_of_ble_eq_true rfl, Nat.le_of_ble_eq_true rfl⟩) (gpV (k := 2) (ci := 2) hA hK (hD σ) hE hP hS rfl rfl) rfl rfl hl.1 rfl (lv_room (Nat.le_of_ble_eq_true rfl)) d_S_flow_140 ⟨Nat.le_of_ble_eq_true rfl, Nat.le_of_ble_eq_true rfl⟩) hA (hD σ) hS (fun H locs hP hS => ?_)
    obtain ⟨u143, hu143, h⟩ := bnd h
    refine gcall_i (va_runV (As := [.int u5, .int u15, .int u140]) (rest := []) ⟨hx, hb, hml, hown, hts⟩ (c_S_joinName l D cI cZ tL q tl σ u5 u15 u140 u143 hu143 H.size) (cwV 3 hts (gV w_223 w_224 w_682 w_3 w_225) rfl rfl rfl (by decide +kernel) ⟨Nat.le_of_ble_eq_true rfl, Nat.le_of_ble_eq_true rfl⟩) (gpV (k := 2) (ci := 2) hA hK (hD σ) hE hP hS rfl rfl) rfl rfl hl.1 rfl (lv_room (Nat.le_of_ble_eq_true rfl)) d_S_flow_143 ⟨Nat.le_of_ble_eq_true rfl, Nat.le_of_ble_eq_true rfl⟩) hA (hD σ) hS (fun H locs hP hS => ?_)
    obtain ⟨c, h⟩ := ifs h
    cases h
    exact gret_z hx hb hr hlk (gz c) hP hS d_S_flow_146
  have h := ifn c2 h
  by_cases c3 : u46 = 3
  · refine lv_tableIn (tgt := 147) hx hb d_S_flow_49 (by rw [c3]; decide) (by rw [c3]; decide) (by rw [c3]; rfl) (by decide) ?_
    have h := ifp c3 h
    refine lv_aload_n hx hb d_S_flow_147 rfl (lv_at hl 4 rfl) ?_
    refine lv_aload_n hx hb d_S_flow_148 rfl (lv_at hl 4 rfl) ?_
    refine lv_iload_n hx hb d_S_flow_149 rfl (lv_at hl 3 rfl) ?_
    refine lv_iload_n hx hb d_S_flow_150 rfl (lv_at hl 2 rfl) ?_
    obtain ⟨u151, hu151, h⟩ := bnd h
    refine gcall_i (va_runV (As := [.int u5, .int u15]) (rest := [.ref (q 2)]) ⟨hx, hb, hml, hown, hts⟩ (c_S_ofName l D cI cZ tL q tl σ u5 u15 u151 hu151 H.size) (cwV 2 hts (gV w_226 w_227 w_228 w_3 w_229) rfl rfl rfl (by decide +kernel) ⟨Nat.le_of_ble_eq_true rfl, Nat.le_of_ble_eq_true rfl⟩) (gpV (k := 2) (ci := 2) hA hK (hD σ) hE hP hS rfl rfl) rfl rfl hl.1 rfl (lv_room (Nat.le_of_ble_eq_true rfl)) d_S_flow_151 ⟨Nat.le_of_ble_eq_true rfl, Nat.le_of_ble_eq_true rfl⟩) hA (hD σ) hS (fun H locs hP hS => ?_)
    refine lv_iload hx hb d_S_flow_154 (lv_at hl 1 rfl) ?_
    refine lv_aload_n hx hb d_S_flow_156 rfl (lv_at hl 4 rfl) ?_
    refine lv_iload_n hx hb d_S_flow_157 rfl (lv_at hl 3 rfl) ?_
    refine lv_iload hx hb d_S_flow_158 (lv_at hl 0 rfl) ?_
    obtain ⟨u160, hu160, h⟩ := bnd h
    refine gcall_i (va_runV (As := [.int u5, .int u36]) (rest := [.int u25, .int u151, .ref (q 2)]) ⟨hx, hb, hml, hown, hts⟩ (c_S_ofName l D cI cZ tL q tl σ u5 u36 u160 hu160 H.size) (cwV 2 hts (gV w_226 w_227 w_228 w_3 w_229) rfl rfl rfl (by decide +kernel) ⟨Nat.le_of_ble_eq_true rfl, Nat.le_of_ble_eq_true rfl⟩) (gpV (k := 2) (ci := 2) hA hK (hD σ) hE hP hS rfl rfl) rfl rfl hl.1 rfl (lv_room (Nat.le_of_ble_eq_true rfl)) d_S_flow_160 ⟨Nat.le_of_ble_eq_true rfl, Nat.le_of_ble_eq_true rfl⟩) hA (hD σ) hS (fun H locs hP hS => ?_)
    obtain ⟨u163, hu163, h⟩ := bnd h
    refine gcall_i (va_runV (As := [.int u151, .int u25, .int u160]) (rest := []) ⟨hx, hb, hml, hown, hts⟩ (c_S_joinFields l D cI cZ tL q tl F σ u151 u25 u160 u163 hu163 H.size) (cwV 3 hts (gV w_237 w_238 w_681 w_3 w_239) rfl rfl rfl (by decide +kernel) ⟨Nat.le_of_ble_eq_true rfl, Nat.le_of_ble_eq_true rfl⟩) (gpV (k := 2) (ci := 2) hA hK (hD σ) hE hP hS rfl rfl) rfl rfl hl.1 rfl (lv_room (Nat.le_of_ble_eq_true rfl)) d_S_flow_163 ⟨Nat.le_of_ble_eq_true rfl, Nat.le_of_ble_eq_true rfl⟩) hA (hD σ) hS (fun H locs hP hS => ?_)
    obtain ⟨c, h⟩ := ifs h
    cases h
    exact gret_z hx hb hr hlk (gz c) hP hS d_S_flow_166
  have h := ifn c3 h
  by_cases c4 : u46 = 4
  · refine lv_tableIn (tgt := 167) hx hb d_S_flow_49 (by rw [c4]; decide) (by rw [c4]; decide) (by rw [c4]; rfl) (by decide) ?_
    have h := ifp c4 h
    refine lv_aload_n hx hb d_S_flow_167 rfl (lv_at hl 4 rfl) ?_
    refine lv_iload_n hx hb d_S_flow_168 rfl (lv_at hl 3 rfl) ?_
    refine lv_iload_n hx hb d_S_flow_169 rfl (lv_at hl 2 rfl) ?_
    refine lv_aload_n hx hb d_S_flow_170 rfl (lv_at hl 4 rfl) ?_
    refine va_get (D := D) (ci := 2) (v := .ref (q 13)) (C := R_S) (T := T_S) (N := 11) hx hb hts l_S hown hK hP 2 rfl rfl 4 (by decide) (hts _ w_47) (fun _ h9 => h9) rfl d_S_flow_171 ?_
    refine lv_iload hx hb d_S_flow_174 (lv_at hl 1 rfl) ?_
    obtain ⟨u176, hu176, h⟩ := bnd h
    refine gcall_i (va_runSN (As := [.ref (q 13), .int u25]) (rest := [.int u15, .int u5, .ref (q 2)]) ⟨hx, hb, hml, hown, hts⟩ (c_E_at_u l D cI cZ tL (wE cI cZ q σ ++ tl) 13 (q 13) 4 (σ 13) rfl u25 u176 hu176 H.size) ⟨va_cnB 2 hts (TB_code w_133) rfl rfl rfl (nm_5 hE) (hts _ w_1) (by decide +kernel) ⟨Nat.le_of_ble_eq_true rfl, Nat.le_of_ble_eq_true rfl⟩, hts _ w_132, trivial⟩ (gpS hA hK (hD σ) hE hP hS) rfl rfl hl.1 rfl (lv_room (Nat.le_of_ble_eq_true rfl)) d_S_flow_176 ⟨Nat.le_of_ble_eq_true rfl, Nat.le_of_ble_eq_true rfl⟩) hA (hD σ) hS (fun H locs hP hS => ?_)
    obtain ⟨u179, hu179, h⟩ := bnd h
    refine gcall_i (va_runV (As := [.int u5, .int u15, .int u176]) (rest := []) ⟨hx, hb, hml, hown, hts⟩ (c_S_joinName l D cI cZ tL q tl σ u5 u15 u176 u179 hu179 H.size) (cwV 3 hts (gV w_223 w_224 w_682 w_3 w_225) rfl rfl rfl (by decide +kernel) ⟨Nat.le_of_ble_eq_true rfl, Nat.le_of_ble_eq_true rfl⟩) (gpV (k := 2) (ci := 2) hA hK (hD σ) hE hP hS rfl rfl) rfl rfl hl.1 rfl (lv_room (Nat.le_of_ble_eq_true rfl)) d_S_flow_179 ⟨Nat.le_of_ble_eq_true rfl, Nat.le_of_ble_eq_true rfl⟩) hA (hD σ) hS (fun H locs hP hS => ?_)
    obtain ⟨c, h⟩ := ifs h
    cases h
    exact gret_z hx hb hr hlk (gz c) hP hS d_S_flow_182
  have h := ifn c4 h
  by_cases c5 : u46 = 5
  · refine lv_tableIn (tgt := 183) hx hb d_S_flow_49 (by rw [c5]; decide) (by rw [c5]; decide) (by rw [c5]; rfl) (by decide) ?_
    have h := ifp c5 h
    refine lv_aload_n hx hb d_S_flow_183 rfl (lv_at hl 4 rfl) ?_
    refine va_get (D := D) (ci := 2) (v := .ref (q 13)) (C := R_S) (T := T_S) (N := 11) hx hb hts l_S hown hK hP 2 rfl rfl 4 (by decide) (hts _ w_47) (fun _ h9 => h9) rfl d_S_flow_184 ?_
    refine lv_iload_n hx hb d_S_flow_187 rfl (lv_at hl 2 rfl) ?_
    refine lv_aload_n hx hb d_S_flow_188 rfl (lv_at hl 4 rfl) ?_
    refine lv_iload_n hx hb d_S_flow_189 rfl (lv_at hl 3 rfl) ?_
    refine lv_iload hx hb d_S_flow_190 (lv_at hl 1 rfl) ?_
    obtain ⟨u192, hu192, h⟩ := bnd h
    refine gcall_i (va_runV (As := [.int u5, .int u25]) (rest := [.int u15, .ref (q 13)]) ⟨hx, hb, hml, hown, hts⟩ (c_S_ofName l D cI cZ tL q tl σ u5 u25 u192 hu192 H.size) (cwV 2 hts (gV w_226 w_227 w_228 w_3 w_229) rfl rfl rfl (by decide +kernel) ⟨Nat.le_of_ble_eq_true rfl, Nat.le_of_ble_eq_true rfl⟩) (gpV (k := 2) (ci := 2) hA hK (hD σ) hE hP hS rfl rfl) rfl rfl hl.1 rfl (lv_room (Nat.le_of_ble_eq_true rfl)) d_S_flow_192 ⟨Nat.le_of_ble_eq_true rfl, Nat.le_of_ble_eq_true rfl⟩) hA (hD σ) hS (fun H locs hP hS => ?_)
    obtain ⟨u195, hu195, h⟩ := bnd h
    refine gcall_i (va_runSN (As := [.ref (q 13), .int u15, .int u192]) (rest := []) ⟨hx, hb, hml, hown, hts⟩ (c_E_join_u l D cI cZ tL (wE cI cZ q σ ++ tl) 13 (q 13) 4 (σ 13) rfl u15 u192 u195 hu195 H.size) ⟨va_cnB 3 hts (TB_code w_204) rfl rfl rfl (nm_3 hE) (hts _ w_1) (by decide +kernel) ⟨Nat.le_of_ble_eq_true rfl, Nat.le_of_ble_eq_true rfl⟩, hts _ w_203, trivial⟩ (gpS hA hK (hD σ) hE hP hS) rfl rfl hl.1 rfl (lv_room (Nat.le_of_ble_eq_true rfl)) d_S_flow_195 ⟨Nat.le_of_ble_eq_true rfl, Nat.le_of_ble_eq_true rfl⟩) hA (hD σ) hS (fun H locs hP hS => ?_)
    have hP : va_P D vwCl (wE cI cZ q (sr σ 13 u195.2) ++ tl) H := hP
    obtain ⟨s195, es195, h⟩ := lettE h
    rw [← es195] at hP
    obtain ⟨c, h⟩ := ifs h
    cases h
    exact gret_z hx hb hr hlk (gz c) hP hS d_S_flow_198
  have h := ifn c5 h
  by_cases c6 : u46 = 6
  · refine lv_tableIn (tgt := 199) hx hb d_S_flow_49 (by rw [c6]; decide) (by rw [c6]; decide) (by rw [c6]; rfl) (by decide) ?_
    have h := ifp c6 h
    refine lv_aload_n hx hb d_S_flow_199 rfl (lv_at hl 4 rfl) ?_
    refine lv_iload_n hx hb d_S_flow_200 rfl (lv_at hl 5 rfl) ?_
    refine lv_iload_n hx hb d_S_flow_201 rfl (lv_at hl 3 rfl) ?_
    refine lv_iload_n hx hb d_S_flow_202 rfl (lv_at hl 2 rfl) ?_
    obtain ⟨u203, hu203, h⟩ := bnd h
    refine gcall_i (va_runV (As := [.int x1, .int u5, .int u15]) (rest := []) ⟨hx, hb, hml, hown, hts⟩ (c_S_flowCall l D cI cZ tL q tl F σ x1 u5 u15 u203 hu203 H.size) (cwV 3 hts (gV w_240 w_241 w_679 w_3 w_242) rfl rfl rfl (by decide +kernel) ⟨Nat.le_of_ble_eq_true rfl, Nat.le_of_ble_eq_true rfl⟩) (gpV (k := 2) (ci := 2) hA hK (hD σ) hE hP hS rfl rfl) rfl rfl hl.1 rfl (lv_room (Nat.le_of_ble_eq_true rfl)) d_S_flow_203 ⟨Nat.le_of_ble_eq_true rfl, Nat.le_of_ble_eq_true rfl⟩) hA (hD σ) hS (fun H locs hP hS => ?_)
    obtain ⟨c, h⟩ := ifs h
    cases h
    exact gret_z hx hb hr hlk (gz c) hP hS d_S_flow_206
  have h := ifn c6 h
  by_cases c7 : u46 = 7
  · refine lv_tableIn (tgt := 207) hx hb d_S_flow_49 (by rw [c7]; decide) (by rw [c7]; decide) (by rw [c7]; rfl) (by decide) ?_
    have h := ifp c7 h
    refine lv_aload_n hx hb d_S_flow_207 rfl (lv_at hl 4 rfl) ?_
    refine va_get (D := D) (ci := 2) (v := .ref (q 14)) (C := R_S) (T := T_S) (N := 11) hx hb hts l_S hown hK hP 2 rfl rfl 5 (by decide) (hts _ w_48) (fun _ h9 => h9) rfl d_S_flow_208 ?_
    refine lv_iload_n hx hb d_S_flow_211 rfl (lv_at hl 3 rfl) ?_
    refine lv_aload_n hx hb d_S_flow_212 rfl (lv_at hl 4 rfl) ?_
    refine lv_iload_n hx hb d_S_flow_213 rfl (lv_at hl 3 rfl) ?_
    refine lv_iload_n hx hb d_S_flow_214 rfl (lv_at hl 2 rfl) ?_
    obtain ⟨u215, hu215, h⟩ := bnd h
    refine gcall_i (va_runV (As := [.int u5, .int u15]) (rest := [.int u5, .ref (q 14)]) ⟨hx, hb, hml, hown, hts⟩ (c_S_ofName l D cI cZ tL q tl σ u5 u15 u215 hu215 H.size) (cwV 2 hts (gV w_226 w_227 w_228 w_3 w_229) rfl rfl rfl (by decide +kernel) ⟨Nat.le_of_ble_eq_true rfl, Nat.le_of_ble_eq_true rfl⟩) (gpV (k := 2) (ci := 2) hA hK (hD σ) hE hP hS rfl rfl) rfl rfl hl.1 rfl (lv_room (Nat.le_of_ble_eq_true rfl)) d_S_flow_215 ⟨Nat.le_of_ble_eq_true rfl, Nat.le_of_ble_eq_true rfl⟩) hA (hD σ) hS (fun H locs hP hS => ?_)
    obtain ⟨u218, hu218, h⟩ := bnd h
    refine gcall_i (va_runSN (As := [.ref (q 14), .int u5, .int u215]) (rest := []) ⟨hx, hb, hml, hown, hts⟩ (c_E_join_u l D cI cZ tL (wE cI cZ q σ ++ tl) 14 (q 14) 8 (σ 14) rfl u5 u215 u218 hu218 H.size) ⟨va_cnB 3 hts (TB_code w_204) rfl rfl rfl (nm_3 hE) (hts _ w_1) (by decide +kernel) ⟨Nat.le_of_ble_eq_true rfl, Nat.le_of_ble_eq_true rfl⟩, hts _ w_203, trivial⟩ (gpS hA hK (hD σ) hE hP hS) rfl rfl hl.1 rfl (lv_room (Nat.le_of_ble_eq_true rfl)) d_S_flow_218 ⟨Nat.le_of_ble_eq_true rfl, Nat.le_of_ble_eq_true rfl⟩) hA (hD σ) hS (fun H locs hP hS => ?_)
    have hP : va_P D vwCl (wE cI cZ q (sr σ 14 u218.2) ++ tl) H := hP
    obtain ⟨s218, es218, h⟩ := lettE h
    rw [← es218] at hP
    obtain ⟨c, h⟩ := ifs h
    cases h
    exact gret_z hx hb hr hlk (gz c) hP hS d_S_flow_221
  have h := ifn c7 h
  refine lv_tableOut (tgt := 222) hx hb d_S_flow_49 (by have e0 := lv_neT (a := 0) c0 (by decide); have e1 := lv_neT (a := 1) c1 (by decide); have e2 := lv_neT (a := 2) c2 (by decide); have e3 := lv_neT (a := 3) c3 (by decide); have e4 := lv_neT (a := 4) c4 (by decide); have e5 := lv_neT (a := 5) c5 (by decide); have e6 := lv_neT (a := 6) c6 (by decide); have e7 := lv_neT (a := 7) c7 (by decide); omega) (by decide) ?_
  refine lv_iconst (v := 0) hx hb d_S_flow_222 (by decide) ?_
  cases h
  exact gret_z hx hb hr hlk (gz (Or.inl rfl)) hP hS d_S_flow_223
/-! ===== EscapeOwners$LeastSets.sweep()Z ===== -/
def f_S_sweep_B4 (F : Nat) (rec : Int32 → Int32 → St → Option (Int32 × Int32 × St)) (y1 : Int32) (y2 : Int32) (σ : St) : Option (Int32 × Int32 × St) := if (σ 1 1) ≤ y2 then (some (y1, y2, σ)) else (Option.bind (f_P_isIn σ (σ 2 7) y2) (fun u24 => if u24 = 0 then (rec y1 (y2 + (1 : Int32)) σ) else (Option.bind (f_S_flow F σ y2) (fun u32 => if u32.1 = 0 then (rec y1 (y2 + (1 : Int32)) u32.2) else (rec (1 : Int32) (y2 + (1 : Int32)) u32.2)))))
def f_S_sweep_L4 (F : Nat) : Nat → Int32 → Int32 → St → Option (Int32 × Int32 × St)
  | 0, _, _, _ => none
  | fu + 1, y1, y2, σ => f_S_sweep_B4 F (f_S_sweep_L4 F fu) y1 y2 σ
def f_S_sweep (F : Nat) (σ : St) : Option (Int32 × St) := Option.bind (f_S_sweep_L4 F F (0 : Int32) (0 : Int32) σ) (fun u4 => if u4.1 = 0 ∨ u4.1 = 1 then some (u4.1, u4.2.2) else none)
set_option maxHeartbeats 4000000 in
set_option maxRecDepth 100000 in
theorem c_S_sweep (l : Launch) (D : va_G) (cI cZ : ClassId) (tL : Nat) (q : Nat → Nat) (tl : va_W) (F : Nat) (σ : St) (out0 : Int32 × St) (h : f_S_sweep F σ = some out0) : gCi l y_S_sweep (.code y_S_sweep b_S_sweep 3 (some .boolean) :: TB) { frames := 4, cells := 0, slots := 0, locals := 97 } D [(cI, .int), (cZ, .boolean)] tL [.ref (q 2)] (wE cI cZ q σ ++ tl) out0.1 (wE cI cZ q out0.2 ++ tl) := by
  refine gCi_of (cc := b_S_sweep) (maxL := 3) (ty := .boolean) (by decide) rfl (Nat.le_of_ble_eq_true rfl) ?_
  intro p e s m below meth c A ls hf hr hlk hA hK hD0 hE hP hl
  obtain ⟨hx, hb, hml, hown, hts⟩ := id hf
  have hts : ∀ w ∈ TB, w.before _ s = true := fun w h => hts w (List.mem_cons_of_mem _ h)
  have hown : s.vm.findClass R_S = some m.cls := hown
  have hl : lv_has ls 3 [(0, .ref (q 2))] := hl
  have hS : va_S A s.heap s.heap [] := va_S.rf
  have hD : ∀ σ' : St, va_D A (wE cI cZ q σ' ++ tl) := fun σ' => va_Dsame hD0 rfl
  have L4 : ∀  (fu : Nat) (y1 : Int32) (y2 : Int32) (σ : St) (H : Heap) (locs : List Loc) (ls : Array Slot) (out : Int32 × Int32 × St), f_S_sweep_L4 F fu y1 y2 σ = some out → va_P D vwCl (wE cI cZ q σ ++ tl) H → va_S A s.heap H locs → lv_has ls 3 [(0, .ref (q 2)), (1, .int y1), (2, .int y2)] → (∀ (H : Heap) (locs : List Loc) (ls : Array Slot), va_P D vwCl (wE cI cZ q out.2.2 ++ tl) H → va_S A s.heap H locs → lv_has ls 3 [(0, .ref (q 2)), (1, .int out.1), (2, .int out.2.1)] → W p l e { frames := 4, cells := 0, slots := 0, locals := 97 } s m ([.ref (q 2)] : List Value).toArray below meth c H locs 0 0 (gQi below D out0.1 (wE cI cZ q out0.2 ++ tl) A (([.ref (q 2)] : List Value).toArray) s) (F0 m 46 ls [])) → W p l e { frames := 4, cells := 0, slots := 0, locals := 97 } s m ([.ref (q 2)] : List Value).toArray below meth c H locs 0 0 (gQi below D out0.1 (wE cI cZ q out0.2 ++ tl) A (([.ref (q 2)] : List Value).toArray) s) (F0 m 4 ls []) := by
    intro  fu
    induction fu with
    | zero => intro y1 y2 σ H locs ls out h; exact absurd (show (none : Option (Int32 × Int32 × St)) = some out from h) (fun z => by cases z)
    | succ fu ih =>
      intro y1 y2 σ H locs ls out h hP hS hl K
      have h : f_S_sweep_B4 F (f_S_sweep_L4 F fu) y1 y2 σ = some out := h
      unfold f_S_sweep_B4 at h
      refine lv_iload_n hx hb d_S_sweep_4 rfl (lv_at hl 2 rfl) ?_
      refine lv_aload_n hx hb d_S_sweep_5 rfl (lv_at hl 0 rfl) ?_
      refine va_get (D := D) (ci := 2) (v := .ref (q 1)) (C := R_S) (T := T_S) (N := 11) hx hb hts l_S hown hK hP 2 rfl rfl 0 (by decide) (hts _ w_43) (fun _ h9 => h9) rfl d_S_sweep_6 ?_
      refine va_getN (D := D) (ci := 1) (v := .int (σ 1 1)) (C := R_P) (T := T_P) (N := 8) hx hb hts l_P hown hK hP 1 rfl rfl 1 (by decide) (va_Nw.use rfl (nf_3 hE)) (fun _ h9 => h9) rfl d_S_sweep_9 ?_
      refine lv_icmp_ge (tgt := 46) hx hb d_S_sweep_12 (by decide) (fun c => ?_) (fun c => ?_)
      · have h := ifp c h
        cases h
        exact K _ _ ls hP hS (lv_sub hl [0, 1, 2] rfl)
      have h := ifn c h
      refine lv_aload_n hx hb d_S_sweep_15 rfl (lv_at hl 0 rfl) ?_
      refine va_get (D := D) (ci := 2) (v := .ref (q 1)) (C := R_S) (T := T_S) (N := 11) hx hb hts l_S hown hK hP 2 rfl rfl 0 (by decide) (hts _ w_43) (fun _ h9 => h9) rfl d_S_sweep_16 ?_
      refine lv_aload_n hx hb d_S_sweep_19 rfl (lv_at hl 0 rfl) ?_
      refine va_get (D := D) (ci := 2) (v := .int (σ 2 7)) (C := R_S) (T := T_S) (N := 11) hx hb hts l_S hown hK hP 2 rfl rfl 7 (by decide) (hts _ w_50) (fun _ h9 => h9) rfl d_S_sweep_20 ?_
      refine lv_iload_n hx hb d_S_sweep_23 rfl (lv_at hl 2 rfl) ?_
      obtain ⟨u24, hu24, h⟩ := bnd h
      refine gcall_i (va_runV (As := [.int (σ 2 7), .int y2]) (rest := []) ⟨hx, hb, hml, hown, hts⟩ (c_P_isIn l D cI cZ tL q tl σ (σ 2 7) y2 u24 hu24 H.size) (cwV 2 hts (gV w_214 w_215 w_216 w_2 w_217) rfl rfl rfl (by decide +kernel) ⟨Nat.le_of_ble_eq_true rfl, Nat.le_of_ble_eq_true rfl⟩) (gpV (k := 1) (ci := 1) hA hK (hD σ) hE hP hS rfl rfl) rfl rfl hl.1 rfl (lv_room (Nat.le_of_ble_eq_true rfl)) d_S_sweep_24 ⟨Nat.le_of_ble_eq_true rfl, Nat.le_of_ble_eq_true rfl⟩) hA (hD σ) hS (fun H locs hP hS => ?_)
      refine lv_if_eq (tgt := 40) hx hb d_S_sweep_27 (by decide) (fun c => ?_) (fun c => ?_)
      · have h := ifp c h
        refine lv_iinc (v := (y2 + (1 : Int32))) (lv' := [(2, .int (y2 + (1 : Int32))), (0, .ref (q 2)), (1, .int y1)]) hx hb d_S_sweep_40 hl (k := 2) rfl rfl (by decide) rfl (fun ls hl => ?_)
        refine lv_goto (tgt := 4) hx hb d_S_sweep_43 (by decide) ?_
        exact ih y1 (y2 + (1 : Int32)) σ _ _ ls out h hP hS (lv_sub hl [1, 2, 0] rfl) K
      have h := ifn c h
      refine lv_aload_n hx hb d_S_sweep_30 rfl (lv_at hl 0 rfl) ?_
      refine lv_iload_n hx hb d_S_sweep_31 rfl (lv_at hl 2 rfl) ?_
      obtain ⟨u32, hu32, h⟩ := bnd h
      refine gcall_i (va_runV (As := [.int y2]) (rest := []) ⟨hx, hb, hml, hown, hts⟩ (c_S_flow l D cI cZ tL q tl F σ y2 u32 hu32 H.size) (cwV 1 hts (gV w_219 w_220 w_678 w_3 w_221) rfl rfl rfl (by decide +kernel) ⟨Nat.le_of_ble_eq_true rfl, Nat.le_of_ble_eq_true rfl⟩) (gpV (k := 2) (ci := 2) hA hK (hD σ) hE hP hS rfl rfl) rfl rfl hl.1 rfl (lv_room (Nat.le_of_ble_eq_true rfl)) d_S_sweep_32 ⟨Nat.le_of_ble_eq_true rfl, Nat.le_of_ble_eq_true rfl⟩) hA (hD σ) hS (fun H locs hP hS => ?_)
      refine lv_if_eq (tgt := 40) hx hb d_S_sweep_35 (by decide) (fun c => ?_) (fun c => ?_)
      · have h := ifp c h
        refine lv_iinc (v := (y2 + (1 : Int32))) (lv' := [(2, .int (y2 + (1 : Int32))), (0, .ref (q 2)), (1, .int y1)]) hx hb d_S_sweep_40 hl (k := 2) rfl rfl (by decide) rfl (fun ls hl => ?_)
        refine lv_goto (tgt := 4) hx hb d_S_sweep_43 (by decide) ?_
        exact ih y1 (y2 + (1 : Int32)) u32.2 _ _ ls out h hP hS (lv_sub hl [1, 2, 0] rfl) K
      have h := ifn c h
      refine lv_iconst (v := 1) hx hb d_S_sweep_38 (by decide) ?_
      refine lv_istore_n (lv' := [(1, .int (1 : Int32)), (0, .ref (q 2)), (2, .int y2)]) hx hb d_S_sweep_39 rfl hl (by decide) rfl (fun ls hl => ?_)
      refine lv_iinc (v := (y2 + (1 : Int32))) (lv' := [(2, .int (y2 + (1 : Int32))), (1, .int (1 : Int32)), (0, .ref (q 2))]) hx hb d_S_sweep_40 hl (k := 2) rfl rfl (by decide) rfl (fun ls hl => ?_)
      refine lv_goto (tgt := 4) hx hb d_S_sweep_43 (by decide) ?_
      exact ih (1 : Int32) (y2 + (1 : Int32)) u32.2 _ _ ls out h hP hS (lv_sub hl [2, 1, 0] rfl) K
  unfold f_S_sweep at h
  refine lv_iconst (v := 0) hx hb d_S_sweep_0 (by decide) ?_
  refine lv_istore_n (lv' := [(1, .int (0 : Int32)), (0, .ref (q 2))]) hx hb d_S_sweep_1 rfl hl (by decide) rfl (fun ls hl => ?_)
  refine lv_iconst (v := 0) hx hb d_S_sweep_2 (by decide) ?_
  refine lv_istore_n (lv' := [(2, .int (0 : Int32)), (1, .int (0 : Int32)), (0, .ref (q 2))]) hx hb d_S_sweep_3 rfl hl (by decide) rfl (fun ls hl => ?_)
  obtain ⟨u4, hu4, h⟩ := bnd h
  refine L4  F (0 : Int32) (0 : Int32) σ _ _ ls u4 hu4 hP hS (lv_sub hl [2, 1, 0] rfl) (fun H locs ls hP hS hl => ?_)
  refine lv_iload_n hx hb d_S_sweep_46 rfl (lv_at hl 1 rfl) ?_
  obtain ⟨c, h⟩ := ifs h
  cases h
  exact gret_z hx hb hr hlk (gz c) hP hS d_S_sweep_47
/-! ===== EscapeOwners$LeastSets.ofPlaces()I ===== -/
def f_S_ofPlaces_B4 (F : Nat) (σ : St) (rec : Int32 → Int32 → Option (Int32 × Int32)) (y1 : Int32) (y2 : Int32) : Option (Int32 × Int32) := if (4 : Int32) ≤ y2 then (some (y1, y2)) else (Option.bind (f_E_at 4 (σ 13) y2) (fun u15 => rec (y1 ||| u15) (y2 + (1 : Int32))))
def f_S_ofPlaces_L4 (F : Nat) (σ : St) : Nat → Int32 → Int32 → Option (Int32 × Int32)
  | 0, _, _ => none
  | fu + 1, y1, y2 => f_S_ofPlaces_B4 F σ (f_S_ofPlaces_L4 F σ fu) y1 y2
def f_S_ofPlaces (F : Nat) (σ : St) : Option (Int32) := Option.bind (f_S_ofPlaces_L4 F σ F (0 : Int32) (0 : Int32)) (fun u4 => some u4.1)
set_option maxHeartbeats 4000000 in
set_option maxRecDepth 100000 in
theorem c_S_ofPlaces (l : Launch) (D : va_G) (cI cZ : ClassId) (tL : Nat) (q : Nat → Nat) (tl : va_W) (F : Nat) (σ : St) (out0 : Int32) (h : f_S_ofPlaces F σ = some out0) : gCi l y_S_ofPlaces (.code y_S_ofPlaces b_S_ofPlaces 3 (some .int) :: TB) { frames := 1, cells := 0, slots := 0, locals := 21 } D [(cI, .int), (cZ, .boolean)] tL [.ref (q 2)] (wE cI cZ q σ ++ tl) out0 (wE cI cZ q σ ++ tl) := by
  refine gCi_of (cc := b_S_ofPlaces) (maxL := 3) (ty := .int) (by decide) rfl (Nat.le_of_ble_eq_true rfl) ?_
  intro p e s m below meth c A ls hf hr hlk hA hK hD0 hE hP hl
  obtain ⟨hx, hb, hml, hown, hts⟩ := id hf
  have hts : ∀ w ∈ TB, w.before _ s = true := fun w h => hts w (List.mem_cons_of_mem _ h)
  have hown : s.vm.findClass R_S = some m.cls := hown
  have hl : lv_has ls 3 [(0, .ref (q 2))] := hl
  have hS : va_S A s.heap s.heap [] := va_S.rf
  have hD : ∀ σ' : St, va_D A (wE cI cZ q σ' ++ tl) := fun σ' => va_Dsame hD0 rfl
  have L4 : ∀ (σ : St) (fu : Nat) (y1 : Int32) (y2 : Int32) (H : Heap) (locs : List Loc) (ls : Array Slot) (out : Int32 × Int32), f_S_ofPlaces_L4 F σ fu y1 y2 = some out → va_P D vwCl (wE cI cZ q σ ++ tl) H → va_S A s.heap H locs → lv_has ls 3 [(0, .ref (q 2)), (1, .int y1), (2, .int y2)] → (∀ (H : Heap) (locs : List Loc) (ls : Array Slot), va_P D vwCl (wE cI cZ q σ ++ tl) H → va_S A s.heap H locs → lv_has ls 3 [(0, .ref (q 2)), (1, .int out.1), (2, .int out.2)] → W p l e { frames := 1, cells := 0, slots := 0, locals := 21 } s m ([.ref (q 2)] : List Value).toArray below meth c H locs 0 0 (gQi below D out0 (wE cI cZ q σ ++ tl) A (([.ref (q 2)] : List Value).toArray) s) (F0 m 26 ls [])) → W p l e { frames := 1, cells := 0, slots := 0, locals := 21 } s m ([.ref (q 2)] : List Value).toArray below meth c H locs 0 0 (gQi below D out0 (wE cI cZ q σ ++ tl) A (([.ref (q 2)] : List Value).toArray) s) (F0 m 4 ls []) := by
    intro σ fu
    induction fu with
    | zero => intro y1 y2 H locs ls out h; exact absurd (show (none : Option (Int32 × Int32)) = some out from h) (fun z => by cases z)
    | succ fu ih =>
      intro y1 y2 H locs ls out h hP hS hl K
      have h : f_S_ofPlaces_B4 F σ (f_S_ofPlaces_L4 F σ fu) y1 y2 = some out := h
      unfold f_S_ofPlaces_B4 at h
      refine lv_iload_n hx hb d_S_ofPlaces_4 rfl (lv_at hl 2 rfl) ?_
      refine lv_iconst (v := 4) hx hb d_S_ofPlaces_5 (by decide) ?_
      refine lv_icmp_ge (tgt := 26) hx hb d_S_ofPlaces_6 (by decide) (fun c => ?_) (fun c => ?_)
      · have h := ifp c h
        cases h
        exact K _ _ ls hP hS (lv_sub hl [0, 1, 2] rfl)
      have h := ifn c h
      refine lv_iload_n hx hb d_S_ofPlaces_9 rfl (lv_at hl 1 rfl) ?_
      refine lv_aload_n hx hb d_S_ofPlaces_10 rfl (lv_at hl 0 rfl) ?_
      refine va_get (D := D) (ci := 2) (v := .ref (q 13)) (C := R_S) (T := T_S) (N := 11) hx hb hts l_S hown hK hP 2 rfl rfl 4 (by decide) (hts _ w_47) (fun _ h9 => h9) rfl d_S_ofPlaces_11 ?_
      refine lv_iload_n hx hb d_S_ofPlaces_14 rfl (lv_at hl 2 rfl) ?_
      obtain ⟨u15, hu15, h⟩ := bnd h
      refine gcall_i (va_runSN (As := [.ref (q 13), .int y2]) (rest := [.int y1]) ⟨hx, hb, hml, hown, hts⟩ (c_E_at_u l D cI cZ tL (wE cI cZ q σ ++ tl) 13 (q 13) 4 (σ 13) rfl y2 u15 hu15 H.size) ⟨va_cnB 2 hts (TB_code w_133) rfl rfl rfl (nm_5 hE) (hts _ w_1) (by decide +kernel) ⟨Nat.le_of_ble_eq_true rfl, Nat.le_of_ble_eq_true rfl⟩, hts _ w_132, trivial⟩ (gpS hA hK (hD σ) hE hP hS) rfl rfl hl.1 rfl (lv_room (Nat.le_of_ble_eq_true rfl)) d_S_ofPlaces_15 ⟨Nat.le_of_ble_eq_true rfl, Nat.le_of_ble_eq_true rfl⟩) hA (hD σ) hS (fun H locs hP hS => ?_)
      refine lv_ior hx hb d_S_ofPlaces_18 ?_
      refine lv_istore_n (lv' := [(1, .int (y1 ||| u15)), (0, .ref (q 2)), (2, .int y2)]) hx hb d_S_ofPlaces_19 rfl hl (by decide) rfl (fun ls hl => ?_)
      refine lv_iinc (v := (y2 + (1 : Int32))) (lv' := [(2, .int (y2 + (1 : Int32))), (1, .int (y1 ||| u15)), (0, .ref (q 2))]) hx hb d_S_ofPlaces_20 hl (k := 2) rfl rfl (by decide) rfl (fun ls hl => ?_)
      refine lv_goto (tgt := 4) hx hb d_S_ofPlaces_23 (by decide) ?_
      exact ih (y1 ||| u15) (y2 + (1 : Int32)) _ _ ls out h hP hS (lv_sub hl [2, 1, 0] rfl) K
  unfold f_S_ofPlaces at h
  refine lv_iconst (v := 0) hx hb d_S_ofPlaces_0 (by decide) ?_
  refine lv_istore_n (lv' := [(1, .int (0 : Int32)), (0, .ref (q 2))]) hx hb d_S_ofPlaces_1 rfl hl (by decide) rfl (fun ls hl => ?_)
  refine lv_iconst (v := 0) hx hb d_S_ofPlaces_2 (by decide) ?_
  refine lv_istore_n (lv' := [(2, .int (0 : Int32)), (1, .int (0 : Int32)), (0, .ref (q 2))]) hx hb d_S_ofPlaces_3 rfl hl (by decide) rfl (fun ls hl => ?_)
  obtain ⟨u4, hu4, h⟩ := bnd h
  refine L4 σ F (0 : Int32) (0 : Int32) _ _ ls u4 hu4 hP hS (lv_sub hl [2, 1, 0] rfl) (fun H locs ls hP hS hl => ?_)
  refine lv_iload_n hx hb d_S_ofPlaces_26 rfl (lv_at hl 1 rfl) ?_
  cases h
  exact gret_i hx hb hr hlk hP hS d_S_ofPlaces_27
/-! ===== EscapeOwners$LeastSets.openToAll()I ===== -/
def f_S_openToAll_B7 (F : Nat) (σ : St) (rec : Int32 → Int32 → Option (Int32 × Int32)) (y1 : Int32) (y2 : Int32) : Option (Int32 × Int32) := if (σ 1 1) ≤ y2 then (some (y1, y2)) else (Option.bind (f_P_kind σ y2) (fun u23 => if u23 = (8 : Int32) then (Option.bind (f_P_owner σ y2) (fun u46 => Option.bind (f_P_need σ y2 (0 : Int32)) (fun u55 => Option.bind (f_S_ofName σ u46 u55) (fun u58 => rec (y1 ||| u58) (y2 + (1 : Int32)))))) else (if u23 = (9 : Int32) then (Option.bind (f_P_owner σ y2) (fun u46 => Option.bind (f_P_need σ y2 (0 : Int32)) (fun u55 => Option.bind (f_S_ofName σ u46 u55) (fun u58 => rec (y1 ||| u58) (y2 + (1 : Int32)))))) else (rec y1 (y2 + (1 : Int32))))))
def f_S_openToAll_L7 (F : Nat) (σ : St) : Nat → Int32 → Int32 → Option (Int32 × Int32)
  | 0, _, _ => none
  | fu + 1, y1, y2 => f_S_openToAll_B7 F σ (f_S_openToAll_L7 F σ fu) y1 y2
def f_S_openToAll (F : Nat) (σ : St) : Option (Int32) := Option.bind (f_S_ofPlaces F σ) (fun u1 => Option.bind (f_S_openToAll_L7 F σ F u1 (0 : Int32)) (fun u7 => some u7.1))
set_option maxHeartbeats 4000000 in
set_option maxRecDepth 100000 in
theorem c_S_openToAll (l : Launch) (D : va_G) (cI cZ : ClassId) (tL : Nat) (q : Nat → Nat) (tl : va_W) (F : Nat) (σ : St) (out0 : Int32) (h : f_S_openToAll F σ = some out0) : gCi l y_S_openToAll (.code y_S_openToAll b_S_openToAll 4 (some .int) :: TB) { frames := 2, cells := 0, slots := 0, locals := 43 } D [(cI, .int), (cZ, .boolean)] tL [.ref (q 2)] (wE cI cZ q σ ++ tl) out0 (wE cI cZ q σ ++ tl) := by
  refine gCi_of (cc := b_S_openToAll) (maxL := 4) (ty := .int) (by decide) rfl (Nat.le_of_ble_eq_true rfl) ?_
  intro p e s m below meth c A ls hf hr hlk hA hK hD0 hE hP hl
  obtain ⟨hx, hb, hml, hown, hts⟩ := id hf
  have hts : ∀ w ∈ TB, w.before _ s = true := fun w h => hts w (List.mem_cons_of_mem _ h)
  have hown : s.vm.findClass R_S = some m.cls := hown
  have hl : lv_has ls 4 [(0, .ref (q 2))] := hl
  have hS : va_S A s.heap s.heap [] := va_S.rf
  have hD : ∀ σ' : St, va_D A (wE cI cZ q σ' ++ tl) := fun σ' => va_Dsame hD0 rfl
  have L7 : ∀ (σ : St) (fu : Nat) (y1 : Int32) (y2 : Int32) (H : Heap) (locs : List Loc) (ls : Array Slot) (out : Int32 × Int32), f_S_openToAll_L7 F σ fu y1 y2 = some out → va_P D vwCl (wE cI cZ q σ ++ tl) H → va_S A s.heap H locs → lv_has ls 4 [(0, .ref (q 2)), (1, .int y1), (2, .int y2)] → (∀ (H : Heap) (locs : List Loc) (ls : Array Slot), va_P D vwCl (wE cI cZ q σ ++ tl) H → va_S A s.heap H locs → lv_has ls 4 [(0, .ref (q 2)), (1, .int out.1), (2, .int out.2)] → W p l e { frames := 2, cells := 0, slots := 0, locals := 43 } s m ([.ref (q 2)] : List Value).toArray below meth c H locs 0 0 (gQi below D out0 (wE cI cZ q σ ++ tl) A (([.ref (q 2)] : List Value).toArray) s) (F0 m 69 ls [])) → W p l e { frames := 2, cells := 0, slots := 0, locals := 43 } s m ([.ref (q 2)] : List Value).toArray below meth c H locs 0 0 (gQi below D out0 (wE cI cZ q σ ++ tl) A (([.ref (q 2)] : List Value).toArray) s) (F0 m 7 ls []) := by
    intro σ fu
    induction fu with
    | zero => intro y1 y2 H locs ls out h; exact absurd (show (none : Option (Int32 × Int32)) = some out from h) (fun z => by cases z)
    | succ fu ih =>
      intro y1 y2 H locs ls out h hP hS hl K
      have h : f_S_openToAll_B7 F σ (f_S_openToAll_L7 F σ fu) y1 y2 = some out := h
      unfold f_S_openToAll_B7 at h
      refine lv_iload_n hx hb d_S_openToAll_7 rfl (lv_at hl 2 rfl) ?_
      refine lv_aload_n hx hb d_S_openToAll_8 rfl (lv_at hl 0 rfl) ?_
      refine va_get (D := D) (ci := 2) (v := .ref (q 1)) (C := R_S) (T := T_S) (N := 11) hx hb hts l_S hown hK hP 2 rfl rfl 0 (by decide) (hts _ w_43) (fun _ h9 => h9) rfl d_S_openToAll_9 ?_
      refine va_getN (D := D) (ci := 1) (v := .int (σ 1 1)) (C := R_P) (T := T_P) (N := 8) hx hb hts l_P hown hK hP 1 rfl rfl 1 (by decide) (va_Nw.use rfl (nf_3 hE)) (fun _ h9 => h9) rfl d_S_openToAll_12 ?_
      refine lv_icmp_ge (tgt := 69) hx hb d_S_openToAll_15 (by decide) (fun c => ?_) (fun c => ?_)
      · have h := ifp c h
        cases h
        exact K _ _ ls hP hS (lv_sub hl [0, 1, 2] rfl)
      have h := ifn c h
      refine lv_aload_n hx hb d_S_openToAll_18 rfl (lv_at hl 0 rfl) ?_
      refine va_get (D := D) (ci := 2) (v := .ref (q 1)) (C := R_S) (T := T_S) (N := 11) hx hb hts l_S hown hK hP 2 rfl rfl 0 (by decide) (hts _ w_43) (fun _ h9 => h9) rfl d_S_openToAll_19 ?_
      refine lv_iload_n hx hb d_S_openToAll_22 rfl (lv_at hl 2 rfl) ?_
      obtain ⟨u23, hu23, h⟩ := bnd h
      refine gcall_i (va_runV (As := [.int y2]) (rest := []) ⟨hx, hb, hml, hown, hts⟩ (c_P_kind l D cI cZ tL q tl σ y2 u23 hu23 H.size) (cwV 1 hts (gV w_200 w_166 w_167 w_2 w_168) rfl rfl rfl (by decide +kernel) ⟨Nat.le_of_ble_eq_true rfl, Nat.le_of_ble_eq_true rfl⟩) (gpV (k := 1) (ci := 1) hA hK (hD σ) hE hP hS rfl rfl) rfl rfl hl.1 rfl (lv_room (Nat.le_of_ble_eq_true rfl)) d_S_openToAll_23 ⟨Nat.le_of_ble_eq_true rfl, Nat.le_of_ble_eq_true rfl⟩) hA (hD σ) hS (fun H locs hP hS => ?_)
      refine lv_istore_n (lv' := [(3, .int u23), (0, .ref (q 2)), (1, .int y1), (2, .int y2)]) hx hb d_S_openToAll_26 rfl hl (by decide) rfl (fun ls hl => ?_)
      refine lv_iload_n hx hb d_S_openToAll_27 rfl (lv_at hl 0 rfl) ?_
      refine lv_bipush (v := 8) hx hb d_S_openToAll_28 (by decide) ?_
      refine lv_icmp_eq (tgt := 39) hx hb d_S_openToAll_30 (by decide) (fun c => ?_) (fun c => ?_)
      · have h := ifp c h
        refine lv_iload_n hx hb d_S_openToAll_39 rfl (lv_at hl 2 rfl) ?_
        refine lv_aload_n hx hb d_S_openToAll_40 rfl (lv_at hl 1 rfl) ?_
        refine lv_aload_n hx hb d_S_openToAll_41 rfl (lv_at hl 1 rfl) ?_
        refine va_get (D := D) (ci := 2) (v := .ref (q 1)) (C := R_S) (T := T_S) (N := 11) hx hb hts l_S hown hK hP 2 rfl rfl 0 (by decide) (hts _ w_43) (fun _ h9 => h9) rfl d_S_openToAll_42 ?_
        refine lv_iload_n hx hb d_S_openToAll_45 rfl (lv_at hl 3 rfl) ?_
        obtain ⟨u46, hu46, h⟩ := bnd h
        refine gcall_i (va_runV (As := [.int y2]) (rest := [.ref (q 2), .int y1]) ⟨hx, hb, hml, hown, hts⟩ (c_P_owner l D cI cZ tL q tl σ y2 u46 hu46 H.size) (cwV 1 hts (gV w_201 w_176 w_177 w_2 w_178) rfl rfl rfl (by decide +kernel) ⟨Nat.le_of_ble_eq_true rfl, Nat.le_of_ble_eq_true rfl⟩) (gpV (k := 1) (ci := 1) hA hK (hD σ) hE hP hS rfl rfl) rfl rfl hl.1 rfl (lv_room (Nat.le_of_ble_eq_true rfl)) d_S_openToAll_46 ⟨Nat.le_of_ble_eq_true rfl, Nat.le_of_ble_eq_true rfl⟩) hA (hD σ) hS (fun H locs hP hS => ?_)
        refine lv_aload_n hx hb d_S_openToAll_49 rfl (lv_at hl 1 rfl) ?_
        refine va_get (D := D) (ci := 2) (v := .ref (q 1)) (C := R_S) (T := T_S) (N := 11) hx hb hts l_S hown hK hP 2 rfl rfl 0 (by decide) (hts _ w_43) (fun _ h9 => h9) rfl d_S_openToAll_50 ?_
        refine lv_iload_n hx hb d_S_openToAll_53 rfl (lv_at hl 3 rfl) ?_
        refine lv_iconst (v := 0) hx hb d_S_openToAll_54 (by decide) ?_
        obtain ⟨u55, hu55, h⟩ := bnd h
        refine gcall_i (va_runV (As := [.int y2, .int (0 : Int32)]) (rest := [.int u46, .ref (q 2), .int y1]) ⟨hx, hb, hml, hown, hts⟩ (c_P_need l D cI cZ tL q tl σ y2 (0 : Int32) u55 hu55 H.size) (cwV 2 hts (gV w_202 w_185 w_186 w_2 w_187) rfl rfl rfl (by decide +kernel) ⟨Nat.le_of_ble_eq_true rfl, Nat.le_of_ble_eq_true rfl⟩) (gpV (k := 1) (ci := 1) hA hK (hD σ) hE hP hS rfl rfl) rfl rfl hl.1 rfl (lv_room (Nat.le_of_ble_eq_true rfl)) d_S_openToAll_55 ⟨Nat.le_of_ble_eq_true rfl, Nat.le_of_ble_eq_true rfl⟩) hA (hD σ) hS (fun H locs hP hS => ?_)
        obtain ⟨u58, hu58, h⟩ := bnd h
        refine gcall_i (va_runV (As := [.int u46, .int u55]) (rest := [.int y1]) ⟨hx, hb, hml, hown, hts⟩ (c_S_ofName l D cI cZ tL q tl σ u46 u55 u58 hu58 H.size) (cwV 2 hts (gV w_226 w_227 w_228 w_3 w_229) rfl rfl rfl (by decide +kernel) ⟨Nat.le_of_ble_eq_true rfl, Nat.le_of_ble_eq_true rfl⟩) (gpV (k := 2) (ci := 2) hA hK (hD σ) hE hP hS rfl rfl) rfl rfl hl.1 rfl (lv_room (Nat.le_of_ble_eq_true rfl)) d_S_openToAll_58 ⟨Nat.le_of_ble_eq_true rfl, Nat.le_of_ble_eq_true rfl⟩) hA (hD σ) hS (fun H locs hP hS => ?_)
        refine lv_ior hx hb d_S_openToAll_61 ?_
        refine lv_istore_n (lv' := [(1, .int (y1 ||| u58)), (3, .int u23), (0, .ref (q 2)), (2, .int y2)]) hx hb d_S_openToAll_62 rfl hl (by decide) rfl (fun ls hl => ?_)
        refine lv_iinc (v := (y2 + (1 : Int32))) (lv' := [(2, .int (y2 + (1 : Int32))), (1, .int (y1 ||| u58)), (3, .int u23), (0, .ref (q 2))]) hx hb d_S_openToAll_63 hl (k := 3) rfl rfl (by decide) rfl (fun ls hl => ?_)
        refine lv_goto (tgt := 7) hx hb d_S_openToAll_66 (by decide) ?_
        exact ih (y1 ||| u58) (y2 + (1 : Int32)) _ _ ls out h hP hS (lv_sub hl [3, 1, 0] rfl) K
      have h := ifn c h
      refine lv_iload_n hx hb d_S_openToAll_33 rfl (lv_at hl 0 rfl) ?_
      refine lv_bipush (v := 9) hx hb d_S_openToAll_34 (by decide) ?_
      refine lv_icmp_ne (tgt := 63) hx hb d_S_openToAll_36 (by decide) (fun c => ?_) (fun c => ?_)
      · have h := ifn c h
        refine lv_iinc (v := (y2 + (1 : Int32))) (lv' := [(2, .int (y2 + (1 : Int32))), (3, .int u23), (0, .ref (q 2)), (1, .int y1)]) hx hb d_S_openToAll_63 hl (k := 3) rfl rfl (by decide) rfl (fun ls hl => ?_)
        refine lv_goto (tgt := 7) hx hb d_S_openToAll_66 (by decide) ?_
        exact ih y1 (y2 + (1 : Int32)) _ _ ls out h hP hS (lv_sub hl [2, 3, 0] rfl) K
      have h := ifp c h
      refine lv_iload_n hx hb d_S_openToAll_39 rfl (lv_at hl 2 rfl) ?_
      refine lv_aload_n hx hb d_S_openToAll_40 rfl (lv_at hl 1 rfl) ?_
      refine lv_aload_n hx hb d_S_openToAll_41 rfl (lv_at hl 1 rfl) ?_
      refine va_get (D := D) (ci := 2) (v := .ref (q 1)) (C := R_S) (T := T_S) (N := 11) hx hb hts l_S hown hK hP 2 rfl rfl 0 (by decide) (hts _ w_43) (fun _ h9 => h9) rfl d_S_openToAll_42 ?_
      refine lv_iload_n hx hb d_S_openToAll_45 rfl (lv_at hl 3 rfl) ?_
      obtain ⟨u46, hu46, h⟩ := bnd h
      refine gcall_i (va_runV (As := [.int y2]) (rest := [.ref (q 2), .int y1]) ⟨hx, hb, hml, hown, hts⟩ (c_P_owner l D cI cZ tL q tl σ y2 u46 hu46 H.size) (cwV 1 hts (gV w_201 w_176 w_177 w_2 w_178) rfl rfl rfl (by decide +kernel) ⟨Nat.le_of_ble_eq_true rfl, Nat.le_of_ble_eq_true rfl⟩) (gpV (k := 1) (ci := 1) hA hK (hD σ) hE hP hS rfl rfl) rfl rfl hl.1 rfl (lv_room (Nat.le_of_ble_eq_true rfl)) d_S_openToAll_46 ⟨Nat.le_of_ble_eq_true rfl, Nat.le_of_ble_eq_true rfl⟩) hA (hD σ) hS (fun H locs hP hS => ?_)
      refine lv_aload_n hx hb d_S_openToAll_49 rfl (lv_at hl 1 rfl) ?_
      refine va_get (D := D) (ci := 2) (v := .ref (q 1)) (C := R_S) (T := T_S) (N := 11) hx hb hts l_S hown hK hP 2 rfl rfl 0 (by decide) (hts _ w_43) (fun _ h9 => h9) rfl d_S_openToAll_50 ?_
      refine lv_iload_n hx hb d_S_openToAll_53 rfl (lv_at hl 3 rfl) ?_
      refine lv_iconst (v := 0) hx hb d_S_openToAll_54 (by decide) ?_
      obtain ⟨u55, hu55, h⟩ := bnd h
      refine gcall_i (va_runV (As := [.int y2, .int (0 : Int32)]) (rest := [.int u46, .ref (q 2), .int y1]) ⟨hx, hb, hml, hown, hts⟩ (c_P_need l D cI cZ tL q tl σ y2 (0 : Int32) u55 hu55 H.size) (cwV 2 hts (gV w_202 w_185 w_186 w_2 w_187) rfl rfl rfl (by decide +kernel) ⟨Nat.le_of_ble_eq_true rfl, Nat.le_of_ble_eq_true rfl⟩) (gpV (k := 1) (ci := 1) hA hK (hD σ) hE hP hS rfl rfl) rfl rfl hl.1 rfl (lv_room (Nat.le_of_ble_eq_true rfl)) d_S_openToAll_55 ⟨Nat.le_of_ble_eq_true rfl, Nat.le_of_ble_eq_true rfl⟩) hA (hD σ) hS (fun H locs hP hS => ?_)
      obtain ⟨u58, hu58, h⟩ := bnd h
      refine gcall_i (va_runV (As := [.int u46, .int u55]) (rest := [.int y1]) ⟨hx, hb, hml, hown, hts⟩ (c_S_ofName l D cI cZ tL q tl σ u46 u55 u58 hu58 H.size) (cwV 2 hts (gV w_226 w_227 w_228 w_3 w_229) rfl rfl rfl (by decide +kernel) ⟨Nat.le_of_ble_eq_true rfl, Nat.le_of_ble_eq_true rfl⟩) (gpV (k := 2) (ci := 2) hA hK (hD σ) hE hP hS rfl rfl) rfl rfl hl.1 rfl (lv_room (Nat.le_of_ble_eq_true rfl)) d_S_openToAll_58 ⟨Nat.le_of_ble_eq_true rfl, Nat.le_of_ble_eq_true rfl⟩) hA (hD σ) hS (fun H locs hP hS => ?_)
      refine lv_ior hx hb d_S_openToAll_61 ?_
      refine lv_istore_n (lv' := [(1, .int (y1 ||| u58)), (3, .int u23), (0, .ref (q 2)), (2, .int y2)]) hx hb d_S_openToAll_62 rfl hl (by decide) rfl (fun ls hl => ?_)
      refine lv_iinc (v := (y2 + (1 : Int32))) (lv' := [(2, .int (y2 + (1 : Int32))), (1, .int (y1 ||| u58)), (3, .int u23), (0, .ref (q 2))]) hx hb d_S_openToAll_63 hl (k := 3) rfl rfl (by decide) rfl (fun ls hl => ?_)
      refine lv_goto (tgt := 7) hx hb d_S_openToAll_66 (by decide) ?_
      exact ih (y1 ||| u58) (y2 + (1 : Int32)) _ _ ls out h hP hS (lv_sub hl [3, 1, 0] rfl) K
  unfold f_S_openToAll at h
  refine lv_aload_n hx hb d_S_openToAll_0 rfl (lv_at hl 0 rfl) ?_
  obtain ⟨u1, hu1, h⟩ := bnd h
  refine gcall_i (va_runV (As := []) (rest := []) ⟨hx, hb, hml, hown, hts⟩ (c_S_ofPlaces l D cI cZ tL q tl F σ  u1 hu1 s.heap.size) (cwV 0 hts (gV w_249 w_250 w_251 w_3 w_252) rfl rfl rfl (by decide +kernel) ⟨Nat.le_of_ble_eq_true rfl, Nat.le_of_ble_eq_true rfl⟩) (gpV (k := 2) (ci := 2) hA hK (hD σ) hE hP hS rfl rfl) rfl rfl hl.1 rfl (lv_room (Nat.le_of_ble_eq_true rfl)) d_S_openToAll_1 ⟨Nat.le_of_ble_eq_true rfl, Nat.le_of_ble_eq_true rfl⟩) hA (hD σ) hS (fun H locs hP hS => ?_)
  refine lv_istore_n (lv' := [(1, .int u1), (0, .ref (q 2))]) hx hb d_S_openToAll_4 rfl hl (by decide) rfl (fun ls hl => ?_)
  refine lv_iconst (v := 0) hx hb d_S_openToAll_5 (by decide) ?_
  refine lv_istore_n (lv' := [(2, .int (0 : Int32)), (1, .int u1), (0, .ref (q 2))]) hx hb d_S_openToAll_6 rfl hl (by decide) rfl (fun ls hl => ?_)
  obtain ⟨u7, hu7, h⟩ := bnd h
  refine L7 σ F u1 (0 : Int32) _ _ ls u7 hu7 hP hS (lv_sub hl [2, 1, 0] rfl) (fun H locs ls hP hS hl => ?_)
  refine lv_iload_n hx hb d_S_openToAll_69 rfl (lv_at hl 1 rfl) ?_
  cases h
  exact gret_i hx hb hr hlk hP hS d_S_openToAll_70
/-! ===== EscapeOwners$LeastSets.setLevel(II)V ===== -/
def f_S_setLevel_B2 (F : Nat) (y1 : Int32) (y2 : Int32) (rec : Int32 → St → Option (Int32 × St)) (y3 : Int32) (σ : St) : Option (Int32 × St) := if (16 : Int32) ≤ y3 then (some (y3, σ)) else (Option.bind (f_E_has y1 y3) (fun u10 => if u10 = 0 then (rec (y3 + (1 : Int32)) σ) else (Option.bind (f_E_put 16 (σ 15) y3 y2) (fun u22 => lett (sr σ 15 u22) (fun s22 => rec (y3 + (1 : Int32)) s22)))))
def f_S_setLevel_L2 (F : Nat) (y1 : Int32) (y2 : Int32) : Nat → Int32 → St → Option (Int32 × St)
  | 0, _, _ => none
  | fu + 1, y3, σ => f_S_setLevel_B2 F y1 y2 (f_S_setLevel_L2 F y1 y2 fu) y3 σ
def f_S_setLevel (F : Nat) (σ : St) (x1 : Int32) (x2 : Int32) : Option (St) := Option.bind (f_S_setLevel_L2 F x1 x2 F (0 : Int32) σ) (fun u2 => some u2.2)
set_option maxHeartbeats 4000000 in
set_option maxRecDepth 100000 in
theorem c_S_setLevel (l : Launch) (D : va_G) (cI cZ : ClassId) (tL : Nat) (q : Nat → Nat) (tl : va_W) (F : Nat) (σ : St) (x1 : Int32) (x2 : Int32) (out0 : St) (h : f_S_setLevel F σ x1 x2 = some out0) : gCv l y_S_setLevel (.code y_S_setLevel b_S_setLevel 4 none :: TB) { frames := 1, cells := 0, slots := 0, locals := 22 } D [(cI, .int), (cZ, .boolean)] tL [.ref (q 2), .int x1, .int x2] (wE cI cZ q σ ++ tl) (wE cI cZ q out0 ++ tl) := by
  refine gCv_of (cc := b_S_setLevel) (maxL := 4)  (by decide) rfl (Nat.le_of_ble_eq_true rfl) ?_
  intro p e s m below meth c A ls hf hr hlk hA hK hD0 hE hP hl
  obtain ⟨hx, hb, hml, hown, hts⟩ := id hf
  have hts : ∀ w ∈ TB, w.before _ s = true := fun w h => hts w (List.mem_cons_of_mem _ h)
  have hown : s.vm.findClass R_S = some m.cls := hown
  have hl : lv_has ls 4 [(0, .ref (q 2)), (1, .int x1), (2, .int x2)] := hl
  have hS : va_S A s.heap s.heap [] := va_S.rf
  have hD : ∀ σ' : St, va_D A (wE cI cZ q σ' ++ tl) := fun σ' => va_Dsame hD0 rfl
  have L2 : ∀ (y1 : Int32) (y2 : Int32) (fu : Nat) (y3 : Int32) (σ : St) (H : Heap) (locs : List Loc) (ls : Array Slot) (out : Int32 × St), f_S_setLevel_L2 F y1 y2 fu y3 σ = some out → va_P D vwCl (wE cI cZ q σ ++ tl) H → va_S A s.heap H locs → lv_has ls 4 [(0, .ref (q 2)), (1, .int y1), (2, .int y2), (3, .int y3)] → (∀ (H : Heap) (locs : List Loc) (ls : Array Slot), va_P D vwCl (wE cI cZ q out.2 ++ tl) H → va_S A s.heap H locs → lv_has ls 4 [(0, .ref (q 2)), (1, .int y1), (2, .int y2), (3, .int out.1)] → W p l e { frames := 1, cells := 0, slots := 0, locals := 22 } s m ([.ref (q 2), .int x1, .int x2] : List Value).toArray below meth c H locs 0 0 (gQv below D (wE cI cZ q out0 ++ tl) A (([.ref (q 2), .int x1, .int x2] : List Value).toArray) s) (F0 m 31 ls [])) → W p l e { frames := 1, cells := 0, slots := 0, locals := 22 } s m ([.ref (q 2), .int x1, .int x2] : List Value).toArray below meth c H locs 0 0 (gQv below D (wE cI cZ q out0 ++ tl) A (([.ref (q 2), .int x1, .int x2] : List Value).toArray) s) (F0 m 2 ls []) := by
    intro y1 y2 fu
    induction fu with
    | zero => intro y3 σ H locs ls out h; exact absurd (show (none : Option (Int32 × St)) = some out from h) (fun z => by cases z)
    | succ fu ih =>
      intro y3 σ H locs ls out h hP hS hl K
      have h : f_S_setLevel_B2 F y1 y2 (f_S_setLevel_L2 F y1 y2 fu) y3 σ = some out := h
      unfold f_S_setLevel_B2 at h
      refine lv_iload_n hx hb d_S_setLevel_2 rfl (lv_at hl 3 rfl) ?_
      refine lv_bipush (v := 16) hx hb d_S_setLevel_3 (by decide) ?_
      refine lv_icmp_ge (tgt := 31) hx hb d_S_setLevel_5 (by decide) (fun c => ?_) (fun c => ?_)
      · have h := ifp c h
        cases h
        exact K _ _ ls hP hS (lv_sub hl [0, 1, 2, 3] rfl)
      have h := ifn c h
      refine lv_iload_n hx hb d_S_setLevel_8 rfl (lv_at hl 1 rfl) ?_
      refine lv_iload_n hx hb d_S_setLevel_9 rfl (lv_at hl 3 rfl) ?_
      obtain ⟨u10, hu10, h⟩ := bnd h
      refine gcall_i (va_runSN (As := [.int y1, .int y3]) (rest := []) ⟨hx, hb, hml, hown, hts⟩ (c_E_has l D cI cZ tL (wE cI cZ q σ ++ tl) y1 y3 u10 hu10 H.size) ⟨va_cnB 2 hts (TB_code w_210) rfl rfl rfl (nm_4 hE) (hts _ w_1) (by decide +kernel) ⟨Nat.le_of_ble_eq_true rfl, Nat.le_of_ble_eq_true rfl⟩, hts _ w_209, trivial⟩ (gpS hA hK (hD σ) hE hP hS) rfl rfl hl.1 rfl (lv_room (Nat.le_of_ble_eq_true rfl)) d_S_setLevel_10 ⟨Nat.le_of_ble_eq_true rfl, Nat.le_of_ble_eq_true rfl⟩) hA (hD σ) hS (fun H locs hP hS => ?_)
      refine lv_if_eq (tgt := 25) hx hb d_S_setLevel_13 (by decide) (fun c => ?_) (fun c => ?_)
      · have h := ifp c h
        refine lv_iinc (v := (y3 + (1 : Int32))) (lv' := [(3, .int (y3 + (1 : Int32))), (0, .ref (q 2)), (1, .int y1), (2, .int y2)]) hx hb d_S_setLevel_25 hl (k := 3) rfl rfl (by decide) rfl (fun ls hl => ?_)
        refine lv_goto (tgt := 2) hx hb d_S_setLevel_28 (by decide) ?_
        exact ih (y3 + (1 : Int32)) σ _ _ ls out h hP hS (lv_sub hl [1, 2, 3, 0] rfl) K
      have h := ifn c h
      refine lv_aload_n hx hb d_S_setLevel_16 rfl (lv_at hl 0 rfl) ?_
      refine va_get (D := D) (ci := 2) (v := .ref (q 15)) (C := R_S) (T := T_S) (N := 11) hx hb hts l_S hown hK hP 2 rfl rfl 6 (by decide) (hts _ w_49) (fun _ h9 => h9) rfl d_S_setLevel_17 ?_
      refine lv_iload_n hx hb d_S_setLevel_20 rfl (lv_at hl 3 rfl) ?_
      refine lv_iload_n hx hb d_S_setLevel_21 rfl (lv_at hl 2 rfl) ?_
      obtain ⟨u22, hu22, h⟩ := bnd h
      refine gcall_v (va_runSN (As := [.ref (q 15), .int y3, .int y2]) (rest := []) ⟨hx, hb, hml, hown, hts⟩ (c_E_put_u l D cI cZ tL (wE cI cZ q σ ++ tl) 15 (q 15) 16 (σ 15) rfl y3 y2 u22 hu22 H.size) ⟨va_cnB 3 hts (TB_code w_143) rfl rfl rfl (nm_6 hE) (hts _ w_1) (by decide +kernel) ⟨Nat.le_of_ble_eq_true rfl, Nat.le_of_ble_eq_true rfl⟩, hts _ w_142, trivial⟩ (gpS hA hK (hD σ) hE hP hS) rfl rfl hl.1 rfl (lv_room (Nat.le_of_ble_eq_true rfl)) d_S_setLevel_22 ⟨Nat.le_of_ble_eq_true rfl, Nat.le_of_ble_eq_true rfl⟩) hA (hD σ) hS (fun H locs hP hS => ?_)
      have hP : va_P D vwCl (wE cI cZ q (sr σ 15 u22) ++ tl) H := hP
      obtain ⟨s22, es22, h⟩ := lettE h
      rw [← es22] at hP
      refine lv_iinc (v := (y3 + (1 : Int32))) (lv' := [(3, .int (y3 + (1 : Int32))), (0, .ref (q 2)), (1, .int y1), (2, .int y2)]) hx hb d_S_setLevel_25 hl (k := 3) rfl rfl (by decide) rfl (fun ls hl => ?_)
      refine lv_goto (tgt := 2) hx hb d_S_setLevel_28 (by decide) ?_
      exact ih (y3 + (1 : Int32)) s22 _ _ ls out h hP hS (lv_sub hl [1, 2, 3, 0] rfl) K
  unfold f_S_setLevel at h
  refine lv_iconst (v := 0) hx hb d_S_setLevel_0 (by decide) ?_
  refine lv_istore_n (lv' := [(3, .int (0 : Int32)), (0, .ref (q 2)), (1, .int x1), (2, .int x2)]) hx hb d_S_setLevel_1 rfl hl (by decide) rfl (fun ls hl => ?_)
  obtain ⟨u2, hu2, h⟩ := bnd h
  refine L2 x1 x2 F (0 : Int32) σ _ _ ls u2 hu2 hP hS (lv_sub hl [1, 2, 3, 0] rfl) (fun H locs ls hP hS hl => ?_)
  cases h
  exact gret_v hx hb hr hlk hP hS d_S_setLevel_31
/-! ===== EscapeOwners$LeastSets.heldBy(I)I ===== -/
def f_S_heldBy_B4 (F : Nat) (σ : St) (y1 : Int32) (rec : Int32 → Int32 → Option (Int32 × Int32)) (y2 : Int32) (y3 : Int32) : Option (Int32 × Int32) := if (4 : Int32) ≤ y3 then (some (y2, y3)) else (Option.bind (f_S_ofFieldOfAll F σ y1 y3) (fun u13 => rec (y2 ||| u13) (y3 + (1 : Int32))))
def f_S_heldBy_L4 (F : Nat) (σ : St) (y1 : Int32) : Nat → Int32 → Int32 → Option (Int32 × Int32)
  | 0, _, _ => none
  | fu + 1, y2, y3 => f_S_heldBy_B4 F σ y1 (f_S_heldBy_L4 F σ y1 fu) y2 y3
def f_S_heldBy (F : Nat) (σ : St) (x1 : Int32) : Option (Int32) := Option.bind (f_S_heldBy_L4 F σ x1 F (0 : Int32) (0 : Int32)) (fun u4 => some u4.1)
set_option maxHeartbeats 4000000 in
set_option maxRecDepth 100000 in
theorem c_S_heldBy (l : Launch) (D : va_G) (cI cZ : ClassId) (tL : Nat) (q : Nat → Nat) (tl : va_W) (F : Nat) (σ : St) (x1 : Int32) (out0 : Int32) (h : f_S_heldBy F σ x1 = some out0) : gCi l y_S_heldBy (.code y_S_heldBy b_S_heldBy 4 (some .int) :: TB) { frames := 3, cells := 0, slots := 0, locals := 67 } D [(cI, .int), (cZ, .boolean)] tL [.ref (q 2), .int x1] (wE cI cZ q σ ++ tl) out0 (wE cI cZ q σ ++ tl) := by
  refine gCi_of (cc := b_S_heldBy) (maxL := 4) (ty := .int) (by decide) rfl (Nat.le_of_ble_eq_true rfl) ?_
  intro p e s m below meth c A ls hf hr hlk hA hK hD0 hE hP hl
  obtain ⟨hx, hb, hml, hown, hts⟩ := id hf
  have hts : ∀ w ∈ TB, w.before _ s = true := fun w h => hts w (List.mem_cons_of_mem _ h)
  have hown : s.vm.findClass R_S = some m.cls := hown
  have hl : lv_has ls 4 [(0, .ref (q 2)), (1, .int x1)] := hl
  have hS : va_S A s.heap s.heap [] := va_S.rf
  have hD : ∀ σ' : St, va_D A (wE cI cZ q σ' ++ tl) := fun σ' => va_Dsame hD0 rfl
  have L4 : ∀ (σ : St) (y1 : Int32) (fu : Nat) (y2 : Int32) (y3 : Int32) (H : Heap) (locs : List Loc) (ls : Array Slot) (out : Int32 × Int32), f_S_heldBy_L4 F σ y1 fu y2 y3 = some out → va_P D vwCl (wE cI cZ q σ ++ tl) H → va_S A s.heap H locs → lv_has ls 4 [(0, .ref (q 2)), (1, .int y1), (2, .int y2), (3, .int y3)] → (∀ (H : Heap) (locs : List Loc) (ls : Array Slot), va_P D vwCl (wE cI cZ q σ ++ tl) H → va_S A s.heap H locs → lv_has ls 4 [(0, .ref (q 2)), (1, .int y1), (2, .int out.1), (3, .int out.2)] → W p l e { frames := 3, cells := 0, slots := 0, locals := 67 } s m ([.ref (q 2), .int x1] : List Value).toArray below meth c H locs 0 0 (gQi below D out0 (wE cI cZ q σ ++ tl) A (([.ref (q 2), .int x1] : List Value).toArray) s) (F0 m 24 ls [])) → W p l e { frames := 3, cells := 0, slots := 0, locals := 67 } s m ([.ref (q 2), .int x1] : List Value).toArray below meth c H locs 0 0 (gQi below D out0 (wE cI cZ q σ ++ tl) A (([.ref (q 2), .int x1] : List Value).toArray) s) (F0 m 4 ls []) := by
    intro σ y1 fu
    induction fu with
    | zero => intro y2 y3 H locs ls out h; exact absurd (show (none : Option (Int32 × Int32)) = some out from h) (fun z => by cases z)
    | succ fu ih =>
      intro y2 y3 H locs ls out h hP hS hl K
      have h : f_S_heldBy_B4 F σ y1 (f_S_heldBy_L4 F σ y1 fu) y2 y3 = some out := h
      unfold f_S_heldBy_B4 at h
      refine lv_iload_n hx hb d_S_heldBy_4 rfl (lv_at hl 3 rfl) ?_
      refine lv_iconst (v := 4) hx hb d_S_heldBy_5 (by decide) ?_
      refine lv_icmp_ge (tgt := 24) hx hb d_S_heldBy_6 (by decide) (fun c => ?_) (fun c => ?_)
      · have h := ifp c h
        cases h
        exact K _ _ ls hP hS (lv_sub hl [0, 1, 2, 3] rfl)
      have h := ifn c h
      refine lv_iload_n hx hb d_S_heldBy_9 rfl (lv_at hl 2 rfl) ?_
      refine lv_aload_n hx hb d_S_heldBy_10 rfl (lv_at hl 0 rfl) ?_
      refine lv_iload_n hx hb d_S_heldBy_11 rfl (lv_at hl 1 rfl) ?_
      refine lv_iload_n hx hb d_S_heldBy_12 rfl (lv_at hl 3 rfl) ?_
      obtain ⟨u13, hu13, h⟩ := bnd h
      refine gcall_i (va_runV (As := [.int y1, .int y3]) (rest := [.int y2]) ⟨hx, hb, hml, hown, hts⟩ (c_S_ofFieldOfAll l D cI cZ tL q tl F σ y1 y3 u13 hu13 H.size) (cwV 2 hts (gV w_230 w_231 w_683 w_3 w_232) rfl rfl rfl (by decide +kernel) ⟨Nat.le_of_ble_eq_true rfl, Nat.le_of_ble_eq_true rfl⟩) (gpV (k := 2) (ci := 2) hA hK (hD σ) hE hP hS rfl rfl) rfl rfl hl.1 rfl (lv_room (Nat.le_of_ble_eq_true rfl)) d_S_heldBy_13 ⟨Nat.le_of_ble_eq_true rfl, Nat.le_of_ble_eq_true rfl⟩) hA (hD σ) hS (fun H locs hP hS => ?_)
      refine lv_ior hx hb d_S_heldBy_16 ?_
      refine lv_istore_n (lv' := [(2, .int (y2 ||| u13)), (0, .ref (q 2)), (1, .int y1), (3, .int y3)]) hx hb d_S_heldBy_17 rfl hl (by decide) rfl (fun ls hl => ?_)
      refine lv_iinc (v := (y3 + (1 : Int32))) (lv' := [(3, .int (y3 + (1 : Int32))), (2, .int (y2 ||| u13)), (0, .ref (q 2)), (1, .int y1)]) hx hb d_S_heldBy_18 hl (k := 3) rfl rfl (by decide) rfl (fun ls hl => ?_)
      refine lv_goto (tgt := 4) hx hb d_S_heldBy_21 (by decide) ?_
      exact ih (y2 ||| u13) (y3 + (1 : Int32)) _ _ ls out h hP hS (lv_sub hl [2, 3, 1, 0] rfl) K
  unfold f_S_heldBy at h
  refine lv_iconst (v := 0) hx hb d_S_heldBy_0 (by decide) ?_
  refine lv_istore_n (lv' := [(2, .int (0 : Int32)), (0, .ref (q 2)), (1, .int x1)]) hx hb d_S_heldBy_1 rfl hl (by decide) rfl (fun ls hl => ?_)
  refine lv_iconst (v := 0) hx hb d_S_heldBy_2 (by decide) ?_
  refine lv_istore_n (lv' := [(3, .int (0 : Int32)), (2, .int (0 : Int32)), (0, .ref (q 2)), (1, .int x1)]) hx hb d_S_heldBy_3 rfl hl (by decide) rfl (fun ls hl => ?_)
  obtain ⟨u4, hu4, h⟩ := bnd h
  refine L4 σ x1 F (0 : Int32) (0 : Int32) _ _ ls u4 hu4 hP hS (lv_sub hl [2, 3, 1, 0] rfl) (fun H locs ls hP hS hl => ?_)
  refine lv_iload_n hx hb d_S_heldBy_24 rfl (lv_at hl 2 rfl) ?_
  cases h
  exact gret_i hx hb hr hlk hP hS d_S_heldBy_25
/-! ===== EscapeOwners$LeastSets.findShared()V ===== -/
def f_S_findShared_B25 (F : Nat) (rec : Int32 → Int32 → St → Option (Int32 × Int32 × St)) (y1 : Int32) (y2 : Int32) (σ : St) : Option (Int32 × Int32 × St) := if y1 = 0 then (some (y1, y2, σ)) else (if (16 : Int32) ≤ y2 then (some (y1, y2, σ)) else (Option.bind (f_S_setLevel F σ y1 y2) (fun u38 => lett (su u38 2 8 ((u38 2 8) ||| y1)) (fun s48 => lett (su s48 2 9 y2) (fun s53 => Option.bind (f_S_heldBy F s53 y1) (fun u58 => rec (u58 &&& ((s53 2 8) ^^^ (-1 : Int32))) (y2 + (1 : Int32)) s53))))))
def f_S_findShared_L25 (F : Nat) : Nat → Int32 → Int32 → St → Option (Int32 × Int32 × St)
  | 0, _, _, _ => none
  | fu + 1, y1, y2, σ => f_S_findShared_B25 F (f_S_findShared_L25 F fu) y1 y2 σ
def f_S_findShared (F : Nat) (σ : St) : Option (St) := Option.bind (f_E_fill F 16 (σ 15) (-1 : Int32)) (fun u5 => lett (sr σ 15 u5) (fun s5 => lett (su s5 2 8 (0 : Int32)) (fun s10 => lett (su s10 2 9 (-1 : Int32)) (fun s15 => Option.bind (f_S_openToAll F s15) (fun u19 => Option.bind (f_S_findShared_L25 F F u19 (0 : Int32) s15) (fun u25 => some u25.2.2))))))
set_option maxHeartbeats 4000000 in
set_option maxRecDepth 100000 in
theorem c_S_findShared (l : Launch) (D : va_G) (cI cZ : ClassId) (tL : Nat) (q : Nat → Nat) (tl : va_W) (F : Nat) (σ : St) (out0 : St) (h : f_S_findShared F σ = some out0) : gCv l y_S_findShared (.code y_S_findShared b_S_findShared 3 none :: TB) { frames := 4, cells := 0, slots := 0, locals := 90 } D [(cI, .int), (cZ, .boolean)] tL [.ref (q 2)] (wE cI cZ q σ ++ tl) (wE cI cZ q out0 ++ tl) := by
  refine gCv_of (cc := b_S_findShared) (maxL := 3)  (by decide) rfl (Nat.le_of_ble_eq_true rfl) ?_
  intro p e s m below meth c A ls hf hr hlk hA hK hD0 hE hP hl
  obtain ⟨hx, hb, hml, hown, hts⟩ := id hf
  have hts : ∀ w ∈ TB, w.before _ s = true := fun w h => hts w (List.mem_cons_of_mem _ h)
  have hown : s.vm.findClass R_S = some m.cls := hown
  have hl : lv_has ls 3 [(0, .ref (q 2))] := hl
  have hS : va_S A s.heap s.heap [] := va_S.rf
  have hD : ∀ σ' : St, va_D A (wE cI cZ q σ' ++ tl) := fun σ' => va_Dsame hD0 rfl
  have L25 : ∀  (fu : Nat) (y1 : Int32) (y2 : Int32) (σ : St) (H : Heap) (locs : List Loc) (ls : Array Slot) (out : Int32 × Int32 × St), f_S_findShared_L25 F fu y1 y2 σ = some out → va_P D vwCl (wE cI cZ q σ ++ tl) H → va_S A s.heap H locs → lv_has ls 3 [(0, .ref (q 2)), (1, .int y1), (2, .int y2)] → (∀ (H : Heap) (locs : List Loc) (ls : Array Slot), va_P D vwCl (wE cI cZ q out.2.2 ++ tl) H → va_S A s.heap H locs → lv_has ls 3 [(0, .ref (q 2)), (1, .int out.1), (2, .int out.2.1)] → W p l e { frames := 4, cells := 0, slots := 0, locals := 90 } s m ([.ref (q 2)] : List Value).toArray below meth c H locs 0 0 (gQv below D (wE cI cZ q out0 ++ tl) A (([.ref (q 2)] : List Value).toArray) s) (F0 m 75 ls [])) → W p l e { frames := 4, cells := 0, slots := 0, locals := 90 } s m ([.ref (q 2)] : List Value).toArray below meth c H locs 0 0 (gQv below D (wE cI cZ q out0 ++ tl) A (([.ref (q 2)] : List Value).toArray) s) (F0 m 25 ls []) := by
    intro  fu
    induction fu with
    | zero => intro y1 y2 σ H locs ls out h; exact absurd (show (none : Option (Int32 × Int32 × St)) = some out from h) (fun z => by cases z)
    | succ fu ih =>
      intro y1 y2 σ H locs ls out h hP hS hl K
      have h : f_S_findShared_B25 F (f_S_findShared_L25 F fu) y1 y2 σ = some out := h
      unfold f_S_findShared_B25 at h
      refine lv_iload_n hx hb d_S_findShared_25 rfl (lv_at hl 1 rfl) ?_
      refine lv_if_eq (tgt := 75) hx hb d_S_findShared_26 (by decide) (fun c => ?_) (fun c => ?_)
      · have h := ifp c h
        cases h
        exact K _ _ ls hP hS (lv_sub hl [0, 1, 2] rfl)
      have h := ifn c h
      refine lv_iload_n hx hb d_S_findShared_29 rfl (lv_at hl 2 rfl) ?_
      refine lv_bipush (v := 16) hx hb d_S_findShared_30 (by decide) ?_
      refine lv_icmp_ge (tgt := 75) hx hb d_S_findShared_32 (by decide) (fun c => ?_) (fun c => ?_)
      · have h := ifp c h
        cases h
        exact K _ _ ls hP hS (lv_sub hl [0, 1, 2] rfl)
      have h := ifn c h
      refine lv_aload_n hx hb d_S_findShared_35 rfl (lv_at hl 0 rfl) ?_
      refine lv_iload_n hx hb d_S_findShared_36 rfl (lv_at hl 1 rfl) ?_
      refine lv_iload_n hx hb d_S_findShared_37 rfl (lv_at hl 2 rfl) ?_
      obtain ⟨u38, hu38, h⟩ := bnd h
      refine gcall_v (va_runV (As := [.int y1, .int y2]) (rest := []) ⟨hx, hb, hml, hown, hts⟩ (c_S_setLevel l D cI cZ tL q tl F σ y1 y2 u38 hu38 H.size) (cwV 2 hts (gV w_253 w_254 w_685 w_3 w_255) rfl rfl rfl (by decide +kernel) ⟨Nat.le_of_ble_eq_true rfl, Nat.le_of_ble_eq_true rfl⟩) (gpV (k := 2) (ci := 2) hA hK (hD σ) hE hP hS rfl rfl) rfl rfl hl.1 rfl (lv_room (Nat.le_of_ble_eq_true rfl)) d_S_findShared_38 ⟨Nat.le_of_ble_eq_true rfl, Nat.le_of_ble_eq_true rfl⟩) hA (hD σ) hS (fun H locs hP hS => ?_)
      refine lv_aload_n hx hb d_S_findShared_41 rfl (lv_at hl 0 rfl) ?_
      refine lv_dup hx hb d_S_findShared_42 rfl ?_
      refine va_get (D := D) (ci := 2) (v := .int (u38 2 8)) (C := R_S) (T := T_S) (N := 11) hx hb hts l_S hown hK hP 2 rfl rfl 8 (by decide) (hts _ w_51) (fun _ h9 => h9) rfl d_S_findShared_43 ?_
      refine lv_iload_n hx hb d_S_findShared_46 rfl (lv_at hl 1 rfl) ?_
      refine lv_ior hx hb d_S_findShared_47 ?_
      refine va_put (D := D) (ci := 2) (v := .int ((u38 2 8) ||| y1)) (ty := .int) (C := R_S) (T := T_S) (N := 11) hx hb hts l_S t_S t_S_ok n_S hown hK hP (hD u38) hS 2 rfl rfl 8 (by decide) (hts _ w_51) (fun _ h9 => h9) rfl (by decide +kernel) rfl rfl (Nat.le_of_ble_eq_true rfl) d_S_findShared_48 (fun H locs hP _ hS => ?_)
      have hP : va_P D vwCl (wE cI cZ q (su u38 2 8 ((u38 2 8) ||| y1)) ++ tl) H := hP
      obtain ⟨s48, es48, h⟩ := lettE h
      rw [← es48] at hP
      refine lv_aload_n hx hb d_S_findShared_51 rfl (lv_at hl 0 rfl) ?_
      refine lv_iload_n hx hb d_S_findShared_52 rfl (lv_at hl 2 rfl) ?_
      refine va_put (D := D) (ci := 2) (v := .int y2) (ty := .int) (C := R_S) (T := T_S) (N := 11) hx hb hts l_S t_S t_S_ok n_S hown hK hP (hD s48) hS 2 rfl rfl 9 (by decide) (hts _ w_52) (fun _ h9 => h9) rfl (by decide +kernel) rfl rfl (Nat.le_of_ble_eq_true rfl) d_S_findShared_53 (fun H locs hP _ hS => ?_)
      have hP : va_P D vwCl (wE cI cZ q (su s48 2 9 y2) ++ tl) H := hP
      obtain ⟨s53, es53, h⟩ := lettE h
      rw [← es53] at hP
      refine lv_aload_n hx hb d_S_findShared_56 rfl (lv_at hl 0 rfl) ?_
      refine lv_iload_n hx hb d_S_findShared_57 rfl (lv_at hl 1 rfl) ?_
      obtain ⟨u58, hu58, h⟩ := bnd h
      refine gcall_i (va_runV (As := [.int y1]) (rest := []) ⟨hx, hb, hml, hown, hts⟩ (c_S_heldBy l D cI cZ tL q tl F s53 y1 u58 hu58 H.size) (cwV 1 hts (gV w_256 w_257 w_680 w_3 w_258) rfl rfl rfl (by decide +kernel) ⟨Nat.le_of_ble_eq_true rfl, Nat.le_of_ble_eq_true rfl⟩) (gpV (k := 2) (ci := 2) hA hK (hD s53) hE hP hS rfl rfl) rfl rfl hl.1 rfl (lv_room (Nat.le_of_ble_eq_true rfl)) d_S_findShared_58 ⟨Nat.le_of_ble_eq_true rfl, Nat.le_of_ble_eq_true rfl⟩) hA (hD s53) hS (fun H locs hP hS => ?_)
      refine lv_aload_n hx hb d_S_findShared_61 rfl (lv_at hl 0 rfl) ?_
      refine va_get (D := D) (ci := 2) (v := .int (s53 2 8)) (C := R_S) (T := T_S) (N := 11) hx hb hts l_S hown hK hP 2 rfl rfl 8 (by decide) (hts _ w_51) (fun _ h9 => h9) rfl d_S_findShared_62 ?_
      refine lv_iconst (v := -1) hx hb d_S_findShared_65 (by decide) ?_
      refine lv_ixor hx hb d_S_findShared_66 ?_
      refine lv_iand hx hb d_S_findShared_67 ?_
      refine lv_istore_n (lv' := [(1, .int (u58 &&& ((s53 2 8) ^^^ (-1 : Int32)))), (0, .ref (q 2)), (2, .int y2)]) hx hb d_S_findShared_68 rfl hl (by decide) rfl (fun ls hl => ?_)
      refine lv_iinc (v := (y2 + (1 : Int32))) (lv' := [(2, .int (y2 + (1 : Int32))), (1, .int (u58 &&& ((s53 2 8) ^^^ (-1 : Int32)))), (0, .ref (q 2))]) hx hb d_S_findShared_69 hl (k := 2) rfl rfl (by decide) rfl (fun ls hl => ?_)
      refine lv_goto (tgt := 25) hx hb d_S_findShared_72 (by decide) ?_
      exact ih (u58 &&& ((s53 2 8) ^^^ (-1 : Int32))) (y2 + (1 : Int32)) s53 _ _ ls out h hP hS (lv_sub hl [2, 1, 0] rfl) K
  unfold f_S_findShared at h
  refine lv_aload_n hx hb d_S_findShared_0 rfl (lv_at hl 0 rfl) ?_
  refine va_get (D := D) (ci := 2) (v := .ref (q 15)) (C := R_S) (T := T_S) (N := 11) hx hb hts l_S hown hK hP 2 rfl rfl 6 (by decide) (hts _ w_49) (fun _ h9 => h9) rfl d_S_findShared_1 ?_
  refine lv_iconst (v := -1) hx hb d_S_findShared_4 (by decide) ?_
  obtain ⟨u5, hu5, h⟩ := bnd h
  refine gcall_v (va_runSN (As := [.ref (q 15), .int (-1 : Int32)]) (rest := []) ⟨hx, hb, hml, hown, hts⟩ (c_E_fill_u l D cI cZ tL (wE cI cZ q σ ++ tl) 15 (q 15) 16 F (σ 15) rfl (-1 : Int32) u5 hu5 s.heap.size) ⟨va_cnB 2 hts (TB_code w_196) rfl rfl rfl (nm_2 hE) (hts _ w_1) (by decide +kernel) ⟨Nat.le_of_ble_eq_true rfl, Nat.le_of_ble_eq_true rfl⟩, hts _ w_195, trivial⟩ (gpS hA hK (hD σ) hE hP hS) rfl rfl hl.1 rfl (lv_room (Nat.le_of_ble_eq_true rfl)) d_S_findShared_5 ⟨Nat.le_of_ble_eq_true rfl, Nat.le_of_ble_eq_true rfl⟩) hA (hD σ) hS (fun H locs hP hS => ?_)
  have hP : va_P D vwCl (wE cI cZ q (sr σ 15 u5) ++ tl) H := hP
  obtain ⟨s5, es5, h⟩ := lettE h
  rw [← es5] at hP
  refine lv_aload_n hx hb d_S_findShared_8 rfl (lv_at hl 0 rfl) ?_
  refine lv_iconst (v := 0) hx hb d_S_findShared_9 (by decide) ?_
  refine va_put (D := D) (ci := 2) (v := .int (0 : Int32)) (ty := .int) (C := R_S) (T := T_S) (N := 11) hx hb hts l_S t_S t_S_ok n_S hown hK hP (hD s5) hS 2 rfl rfl 8 (by decide) (hts _ w_51) (fun _ h9 => h9) rfl (by decide +kernel) rfl rfl (Nat.le_of_ble_eq_true rfl) d_S_findShared_10 (fun H locs hP _ hS => ?_)
  have hP : va_P D vwCl (wE cI cZ q (su s5 2 8 (0 : Int32)) ++ tl) H := hP
  obtain ⟨s10, es10, h⟩ := lettE h
  rw [← es10] at hP
  refine lv_aload_n hx hb d_S_findShared_13 rfl (lv_at hl 0 rfl) ?_
  refine lv_iconst (v := -1) hx hb d_S_findShared_14 (by decide) ?_
  refine va_put (D := D) (ci := 2) (v := .int (-1 : Int32)) (ty := .int) (C := R_S) (T := T_S) (N := 11) hx hb hts l_S t_S t_S_ok n_S hown hK hP (hD s10) hS 2 rfl rfl 9 (by decide) (hts _ w_52) (fun _ h9 => h9) rfl (by decide +kernel) rfl rfl (Nat.le_of_ble_eq_true rfl) d_S_findShared_15 (fun H locs hP _ hS => ?_)
  have hP : va_P D vwCl (wE cI cZ q (su s10 2 9 (-1 : Int32)) ++ tl) H := hP
  obtain ⟨s15, es15, h⟩ := lettE h
  rw [← es15] at hP
  refine lv_aload_n hx hb d_S_findShared_18 rfl (lv_at hl 0 rfl) ?_
  obtain ⟨u19, hu19, h⟩ := bnd h
  refine gcall_i (va_runV (As := []) (rest := []) ⟨hx, hb, hml, hown, hts⟩ (c_S_openToAll l D cI cZ tL q tl F s15  u19 hu19 H.size) (cwV 0 hts (gV w_246 w_247 w_684 w_3 w_248) rfl rfl rfl (by decide +kernel) ⟨Nat.le_of_ble_eq_true rfl, Nat.le_of_ble_eq_true rfl⟩) (gpV (k := 2) (ci := 2) hA hK (hD s15) hE hP hS rfl rfl) rfl rfl hl.1 rfl (lv_room (Nat.le_of_ble_eq_true rfl)) d_S_findShared_19 ⟨Nat.le_of_ble_eq_true rfl, Nat.le_of_ble_eq_true rfl⟩) hA (hD s15) hS (fun H locs hP hS => ?_)
  refine lv_istore_n (lv' := [(1, .int u19), (0, .ref (q 2))]) hx hb d_S_findShared_22 rfl hl (by decide) rfl (fun ls hl => ?_)
  refine lv_iconst (v := 0) hx hb d_S_findShared_23 (by decide) ?_
  refine lv_istore_n (lv' := [(2, .int (0 : Int32)), (1, .int u19), (0, .ref (q 2))]) hx hb d_S_findShared_24 rfl hl (by decide) rfl (fun ls hl => ?_)
  obtain ⟨u25, hu25, h⟩ := bnd h
  refine L25  F u19 (0 : Int32) s15 _ _ ls u25 hu25 hP hS (lv_sub hl [2, 1, 0] rfl) (fun H locs ls hP hS hl => ?_)
  cases h
  exact gret_v hx hb hr hlk hP hS d_S_findShared_75
/-! ===== EscapeOwners$LeastSets.solve()V ===== -/
def f_S_solve_B61 (F : Nat) (rec : Int32 → Int32 → St → Option (Int32 × Int32 × St)) (y1 : Int32) (y2 : Int32) (σ : St) : Option (Int32 × Int32 × St) := if y1 = 0 then (some (y1, y2, σ)) else (if (2241 : Int32) ≤ y2 then (some (y1, y2, σ)) else (Option.bind (f_S_sweep F σ) (fun u73 => rec u73.1 (y2 + (1 : Int32)) u73.2)))
def f_S_solve_L61 (F : Nat) : Nat → Int32 → Int32 → St → Option (Int32 × Int32 × St)
  | 0, _, _, _ => none
  | fu + 1, y1, y2, σ => f_S_solve_B61 F (f_S_solve_L61 F fu) y1 y2 σ
def f_S_solve (F : Nat) (σ : St) : Option (St) := if (σ 2 10) = 0 then (lett (su σ 2 10 (1 : Int32)) (fun s10 => Option.bind (f_E_fill F 8 (s10 10) (0 : Int32)) (fun u18 => lett (sr s10 10 u18) (fun s18 => Option.bind (f_E_fill F 64 (s18 11) (0 : Int32)) (fun u26 => lett (sr s18 11 u26) (fun s26 => Option.bind (f_E_fill F 64 (s26 12) (0 : Int32)) (fun u34 => lett (sr s26 12 u34) (fun s34 => Option.bind (f_E_fill F 4 (s34 13) (0 : Int32)) (fun u42 => lett (sr s34 13 u42) (fun s42 => Option.bind (f_E_fill F 8 (s42 14) (0 : Int32)) (fun u50 => lett (sr s42 14 u50) (fun s50 => Option.bind (f_S_findLive F s50) (fun u54 => Option.bind (f_S_solve_L61 F F (1 : Int32) (0 : Int32) u54) (fun u61 => Option.bind (f_S_findShared F u61.2.2) (fun u84 => some u84))))))))))))))) else (some σ)
set_option maxHeartbeats 4000000 in
set_option maxRecDepth 100000 in
theorem c_S_solve (l : Launch) (D : va_G) (cI cZ : ClassId) (tL : Nat) (q : Nat → Nat) (tl : va_W) (F : Nat) (σ : St) (out0 : St) (h : f_S_solve F σ = some out0) : gCv l y_S_solve (.code y_S_solve b_S_solve 3 none :: TB) { frames := 5, cells := 0, slots := 0, locals := 119 } D [(cI, .int), (cZ, .boolean)] tL [.ref (q 2)] (wE cI cZ q σ ++ tl) (wE cI cZ q out0 ++ tl) := by
  refine gCv_of (cc := b_S_solve) (maxL := 3)  (by decide) rfl (Nat.le_of_ble_eq_true rfl) ?_
  intro p e s m below meth c A ls hf hr hlk hA hK hD0 hE hP hl
  obtain ⟨hx, hb, hml, hown, hts⟩ := id hf
  have hts : ∀ w ∈ TB, w.before _ s = true := fun w h => hts w (List.mem_cons_of_mem _ h)
  have hown : s.vm.findClass R_S = some m.cls := hown
  have hl : lv_has ls 3 [(0, .ref (q 2))] := hl
  have hS : va_S A s.heap s.heap [] := va_S.rf
  have hD : ∀ σ' : St, va_D A (wE cI cZ q σ' ++ tl) := fun σ' => va_Dsame hD0 rfl
  have L61 : ∀  (fu : Nat) (y1 : Int32) (y2 : Int32) (σ : St) (H : Heap) (locs : List Loc) (ls : Array Slot) (out : Int32 × Int32 × St), f_S_solve_L61 F fu y1 y2 σ = some out → va_P D vwCl (wE cI cZ q σ ++ tl) H → va_S A s.heap H locs → lv_has ls 3 [(0, .ref (q 2)), (1, .int y1), (2, .int y2)] → (∀ (H : Heap) (locs : List Loc) (ls : Array Slot), va_P D vwCl (wE cI cZ q out.2.2 ++ tl) H → va_S A s.heap H locs → lv_has ls 3 [(0, .ref (q 2)), (1, .int out.1), (2, .int out.2.1)] → W p l e { frames := 5, cells := 0, slots := 0, locals := 119 } s m ([.ref (q 2)] : List Value).toArray below meth c H locs 0 0 (gQv below D (wE cI cZ q out0 ++ tl) A (([.ref (q 2)] : List Value).toArray) s) (F0 m 83 ls [])) → W p l e { frames := 5, cells := 0, slots := 0, locals := 119 } s m ([.ref (q 2)] : List Value).toArray below meth c H locs 0 0 (gQv below D (wE cI cZ q out0 ++ tl) A (([.ref (q 2)] : List Value).toArray) s) (F0 m 61 ls []) := by
    intro  fu
    induction fu with
    | zero => intro y1 y2 σ H locs ls out h; exact absurd (show (none : Option (Int32 × Int32 × St)) = some out from h) (fun z => by cases z)
    | succ fu ih =>
      intro y1 y2 σ H locs ls out h hP hS hl K
      have h : f_S_solve_B61 F (f_S_solve_L61 F fu) y1 y2 σ = some out := h
      unfold f_S_solve_B61 at h
      refine lv_iload_n hx hb d_S_solve_61 rfl (lv_at hl 1 rfl) ?_
      refine lv_if_eq (tgt := 83) hx hb d_S_solve_62 (by decide) (fun c => ?_) (fun c => ?_)
      · have h := ifp c h
        cases h
        exact K _ _ ls hP hS (lv_sub hl [0, 1, 2] rfl)
      have h := ifn c h
      refine lv_iload_n hx hb d_S_solve_65 rfl (lv_at hl 2 rfl) ?_
      refine lv_sipush (v := 2241) hx hb d_S_solve_66 (by decide) ?_
      refine lv_icmp_ge (tgt := 83) hx hb d_S_solve_69 (by decide) (fun c => ?_) (fun c => ?_)
      · have h := ifp c h
        cases h
        exact K _ _ ls hP hS (lv_sub hl [0, 1, 2] rfl)
      have h := ifn c h
      refine lv_aload_n hx hb d_S_solve_72 rfl (lv_at hl 0 rfl) ?_
      obtain ⟨u73, hu73, h⟩ := bnd h
      refine gcall_i (va_runV (As := []) (rest := []) ⟨hx, hb, hml, hown, hts⟩ (c_S_sweep l D cI cZ tL q tl F σ  u73 hu73 H.size) (cwV 0 hts (gV w_211 w_212 w_686 w_3 w_213) rfl rfl rfl (by decide +kernel) ⟨Nat.le_of_ble_eq_true rfl, Nat.le_of_ble_eq_true rfl⟩) (gpV (k := 2) (ci := 2) hA hK (hD σ) hE hP hS rfl rfl) rfl rfl hl.1 rfl (lv_room (Nat.le_of_ble_eq_true rfl)) d_S_solve_73 ⟨Nat.le_of_ble_eq_true rfl, Nat.le_of_ble_eq_true rfl⟩) hA (hD σ) hS (fun H locs hP hS => ?_)
      refine lv_istore_n (lv' := [(1, .int u73.1), (0, .ref (q 2)), (2, .int y2)]) hx hb d_S_solve_76 rfl hl (by decide) rfl (fun ls hl => ?_)
      refine lv_iinc (v := (y2 + (1 : Int32))) (lv' := [(2, .int (y2 + (1 : Int32))), (1, .int u73.1), (0, .ref (q 2))]) hx hb d_S_solve_77 hl (k := 2) rfl rfl (by decide) rfl (fun ls hl => ?_)
      refine lv_goto (tgt := 61) hx hb d_S_solve_80 (by decide) ?_
      exact ih u73.1 (y2 + (1 : Int32)) u73.2 _ _ ls out h hP hS (lv_sub hl [2, 1, 0] rfl) K
  unfold f_S_solve at h
  refine lv_aload_n hx hb d_S_solve_0 rfl (lv_at hl 0 rfl) ?_
  refine va_get (D := D) (ci := 2) (v := .int (σ 2 10)) (C := R_S) (T := T_S) (N := 11) hx hb hts l_S hown hK hP 2 rfl rfl 10 (by decide) (hts _ w_53) (fun _ h9 => h9) rfl d_S_solve_1 ?_
  refine lv_if_eq (tgt := 8) hx hb d_S_solve_4 (by decide) (fun c => ?_) (fun c => ?_)
  · have h := ifp c h
    refine lv_aload_n hx hb d_S_solve_8 rfl (lv_at hl 0 rfl) ?_
    refine lv_iconst (v := 1) hx hb d_S_solve_9 (by decide) ?_
    refine va_put (D := D) (ci := 2) (v := .int (1 : Int32)) (ty := .boolean) (C := R_S) (T := T_S) (N := 11) hx hb hts l_S t_S t_S_ok n_S hown hK hP (hD σ) hS 2 rfl rfl 10 (by decide) (hts _ w_53) (fun _ h9 => h9) rfl (by decide +kernel) rfl rfl (Nat.le_of_ble_eq_true rfl) d_S_solve_10 (fun H locs hP _ hS => ?_)
    have hP : va_P D vwCl (wE cI cZ q (su σ 2 10 (1 : Int32)) ++ tl) H := hP
    obtain ⟨s10, es10, h⟩ := lettE h
    rw [← es10] at hP
    refine lv_aload_n hx hb d_S_solve_13 rfl (lv_at hl 0 rfl) ?_
    refine va_get (D := D) (ci := 2) (v := .ref (q 10)) (C := R_S) (T := T_S) (N := 11) hx hb hts l_S hown hK hP 2 rfl rfl 1 (by decide) (hts _ w_44) (fun _ h9 => h9) rfl d_S_solve_14 ?_
    refine lv_iconst (v := 0) hx hb d_S_solve_17 (by decide) ?_
    obtain ⟨u18, hu18, h⟩ := bnd h
    refine gcall_v (va_runSN (As := [.ref (q 10), .int (0 : Int32)]) (rest := []) ⟨hx, hb, hml, hown, hts⟩ (c_E_fill_u l D cI cZ tL (wE cI cZ q s10 ++ tl) 10 (q 10) 8 F (s10 10) rfl (0 : Int32) u18 hu18 H.size) ⟨va_cnB 2 hts (TB_code w_196) rfl rfl rfl (nm_2 hE) (hts _ w_1) (by decide +kernel) ⟨Nat.le_of_ble_eq_true rfl, Nat.le_of_ble_eq_true rfl⟩, hts _ w_195, trivial⟩ (gpS hA hK (hD s10) hE hP hS) rfl rfl hl.1 rfl (lv_room (Nat.le_of_ble_eq_true rfl)) d_S_solve_18 ⟨Nat.le_of_ble_eq_true rfl, Nat.le_of_ble_eq_true rfl⟩) hA (hD s10) hS (fun H locs hP hS => ?_)
    have hP : va_P D vwCl (wE cI cZ q (sr s10 10 u18) ++ tl) H := hP
    obtain ⟨s18, es18, h⟩ := lettE h
    rw [← es18] at hP
    refine lv_aload_n hx hb d_S_solve_21 rfl (lv_at hl 0 rfl) ?_
    refine va_get (D := D) (ci := 2) (v := .ref (q 11)) (C := R_S) (T := T_S) (N := 11) hx hb hts l_S hown hK hP 2 rfl rfl 2 (by decide) (hts _ w_45) (fun _ h9 => h9) rfl d_S_solve_22 ?_
    refine lv_iconst (v := 0) hx hb d_S_solve_25 (by decide) ?_
    obtain ⟨u26, hu26, h⟩ := bnd h
    refine gcall_v (va_runSN (As := [.ref (q 11), .int (0 : Int32)]) (rest := []) ⟨hx, hb, hml, hown, hts⟩ (c_E_fill_u l D cI cZ tL (wE cI cZ q s18 ++ tl) 11 (q 11) 64 F (s18 11) rfl (0 : Int32) u26 hu26 H.size) ⟨va_cnB 2 hts (TB_code w_196) rfl rfl rfl (nm_2 hE) (hts _ w_1) (by decide +kernel) ⟨Nat.le_of_ble_eq_true rfl, Nat.le_of_ble_eq_true rfl⟩, hts _ w_195, trivial⟩ (gpS hA hK (hD s18) hE hP hS) rfl rfl hl.1 rfl (lv_room (Nat.le_of_ble_eq_true rfl)) d_S_solve_26 ⟨Nat.le_of_ble_eq_true rfl, Nat.le_of_ble_eq_true rfl⟩) hA (hD s18) hS (fun H locs hP hS => ?_)
    have hP : va_P D vwCl (wE cI cZ q (sr s18 11 u26) ++ tl) H := hP
    obtain ⟨s26, es26, h⟩ := lettE h
    rw [← es26] at hP
    refine lv_aload_n hx hb d_S_solve_29 rfl (lv_at hl 0 rfl) ?_
    refine va_get (D := D) (ci := 2) (v := .ref (q 12)) (C := R_S) (T := T_S) (N := 11) hx hb hts l_S hown hK hP 2 rfl rfl 3 (by decide) (hts _ w_46) (fun _ h9 => h9) rfl d_S_solve_30 ?_
    refine lv_iconst (v := 0) hx hb d_S_solve_33 (by decide) ?_
    obtain ⟨u34, hu34, h⟩ := bnd h
    refine gcall_v (va_runSN (As := [.ref (q 12), .int (0 : Int32)]) (rest := []) ⟨hx, hb, hml, hown, hts⟩ (c_E_fill_u l D cI cZ tL (wE cI cZ q s26 ++ tl) 12 (q 12) 64 F (s26 12) rfl (0 : Int32) u34 hu34 H.size) ⟨va_cnB 2 hts (TB_code w_196) rfl rfl rfl (nm_2 hE) (hts _ w_1) (by decide +kernel) ⟨Nat.le_of_ble_eq_true rfl, Nat.le_of_ble_eq_true rfl⟩, hts _ w_195, trivial⟩ (gpS hA hK (hD s26) hE hP hS) rfl rfl hl.1 rfl (lv_room (Nat.le_of_ble_eq_true rfl)) d_S_solve_34 ⟨Nat.le_of_ble_eq_true rfl, Nat.le_of_ble_eq_true rfl⟩) hA (hD s26) hS (fun H locs hP hS => ?_)
    have hP : va_P D vwCl (wE cI cZ q (sr s26 12 u34) ++ tl) H := hP
    obtain ⟨s34, es34, h⟩ := lettE h
    rw [← es34] at hP
    refine lv_aload_n hx hb d_S_solve_37 rfl (lv_at hl 0 rfl) ?_
    refine va_get (D := D) (ci := 2) (v := .ref (q 13)) (C := R_S) (T := T_S) (N := 11) hx hb hts l_S hown hK hP 2 rfl rfl 4 (by decide) (hts _ w_47) (fun _ h9 => h9) rfl d_S_solve_38 ?_
    refine lv_iconst (v := 0) hx hb d_S_solve_41 (by decide) ?_
    obtain ⟨u42, hu42, h⟩ := bnd h
    refine gcall_v (va_runSN (As := [.ref (q 13), .int (0 : Int32)]) (rest := []) ⟨hx, hb, hml, hown, hts⟩ (c_E_fill_u l D cI cZ tL (wE cI cZ q s34 ++ tl) 13 (q 13) 4 F (s34 13) rfl (0 : Int32) u42 hu42 H.size) ⟨va_cnB 2 hts (TB_code w_196) rfl rfl rfl (nm_2 hE) (hts _ w_1) (by decide +kernel) ⟨Nat.le_of_ble_eq_true rfl, Nat.le_of_ble_eq_true rfl⟩, hts _ w_195, trivial⟩ (gpS hA hK (hD s34) hE hP hS) rfl rfl hl.1 rfl (lv_room (Nat.le_of_ble_eq_true rfl)) d_S_solve_42 ⟨Nat.le_of_ble_eq_true rfl, Nat.le_of_ble_eq_true rfl⟩) hA (hD s34) hS (fun H locs hP hS => ?_)
    have hP : va_P D vwCl (wE cI cZ q (sr s34 13 u42) ++ tl) H := hP
    obtain ⟨s42, es42, h⟩ := lettE h
    rw [← es42] at hP
    refine lv_aload_n hx hb d_S_solve_45 rfl (lv_at hl 0 rfl) ?_
    refine va_get (D := D) (ci := 2) (v := .ref (q 14)) (C := R_S) (T := T_S) (N := 11) hx hb hts l_S hown hK hP 2 rfl rfl 5 (by decide) (hts _ w_48) (fun _ h9 => h9) rfl d_S_solve_46 ?_
    refine lv_iconst (v := 0) hx hb d_S_solve_49 (by decide) ?_
    obtain ⟨u50, hu50, h⟩ := bnd h
    refine gcall_v (va_runSN (As := [.ref (q 14), .int (0 : Int32)]) (rest := []) ⟨hx, hb, hml, hown, hts⟩ (c_E_fill_u l D cI cZ tL (wE cI cZ q s42 ++ tl) 14 (q 14) 8 F (s42 14) rfl (0 : Int32) u50 hu50 H.size) ⟨va_cnB 2 hts (TB_code w_196) rfl rfl rfl (nm_2 hE) (hts _ w_1) (by decide +kernel) ⟨Nat.le_of_ble_eq_true rfl, Nat.le_of_ble_eq_true rfl⟩, hts _ w_195, trivial⟩ (gpS hA hK (hD s42) hE hP hS) rfl rfl hl.1 rfl (lv_room (Nat.le_of_ble_eq_true rfl)) d_S_solve_50 ⟨Nat.le_of_ble_eq_true rfl, Nat.le_of_ble_eq_true rfl⟩) hA (hD s42) hS (fun H locs hP hS => ?_)
    have hP : va_P D vwCl (wE cI cZ q (sr s42 14 u50) ++ tl) H := hP
    obtain ⟨s50, es50, h⟩ := lettE h
    rw [← es50] at hP
    refine lv_aload_n hx hb d_S_solve_53 rfl (lv_at hl 0 rfl) ?_
    obtain ⟨u54, hu54, h⟩ := bnd h
    refine gcall_v (va_runV (As := []) (rest := []) ⟨hx, hb, hml, hown, hts⟩ (c_S_findLive l D cI cZ tL q tl F s50  u54 hu54 H.size) (cwV 0 hts (gV w_197 w_198 w_676 w_3 w_199) rfl rfl rfl (by decide +kernel) ⟨Nat.le_of_ble_eq_true rfl, Nat.le_of_ble_eq_true rfl⟩) (gpV (k := 2) (ci := 2) hA hK (hD s50) hE hP hS rfl rfl) rfl rfl hl.1 rfl (lv_room (Nat.le_of_ble_eq_true rfl)) d_S_solve_54 ⟨Nat.le_of_ble_eq_true rfl, Nat.le_of_ble_eq_true rfl⟩) hA (hD s50) hS (fun H locs hP hS => ?_)
    refine lv_iconst (v := 1) hx hb d_S_solve_57 (by decide) ?_
    refine lv_istore_n (lv' := [(1, .int (1 : Int32)), (0, .ref (q 2))]) hx hb d_S_solve_58 rfl hl (by decide) rfl (fun ls hl => ?_)
    refine lv_iconst (v := 0) hx hb d_S_solve_59 (by decide) ?_
    refine lv_istore_n (lv' := [(2, .int (0 : Int32)), (1, .int (1 : Int32)), (0, .ref (q 2))]) hx hb d_S_solve_60 rfl hl (by decide) rfl (fun ls hl => ?_)
    obtain ⟨u61, hu61, h⟩ := bnd h
    refine L61  F (1 : Int32) (0 : Int32) u54 _ _ ls u61 hu61 hP hS (lv_sub hl [2, 1, 0] rfl) (fun H locs ls hP hS hl => ?_)
    refine lv_aload_n hx hb d_S_solve_83 rfl (lv_at hl 0 rfl) ?_
    obtain ⟨u84, hu84, h⟩ := bnd h
    refine gcall_v (va_runV (As := []) (rest := []) ⟨hx, hb, hml, hown, hts⟩ (c_S_findShared l D cI cZ tL q tl F u61.2.2  u84 hu84 H.size) (cwV 0 hts (gV w_243 w_244 w_677 w_3 w_245) rfl rfl rfl (by decide +kernel) ⟨Nat.le_of_ble_eq_true rfl, Nat.le_of_ble_eq_true rfl⟩) (gpV (k := 2) (ci := 2) hA hK (hD u61.2.2) hE hP hS rfl rfl) rfl rfl hl.1 rfl (lv_room (Nat.le_of_ble_eq_true rfl)) d_S_solve_84 ⟨Nat.le_of_ble_eq_true rfl, Nat.le_of_ble_eq_true rfl⟩) hA (hD u61.2.2) hS (fun H locs hP hS => ?_)
    cases h
    exact gret_v hx hb hr hlk hP hS d_S_solve_87
  have h := ifn c h
  cases h
  exact gret_v hx hb hr hlk hP hS d_S_solve_7
/-! ===== EscapeOwners$LeastSets.ofParameters(I)I ===== -/
def f_S_ofParameters_B4 (F : Nat) (σ : St) (y1 : Int32) (rec : Int32 → Int32 → Option (Int32 × Int32)) (y2 : Int32) (y3 : Int32) : Option (Int32 × Int32) := if (3 : Int32) ≤ y3 then (some (y2, y3)) else (Option.bind (f_S_ofName σ y1 y3) (fun u13 => rec (y2 ||| u13) (y3 + (1 : Int32))))
def f_S_ofParameters_L4 (F : Nat) (σ : St) (y1 : Int32) : Nat → Int32 → Int32 → Option (Int32 × Int32)
  | 0, _, _ => none
  | fu + 1, y2, y3 => f_S_ofParameters_B4 F σ y1 (f_S_ofParameters_L4 F σ y1 fu) y2 y3
def f_S_ofParameters (F : Nat) (σ : St) (x1 : Int32) : Option (Int32) := Option.bind (f_S_ofParameters_L4 F σ x1 F (0 : Int32) (0 : Int32)) (fun u4 => some u4.1)
set_option maxHeartbeats 4000000 in
set_option maxRecDepth 100000 in
theorem c_S_ofParameters (l : Launch) (D : va_G) (cI cZ : ClassId) (tL : Nat) (q : Nat → Nat) (tl : va_W) (F : Nat) (σ : St) (x1 : Int32) (out0 : Int32) (h : f_S_ofParameters F σ x1 = some out0) : gCi l y_S_ofParameters (.code y_S_ofParameters b_S_ofParameters 4 (some .int) :: TB) { frames := 2, cells := 0, slots := 0, locals := 43 } D [(cI, .int), (cZ, .boolean)] tL [.ref (q 2), .int x1] (wE cI cZ q σ ++ tl) out0 (wE cI cZ q σ ++ tl) := by
  refine gCi_of (cc := b_S_ofParameters) (maxL := 4) (ty := .int) (by decide) rfl (Nat.le_of_ble_eq_true rfl) ?_
  intro p e s m below meth c A ls hf hr hlk hA hK hD0 hE hP hl
  obtain ⟨hx, hb, hml, hown, hts⟩ := id hf
  have hts : ∀ w ∈ TB, w.before _ s = true := fun w h => hts w (List.mem_cons_of_mem _ h)
  have hown : s.vm.findClass R_S = some m.cls := hown
  have hl : lv_has ls 4 [(0, .ref (q 2)), (1, .int x1)] := hl
  have hS : va_S A s.heap s.heap [] := va_S.rf
  have hD : ∀ σ' : St, va_D A (wE cI cZ q σ' ++ tl) := fun σ' => va_Dsame hD0 rfl
  have L4 : ∀ (σ : St) (y1 : Int32) (fu : Nat) (y2 : Int32) (y3 : Int32) (H : Heap) (locs : List Loc) (ls : Array Slot) (out : Int32 × Int32), f_S_ofParameters_L4 F σ y1 fu y2 y3 = some out → va_P D vwCl (wE cI cZ q σ ++ tl) H → va_S A s.heap H locs → lv_has ls 4 [(0, .ref (q 2)), (1, .int y1), (2, .int y2), (3, .int y3)] → (∀ (H : Heap) (locs : List Loc) (ls : Array Slot), va_P D vwCl (wE cI cZ q σ ++ tl) H → va_S A s.heap H locs → lv_has ls 4 [(0, .ref (q 2)), (1, .int y1), (2, .int out.1), (3, .int out.2)] → W p l e { frames := 2, cells := 0, slots := 0, locals := 43 } s m ([.ref (q 2), .int x1] : List Value).toArray below meth c H locs 0 0 (gQi below D out0 (wE cI cZ q σ ++ tl) A (([.ref (q 2), .int x1] : List Value).toArray) s) (F0 m 24 ls [])) → W p l e { frames := 2, cells := 0, slots := 0, locals := 43 } s m ([.ref (q 2), .int x1] : List Value).toArray below meth c H locs 0 0 (gQi below D out0 (wE cI cZ q σ ++ tl) A (([.ref (q 2), .int x1] : List Value).toArray) s) (F0 m 4 ls []) := by
    intro σ y1 fu
    induction fu with
    | zero => intro y2 y3 H locs ls out h; exact absurd (show (none : Option (Int32 × Int32)) = some out from h) (fun z => by cases z)
    | succ fu ih =>
      intro y2 y3 H locs ls out h hP hS hl K
      have h : f_S_ofParameters_B4 F σ y1 (f_S_ofParameters_L4 F σ y1 fu) y2 y3 = some out := h
      unfold f_S_ofParameters_B4 at h
      refine lv_iload_n hx hb d_S_ofParameters_4 rfl (lv_at hl 3 rfl) ?_
      refine lv_iconst (v := 3) hx hb d_S_ofParameters_5 (by decide) ?_
      refine lv_icmp_ge (tgt := 24) hx hb d_S_ofParameters_6 (by decide) (fun c => ?_) (fun c => ?_)
      · have h := ifp c h
        cases h
        exact K _ _ ls hP hS (lv_sub hl [0, 1, 2, 3] rfl)
      have h := ifn c h
      refine lv_iload_n hx hb d_S_ofParameters_9 rfl (lv_at hl 2 rfl) ?_
      refine lv_aload_n hx hb d_S_ofParameters_10 rfl (lv_at hl 0 rfl) ?_
      refine lv_iload_n hx hb d_S_ofParameters_11 rfl (lv_at hl 1 rfl) ?_
      refine lv_iload_n hx hb d_S_ofParameters_12 rfl (lv_at hl 3 rfl) ?_
      obtain ⟨u13, hu13, h⟩ := bnd h
      refine gcall_i (va_runV (As := [.int y1, .int y3]) (rest := [.int y2]) ⟨hx, hb, hml, hown, hts⟩ (c_S_ofName l D cI cZ tL q tl σ y1 y3 u13 hu13 H.size) (cwV 2 hts (gV w_226 w_227 w_228 w_3 w_229) rfl rfl rfl (by decide +kernel) ⟨Nat.le_of_ble_eq_true rfl, Nat.le_of_ble_eq_true rfl⟩) (gpV (k := 2) (ci := 2) hA hK (hD σ) hE hP hS rfl rfl) rfl rfl hl.1 rfl (lv_room (Nat.le_of_ble_eq_true rfl)) d_S_ofParameters_13 ⟨Nat.le_of_ble_eq_true rfl, Nat.le_of_ble_eq_true rfl⟩) hA (hD σ) hS (fun H locs hP hS => ?_)
      refine lv_ior hx hb d_S_ofParameters_16 ?_
      refine lv_istore_n (lv' := [(2, .int (y2 ||| u13)), (0, .ref (q 2)), (1, .int y1), (3, .int y3)]) hx hb d_S_ofParameters_17 rfl hl (by decide) rfl (fun ls hl => ?_)
      refine lv_iinc (v := (y3 + (1 : Int32))) (lv' := [(3, .int (y3 + (1 : Int32))), (2, .int (y2 ||| u13)), (0, .ref (q 2)), (1, .int y1)]) hx hb d_S_ofParameters_18 hl (k := 3) rfl rfl (by decide) rfl (fun ls hl => ?_)
      refine lv_goto (tgt := 4) hx hb d_S_ofParameters_21 (by decide) ?_
      exact ih (y2 ||| u13) (y3 + (1 : Int32)) _ _ ls out h hP hS (lv_sub hl [2, 3, 1, 0] rfl) K
  unfold f_S_ofParameters at h
  refine lv_iconst (v := 0) hx hb d_S_ofParameters_0 (by decide) ?_
  refine lv_istore_n (lv' := [(2, .int (0 : Int32)), (0, .ref (q 2)), (1, .int x1)]) hx hb d_S_ofParameters_1 rfl hl (by decide) rfl (fun ls hl => ?_)
  refine lv_iconst (v := 0) hx hb d_S_ofParameters_2 (by decide) ?_
  refine lv_istore_n (lv' := [(3, .int (0 : Int32)), (2, .int (0 : Int32)), (0, .ref (q 2)), (1, .int x1)]) hx hb d_S_ofParameters_3 rfl hl (by decide) rfl (fun ls hl => ?_)
  obtain ⟨u4, hu4, h⟩ := bnd h
  refine L4 σ x1 F (0 : Int32) (0 : Int32) _ _ ls u4 hu4 hP hS (lv_sub hl [2, 3, 1, 0] rfl) (fun H locs ls hP hS hl => ?_)
  refine lv_iload_n hx hb d_S_ofParameters_24 rfl (lv_at hl 2 rfl) ?_
  cases h
  exact gret_i hx hb hr hlk hP hS d_S_ofParameters_25
/-! ===== EscapeOwners$LeastSets.reachedFrom(I)I ===== -/
def f_S_reachedFrom_B7 (F : Nat) (σ : St) (rec : Int32 → Int32 → Int32 → Option (Int32 × Int32 × Int32)) (y2 : Int32) (y3 : Int32) (y4 : Int32) : Option (Int32 × Int32 × Int32) := if y3 = 0 then (some (y2, y3, y4)) else (if (16 : Int32) ≤ y4 then (some (y2, y3, y4)) else (Option.bind (f_S_heldBy F σ y3) (fun u20 => rec (y2 ||| (u20 &&& (y2 ^^^ (-1 : Int32)))) (u20 &&& (y2 ^^^ (-1 : Int32))) (y4 + (1 : Int32)))))
def f_S_reachedFrom_L7 (F : Nat) (σ : St) : Nat → Int32 → Int32 → Int32 → Option (Int32 × Int32 × Int32)
  | 0, _, _, _ => none
  | fu + 1, y2, y3, y4 => f_S_reachedFrom_B7 F σ (f_S_reachedFrom_L7 F σ fu) y2 y3 y4
def f_S_reachedFrom (F : Nat) (σ : St) (x1 : Int32) : Option (Int32) := Option.bind (f_S_reachedFrom_L7 F σ F x1 x1 (0 : Int32)) (fun u7 => some u7.1)
set_option maxHeartbeats 4000000 in
set_option maxRecDepth 100000 in
theorem c_S_reachedFrom (l : Launch) (D : va_G) (cI cZ : ClassId) (tL : Nat) (q : Nat → Nat) (tl : va_W) (F : Nat) (σ : St) (x1 : Int32) (out0 : Int32) (h : f_S_reachedFrom F σ x1 = some out0) : gCi l y_S_reachedFrom (.code y_S_reachedFrom b_S_reachedFrom 5 (some .int) :: TB) { frames := 4, cells := 0, slots := 0, locals := 90 } D [(cI, .int), (cZ, .boolean)] tL [.ref (q 2), .int x1] (wE cI cZ q σ ++ tl) out0 (wE cI cZ q σ ++ tl) := by
  refine gCi_of (cc := b_S_reachedFrom) (maxL := 5) (ty := .int) (by decide) rfl (Nat.le_of_ble_eq_true rfl) ?_
  intro p e s m below meth c A ls hf hr hlk hA hK hD0 hE hP hl
  obtain ⟨hx, hb, hml, hown, hts⟩ := id hf
  have hts : ∀ w ∈ TB, w.before _ s = true := fun w h => hts w (List.mem_cons_of_mem _ h)
  have hown : s.vm.findClass R_S = some m.cls := hown
  have hl : lv_has ls 5 [(0, .ref (q 2)), (1, .int x1)] := hl
  have hS : va_S A s.heap s.heap [] := va_S.rf
  have hD : ∀ σ' : St, va_D A (wE cI cZ q σ' ++ tl) := fun σ' => va_Dsame hD0 rfl
  have L7 : ∀ (σ : St) (fu : Nat) (y2 : Int32) (y3 : Int32) (y4 : Int32) (H : Heap) (locs : List Loc) (ls : Array Slot) (out : Int32 × Int32 × Int32), f_S_reachedFrom_L7 F σ fu y2 y3 y4 = some out → va_P D vwCl (wE cI cZ q σ ++ tl) H → va_S A s.heap H locs → lv_has ls 5 [(0, .ref (q 2)), (2, .int y2), (3, .int y3), (4, .int y4)] → (∀ (H : Heap) (locs : List Loc) (ls : Array Slot), va_P D vwCl (wE cI cZ q σ ++ tl) H → va_S A s.heap H locs → lv_has ls 5 [(0, .ref (q 2)), (2, .int out.1), (3, .int out.2.1), (4, .int out.2.2)] → W p l e { frames := 4, cells := 0, slots := 0, locals := 90 } s m ([.ref (q 2), .int x1] : List Value).toArray below meth c H locs 0 0 (gQi below D out0 (wE cI cZ q σ ++ tl) A (([.ref (q 2), .int x1] : List Value).toArray) s) (F0 m 38 ls [])) → W p l e { frames := 4, cells := 0, slots := 0, locals := 90 } s m ([.ref (q 2), .int x1] : List Value).toArray below meth c H locs 0 0 (gQi below D out0 (wE cI cZ q σ ++ tl) A (([.ref (q 2), .int x1] : List Value).toArray) s) (F0 m 7 ls []) := by
    intro σ fu
    induction fu with
    | zero => intro y2 y3 y4 H locs ls out h; exact absurd (show (none : Option (Int32 × Int32 × Int32)) = some out from h) (fun z => by cases z)
    | succ fu ih =>
      intro y2 y3 y4 H locs ls out h hP hS hl K
      have h : f_S_reachedFrom_B7 F σ (f_S_reachedFrom_L7 F σ fu) y2 y3 y4 = some out := h
      unfold f_S_reachedFrom_B7 at h
      refine lv_iload_n hx hb d_S_reachedFrom_7 rfl (lv_at hl 2 rfl) ?_
      refine lv_if_eq (tgt := 38) hx hb d_S_reachedFrom_8 (by decide) (fun c => ?_) (fun c => ?_)
      · have h := ifp c h
        cases h
        exact K _ _ ls hP hS (lv_sub hl [0, 1, 2, 3] rfl)
      have h := ifn c h
      refine lv_iload hx hb d_S_reachedFrom_11 (lv_at hl 3 rfl) ?_
      refine lv_bipush (v := 16) hx hb d_S_reachedFrom_13 (by decide) ?_
      refine lv_icmp_ge (tgt := 38) hx hb d_S_reachedFrom_15 (by decide) (fun c => ?_) (fun c => ?_)
      · have h := ifp c h
        cases h
        exact K _ _ ls hP hS (lv_sub hl [0, 1, 2, 3] rfl)
      have h := ifn c h
      refine lv_aload_n hx hb d_S_reachedFrom_18 rfl (lv_at hl 0 rfl) ?_
      refine lv_iload_n hx hb d_S_reachedFrom_19 rfl (lv_at hl 2 rfl) ?_
      obtain ⟨u20, hu20, h⟩ := bnd h
      refine gcall_i (va_runV (As := [.int y3]) (rest := []) ⟨hx, hb, hml, hown, hts⟩ (c_S_heldBy l D cI cZ tL q tl F σ y3 u20 hu20 H.size) (cwV 1 hts (gV w_256 w_257 w_680 w_3 w_258) rfl rfl rfl (by decide +kernel) ⟨Nat.le_of_ble_eq_true rfl, Nat.le_of_ble_eq_true rfl⟩) (gpV (k := 2) (ci := 2) hA hK (hD σ) hE hP hS rfl rfl) rfl rfl hl.1 rfl (lv_room (Nat.le_of_ble_eq_true rfl)) d_S_reachedFrom_20 ⟨Nat.le_of_ble_eq_true rfl, Nat.le_of_ble_eq_true rfl⟩) hA (hD σ) hS (fun H locs hP hS => ?_)
      refine lv_iload_n hx hb d_S_reachedFrom_23 rfl (lv_at hl 1 rfl) ?_
      refine lv_iconst (v := -1) hx hb d_S_reachedFrom_24 (by decide) ?_
      refine lv_ixor hx hb d_S_reachedFrom_25 ?_
      refine lv_iand hx hb d_S_reachedFrom_26 ?_
      refine lv_istore_n (lv' := [(3, .int (u20 &&& (y2 ^^^ (-1 : Int32)))), (0, .ref (q 2)), (2, .int y2), (4, .int y4)]) hx hb d_S_reachedFrom_27 rfl hl (by decide) rfl (fun ls hl => ?_)
      refine lv_iload_n hx hb d_S_reachedFrom_28 rfl (lv_at hl 2 rfl) ?_
      refine lv_iload_n hx hb d_S_reachedFrom_29 rfl (lv_at hl 0 rfl) ?_
      refine lv_ior hx hb d_S_reachedFrom_30 ?_
      refine lv_istore_n (lv' := [(2, .int (y2 ||| (u20 &&& (y2 ^^^ (-1 : Int32))))), (3, .int (u20 &&& (y2 ^^^ (-1 : Int32)))), (0, .ref (q 2)), (4, .int y4)]) hx hb d_S_reachedFrom_31 rfl hl (by decide) rfl (fun ls hl => ?_)
      refine lv_iinc (v := (y4 + (1 : Int32))) (lv' := [(4, .int (y4 + (1 : Int32))), (2, .int (y2 ||| (u20 &&& (y2 ^^^ (-1 : Int32))))), (3, .int (u20 &&& (y2 ^^^ (-1 : Int32)))), (0, .ref (q 2))]) hx hb d_S_reachedFrom_32 hl (k := 3) rfl rfl (by decide) rfl (fun ls hl => ?_)
      refine lv_goto (tgt := 7) hx hb d_S_reachedFrom_35 (by decide) ?_
      exact ih (y2 ||| (u20 &&& (y2 ^^^ (-1 : Int32)))) (u20 &&& (y2 ^^^ (-1 : Int32))) (y4 + (1 : Int32)) _ _ ls out h hP hS (lv_sub hl [3, 1, 2, 0] rfl) K
  unfold f_S_reachedFrom at h
  refine lv_iload_n hx hb d_S_reachedFrom_0 rfl (lv_at hl 1 rfl) ?_
  refine lv_istore_n (lv' := [(2, .int x1), (0, .ref (q 2)), (1, .int x1)]) hx hb d_S_reachedFrom_1 rfl hl (by decide) rfl (fun ls hl => ?_)
  refine lv_iload_n hx hb d_S_reachedFrom_2 rfl (lv_at hl 2 rfl) ?_
  refine lv_istore_n (lv' := [(3, .int x1), (2, .int x1), (0, .ref (q 2)), (1, .int x1)]) hx hb d_S_reachedFrom_3 rfl hl (by decide) rfl (fun ls hl => ?_)
  refine lv_iconst (v := 0) hx hb d_S_reachedFrom_4 (by decide) ?_
  refine lv_istore (lv' := [(4, .int (0 : Int32)), (3, .int x1), (2, .int x1), (0, .ref (q 2)), (1, .int x1)]) hx hb d_S_reachedFrom_5 hl (by decide) rfl (fun ls hl => ?_)
  obtain ⟨u7, hu7, h⟩ := bnd h
  refine L7 σ F x1 x1 (0 : Int32) _ _ ls u7 hu7 hP hS (lv_sub hl [3, 2, 1, 0] rfl) (fun H locs ls hP hS hl => ?_)
  refine lv_iload_n hx hb d_S_reachedFrom_38 rfl (lv_at hl 1 rfl) ?_
  cases h
  exact gret_i hx hb hr hlk hP hS d_S_reachedFrom_39
/-! ===== EscapeOwners$LeastSets.callersOf(I)I ===== -/
def f_S_callersOf_B4 (F : Nat) (σ : St) (y1 : Int32) (rec : Int32 → Int32 → Option (Int32 × Int32)) (y2 : Int32) (y3 : Int32) : Option (Int32 × Int32) := if (8 : Int32) ≤ y3 then (some (y2, y3)) else (Option.bind (f_E_at 8 (σ 10) y3) (fun u15 => Option.bind (f_E_has u15 y1) (fun u19 => if u19 = 0 then (rec y2 (y3 + (1 : Int32))) else (rec (y2 ||| ((1 : Int32) <<< (y3 &&& 31))) (y3 + (1 : Int32))))))
def f_S_callersOf_L4 (F : Nat) (σ : St) (y1 : Int32) : Nat → Int32 → Int32 → Option (Int32 × Int32)
  | 0, _, _ => none
  | fu + 1, y2, y3 => f_S_callersOf_B4 F σ y1 (f_S_callersOf_L4 F σ y1 fu) y2 y3
def f_S_callersOf (F : Nat) (σ : St) (x1 : Int32) : Option (Int32) := Option.bind (f_S_callersOf_L4 F σ x1 F (0 : Int32) (0 : Int32)) (fun u4 => some u4.1)
set_option maxHeartbeats 4000000 in
set_option maxRecDepth 100000 in
theorem c_S_callersOf (l : Launch) (D : va_G) (cI cZ : ClassId) (tL : Nat) (q : Nat → Nat) (tl : va_W) (F : Nat) (σ : St) (x1 : Int32) (out0 : Int32) (h : f_S_callersOf F σ x1 = some out0) : gCi l y_S_callersOf (.code y_S_callersOf b_S_callersOf 4 (some .int) :: TB) { frames := 1, cells := 0, slots := 0, locals := 21 } D [(cI, .int), (cZ, .boolean)] tL [.ref (q 2), .int x1] (wE cI cZ q σ ++ tl) out0 (wE cI cZ q σ ++ tl) := by
  refine gCi_of (cc := b_S_callersOf) (maxL := 4) (ty := .int) (by decide) rfl (Nat.le_of_ble_eq_true rfl) ?_
  intro p e s m below meth c A ls hf hr hlk hA hK hD0 hE hP hl
  obtain ⟨hx, hb, hml, hown, hts⟩ := id hf
  have hts : ∀ w ∈ TB, w.before _ s = true := fun w h => hts w (List.mem_cons_of_mem _ h)
  have hown : s.vm.findClass R_S = some m.cls := hown
  have hl : lv_has ls 4 [(0, .ref (q 2)), (1, .int x1)] := hl
  have hS : va_S A s.heap s.heap [] := va_S.rf
  have hD : ∀ σ' : St, va_D A (wE cI cZ q σ' ++ tl) := fun σ' => va_Dsame hD0 rfl
  have L4 : ∀ (σ : St) (y1 : Int32) (fu : Nat) (y2 : Int32) (y3 : Int32) (H : Heap) (locs : List Loc) (ls : Array Slot) (out : Int32 × Int32), f_S_callersOf_L4 F σ y1 fu y2 y3 = some out → va_P D vwCl (wE cI cZ q σ ++ tl) H → va_S A s.heap H locs → lv_has ls 4 [(0, .ref (q 2)), (1, .int y1), (2, .int y2), (3, .int y3)] → (∀ (H : Heap) (locs : List Loc) (ls : Array Slot), va_P D vwCl (wE cI cZ q σ ++ tl) H → va_S A s.heap H locs → lv_has ls 4 [(0, .ref (q 2)), (1, .int y1), (2, .int out.1), (3, .int out.2)] → W p l e { frames := 1, cells := 0, slots := 0, locals := 21 } s m ([.ref (q 2), .int x1] : List Value).toArray below meth c H locs 0 0 (gQi below D out0 (wE cI cZ q σ ++ tl) A (([.ref (q 2), .int x1] : List Value).toArray) s) (F0 m 37 ls [])) → W p l e { frames := 1, cells := 0, slots := 0, locals := 21 } s m ([.ref (q 2), .int x1] : List Value).toArray below meth c H locs 0 0 (gQi below D out0 (wE cI cZ q σ ++ tl) A (([.ref (q 2), .int x1] : List Value).toArray) s) (F0 m 4 ls []) := by
    intro σ y1 fu
    induction fu with
    | zero => intro y2 y3 H locs ls out h; exact absurd (show (none : Option (Int32 × Int32)) = some out from h) (fun z => by cases z)
    | succ fu ih =>
      intro y2 y3 H locs ls out h hP hS hl K
      have h : f_S_callersOf_B4 F σ y1 (f_S_callersOf_L4 F σ y1 fu) y2 y3 = some out := h
      unfold f_S_callersOf_B4 at h
      refine lv_iload_n hx hb d_S_callersOf_4 rfl (lv_at hl 3 rfl) ?_
      refine lv_bipush (v := 8) hx hb d_S_callersOf_5 (by decide) ?_
      refine lv_icmp_ge (tgt := 37) hx hb d_S_callersOf_7 (by decide) (fun c => ?_) (fun c => ?_)
      · have h := ifp c h
        cases h
        exact K _ _ ls hP hS (lv_sub hl [0, 1, 2, 3] rfl)
      have h := ifn c h
      refine lv_aload_n hx hb d_S_callersOf_10 rfl (lv_at hl 0 rfl) ?_
      refine va_get (D := D) (ci := 2) (v := .ref (q 10)) (C := R_S) (T := T_S) (N := 11) hx hb hts l_S hown hK hP 2 rfl rfl 1 (by decide) (hts _ w_44) (fun _ h9 => h9) rfl d_S_callersOf_11 ?_
      refine lv_iload_n hx hb d_S_callersOf_14 rfl (lv_at hl 3 rfl) ?_
      obtain ⟨u15, hu15, h⟩ := bnd h
      refine gcall_i (va_runSN (As := [.ref (q 10), .int y3]) (rest := []) ⟨hx, hb, hml, hown, hts⟩ (c_E_at_u l D cI cZ tL (wE cI cZ q σ ++ tl) 10 (q 10) 8 (σ 10) rfl y3 u15 hu15 H.size) ⟨va_cnB 2 hts (TB_code w_133) rfl rfl rfl (nm_5 hE) (hts _ w_1) (by decide +kernel) ⟨Nat.le_of_ble_eq_true rfl, Nat.le_of_ble_eq_true rfl⟩, hts _ w_132, trivial⟩ (gpS hA hK (hD σ) hE hP hS) rfl rfl hl.1 rfl (lv_room (Nat.le_of_ble_eq_true rfl)) d_S_callersOf_15 ⟨Nat.le_of_ble_eq_true rfl, Nat.le_of_ble_eq_true rfl⟩) hA (hD σ) hS (fun H locs hP hS => ?_)
      refine lv_iload_n hx hb d_S_callersOf_18 rfl (lv_at hl 1 rfl) ?_
      obtain ⟨u19, hu19, h⟩ := bnd h
      refine gcall_i (va_runSN (As := [.int u15, .int y1]) (rest := []) ⟨hx, hb, hml, hown, hts⟩ (c_E_has l D cI cZ tL (wE cI cZ q σ ++ tl) u15 y1 u19 hu19 H.size) ⟨va_cnB 2 hts (TB_code w_210) rfl rfl rfl (nm_4 hE) (hts _ w_1) (by decide +kernel) ⟨Nat.le_of_ble_eq_true rfl, Nat.le_of_ble_eq_true rfl⟩, hts _ w_209, trivial⟩ (gpS hA hK (hD σ) hE hP hS) rfl rfl hl.1 rfl (lv_room (Nat.le_of_ble_eq_true rfl)) d_S_callersOf_19 ⟨Nat.le_of_ble_eq_true rfl, Nat.le_of_ble_eq_true rfl⟩) hA (hD σ) hS (fun H locs hP hS => ?_)
      refine lv_if_eq (tgt := 31) hx hb d_S_callersOf_22 (by decide) (fun c => ?_) (fun c => ?_)
      · have h := ifp c h
        refine lv_iinc (v := (y3 + (1 : Int32))) (lv' := [(3, .int (y3 + (1 : Int32))), (0, .ref (q 2)), (1, .int y1), (2, .int y2)]) hx hb d_S_callersOf_31 hl (k := 3) rfl rfl (by decide) rfl (fun ls hl => ?_)
        refine lv_goto (tgt := 4) hx hb d_S_callersOf_34 (by decide) ?_
        exact ih y2 (y3 + (1 : Int32)) _ _ ls out h hP hS (lv_sub hl [1, 2, 3, 0] rfl) K
      have h := ifn c h
      refine lv_iload_n hx hb d_S_callersOf_25 rfl (lv_at hl 2 rfl) ?_
      refine lv_iconst (v := 1) hx hb d_S_callersOf_26 (by decide) ?_
      refine lv_iload_n hx hb d_S_callersOf_27 rfl (lv_at hl 3 rfl) ?_
      refine lv_ishl hx hb d_S_callersOf_28 ?_
      refine lv_ior hx hb d_S_callersOf_29 ?_
      refine lv_istore_n (lv' := [(2, .int (y2 ||| ((1 : Int32) <<< (y3 &&& 31)))), (0, .ref (q 2)), (1, .int y1), (3, .int y3)]) hx hb d_S_callersOf_30 rfl hl (by decide) rfl (fun ls hl => ?_)
      refine lv_iinc (v := (y3 + (1 : Int32))) (lv' := [(3, .int (y3 + (1 : Int32))), (2, .int (y2 ||| ((1 : Int32) <<< (y3 &&& 31)))), (0, .ref (q 2)), (1, .int y1)]) hx hb d_S_callersOf_31 hl (k := 3) rfl rfl (by decide) rfl (fun ls hl => ?_)
      refine lv_goto (tgt := 4) hx hb d_S_callersOf_34 (by decide) ?_
      exact ih (y2 ||| ((1 : Int32) <<< (y3 &&& 31))) (y3 + (1 : Int32)) _ _ ls out h hP hS (lv_sub hl [2, 3, 1, 0] rfl) K
  unfold f_S_callersOf at h
  refine lv_iconst (v := 0) hx hb d_S_callersOf_0 (by decide) ?_
  refine lv_istore_n (lv' := [(2, .int (0 : Int32)), (0, .ref (q 2)), (1, .int x1)]) hx hb d_S_callersOf_1 rfl hl (by decide) rfl (fun ls hl => ?_)
  refine lv_iconst (v := 0) hx hb d_S_callersOf_2 (by decide) ?_
  refine lv_istore_n (lv' := [(3, .int (0 : Int32)), (2, .int (0 : Int32)), (0, .ref (q 2)), (1, .int x1)]) hx hb d_S_callersOf_3 rfl hl (by decide) rfl (fun ls hl => ?_)
  obtain ⟨u4, hu4, h⟩ := bnd h
  refine L4 σ x1 F (0 : Int32) (0 : Int32) _ _ ls u4 hu4 hP hS (lv_sub hl [2, 3, 1, 0] rfl) (fun H locs ls hP hS hl => ?_)
  refine lv_iload_n hx hb d_S_callersOf_37 rfl (lv_at hl 2 rfl) ?_
  cases h
  exact gret_i hx hb hr hlk hP hS d_S_callersOf_38
