/-! ===== EscapeOwners$Marks.mark(II)Z ===== -/
def f_K_mark (σ : St) (x1 : Int32) (x2 : Int32) : Option (Int32 × St) := Option.bind (f_E_join 8 (σ 16) x1 ((1 : Int32) <<< (x2 &&& 31))) (fun u8 => lett (sr σ 16 u8.2) (fun s8 => if u8.1 = 0 ∨ u8.1 = 1 then some (u8.1, s8) else none))
set_option maxHeartbeats 4000000 in
set_option maxRecDepth 100000 in
theorem c_K_mark (l : Launch) (D : va_G) (cI cZ : ClassId) (tL : Nat) (q : Nat → Nat) (tl : va_W) (σ : St) (x1 : Int32) (x2 : Int32) (out0 : Int32 × St) (h : f_K_mark σ x1 x2 = some out0) : gCi l y_K_mark (.code y_K_mark b_K_mark 3 (some .boolean) :: TB) { frames := 1, cells := 0, slots := 0, locals := 23 } D [(cI, .int), (cZ, .boolean)] tL [.ref (q 4), .int x1, .int x2] (wE cI cZ q σ ++ tl) out0.1 (wE cI cZ q out0.2 ++ tl) := by
  refine gCi_of (cc := b_K_mark) (maxL := 3) (ty := .boolean) (by decide) rfl (Nat.le_of_ble_eq_true rfl) ?_
  intro p e s m below meth c A ls hf hr hlk hA hK hD0 hE hP hl
  obtain ⟨hx, hb, hml, hown, hts⟩ := id hf
  have hts : ∀ w ∈ TB, w.before _ s = true := fun w h => hts w (List.mem_cons_of_mem _ h)
  have hown : s.vm.findClass R_K = some m.cls := hown
  have hl : lv_has ls 3 [(0, .ref (q 4)), (1, .int x1), (2, .int x2)] := hl
  have hS : va_S A s.heap s.heap [] := va_S.rf
  have hD : ∀ σ' : St, va_D A (wE cI cZ q σ' ++ tl) := fun σ' => va_Dsame hD0 rfl
  unfold f_K_mark at h
  refine lv_aload_n hx hb d_K_mark_0 rfl (lv_at hl 0 rfl) ?_
  refine va_get (D := D) (ci := 4) (v := .ref (q 16)) (C := R_K) (T := T_K) (N := 4) hx hb hts l_K hown hK hP 4 rfl rfl 1 (by decide) (hts _ w_82) (fun _ h9 => h9) rfl d_K_mark_1 ?_
  refine lv_iload_n hx hb d_K_mark_4 rfl (lv_at hl 1 rfl) ?_
  refine lv_iconst (v := 1) hx hb d_K_mark_5 (by decide) ?_
  refine lv_iload_n hx hb d_K_mark_6 rfl (lv_at hl 2 rfl) ?_
  refine lv_ishl hx hb d_K_mark_7 ?_
  obtain ⟨u8, hu8, h⟩ := bnd h
  refine gcall_i (va_runSN (As := [.ref (q 16), .int x1, .int ((1 : Int32) <<< (x2 &&& 31))]) (rest := []) ⟨hx, hb, hml, hown, hts⟩ (c_E_join_u l D cI cZ tL (wE cI cZ q σ ++ tl) 16 (q 16) 8 (σ 16) rfl x1 ((1 : Int32) <<< (x2 &&& 31)) u8 hu8 s.heap.size) ⟨va_cnB 3 hts (TB_code w_204) rfl rfl rfl (nm_12 hE) (hts _ w_1) (by decide +kernel) ⟨Nat.le_of_ble_eq_true rfl, Nat.le_of_ble_eq_true rfl⟩, hts _ w_203, trivial⟩ (gpS hA hK (hD σ) hE hP hS) rfl rfl hl.1 rfl (lv_room (Nat.le_of_ble_eq_true rfl)) d_K_mark_8 ⟨Nat.le_of_ble_eq_true rfl, Nat.le_of_ble_eq_true rfl⟩) hA (hD σ) hS (fun H locs hP hS => ?_)
  have hP : va_P D vwCl (wE cI cZ q (sr σ 16 u8.2) ++ tl) H := hP
  obtain ⟨s8, es8, h⟩ := lettE h
  rw [← es8] at hP
  obtain ⟨c, h⟩ := ifs h
  cases h
  exact gret_z hx hb hr hlk (gz c) hP hS d_K_mark_11
/-! ===== EscapeOwners$Marks.isMarked(II)Z ===== -/
def f_K_isMarked (σ : St) (x1 : Int32) (x2 : Int32) : Option (Int32) := Option.bind (f_E_at 8 (σ 16) x1) (fun u5 => Option.bind (f_E_has u5 x2) (fun u9 => if u9 = 0 ∨ u9 = 1 then some u9 else none))
set_option maxHeartbeats 4000000 in
set_option maxRecDepth 100000 in
theorem c_K_isMarked (l : Launch) (D : va_G) (cI cZ : ClassId) (tL : Nat) (q : Nat → Nat) (tl : va_W) (σ : St) (x1 : Int32) (x2 : Int32) (out0 : Int32) (h : f_K_isMarked σ x1 x2 = some out0) : gCi l y_K_isMarked (.code y_K_isMarked b_K_isMarked 3 (some .boolean) :: TB) { frames := 1, cells := 0, slots := 0, locals := 21 } D [(cI, .int), (cZ, .boolean)] tL [.ref (q 4), .int x1, .int x2] (wE cI cZ q σ ++ tl) out0 (wE cI cZ q σ ++ tl) := by
  refine gCi_of (cc := b_K_isMarked) (maxL := 3) (ty := .boolean) (by decide) rfl (Nat.le_of_ble_eq_true rfl) ?_
  intro p e s m below meth c A ls hf hr hlk hA hK hD0 hE hP hl
  obtain ⟨hx, hb, hml, hown, hts⟩ := id hf
  have hts : ∀ w ∈ TB, w.before _ s = true := fun w h => hts w (List.mem_cons_of_mem _ h)
  have hown : s.vm.findClass R_K = some m.cls := hown
  have hl : lv_has ls 3 [(0, .ref (q 4)), (1, .int x1), (2, .int x2)] := hl
  have hS : va_S A s.heap s.heap [] := va_S.rf
  have hD : ∀ σ' : St, va_D A (wE cI cZ q σ' ++ tl) := fun σ' => va_Dsame hD0 rfl
  unfold f_K_isMarked at h
  refine lv_aload_n hx hb d_K_isMarked_0 rfl (lv_at hl 0 rfl) ?_
  refine va_get (D := D) (ci := 4) (v := .ref (q 16)) (C := R_K) (T := T_K) (N := 4) hx hb hts l_K hown hK hP 4 rfl rfl 1 (by decide) (hts _ w_82) (fun _ h9 => h9) rfl d_K_isMarked_1 ?_
  refine lv_iload_n hx hb d_K_isMarked_4 rfl (lv_at hl 1 rfl) ?_
  obtain ⟨u5, hu5, h⟩ := bnd h
  refine gcall_i (va_runSN (As := [.ref (q 16), .int x1]) (rest := []) ⟨hx, hb, hml, hown, hts⟩ (c_E_at_u l D cI cZ tL (wE cI cZ q σ ++ tl) 16 (q 16) 8 (σ 16) rfl x1 u5 hu5 s.heap.size) ⟨va_cnB 2 hts (TB_code w_133) rfl rfl rfl (nm_13 hE) (hts _ w_1) (by decide +kernel) ⟨Nat.le_of_ble_eq_true rfl, Nat.le_of_ble_eq_true rfl⟩, hts _ w_132, trivial⟩ (gpS hA hK (hD σ) hE hP hS) rfl rfl hl.1 rfl (lv_room (Nat.le_of_ble_eq_true rfl)) d_K_isMarked_5 ⟨Nat.le_of_ble_eq_true rfl, Nat.le_of_ble_eq_true rfl⟩) hA (hD σ) hS (fun H locs hP hS => ?_)
  refine lv_iload_n hx hb d_K_isMarked_8 rfl (lv_at hl 2 rfl) ?_
  obtain ⟨u9, hu9, h⟩ := bnd h
  refine gcall_i (va_runSN (As := [.int u5, .int x2]) (rest := []) ⟨hx, hb, hml, hown, hts⟩ (c_E_has l D cI cZ tL (wE cI cZ q σ ++ tl) u5 x2 u9 hu9 H.size) ⟨va_cnB 2 hts (TB_code w_210) rfl rfl rfl (nm_14 hE) (hts _ w_1) (by decide +kernel) ⟨Nat.le_of_ble_eq_true rfl, Nat.le_of_ble_eq_true rfl⟩, hts _ w_209, trivial⟩ (gpS hA hK (hD σ) hE hP hS) rfl rfl hl.1 rfl (lv_room (Nat.le_of_ble_eq_true rfl)) d_K_isMarked_9 ⟨Nat.le_of_ble_eq_true rfl, Nat.le_of_ble_eq_true rfl⟩) hA (hD σ) hS (fun H locs hP hS => ?_)
  obtain ⟨c, h⟩ := ifs h
  cases h
  exact gret_z hx hb hr hlk (gz c) hP hS d_K_isMarked_12
/-! ===== EscapeOwners$Marks.spreadCall(III)Z ===== -/
def f_K_spreadCall_B6 (F : Nat) (y1 : Int32) (y2 : Int32) (y3 : Int32) (rec : Int32 → Int32 → St → Option (Int32 × Int32 × St)) (y4 : Int32) (y5 : Int32) (σ : St) : Option (Int32 × Int32 × St) := if (3 : Int32) ≤ y5 then (some (y4, y5, σ)) else (Option.bind (f_P_need σ y1 ((1 : Int32) + y5)) (fun u23 => Option.bind (f_K_isMarked σ y2 u23) (fun u26 => if u26 = 0 then (rec y4 (y5 + (1 : Int32)) σ) else (Option.bind (f_K_mark σ y3 y5) (fun u36 => if u36.1 = 0 then (rec y4 (y5 + (1 : Int32)) u36.2) else (rec (1 : Int32) (y5 + (1 : Int32)) u36.2))))))
def f_K_spreadCall_L6 (F : Nat) (y1 : Int32) (y2 : Int32) (y3 : Int32) : Nat → Int32 → Int32 → St → Option (Int32 × Int32 × St)
  | 0, _, _, _ => none
  | fu + 1, y4, y5, σ => f_K_spreadCall_B6 F y1 y2 y3 (f_K_spreadCall_L6 F y1 y2 y3 fu) y4 y5 σ
def f_K_spreadCall (F : Nat) (σ : St) (x1 : Int32) (x2 : Int32) (x3 : Int32) : Option (Int32 × St) := Option.bind (f_K_spreadCall_L6 F x1 x2 x3 F (0 : Int32) (0 : Int32) σ) (fun u6 => Option.bind (f_P_need u6.2.2 x1 (4 : Int32)) (fun u57 => if u57 = (-1 : Int32) then (if u6.1 = 0 ∨ u6.1 = 1 then some (u6.1, u6.2.2) else none) else (Option.bind (f_E_has (u6.2.2 4 2) x3) (fun u73 => if u73 = 0 then (if u6.1 = 0 ∨ u6.1 = 1 then some (u6.1, u6.2.2) else none) else (Option.bind (f_K_mark u6.2.2 x2 u57) (fun u83 => if u83.1 = 0 then (if u6.1 = 0 ∨ u6.1 = 1 then some (u6.1, u83.2) else none) else (some ((1 : Int32), u83.2))))))))
set_option maxHeartbeats 4000000 in
set_option maxRecDepth 100000 in
theorem c_K_spreadCall (l : Launch) (D : va_G) (cI cZ : ClassId) (tL : Nat) (q : Nat → Nat) (tl : va_W) (F : Nat) (σ : St) (x1 : Int32) (x2 : Int32) (x3 : Int32) (out0 : Int32 × St) (h : f_K_spreadCall F σ x1 x2 x3 = some out0) : gCi l y_K_spreadCall (.code y_K_spreadCall b_K_spreadCall 6 (some .boolean) :: TB) { frames := 2, cells := 0, slots := 0, locals := 45 } D [(cI, .int), (cZ, .boolean)] tL [.ref (q 4), .int x1, .int x2, .int x3] (wE cI cZ q σ ++ tl) out0.1 (wE cI cZ q out0.2 ++ tl) := by
  refine gCi_of (cc := b_K_spreadCall) (maxL := 6) (ty := .boolean) (by decide) rfl (Nat.le_of_ble_eq_true rfl) ?_
  intro p e s m below meth c A ls hf hr hlk hA hK hD0 hE hP hl
  obtain ⟨hx, hb, hml, hown, hts⟩ := id hf
  have hts : ∀ w ∈ TB, w.before _ s = true := fun w h => hts w (List.mem_cons_of_mem _ h)
  have hown : s.vm.findClass R_K = some m.cls := hown
  have hl : lv_has ls 6 [(0, .ref (q 4)), (1, .int x1), (2, .int x2), (3, .int x3)] := hl
  have hS : va_S A s.heap s.heap [] := va_S.rf
  have hD : ∀ σ' : St, va_D A (wE cI cZ q σ' ++ tl) := fun σ' => va_Dsame hD0 rfl
  have L6 : ∀ (y1 : Int32) (y2 : Int32) (y3 : Int32) (fu : Nat) (y4 : Int32) (y5 : Int32) (σ : St) (H : Heap) (locs : List Loc) (ls : Array Slot) (out : Int32 × Int32 × St), f_K_spreadCall_L6 F y1 y2 y3 fu y4 y5 σ = some out → va_P D vwCl (wE cI cZ q σ ++ tl) H → va_S A s.heap H locs → lv_has ls 6 [(0, .ref (q 4)), (1, .int y1), (2, .int y2), (3, .int y3), (4, .int y4), (5, .int y5)] → (∀ (H : Heap) (locs : List Loc) (ls : Array Slot), va_P D vwCl (wE cI cZ q out.2.2 ++ tl) H → va_S A s.heap H locs → lv_has ls 6 [(0, .ref (q 4)), (1, .int y1), (2, .int y2), (3, .int y3), (4, .int out.1), (5, .int out.2.1)] → W p l e { frames := 2, cells := 0, slots := 0, locals := 45 } s m ([.ref (q 4), .int x1, .int x2, .int x3] : List Value).toArray below meth c H locs 0 0 (gQi below D out0.1 (wE cI cZ q out0.2 ++ tl) A (([.ref (q 4), .int x1, .int x2, .int x3] : List Value).toArray) s) (F0 m 51 ls [])) → W p l e { frames := 2, cells := 0, slots := 0, locals := 45 } s m ([.ref (q 4), .int x1, .int x2, .int x3] : List Value).toArray below meth c H locs 0 0 (gQi below D out0.1 (wE cI cZ q out0.2 ++ tl) A (([.ref (q 4), .int x1, .int x2, .int x3] : List Value).toArray) s) (F0 m 6 ls []) := by
    intro y1 y2 y3 fu
    induction fu with
    | zero => intro y4 y5 σ H locs ls out h; exact absurd (show (none : Option (Int32 × Int32 × St)) = some out from h) (fun z => by cases z)
    | succ fu ih =>
      intro y4 y5 σ H locs ls out h hP hS hl K
      have h : f_K_spreadCall_B6 F y1 y2 y3 (f_K_spreadCall_L6 F y1 y2 y3 fu) y4 y5 σ = some out := h
      unfold f_K_spreadCall_B6 at h
      refine lv_iload hx hb d_K_spreadCall_6 (lv_at hl 5 rfl) ?_
      refine lv_iconst (v := 3) hx hb d_K_spreadCall_8 (by decide) ?_
      refine lv_icmp_ge (tgt := 51) hx hb d_K_spreadCall_9 (by decide) (fun c => ?_) (fun c => ?_)
      · have h := ifp c h
        cases h
        exact K _ _ ls hP hS (lv_sub hl [0, 1, 2, 3, 4, 5] rfl)
      have h := ifn c h
      refine lv_aload_n hx hb d_K_spreadCall_12 rfl (lv_at hl 0 rfl) ?_
      refine lv_iload_n hx hb d_K_spreadCall_13 rfl (lv_at hl 2 rfl) ?_
      refine lv_aload_n hx hb d_K_spreadCall_14 rfl (lv_at hl 0 rfl) ?_
      refine va_get (D := D) (ci := 4) (v := .ref (q 1)) (C := R_K) (T := T_K) (N := 4) hx hb hts l_K hown hK hP 4 rfl rfl 0 (by decide) (hts _ w_81) (fun _ h9 => h9) rfl d_K_spreadCall_15 ?_
      refine lv_iload_n hx hb d_K_spreadCall_18 rfl (lv_at hl 1 rfl) ?_
      refine lv_iconst (v := 1) hx hb d_K_spreadCall_19 (by decide) ?_
      refine lv_iload hx hb d_K_spreadCall_20 (lv_at hl 5 rfl) ?_
      refine lv_iadd hx hb d_K_spreadCall_22 ?_
      obtain ⟨u23, hu23, h⟩ := bnd h
      refine gcall_i (va_runV (As := [.int y1, .int ((1 : Int32) + y5)]) (rest := [.int y2, .ref (q 4)]) ⟨hx, hb, hml, hown, hts⟩ (c_P_need l D cI cZ tL q tl σ y1 ((1 : Int32) + y5) u23 hu23 H.size) (cwV 2 hts (gV w_396 w_185 w_186 w_2 w_187) rfl rfl rfl (by decide +kernel) ⟨Nat.le_of_ble_eq_true rfl, Nat.le_of_ble_eq_true rfl⟩) (gpV (k := 1) (ci := 1) hA hK (hD σ) hE hP hS rfl rfl) rfl rfl hl.1 rfl (lv_room (Nat.le_of_ble_eq_true rfl)) d_K_spreadCall_23 ⟨Nat.le_of_ble_eq_true rfl, Nat.le_of_ble_eq_true rfl⟩) hA (hD σ) hS (fun H locs hP hS => ?_)
      obtain ⟨u26, hu26, h⟩ := bnd h
      refine gcall_i (va_runV (As := [.int y2, .int u23]) (rest := []) ⟨hx, hb, hml, hown, hts⟩ (c_K_isMarked l D cI cZ tL q tl σ y2 u23 u26 hu26 H.size) (cwV 2 hts (gV w_397 w_398 w_688 w_5 w_399) rfl rfl rfl (by decide +kernel) ⟨Nat.le_of_ble_eq_true rfl, Nat.le_of_ble_eq_true rfl⟩) (gpV (k := 4) (ci := 4) hA hK (hD σ) hE hP hS rfl rfl) rfl rfl hl.1 rfl (lv_room (Nat.le_of_ble_eq_true rfl)) d_K_spreadCall_26 ⟨Nat.le_of_ble_eq_true rfl, Nat.le_of_ble_eq_true rfl⟩) hA (hD σ) hS (fun H locs hP hS => ?_)
      refine lv_if_eq (tgt := 45) hx hb d_K_spreadCall_29 (by decide) (fun c => ?_) (fun c => ?_)
      · have h := ifp c h
        refine lv_iinc (v := (y5 + (1 : Int32))) (lv' := [(5, .int (y5 + (1 : Int32))), (0, .ref (q 4)), (1, .int y1), (2, .int y2), (3, .int y3), (4, .int y4)]) hx hb d_K_spreadCall_45 hl (k := 5) rfl rfl (by decide) rfl (fun ls hl => ?_)
        refine lv_goto (tgt := 6) hx hb d_K_spreadCall_48 (by decide) ?_
        exact ih y4 (y5 + (1 : Int32)) σ _ _ ls out h hP hS (lv_sub hl [1, 2, 3, 4, 5, 0] rfl) K
      have h := ifn c h
      refine lv_aload_n hx hb d_K_spreadCall_32 rfl (lv_at hl 0 rfl) ?_
      refine lv_iload_n hx hb d_K_spreadCall_33 rfl (lv_at hl 3 rfl) ?_
      refine lv_iload hx hb d_K_spreadCall_34 (lv_at hl 5 rfl) ?_
      obtain ⟨u36, hu36, h⟩ := bnd h
      refine gcall_i (va_runV (As := [.int y3, .int y5]) (rest := []) ⟨hx, hb, hml, hown, hts⟩ (c_K_mark l D cI cZ tL q tl σ y3 y5 u36 hu36 H.size) (cwV 2 hts (gV w_384 w_385 w_690 w_5 w_386) rfl rfl rfl (by decide +kernel) ⟨Nat.le_of_ble_eq_true rfl, Nat.le_of_ble_eq_true rfl⟩) (gpV (k := 4) (ci := 4) hA hK (hD σ) hE hP hS rfl rfl) rfl rfl hl.1 rfl (lv_room (Nat.le_of_ble_eq_true rfl)) d_K_spreadCall_36 ⟨Nat.le_of_ble_eq_true rfl, Nat.le_of_ble_eq_true rfl⟩) hA (hD σ) hS (fun H locs hP hS => ?_)
      refine lv_if_eq (tgt := 45) hx hb d_K_spreadCall_39 (by decide) (fun c => ?_) (fun c => ?_)
      · have h := ifp c h
        refine lv_iinc (v := (y5 + (1 : Int32))) (lv' := [(5, .int (y5 + (1 : Int32))), (0, .ref (q 4)), (1, .int y1), (2, .int y2), (3, .int y3), (4, .int y4)]) hx hb d_K_spreadCall_45 hl (k := 5) rfl rfl (by decide) rfl (fun ls hl => ?_)
        refine lv_goto (tgt := 6) hx hb d_K_spreadCall_48 (by decide) ?_
        exact ih y4 (y5 + (1 : Int32)) u36.2 _ _ ls out h hP hS (lv_sub hl [1, 2, 3, 4, 5, 0] rfl) K
      have h := ifn c h
      refine lv_iconst (v := 1) hx hb d_K_spreadCall_42 (by decide) ?_
      refine lv_istore (lv' := [(4, .int (1 : Int32)), (0, .ref (q 4)), (1, .int y1), (2, .int y2), (3, .int y3), (5, .int y5)]) hx hb d_K_spreadCall_43 hl (by decide) rfl (fun ls hl => ?_)
      refine lv_iinc (v := (y5 + (1 : Int32))) (lv' := [(5, .int (y5 + (1 : Int32))), (4, .int (1 : Int32)), (0, .ref (q 4)), (1, .int y1), (2, .int y2), (3, .int y3)]) hx hb d_K_spreadCall_45 hl (k := 5) rfl rfl (by decide) rfl (fun ls hl => ?_)
      refine lv_goto (tgt := 6) hx hb d_K_spreadCall_48 (by decide) ?_
      exact ih (1 : Int32) (y5 + (1 : Int32)) u36.2 _ _ ls out h hP hS (lv_sub hl [2, 3, 4, 5, 1, 0] rfl) K
  unfold f_K_spreadCall at h
  refine lv_iconst (v := 0) hx hb d_K_spreadCall_0 (by decide) ?_
  refine lv_istore (lv' := [(4, .int (0 : Int32)), (0, .ref (q 4)), (1, .int x1), (2, .int x2), (3, .int x3)]) hx hb d_K_spreadCall_1 hl (by decide) rfl (fun ls hl => ?_)
  refine lv_iconst (v := 0) hx hb d_K_spreadCall_3 (by decide) ?_
  refine lv_istore (lv' := [(5, .int (0 : Int32)), (4, .int (0 : Int32)), (0, .ref (q 4)), (1, .int x1), (2, .int x2), (3, .int x3)]) hx hb d_K_spreadCall_4 hl (by decide) rfl (fun ls hl => ?_)
  obtain ⟨u6, hu6, h⟩ := bnd h
  refine L6 x1 x2 x3 F (0 : Int32) (0 : Int32) σ _ _ ls u6 hu6 hP hS (lv_sub hl [2, 3, 4, 5, 1, 0] rfl) (fun H locs ls hP hS hl => ?_)
  refine lv_aload_n hx hb d_K_spreadCall_51 rfl (lv_at hl 0 rfl) ?_
  refine va_get (D := D) (ci := 4) (v := .ref (q 1)) (C := R_K) (T := T_K) (N := 4) hx hb hts l_K hown hK hP 4 rfl rfl 0 (by decide) (hts _ w_81) (fun _ h9 => h9) rfl d_K_spreadCall_52 ?_
  refine lv_iload_n hx hb d_K_spreadCall_55 rfl (lv_at hl 1 rfl) ?_
  refine lv_iconst (v := 4) hx hb d_K_spreadCall_56 (by decide) ?_
  obtain ⟨u57, hu57, h⟩ := bnd h
  refine gcall_i (va_runV (As := [.int x1, .int (4 : Int32)]) (rest := []) ⟨hx, hb, hml, hown, hts⟩ (c_P_need l D cI cZ tL q tl u6.2.2 x1 (4 : Int32) u57 hu57 H.size) (cwV 2 hts (gV w_396 w_185 w_186 w_2 w_187) rfl rfl rfl (by decide +kernel) ⟨Nat.le_of_ble_eq_true rfl, Nat.le_of_ble_eq_true rfl⟩) (gpV (k := 1) (ci := 1) hA hK (hD u6.2.2) hE hP hS rfl rfl) rfl rfl hl.1 rfl (lv_room (Nat.le_of_ble_eq_true rfl)) d_K_spreadCall_57 ⟨Nat.le_of_ble_eq_true rfl, Nat.le_of_ble_eq_true rfl⟩) hA (hD u6.2.2) hS (fun H locs hP hS => ?_)
  refine lv_istore (lv' := [(5, .int u57), (0, .ref (q 4)), (1, .int x1), (2, .int x2), (3, .int x3), (4, .int u6.1)]) hx hb d_K_spreadCall_60 hl (by decide) rfl (fun ls hl => ?_)
  refine lv_iload hx hb d_K_spreadCall_62 (lv_at hl 0 rfl) ?_
  refine lv_iconst (v := -1) hx hb d_K_spreadCall_64 (by decide) ?_
  refine lv_icmp_eq (tgt := 92) hx hb d_K_spreadCall_65 (by decide) (fun c => ?_) (fun c => ?_)
  · have h := ifp c h
    refine lv_iload hx hb d_K_spreadCall_92 (lv_at hl 5 rfl) ?_
    obtain ⟨c, h⟩ := ifs h
    cases h
    exact gret_z hx hb hr hlk (gz c) hP hS d_K_spreadCall_94
  have h := ifn c h
  refine lv_aload_n hx hb d_K_spreadCall_68 rfl (lv_at hl 1 rfl) ?_
  refine va_get (D := D) (ci := 4) (v := .int (u6.2.2 4 2)) (C := R_K) (T := T_K) (N := 4) hx hb hts l_K hown hK hP 4 rfl rfl 2 (by decide) (hts _ w_83) (fun _ h9 => h9) rfl d_K_spreadCall_69 ?_
  refine lv_iload_n hx hb d_K_spreadCall_72 rfl (lv_at hl 4 rfl) ?_
  obtain ⟨u73, hu73, h⟩ := bnd h
  refine gcall_i (va_runSN (As := [.int (u6.2.2 4 2), .int x3]) (rest := []) ⟨hx, hb, hml, hown, hts⟩ (c_E_has l D cI cZ tL (wE cI cZ q u6.2.2 ++ tl) (u6.2.2 4 2) x3 u73 hu73 H.size) ⟨va_cnB 2 hts (TB_code w_210) rfl rfl rfl (nm_14 hE) (hts _ w_1) (by decide +kernel) ⟨Nat.le_of_ble_eq_true rfl, Nat.le_of_ble_eq_true rfl⟩, hts _ w_209, trivial⟩ (gpS hA hK (hD u6.2.2) hE hP hS) rfl rfl hl.1 rfl (lv_room (Nat.le_of_ble_eq_true rfl)) d_K_spreadCall_73 ⟨Nat.le_of_ble_eq_true rfl, Nat.le_of_ble_eq_true rfl⟩) hA (hD u6.2.2) hS (fun H locs hP hS => ?_)
  refine lv_if_eq (tgt := 92) hx hb d_K_spreadCall_76 (by decide) (fun c => ?_) (fun c => ?_)
  · have h := ifp c h
    refine lv_iload hx hb d_K_spreadCall_92 (lv_at hl 5 rfl) ?_
    obtain ⟨c, h⟩ := ifs h
    cases h
    exact gret_z hx hb hr hlk (gz c) hP hS d_K_spreadCall_94
  have h := ifn c h
  refine lv_aload_n hx hb d_K_spreadCall_79 rfl (lv_at hl 1 rfl) ?_
  refine lv_iload_n hx hb d_K_spreadCall_80 rfl (lv_at hl 3 rfl) ?_
  refine lv_iload hx hb d_K_spreadCall_81 (lv_at hl 0 rfl) ?_
  obtain ⟨u83, hu83, h⟩ := bnd h
  refine gcall_i (va_runV (As := [.int x2, .int u57]) (rest := []) ⟨hx, hb, hml, hown, hts⟩ (c_K_mark l D cI cZ tL q tl u6.2.2 x2 u57 u83 hu83 H.size) (cwV 2 hts (gV w_384 w_385 w_690 w_5 w_386) rfl rfl rfl (by decide +kernel) ⟨Nat.le_of_ble_eq_true rfl, Nat.le_of_ble_eq_true rfl⟩) (gpV (k := 4) (ci := 4) hA hK (hD u6.2.2) hE hP hS rfl rfl) rfl rfl hl.1 rfl (lv_room (Nat.le_of_ble_eq_true rfl)) d_K_spreadCall_83 ⟨Nat.le_of_ble_eq_true rfl, Nat.le_of_ble_eq_true rfl⟩) hA (hD u6.2.2) hS (fun H locs hP hS => ?_)
  refine lv_if_eq (tgt := 92) hx hb d_K_spreadCall_86 (by decide) (fun c => ?_) (fun c => ?_)
  · have h := ifp c h
    refine lv_iload hx hb d_K_spreadCall_92 (lv_at hl 5 rfl) ?_
    obtain ⟨c, h⟩ := ifs h
    cases h
    exact gret_z hx hb hr hlk (gz c) hP hS d_K_spreadCall_94
  have h := ifn c h
  refine lv_iconst (v := 1) hx hb d_K_spreadCall_89 (by decide) ?_
  refine lv_istore (lv' := [(4, .int (1 : Int32)), (5, .int u57), (0, .ref (q 4)), (1, .int x1), (2, .int x2), (3, .int x3)]) hx hb d_K_spreadCall_90 hl (by decide) rfl (fun ls hl => ?_)
  refine lv_iload hx hb d_K_spreadCall_92 (lv_at hl 0 rfl) ?_
  cases h
  exact gret_z hx hb hr hlk (gz (Or.inr rfl)) hP hS d_K_spreadCall_94
/-! ===== EscapeOwners$Marks.addGiver(I)Z ===== -/
def f_K_addGiver (σ : St) (x1 : Int32) : Option (Int32 × St) := lett (su σ 4 2 ((σ 4 2) ||| ((1 : Int32) <<< (x1 &&& 31)))) (fun s14 => if (s14 4 2) = (σ 4 2) then (some ((0 : Int32), s14)) else (some ((1 : Int32), s14)))
set_option maxHeartbeats 4000000 in
set_option maxRecDepth 100000 in
theorem c_K_addGiver (l : Launch) (D : va_G) (cI cZ : ClassId) (tL : Nat) (q : Nat → Nat) (tl : va_W) (σ : St) (x1 : Int32) (out0 : Int32 × St) (h : f_K_addGiver σ x1 = some out0) : gCi l y_K_addGiver (.code y_K_addGiver b_K_addGiver 3 (some .boolean) :: TB) { frames := 0, cells := 0, slots := 0, locals := 0 } D [(cI, .int), (cZ, .boolean)] tL [.ref (q 4), .int x1] (wE cI cZ q σ ++ tl) out0.1 (wE cI cZ q out0.2 ++ tl) := by
  refine gCi_of (cc := b_K_addGiver) (maxL := 3) (ty := .boolean) (by decide) rfl (Nat.le_of_ble_eq_true rfl) ?_
  intro p e s m below meth c A ls hf hr hlk hA hK hD0 hE hP hl
  obtain ⟨hx, hb, hml, hown, hts⟩ := id hf
  have hts : ∀ w ∈ TB, w.before _ s = true := fun w h => hts w (List.mem_cons_of_mem _ h)
  have hown : s.vm.findClass R_K = some m.cls := hown
  have hl : lv_has ls 3 [(0, .ref (q 4)), (1, .int x1)] := hl
  have hS : va_S A s.heap s.heap [] := va_S.rf
  have hD : ∀ σ' : St, va_D A (wE cI cZ q σ' ++ tl) := fun σ' => va_Dsame hD0 rfl
  unfold f_K_addGiver at h
  refine lv_aload_n hx hb d_K_addGiver_0 rfl (lv_at hl 0 rfl) ?_
  refine va_get (D := D) (ci := 4) (v := .int (σ 4 2)) (C := R_K) (T := T_K) (N := 4) hx hb hts l_K hown hK hP 4 rfl rfl 2 (by decide) (hts _ w_83) (fun _ h9 => h9) rfl d_K_addGiver_1 ?_
  refine lv_istore_n (lv' := [(2, .int (σ 4 2)), (0, .ref (q 4)), (1, .int x1)]) hx hb d_K_addGiver_4 rfl hl (by decide) rfl (fun ls hl => ?_)
  refine lv_aload_n hx hb d_K_addGiver_5 rfl (lv_at hl 1 rfl) ?_
  refine lv_dup hx hb d_K_addGiver_6 rfl ?_
  refine va_get (D := D) (ci := 4) (v := .int (σ 4 2)) (C := R_K) (T := T_K) (N := 4) hx hb hts l_K hown hK hP 4 rfl rfl 2 (by decide) (hts _ w_83) (fun _ h9 => h9) rfl d_K_addGiver_7 ?_
  refine lv_iconst (v := 1) hx hb d_K_addGiver_10 (by decide) ?_
  refine lv_iload_n hx hb d_K_addGiver_11 rfl (lv_at hl 2 rfl) ?_
  refine lv_ishl hx hb d_K_addGiver_12 ?_
  refine lv_ior hx hb d_K_addGiver_13 ?_
  refine va_put (D := D) (ci := 4) (v := .int ((σ 4 2) ||| ((1 : Int32) <<< (x1 &&& 31)))) (ty := .int) (C := R_K) (T := T_K) (N := 4) hx hb hts l_K t_K t_K_ok n_K hown hK hP (hD σ) hS 4 rfl rfl 2 (by decide) (hts _ w_83) (fun _ h9 => h9) rfl (by decide +kernel) rfl rfl (Nat.le_of_ble_eq_true rfl) d_K_addGiver_14 (fun H locs hP _ hS => ?_)
  have hP : va_P D vwCl (wE cI cZ q (su σ 4 2 ((σ 4 2) ||| ((1 : Int32) <<< (x1 &&& 31)))) ++ tl) H := hP
  obtain ⟨s14, es14, h⟩ := lettE h
  rw [← es14] at hP
  refine lv_aload_n hx hb d_K_addGiver_17 rfl (lv_at hl 1 rfl) ?_
  refine va_get (D := D) (ci := 4) (v := .int (s14 4 2)) (C := R_K) (T := T_K) (N := 4) hx hb hts l_K hown hK hP 4 rfl rfl 2 (by decide) (hts _ w_83) (fun _ h9 => h9) rfl d_K_addGiver_18 ?_
  refine lv_iload_n hx hb d_K_addGiver_21 rfl (lv_at hl 0 rfl) ?_
  refine lv_icmp_eq (tgt := 29) hx hb d_K_addGiver_22 (by decide) (fun c => ?_) (fun c => ?_)
  · have h := ifp c h
    refine lv_iconst (v := 0) hx hb d_K_addGiver_29 (by decide) ?_
    cases h
    exact gret_z hx hb hr hlk (gz (Or.inl rfl)) hP hS d_K_addGiver_30
  have h := ifn c h
  refine lv_iconst (v := 1) hx hb d_K_addGiver_25 (by decide) ?_
  refine lv_goto (tgt := 30) hx hb d_K_addGiver_26 (by decide) ?_
  cases h
  exact gret_z hx hb hr hlk (gz (Or.inr rfl)) hP hS d_K_addGiver_30
/-! ===== EscapeOwners$Marks.spread(I)Z ===== -/
def f_K_spread (F : Nat) (σ : St) (x1 : Int32) : Option (Int32 × St) := Option.bind (f_P_owner σ x1) (fun u5 => Option.bind (f_P_kind σ x1) (fun u14 => if u14 = 1 then (Option.bind (f_P_need σ x1 (1 : Int32)) (fun u60 => Option.bind (f_K_isMarked σ u5 u60) (fun u63 => if u63 = 0 then (some ((0 : Int32), σ)) else (Option.bind (f_P_need σ x1 (0 : Int32)) (fun u77 => Option.bind (f_K_mark σ u5 u77) (fun u80 => if u80.1 = 0 then (some ((0 : Int32), u80.2)) else (some ((1 : Int32), u80.2)))))))) else if u14 = 6 then (Option.bind (f_P_need σ x1 (0 : Int32)) (fun u101 => Option.bind (f_K_spreadCall F σ x1 u5 u101) (fun u104 => if u104.1 = 0 ∨ u104.1 = 1 then some (u104.1, u104.2) else none))) else if u14 = 7 then (Option.bind (f_P_need σ x1 (0 : Int32)) (fun u116 => Option.bind (f_K_isMarked σ u5 u116) (fun u119 => if u119 = 0 then (some ((0 : Int32), σ)) else (Option.bind (f_K_addGiver σ u5) (fun u127 => if u127.1 = 0 then (some ((0 : Int32), u127.2)) else (some ((1 : Int32), u127.2))))))) else (some ((0 : Int32), σ))))
set_option maxHeartbeats 4000000 in
set_option maxRecDepth 100000 in
theorem c_K_spread (l : Launch) (D : va_G) (cI cZ : ClassId) (tL : Nat) (q : Nat → Nat) (tl : va_W) (F : Nat) (σ : St) (x1 : Int32) (out0 : Int32 × St) (h : f_K_spread F σ x1 = some out0) : gCi l y_K_spread (.code y_K_spread b_K_spread 3 (some .boolean) :: TB) { frames := 3, cells := 0, slots := 0, locals := 70 } D [(cI, .int), (cZ, .boolean)] tL [.ref (q 4), .int x1] (wE cI cZ q σ ++ tl) out0.1 (wE cI cZ q out0.2 ++ tl) := by
  refine gCi_of (cc := b_K_spread) (maxL := 3) (ty := .boolean) (by decide) rfl (Nat.le_of_ble_eq_true rfl) ?_
  intro p e s m below meth c A ls hf hr hlk hA hK hD0 hE hP hl
  obtain ⟨hx, hb, hml, hown, hts⟩ := id hf
  have hts : ∀ w ∈ TB, w.before _ s = true := fun w h => hts w (List.mem_cons_of_mem _ h)
  have hown : s.vm.findClass R_K = some m.cls := hown
  have hl : lv_has ls 3 [(0, .ref (q 4)), (1, .int x1)] := hl
  have hS : va_S A s.heap s.heap [] := va_S.rf
  have hD : ∀ σ' : St, va_D A (wE cI cZ q σ' ++ tl) := fun σ' => va_Dsame hD0 rfl
  unfold f_K_spread at h
  refine lv_aload_n hx hb d_K_spread_0 rfl (lv_at hl 0 rfl) ?_
  refine va_get (D := D) (ci := 4) (v := .ref (q 1)) (C := R_K) (T := T_K) (N := 4) hx hb hts l_K hown hK hP 4 rfl rfl 0 (by decide) (hts _ w_81) (fun _ h9 => h9) rfl d_K_spread_1 ?_
  refine lv_iload_n hx hb d_K_spread_4 rfl (lv_at hl 1 rfl) ?_
  obtain ⟨u5, hu5, h⟩ := bnd h
  refine gcall_i (va_runV (As := [.int x1]) (rest := []) ⟨hx, hb, hml, hown, hts⟩ (c_P_owner l D cI cZ tL q tl σ x1 u5 hu5 s.heap.size) (cwV 1 hts (gV w_394 w_176 w_177 w_2 w_178) rfl rfl rfl (by decide +kernel) ⟨Nat.le_of_ble_eq_true rfl, Nat.le_of_ble_eq_true rfl⟩) (gpV (k := 1) (ci := 1) hA hK (hD σ) hE hP hS rfl rfl) rfl rfl hl.1 rfl (lv_room (Nat.le_of_ble_eq_true rfl)) d_K_spread_5 ⟨Nat.le_of_ble_eq_true rfl, Nat.le_of_ble_eq_true rfl⟩) hA (hD σ) hS (fun H locs hP hS => ?_)
  refine lv_istore_n (lv' := [(2, .int u5), (0, .ref (q 4)), (1, .int x1)]) hx hb d_K_spread_8 rfl hl (by decide) rfl (fun ls hl => ?_)
  refine lv_aload_n hx hb d_K_spread_9 rfl (lv_at hl 1 rfl) ?_
  refine va_get (D := D) (ci := 4) (v := .ref (q 1)) (C := R_K) (T := T_K) (N := 4) hx hb hts l_K hown hK hP 4 rfl rfl 0 (by decide) (hts _ w_81) (fun _ h9 => h9) rfl d_K_spread_10 ?_
  refine lv_iload_n hx hb d_K_spread_13 rfl (lv_at hl 2 rfl) ?_
  obtain ⟨u14, hu14, h⟩ := bnd h
  refine gcall_i (va_runV (As := [.int x1]) (rest := []) ⟨hx, hb, hml, hown, hts⟩ (c_P_kind l D cI cZ tL q tl σ x1 u14 hu14 H.size) (cwV 1 hts (gV w_395 w_166 w_167 w_2 w_168) rfl rfl rfl (by decide +kernel) ⟨Nat.le_of_ble_eq_true rfl, Nat.le_of_ble_eq_true rfl⟩) (gpV (k := 1) (ci := 1) hA hK (hD σ) hE hP hS rfl rfl) rfl rfl hl.1 rfl (lv_room (Nat.le_of_ble_eq_true rfl)) d_K_spread_14 ⟨Nat.le_of_ble_eq_true rfl, Nat.le_of_ble_eq_true rfl⟩) hA (hD σ) hS (fun H locs hP hS => ?_)
  by_cases c0 : u14 = 1
  · refine lv_lookup (off := 35) (tgt := 52) hx hb d_K_spread_17 (by decide) (by rw [c0]; decide) (by decide) ?_
    have h := ifp c0 h
    refine lv_aload_n hx hb d_K_spread_52 rfl (lv_at hl 1 rfl) ?_
    refine lv_iload_n hx hb d_K_spread_53 rfl (lv_at hl 0 rfl) ?_
    refine lv_aload_n hx hb d_K_spread_54 rfl (lv_at hl 1 rfl) ?_
    refine va_get (D := D) (ci := 4) (v := .ref (q 1)) (C := R_K) (T := T_K) (N := 4) hx hb hts l_K hown hK hP 4 rfl rfl 0 (by decide) (hts _ w_81) (fun _ h9 => h9) rfl d_K_spread_55 ?_
    refine lv_iload_n hx hb d_K_spread_58 rfl (lv_at hl 2 rfl) ?_
    refine lv_iconst (v := 1) hx hb d_K_spread_59 (by decide) ?_
    obtain ⟨u60, hu60, h⟩ := bnd h
    refine gcall_i (va_runV (As := [.int x1, .int (1 : Int32)]) (rest := [.int u5, .ref (q 4)]) ⟨hx, hb, hml, hown, hts⟩ (c_P_need l D cI cZ tL q tl σ x1 (1 : Int32) u60 hu60 H.size) (cwV 2 hts (gV w_396 w_185 w_186 w_2 w_187) rfl rfl rfl (by decide +kernel) ⟨Nat.le_of_ble_eq_true rfl, Nat.le_of_ble_eq_true rfl⟩) (gpV (k := 1) (ci := 1) hA hK (hD σ) hE hP hS rfl rfl) rfl rfl hl.1 rfl (lv_room (Nat.le_of_ble_eq_true rfl)) d_K_spread_60 ⟨Nat.le_of_ble_eq_true rfl, Nat.le_of_ble_eq_true rfl⟩) hA (hD σ) hS (fun H locs hP hS => ?_)
    obtain ⟨u63, hu63, h⟩ := bnd h
    refine gcall_i (va_runV (As := [.int u5, .int u60]) (rest := []) ⟨hx, hb, hml, hown, hts⟩ (c_K_isMarked l D cI cZ tL q tl σ u5 u60 u63 hu63 H.size) (cwV 2 hts (gV w_397 w_398 w_688 w_5 w_399) rfl rfl rfl (by decide +kernel) ⟨Nat.le_of_ble_eq_true rfl, Nat.le_of_ble_eq_true rfl⟩) (gpV (k := 4) (ci := 4) hA hK (hD σ) hE hP hS rfl rfl) rfl rfl hl.1 rfl (lv_room (Nat.le_of_ble_eq_true rfl)) d_K_spread_63 ⟨Nat.le_of_ble_eq_true rfl, Nat.le_of_ble_eq_true rfl⟩) hA (hD σ) hS (fun H locs hP hS => ?_)
    refine lv_if_eq (tgt := 90) hx hb d_K_spread_66 (by decide) (fun c => ?_) (fun c => ?_)
    · have h := ifp c h
      refine lv_iconst (v := 0) hx hb d_K_spread_90 (by decide) ?_
      cases h
      exact gret_z hx hb hr hlk (gz (Or.inl rfl)) hP hS d_K_spread_91
    have h := ifn c h
    refine lv_aload_n hx hb d_K_spread_69 rfl (lv_at hl 1 rfl) ?_
    refine lv_iload_n hx hb d_K_spread_70 rfl (lv_at hl 0 rfl) ?_
    refine lv_aload_n hx hb d_K_spread_71 rfl (lv_at hl 1 rfl) ?_
    refine va_get (D := D) (ci := 4) (v := .ref (q 1)) (C := R_K) (T := T_K) (N := 4) hx hb hts l_K hown hK hP 4 rfl rfl 0 (by decide) (hts _ w_81) (fun _ h9 => h9) rfl d_K_spread_72 ?_
    refine lv_iload_n hx hb d_K_spread_75 rfl (lv_at hl 2 rfl) ?_
    refine lv_iconst (v := 0) hx hb d_K_spread_76 (by decide) ?_
    obtain ⟨u77, hu77, h⟩ := bnd h
    refine gcall_i (va_runV (As := [.int x1, .int (0 : Int32)]) (rest := [.int u5, .ref (q 4)]) ⟨hx, hb, hml, hown, hts⟩ (c_P_need l D cI cZ tL q tl σ x1 (0 : Int32) u77 hu77 H.size) (cwV 2 hts (gV w_396 w_185 w_186 w_2 w_187) rfl rfl rfl (by decide +kernel) ⟨Nat.le_of_ble_eq_true rfl, Nat.le_of_ble_eq_true rfl⟩) (gpV (k := 1) (ci := 1) hA hK (hD σ) hE hP hS rfl rfl) rfl rfl hl.1 rfl (lv_room (Nat.le_of_ble_eq_true rfl)) d_K_spread_77 ⟨Nat.le_of_ble_eq_true rfl, Nat.le_of_ble_eq_true rfl⟩) hA (hD σ) hS (fun H locs hP hS => ?_)
    obtain ⟨u80, hu80, h⟩ := bnd h
    refine gcall_i (va_runV (As := [.int u5, .int u77]) (rest := []) ⟨hx, hb, hml, hown, hts⟩ (c_K_mark l D cI cZ tL q tl σ u5 u77 u80 hu80 H.size) (cwV 2 hts (gV w_384 w_385 w_690 w_5 w_386) rfl rfl rfl (by decide +kernel) ⟨Nat.le_of_ble_eq_true rfl, Nat.le_of_ble_eq_true rfl⟩) (gpV (k := 4) (ci := 4) hA hK (hD σ) hE hP hS rfl rfl) rfl rfl hl.1 rfl (lv_room (Nat.le_of_ble_eq_true rfl)) d_K_spread_80 ⟨Nat.le_of_ble_eq_true rfl, Nat.le_of_ble_eq_true rfl⟩) hA (hD σ) hS (fun H locs hP hS => ?_)
    refine lv_if_eq (tgt := 90) hx hb d_K_spread_83 (by decide) (fun c => ?_) (fun c => ?_)
    · have h := ifp c h
      refine lv_iconst (v := 0) hx hb d_K_spread_90 (by decide) ?_
      cases h
      exact gret_z hx hb hr hlk (gz (Or.inl rfl)) hP hS d_K_spread_91
    have h := ifn c h
    refine lv_iconst (v := 1) hx hb d_K_spread_86 (by decide) ?_
    refine lv_goto (tgt := 91) hx hb d_K_spread_87 (by decide) ?_
    cases h
    exact gret_z hx hb hr hlk (gz (Or.inr rfl)) hP hS d_K_spread_91
  have h := ifn c0 h
  by_cases c1 : u14 = 6
  · refine lv_lookup (off := 75) (tgt := 92) hx hb d_K_spread_17 (by decide) (by rw [c1]; decide) (by decide) ?_
    have h := ifp c1 h
    refine lv_aload_n hx hb d_K_spread_92 rfl (lv_at hl 1 rfl) ?_
    refine lv_iload_n hx hb d_K_spread_93 rfl (lv_at hl 2 rfl) ?_
    refine lv_iload_n hx hb d_K_spread_94 rfl (lv_at hl 0 rfl) ?_
    refine lv_aload_n hx hb d_K_spread_95 rfl (lv_at hl 1 rfl) ?_
    refine va_get (D := D) (ci := 4) (v := .ref (q 1)) (C := R_K) (T := T_K) (N := 4) hx hb hts l_K hown hK hP 4 rfl rfl 0 (by decide) (hts _ w_81) (fun _ h9 => h9) rfl d_K_spread_96 ?_
    refine lv_iload_n hx hb d_K_spread_99 rfl (lv_at hl 2 rfl) ?_
    refine lv_iconst (v := 0) hx hb d_K_spread_100 (by decide) ?_
    obtain ⟨u101, hu101, h⟩ := bnd h
    refine gcall_i (va_runV (As := [.int x1, .int (0 : Int32)]) (rest := [.int u5, .int x1, .ref (q 4)]) ⟨hx, hb, hml, hown, hts⟩ (c_P_need l D cI cZ tL q tl σ x1 (0 : Int32) u101 hu101 H.size) (cwV 2 hts (gV w_396 w_185 w_186 w_2 w_187) rfl rfl rfl (by decide +kernel) ⟨Nat.le_of_ble_eq_true rfl, Nat.le_of_ble_eq_true rfl⟩) (gpV (k := 1) (ci := 1) hA hK (hD σ) hE hP hS rfl rfl) rfl rfl hl.1 rfl (lv_room (Nat.le_of_ble_eq_true rfl)) d_K_spread_101 ⟨Nat.le_of_ble_eq_true rfl, Nat.le_of_ble_eq_true rfl⟩) hA (hD σ) hS (fun H locs hP hS => ?_)
    obtain ⟨u104, hu104, h⟩ := bnd h
    refine gcall_i (va_runV (As := [.int x1, .int u5, .int u101]) (rest := []) ⟨hx, hb, hml, hown, hts⟩ (c_K_spreadCall l D cI cZ tL q tl F σ x1 u5 u101 u104 hu104 H.size) (cwV 3 hts (gV w_400 w_401 w_692 w_5 w_402) rfl rfl rfl (by decide +kernel) ⟨Nat.le_of_ble_eq_true rfl, Nat.le_of_ble_eq_true rfl⟩) (gpV (k := 4) (ci := 4) hA hK (hD σ) hE hP hS rfl rfl) rfl rfl hl.1 rfl (lv_room (Nat.le_of_ble_eq_true rfl)) d_K_spread_104 ⟨Nat.le_of_ble_eq_true rfl, Nat.le_of_ble_eq_true rfl⟩) hA (hD σ) hS (fun H locs hP hS => ?_)
    obtain ⟨c, h⟩ := ifs h
    cases h
    exact gret_z hx hb hr hlk (gz c) hP hS d_K_spread_107
  have h := ifn c1 h
  by_cases c2 : u14 = 7
  · refine lv_lookup (off := 91) (tgt := 108) hx hb d_K_spread_17 (by decide) (by rw [c2]; decide) (by decide) ?_
    have h := ifp c2 h
    refine lv_aload_n hx hb d_K_spread_108 rfl (lv_at hl 1 rfl) ?_
    refine lv_iload_n hx hb d_K_spread_109 rfl (lv_at hl 0 rfl) ?_
    refine lv_aload_n hx hb d_K_spread_110 rfl (lv_at hl 1 rfl) ?_
    refine va_get (D := D) (ci := 4) (v := .ref (q 1)) (C := R_K) (T := T_K) (N := 4) hx hb hts l_K hown hK hP 4 rfl rfl 0 (by decide) (hts _ w_81) (fun _ h9 => h9) rfl d_K_spread_111 ?_
    refine lv_iload_n hx hb d_K_spread_114 rfl (lv_at hl 2 rfl) ?_
    refine lv_iconst (v := 0) hx hb d_K_spread_115 (by decide) ?_
    obtain ⟨u116, hu116, h⟩ := bnd h
    refine gcall_i (va_runV (As := [.int x1, .int (0 : Int32)]) (rest := [.int u5, .ref (q 4)]) ⟨hx, hb, hml, hown, hts⟩ (c_P_need l D cI cZ tL q tl σ x1 (0 : Int32) u116 hu116 H.size) (cwV 2 hts (gV w_396 w_185 w_186 w_2 w_187) rfl rfl rfl (by decide +kernel) ⟨Nat.le_of_ble_eq_true rfl, Nat.le_of_ble_eq_true rfl⟩) (gpV (k := 1) (ci := 1) hA hK (hD σ) hE hP hS rfl rfl) rfl rfl hl.1 rfl (lv_room (Nat.le_of_ble_eq_true rfl)) d_K_spread_116 ⟨Nat.le_of_ble_eq_true rfl, Nat.le_of_ble_eq_true rfl⟩) hA (hD σ) hS (fun H locs hP hS => ?_)
    obtain ⟨u119, hu119, h⟩ := bnd h
    refine gcall_i (va_runV (As := [.int u5, .int u116]) (rest := []) ⟨hx, hb, hml, hown, hts⟩ (c_K_isMarked l D cI cZ tL q tl σ u5 u116 u119 hu119 H.size) (cwV 2 hts (gV w_397 w_398 w_688 w_5 w_399) rfl rfl rfl (by decide +kernel) ⟨Nat.le_of_ble_eq_true rfl, Nat.le_of_ble_eq_true rfl⟩) (gpV (k := 4) (ci := 4) hA hK (hD σ) hE hP hS rfl rfl) rfl rfl hl.1 rfl (lv_room (Nat.le_of_ble_eq_true rfl)) d_K_spread_119 ⟨Nat.le_of_ble_eq_true rfl, Nat.le_of_ble_eq_true rfl⟩) hA (hD σ) hS (fun H locs hP hS => ?_)
    refine lv_if_eq (tgt := 137) hx hb d_K_spread_122 (by decide) (fun c => ?_) (fun c => ?_)
    · have h := ifp c h
      refine lv_iconst (v := 0) hx hb d_K_spread_137 (by decide) ?_
      cases h
      exact gret_z hx hb hr hlk (gz (Or.inl rfl)) hP hS d_K_spread_138
    have h := ifn c h
    refine lv_aload_n hx hb d_K_spread_125 rfl (lv_at hl 1 rfl) ?_
    refine lv_iload_n hx hb d_K_spread_126 rfl (lv_at hl 0 rfl) ?_
    obtain ⟨u127, hu127, h⟩ := bnd h
    refine gcall_i (va_runV (As := [.int u5]) (rest := []) ⟨hx, hb, hml, hown, hts⟩ (c_K_addGiver l D cI cZ tL q tl σ u5 u127 hu127 H.size) (cwV 1 hts (gV w_403 w_404 w_687 w_5 w_405) rfl rfl rfl (by decide +kernel) ⟨Nat.le_of_ble_eq_true rfl, Nat.le_of_ble_eq_true rfl⟩) (gpV (k := 4) (ci := 4) hA hK (hD σ) hE hP hS rfl rfl) rfl rfl hl.1 rfl (lv_room (Nat.le_of_ble_eq_true rfl)) d_K_spread_127 ⟨Nat.le_of_ble_eq_true rfl, Nat.le_of_ble_eq_true rfl⟩) hA (hD σ) hS (fun H locs hP hS => ?_)
    refine lv_if_eq (tgt := 137) hx hb d_K_spread_130 (by decide) (fun c => ?_) (fun c => ?_)
    · have h := ifp c h
      refine lv_iconst (v := 0) hx hb d_K_spread_137 (by decide) ?_
      cases h
      exact gret_z hx hb hr hlk (gz (Or.inl rfl)) hP hS d_K_spread_138
    have h := ifn c h
    refine lv_iconst (v := 1) hx hb d_K_spread_133 (by decide) ?_
    refine lv_goto (tgt := 138) hx hb d_K_spread_134 (by decide) ?_
    cases h
    exact gret_z hx hb hr hlk (gz (Or.inr rfl)) hP hS d_K_spread_138
  have h := ifn c2 h
  refine lv_lookup (off := 122) (tgt := 139) hx hb d_K_spread_17 (by decide) ((lv_osw (k := 1) c0 (by decide)).trans ((lv_osw (k := 6) c1 (by decide)).trans ((lv_osw (k := 7) c2 (by decide)).trans (rfl)))) (by decide) ?_
  refine lv_iconst (v := 0) hx hb d_K_spread_139 (by decide) ?_
  cases h
  exact gret_z hx hb hr hlk (gz (Or.inl rfl)) hP hS d_K_spread_140
/-! ===== EscapeOwners$Marks.sweepMarks()Z ===== -/
def f_K_sweepMarks_B4 (F : Nat) (rec : Int32 → Int32 → St → Option (Int32 × Int32 × St)) (y1 : Int32) (y2 : Int32) (σ : St) : Option (Int32 × Int32 × St) := if (σ 1 1) ≤ y2 then (some (y1, y2, σ)) else (Option.bind (f_P_isIn σ (σ 4 3) y2) (fun u24 => if u24 = 0 then (rec y1 (y2 + (1 : Int32)) σ) else (Option.bind (f_K_spread F σ y2) (fun u32 => if u32.1 = 0 then (rec y1 (y2 + (1 : Int32)) u32.2) else (rec (1 : Int32) (y2 + (1 : Int32)) u32.2)))))
def f_K_sweepMarks_L4 (F : Nat) : Nat → Int32 → Int32 → St → Option (Int32 × Int32 × St)
  | 0, _, _, _ => none
  | fu + 1, y1, y2, σ => f_K_sweepMarks_B4 F (f_K_sweepMarks_L4 F fu) y1 y2 σ
def f_K_sweepMarks (F : Nat) (σ : St) : Option (Int32 × St) := Option.bind (f_K_sweepMarks_L4 F F (0 : Int32) (0 : Int32) σ) (fun u4 => if u4.1 = 0 ∨ u4.1 = 1 then some (u4.1, u4.2.2) else none)
set_option maxHeartbeats 4000000 in
set_option maxRecDepth 100000 in
theorem c_K_sweepMarks (l : Launch) (D : va_G) (cI cZ : ClassId) (tL : Nat) (q : Nat → Nat) (tl : va_W) (F : Nat) (σ : St) (out0 : Int32 × St) (h : f_K_sweepMarks F σ = some out0) : gCi l y_K_sweepMarks (.code y_K_sweepMarks b_K_sweepMarks 3 (some .boolean) :: TB) { frames := 4, cells := 0, slots := 0, locals := 92 } D [(cI, .int), (cZ, .boolean)] tL [.ref (q 4)] (wE cI cZ q σ ++ tl) out0.1 (wE cI cZ q out0.2 ++ tl) := by
  refine gCi_of (cc := b_K_sweepMarks) (maxL := 3) (ty := .boolean) (by decide) rfl (Nat.le_of_ble_eq_true rfl) ?_
  intro p e s m below meth c A ls hf hr hlk hA hK hD0 hE hP hl
  obtain ⟨hx, hb, hml, hown, hts⟩ := id hf
  have hts : ∀ w ∈ TB, w.before _ s = true := fun w h => hts w (List.mem_cons_of_mem _ h)
  have hown : s.vm.findClass R_K = some m.cls := hown
  have hl : lv_has ls 3 [(0, .ref (q 4))] := hl
  have hS : va_S A s.heap s.heap [] := va_S.rf
  have hD : ∀ σ' : St, va_D A (wE cI cZ q σ' ++ tl) := fun σ' => va_Dsame hD0 rfl
  have L4 : ∀  (fu : Nat) (y1 : Int32) (y2 : Int32) (σ : St) (H : Heap) (locs : List Loc) (ls : Array Slot) (out : Int32 × Int32 × St), f_K_sweepMarks_L4 F fu y1 y2 σ = some out → va_P D vwCl (wE cI cZ q σ ++ tl) H → va_S A s.heap H locs → lv_has ls 3 [(0, .ref (q 4)), (1, .int y1), (2, .int y2)] → (∀ (H : Heap) (locs : List Loc) (ls : Array Slot), va_P D vwCl (wE cI cZ q out.2.2 ++ tl) H → va_S A s.heap H locs → lv_has ls 3 [(0, .ref (q 4)), (1, .int out.1), (2, .int out.2.1)] → W p l e { frames := 4, cells := 0, slots := 0, locals := 92 } s m ([.ref (q 4)] : List Value).toArray below meth c H locs 0 0 (gQi below D out0.1 (wE cI cZ q out0.2 ++ tl) A (([.ref (q 4)] : List Value).toArray) s) (F0 m 46 ls [])) → W p l e { frames := 4, cells := 0, slots := 0, locals := 92 } s m ([.ref (q 4)] : List Value).toArray below meth c H locs 0 0 (gQi below D out0.1 (wE cI cZ q out0.2 ++ tl) A (([.ref (q 4)] : List Value).toArray) s) (F0 m 4 ls []) := by
    intro  fu
    induction fu with
    | zero => intro y1 y2 σ H locs ls out h; exact absurd (show (none : Option (Int32 × Int32 × St)) = some out from h) (fun z => by cases z)
    | succ fu ih =>
      intro y1 y2 σ H locs ls out h hP hS hl K
      have h : f_K_sweepMarks_B4 F (f_K_sweepMarks_L4 F fu) y1 y2 σ = some out := h
      unfold f_K_sweepMarks_B4 at h
      refine lv_iload_n hx hb d_K_sweepMarks_4 rfl (lv_at hl 2 rfl) ?_
      refine lv_aload_n hx hb d_K_sweepMarks_5 rfl (lv_at hl 0 rfl) ?_
      refine va_get (D := D) (ci := 4) (v := .ref (q 1)) (C := R_K) (T := T_K) (N := 4) hx hb hts l_K hown hK hP 4 rfl rfl 0 (by decide) (hts _ w_81) (fun _ h9 => h9) rfl d_K_sweepMarks_6 ?_
      refine va_getN (D := D) (ci := 1) (v := .int (σ 1 1)) (C := R_P) (T := T_P) (N := 8) hx hb hts l_P hown hK hP 1 rfl rfl 1 (by decide) (va_Nw.use rfl (nf_2 hE)) (fun _ h9 => h9) rfl d_K_sweepMarks_9 ?_
      refine lv_icmp_ge (tgt := 46) hx hb d_K_sweepMarks_12 (by decide) (fun c => ?_) (fun c => ?_)
      · have h := ifp c h
        cases h
        exact K _ _ ls hP hS (lv_sub hl [0, 1, 2] rfl)
      have h := ifn c h
      refine lv_aload_n hx hb d_K_sweepMarks_15 rfl (lv_at hl 0 rfl) ?_
      refine va_get (D := D) (ci := 4) (v := .ref (q 1)) (C := R_K) (T := T_K) (N := 4) hx hb hts l_K hown hK hP 4 rfl rfl 0 (by decide) (hts _ w_81) (fun _ h9 => h9) rfl d_K_sweepMarks_16 ?_
      refine lv_aload_n hx hb d_K_sweepMarks_19 rfl (lv_at hl 0 rfl) ?_
      refine va_get (D := D) (ci := 4) (v := .int (σ 4 3)) (C := R_K) (T := T_K) (N := 4) hx hb hts l_K hown hK hP 4 rfl rfl 3 (by decide) (hts _ w_84) (fun _ h9 => h9) rfl d_K_sweepMarks_20 ?_
      refine lv_iload_n hx hb d_K_sweepMarks_23 rfl (lv_at hl 2 rfl) ?_
      obtain ⟨u24, hu24, h⟩ := bnd h
      refine gcall_i (va_runV (As := [.int (σ 4 3), .int y2]) (rest := []) ⟨hx, hb, hml, hown, hts⟩ (c_P_isIn l D cI cZ tL q tl σ (σ 4 3) y2 u24 hu24 H.size) (cwV 2 hts (gV w_390 w_215 w_216 w_2 w_217) rfl rfl rfl (by decide +kernel) ⟨Nat.le_of_ble_eq_true rfl, Nat.le_of_ble_eq_true rfl⟩) (gpV (k := 1) (ci := 1) hA hK (hD σ) hE hP hS rfl rfl) rfl rfl hl.1 rfl (lv_room (Nat.le_of_ble_eq_true rfl)) d_K_sweepMarks_24 ⟨Nat.le_of_ble_eq_true rfl, Nat.le_of_ble_eq_true rfl⟩) hA (hD σ) hS (fun H locs hP hS => ?_)
      refine lv_if_eq (tgt := 40) hx hb d_K_sweepMarks_27 (by decide) (fun c => ?_) (fun c => ?_)
      · have h := ifp c h
        refine lv_iinc (v := (y2 + (1 : Int32))) (lv' := [(2, .int (y2 + (1 : Int32))), (0, .ref (q 4)), (1, .int y1)]) hx hb d_K_sweepMarks_40 hl (k := 2) rfl rfl (by decide) rfl (fun ls hl => ?_)
        refine lv_goto (tgt := 4) hx hb d_K_sweepMarks_43 (by decide) ?_
        exact ih y1 (y2 + (1 : Int32)) σ _ _ ls out h hP hS (lv_sub hl [1, 2, 0] rfl) K
      have h := ifn c h
      refine lv_aload_n hx hb d_K_sweepMarks_30 rfl (lv_at hl 0 rfl) ?_
      refine lv_iload_n hx hb d_K_sweepMarks_31 rfl (lv_at hl 2 rfl) ?_
      obtain ⟨u32, hu32, h⟩ := bnd h
      refine gcall_i (va_runV (As := [.int y2]) (rest := []) ⟨hx, hb, hml, hown, hts⟩ (c_K_spread l D cI cZ tL q tl F σ y2 u32 hu32 H.size) (cwV 1 hts (gV w_391 w_392 w_691 w_5 w_393) rfl rfl rfl (by decide +kernel) ⟨Nat.le_of_ble_eq_true rfl, Nat.le_of_ble_eq_true rfl⟩) (gpV (k := 4) (ci := 4) hA hK (hD σ) hE hP hS rfl rfl) rfl rfl hl.1 rfl (lv_room (Nat.le_of_ble_eq_true rfl)) d_K_sweepMarks_32 ⟨Nat.le_of_ble_eq_true rfl, Nat.le_of_ble_eq_true rfl⟩) hA (hD σ) hS (fun H locs hP hS => ?_)
      refine lv_if_eq (tgt := 40) hx hb d_K_sweepMarks_35 (by decide) (fun c => ?_) (fun c => ?_)
      · have h := ifp c h
        refine lv_iinc (v := (y2 + (1 : Int32))) (lv' := [(2, .int (y2 + (1 : Int32))), (0, .ref (q 4)), (1, .int y1)]) hx hb d_K_sweepMarks_40 hl (k := 2) rfl rfl (by decide) rfl (fun ls hl => ?_)
        refine lv_goto (tgt := 4) hx hb d_K_sweepMarks_43 (by decide) ?_
        exact ih y1 (y2 + (1 : Int32)) u32.2 _ _ ls out h hP hS (lv_sub hl [1, 2, 0] rfl) K
      have h := ifn c h
      refine lv_iconst (v := 1) hx hb d_K_sweepMarks_38 (by decide) ?_
      refine lv_istore_n (lv' := [(1, .int (1 : Int32)), (0, .ref (q 4)), (2, .int y2)]) hx hb d_K_sweepMarks_39 rfl hl (by decide) rfl (fun ls hl => ?_)
      refine lv_iinc (v := (y2 + (1 : Int32))) (lv' := [(2, .int (y2 + (1 : Int32))), (1, .int (1 : Int32)), (0, .ref (q 4))]) hx hb d_K_sweepMarks_40 hl (k := 2) rfl rfl (by decide) rfl (fun ls hl => ?_)
      refine lv_goto (tgt := 4) hx hb d_K_sweepMarks_43 (by decide) ?_
      exact ih (1 : Int32) (y2 + (1 : Int32)) u32.2 _ _ ls out h hP hS (lv_sub hl [2, 1, 0] rfl) K
  unfold f_K_sweepMarks at h
  refine lv_iconst (v := 0) hx hb d_K_sweepMarks_0 (by decide) ?_
  refine lv_istore_n (lv' := [(1, .int (0 : Int32)), (0, .ref (q 4))]) hx hb d_K_sweepMarks_1 rfl hl (by decide) rfl (fun ls hl => ?_)
  refine lv_iconst (v := 0) hx hb d_K_sweepMarks_2 (by decide) ?_
  refine lv_istore_n (lv' := [(2, .int (0 : Int32)), (1, .int (0 : Int32)), (0, .ref (q 4))]) hx hb d_K_sweepMarks_3 rfl hl (by decide) rfl (fun ls hl => ?_)
  obtain ⟨u4, hu4, h⟩ := bnd h
  refine L4  F (0 : Int32) (0 : Int32) σ _ _ ls u4 hu4 hP hS (lv_sub hl [2, 1, 0] rfl) (fun H locs ls hP hS hl => ?_)
  refine lv_iload_n hx hb d_K_sweepMarks_46 rfl (lv_at hl 1 rfl) ?_
  obtain ⟨c, h⟩ := ifs h
  cases h
  exact gret_z hx hb hr hlk (gz c) hP hS d_K_sweepMarks_47
/-! ===== EscapeOwners$Marks.spreadFrom(III)V ===== -/
def f_K_spreadFrom_B31 (F : Nat) (rec : Int32 → Int32 → St → Option (Int32 × Int32 × St)) (y4 : Int32) (y5 : Int32) (σ : St) : Option (Int32 × Int32 × St) := if y4 = 0 then (some (y4, y5, σ)) else (if (72 : Int32) < y5 then (some (y4, y5, σ)) else (Option.bind (f_K_sweepMarks F σ) (fun u44 => rec u44.1 (y5 + (1 : Int32)) u44.2)))
def f_K_spreadFrom_L31 (F : Nat) : Nat → Int32 → Int32 → St → Option (Int32 × Int32 × St)
  | 0, _, _, _ => none
  | fu + 1, y4, y5, σ => f_K_spreadFrom_B31 F (f_K_spreadFrom_L31 F fu) y4 y5 σ
def f_K_spreadFrom (F : Nat) (σ : St) (x1 : Int32) (x2 : Int32) (x3 : Int32) : Option (St) := lett (su σ 4 3 x3) (fun s2 => lett (su s2 4 2 (0 : Int32)) (fun s7 => Option.bind (f_E_fill F 8 (s7 16) (0 : Int32)) (fun u15 => lett (sr s7 16 u15) (fun s15 => Option.bind (f_K_mark s15 x1 x2) (fun u21 => Option.bind (f_K_spreadFrom_L31 F F (1 : Int32) (0 : Int32) u21.2) (fun u31 => some u31.2.2))))))
set_option maxHeartbeats 4000000 in
set_option maxRecDepth 100000 in
theorem c_K_spreadFrom (l : Launch) (D : va_G) (cI cZ : ClassId) (tL : Nat) (q : Nat → Nat) (tl : va_W) (F : Nat) (σ : St) (x1 : Int32) (x2 : Int32) (x3 : Int32) (out0 : St) (h : f_K_spreadFrom F σ x1 x2 x3 = some out0) : gCv l y_K_spreadFrom (.code y_K_spreadFrom b_K_spreadFrom 6 none :: TB) { frames := 5, cells := 0, slots := 0, locals := 114 } D [(cI, .int), (cZ, .boolean)] tL [.ref (q 4), .int x1, .int x2, .int x3] (wE cI cZ q σ ++ tl) (wE cI cZ q out0 ++ tl) := by
  refine gCv_of (cc := b_K_spreadFrom) (maxL := 6)  (by decide) rfl (Nat.le_of_ble_eq_true rfl) ?_
  intro p e s m below meth c A ls hf hr hlk hA hK hD0 hE hP hl
  obtain ⟨hx, hb, hml, hown, hts⟩ := id hf
  have hts : ∀ w ∈ TB, w.before _ s = true := fun w h => hts w (List.mem_cons_of_mem _ h)
  have hown : s.vm.findClass R_K = some m.cls := hown
  have hl : lv_has ls 6 [(0, .ref (q 4)), (1, .int x1), (2, .int x2), (3, .int x3)] := hl
  have hS : va_S A s.heap s.heap [] := va_S.rf
  have hD : ∀ σ' : St, va_D A (wE cI cZ q σ' ++ tl) := fun σ' => va_Dsame hD0 rfl
  have L31 : ∀  (fu : Nat) (y4 : Int32) (y5 : Int32) (σ : St) (H : Heap) (locs : List Loc) (ls : Array Slot) (out : Int32 × Int32 × St), f_K_spreadFrom_L31 F fu y4 y5 σ = some out → va_P D vwCl (wE cI cZ q σ ++ tl) H → va_S A s.heap H locs → lv_has ls 6 [(0, .ref (q 4)), (4, .int y4), (5, .int y5)] → (∀ (H : Heap) (locs : List Loc) (ls : Array Slot), va_P D vwCl (wE cI cZ q out.2.2 ++ tl) H → va_S A s.heap H locs → lv_has ls 6 [(0, .ref (q 4)), (4, .int out.1), (5, .int out.2.1)] → W p l e { frames := 5, cells := 0, slots := 0, locals := 114 } s m ([.ref (q 4), .int x1, .int x2, .int x3] : List Value).toArray below meth c H locs 0 0 (gQv below D (wE cI cZ q out0 ++ tl) A (([.ref (q 4), .int x1, .int x2, .int x3] : List Value).toArray) s) (F0 m 55 ls [])) → W p l e { frames := 5, cells := 0, slots := 0, locals := 114 } s m ([.ref (q 4), .int x1, .int x2, .int x3] : List Value).toArray below meth c H locs 0 0 (gQv below D (wE cI cZ q out0 ++ tl) A (([.ref (q 4), .int x1, .int x2, .int x3] : List Value).toArray) s) (F0 m 31 ls []) := by
    intro  fu
    induction fu with
    | zero => intro y4 y5 σ H locs ls out h; exact absurd (show (none : Option (Int32 × Int32 × St)) = some out from h) (fun z => by cases z)
    | succ fu ih =>
      intro y4 y5 σ H locs ls out h hP hS hl K
      have h : f_K_spreadFrom_B31 F (f_K_spreadFrom_L31 F fu) y4 y5 σ = some out := h
      unfold f_K_spreadFrom_B31 at h
      refine lv_iload hx hb d_K_spreadFrom_31 (lv_at hl 1 rfl) ?_
      refine lv_if_eq (tgt := 55) hx hb d_K_spreadFrom_33 (by decide) (fun c => ?_) (fun c => ?_)
      · have h := ifp c h
        cases h
        exact K _ _ ls hP hS (lv_sub hl [0, 1, 2] rfl)
      have h := ifn c h
      refine lv_iload hx hb d_K_spreadFrom_36 (lv_at hl 2 rfl) ?_
      refine lv_bipush (v := 72) hx hb d_K_spreadFrom_38 (by decide) ?_
      refine lv_icmp_gt (tgt := 55) hx hb d_K_spreadFrom_40 (by decide) (fun c => ?_) (fun c => ?_)
      · have h := ifp c h
        cases h
        exact K _ _ ls hP hS (lv_sub hl [0, 1, 2] rfl)
      have h := ifn c h
      refine lv_aload_n hx hb d_K_spreadFrom_43 rfl (lv_at hl 0 rfl) ?_
      obtain ⟨u44, hu44, h⟩ := bnd h
      refine gcall_i (va_runV (As := []) (rest := []) ⟨hx, hb, hml, hown, hts⟩ (c_K_sweepMarks l D cI cZ tL q tl F σ  u44 hu44 H.size) (cwV 0 hts (gV w_387 w_388 w_693 w_5 w_389) rfl rfl rfl (by decide +kernel) ⟨Nat.le_of_ble_eq_true rfl, Nat.le_of_ble_eq_true rfl⟩) (gpV (k := 4) (ci := 4) hA hK (hD σ) hE hP hS rfl rfl) rfl rfl hl.1 rfl (lv_room (Nat.le_of_ble_eq_true rfl)) d_K_spreadFrom_44 ⟨Nat.le_of_ble_eq_true rfl, Nat.le_of_ble_eq_true rfl⟩) hA (hD σ) hS (fun H locs hP hS => ?_)
      refine lv_istore (lv' := [(4, .int u44.1), (0, .ref (q 4)), (5, .int y5)]) hx hb d_K_spreadFrom_47 hl (by decide) rfl (fun ls hl => ?_)
      refine lv_iinc (v := (y5 + (1 : Int32))) (lv' := [(5, .int (y5 + (1 : Int32))), (4, .int u44.1), (0, .ref (q 4))]) hx hb d_K_spreadFrom_49 hl (k := 2) rfl rfl (by decide) rfl (fun ls hl => ?_)
      refine lv_goto (tgt := 31) hx hb d_K_spreadFrom_52 (by decide) ?_
      exact ih u44.1 (y5 + (1 : Int32)) u44.2 _ _ ls out h hP hS (lv_sub hl [2, 1, 0] rfl) K
  unfold f_K_spreadFrom at h
  refine lv_aload_n hx hb d_K_spreadFrom_0 rfl (lv_at hl 0 rfl) ?_
  refine lv_iload_n hx hb d_K_spreadFrom_1 rfl (lv_at hl 3 rfl) ?_
  refine va_put (D := D) (ci := 4) (v := .int x3) (ty := .int) (C := R_K) (T := T_K) (N := 4) hx hb hts l_K t_K t_K_ok n_K hown hK hP (hD σ) hS 4 rfl rfl 3 (by decide) (hts _ w_84) (fun _ h9 => h9) rfl (by decide +kernel) rfl rfl (Nat.le_of_ble_eq_true rfl) d_K_spreadFrom_2 (fun H locs hP _ hS => ?_)
  have hP : va_P D vwCl (wE cI cZ q (su σ 4 3 x3) ++ tl) H := hP
  obtain ⟨s2, es2, h⟩ := lettE h
  rw [← es2] at hP
  refine lv_aload_n hx hb d_K_spreadFrom_5 rfl (lv_at hl 0 rfl) ?_
  refine lv_iconst (v := 0) hx hb d_K_spreadFrom_6 (by decide) ?_
  refine va_put (D := D) (ci := 4) (v := .int (0 : Int32)) (ty := .int) (C := R_K) (T := T_K) (N := 4) hx hb hts l_K t_K t_K_ok n_K hown hK hP (hD s2) hS 4 rfl rfl 2 (by decide) (hts _ w_83) (fun _ h9 => h9) rfl (by decide +kernel) rfl rfl (Nat.le_of_ble_eq_true rfl) d_K_spreadFrom_7 (fun H locs hP _ hS => ?_)
  have hP : va_P D vwCl (wE cI cZ q (su s2 4 2 (0 : Int32)) ++ tl) H := hP
  obtain ⟨s7, es7, h⟩ := lettE h
  rw [← es7] at hP
  refine lv_aload_n hx hb d_K_spreadFrom_10 rfl (lv_at hl 0 rfl) ?_
  refine va_get (D := D) (ci := 4) (v := .ref (q 16)) (C := R_K) (T := T_K) (N := 4) hx hb hts l_K hown hK hP 4 rfl rfl 1 (by decide) (hts _ w_82) (fun _ h9 => h9) rfl d_K_spreadFrom_11 ?_
  refine lv_iconst (v := 0) hx hb d_K_spreadFrom_14 (by decide) ?_
  obtain ⟨u15, hu15, h⟩ := bnd h
  refine gcall_v (va_runSN (As := [.ref (q 16), .int (0 : Int32)]) (rest := []) ⟨hx, hb, hml, hown, hts⟩ (c_E_fill_u l D cI cZ tL (wE cI cZ q s7 ++ tl) 16 (q 16) 8 F (s7 16) rfl (0 : Int32) u15 hu15 H.size) ⟨va_cnB 2 hts (TB_code w_196) rfl rfl rfl (nm_11 hE) (hts _ w_1) (by decide +kernel) ⟨Nat.le_of_ble_eq_true rfl, Nat.le_of_ble_eq_true rfl⟩, hts _ w_195, trivial⟩ (gpS hA hK (hD s7) hE hP hS) rfl rfl hl.1 rfl (lv_room (Nat.le_of_ble_eq_true rfl)) d_K_spreadFrom_15 ⟨Nat.le_of_ble_eq_true rfl, Nat.le_of_ble_eq_true rfl⟩) hA (hD s7) hS (fun H locs hP hS => ?_)
  have hP : va_P D vwCl (wE cI cZ q (sr s7 16 u15) ++ tl) H := hP
  obtain ⟨s15, es15, h⟩ := lettE h
  rw [← es15] at hP
  refine lv_aload_n hx hb d_K_spreadFrom_18 rfl (lv_at hl 0 rfl) ?_
  refine lv_iload_n hx hb d_K_spreadFrom_19 rfl (lv_at hl 1 rfl) ?_
  refine lv_iload_n hx hb d_K_spreadFrom_20 rfl (lv_at hl 2 rfl) ?_
  obtain ⟨u21, hu21, h⟩ := bnd h
  refine gcall_i (va_runV (As := [.int x1, .int x2]) (rest := []) ⟨hx, hb, hml, hown, hts⟩ (c_K_mark l D cI cZ tL q tl s15 x1 x2 u21 hu21 H.size) (cwV 2 hts (gV w_384 w_385 w_690 w_5 w_386) rfl rfl rfl (by decide +kernel) ⟨Nat.le_of_ble_eq_true rfl, Nat.le_of_ble_eq_true rfl⟩) (gpV (k := 4) (ci := 4) hA hK (hD s15) hE hP hS rfl rfl) rfl rfl hl.1 rfl (lv_room (Nat.le_of_ble_eq_true rfl)) d_K_spreadFrom_21 ⟨Nat.le_of_ble_eq_true rfl, Nat.le_of_ble_eq_true rfl⟩) hA (hD s15) hS (fun H locs hP hS => ?_)
  refine lv_pop hx hb d_K_spreadFrom_24 rfl ?_
  refine lv_iconst (v := 1) hx hb d_K_spreadFrom_25 (by decide) ?_
  refine lv_istore (lv' := [(4, .int (1 : Int32)), (0, .ref (q 4)), (1, .int x1), (2, .int x2), (3, .int x3)]) hx hb d_K_spreadFrom_26 hl (by decide) rfl (fun ls hl => ?_)
  refine lv_iconst (v := 0) hx hb d_K_spreadFrom_28 (by decide) ?_
  refine lv_istore (lv' := [(5, .int (0 : Int32)), (4, .int (1 : Int32)), (0, .ref (q 4)), (1, .int x1), (2, .int x2), (3, .int x3)]) hx hb d_K_spreadFrom_29 hl (by decide) rfl (fun ls hl => ?_)
  obtain ⟨u31, hu31, h⟩ := bnd h
  refine L31  F (1 : Int32) (0 : Int32) u21.2 _ _ ls u31 hu31 hP hS (lv_sub hl [2, 1, 0] rfl) (fun H locs ls hP hS hl => ?_)
  cases h
  exact gret_v hx hb hr hlk hP hS d_K_spreadFrom_55
/-! ===== EscapeOwners$Marks.keptName(I)I ===== -/
def f_K_keptName (σ : St) (x1 : Int32) : Option (Int32) := Option.bind (f_P_kind σ x1) (fun u5 => if u5 = 3 then (Option.bind (f_P_need σ x1 (2 : Int32)) (fun u58 => some u58)) else if u5 = 4 then (some (-1 : Int32)) else if u5 = 5 then (Option.bind (f_P_need σ x1 (1 : Int32)) (fun u68 => some u68)) else if u5 = 6 then (some (-1 : Int32)) else if u5 = 7 then (some (-1 : Int32)) else if u5 = 8 then (Option.bind (f_P_need σ x1 (0 : Int32)) (fun u78 => some u78)) else if u5 = 9 then (Option.bind (f_P_need σ x1 (0 : Int32)) (fun u78 => some u78)) else (some (-1 : Int32)))
set_option maxHeartbeats 4000000 in
set_option maxRecDepth 100000 in
theorem c_K_keptName (l : Launch) (D : va_G) (cI cZ : ClassId) (tL : Nat) (q : Nat → Nat) (tl : va_W) (σ : St) (x1 : Int32) (out0 : Int32) (h : f_K_keptName σ x1 = some out0) : gCi l y_K_keptName (.code y_K_keptName b_K_keptName 2 (some .int) :: TB) { frames := 2, cells := 0, slots := 0, locals := 43 } D [(cI, .int), (cZ, .boolean)] tL [.ref (q 4), .int x1] (wE cI cZ q σ ++ tl) out0 (wE cI cZ q σ ++ tl) := by
  refine gCi_of (cc := b_K_keptName) (maxL := 2) (ty := .int) (by decide) rfl (Nat.le_of_ble_eq_true rfl) ?_
  intro p e s m below meth c A ls hf hr hlk hA hK hD0 hE hP hl
  obtain ⟨hx, hb, hml, hown, hts⟩ := id hf
  have hts : ∀ w ∈ TB, w.before _ s = true := fun w h => hts w (List.mem_cons_of_mem _ h)
  have hown : s.vm.findClass R_K = some m.cls := hown
  have hl : lv_has ls 2 [(0, .ref (q 4)), (1, .int x1)] := hl
  have hS : va_S A s.heap s.heap [] := va_S.rf
  have hD : ∀ σ' : St, va_D A (wE cI cZ q σ' ++ tl) := fun σ' => va_Dsame hD0 rfl
  unfold f_K_keptName at h
  refine lv_aload_n hx hb d_K_keptName_0 rfl (lv_at hl 0 rfl) ?_
  refine va_get (D := D) (ci := 4) (v := .ref (q 1)) (C := R_K) (T := T_K) (N := 4) hx hb hts l_K hown hK hP 4 rfl rfl 0 (by decide) (hts _ w_81) (fun _ h9 => h9) rfl d_K_keptName_1 ?_
  refine lv_iload_n hx hb d_K_keptName_4 rfl (lv_at hl 1 rfl) ?_
  obtain ⟨u5, hu5, h⟩ := bnd h
  refine gcall_i (va_runV (As := [.int x1]) (rest := []) ⟨hx, hb, hml, hown, hts⟩ (c_P_kind l D cI cZ tL q tl σ x1 u5 hu5 s.heap.size) (cwV 1 hts (gV w_395 w_166 w_167 w_2 w_168) rfl rfl rfl (by decide +kernel) ⟨Nat.le_of_ble_eq_true rfl, Nat.le_of_ble_eq_true rfl⟩) (gpV (k := 1) (ci := 1) hA hK (hD σ) hE hP hS rfl rfl) rfl rfl hl.1 rfl (lv_room (Nat.le_of_ble_eq_true rfl)) d_K_keptName_5 ⟨Nat.le_of_ble_eq_true rfl, Nat.le_of_ble_eq_true rfl⟩) hA (hD σ) hS (fun H locs hP hS => ?_)
  by_cases c0 : u5 = 3
  · refine lv_tableIn (tgt := 52) hx hb d_K_keptName_8 (by rw [c0]; decide) (by rw [c0]; decide) (by rw [c0]; rfl) (by decide) ?_
    have h := ifp c0 h
    refine lv_aload_n hx hb d_K_keptName_52 rfl (lv_at hl 0 rfl) ?_
    refine va_get (D := D) (ci := 4) (v := .ref (q 1)) (C := R_K) (T := T_K) (N := 4) hx hb hts l_K hown hK hP 4 rfl rfl 0 (by decide) (hts _ w_81) (fun _ h9 => h9) rfl d_K_keptName_53 ?_
    refine lv_iload_n hx hb d_K_keptName_56 rfl (lv_at hl 1 rfl) ?_
    refine lv_iconst (v := 2) hx hb d_K_keptName_57 (by decide) ?_
    obtain ⟨u58, hu58, h⟩ := bnd h
    refine gcall_i (va_runV (As := [.int x1, .int (2 : Int32)]) (rest := []) ⟨hx, hb, hml, hown, hts⟩ (c_P_need l D cI cZ tL q tl σ x1 (2 : Int32) u58 hu58 H.size) (cwV 2 hts (gV w_396 w_185 w_186 w_2 w_187) rfl rfl rfl (by decide +kernel) ⟨Nat.le_of_ble_eq_true rfl, Nat.le_of_ble_eq_true rfl⟩) (gpV (k := 1) (ci := 1) hA hK (hD σ) hE hP hS rfl rfl) rfl rfl hl.1 rfl (lv_room (Nat.le_of_ble_eq_true rfl)) d_K_keptName_58 ⟨Nat.le_of_ble_eq_true rfl, Nat.le_of_ble_eq_true rfl⟩) hA (hD σ) hS (fun H locs hP hS => ?_)
    cases h
    exact gret_i hx hb hr hlk hP hS d_K_keptName_61
  have h := ifn c0 h
  by_cases c1 : u5 = 4
  · refine lv_tableIn (tgt := 82) hx hb d_K_keptName_8 (by rw [c1]; decide) (by rw [c1]; decide) (by rw [c1]; rfl) (by decide) ?_
    have h := ifp c1 h
    refine lv_iconst (v := -1) hx hb d_K_keptName_82 (by decide) ?_
    cases h
    exact gret_i hx hb hr hlk hP hS d_K_keptName_83
  have h := ifn c1 h
  by_cases c2 : u5 = 5
  · refine lv_tableIn (tgt := 62) hx hb d_K_keptName_8 (by rw [c2]; decide) (by rw [c2]; decide) (by rw [c2]; rfl) (by decide) ?_
    have h := ifp c2 h
    refine lv_aload_n hx hb d_K_keptName_62 rfl (lv_at hl 0 rfl) ?_
    refine va_get (D := D) (ci := 4) (v := .ref (q 1)) (C := R_K) (T := T_K) (N := 4) hx hb hts l_K hown hK hP 4 rfl rfl 0 (by decide) (hts _ w_81) (fun _ h9 => h9) rfl d_K_keptName_63 ?_
    refine lv_iload_n hx hb d_K_keptName_66 rfl (lv_at hl 1 rfl) ?_
    refine lv_iconst (v := 1) hx hb d_K_keptName_67 (by decide) ?_
    obtain ⟨u68, hu68, h⟩ := bnd h
    refine gcall_i (va_runV (As := [.int x1, .int (1 : Int32)]) (rest := []) ⟨hx, hb, hml, hown, hts⟩ (c_P_need l D cI cZ tL q tl σ x1 (1 : Int32) u68 hu68 H.size) (cwV 2 hts (gV w_396 w_185 w_186 w_2 w_187) rfl rfl rfl (by decide +kernel) ⟨Nat.le_of_ble_eq_true rfl, Nat.le_of_ble_eq_true rfl⟩) (gpV (k := 1) (ci := 1) hA hK (hD σ) hE hP hS rfl rfl) rfl rfl hl.1 rfl (lv_room (Nat.le_of_ble_eq_true rfl)) d_K_keptName_68 ⟨Nat.le_of_ble_eq_true rfl, Nat.le_of_ble_eq_true rfl⟩) hA (hD σ) hS (fun H locs hP hS => ?_)
    cases h
    exact gret_i hx hb hr hlk hP hS d_K_keptName_71
  have h := ifn c2 h
  by_cases c3 : u5 = 6
  · refine lv_tableIn (tgt := 82) hx hb d_K_keptName_8 (by rw [c3]; decide) (by rw [c3]; decide) (by rw [c3]; rfl) (by decide) ?_
    have h := ifp c3 h
    refine lv_iconst (v := -1) hx hb d_K_keptName_82 (by decide) ?_
    cases h
    exact gret_i hx hb hr hlk hP hS d_K_keptName_83
  have h := ifn c3 h
  by_cases c4 : u5 = 7
  · refine lv_tableIn (tgt := 82) hx hb d_K_keptName_8 (by rw [c4]; decide) (by rw [c4]; decide) (by rw [c4]; rfl) (by decide) ?_
    have h := ifp c4 h
    refine lv_iconst (v := -1) hx hb d_K_keptName_82 (by decide) ?_
    cases h
    exact gret_i hx hb hr hlk hP hS d_K_keptName_83
  have h := ifn c4 h
  by_cases c5 : u5 = 8
  · refine lv_tableIn (tgt := 72) hx hb d_K_keptName_8 (by rw [c5]; decide) (by rw [c5]; decide) (by rw [c5]; rfl) (by decide) ?_
    have h := ifp c5 h
    refine lv_aload_n hx hb d_K_keptName_72 rfl (lv_at hl 0 rfl) ?_
    refine va_get (D := D) (ci := 4) (v := .ref (q 1)) (C := R_K) (T := T_K) (N := 4) hx hb hts l_K hown hK hP 4 rfl rfl 0 (by decide) (hts _ w_81) (fun _ h9 => h9) rfl d_K_keptName_73 ?_
    refine lv_iload_n hx hb d_K_keptName_76 rfl (lv_at hl 1 rfl) ?_
    refine lv_iconst (v := 0) hx hb d_K_keptName_77 (by decide) ?_
    obtain ⟨u78, hu78, h⟩ := bnd h
    refine gcall_i (va_runV (As := [.int x1, .int (0 : Int32)]) (rest := []) ⟨hx, hb, hml, hown, hts⟩ (c_P_need l D cI cZ tL q tl σ x1 (0 : Int32) u78 hu78 H.size) (cwV 2 hts (gV w_396 w_185 w_186 w_2 w_187) rfl rfl rfl (by decide +kernel) ⟨Nat.le_of_ble_eq_true rfl, Nat.le_of_ble_eq_true rfl⟩) (gpV (k := 1) (ci := 1) hA hK (hD σ) hE hP hS rfl rfl) rfl rfl hl.1 rfl (lv_room (Nat.le_of_ble_eq_true rfl)) d_K_keptName_78 ⟨Nat.le_of_ble_eq_true rfl, Nat.le_of_ble_eq_true rfl⟩) hA (hD σ) hS (fun H locs hP hS => ?_)
    cases h
    exact gret_i hx hb hr hlk hP hS d_K_keptName_81
  have h := ifn c5 h
  by_cases c6 : u5 = 9
  · refine lv_tableIn (tgt := 72) hx hb d_K_keptName_8 (by rw [c6]; decide) (by rw [c6]; decide) (by rw [c6]; rfl) (by decide) ?_
    have h := ifp c6 h
    refine lv_aload_n hx hb d_K_keptName_72 rfl (lv_at hl 0 rfl) ?_
    refine va_get (D := D) (ci := 4) (v := .ref (q 1)) (C := R_K) (T := T_K) (N := 4) hx hb hts l_K hown hK hP 4 rfl rfl 0 (by decide) (hts _ w_81) (fun _ h9 => h9) rfl d_K_keptName_73 ?_
    refine lv_iload_n hx hb d_K_keptName_76 rfl (lv_at hl 1 rfl) ?_
    refine lv_iconst (v := 0) hx hb d_K_keptName_77 (by decide) ?_
    obtain ⟨u78, hu78, h⟩ := bnd h
    refine gcall_i (va_runV (As := [.int x1, .int (0 : Int32)]) (rest := []) ⟨hx, hb, hml, hown, hts⟩ (c_P_need l D cI cZ tL q tl σ x1 (0 : Int32) u78 hu78 H.size) (cwV 2 hts (gV w_396 w_185 w_186 w_2 w_187) rfl rfl rfl (by decide +kernel) ⟨Nat.le_of_ble_eq_true rfl, Nat.le_of_ble_eq_true rfl⟩) (gpV (k := 1) (ci := 1) hA hK (hD σ) hE hP hS rfl rfl) rfl rfl hl.1 rfl (lv_room (Nat.le_of_ble_eq_true rfl)) d_K_keptName_78 ⟨Nat.le_of_ble_eq_true rfl, Nat.le_of_ble_eq_true rfl⟩) hA (hD σ) hS (fun H locs hP hS => ?_)
    cases h
    exact gret_i hx hb hr hlk hP hS d_K_keptName_81
  have h := ifn c6 h
  refine lv_tableOut (tgt := 82) hx hb d_K_keptName_8 (by have e0 := lv_neT (a := 3) c0 (by decide); have e1 := lv_neT (a := 4) c1 (by decide); have e2 := lv_neT (a := 5) c2 (by decide); have e3 := lv_neT (a := 6) c3 (by decide); have e4 := lv_neT (a := 7) c4 (by decide); have e5 := lv_neT (a := 8) c5 (by decide); have e6 := lv_neT (a := 9) c6 (by decide); omega) (by decide) ?_
  refine lv_iconst (v := -1) hx hb d_K_keptName_82 (by decide) ?_
  cases h
  exact gret_i hx hb hr hlk hP hS d_K_keptName_83
/-! ===== EscapeOwners$Marks.isKept()Z ===== -/
def f_K_isKept_B2 (F : Nat) (σ : St) (rec : Int32 → Option ((Int32) ⊕ (Int32))) (y1 : Int32) : Option ((Int32) ⊕ (Int32)) := if (σ 1 1) ≤ y1 then (some (Sum.inl y1)) else (Option.bind (f_P_isIn σ (σ 4 3) y1) (fun u22 => if u22 = 0 then (rec (y1 + (1 : Int32))) else (Option.bind (f_P_owner σ y1) (fun u34 => Option.bind (f_K_keptName σ y1) (fun u39 => Option.bind (f_K_isMarked σ u34 u39) (fun u42 => if u42 = 0 then (rec (y1 + (1 : Int32))) else (some (Sum.inr (1 : Int32)))))))))
def f_K_isKept_L2 (F : Nat) (σ : St) : Nat → Int32 → Option ((Int32) ⊕ (Int32))
  | 0, _ => none
  | fu + 1, y1 => f_K_isKept_B2 F σ (f_K_isKept_L2 F σ fu) y1
def f_K_isKept (F : Nat) (σ : St) : Option (Int32) := Option.bind (f_K_isKept_L2 F σ F (0 : Int32)) (fun u2 => Sum.elim (fun v2 => some (0 : Int32)) (fun r2 => some r2) u2)
set_option maxHeartbeats 4000000 in
set_option maxRecDepth 100000 in
theorem c_K_isKept (l : Launch) (D : va_G) (cI cZ : ClassId) (tL : Nat) (q : Nat → Nat) (tl : va_W) (F : Nat) (σ : St) (out0 : Int32) (h : f_K_isKept F σ = some out0) : gCi l y_K_isKept (.code y_K_isKept b_K_isKept 2 (some .boolean) :: TB) { frames := 3, cells := 0, slots := 0, locals := 64 } D [(cI, .int), (cZ, .boolean)] tL [.ref (q 4)] (wE cI cZ q σ ++ tl) out0 (wE cI cZ q σ ++ tl) := by
  refine gCi_of (cc := b_K_isKept) (maxL := 2) (ty := .boolean) (by decide) rfl (Nat.le_of_ble_eq_true rfl) ?_
  intro p e s m below meth c A ls hf hr hlk hA hK hD0 hE hP hl
  obtain ⟨hx, hb, hml, hown, hts⟩ := id hf
  have hts : ∀ w ∈ TB, w.before _ s = true := fun w h => hts w (List.mem_cons_of_mem _ h)
  have hown : s.vm.findClass R_K = some m.cls := hown
  have hl : lv_has ls 2 [(0, .ref (q 4))] := hl
  have hS : va_S A s.heap s.heap [] := va_S.rf
  have hD : ∀ σ' : St, va_D A (wE cI cZ q σ' ++ tl) := fun σ' => va_Dsame hD0 rfl
  have L2 : ∀ (σ : St) (fu : Nat) (y1 : Int32) (H : Heap) (locs : List Loc) (ls : Array Slot) (out : (Int32) ⊕ (Int32)), f_K_isKept_L2 F σ fu y1 = some out → va_P D vwCl (wE cI cZ q σ ++ tl) H → va_S A s.heap H locs → lv_has ls 2 [(0, .ref (q 4)), (1, .int y1)] → (∀ (v : (Int32)), out = Sum.inl v → ∀ (H : Heap) (locs : List Loc) (ls : Array Slot), va_P D vwCl (wE cI cZ q σ ++ tl) H → va_S A s.heap H locs → lv_has ls 2 [(0, .ref (q 4)), (1, .int v)] → W p l e { frames := 3, cells := 0, slots := 0, locals := 64 } s m ([.ref (q 4)] : List Value).toArray below meth c H locs 0 0 (gQi below D out0 (wE cI cZ q σ ++ tl) A (([.ref (q 4)] : List Value).toArray) s) (F0 m 56 ls [])) → (∀ r : Int32, out = Sum.inr r → some r = some out0) → W p l e { frames := 3, cells := 0, slots := 0, locals := 64 } s m ([.ref (q 4)] : List Value).toArray below meth c H locs 0 0 (gQi below D out0 (wE cI cZ q σ ++ tl) A (([.ref (q 4)] : List Value).toArray) s) (F0 m 2 ls []) := by
    intro σ fu
    induction fu with
    | zero => intro y1 H locs ls out h; exact absurd (show (none : Option ((Int32) ⊕ (Int32))) = some out from h) (fun z => by cases z)
    | succ fu ih =>
      intro y1 H locs ls out h hP hS hl K Kr
      have h : f_K_isKept_B2 F σ (f_K_isKept_L2 F σ fu) y1 = some out := h
      unfold f_K_isKept_B2 at h
      refine lv_iload_n hx hb d_K_isKept_2 rfl (lv_at hl 1 rfl) ?_
      refine lv_aload_n hx hb d_K_isKept_3 rfl (lv_at hl 0 rfl) ?_
      refine va_get (D := D) (ci := 4) (v := .ref (q 1)) (C := R_K) (T := T_K) (N := 4) hx hb hts l_K hown hK hP 4 rfl rfl 0 (by decide) (hts _ w_81) (fun _ h9 => h9) rfl d_K_isKept_4 ?_
      refine va_getN (D := D) (ci := 1) (v := .int (σ 1 1)) (C := R_P) (T := T_P) (N := 8) hx hb hts l_P hown hK hP 1 rfl rfl 1 (by decide) (va_Nw.use rfl (nf_2 hE)) (fun _ h9 => h9) rfl d_K_isKept_7 ?_
      refine lv_icmp_ge (tgt := 56) hx hb d_K_isKept_10 (by decide) (fun c => ?_) (fun c => ?_)
      · have h := ifp c h
        cases h
        exact K y1 rfl _ _ ls hP hS (lv_sub hl [0, 1] rfl)
      have h := ifn c h
      refine lv_aload_n hx hb d_K_isKept_13 rfl (lv_at hl 0 rfl) ?_
      refine va_get (D := D) (ci := 4) (v := .ref (q 1)) (C := R_K) (T := T_K) (N := 4) hx hb hts l_K hown hK hP 4 rfl rfl 0 (by decide) (hts _ w_81) (fun _ h9 => h9) rfl d_K_isKept_14 ?_
      refine lv_aload_n hx hb d_K_isKept_17 rfl (lv_at hl 0 rfl) ?_
      refine va_get (D := D) (ci := 4) (v := .int (σ 4 3)) (C := R_K) (T := T_K) (N := 4) hx hb hts l_K hown hK hP 4 rfl rfl 3 (by decide) (hts _ w_84) (fun _ h9 => h9) rfl d_K_isKept_18 ?_
      refine lv_iload_n hx hb d_K_isKept_21 rfl (lv_at hl 1 rfl) ?_
      obtain ⟨u22, hu22, h⟩ := bnd h
      refine gcall_i (va_runV (As := [.int (σ 4 3), .int y1]) (rest := []) ⟨hx, hb, hml, hown, hts⟩ (c_P_isIn l D cI cZ tL q tl σ (σ 4 3) y1 u22 hu22 H.size) (cwV 2 hts (gV w_390 w_215 w_216 w_2 w_217) rfl rfl rfl (by decide +kernel) ⟨Nat.le_of_ble_eq_true rfl, Nat.le_of_ble_eq_true rfl⟩) (gpV (k := 1) (ci := 1) hA hK (hD σ) hE hP hS rfl rfl) rfl rfl hl.1 rfl (lv_room (Nat.le_of_ble_eq_true rfl)) d_K_isKept_22 ⟨Nat.le_of_ble_eq_true rfl, Nat.le_of_ble_eq_true rfl⟩) hA (hD σ) hS (fun H locs hP hS => ?_)
      refine lv_if_eq (tgt := 50) hx hb d_K_isKept_25 (by decide) (fun c => ?_) (fun c => ?_)
      · have h := ifp c h
        refine lv_iinc (v := (y1 + (1 : Int32))) (lv' := [(1, .int (y1 + (1 : Int32))), (0, .ref (q 4))]) hx hb d_K_isKept_50 hl (k := 1) rfl rfl (by decide) rfl (fun ls hl => ?_)
        refine lv_goto (tgt := 2) hx hb d_K_isKept_53 (by decide) ?_
        exact ih (y1 + (1 : Int32)) _ _ ls out h hP hS (lv_sub hl [1, 0] rfl) K Kr
      have h := ifn c h
      refine lv_aload_n hx hb d_K_isKept_28 rfl (lv_at hl 0 rfl) ?_
      refine lv_aload_n hx hb d_K_isKept_29 rfl (lv_at hl 0 rfl) ?_
      refine va_get (D := D) (ci := 4) (v := .ref (q 1)) (C := R_K) (T := T_K) (N := 4) hx hb hts l_K hown hK hP 4 rfl rfl 0 (by decide) (hts _ w_81) (fun _ h9 => h9) rfl d_K_isKept_30 ?_
      refine lv_iload_n hx hb d_K_isKept_33 rfl (lv_at hl 1 rfl) ?_
      obtain ⟨u34, hu34, h⟩ := bnd h
      refine gcall_i (va_runV (As := [.int y1]) (rest := [.ref (q 4)]) ⟨hx, hb, hml, hown, hts⟩ (c_P_owner l D cI cZ tL q tl σ y1 u34 hu34 H.size) (cwV 1 hts (gV w_394 w_176 w_177 w_2 w_178) rfl rfl rfl (by decide +kernel) ⟨Nat.le_of_ble_eq_true rfl, Nat.le_of_ble_eq_true rfl⟩) (gpV (k := 1) (ci := 1) hA hK (hD σ) hE hP hS rfl rfl) rfl rfl hl.1 rfl (lv_room (Nat.le_of_ble_eq_true rfl)) d_K_isKept_34 ⟨Nat.le_of_ble_eq_true rfl, Nat.le_of_ble_eq_true rfl⟩) hA (hD σ) hS (fun H locs hP hS => ?_)
      refine lv_aload_n hx hb d_K_isKept_37 rfl (lv_at hl 0 rfl) ?_
      refine lv_iload_n hx hb d_K_isKept_38 rfl (lv_at hl 1 rfl) ?_
      obtain ⟨u39, hu39, h⟩ := bnd h
      refine gcall_i (va_runV (As := [.int y1]) (rest := [.int u34, .ref (q 4)]) ⟨hx, hb, hml, hown, hts⟩ (c_K_keptName l D cI cZ tL q tl σ y1 u39 hu39 H.size) (cwV 1 hts (gV w_410 w_411 w_689 w_5 w_412) rfl rfl rfl (by decide +kernel) ⟨Nat.le_of_ble_eq_true rfl, Nat.le_of_ble_eq_true rfl⟩) (gpV (k := 4) (ci := 4) hA hK (hD σ) hE hP hS rfl rfl) rfl rfl hl.1 rfl (lv_room (Nat.le_of_ble_eq_true rfl)) d_K_isKept_39 ⟨Nat.le_of_ble_eq_true rfl, Nat.le_of_ble_eq_true rfl⟩) hA (hD σ) hS (fun H locs hP hS => ?_)
      obtain ⟨u42, hu42, h⟩ := bnd h
      refine gcall_i (va_runV (As := [.int u34, .int u39]) (rest := []) ⟨hx, hb, hml, hown, hts⟩ (c_K_isMarked l D cI cZ tL q tl σ u34 u39 u42 hu42 H.size) (cwV 2 hts (gV w_397 w_398 w_688 w_5 w_399) rfl rfl rfl (by decide +kernel) ⟨Nat.le_of_ble_eq_true rfl, Nat.le_of_ble_eq_true rfl⟩) (gpV (k := 4) (ci := 4) hA hK (hD σ) hE hP hS rfl rfl) rfl rfl hl.1 rfl (lv_room (Nat.le_of_ble_eq_true rfl)) d_K_isKept_42 ⟨Nat.le_of_ble_eq_true rfl, Nat.le_of_ble_eq_true rfl⟩) hA (hD σ) hS (fun H locs hP hS => ?_)
      refine lv_if_eq (tgt := 50) hx hb d_K_isKept_45 (by decide) (fun c => ?_) (fun c => ?_)
      · have h := ifp c h
        refine lv_iinc (v := (y1 + (1 : Int32))) (lv' := [(1, .int (y1 + (1 : Int32))), (0, .ref (q 4))]) hx hb d_K_isKept_50 hl (k := 1) rfl rfl (by decide) rfl (fun ls hl => ?_)
        refine lv_goto (tgt := 2) hx hb d_K_isKept_53 (by decide) ?_
        exact ih (y1 + (1 : Int32)) _ _ ls out h hP hS (lv_sub hl [1, 0] rfl) K Kr
      have h := ifn c h
      refine lv_iconst (v := 1) hx hb d_K_isKept_48 (by decide) ?_
      cases h
      have h := Kr (1 : Int32) rfl
      cases h
      exact gret_z hx hb hr hlk (gz (Or.inr rfl)) hP hS d_K_isKept_49
  unfold f_K_isKept at h
  refine lv_iconst (v := 0) hx hb d_K_isKept_0 (by decide) ?_
  refine lv_istore_n (lv' := [(1, .int (0 : Int32)), (0, .ref (q 4))]) hx hb d_K_isKept_1 rfl hl (by decide) rfl (fun ls hl => ?_)
  obtain ⟨u2, hu2, h⟩ := bnd h
  refine L2 σ F (0 : Int32) _ _ ls u2 hu2 hP hS (lv_sub hl [1, 0] rfl) (fun v2 hv2 H locs ls hP hS hl => ?_) (fun r2 hr2 => by rw [hr2] at h; exact h)
  subst hv2
  have h := elimL h
  refine lv_iconst (v := 0) hx hb d_K_isKept_56 (by decide) ?_
  cases h
  exact gret_z hx hb hr hlk (gz (Or.inl rfl)) hP hS d_K_isKept_57
/-! ===== EscapeOwners$Marks.countNames()I ===== -/
def f_K_countNames_B4 (F : Nat) (σ : St) (rec : Int32 → Int32 → Option (Int32 × Int32)) (y1 : Int32) (y2 : Int32) : Option (Int32 × Int32) := if (8 : Int32) ≤ y2 then (some (y1, y2)) else (Option.bind (f_E_at 8 (σ 16) y2) (fun u16 => Option.bind (f_J_bitCount u16) (fun u19 => rec (y1 + u19) (y2 + (1 : Int32)))))
def f_K_countNames_L4 (F : Nat) (σ : St) : Nat → Int32 → Int32 → Option (Int32 × Int32)
  | 0, _, _ => none
  | fu + 1, y1, y2 => f_K_countNames_B4 F σ (f_K_countNames_L4 F σ fu) y1 y2
def f_K_countNames (F : Nat) (σ : St) : Option (Int32) := Option.bind (f_K_countNames_L4 F σ F (0 : Int32) (0 : Int32)) (fun u4 => some u4.1)
set_option maxHeartbeats 4000000 in
set_option maxRecDepth 100000 in
theorem c_K_countNames (l : Launch) (D : va_G) (cI cZ : ClassId) (tL : Nat) (q : Nat → Nat) (tl : va_W) (F : Nat) (σ : St) (out0 : Int32) (h : f_K_countNames F σ = some out0) : gCi l y_K_countNames (.code y_K_countNames b_K_countNames 3 (some .int) :: TB) { frames := 1, cells := 0, slots := 0, locals := 21 } D [(cI, .int), (cZ, .boolean)] tL [.ref (q 4)] (wE cI cZ q σ ++ tl) out0 (wE cI cZ q σ ++ tl) := by
  refine gCi_of (cc := b_K_countNames) (maxL := 3) (ty := .int) (by decide) rfl (Nat.le_of_ble_eq_true rfl) ?_
  intro p e s m below meth c A ls hf hr hlk hA hK hD0 hE hP hl
  obtain ⟨hx, hb, hml, hown, hts⟩ := id hf
  have hts : ∀ w ∈ TB, w.before _ s = true := fun w h => hts w (List.mem_cons_of_mem _ h)
  have hown : s.vm.findClass R_K = some m.cls := hown
  have hl : lv_has ls 3 [(0, .ref (q 4))] := hl
  have hS : va_S A s.heap s.heap [] := va_S.rf
  have hD : ∀ σ' : St, va_D A (wE cI cZ q σ' ++ tl) := fun σ' => va_Dsame hD0 rfl
  have L4 : ∀ (σ : St) (fu : Nat) (y1 : Int32) (y2 : Int32) (H : Heap) (locs : List Loc) (ls : Array Slot) (out : Int32 × Int32), f_K_countNames_L4 F σ fu y1 y2 = some out → va_P D vwCl (wE cI cZ q σ ++ tl) H → va_S A s.heap H locs → lv_has ls 3 [(0, .ref (q 4)), (1, .int y1), (2, .int y2)] → (∀ (H : Heap) (locs : List Loc) (ls : Array Slot), va_P D vwCl (wE cI cZ q σ ++ tl) H → va_S A s.heap H locs → lv_has ls 3 [(0, .ref (q 4)), (1, .int out.1), (2, .int out.2)] → W p l e { frames := 1, cells := 0, slots := 0, locals := 21 } s m ([.ref (q 4)] : List Value).toArray below meth c H locs 0 0 (gQi below D out0 (wE cI cZ q σ ++ tl) A (([.ref (q 4)] : List Value).toArray) s) (F0 m 30 ls [])) → W p l e { frames := 1, cells := 0, slots := 0, locals := 21 } s m ([.ref (q 4)] : List Value).toArray below meth c H locs 0 0 (gQi below D out0 (wE cI cZ q σ ++ tl) A (([.ref (q 4)] : List Value).toArray) s) (F0 m 4 ls []) := by
    intro σ fu
    induction fu with
    | zero => intro y1 y2 H locs ls out h; exact absurd (show (none : Option (Int32 × Int32)) = some out from h) (fun z => by cases z)
    | succ fu ih =>
      intro y1 y2 H locs ls out h hP hS hl K
      have h : f_K_countNames_B4 F σ (f_K_countNames_L4 F σ fu) y1 y2 = some out := h
      unfold f_K_countNames_B4 at h
      refine lv_iload_n hx hb d_K_countNames_4 rfl (lv_at hl 2 rfl) ?_
      refine lv_bipush (v := 8) hx hb d_K_countNames_5 (by decide) ?_
      refine lv_icmp_ge (tgt := 30) hx hb d_K_countNames_7 (by decide) (fun c => ?_) (fun c => ?_)
      · have h := ifp c h
        cases h
        exact K _ _ ls hP hS (lv_sub hl [0, 1, 2] rfl)
      have h := ifn c h
      refine lv_iload_n hx hb d_K_countNames_10 rfl (lv_at hl 1 rfl) ?_
      refine lv_aload_n hx hb d_K_countNames_11 rfl (lv_at hl 0 rfl) ?_
      refine va_get (D := D) (ci := 4) (v := .ref (q 16)) (C := R_K) (T := T_K) (N := 4) hx hb hts l_K hown hK hP 4 rfl rfl 1 (by decide) (hts _ w_82) (fun _ h9 => h9) rfl d_K_countNames_12 ?_
      refine lv_iload_n hx hb d_K_countNames_15 rfl (lv_at hl 2 rfl) ?_
      obtain ⟨u16, hu16, h⟩ := bnd h
      refine gcall_i (va_runSN (As := [.ref (q 16), .int y2]) (rest := [.int y1]) ⟨hx, hb, hml, hown, hts⟩ (c_E_at_u l D cI cZ tL (wE cI cZ q σ ++ tl) 16 (q 16) 8 (σ 16) rfl y2 u16 hu16 H.size) ⟨va_cnB 2 hts (TB_code w_133) rfl rfl rfl (nm_13 hE) (hts _ w_1) (by decide +kernel) ⟨Nat.le_of_ble_eq_true rfl, Nat.le_of_ble_eq_true rfl⟩, hts _ w_132, trivial⟩ (gpS hA hK (hD σ) hE hP hS) rfl rfl hl.1 rfl (lv_room (Nat.le_of_ble_eq_true rfl)) d_K_countNames_16 ⟨Nat.le_of_ble_eq_true rfl, Nat.le_of_ble_eq_true rfl⟩) hA (hD σ) hS (fun H locs hP hS => ?_)
      obtain ⟨u19, hu19, h⟩ := bnd h
      refine gcall_i (va_runS (As := [.int u16]) (rest := [.int y1]) ⟨hx, hb, hml, hown, hts⟩ (c_J_bitCount l D cI cZ tL (wE cI cZ q σ ++ tl) u16 u19 hu19 H.size) (va_cwS 1 hts (gS w_417 w_418 w_7 w_419) rfl rfl rfl (by decide +kernel) ⟨Nat.le_of_ble_eq_true rfl, Nat.le_of_ble_eq_true rfl⟩) (gpS hA hK (hD σ) hE hP hS) rfl rfl hl.1 rfl (lv_room (Nat.le_of_ble_eq_true rfl)) d_K_countNames_19 ⟨Nat.le_of_ble_eq_true rfl, Nat.le_of_ble_eq_true rfl⟩) hA (hD σ) hS (fun H locs hP hS => ?_)
      refine lv_iadd hx hb d_K_countNames_22 ?_
      refine lv_istore_n (lv' := [(1, .int (y1 + u19)), (0, .ref (q 4)), (2, .int y2)]) hx hb d_K_countNames_23 rfl hl (by decide) rfl (fun ls hl => ?_)
      refine lv_iinc (v := (y2 + (1 : Int32))) (lv' := [(2, .int (y2 + (1 : Int32))), (1, .int (y1 + u19)), (0, .ref (q 4))]) hx hb d_K_countNames_24 hl (k := 2) rfl rfl (by decide) rfl (fun ls hl => ?_)
      refine lv_goto (tgt := 4) hx hb d_K_countNames_27 (by decide) ?_
      exact ih (y1 + u19) (y2 + (1 : Int32)) _ _ ls out h hP hS (lv_sub hl [2, 1, 0] rfl) K
  unfold f_K_countNames at h
  refine lv_iconst (v := 0) hx hb d_K_countNames_0 (by decide) ?_
  refine lv_istore_n (lv' := [(1, .int (0 : Int32)), (0, .ref (q 4))]) hx hb d_K_countNames_1 rfl hl (by decide) rfl (fun ls hl => ?_)
  refine lv_iconst (v := 0) hx hb d_K_countNames_2 (by decide) ?_
  refine lv_istore_n (lv' := [(2, .int (0 : Int32)), (1, .int (0 : Int32)), (0, .ref (q 4))]) hx hb d_K_countNames_3 rfl hl (by decide) rfl (fun ls hl => ?_)
  obtain ⟨u4, hu4, h⟩ := bnd h
  refine L4 σ F (0 : Int32) (0 : Int32) _ _ ls u4 hu4 hP hS (lv_sub hl [2, 1, 0] rfl) (fun H locs ls hP hS hl => ?_)
  refine lv_iload_n hx hb d_K_countNames_30 rfl (lv_at hl 1 rfl) ?_
  cases h
  exact gret_i hx hb hr hlk hP hS d_K_countNames_31
