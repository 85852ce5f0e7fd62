/-! ===== EscapeOwners.clear()I ===== -/
def f_E_clear (σ : St) : Option (Int32 × St) := Option.bind (f_P_empty σ) (fun u12 => Option.bind (f_S_forget u12) (fun u19 => some ((σ 1 1), u19)))
set_option maxHeartbeats 4000000 in
set_option maxRecDepth 100000 in
theorem c_E_clear (l : Launch) (D : va_G) (cI cZ : ClassId) (tL : Nat) (q : Nat → Nat) (tl : va_W) (σ : St) (out0 : Int32 × St) (h : f_E_clear σ = some out0) : gCi l y_E_clear (.code y_E_clear b_E_clear 2 (some .int) :: TB) { frames := 1, cells := 0, slots := 0, locals := 20 } D [(cI, .int), (cZ, .boolean)] tL [.ref (q 0)] (wE cI cZ q σ ++ tl) out0.1 (wE cI cZ q out0.2 ++ tl) := by
  refine gCi_of (cc := b_E_clear) (maxL := 2) (ty := .int) (by decide) rfl (Nat.le_of_ble_eq_true rfl) ?_
  intro p e s m below meth c A ls hf hr hlk hA hK hD0 hE hP hl
  obtain ⟨hx, hb, hml, hown, hts⟩ := id hf
  have hts : ∀ w ∈ TB, w.before _ s = true := fun w h => hts w (List.mem_cons_of_mem _ h)
  have hown : s.vm.findClass R_E = some m.cls := hown
  have hl : lv_has ls 2 [(0, .ref (q 0))] := hl
  have hS : va_S A s.heap s.heap [] := va_S.rf
  have hD : ∀ σ' : St, va_D A (wE cI cZ q σ' ++ tl) := fun σ' => va_Dsame hD0 rfl
  unfold f_E_clear at h
  refine lv_aload_n hx hb d_E_clear_0 rfl (lv_at hl 0 rfl) ?_
  refine va_get (D := D) (ci := 0) (v := .ref (q 1)) (C := R_E) (T := T_E) (N := 4) hx hb hts l_E hown hK hP 0 rfl rfl 0 (by decide) (hts _ w_89) (fun _ h9 => h9) rfl d_E_clear_1 ?_
  refine va_getN (D := D) (ci := 1) (v := .int (σ 1 1)) (C := R_P) (T := T_P) (N := 8) hx hb hts l_P hown hK hP 1 rfl rfl 1 (by decide) (va_Nw.use rfl (nf_1 hE)) (fun _ h9 => h9) rfl d_E_clear_4 ?_
  refine lv_istore_n (lv' := [(1, .int (σ 1 1)), (0, .ref (q 0))]) hx hb d_E_clear_7 rfl hl (by decide) rfl (fun ls hl => ?_)
  refine lv_aload_n hx hb d_E_clear_8 rfl (lv_at hl 1 rfl) ?_
  refine va_get (D := D) (ci := 0) (v := .ref (q 1)) (C := R_E) (T := T_E) (N := 4) hx hb hts l_E hown hK hP 0 rfl rfl 0 (by decide) (hts _ w_89) (fun _ h9 => h9) rfl d_E_clear_9 ?_
  obtain ⟨u12, hu12, h⟩ := bnd h
  refine gcall_v (va_runV (As := []) (rest := []) ⟨hx, hb, hml, hown, hts⟩ (c_P_empty l D cI cZ tL q tl σ  u12 hu12 s.heap.size) (cwV 0 hts (gV w_100 w_101 w_102 w_2 w_103) rfl rfl rfl (by decide +kernel) ⟨Nat.le_of_ble_eq_true rfl, Nat.le_of_ble_eq_true rfl⟩) (gpV (k := 1) (ci := 1) hA hK (hD σ) hE hP hS rfl rfl) rfl rfl hl.1 rfl (lv_room (Nat.le_of_ble_eq_true rfl)) d_E_clear_12 ⟨Nat.le_of_ble_eq_true rfl, Nat.le_of_ble_eq_true rfl⟩) hA (hD σ) hS (fun H locs hP hS => ?_)
  refine lv_aload_n hx hb d_E_clear_15 rfl (lv_at hl 1 rfl) ?_
  refine va_get (D := D) (ci := 0) (v := .ref (q 2)) (C := R_E) (T := T_E) (N := 4) hx hb hts l_E hown hK hP 0 rfl rfl 1 (by decide) (hts _ w_90) (fun _ h9 => h9) rfl d_E_clear_16 ?_
  obtain ⟨u19, hu19, h⟩ := bnd h
  refine gcall_v (va_runV (As := []) (rest := []) ⟨hx, hb, hml, hown, hts⟩ (c_S_forget l D cI cZ tL q tl u12  u19 hu19 H.size) (cwV 0 hts (gV w_104 w_105 w_106 w_3 w_107) rfl rfl rfl (by decide +kernel) ⟨Nat.le_of_ble_eq_true rfl, Nat.le_of_ble_eq_true rfl⟩) (gpV (k := 2) (ci := 2) hA hK (hD u12) hE hP hS rfl rfl) rfl rfl hl.1 rfl (lv_room (Nat.le_of_ble_eq_true rfl)) d_E_clear_19 ⟨Nat.le_of_ble_eq_true rfl, Nat.le_of_ble_eq_true rfl⟩) hA (hD u12) hS (fun H locs hP hS => ?_)
  refine lv_iload_n hx hb d_E_clear_22 rfl (lv_at hl 0 rfl) ?_
  cases h
  exact gret_i hx hb hr hlk hP hS d_E_clear_23
/-! ===== EscapeOwners.method()I ===== -/
def f_E_method (σ : St) : Option (Int32 × St) := if (σ 1 0) < (8 : Int32) then (Option.bind (f_P_addMethod σ) (fun u19 => some (u19.1, u19.2))) else (some ((-3 : Int32), σ))
set_option maxHeartbeats 4000000 in
set_option maxRecDepth 100000 in
theorem c_E_method (l : Launch) (D : va_G) (cI cZ : ClassId) (tL : Nat) (q : Nat → Nat) (tl : va_W) (σ : St) (out0 : Int32 × St) (h : f_E_method σ = some out0) : gCi l y_E_method (.code y_E_method b_E_method 1 (some .int) :: TB) { frames := 1, cells := 0, slots := 0, locals := 20 } D [(cI, .int), (cZ, .boolean)] tL [.ref (q 0)] (wE cI cZ q σ ++ tl) out0.1 (wE cI cZ q out0.2 ++ tl) := by
  refine gCi_of (cc := b_E_method) (maxL := 1) (ty := .int) (by decide) rfl (Nat.le_of_ble_eq_true rfl) ?_
  intro p e s m below meth c A ls hf hr hlk hA hK hD0 hE hP hl
  obtain ⟨hx, hb, hml, hown, hts⟩ := id hf
  have hts : ∀ w ∈ TB, w.before _ s = true := fun w h => hts w (List.mem_cons_of_mem _ h)
  have hown : s.vm.findClass R_E = some m.cls := hown
  have hl : lv_has ls 1 [(0, .ref (q 0))] := hl
  have hS : va_S A s.heap s.heap [] := va_S.rf
  have hD : ∀ σ' : St, va_D A (wE cI cZ q σ' ++ tl) := fun σ' => va_Dsame hD0 rfl
  unfold f_E_method at h
  refine lv_aload_n hx hb d_E_method_0 rfl (lv_at hl 0 rfl) ?_
  refine va_get (D := D) (ci := 0) (v := .ref (q 1)) (C := R_E) (T := T_E) (N := 4) hx hb hts l_E hown hK hP 0 rfl rfl 0 (by decide) (hts _ w_89) (fun _ h9 => h9) rfl d_E_method_1 ?_
  refine va_getN (D := D) (ci := 1) (v := .int (σ 1 0)) (C := R_P) (T := T_P) (N := 8) hx hb hts l_P hown hK hP 1 rfl rfl 0 (by decide) (va_Nw.use rfl (nf_0 hE)) (fun _ h9 => h9) rfl d_E_method_4 ?_
  refine lv_bipush (v := 8) hx hb d_E_method_7 (by decide) ?_
  refine lv_icmp_lt (tgt := 15) hx hb d_E_method_9 (by decide) (fun c => ?_) (fun c => ?_)
  · have h := ifp c h
    refine lv_aload_n hx hb d_E_method_15 rfl (lv_at hl 0 rfl) ?_
    refine va_get (D := D) (ci := 0) (v := .ref (q 1)) (C := R_E) (T := T_E) (N := 4) hx hb hts l_E hown hK hP 0 rfl rfl 0 (by decide) (hts _ w_89) (fun _ h9 => h9) rfl d_E_method_16 ?_
    obtain ⟨u19, hu19, h⟩ := bnd h
    refine gcall_i (va_runV (As := []) (rest := []) ⟨hx, hb, hml, hown, hts⟩ (c_P_addMethod l D cI cZ tL q tl σ  u19 hu19 s.heap.size) (cwV 0 hts (gV w_111 w_112 w_113 w_2 w_114) rfl rfl rfl (by decide +kernel) ⟨Nat.le_of_ble_eq_true rfl, Nat.le_of_ble_eq_true rfl⟩) (gpV (k := 1) (ci := 1) hA hK (hD σ) hE hP hS rfl rfl) rfl rfl hl.1 rfl (lv_room (Nat.le_of_ble_eq_true rfl)) d_E_method_19 ⟨Nat.le_of_ble_eq_true rfl, Nat.le_of_ble_eq_true rfl⟩) hA (hD σ) hS (fun H locs hP hS => ?_)
    cases h
    exact gret_i hx hb hr hlk hP hS d_E_method_22
  have h := ifn c h
  refine lv_bipush (v := -3) hx hb d_E_method_12 (by decide) ?_
  cases h
  exact gret_i hx hb hr hlk hP hS d_E_method_14
/-! ===== EscapeOwners.isMethod(I)Z ===== -/
def f_E_isMethod (σ : St) (x1 : Int32) : Option (Int32) := Option.bind (f_E_isBelow x1 (σ 1 0)) (fun u8 => if u8 = 0 ∨ u8 = 1 then some u8 else none)
set_option maxHeartbeats 4000000 in
set_option maxRecDepth 100000 in
theorem c_E_isMethod (l : Launch) (D : va_G) (cI cZ : ClassId) (tL : Nat) (q : Nat → Nat) (tl : va_W) (σ : St) (x1 : Int32) (out0 : Int32) (h : f_E_isMethod σ x1 = some out0) : gCi l y_E_isMethod (.code y_E_isMethod b_E_isMethod 2 (some .boolean) :: TB) { frames := 1, cells := 0, slots := 0, locals := 21 } D [(cI, .int), (cZ, .boolean)] tL [.ref (q 0), .int x1] (wE cI cZ q σ ++ tl) out0 (wE cI cZ q σ ++ tl) := by
  refine gCi_of (cc := b_E_isMethod) (maxL := 2) (ty := .boolean) (by decide) rfl (Nat.le_of_ble_eq_true rfl) ?_
  intro p e s m below meth c A ls hf hr hlk hA hK hD0 hE hP hl
  obtain ⟨hx, hb, hml, hown, hts⟩ := id hf
  have hts : ∀ w ∈ TB, w.before _ s = true := fun w h => hts w (List.mem_cons_of_mem _ h)
  have hown : s.vm.findClass R_E = some m.cls := hown
  have hl : lv_has ls 2 [(0, .ref (q 0)), (1, .int x1)] := hl
  have hS : va_S A s.heap s.heap [] := va_S.rf
  have hD : ∀ σ' : St, va_D A (wE cI cZ q σ' ++ tl) := fun σ' => va_Dsame hD0 rfl
  unfold f_E_isMethod at h
  refine lv_iload_n hx hb d_E_isMethod_0 rfl (lv_at hl 1 rfl) ?_
  refine lv_aload_n hx hb d_E_isMethod_1 rfl (lv_at hl 0 rfl) ?_
  refine va_get (D := D) (ci := 0) (v := .ref (q 1)) (C := R_E) (T := T_E) (N := 4) hx hb hts l_E hown hK hP 0 rfl rfl 0 (by decide) (hts _ w_89) (fun _ h9 => h9) rfl d_E_isMethod_2 ?_
  refine va_getN (D := D) (ci := 1) (v := .int (σ 1 0)) (C := R_P) (T := T_P) (N := 8) hx hb hts l_P hown hK hP 1 rfl rfl 0 (by decide) (va_Nw.use rfl (nf_0 hE)) (fun _ h9 => h9) rfl d_E_isMethod_5 ?_
  obtain ⟨u8, hu8, h⟩ := bnd h
  refine gcall_i (va_runS (As := [.int x1, .int (σ 1 0)]) (rest := []) ⟨hx, hb, hml, hown, hts⟩ (c_E_isBelow l D cI cZ tL (wE cI cZ q σ ++ tl) x1 (σ 1 0) u8 hu8 s.heap.size) (va_cwS 2 hts (gS w_121 w_122 w_1 w_123) rfl rfl rfl (by decide +kernel) ⟨Nat.le_of_ble_eq_true rfl, Nat.le_of_ble_eq_true rfl⟩) (gpS hA hK (hD σ) hE hP hS) rfl rfl hl.1 rfl (lv_room (Nat.le_of_ble_eq_true rfl)) d_E_isMethod_8 ⟨Nat.le_of_ble_eq_true rfl, Nat.le_of_ble_eq_true rfl⟩) hA (hD σ) hS (fun H locs hP hS => ?_)
  obtain ⟨c, h⟩ := ifs h
  cases h
  exact gret_z hx hb hr hlk (gz c) hP hS d_E_isMethod_11
/-! ===== EscapeOwners.step(IIIII)I ===== -/
def f_E_step (F : Nat) (σ : St) (x1 : Int32) (x2 : Int32) (x3 : Int32) (x4 : Int32) (x5 : Int32) : Option (Int32 × St) := Option.bind (f_E_isMethod σ x1) (fun u2 => if u2 = 0 then (some ((-2 : Int32), σ)) else (Option.bind (f_E_isBelow x2 (11 : Int32)) (fun u11 => if u11 = 0 then (some ((-2 : Int32), σ)) else (if x2 = (6 : Int32) then (some ((-2 : Int32), σ)) else (Option.bind (f_E_fits x2 (0 : Int32) x3) (fun u29 => if u29 = 0 then (some ((-2 : Int32), σ)) else (Option.bind (f_E_fits x2 (1 : Int32) x4) (fun u39 => if u39 = 0 then (some ((-2 : Int32), σ)) else (Option.bind (f_E_fits x2 (2 : Int32) x5) (fun u49 => if u49 = 0 then (some ((-2 : Int32), σ)) else (Option.bind (f_P_hasRoomFor σ x2) (fun u63 => if u63 = 0 then (some ((-3 : Int32), σ)) else (Option.bind (f_S_forget σ) (fun u76 => Option.bind (f_P_addStep F u76 x1 x2) (fun u85 => Option.bind (f_E_needed x2 (0 : Int32) x3) (fun u100 => Option.bind (f_P_setNeed u85.2 u85.1 (0 : Int32) u100) (fun u103 => Option.bind (f_E_needed x2 (1 : Int32) x4) (fun u117 => Option.bind (f_P_setNeed u103 u85.1 (1 : Int32) u117) (fun u120 => Option.bind (f_E_needed x2 (2 : Int32) x5) (fun u134 => Option.bind (f_P_setNeed u120 u85.1 (2 : Int32) u134) (fun u137 => some (u85.1, u137))))))))))))))))))))))
set_option maxHeartbeats 4000000 in
set_option maxRecDepth 100000 in
theorem c_E_step (l : Launch) (D : va_G) (cI cZ : ClassId) (tL : Nat) (q : Nat → Nat) (tl : va_W) (F : Nat) (σ : St) (x1 : Int32) (x2 : Int32) (x3 : Int32) (x4 : Int32) (x5 : Int32) (out0 : Int32 × St) (h : f_E_step F σ x1 x2 x3 x4 x5 = some out0) : gCi l y_E_step (.code y_E_step b_E_step 7 (some .int) :: TB) { frames := 3, cells := 0, slots := 0, locals := 69 } D [(cI, .int), (cZ, .boolean)] tL [.ref (q 0), .int x1, .int x2, .int x3, .int x4, .int x5] (wE cI cZ q σ ++ tl) out0.1 (wE cI cZ q out0.2 ++ tl) := by
  refine gCi_of (cc := b_E_step) (maxL := 7) (ty := .int) (by decide) rfl (Nat.le_of_ble_eq_true rfl) ?_
  intro p e s m below meth c A ls hf hr hlk hA hK hD0 hE hP hl
  obtain ⟨hx, hb, hml, hown, hts⟩ := id hf
  have hts : ∀ w ∈ TB, w.before _ s = true := fun w h => hts w (List.mem_cons_of_mem _ h)
  have hown : s.vm.findClass R_E = some m.cls := hown
  have hl : lv_has ls 7 [(0, .ref (q 0)), (1, .int x1), (2, .int x2), (3, .int x3), (4, .int x4), (5, .int x5)] := hl
  have hS : va_S A s.heap s.heap [] := va_S.rf
  have hD : ∀ σ' : St, va_D A (wE cI cZ q σ' ++ tl) := fun σ' => va_Dsame hD0 rfl
  unfold f_E_step at h
  refine lv_aload_n hx hb d_E_step_0 rfl (lv_at hl 0 rfl) ?_
  refine lv_iload_n hx hb d_E_step_1 rfl (lv_at hl 1 rfl) ?_
  obtain ⟨u2, hu2, h⟩ := bnd h
  refine gcall_i (va_runV (As := [.int x1]) (rest := []) ⟨hx, hb, hml, hown, hts⟩ (c_E_isMethod l D cI cZ tL q tl σ x1 u2 hu2 s.heap.size) (cwV 1 hts (gV w_118 w_119 w_669 w_1 w_120) rfl rfl rfl (by decide +kernel) ⟨Nat.le_of_ble_eq_true rfl, Nat.le_of_ble_eq_true rfl⟩) (gpV (k := 0) (ci := 0) hA hK (hD σ) hE hP hS rfl rfl) rfl rfl hl.1 rfl (lv_room (Nat.le_of_ble_eq_true rfl)) d_E_step_2 ⟨Nat.le_of_ble_eq_true rfl, Nat.le_of_ble_eq_true rfl⟩) hA (hD σ) hS (fun H locs hP hS => ?_)
  refine lv_if_eq (tgt := 23) hx hb d_E_step_5 (by decide) (fun c => ?_) (fun c => ?_)
  · have h := ifp c h
    refine lv_bipush (v := -2) hx hb d_E_step_23 (by decide) ?_
    cases h
    exact gret_i hx hb hr hlk hP hS d_E_step_25
  have h := ifn c h
  refine lv_iload_n hx hb d_E_step_8 rfl (lv_at hl 2 rfl) ?_
  refine lv_bipush (v := 11) hx hb d_E_step_9 (by decide) ?_
  obtain ⟨u11, hu11, h⟩ := bnd h
  refine gcall_i (va_runS (As := [.int x2, .int (11 : Int32)]) (rest := []) ⟨hx, hb, hml, hown, hts⟩ (c_E_isBelow l D cI cZ tL (wE cI cZ q σ ++ tl) x2 (11 : Int32) u11 hu11 H.size) (va_cwS 2 hts (gS w_121 w_122 w_1 w_123) rfl rfl rfl (by decide +kernel) ⟨Nat.le_of_ble_eq_true rfl, Nat.le_of_ble_eq_true rfl⟩) (gpS hA hK (hD σ) hE hP hS) rfl rfl hl.1 rfl (lv_room (Nat.le_of_ble_eq_true rfl)) d_E_step_11 ⟨Nat.le_of_ble_eq_true rfl, Nat.le_of_ble_eq_true rfl⟩) hA (hD σ) hS (fun H locs hP hS => ?_)
  refine lv_if_eq (tgt := 23) hx hb d_E_step_14 (by decide) (fun c => ?_) (fun c => ?_)
  · have h := ifp c h
    refine lv_bipush (v := -2) hx hb d_E_step_23 (by decide) ?_
    cases h
    exact gret_i hx hb hr hlk hP hS d_E_step_25
  have h := ifn c h
  refine lv_iload_n hx hb d_E_step_17 rfl (lv_at hl 2 rfl) ?_
  refine lv_bipush (v := 6) hx hb d_E_step_18 (by decide) ?_
  refine lv_icmp_ne (tgt := 26) hx hb d_E_step_20 (by decide) (fun c => ?_) (fun c => ?_)
  · have h := ifn c h
    refine lv_iload_n hx hb d_E_step_26 rfl (lv_at hl 2 rfl) ?_
    refine lv_iconst (v := 0) hx hb d_E_step_27 (by decide) ?_
    refine lv_iload_n hx hb d_E_step_28 rfl (lv_at hl 3 rfl) ?_
    obtain ⟨u29, hu29, h⟩ := bnd h
    refine gcall_i (va_runS (As := [.int x2, .int (0 : Int32), .int x3]) (rest := []) ⟨hx, hb, hml, hown, hts⟩ (c_E_fits l D cI cZ tL (wE cI cZ q σ ++ tl) x2 (0 : Int32) x3 u29 hu29 H.size) (va_cwS 3 hts (gS w_124 w_125 w_1 w_126) rfl rfl rfl (by decide +kernel) ⟨Nat.le_of_ble_eq_true rfl, Nat.le_of_ble_eq_true rfl⟩) (gpS hA hK (hD σ) hE hP hS) rfl rfl hl.1 rfl (lv_room (Nat.le_of_ble_eq_true rfl)) d_E_step_29 ⟨Nat.le_of_ble_eq_true rfl, Nat.le_of_ble_eq_true rfl⟩) hA (hD σ) hS (fun H locs hP hS => ?_)
    refine lv_if_eq (tgt := 55) hx hb d_E_step_32 (by decide) (fun c => ?_) (fun c => ?_)
    · have h := ifp c h
      refine lv_bipush (v := -2) hx hb d_E_step_55 (by decide) ?_
      cases h
      exact gret_i hx hb hr hlk hP hS d_E_step_57
    have h := ifn c h
    refine lv_iload_n hx hb d_E_step_35 rfl (lv_at hl 2 rfl) ?_
    refine lv_iconst (v := 1) hx hb d_E_step_36 (by decide) ?_
    refine lv_iload hx hb d_E_step_37 (lv_at hl 4 rfl) ?_
    obtain ⟨u39, hu39, h⟩ := bnd h
    refine gcall_i (va_runS (As := [.int x2, .int (1 : Int32), .int x4]) (rest := []) ⟨hx, hb, hml, hown, hts⟩ (c_E_fits l D cI cZ tL (wE cI cZ q σ ++ tl) x2 (1 : Int32) x4 u39 hu39 H.size) (va_cwS 3 hts (gS w_124 w_125 w_1 w_126) rfl rfl rfl (by decide +kernel) ⟨Nat.le_of_ble_eq_true rfl, Nat.le_of_ble_eq_true rfl⟩) (gpS hA hK (hD σ) hE hP hS) rfl rfl hl.1 rfl (lv_room (Nat.le_of_ble_eq_true rfl)) d_E_step_39 ⟨Nat.le_of_ble_eq_true rfl, Nat.le_of_ble_eq_true rfl⟩) hA (hD σ) hS (fun H locs hP hS => ?_)
    refine lv_if_eq (tgt := 55) hx hb d_E_step_42 (by decide) (fun c => ?_) (fun c => ?_)
    · have h := ifp c h
      refine lv_bipush (v := -2) hx hb d_E_step_55 (by decide) ?_
      cases h
      exact gret_i hx hb hr hlk hP hS d_E_step_57
    have h := ifn c h
    refine lv_iload_n hx hb d_E_step_45 rfl (lv_at hl 2 rfl) ?_
    refine lv_iconst (v := 2) hx hb d_E_step_46 (by decide) ?_
    refine lv_iload hx hb d_E_step_47 (lv_at hl 5 rfl) ?_
    obtain ⟨u49, hu49, h⟩ := bnd h
    refine gcall_i (va_runS (As := [.int x2, .int (2 : Int32), .int x5]) (rest := []) ⟨hx, hb, hml, hown, hts⟩ (c_E_fits l D cI cZ tL (wE cI cZ q σ ++ tl) x2 (2 : Int32) x5 u49 hu49 H.size) (va_cwS 3 hts (gS w_124 w_125 w_1 w_126) rfl rfl rfl (by decide +kernel) ⟨Nat.le_of_ble_eq_true rfl, Nat.le_of_ble_eq_true rfl⟩) (gpS hA hK (hD σ) hE hP hS) rfl rfl hl.1 rfl (lv_room (Nat.le_of_ble_eq_true rfl)) d_E_step_49 ⟨Nat.le_of_ble_eq_true rfl, Nat.le_of_ble_eq_true rfl⟩) hA (hD σ) hS (fun H locs hP hS => ?_)
    refine lv_if_ne (tgt := 58) hx hb d_E_step_52 (by decide) (fun c => ?_) (fun c => ?_)
    · have h := ifn c h
      refine lv_aload_n hx hb d_E_step_58 rfl (lv_at hl 0 rfl) ?_
      refine va_get (D := D) (ci := 0) (v := .ref (q 1)) (C := R_E) (T := T_E) (N := 4) hx hb hts l_E hown hK hP 0 rfl rfl 0 (by decide) (hts _ w_89) (fun _ h9 => h9) rfl d_E_step_59 ?_
      refine lv_iload_n hx hb d_E_step_62 rfl (lv_at hl 2 rfl) ?_
      obtain ⟨u63, hu63, h⟩ := bnd h
      refine gcall_i (va_runV (As := [.int x2]) (rest := []) ⟨hx, hb, hml, hown, hts⟩ (c_P_hasRoomFor l D cI cZ tL q tl σ x2 u63 hu63 H.size) (cwV 1 hts (gV w_134 w_135 w_136 w_2 w_137) rfl rfl rfl (by decide +kernel) ⟨Nat.le_of_ble_eq_true rfl, Nat.le_of_ble_eq_true rfl⟩) (gpV (k := 1) (ci := 1) hA hK (hD σ) hE hP hS rfl rfl) rfl rfl hl.1 rfl (lv_room (Nat.le_of_ble_eq_true rfl)) d_E_step_63 ⟨Nat.le_of_ble_eq_true rfl, Nat.le_of_ble_eq_true rfl⟩) hA (hD σ) hS (fun H locs hP hS => ?_)
      refine lv_if_ne (tgt := 72) hx hb d_E_step_66 (by decide) (fun c => ?_) (fun c => ?_)
      · have h := ifn c h
        refine lv_aload_n hx hb d_E_step_72 rfl (lv_at hl 0 rfl) ?_
        refine va_get (D := D) (ci := 0) (v := .ref (q 2)) (C := R_E) (T := T_E) (N := 4) hx hb hts l_E hown hK hP 0 rfl rfl 1 (by decide) (hts _ w_90) (fun _ h9 => h9) rfl d_E_step_73 ?_
        obtain ⟨u76, hu76, h⟩ := bnd h
        refine gcall_v (va_runV (As := []) (rest := []) ⟨hx, hb, hml, hown, hts⟩ (c_S_forget l D cI cZ tL q tl σ  u76 hu76 H.size) (cwV 0 hts (gV w_104 w_105 w_106 w_3 w_107) rfl rfl rfl (by decide +kernel) ⟨Nat.le_of_ble_eq_true rfl, Nat.le_of_ble_eq_true rfl⟩) (gpV (k := 2) (ci := 2) hA hK (hD σ) hE hP hS rfl rfl) rfl rfl hl.1 rfl (lv_room (Nat.le_of_ble_eq_true rfl)) d_E_step_76 ⟨Nat.le_of_ble_eq_true rfl, Nat.le_of_ble_eq_true rfl⟩) hA (hD σ) hS (fun H locs hP hS => ?_)
        refine lv_aload_n hx hb d_E_step_79 rfl (lv_at hl 0 rfl) ?_
        refine va_get (D := D) (ci := 0) (v := .ref (q 1)) (C := R_E) (T := T_E) (N := 4) hx hb hts l_E hown hK hP 0 rfl rfl 0 (by decide) (hts _ w_89) (fun _ h9 => h9) rfl d_E_step_80 ?_
        refine lv_iload_n hx hb d_E_step_83 rfl (lv_at hl 1 rfl) ?_
        refine lv_iload_n hx hb d_E_step_84 rfl (lv_at hl 2 rfl) ?_
        obtain ⟨u85, hu85, h⟩ := bnd h
        refine gcall_i (va_runV (As := [.int x1, .int x2]) (rest := []) ⟨hx, hb, hml, hown, hts⟩ (c_P_addStep l D cI cZ tL q tl F u76 x1 x2 u85 hu85 H.size) (cwV 2 hts (gV w_138 w_139 w_140 w_2 w_141) rfl rfl rfl (by decide +kernel) ⟨Nat.le_of_ble_eq_true rfl, Nat.le_of_ble_eq_true rfl⟩) (gpV (k := 1) (ci := 1) hA hK (hD u76) hE hP hS rfl rfl) rfl rfl hl.1 rfl (lv_room (Nat.le_of_ble_eq_true rfl)) d_E_step_85 ⟨Nat.le_of_ble_eq_true rfl, Nat.le_of_ble_eq_true rfl⟩) hA (hD u76) hS (fun H locs hP hS => ?_)
        refine lv_istore (lv' := [(6, .int u85.1), (0, .ref (q 0)), (1, .int x1), (2, .int x2), (3, .int x3), (4, .int x4), (5, .int x5)]) hx hb d_E_step_88 hl (by decide) rfl (fun ls hl => ?_)
        refine lv_aload_n hx hb d_E_step_90 rfl (lv_at hl 1 rfl) ?_
        refine va_get (D := D) (ci := 0) (v := .ref (q 1)) (C := R_E) (T := T_E) (N := 4) hx hb hts l_E hown hK hP 0 rfl rfl 0 (by decide) (hts _ w_89) (fun _ h9 => h9) rfl d_E_step_91 ?_
        refine lv_iload hx hb d_E_step_94 (lv_at hl 0 rfl) ?_
        refine lv_iconst (v := 0) hx hb d_E_step_96 (by decide) ?_
        refine lv_iload_n hx hb d_E_step_97 rfl (lv_at hl 3 rfl) ?_
        refine lv_iconst (v := 0) hx hb d_E_step_98 (by decide) ?_
        refine lv_iload_n hx hb d_E_step_99 rfl (lv_at hl 4 rfl) ?_
        obtain ⟨u100, hu100, h⟩ := bnd h
        refine gcall_i (va_runS (As := [.int x2, .int (0 : Int32), .int x3]) (rest := [.int (0 : Int32), .int u85.1, .ref (q 1)]) ⟨hx, hb, hml, hown, hts⟩ (c_E_needed l D cI cZ tL (wE cI cZ q u85.2 ++ tl) x2 (0 : Int32) x3 u100 hu100 H.size) (va_cwS 3 hts (gS w_148 w_149 w_1 w_150) rfl rfl rfl (by decide +kernel) ⟨Nat.le_of_ble_eq_true rfl, Nat.le_of_ble_eq_true rfl⟩) (gpS hA hK (hD u85.2) hE hP hS) rfl rfl hl.1 rfl (lv_room (Nat.le_of_ble_eq_true rfl)) d_E_step_100 ⟨Nat.le_of_ble_eq_true rfl, Nat.le_of_ble_eq_true rfl⟩) hA (hD u85.2) hS (fun H locs hP hS => ?_)
        obtain ⟨u103, hu103, h⟩ := bnd h
        refine gcall_v (va_runV (As := [.int u85.1, .int (0 : Int32), .int u100]) (rest := []) ⟨hx, hb, hml, hown, hts⟩ (c_P_setNeed l D cI cZ tL q tl u85.2 u85.1 (0 : Int32) u100 u103 hu103 H.size) (cwV 3 hts (gV w_151 w_145 w_146 w_2 w_147) rfl rfl rfl (by decide +kernel) ⟨Nat.le_of_ble_eq_true rfl, Nat.le_of_ble_eq_true rfl⟩) (gpV (k := 1) (ci := 1) hA hK (hD u85.2) hE hP hS rfl rfl) rfl rfl hl.1 rfl (lv_room (Nat.le_of_ble_eq_true rfl)) d_E_step_103 ⟨Nat.le_of_ble_eq_true rfl, Nat.le_of_ble_eq_true rfl⟩) hA (hD u85.2) hS (fun H locs hP hS => ?_)
        refine lv_aload_n hx hb d_E_step_106 rfl (lv_at hl 1 rfl) ?_
        refine va_get (D := D) (ci := 0) (v := .ref (q 1)) (C := R_E) (T := T_E) (N := 4) hx hb hts l_E hown hK hP 0 rfl rfl 0 (by decide) (hts _ w_89) (fun _ h9 => h9) rfl d_E_step_107 ?_
        refine lv_iload hx hb d_E_step_110 (lv_at hl 0 rfl) ?_
        refine lv_iconst (v := 1) hx hb d_E_step_112 (by decide) ?_
        refine lv_iload_n hx hb d_E_step_113 rfl (lv_at hl 3 rfl) ?_
        refine lv_iconst (v := 1) hx hb d_E_step_114 (by decide) ?_
        refine lv_iload hx hb d_E_step_115 (lv_at hl 5 rfl) ?_
        obtain ⟨u117, hu117, h⟩ := bnd h
        refine gcall_i (va_runS (As := [.int x2, .int (1 : Int32), .int x4]) (rest := [.int (1 : Int32), .int u85.1, .ref (q 1)]) ⟨hx, hb, hml, hown, hts⟩ (c_E_needed l D cI cZ tL (wE cI cZ q u103 ++ tl) x2 (1 : Int32) x4 u117 hu117 H.size) (va_cwS 3 hts (gS w_148 w_149 w_1 w_150) rfl rfl rfl (by decide +kernel) ⟨Nat.le_of_ble_eq_true rfl, Nat.le_of_ble_eq_true rfl⟩) (gpS hA hK (hD u103) hE hP hS) rfl rfl hl.1 rfl (lv_room (Nat.le_of_ble_eq_true rfl)) d_E_step_117 ⟨Nat.le_of_ble_eq_true rfl, Nat.le_of_ble_eq_true rfl⟩) hA (hD u103) hS (fun H locs hP hS => ?_)
        obtain ⟨u120, hu120, h⟩ := bnd h
        refine gcall_v (va_runV (As := [.int u85.1, .int (1 : Int32), .int u117]) (rest := []) ⟨hx, hb, hml, hown, hts⟩ (c_P_setNeed l D cI cZ tL q tl u103 u85.1 (1 : Int32) u117 u120 hu120 H.size) (cwV 3 hts (gV w_151 w_145 w_146 w_2 w_147) rfl rfl rfl (by decide +kernel) ⟨Nat.le_of_ble_eq_true rfl, Nat.le_of_ble_eq_true rfl⟩) (gpV (k := 1) (ci := 1) hA hK (hD u103) hE hP hS rfl rfl) rfl rfl hl.1 rfl (lv_room (Nat.le_of_ble_eq_true rfl)) d_E_step_120 ⟨Nat.le_of_ble_eq_true rfl, Nat.le_of_ble_eq_true rfl⟩) hA (hD u103) hS (fun H locs hP hS => ?_)
        refine lv_aload_n hx hb d_E_step_123 rfl (lv_at hl 1 rfl) ?_
        refine va_get (D := D) (ci := 0) (v := .ref (q 1)) (C := R_E) (T := T_E) (N := 4) hx hb hts l_E hown hK hP 0 rfl rfl 0 (by decide) (hts _ w_89) (fun _ h9 => h9) rfl d_E_step_124 ?_
        refine lv_iload hx hb d_E_step_127 (lv_at hl 0 rfl) ?_
        refine lv_iconst (v := 2) hx hb d_E_step_129 (by decide) ?_
        refine lv_iload_n hx hb d_E_step_130 rfl (lv_at hl 3 rfl) ?_
        refine lv_iconst (v := 2) hx hb d_E_step_131 (by decide) ?_
        refine lv_iload hx hb d_E_step_132 (lv_at hl 6 rfl) ?_
        obtain ⟨u134, hu134, h⟩ := bnd h
        refine gcall_i (va_runS (As := [.int x2, .int (2 : Int32), .int x5]) (rest := [.int (2 : Int32), .int u85.1, .ref (q 1)]) ⟨hx, hb, hml, hown, hts⟩ (c_E_needed l D cI cZ tL (wE cI cZ q u120 ++ tl) x2 (2 : Int32) x5 u134 hu134 H.size) (va_cwS 3 hts (gS w_148 w_149 w_1 w_150) rfl rfl rfl (by decide +kernel) ⟨Nat.le_of_ble_eq_true rfl, Nat.le_of_ble_eq_true rfl⟩) (gpS hA hK (hD u120) hE hP hS) rfl rfl hl.1 rfl (lv_room (Nat.le_of_ble_eq_true rfl)) d_E_step_134 ⟨Nat.le_of_ble_eq_true rfl, Nat.le_of_ble_eq_true rfl⟩) hA (hD u120) hS (fun H locs hP hS => ?_)
        obtain ⟨u137, hu137, h⟩ := bnd h
        refine gcall_v (va_runV (As := [.int u85.1, .int (2 : Int32), .int u134]) (rest := []) ⟨hx, hb, hml, hown, hts⟩ (c_P_setNeed l D cI cZ tL q tl u120 u85.1 (2 : Int32) u134 u137 hu137 H.size) (cwV 3 hts (gV w_151 w_145 w_146 w_2 w_147) rfl rfl rfl (by decide +kernel) ⟨Nat.le_of_ble_eq_true rfl, Nat.le_of_ble_eq_true rfl⟩) (gpV (k := 1) (ci := 1) hA hK (hD u120) hE hP hS rfl rfl) rfl rfl hl.1 rfl (lv_room (Nat.le_of_ble_eq_true rfl)) d_E_step_137 ⟨Nat.le_of_ble_eq_true rfl, Nat.le_of_ble_eq_true rfl⟩) hA (hD u120) hS (fun H locs hP hS => ?_)
        refine lv_iload hx hb d_E_step_140 (lv_at hl 0 rfl) ?_
        cases h
        exact gret_i hx hb hr hlk hP hS d_E_step_142
      have h := ifp c h
      refine lv_bipush (v := -3) hx hb d_E_step_69 (by decide) ?_
      cases h
      exact gret_i hx hb hr hlk hP hS d_E_step_71
    have h := ifp c h
    refine lv_bipush (v := -2) hx hb d_E_step_55 (by decide) ?_
    cases h
    exact gret_i hx hb hr hlk hP hS d_E_step_57
  have h := ifp c h
  refine lv_bipush (v := -2) hx hb d_E_step_23 (by decide) ?_
  cases h
  exact gret_i hx hb hr hlk hP hS d_E_step_25
/-! ===== EscapeOwners.call(IIIIII)I ===== -/
def f_E_call (F : Nat) (σ : St) (x1 : Int32) (x2 : Int32) (x3 : Int32) (x4 : Int32) (x5 : Int32) (x6 : Int32) : Option (Int32 × St) := Option.bind (f_E_isMethod σ x1) (fun u2 => if u2 = 0 then (some ((-2 : Int32), σ)) else (Option.bind (f_E_isMethod σ x2) (fun u10 => if u10 = 0 then (some ((-2 : Int32), σ)) else (Option.bind (f_E_isNameOrNone x3) (fun u20 => if u20 = 0 then (some ((-2 : Int32), σ)) else (Option.bind (f_E_isNameOrNone x4) (fun u28 => if u28 = 0 then (some ((-2 : Int32), σ)) else (Option.bind (f_E_isNameOrNone x5) (fun u36 => if u36 = 0 then (some ((-2 : Int32), σ)) else (Option.bind (f_E_isNameOrNone x6) (fun u44 => if u44 = 0 then (some ((-2 : Int32), σ)) else (Option.bind (f_P_hasRoomFor σ (6 : Int32)) (fun u59 => if u59 = 0 then (some ((-3 : Int32), σ)) else (Option.bind (f_S_forget σ) (fun u72 => Option.bind (f_P_addStep F u72 x1 (6 : Int32)) (fun u82 => Option.bind (f_P_setNeed u82.2 u82.1 (0 : Int32) x2) (fun u95 => Option.bind (f_P_setNeed u95 u82.1 (1 : Int32) x3) (fun u106 => Option.bind (f_P_setNeed u106 u82.1 (2 : Int32) x4) (fun u118 => Option.bind (f_P_setNeed u118 u82.1 (3 : Int32) x5) (fun u130 => Option.bind (f_P_setNeed u130 u82.1 (4 : Int32) x6) (fun u142 => some (u82.1, u142))))))))))))))))))))))
set_option maxHeartbeats 4000000 in
set_option maxRecDepth 100000 in
theorem c_E_call (l : Launch) (D : va_G) (cI cZ : ClassId) (tL : Nat) (q : Nat → Nat) (tl : va_W) (F : Nat) (σ : St) (x1 : Int32) (x2 : Int32) (x3 : Int32) (x4 : Int32) (x5 : Int32) (x6 : Int32) (out0 : Int32 × St) (h : f_E_call F σ x1 x2 x3 x4 x5 x6 = some out0) : gCi l y_E_call (.code y_E_call b_E_call 8 (some .int) :: TB) { frames := 3, cells := 0, slots := 0, locals := 69 } D [(cI, .int), (cZ, .boolean)] tL [.ref (q 0), .int x1, .int x2, .int x3, .int x4, .int x5, .int x6] (wE cI cZ q σ ++ tl) out0.1 (wE cI cZ q out0.2 ++ tl) := by
  refine gCi_of (cc := b_E_call) (maxL := 8) (ty := .int) (by decide) rfl (Nat.le_of_ble_eq_true rfl) ?_
  intro p e s m below meth c A ls hf hr hlk hA hK hD0 hE hP hl
  obtain ⟨hx, hb, hml, hown, hts⟩ := id hf
  have hts : ∀ w ∈ TB, w.before _ s = true := fun w h => hts w (List.mem_cons_of_mem _ h)
  have hown : s.vm.findClass R_E = some m.cls := hown
  have hl : lv_has ls 8 [(0, .ref (q 0)), (1, .int x1), (2, .int x2), (3, .int x3), (4, .int x4), (5, .int x5), (6, .int x6)] := hl
  have hS : va_S A s.heap s.heap [] := va_S.rf
  have hD : ∀ σ' : St, va_D A (wE cI cZ q σ' ++ tl) := fun σ' => va_Dsame hD0 rfl
  unfold f_E_call at h
  refine lv_aload_n hx hb d_E_call_0 rfl (lv_at hl 0 rfl) ?_
  refine lv_iload_n hx hb d_E_call_1 rfl (lv_at hl 1 rfl) ?_
  obtain ⟨u2, hu2, h⟩ := bnd h
  refine gcall_i (va_runV (As := [.int x1]) (rest := []) ⟨hx, hb, hml, hown, hts⟩ (c_E_isMethod l D cI cZ tL q tl σ x1 u2 hu2 s.heap.size) (cwV 1 hts (gV w_118 w_119 w_669 w_1 w_120) rfl rfl rfl (by decide +kernel) ⟨Nat.le_of_ble_eq_true rfl, Nat.le_of_ble_eq_true rfl⟩) (gpV (k := 0) (ci := 0) hA hK (hD σ) hE hP hS rfl rfl) rfl rfl hl.1 rfl (lv_room (Nat.le_of_ble_eq_true rfl)) d_E_call_2 ⟨Nat.le_of_ble_eq_true rfl, Nat.le_of_ble_eq_true rfl⟩) hA (hD σ) hS (fun H locs hP hS => ?_)
  refine lv_if_eq (tgt := 16) hx hb d_E_call_5 (by decide) (fun c => ?_) (fun c => ?_)
  · have h := ifp c h
    refine lv_bipush (v := -2) hx hb d_E_call_16 (by decide) ?_
    cases h
    exact gret_i hx hb hr hlk hP hS d_E_call_18
  have h := ifn c h
  refine lv_aload_n hx hb d_E_call_8 rfl (lv_at hl 0 rfl) ?_
  refine lv_iload_n hx hb d_E_call_9 rfl (lv_at hl 2 rfl) ?_
  obtain ⟨u10, hu10, h⟩ := bnd h
  refine gcall_i (va_runV (As := [.int x2]) (rest := []) ⟨hx, hb, hml, hown, hts⟩ (c_E_isMethod l D cI cZ tL q tl σ x2 u10 hu10 H.size) (cwV 1 hts (gV w_118 w_119 w_669 w_1 w_120) rfl rfl rfl (by decide +kernel) ⟨Nat.le_of_ble_eq_true rfl, Nat.le_of_ble_eq_true rfl⟩) (gpV (k := 0) (ci := 0) hA hK (hD σ) hE hP hS rfl rfl) rfl rfl hl.1 rfl (lv_room (Nat.le_of_ble_eq_true rfl)) d_E_call_10 ⟨Nat.le_of_ble_eq_true rfl, Nat.le_of_ble_eq_true rfl⟩) hA (hD σ) hS (fun H locs hP hS => ?_)
  refine lv_if_ne (tgt := 19) hx hb d_E_call_13 (by decide) (fun c => ?_) (fun c => ?_)
  · have h := ifn c h
    refine lv_iload_n hx hb d_E_call_19 rfl (lv_at hl 3 rfl) ?_
    obtain ⟨u20, hu20, h⟩ := bnd h
    refine gcall_i (va_runS (As := [.int x3]) (rest := []) ⟨hx, hb, hml, hown, hts⟩ (c_E_isNameOrNone l D cI cZ tL (wE cI cZ q σ ++ tl) x3 u20 hu20 H.size) (va_cwS 1 hts (gS w_155 w_156 w_1 w_157) rfl rfl rfl (by decide +kernel) ⟨Nat.le_of_ble_eq_true rfl, Nat.le_of_ble_eq_true rfl⟩) (gpS hA hK (hD σ) hE hP hS) rfl rfl hl.1 rfl (lv_room (Nat.le_of_ble_eq_true rfl)) d_E_call_20 ⟨Nat.le_of_ble_eq_true rfl, Nat.le_of_ble_eq_true rfl⟩) hA (hD σ) hS (fun H locs hP hS => ?_)
    refine lv_if_eq (tgt := 50) hx hb d_E_call_23 (by decide) (fun c => ?_) (fun c => ?_)
    · have h := ifp c h
      refine lv_bipush (v := -2) hx hb d_E_call_50 (by decide) ?_
      cases h
      exact gret_i hx hb hr hlk hP hS d_E_call_52
    have h := ifn c h
    refine lv_iload hx hb d_E_call_26 (lv_at hl 4 rfl) ?_
    obtain ⟨u28, hu28, h⟩ := bnd h
    refine gcall_i (va_runS (As := [.int x4]) (rest := []) ⟨hx, hb, hml, hown, hts⟩ (c_E_isNameOrNone l D cI cZ tL (wE cI cZ q σ ++ tl) x4 u28 hu28 H.size) (va_cwS 1 hts (gS w_155 w_156 w_1 w_157) rfl rfl rfl (by decide +kernel) ⟨Nat.le_of_ble_eq_true rfl, Nat.le_of_ble_eq_true rfl⟩) (gpS hA hK (hD σ) hE hP hS) rfl rfl hl.1 rfl (lv_room (Nat.le_of_ble_eq_true rfl)) d_E_call_28 ⟨Nat.le_of_ble_eq_true rfl, Nat.le_of_ble_eq_true rfl⟩) hA (hD σ) hS (fun H locs hP hS => ?_)
    refine lv_if_eq (tgt := 50) hx hb d_E_call_31 (by decide) (fun c => ?_) (fun c => ?_)
    · have h := ifp c h
      refine lv_bipush (v := -2) hx hb d_E_call_50 (by decide) ?_
      cases h
      exact gret_i hx hb hr hlk hP hS d_E_call_52
    have h := ifn c h
    refine lv_iload hx hb d_E_call_34 (lv_at hl 5 rfl) ?_
    obtain ⟨u36, hu36, h⟩ := bnd h
    refine gcall_i (va_runS (As := [.int x5]) (rest := []) ⟨hx, hb, hml, hown, hts⟩ (c_E_isNameOrNone l D cI cZ tL (wE cI cZ q σ ++ tl) x5 u36 hu36 H.size) (va_cwS 1 hts (gS w_155 w_156 w_1 w_157) rfl rfl rfl (by decide +kernel) ⟨Nat.le_of_ble_eq_true rfl, Nat.le_of_ble_eq_true rfl⟩) (gpS hA hK (hD σ) hE hP hS) rfl rfl hl.1 rfl (lv_room (Nat.le_of_ble_eq_true rfl)) d_E_call_36 ⟨Nat.le_of_ble_eq_true rfl, Nat.le_of_ble_eq_true rfl⟩) hA (hD σ) hS (fun H locs hP hS => ?_)
    refine lv_if_eq (tgt := 50) hx hb d_E_call_39 (by decide) (fun c => ?_) (fun c => ?_)
    · have h := ifp c h
      refine lv_bipush (v := -2) hx hb d_E_call_50 (by decide) ?_
      cases h
      exact gret_i hx hb hr hlk hP hS d_E_call_52
    have h := ifn c h
    refine lv_iload hx hb d_E_call_42 (lv_at hl 6 rfl) ?_
    obtain ⟨u44, hu44, h⟩ := bnd h
    refine gcall_i (va_runS (As := [.int x6]) (rest := []) ⟨hx, hb, hml, hown, hts⟩ (c_E_isNameOrNone l D cI cZ tL (wE cI cZ q σ ++ tl) x6 u44 hu44 H.size) (va_cwS 1 hts (gS w_155 w_156 w_1 w_157) rfl rfl rfl (by decide +kernel) ⟨Nat.le_of_ble_eq_true rfl, Nat.le_of_ble_eq_true rfl⟩) (gpS hA hK (hD σ) hE hP hS) rfl rfl hl.1 rfl (lv_room (Nat.le_of_ble_eq_true rfl)) d_E_call_44 ⟨Nat.le_of_ble_eq_true rfl, Nat.le_of_ble_eq_true rfl⟩) hA (hD σ) hS (fun H locs hP hS => ?_)
    refine lv_if_ne (tgt := 53) hx hb d_E_call_47 (by decide) (fun c => ?_) (fun c => ?_)
    · have h := ifn c h
      refine lv_aload_n hx hb d_E_call_53 rfl (lv_at hl 0 rfl) ?_
      refine va_get (D := D) (ci := 0) (v := .ref (q 1)) (C := R_E) (T := T_E) (N := 4) hx hb hts l_E hown hK hP 0 rfl rfl 0 (by decide) (hts _ w_89) (fun _ h9 => h9) rfl d_E_call_54 ?_
      refine lv_bipush (v := 6) hx hb d_E_call_57 (by decide) ?_
      obtain ⟨u59, hu59, h⟩ := bnd h
      refine gcall_i (va_runV (As := [.int (6 : Int32)]) (rest := []) ⟨hx, hb, hml, hown, hts⟩ (c_P_hasRoomFor l D cI cZ tL q tl σ (6 : Int32) u59 hu59 H.size) (cwV 1 hts (gV w_134 w_135 w_136 w_2 w_137) rfl rfl rfl (by decide +kernel) ⟨Nat.le_of_ble_eq_true rfl, Nat.le_of_ble_eq_true rfl⟩) (gpV (k := 1) (ci := 1) hA hK (hD σ) hE hP hS rfl rfl) rfl rfl hl.1 rfl (lv_room (Nat.le_of_ble_eq_true rfl)) d_E_call_59 ⟨Nat.le_of_ble_eq_true rfl, Nat.le_of_ble_eq_true rfl⟩) hA (hD σ) hS (fun H locs hP hS => ?_)
      refine lv_if_ne (tgt := 68) hx hb d_E_call_62 (by decide) (fun c => ?_) (fun c => ?_)
      · have h := ifn c h
        refine lv_aload_n hx hb d_E_call_68 rfl (lv_at hl 0 rfl) ?_
        refine va_get (D := D) (ci := 0) (v := .ref (q 2)) (C := R_E) (T := T_E) (N := 4) hx hb hts l_E hown hK hP 0 rfl rfl 1 (by decide) (hts _ w_90) (fun _ h9 => h9) rfl d_E_call_69 ?_
        obtain ⟨u72, hu72, h⟩ := bnd h
        refine gcall_v (va_runV (As := []) (rest := []) ⟨hx, hb, hml, hown, hts⟩ (c_S_forget l D cI cZ tL q tl σ  u72 hu72 H.size) (cwV 0 hts (gV w_104 w_105 w_106 w_3 w_107) rfl rfl rfl (by decide +kernel) ⟨Nat.le_of_ble_eq_true rfl, Nat.le_of_ble_eq_true rfl⟩) (gpV (k := 2) (ci := 2) hA hK (hD σ) hE hP hS rfl rfl) rfl rfl hl.1 rfl (lv_room (Nat.le_of_ble_eq_true rfl)) d_E_call_72 ⟨Nat.le_of_ble_eq_true rfl, Nat.le_of_ble_eq_true rfl⟩) hA (hD σ) hS (fun H locs hP hS => ?_)
        refine lv_aload_n hx hb d_E_call_75 rfl (lv_at hl 0 rfl) ?_
        refine va_get (D := D) (ci := 0) (v := .ref (q 1)) (C := R_E) (T := T_E) (N := 4) hx hb hts l_E hown hK hP 0 rfl rfl 0 (by decide) (hts _ w_89) (fun _ h9 => h9) rfl d_E_call_76 ?_
        refine lv_iload_n hx hb d_E_call_79 rfl (lv_at hl 1 rfl) ?_
        refine lv_bipush (v := 6) hx hb d_E_call_80 (by decide) ?_
        obtain ⟨u82, hu82, h⟩ := bnd h
        refine gcall_i (va_runV (As := [.int x1, .int (6 : Int32)]) (rest := []) ⟨hx, hb, hml, hown, hts⟩ (c_P_addStep l D cI cZ tL q tl F u72 x1 (6 : Int32) u82 hu82 H.size) (cwV 2 hts (gV w_138 w_139 w_140 w_2 w_141) rfl rfl rfl (by decide +kernel) ⟨Nat.le_of_ble_eq_true rfl, Nat.le_of_ble_eq_true rfl⟩) (gpV (k := 1) (ci := 1) hA hK (hD u72) hE hP hS rfl rfl) rfl rfl hl.1 rfl (lv_room (Nat.le_of_ble_eq_true rfl)) d_E_call_82 ⟨Nat.le_of_ble_eq_true rfl, Nat.le_of_ble_eq_true rfl⟩) hA (hD u72) hS (fun H locs hP hS => ?_)
        refine lv_istore (lv' := [(7, .int u82.1), (0, .ref (q 0)), (1, .int x1), (2, .int x2), (3, .int x3), (4, .int x4), (5, .int x5), (6, .int x6)]) hx hb d_E_call_85 hl (by decide) rfl (fun ls hl => ?_)
        refine lv_aload_n hx hb d_E_call_87 rfl (lv_at hl 1 rfl) ?_
        refine va_get (D := D) (ci := 0) (v := .ref (q 1)) (C := R_E) (T := T_E) (N := 4) hx hb hts l_E hown hK hP 0 rfl rfl 0 (by decide) (hts _ w_89) (fun _ h9 => h9) rfl d_E_call_88 ?_
        refine lv_iload hx hb d_E_call_91 (lv_at hl 0 rfl) ?_
        refine lv_iconst (v := 0) hx hb d_E_call_93 (by decide) ?_
        refine lv_iload_n hx hb d_E_call_94 rfl (lv_at hl 3 rfl) ?_
        obtain ⟨u95, hu95, h⟩ := bnd h
        refine gcall_v (va_runV (As := [.int u82.1, .int (0 : Int32), .int x2]) (rest := []) ⟨hx, hb, hml, hown, hts⟩ (c_P_setNeed l D cI cZ tL q tl u82.2 u82.1 (0 : Int32) x2 u95 hu95 H.size) (cwV 3 hts (gV w_151 w_145 w_146 w_2 w_147) rfl rfl rfl (by decide +kernel) ⟨Nat.le_of_ble_eq_true rfl, Nat.le_of_ble_eq_true rfl⟩) (gpV (k := 1) (ci := 1) hA hK (hD u82.2) hE hP hS rfl rfl) rfl rfl hl.1 rfl (lv_room (Nat.le_of_ble_eq_true rfl)) d_E_call_95 ⟨Nat.le_of_ble_eq_true rfl, Nat.le_of_ble_eq_true rfl⟩) hA (hD u82.2) hS (fun H locs hP hS => ?_)
        refine lv_aload_n hx hb d_E_call_98 rfl (lv_at hl 1 rfl) ?_
        refine va_get (D := D) (ci := 0) (v := .ref (q 1)) (C := R_E) (T := T_E) (N := 4) hx hb hts l_E hown hK hP 0 rfl rfl 0 (by decide) (hts _ w_89) (fun _ h9 => h9) rfl d_E_call_99 ?_
        refine lv_iload hx hb d_E_call_102 (lv_at hl 0 rfl) ?_
        refine lv_iconst (v := 1) hx hb d_E_call_104 (by decide) ?_
        refine lv_iload_n hx hb d_E_call_105 rfl (lv_at hl 4 rfl) ?_
        obtain ⟨u106, hu106, h⟩ := bnd h
        refine gcall_v (va_runV (As := [.int u82.1, .int (1 : Int32), .int x3]) (rest := []) ⟨hx, hb, hml, hown, hts⟩ (c_P_setNeed l D cI cZ tL q tl u95 u82.1 (1 : Int32) x3 u106 hu106 H.size) (cwV 3 hts (gV w_151 w_145 w_146 w_2 w_147) rfl rfl rfl (by decide +kernel) ⟨Nat.le_of_ble_eq_true rfl, Nat.le_of_ble_eq_true rfl⟩) (gpV (k := 1) (ci := 1) hA hK (hD u95) hE hP hS rfl rfl) rfl rfl hl.1 rfl (lv_room (Nat.le_of_ble_eq_true rfl)) d_E_call_106 ⟨Nat.le_of_ble_eq_true rfl, Nat.le_of_ble_eq_true rfl⟩) hA (hD u95) hS (fun H locs hP hS => ?_)
        refine lv_aload_n hx hb d_E_call_109 rfl (lv_at hl 1 rfl) ?_
        refine va_get (D := D) (ci := 0) (v := .ref (q 1)) (C := R_E) (T := T_E) (N := 4) hx hb hts l_E hown hK hP 0 rfl rfl 0 (by decide) (hts _ w_89) (fun _ h9 => h9) rfl d_E_call_110 ?_
        refine lv_iload hx hb d_E_call_113 (lv_at hl 0 rfl) ?_
        refine lv_iconst (v := 2) hx hb d_E_call_115 (by decide) ?_
        refine lv_iload hx hb d_E_call_116 (lv_at hl 5 rfl) ?_
        obtain ⟨u118, hu118, h⟩ := bnd h
        refine gcall_v (va_runV (As := [.int u82.1, .int (2 : Int32), .int x4]) (rest := []) ⟨hx, hb, hml, hown, hts⟩ (c_P_setNeed l D cI cZ tL q tl u106 u82.1 (2 : Int32) x4 u118 hu118 H.size) (cwV 3 hts (gV w_151 w_145 w_146 w_2 w_147) rfl rfl rfl (by decide +kernel) ⟨Nat.le_of_ble_eq_true rfl, Nat.le_of_ble_eq_true rfl⟩) (gpV (k := 1) (ci := 1) hA hK (hD u106) hE hP hS rfl rfl) rfl rfl hl.1 rfl (lv_room (Nat.le_of_ble_eq_true rfl)) d_E_call_118 ⟨Nat.le_of_ble_eq_true rfl, Nat.le_of_ble_eq_true rfl⟩) hA (hD u106) hS (fun H locs hP hS => ?_)
        refine lv_aload_n hx hb d_E_call_121 rfl (lv_at hl 1 rfl) ?_
        refine va_get (D := D) (ci := 0) (v := .ref (q 1)) (C := R_E) (T := T_E) (N := 4) hx hb hts l_E hown hK hP 0 rfl rfl 0 (by decide) (hts _ w_89) (fun _ h9 => h9) rfl d_E_call_122 ?_
        refine lv_iload hx hb d_E_call_125 (lv_at hl 0 rfl) ?_
        refine lv_iconst (v := 3) hx hb d_E_call_127 (by decide) ?_
        refine lv_iload hx hb d_E_call_128 (lv_at hl 6 rfl) ?_
        obtain ⟨u130, hu130, h⟩ := bnd h
        refine gcall_v (va_runV (As := [.int u82.1, .int (3 : Int32), .int x5]) (rest := []) ⟨hx, hb, hml, hown, hts⟩ (c_P_setNeed l D cI cZ tL q tl u118 u82.1 (3 : Int32) x5 u130 hu130 H.size) (cwV 3 hts (gV w_151 w_145 w_146 w_2 w_147) rfl rfl rfl (by decide +kernel) ⟨Nat.le_of_ble_eq_true rfl, Nat.le_of_ble_eq_true rfl⟩) (gpV (k := 1) (ci := 1) hA hK (hD u118) hE hP hS rfl rfl) rfl rfl hl.1 rfl (lv_room (Nat.le_of_ble_eq_true rfl)) d_E_call_130 ⟨Nat.le_of_ble_eq_true rfl, Nat.le_of_ble_eq_true rfl⟩) hA (hD u118) hS (fun H locs hP hS => ?_)
        refine lv_aload_n hx hb d_E_call_133 rfl (lv_at hl 1 rfl) ?_
        refine va_get (D := D) (ci := 0) (v := .ref (q 1)) (C := R_E) (T := T_E) (N := 4) hx hb hts l_E hown hK hP 0 rfl rfl 0 (by decide) (hts _ w_89) (fun _ h9 => h9) rfl d_E_call_134 ?_
        refine lv_iload hx hb d_E_call_137 (lv_at hl 0 rfl) ?_
        refine lv_iconst (v := 4) hx hb d_E_call_139 (by decide) ?_
        refine lv_iload hx hb d_E_call_140 (lv_at hl 7 rfl) ?_
        obtain ⟨u142, hu142, h⟩ := bnd h
        refine gcall_v (va_runV (As := [.int u82.1, .int (4 : Int32), .int x6]) (rest := []) ⟨hx, hb, hml, hown, hts⟩ (c_P_setNeed l D cI cZ tL q tl u130 u82.1 (4 : Int32) x6 u142 hu142 H.size) (cwV 3 hts (gV w_151 w_145 w_146 w_2 w_147) rfl rfl rfl (by decide +kernel) ⟨Nat.le_of_ble_eq_true rfl, Nat.le_of_ble_eq_true rfl⟩) (gpV (k := 1) (ci := 1) hA hK (hD u130) hE hP hS rfl rfl) rfl rfl hl.1 rfl (lv_room (Nat.le_of_ble_eq_true rfl)) d_E_call_142 ⟨Nat.le_of_ble_eq_true rfl, Nat.le_of_ble_eq_true rfl⟩) hA (hD u130) hS (fun H locs hP hS => ?_)
        refine lv_iload hx hb d_E_call_145 (lv_at hl 0 rfl) ?_
        cases h
        exact gret_i hx hb hr hlk hP hS d_E_call_147
      have h := ifp c h
      refine lv_bipush (v := -3) hx hb d_E_call_65 (by decide) ?_
      cases h
      exact gret_i hx hb hr hlk hP hS d_E_call_67
    have h := ifp c h
    refine lv_bipush (v := -2) hx hb d_E_call_50 (by decide) ?_
    cases h
    exact gret_i hx hb hr hlk hP hS d_E_call_52
  have h := ifp c h
  refine lv_bipush (v := -2) hx hb d_E_call_16 (by decide) ?_
  cases h
  exact gret_i hx hb hr hlk hP hS d_E_call_18
/-! ===== EscapeOwners.undo()I ===== -/
def f_E_undo (σ : St) : Option (Int32 × St) := if 0 < (σ 1 1) then (Option.bind (f_S_forget σ) (fun u16 => Option.bind (f_P_dropStep u16) (fun u23 => some (u23.1, u23.2)))) else (some ((-1 : Int32), σ))
set_option maxHeartbeats 4000000 in
set_option maxRecDepth 100000 in
theorem c_E_undo (l : Launch) (D : va_G) (cI cZ : ClassId) (tL : Nat) (q : Nat → Nat) (tl : va_W) (σ : St) (out0 : Int32 × St) (h : f_E_undo σ = some out0) : gCi l y_E_undo (.code y_E_undo b_E_undo 1 (some .int) :: TB) { frames := 3, cells := 0, slots := 0, locals := 62 } D [(cI, .int), (cZ, .boolean)] tL [.ref (q 0)] (wE cI cZ q σ ++ tl) out0.1 (wE cI cZ q out0.2 ++ tl) := by
  refine gCi_of (cc := b_E_undo) (maxL := 1) (ty := .int) (by decide) rfl (Nat.le_of_ble_eq_true rfl) ?_
  intro p e s m below meth c A ls hf hr hlk hA hK hD0 hE hP hl
  obtain ⟨hx, hb, hml, hown, hts⟩ := id hf
  have hts : ∀ w ∈ TB, w.before _ s = true := fun w h => hts w (List.mem_cons_of_mem _ h)
  have hown : s.vm.findClass R_E = some m.cls := hown
  have hl : lv_has ls 1 [(0, .ref (q 0))] := hl
  have hS : va_S A s.heap s.heap [] := va_S.rf
  have hD : ∀ σ' : St, va_D A (wE cI cZ q σ' ++ tl) := fun σ' => va_Dsame hD0 rfl
  unfold f_E_undo at h
  refine lv_aload_n hx hb d_E_undo_0 rfl (lv_at hl 0 rfl) ?_
  refine va_get (D := D) (ci := 0) (v := .ref (q 1)) (C := R_E) (T := T_E) (N := 4) hx hb hts l_E hown hK hP 0 rfl rfl 0 (by decide) (hts _ w_89) (fun _ h9 => h9) rfl d_E_undo_1 ?_
  refine va_getN (D := D) (ci := 1) (v := .int (σ 1 1)) (C := R_P) (T := T_P) (N := 8) hx hb hts l_P hown hK hP 1 rfl rfl 1 (by decide) (va_Nw.use rfl (nf_1 hE)) (fun _ h9 => h9) rfl d_E_undo_4 ?_
  refine lv_if_gt (tgt := 12) hx hb d_E_undo_7 (by decide) (fun c => ?_) (fun c => ?_)
  · have h := ifp c h
    refine lv_aload_n hx hb d_E_undo_12 rfl (lv_at hl 0 rfl) ?_
    refine va_get (D := D) (ci := 0) (v := .ref (q 2)) (C := R_E) (T := T_E) (N := 4) hx hb hts l_E hown hK hP 0 rfl rfl 1 (by decide) (hts _ w_90) (fun _ h9 => h9) rfl d_E_undo_13 ?_
    obtain ⟨u16, hu16, h⟩ := bnd h
    refine gcall_v (va_runV (As := []) (rest := []) ⟨hx, hb, hml, hown, hts⟩ (c_S_forget l D cI cZ tL q tl σ  u16 hu16 s.heap.size) (cwV 0 hts (gV w_104 w_105 w_106 w_3 w_107) rfl rfl rfl (by decide +kernel) ⟨Nat.le_of_ble_eq_true rfl, Nat.le_of_ble_eq_true rfl⟩) (gpV (k := 2) (ci := 2) hA hK (hD σ) hE hP hS rfl rfl) rfl rfl hl.1 rfl (lv_room (Nat.le_of_ble_eq_true rfl)) d_E_undo_16 ⟨Nat.le_of_ble_eq_true rfl, Nat.le_of_ble_eq_true rfl⟩) hA (hD σ) hS (fun H locs hP hS => ?_)
    refine lv_aload_n hx hb d_E_undo_19 rfl (lv_at hl 0 rfl) ?_
    refine va_get (D := D) (ci := 0) (v := .ref (q 1)) (C := R_E) (T := T_E) (N := 4) hx hb hts l_E hown hK hP 0 rfl rfl 0 (by decide) (hts _ w_89) (fun _ h9 => h9) rfl d_E_undo_20 ?_
    obtain ⟨u23, hu23, h⟩ := bnd h
    refine gcall_i (va_runV (As := []) (rest := []) ⟨hx, hb, hml, hown, hts⟩ (c_P_dropStep l D cI cZ tL q tl u16  u23 hu23 H.size) (cwV 0 hts (gV w_161 w_162 w_163 w_2 w_164) rfl rfl rfl (by decide +kernel) ⟨Nat.le_of_ble_eq_true rfl, Nat.le_of_ble_eq_true rfl⟩) (gpV (k := 1) (ci := 1) hA hK (hD u16) hE hP hS rfl rfl) rfl rfl hl.1 rfl (lv_room (Nat.le_of_ble_eq_true rfl)) d_E_undo_23 ⟨Nat.le_of_ble_eq_true rfl, Nat.le_of_ble_eq_true rfl⟩) hA (hD u16) hS (fun H locs hP hS => ?_)
    cases h
    exact gret_i hx hb hr hlk hP hS d_E_undo_26
  have h := ifn c h
  refine lv_iconst (v := -1) hx hb d_E_undo_10 (by decide) ?_
  cases h
  exact gret_i hx hb hr hlk hP hS d_E_undo_11
/-! ===== EscapeOwners.isStep(I)Z ===== -/
def f_E_isStep (σ : St) (x1 : Int32) : Option (Int32) := Option.bind (f_E_isBelow x1 (σ 1 1)) (fun u8 => if u8 = 0 ∨ u8 = 1 then some u8 else none)
set_option maxHeartbeats 4000000 in
set_option maxRecDepth 100000 in
theorem c_E_isStep (l : Launch) (D : va_G) (cI cZ : ClassId) (tL : Nat) (q : Nat → Nat) (tl : va_W) (σ : St) (x1 : Int32) (out0 : Int32) (h : f_E_isStep σ x1 = some out0) : gCi l y_E_isStep (.code y_E_isStep b_E_isStep 2 (some .boolean) :: TB) { frames := 1, cells := 0, slots := 0, locals := 21 } D [(cI, .int), (cZ, .boolean)] tL [.ref (q 0), .int x1] (wE cI cZ q σ ++ tl) out0 (wE cI cZ q σ ++ tl) := by
  refine gCi_of (cc := b_E_isStep) (maxL := 2) (ty := .boolean) (by decide) rfl (Nat.le_of_ble_eq_true rfl) ?_
  intro p e s m below meth c A ls hf hr hlk hA hK hD0 hE hP hl
  obtain ⟨hx, hb, hml, hown, hts⟩ := id hf
  have hts : ∀ w ∈ TB, w.before _ s = true := fun w h => hts w (List.mem_cons_of_mem _ h)
  have hown : s.vm.findClass R_E = some m.cls := hown
  have hl : lv_has ls 2 [(0, .ref (q 0)), (1, .int x1)] := hl
  have hS : va_S A s.heap s.heap [] := va_S.rf
  have hD : ∀ σ' : St, va_D A (wE cI cZ q σ' ++ tl) := fun σ' => va_Dsame hD0 rfl
  unfold f_E_isStep at h
  refine lv_iload_n hx hb d_E_isStep_0 rfl (lv_at hl 1 rfl) ?_
  refine lv_aload_n hx hb d_E_isStep_1 rfl (lv_at hl 0 rfl) ?_
  refine va_get (D := D) (ci := 0) (v := .ref (q 1)) (C := R_E) (T := T_E) (N := 4) hx hb hts l_E hown hK hP 0 rfl rfl 0 (by decide) (hts _ w_89) (fun _ h9 => h9) rfl d_E_isStep_2 ?_
  refine va_getN (D := D) (ci := 1) (v := .int (σ 1 1)) (C := R_P) (T := T_P) (N := 8) hx hb hts l_P hown hK hP 1 rfl rfl 1 (by decide) (va_Nw.use rfl (nf_1 hE)) (fun _ h9 => h9) rfl d_E_isStep_5 ?_
  obtain ⟨u8, hu8, h⟩ := bnd h
  refine gcall_i (va_runS (As := [.int x1, .int (σ 1 1)]) (rest := []) ⟨hx, hb, hml, hown, hts⟩ (c_E_isBelow l D cI cZ tL (wE cI cZ q σ ++ tl) x1 (σ 1 1) u8 hu8 s.heap.size) (va_cwS 2 hts (gS w_121 w_122 w_1 w_123) rfl rfl rfl (by decide +kernel) ⟨Nat.le_of_ble_eq_true rfl, Nat.le_of_ble_eq_true rfl⟩) (gpS hA hK (hD σ) hE hP hS) rfl rfl hl.1 rfl (lv_room (Nat.le_of_ble_eq_true rfl)) d_E_isStep_8 ⟨Nat.le_of_ble_eq_true rfl, Nat.le_of_ble_eq_true rfl⟩) hA (hD σ) hS (fun H locs hP hS => ?_)
  obtain ⟨c, h⟩ := ifs h
  cases h
  exact gret_z hx hb hr hlk (gz c) hP hS d_E_isStep_11
/-! ===== EscapeOwners.told(II)I ===== -/
def f_E_told (σ : St) (x1 : Int32) (x2 : Int32) : Option (Int32) := Option.bind (f_E_isStep σ x1) (fun u2 => if u2 = 0 then (some (-2 : Int32)) else (Option.bind (f_E_isBelow x2 (8 : Int32)) (fun u11 => if u11 = 0 then (some (-2 : Int32)) else (if x2 = 0 then (Option.bind (f_P_owner σ x1) (fun u53 => some u53)) else if x2 = 1 then (Option.bind (f_P_kind σ x1) (fun u62 => some u62)) else if x2 = 2 then (Option.bind (f_P_siteOf σ x1) (fun u71 => some u71)) else (Option.bind (f_P_need σ x1 (x2 - (3 : Int32))) (fun u83 => some u83))))))
set_option maxHeartbeats 4000000 in
set_option maxRecDepth 100000 in
theorem c_E_told (l : Launch) (D : va_G) (cI cZ : ClassId) (tL : Nat) (q : Nat → Nat) (tl : va_W) (σ : St) (x1 : Int32) (x2 : Int32) (out0 : Int32) (h : f_E_told σ x1 x2 = some out0) : gCi l y_E_told (.code y_E_told b_E_told 3 (some .int) :: TB) { frames := 2, cells := 0, slots := 0, locals := 43 } D [(cI, .int), (cZ, .boolean)] tL [.ref (q 0), .int x1, .int x2] (wE cI cZ q σ ++ tl) out0 (wE cI cZ q σ ++ tl) := by
  refine gCi_of (cc := b_E_told) (maxL := 3) (ty := .int) (by decide) rfl (Nat.le_of_ble_eq_true rfl) ?_
  intro p e s m below meth c A ls hf hr hlk hA hK hD0 hE hP hl
  obtain ⟨hx, hb, hml, hown, hts⟩ := id hf
  have hts : ∀ w ∈ TB, w.before _ s = true := fun w h => hts w (List.mem_cons_of_mem _ h)
  have hown : s.vm.findClass R_E = some m.cls := hown
  have hl : lv_has ls 3 [(0, .ref (q 0)), (1, .int x1), (2, .int x2)] := hl
  have hS : va_S A s.heap s.heap [] := va_S.rf
  have hD : ∀ σ' : St, va_D A (wE cI cZ q σ' ++ tl) := fun σ' => va_Dsame hD0 rfl
  unfold f_E_told at h
  refine lv_aload_n hx hb d_E_told_0 rfl (lv_at hl 0 rfl) ?_
  refine lv_iload_n hx hb d_E_told_1 rfl (lv_at hl 1 rfl) ?_
  obtain ⟨u2, hu2, h⟩ := bnd h
  refine gcall_i (va_runV (As := [.int x1]) (rest := []) ⟨hx, hb, hml, hown, hts⟩ (c_E_isStep l D cI cZ tL q tl σ x1 u2 hu2 s.heap.size) (cwV 1 hts (gV w_172 w_173 w_671 w_1 w_174) rfl rfl rfl (by decide +kernel) ⟨Nat.le_of_ble_eq_true rfl, Nat.le_of_ble_eq_true rfl⟩) (gpV (k := 0) (ci := 0) hA hK (hD σ) hE hP hS rfl rfl) rfl rfl hl.1 rfl (lv_room (Nat.le_of_ble_eq_true rfl)) d_E_told_2 ⟨Nat.le_of_ble_eq_true rfl, Nat.le_of_ble_eq_true rfl⟩) hA (hD σ) hS (fun H locs hP hS => ?_)
  refine lv_if_eq (tgt := 17) hx hb d_E_told_5 (by decide) (fun c => ?_) (fun c => ?_)
  · have h := ifp c h
    refine lv_bipush (v := -2) hx hb d_E_told_17 (by decide) ?_
    cases h
    exact gret_i hx hb hr hlk hP hS d_E_told_19
  have h := ifn c h
  refine lv_iload_n hx hb d_E_told_8 rfl (lv_at hl 2 rfl) ?_
  refine lv_bipush (v := 8) hx hb d_E_told_9 (by decide) ?_
  obtain ⟨u11, hu11, h⟩ := bnd h
  refine gcall_i (va_runS (As := [.int x2, .int (8 : Int32)]) (rest := []) ⟨hx, hb, hml, hown, hts⟩ (c_E_isBelow l D cI cZ tL (wE cI cZ q σ ++ tl) x2 (8 : Int32) u11 hu11 H.size) (va_cwS 2 hts (gS w_121 w_122 w_1 w_123) rfl rfl rfl (by decide +kernel) ⟨Nat.le_of_ble_eq_true rfl, Nat.le_of_ble_eq_true rfl⟩) (gpS hA hK (hD σ) hE hP hS) rfl rfl hl.1 rfl (lv_room (Nat.le_of_ble_eq_true rfl)) d_E_told_11 ⟨Nat.le_of_ble_eq_true rfl, Nat.le_of_ble_eq_true rfl⟩) hA (hD σ) hS (fun H locs hP hS => ?_)
  refine lv_if_ne (tgt := 20) hx hb d_E_told_14 (by decide) (fun c => ?_) (fun c => ?_)
  · have h := ifn c h
    refine lv_iload_n hx hb d_E_told_20 rfl (lv_at hl 2 rfl) ?_
    by_cases c0 : x2 = 0
    · refine lv_tableIn (tgt := 48) hx hb d_E_told_21 (by rw [c0]; decide) (by rw [c0]; decide) (by rw [c0]; rfl) (by decide) ?_
      have h := ifp c0 h
      refine lv_aload_n hx hb d_E_told_48 rfl (lv_at hl 0 rfl) ?_
      refine va_get (D := D) (ci := 0) (v := .ref (q 1)) (C := R_E) (T := T_E) (N := 4) hx hb hts l_E hown hK hP 0 rfl rfl 0 (by decide) (hts _ w_89) (fun _ h9 => h9) rfl d_E_told_49 ?_
      refine lv_iload_n hx hb d_E_told_52 rfl (lv_at hl 1 rfl) ?_
      obtain ⟨u53, hu53, h⟩ := bnd h
      refine gcall_i (va_runV (As := [.int x1]) (rest := []) ⟨hx, hb, hml, hown, hts⟩ (c_P_owner l D cI cZ tL q tl σ x1 u53 hu53 H.size) (cwV 1 hts (gV w_175 w_176 w_177 w_2 w_178) rfl rfl rfl (by decide +kernel) ⟨Nat.le_of_ble_eq_true rfl, Nat.le_of_ble_eq_true rfl⟩) (gpV (k := 1) (ci := 1) hA hK (hD σ) hE hP hS rfl rfl) rfl rfl hl.1 rfl (lv_room (Nat.le_of_ble_eq_true rfl)) d_E_told_53 ⟨Nat.le_of_ble_eq_true rfl, Nat.le_of_ble_eq_true rfl⟩) hA (hD σ) hS (fun H locs hP hS => ?_)
      cases h
      exact gret_i hx hb hr hlk hP hS d_E_told_56
    have h := ifn c0 h
    by_cases c1 : x2 = 1
    · refine lv_tableIn (tgt := 57) hx hb d_E_told_21 (by rw [c1]; decide) (by rw [c1]; decide) (by rw [c1]; rfl) (by decide) ?_
      have h := ifp c1 h
      refine lv_aload_n hx hb d_E_told_57 rfl (lv_at hl 0 rfl) ?_
      refine va_get (D := D) (ci := 0) (v := .ref (q 1)) (C := R_E) (T := T_E) (N := 4) hx hb hts l_E hown hK hP 0 rfl rfl 0 (by decide) (hts _ w_89) (fun _ h9 => h9) rfl d_E_told_58 ?_
      refine lv_iload_n hx hb d_E_told_61 rfl (lv_at hl 1 rfl) ?_
      obtain ⟨u62, hu62, h⟩ := bnd h
      refine gcall_i (va_runV (As := [.int x1]) (rest := []) ⟨hx, hb, hml, hown, hts⟩ (c_P_kind l D cI cZ tL q tl σ x1 u62 hu62 H.size) (cwV 1 hts (gV w_179 w_166 w_167 w_2 w_168) rfl rfl rfl (by decide +kernel) ⟨Nat.le_of_ble_eq_true rfl, Nat.le_of_ble_eq_true rfl⟩) (gpV (k := 1) (ci := 1) hA hK (hD σ) hE hP hS rfl rfl) rfl rfl hl.1 rfl (lv_room (Nat.le_of_ble_eq_true rfl)) d_E_told_62 ⟨Nat.le_of_ble_eq_true rfl, Nat.le_of_ble_eq_true rfl⟩) hA (hD σ) hS (fun H locs hP hS => ?_)
      cases h
      exact gret_i hx hb hr hlk hP hS d_E_told_65
    have h := ifn c1 h
    by_cases c2 : x2 = 2
    · refine lv_tableIn (tgt := 66) hx hb d_E_told_21 (by rw [c2]; decide) (by rw [c2]; decide) (by rw [c2]; rfl) (by decide) ?_
      have h := ifp c2 h
      refine lv_aload_n hx hb d_E_told_66 rfl (lv_at hl 0 rfl) ?_
      refine va_get (D := D) (ci := 0) (v := .ref (q 1)) (C := R_E) (T := T_E) (N := 4) hx hb hts l_E hown hK hP 0 rfl rfl 0 (by decide) (hts _ w_89) (fun _ h9 => h9) rfl d_E_told_67 ?_
      refine lv_iload_n hx hb d_E_told_70 rfl (lv_at hl 1 rfl) ?_
      obtain ⟨u71, hu71, h⟩ := bnd h
      refine gcall_i (va_runV (As := [.int x1]) (rest := []) ⟨hx, hb, hml, hown, hts⟩ (c_P_siteOf l D cI cZ tL q tl σ x1 u71 hu71 H.size) (cwV 1 hts (gV w_180 w_181 w_182 w_2 w_183) rfl rfl rfl (by decide +kernel) ⟨Nat.le_of_ble_eq_true rfl, Nat.le_of_ble_eq_true rfl⟩) (gpV (k := 1) (ci := 1) hA hK (hD σ) hE hP hS rfl rfl) rfl rfl hl.1 rfl (lv_room (Nat.le_of_ble_eq_true rfl)) d_E_told_71 ⟨Nat.le_of_ble_eq_true rfl, Nat.le_of_ble_eq_true rfl⟩) hA (hD σ) hS (fun H locs hP hS => ?_)
      cases h
      exact gret_i hx hb hr hlk hP hS d_E_told_74
    have h := ifn c2 h
    refine lv_tableOut (tgt := 75) hx hb d_E_told_21 (by have e0 := lv_neT (a := 0) c0 (by decide); have e1 := lv_neT (a := 1) c1 (by decide); have e2 := lv_neT (a := 2) c2 (by decide); omega) (by decide) ?_
    refine lv_aload_n hx hb d_E_told_75 rfl (lv_at hl 0 rfl) ?_
    refine va_get (D := D) (ci := 0) (v := .ref (q 1)) (C := R_E) (T := T_E) (N := 4) hx hb hts l_E hown hK hP 0 rfl rfl 0 (by decide) (hts _ w_89) (fun _ h9 => h9) rfl d_E_told_76 ?_
    refine lv_iload_n hx hb d_E_told_79 rfl (lv_at hl 1 rfl) ?_
    refine lv_iload_n hx hb d_E_told_80 rfl (lv_at hl 2 rfl) ?_
    refine lv_iconst (v := 3) hx hb d_E_told_81 (by decide) ?_
    refine lv_isub hx hb d_E_told_82 ?_
    obtain ⟨u83, hu83, h⟩ := bnd h
    refine gcall_i (va_runV (As := [.int x1, .int (x2 - (3 : Int32))]) (rest := []) ⟨hx, hb, hml, hown, hts⟩ (c_P_need l D cI cZ tL q tl σ x1 (x2 - (3 : Int32)) u83 hu83 H.size) (cwV 2 hts (gV w_184 w_185 w_186 w_2 w_187) rfl rfl rfl (by decide +kernel) ⟨Nat.le_of_ble_eq_true rfl, Nat.le_of_ble_eq_true rfl⟩) (gpV (k := 1) (ci := 1) hA hK (hD σ) hE hP hS rfl rfl) rfl rfl hl.1 rfl (lv_room (Nat.le_of_ble_eq_true rfl)) d_E_told_83 ⟨Nat.le_of_ble_eq_true rfl, Nat.le_of_ble_eq_true rfl⟩) hA (hD σ) hS (fun H locs hP hS => ?_)
    cases h
    exact gret_i hx hb hr hlk hP hS d_E_told_86
  have h := ifp c h
  refine lv_bipush (v := -2) hx hb d_E_told_17 (by decide) ?_
  cases h
  exact gret_i hx hb hr hlk hP hS d_E_told_19
/-! ===== EscapeOwners.all(I)I ===== -/
def f_E_all (F : Nat) (σ : St) (x1 : Int32) : Option (Int32 × St) := Option.bind (f_E_isBelow x1 (13 : Int32)) (fun u3 => if u3 = 0 then (some ((-2 : Int32), σ)) else (Option.bind (f_S_solve F σ) (fun u16 => if x1 = 0 then (some ((u16 1 0), u16)) else if x1 = 1 then (some ((u16 1 1), u16)) else if x1 = 2 then (some ((u16 1 2), u16)) else if x1 = 3 then (some ((u16 2 7), u16)) else if x1 = 4 then (Option.bind (f_P_madeBy F u16 (u16 2 7)) (fun u127 => some (u127, u16))) else if x1 = 5 then (some ((u16 2 8), u16)) else if x1 = 6 then (Option.bind (f_X_outSites F u16) (fun u143 => some (u143, u16))) else if x1 = 7 then (Option.bind (f_X_ownedSites F u16) (fun u151 => some (u151, u16))) else if x1 = 8 then (Option.bind (f_X_fixedSites F u16) (fun u159 => some (u159, u16))) else if x1 = 9 then (Option.bind (f_X_pureMethods F u16) (fun u167 => some (u167, u16))) else if x1 = 10 then (Option.bind (f_X_freshMethods F u16) (fun u175 => some (u175, u16))) else if x1 = 11 then (Option.bind (f_X_countIdle F u16) (fun u183 => some (u183, u16))) else (some ((u16 2 9), u16)))))
set_option maxHeartbeats 4000000 in
set_option maxRecDepth 100000 in
theorem c_E_all (l : Launch) (D : va_G) (cI cZ : ClassId) (tL : Nat) (q : Nat → Nat) (tl : va_W) (F : Nat) (σ : St) (x1 : Int32) (out0 : Int32 × St) (h : f_E_all F σ x1 = some out0) : gCi l y_E_all (.code y_E_all b_E_all 2 (some .int) :: TB) { frames := 6, cells := 0, slots := 0, locals := 141 } D [(cI, .int), (cZ, .boolean)] tL [.ref (q 0), .int x1] (wE cI cZ q σ ++ tl) out0.1 (wE cI cZ q out0.2 ++ tl) := by
  refine gCi_of (cc := b_E_all) (maxL := 2) (ty := .int) (by decide) rfl (Nat.le_of_ble_eq_true rfl) ?_
  intro p e s m below meth c A ls hf hr hlk hA hK hD0 hE hP hl
  obtain ⟨hx, hb, hml, hown, hts⟩ := id hf
  have hts : ∀ w ∈ TB, w.before _ s = true := fun w h => hts w (List.mem_cons_of_mem _ h)
  have hown : s.vm.findClass R_E = some m.cls := hown
  have hl : lv_has ls 2 [(0, .ref (q 0)), (1, .int x1)] := hl
  have hS : va_S A s.heap s.heap [] := va_S.rf
  have hD : ∀ σ' : St, va_D A (wE cI cZ q σ' ++ tl) := fun σ' => va_Dsame hD0 rfl
  unfold f_E_all at h
  refine lv_iload_n hx hb d_E_all_0 rfl (lv_at hl 1 rfl) ?_
  refine lv_bipush (v := 13) hx hb d_E_all_1 (by decide) ?_
  obtain ⟨u3, hu3, h⟩ := bnd h
  refine gcall_i (va_runS (As := [.int x1, .int (13 : Int32)]) (rest := []) ⟨hx, hb, hml, hown, hts⟩ (c_E_isBelow l D cI cZ tL (wE cI cZ q σ ++ tl) x1 (13 : Int32) u3 hu3 s.heap.size) (va_cwS 2 hts (gS w_121 w_122 w_1 w_123) rfl rfl rfl (by decide +kernel) ⟨Nat.le_of_ble_eq_true rfl, Nat.le_of_ble_eq_true rfl⟩) (gpS hA hK (hD σ) hE hP hS) rfl rfl hl.1 rfl (lv_room (Nat.le_of_ble_eq_true rfl)) d_E_all_3 ⟨Nat.le_of_ble_eq_true rfl, Nat.le_of_ble_eq_true rfl⟩) hA (hD σ) hS (fun H locs hP hS => ?_)
  refine lv_if_ne (tgt := 12) hx hb d_E_all_6 (by decide) (fun c => ?_) (fun c => ?_)
  · have h := ifn c h
    refine lv_aload_n hx hb d_E_all_12 rfl (lv_at hl 0 rfl) ?_
    refine va_get (D := D) (ci := 0) (v := .ref (q 2)) (C := R_E) (T := T_E) (N := 4) hx hb hts l_E hown hK hP 0 rfl rfl 1 (by decide) (hts _ w_90) (fun _ h9 => h9) rfl d_E_all_13 ?_
    obtain ⟨u16, hu16, h⟩ := bnd h
    refine gcall_v (va_runV (As := []) (rest := []) ⟨hx, hb, hml, hown, hts⟩ (c_S_solve l D cI cZ tL q tl F σ  u16 hu16 H.size) (cwV 0 hts (gV w_191 w_192 w_193 w_3 w_194) rfl rfl rfl (by decide +kernel) ⟨Nat.le_of_ble_eq_true rfl, Nat.le_of_ble_eq_true rfl⟩) (gpV (k := 2) (ci := 2) hA hK (hD σ) hE hP hS rfl rfl) rfl rfl hl.1 rfl (lv_room (Nat.le_of_ble_eq_true rfl)) d_E_all_16 ⟨Nat.le_of_ble_eq_true rfl, Nat.le_of_ble_eq_true rfl⟩) hA (hD σ) hS (fun H locs hP hS => ?_)
    refine lv_iload_n hx hb d_E_all_19 rfl (lv_at hl 1 rfl) ?_
    by_cases c0 : x1 = 0
    · refine lv_tableIn (tgt := 84) hx hb d_E_all_20 (by rw [c0]; decide) (by rw [c0]; decide) (by rw [c0]; rfl) (by decide) ?_
      have h := ifp c0 h
      refine lv_aload_n hx hb d_E_all_84 rfl (lv_at hl 0 rfl) ?_
      refine va_get (D := D) (ci := 0) (v := .ref (q 1)) (C := R_E) (T := T_E) (N := 4) hx hb hts l_E hown hK hP 0 rfl rfl 0 (by decide) (hts _ w_89) (fun _ h9 => h9) rfl d_E_all_85 ?_
      refine va_getN (D := D) (ci := 1) (v := .int (u16 1 0)) (C := R_P) (T := T_P) (N := 8) hx hb hts l_P hown hK hP 1 rfl rfl 0 (by decide) (va_Nw.use rfl (nf_0 hE)) (fun _ h9 => h9) rfl d_E_all_88 ?_
      cases h
      exact gret_i hx hb hr hlk hP hS d_E_all_91
    have h := ifn c0 h
    by_cases c1 : x1 = 1
    · refine lv_tableIn (tgt := 92) hx hb d_E_all_20 (by rw [c1]; decide) (by rw [c1]; decide) (by rw [c1]; rfl) (by decide) ?_
      have h := ifp c1 h
      refine lv_aload_n hx hb d_E_all_92 rfl (lv_at hl 0 rfl) ?_
      refine va_get (D := D) (ci := 0) (v := .ref (q 1)) (C := R_E) (T := T_E) (N := 4) hx hb hts l_E hown hK hP 0 rfl rfl 0 (by decide) (hts _ w_89) (fun _ h9 => h9) rfl d_E_all_93 ?_
      refine va_getN (D := D) (ci := 1) (v := .int (u16 1 1)) (C := R_P) (T := T_P) (N := 8) hx hb hts l_P hown hK hP 1 rfl rfl 1 (by decide) (va_Nw.use rfl (nf_1 hE)) (fun _ h9 => h9) rfl d_E_all_96 ?_
      cases h
      exact gret_i hx hb hr hlk hP hS d_E_all_99
    have h := ifn c1 h
    by_cases c2 : x1 = 2
    · refine lv_tableIn (tgt := 100) hx hb d_E_all_20 (by rw [c2]; decide) (by rw [c2]; decide) (by rw [c2]; rfl) (by decide) ?_
      have h := ifp c2 h
      refine lv_aload_n hx hb d_E_all_100 rfl (lv_at hl 0 rfl) ?_
      refine va_get (D := D) (ci := 0) (v := .ref (q 1)) (C := R_E) (T := T_E) (N := 4) hx hb hts l_E hown hK hP 0 rfl rfl 0 (by decide) (hts _ w_89) (fun _ h9 => h9) rfl d_E_all_101 ?_
      refine va_getN (D := D) (ci := 1) (v := .int (u16 1 2)) (C := R_P) (T := T_P) (N := 8) hx hb hts l_P hown hK hP 1 rfl rfl 2 (by decide) (va_Nw.use rfl (nf_6 hE)) (fun _ h9 => h9) rfl d_E_all_104 ?_
      cases h
      exact gret_i hx hb hr hlk hP hS d_E_all_107
    have h := ifn c2 h
    by_cases c3 : x1 = 3
    · refine lv_tableIn (tgt := 108) hx hb d_E_all_20 (by rw [c3]; decide) (by rw [c3]; decide) (by rw [c3]; rfl) (by decide) ?_
      have h := ifp c3 h
      refine lv_aload_n hx hb d_E_all_108 rfl (lv_at hl 0 rfl) ?_
      refine va_get (D := D) (ci := 0) (v := .ref (q 2)) (C := R_E) (T := T_E) (N := 4) hx hb hts l_E hown hK hP 0 rfl rfl 1 (by decide) (hts _ w_90) (fun _ h9 => h9) rfl d_E_all_109 ?_
      refine va_getN (D := D) (ci := 2) (v := .int (u16 2 7)) (C := R_S) (T := T_S) (N := 11) hx hb hts l_S hown hK hP 2 rfl rfl 7 (by decide) (va_Nw.use rfl (nf_12 hE)) (fun _ h9 => h9) rfl d_E_all_112 ?_
      cases h
      exact gret_i hx hb hr hlk hP hS d_E_all_115
    have h := ifn c3 h
    by_cases c4 : x1 = 4
    · refine lv_tableIn (tgt := 116) hx hb d_E_all_20 (by rw [c4]; decide) (by rw [c4]; decide) (by rw [c4]; rfl) (by decide) ?_
      have h := ifp c4 h
      refine lv_aload_n hx hb d_E_all_116 rfl (lv_at hl 0 rfl) ?_
      refine va_get (D := D) (ci := 0) (v := .ref (q 1)) (C := R_E) (T := T_E) (N := 4) hx hb hts l_E hown hK hP 0 rfl rfl 0 (by decide) (hts _ w_89) (fun _ h9 => h9) rfl d_E_all_117 ?_
      refine lv_aload_n hx hb d_E_all_120 rfl (lv_at hl 0 rfl) ?_
      refine va_get (D := D) (ci := 0) (v := .ref (q 2)) (C := R_E) (T := T_E) (N := 4) hx hb hts l_E hown hK hP 0 rfl rfl 1 (by decide) (hts _ w_90) (fun _ h9 => h9) rfl d_E_all_121 ?_
      refine va_getN (D := D) (ci := 2) (v := .int (u16 2 7)) (C := R_S) (T := T_S) (N := 11) hx hb hts l_S hown hK hP 2 rfl rfl 7 (by decide) (va_Nw.use rfl (nf_12 hE)) (fun _ h9 => h9) rfl d_E_all_124 ?_
      obtain ⟨u127, hu127, h⟩ := bnd h
      refine gcall_i (va_runV (As := [.int (u16 2 7)]) (rest := []) ⟨hx, hb, hml, hown, hts⟩ (c_P_madeBy l D cI cZ tL q tl F u16 (u16 2 7) u127 hu127 H.size) (cwV 1 hts (gV w_259 w_260 w_261 w_2 w_262) rfl rfl rfl (by decide +kernel) ⟨Nat.le_of_ble_eq_true rfl, Nat.le_of_ble_eq_true rfl⟩) (gpV (k := 1) (ci := 1) hA hK (hD u16) hE hP hS rfl rfl) rfl rfl hl.1 rfl (lv_room (Nat.le_of_ble_eq_true rfl)) d_E_all_127 ⟨Nat.le_of_ble_eq_true rfl, Nat.le_of_ble_eq_true rfl⟩) hA (hD u16) hS (fun H locs hP hS => ?_)
      cases h
      exact gret_i hx hb hr hlk hP hS d_E_all_130
    have h := ifn c4 h
    by_cases c5 : x1 = 5
    · refine lv_tableIn (tgt := 131) hx hb d_E_all_20 (by rw [c5]; decide) (by rw [c5]; decide) (by rw [c5]; rfl) (by decide) ?_
      have h := ifp c5 h
      refine lv_aload_n hx hb d_E_all_131 rfl (lv_at hl 0 rfl) ?_
      refine va_get (D := D) (ci := 0) (v := .ref (q 2)) (C := R_E) (T := T_E) (N := 4) hx hb hts l_E hown hK hP 0 rfl rfl 1 (by decide) (hts _ w_90) (fun _ h9 => h9) rfl d_E_all_132 ?_
      refine va_getN (D := D) (ci := 2) (v := .int (u16 2 8)) (C := R_S) (T := T_S) (N := 11) hx hb hts l_S hown hK hP 2 rfl rfl 8 (by decide) (va_Nw.use rfl (nf_15 hE)) (fun _ h9 => h9) rfl d_E_all_135 ?_
      cases h
      exact gret_i hx hb hr hlk hP hS d_E_all_138
    have h := ifn c5 h
    by_cases c6 : x1 = 6
    · refine lv_tableIn (tgt := 139) hx hb d_E_all_20 (by rw [c6]; decide) (by rw [c6]; decide) (by rw [c6]; rfl) (by decide) ?_
      have h := ifp c6 h
      refine lv_aload_n hx hb d_E_all_139 rfl (lv_at hl 0 rfl) ?_
      refine va_get (D := D) (ci := 0) (v := .ref (q 3)) (C := R_E) (T := T_E) (N := 4) hx hb hts l_E hown hK hP 0 rfl rfl 2 (by decide) (hts _ w_91) (fun _ h9 => h9) rfl d_E_all_140 ?_
      obtain ⟨u143, hu143, h⟩ := bnd h
      refine gcall_i (va_runV (As := []) (rest := []) ⟨hx, hb, hml, hown, hts⟩ (c_X_outSites l D cI cZ tL q tl F u16  u143 hu143 H.size) (cwV 0 hts (gV w_271 w_272 w_273 w_4 w_274) rfl rfl rfl (by decide +kernel) ⟨Nat.le_of_ble_eq_true rfl, Nat.le_of_ble_eq_true rfl⟩) (gpV (k := 3) (ci := 3) hA hK (hD u16) hE hP hS rfl rfl) rfl rfl hl.1 rfl (lv_room (Nat.le_of_ble_eq_true rfl)) d_E_all_143 ⟨Nat.le_of_ble_eq_true rfl, Nat.le_of_ble_eq_true rfl⟩) hA (hD u16) hS (fun H locs hP hS => ?_)
      cases h
      exact gret_i hx hb hr hlk hP hS d_E_all_146
    have h := ifn c6 h
    by_cases c7 : x1 = 7
    · refine lv_tableIn (tgt := 147) hx hb d_E_all_20 (by rw [c7]; decide) (by rw [c7]; decide) (by rw [c7]; rfl) (by decide) ?_
      have h := ifp c7 h
      refine lv_aload_n hx hb d_E_all_147 rfl (lv_at hl 0 rfl) ?_
      refine va_get (D := D) (ci := 0) (v := .ref (q 3)) (C := R_E) (T := T_E) (N := 4) hx hb hts l_E hown hK hP 0 rfl rfl 2 (by decide) (hts _ w_91) (fun _ h9 => h9) rfl d_E_all_148 ?_
      obtain ⟨u151, hu151, h⟩ := bnd h
      refine gcall_i (va_runV (As := []) (rest := []) ⟨hx, hb, hml, hown, hts⟩ (c_X_ownedSites l D cI cZ tL q tl F u16  u151 hu151 H.size) (cwV 0 hts (gV w_284 w_285 w_286 w_4 w_287) rfl rfl rfl (by decide +kernel) ⟨Nat.le_of_ble_eq_true rfl, Nat.le_of_ble_eq_true rfl⟩) (gpV (k := 3) (ci := 3) hA hK (hD u16) hE hP hS rfl rfl) rfl rfl hl.1 rfl (lv_room (Nat.le_of_ble_eq_true rfl)) d_E_all_151 ⟨Nat.le_of_ble_eq_true rfl, Nat.le_of_ble_eq_true rfl⟩) hA (hD u16) hS (fun H locs hP hS => ?_)
      cases h
      exact gret_i hx hb hr hlk hP hS d_E_all_154
    have h := ifn c7 h
    by_cases c8 : x1 = 8
    · refine lv_tableIn (tgt := 155) hx hb d_E_all_20 (by rw [c8]; decide) (by rw [c8]; decide) (by rw [c8]; rfl) (by decide) ?_
      have h := ifp c8 h
      refine lv_aload_n hx hb d_E_all_155 rfl (lv_at hl 0 rfl) ?_
      refine va_get (D := D) (ci := 0) (v := .ref (q 3)) (C := R_E) (T := T_E) (N := 4) hx hb hts l_E hown hK hP 0 rfl rfl 2 (by decide) (hts _ w_91) (fun _ h9 => h9) rfl d_E_all_156 ?_
      obtain ⟨u159, hu159, h⟩ := bnd h
      refine gcall_i (va_runV (As := []) (rest := []) ⟨hx, hb, hml, hown, hts⟩ (c_X_fixedSites l D cI cZ tL q tl F u16  u159 hu159 H.size) (cwV 0 hts (gV w_294 w_295 w_296 w_4 w_297) rfl rfl rfl (by decide +kernel) ⟨Nat.le_of_ble_eq_true rfl, Nat.le_of_ble_eq_true rfl⟩) (gpV (k := 3) (ci := 3) hA hK (hD u16) hE hP hS rfl rfl) rfl rfl hl.1 rfl (lv_room (Nat.le_of_ble_eq_true rfl)) d_E_all_159 ⟨Nat.le_of_ble_eq_true rfl, Nat.le_of_ble_eq_true rfl⟩) hA (hD u16) hS (fun H locs hP hS => ?_)
      cases h
      exact gret_i hx hb hr hlk hP hS d_E_all_162
    have h := ifn c8 h
    by_cases c9 : x1 = 9
    · refine lv_tableIn (tgt := 163) hx hb d_E_all_20 (by rw [c9]; decide) (by rw [c9]; decide) (by rw [c9]; rfl) (by decide) ?_
      have h := ifp c9 h
      refine lv_aload_n hx hb d_E_all_163 rfl (lv_at hl 0 rfl) ?_
      refine va_get (D := D) (ci := 0) (v := .ref (q 3)) (C := R_E) (T := T_E) (N := 4) hx hb hts l_E hown hK hP 0 rfl rfl 2 (by decide) (hts _ w_91) (fun _ h9 => h9) rfl d_E_all_164 ?_
      obtain ⟨u167, hu167, h⟩ := bnd h
      refine gcall_i (va_runV (As := []) (rest := []) ⟨hx, hb, hml, hown, hts⟩ (c_X_pureMethods l D cI cZ tL q tl F u16  u167 hu167 H.size) (cwV 0 hts (gV w_310 w_311 w_312 w_4 w_313) rfl rfl rfl (by decide +kernel) ⟨Nat.le_of_ble_eq_true rfl, Nat.le_of_ble_eq_true rfl⟩) (gpV (k := 3) (ci := 3) hA hK (hD u16) hE hP hS rfl rfl) rfl rfl hl.1 rfl (lv_room (Nat.le_of_ble_eq_true rfl)) d_E_all_167 ⟨Nat.le_of_ble_eq_true rfl, Nat.le_of_ble_eq_true rfl⟩) hA (hD u16) hS (fun H locs hP hS => ?_)
      cases h
      exact gret_i hx hb hr hlk hP hS d_E_all_170
    have h := ifn c9 h
    by_cases c10 : x1 = 10
    · refine lv_tableIn (tgt := 171) hx hb d_E_all_20 (by rw [c10]; decide) (by rw [c10]; decide) (by rw [c10]; rfl) (by decide) ?_
      have h := ifp c10 h
      refine lv_aload_n hx hb d_E_all_171 rfl (lv_at hl 0 rfl) ?_
      refine va_get (D := D) (ci := 0) (v := .ref (q 3)) (C := R_E) (T := T_E) (N := 4) hx hb hts l_E hown hK hP 0 rfl rfl 2 (by decide) (hts _ w_91) (fun _ h9 => h9) rfl d_E_all_172 ?_
      obtain ⟨u175, hu175, h⟩ := bnd h
      refine gcall_i (va_runV (As := []) (rest := []) ⟨hx, hb, hml, hown, hts⟩ (c_X_freshMethods l D cI cZ tL q tl F u16  u175 hu175 H.size) (cwV 0 hts (gV w_322 w_323 w_324 w_4 w_325) rfl rfl rfl (by decide +kernel) ⟨Nat.le_of_ble_eq_true rfl, Nat.le_of_ble_eq_true rfl⟩) (gpV (k := 3) (ci := 3) hA hK (hD u16) hE hP hS rfl rfl) rfl rfl hl.1 rfl (lv_room (Nat.le_of_ble_eq_true rfl)) d_E_all_175 ⟨Nat.le_of_ble_eq_true rfl, Nat.le_of_ble_eq_true rfl⟩) hA (hD u16) hS (fun H locs hP hS => ?_)
      cases h
      exact gret_i hx hb hr hlk hP hS d_E_all_178
    have h := ifn c10 h
    by_cases c11 : x1 = 11
    · refine lv_tableIn (tgt := 179) hx hb d_E_all_20 (by rw [c11]; decide) (by rw [c11]; decide) (by rw [c11]; rfl) (by decide) ?_
      have h := ifp c11 h
      refine lv_aload_n hx hb d_E_all_179 rfl (lv_at hl 0 rfl) ?_
      refine va_get (D := D) (ci := 0) (v := .ref (q 3)) (C := R_E) (T := T_E) (N := 4) hx hb hts l_E hown hK hP 0 rfl rfl 2 (by decide) (hts _ w_91) (fun _ h9 => h9) rfl d_E_all_180 ?_
      obtain ⟨u183, hu183, h⟩ := bnd h
      refine gcall_i (va_runV (As := []) (rest := []) ⟨hx, hb, hml, hown, hts⟩ (c_X_countIdle l D cI cZ tL q tl F u16  u183 hu183 H.size) (cwV 0 hts (gV w_329 w_330 w_331 w_4 w_332) rfl rfl rfl (by decide +kernel) ⟨Nat.le_of_ble_eq_true rfl, Nat.le_of_ble_eq_true rfl⟩) (gpV (k := 3) (ci := 3) hA hK (hD u16) hE hP hS rfl rfl) rfl rfl hl.1 rfl (lv_room (Nat.le_of_ble_eq_true rfl)) d_E_all_183 ⟨Nat.le_of_ble_eq_true rfl, Nat.le_of_ble_eq_true rfl⟩) hA (hD u16) hS (fun H locs hP hS => ?_)
      cases h
      exact gret_i hx hb hr hlk hP hS d_E_all_186
    have h := ifn c11 h
    refine lv_tableOut (tgt := 187) hx hb d_E_all_20 (by have e0 := lv_neT (a := 0) c0 (by decide); have e1 := lv_neT (a := 1) c1 (by decide); have e2 := lv_neT (a := 2) c2 (by decide); have e3 := lv_neT (a := 3) c3 (by decide); have e4 := lv_neT (a := 4) c4 (by decide); have e5 := lv_neT (a := 5) c5 (by decide); have e6 := lv_neT (a := 6) c6 (by decide); have e7 := lv_neT (a := 7) c7 (by decide); have e8 := lv_neT (a := 8) c8 (by decide); have e9 := lv_neT (a := 9) c9 (by decide); have e10 := lv_neT (a := 10) c10 (by decide); have e11 := lv_neT (a := 11) c11 (by decide); omega) (by decide) ?_
    refine lv_aload_n hx hb d_E_all_187 rfl (lv_at hl 0 rfl) ?_
    refine va_get (D := D) (ci := 0) (v := .ref (q 2)) (C := R_E) (T := T_E) (N := 4) hx hb hts l_E hown hK hP 0 rfl rfl 1 (by decide) (hts _ w_90) (fun _ h9 => h9) rfl d_E_all_188 ?_
    refine va_getN (D := D) (ci := 2) (v := .int (u16 2 9)) (C := R_S) (T := T_S) (N := 11) hx hb hts l_S hown hK hP 2 rfl rfl 9 (by decide) (va_Nw.use rfl (nf_16 hE)) (fun _ h9 => h9) rfl d_E_all_191 ?_
    cases h
    exact gret_i hx hb hr hlk hP hS d_E_all_194
  have h := ifp c h
  refine lv_bipush (v := -2) hx hb d_E_all_9 (by decide) ?_
  cases h
  exact gret_i hx hb hr hlk hP hS d_E_all_11
/-! ===== EscapeOwners.points(II)I ===== -/
def f_E_points (F : Nat) (σ : St) (x1 : Int32) (x2 : Int32) : Option (Int32 × St) := Option.bind (f_E_isMethod σ x1) (fun u2 => if u2 = 0 then (some ((-2 : Int32), σ)) else (Option.bind (f_E_isBelow x2 (8 : Int32)) (fun u11 => if u11 = 0 then (some ((-2 : Int32), σ)) else (Option.bind (f_S_solve F σ) (fun u24 => Option.bind (f_S_ofName u24 x1 x2) (fun u33 => some (u33, u24)))))))
set_option maxHeartbeats 4000000 in
set_option maxRecDepth 100000 in
theorem c_E_points (l : Launch) (D : va_G) (cI cZ : ClassId) (tL : Nat) (q : Nat → Nat) (tl : va_W) (F : Nat) (σ : St) (x1 : Int32) (x2 : Int32) (out0 : Int32 × St) (h : f_E_points F σ x1 x2 = some out0) : gCi l y_E_points (.code y_E_points b_E_points 3 (some .int) :: TB) { frames := 6, cells := 0, slots := 0, locals := 141 } D [(cI, .int), (cZ, .boolean)] tL [.ref (q 0), .int x1, .int x2] (wE cI cZ q σ ++ tl) out0.1 (wE cI cZ q out0.2 ++ tl) := by
  refine gCi_of (cc := b_E_points) (maxL := 3) (ty := .int) (by decide) rfl (Nat.le_of_ble_eq_true rfl) ?_
  intro p e s m below meth c A ls hf hr hlk hA hK hD0 hE hP hl
  obtain ⟨hx, hb, hml, hown, hts⟩ := id hf
  have hts : ∀ w ∈ TB, w.before _ s = true := fun w h => hts w (List.mem_cons_of_mem _ h)
  have hown : s.vm.findClass R_E = some m.cls := hown
  have hl : lv_has ls 3 [(0, .ref (q 0)), (1, .int x1), (2, .int x2)] := hl
  have hS : va_S A s.heap s.heap [] := va_S.rf
  have hD : ∀ σ' : St, va_D A (wE cI cZ q σ' ++ tl) := fun σ' => va_Dsame hD0 rfl
  unfold f_E_points at h
  refine lv_aload_n hx hb d_E_points_0 rfl (lv_at hl 0 rfl) ?_
  refine lv_iload_n hx hb d_E_points_1 rfl (lv_at hl 1 rfl) ?_
  obtain ⟨u2, hu2, h⟩ := bnd h
  refine gcall_i (va_runV (As := [.int x1]) (rest := []) ⟨hx, hb, hml, hown, hts⟩ (c_E_isMethod l D cI cZ tL q tl σ x1 u2 hu2 s.heap.size) (cwV 1 hts (gV w_118 w_119 w_669 w_1 w_120) rfl rfl rfl (by decide +kernel) ⟨Nat.le_of_ble_eq_true rfl, Nat.le_of_ble_eq_true rfl⟩) (gpV (k := 0) (ci := 0) hA hK (hD σ) hE hP hS rfl rfl) rfl rfl hl.1 rfl (lv_room (Nat.le_of_ble_eq_true rfl)) d_E_points_2 ⟨Nat.le_of_ble_eq_true rfl, Nat.le_of_ble_eq_true rfl⟩) hA (hD σ) hS (fun H locs hP hS => ?_)
  refine lv_if_eq (tgt := 17) hx hb d_E_points_5 (by decide) (fun c => ?_) (fun c => ?_)
  · have h := ifp c h
    refine lv_bipush (v := -2) hx hb d_E_points_17 (by decide) ?_
    cases h
    exact gret_i hx hb hr hlk hP hS d_E_points_19
  have h := ifn c h
  refine lv_iload_n hx hb d_E_points_8 rfl (lv_at hl 2 rfl) ?_
  refine lv_bipush (v := 8) hx hb d_E_points_9 (by decide) ?_
  obtain ⟨u11, hu11, h⟩ := bnd h
  refine gcall_i (va_runS (As := [.int x2, .int (8 : Int32)]) (rest := []) ⟨hx, hb, hml, hown, hts⟩ (c_E_isBelow l D cI cZ tL (wE cI cZ q σ ++ tl) x2 (8 : Int32) u11 hu11 H.size) (va_cwS 2 hts (gS w_121 w_122 w_1 w_123) rfl rfl rfl (by decide +kernel) ⟨Nat.le_of_ble_eq_true rfl, Nat.le_of_ble_eq_true rfl⟩) (gpS hA hK (hD σ) hE hP hS) rfl rfl hl.1 rfl (lv_room (Nat.le_of_ble_eq_true rfl)) d_E_points_11 ⟨Nat.le_of_ble_eq_true rfl, Nat.le_of_ble_eq_true rfl⟩) hA (hD σ) hS (fun H locs hP hS => ?_)
  refine lv_if_ne (tgt := 20) hx hb d_E_points_14 (by decide) (fun c => ?_) (fun c => ?_)
  · have h := ifn c h
    refine lv_aload_n hx hb d_E_points_20 rfl (lv_at hl 0 rfl) ?_
    refine va_get (D := D) (ci := 0) (v := .ref (q 2)) (C := R_E) (T := T_E) (N := 4) hx hb hts l_E hown hK hP 0 rfl rfl 1 (by decide) (hts _ w_90) (fun _ h9 => h9) rfl d_E_points_21 ?_
    obtain ⟨u24, hu24, h⟩ := bnd h
    refine gcall_v (va_runV (As := []) (rest := []) ⟨hx, hb, hml, hown, hts⟩ (c_S_solve l D cI cZ tL q tl F σ  u24 hu24 H.size) (cwV 0 hts (gV w_191 w_192 w_193 w_3 w_194) rfl rfl rfl (by decide +kernel) ⟨Nat.le_of_ble_eq_true rfl, Nat.le_of_ble_eq_true rfl⟩) (gpV (k := 2) (ci := 2) hA hK (hD σ) hE hP hS rfl rfl) rfl rfl hl.1 rfl (lv_room (Nat.le_of_ble_eq_true rfl)) d_E_points_24 ⟨Nat.le_of_ble_eq_true rfl, Nat.le_of_ble_eq_true rfl⟩) hA (hD σ) hS (fun H locs hP hS => ?_)
    refine lv_aload_n hx hb d_E_points_27 rfl (lv_at hl 0 rfl) ?_
    refine va_get (D := D) (ci := 0) (v := .ref (q 2)) (C := R_E) (T := T_E) (N := 4) hx hb hts l_E hown hK hP 0 rfl rfl 1 (by decide) (hts _ w_90) (fun _ h9 => h9) rfl d_E_points_28 ?_
    refine lv_iload_n hx hb d_E_points_31 rfl (lv_at hl 1 rfl) ?_
    refine lv_iload_n hx hb d_E_points_32 rfl (lv_at hl 2 rfl) ?_
    obtain ⟨u33, hu33, h⟩ := bnd h
    refine gcall_i (va_runV (As := [.int x1, .int x2]) (rest := []) ⟨hx, hb, hml, hown, hts⟩ (c_S_ofName l D cI cZ tL q tl u24 x1 x2 u33 hu33 H.size) (cwV 2 hts (gV w_340 w_227 w_228 w_3 w_229) rfl rfl rfl (by decide +kernel) ⟨Nat.le_of_ble_eq_true rfl, Nat.le_of_ble_eq_true rfl⟩) (gpV (k := 2) (ci := 2) hA hK (hD u24) hE hP hS rfl rfl) rfl rfl hl.1 rfl (lv_room (Nat.le_of_ble_eq_true rfl)) d_E_points_33 ⟨Nat.le_of_ble_eq_true rfl, Nat.le_of_ble_eq_true rfl⟩) hA (hD u24) hS (fun H locs hP hS => ?_)
    cases h
    exact gret_i hx hb hr hlk hP hS d_E_points_36
  have h := ifp c h
  refine lv_bipush (v := -2) hx hb d_E_points_17 (by decide) ?_
  cases h
  exact gret_i hx hb hr hlk hP hS d_E_points_19
/-! ===== EscapeOwners.isSite(I)Z ===== -/
def f_E_isSite (σ : St) (x1 : Int32) : Option (Int32) := Option.bind (f_E_isBelow x1 (σ 1 2)) (fun u8 => if u8 = 0 ∨ u8 = 1 then some u8 else none)
set_option maxHeartbeats 4000000 in
set_option maxRecDepth 100000 in
theorem c_E_isSite (l : Launch) (D : va_G) (cI cZ : ClassId) (tL : Nat) (q : Nat → Nat) (tl : va_W) (σ : St) (x1 : Int32) (out0 : Int32) (h : f_E_isSite σ x1 = some out0) : gCi l y_E_isSite (.code y_E_isSite b_E_isSite 2 (some .boolean) :: TB) { frames := 1, cells := 0, slots := 0, locals := 21 } D [(cI, .int), (cZ, .boolean)] tL [.ref (q 0), .int x1] (wE cI cZ q σ ++ tl) out0 (wE cI cZ q σ ++ tl) := by
  refine gCi_of (cc := b_E_isSite) (maxL := 2) (ty := .boolean) (by decide) rfl (Nat.le_of_ble_eq_true rfl) ?_
  intro p e s m below meth c A ls hf hr hlk hA hK hD0 hE hP hl
  obtain ⟨hx, hb, hml, hown, hts⟩ := id hf
  have hts : ∀ w ∈ TB, w.before _ s = true := fun w h => hts w (List.mem_cons_of_mem _ h)
  have hown : s.vm.findClass R_E = some m.cls := hown
  have hl : lv_has ls 2 [(0, .ref (q 0)), (1, .int x1)] := hl
  have hS : va_S A s.heap s.heap [] := va_S.rf
  have hD : ∀ σ' : St, va_D A (wE cI cZ q σ' ++ tl) := fun σ' => va_Dsame hD0 rfl
  unfold f_E_isSite at h
  refine lv_iload_n hx hb d_E_isSite_0 rfl (lv_at hl 1 rfl) ?_
  refine lv_aload_n hx hb d_E_isSite_1 rfl (lv_at hl 0 rfl) ?_
  refine va_get (D := D) (ci := 0) (v := .ref (q 1)) (C := R_E) (T := T_E) (N := 4) hx hb hts l_E hown hK hP 0 rfl rfl 0 (by decide) (hts _ w_89) (fun _ h9 => h9) rfl d_E_isSite_2 ?_
  refine va_getN (D := D) (ci := 1) (v := .int (σ 1 2)) (C := R_P) (T := T_P) (N := 8) hx hb hts l_P hown hK hP 1 rfl rfl 2 (by decide) (va_Nw.use rfl (nf_6 hE)) (fun _ h9 => h9) rfl d_E_isSite_5 ?_
  obtain ⟨u8, hu8, h⟩ := bnd h
  refine gcall_i (va_runS (As := [.int x1, .int (σ 1 2)]) (rest := []) ⟨hx, hb, hml, hown, hts⟩ (c_E_isBelow l D cI cZ tL (wE cI cZ q σ ++ tl) x1 (σ 1 2) u8 hu8 s.heap.size) (va_cwS 2 hts (gS w_121 w_122 w_1 w_123) rfl rfl rfl (by decide +kernel) ⟨Nat.le_of_ble_eq_true rfl, Nat.le_of_ble_eq_true rfl⟩) (gpS hA hK (hD σ) hE hP hS) rfl rfl hl.1 rfl (lv_room (Nat.le_of_ble_eq_true rfl)) d_E_isSite_8 ⟨Nat.le_of_ble_eq_true rfl, Nat.le_of_ble_eq_true rfl⟩) hA (hD σ) hS (fun H locs hP hS => ?_)
  obtain ⟨c, h⟩ := ifs h
  cases h
  exact gret_z hx hb hr hlk (gz c) hP hS d_E_isSite_11
/-! ===== EscapeOwners.field(II)I ===== -/
def f_E_field (F : Nat) (σ : St) (x1 : Int32) (x2 : Int32) : Option (Int32 × St) := Option.bind (f_E_isSite σ x1) (fun u2 => if u2 = 0 then (some ((-2 : Int32), σ)) else (Option.bind (f_E_isBelow x2 (4 : Int32)) (fun u10 => if u10 = 0 then (some ((-2 : Int32), σ)) else (Option.bind (f_S_solve F σ) (fun u23 => Option.bind (f_S_ofField u23 x1 x2) (fun u32 => some (u32, u23)))))))
set_option maxHeartbeats 4000000 in
set_option maxRecDepth 100000 in
theorem c_E_field (l : Launch) (D : va_G) (cI cZ : ClassId) (tL : Nat) (q : Nat → Nat) (tl : va_W) (F : Nat) (σ : St) (x1 : Int32) (x2 : Int32) (out0 : Int32 × St) (h : f_E_field F σ x1 x2 = some out0) : gCi l y_E_field (.code y_E_field b_E_field 3 (some .int) :: TB) { frames := 6, cells := 0, slots := 0, locals := 141 } D [(cI, .int), (cZ, .boolean)] tL [.ref (q 0), .int x1, .int x2] (wE cI cZ q σ ++ tl) out0.1 (wE cI cZ q out0.2 ++ tl) := by
  refine gCi_of (cc := b_E_field) (maxL := 3) (ty := .int) (by decide) rfl (Nat.le_of_ble_eq_true rfl) ?_
  intro p e s m below meth c A ls hf hr hlk hA hK hD0 hE hP hl
  obtain ⟨hx, hb, hml, hown, hts⟩ := id hf
  have hts : ∀ w ∈ TB, w.before _ s = true := fun w h => hts w (List.mem_cons_of_mem _ h)
  have hown : s.vm.findClass R_E = some m.cls := hown
  have hl : lv_has ls 3 [(0, .ref (q 0)), (1, .int x1), (2, .int x2)] := hl
  have hS : va_S A s.heap s.heap [] := va_S.rf
  have hD : ∀ σ' : St, va_D A (wE cI cZ q σ' ++ tl) := fun σ' => va_Dsame hD0 rfl
  unfold f_E_field at h
  refine lv_aload_n hx hb d_E_field_0 rfl (lv_at hl 0 rfl) ?_
  refine lv_iload_n hx hb d_E_field_1 rfl (lv_at hl 1 rfl) ?_
  obtain ⟨u2, hu2, h⟩ := bnd h
  refine gcall_i (va_runV (As := [.int x1]) (rest := []) ⟨hx, hb, hml, hown, hts⟩ (c_E_isSite l D cI cZ tL q tl σ x1 u2 hu2 s.heap.size) (cwV 1 hts (gV w_344 w_345 w_670 w_1 w_346) rfl rfl rfl (by decide +kernel) ⟨Nat.le_of_ble_eq_true rfl, Nat.le_of_ble_eq_true rfl⟩) (gpV (k := 0) (ci := 0) hA hK (hD σ) hE hP hS rfl rfl) rfl rfl hl.1 rfl (lv_room (Nat.le_of_ble_eq_true rfl)) d_E_field_2 ⟨Nat.le_of_ble_eq_true rfl, Nat.le_of_ble_eq_true rfl⟩) hA (hD σ) hS (fun H locs hP hS => ?_)
  refine lv_if_eq (tgt := 16) hx hb d_E_field_5 (by decide) (fun c => ?_) (fun c => ?_)
  · have h := ifp c h
    refine lv_bipush (v := -2) hx hb d_E_field_16 (by decide) ?_
    cases h
    exact gret_i hx hb hr hlk hP hS d_E_field_18
  have h := ifn c h
  refine lv_iload_n hx hb d_E_field_8 rfl (lv_at hl 2 rfl) ?_
  refine lv_iconst (v := 4) hx hb d_E_field_9 (by decide) ?_
  obtain ⟨u10, hu10, h⟩ := bnd h
  refine gcall_i (va_runS (As := [.int x2, .int (4 : Int32)]) (rest := []) ⟨hx, hb, hml, hown, hts⟩ (c_E_isBelow l D cI cZ tL (wE cI cZ q σ ++ tl) x2 (4 : Int32) u10 hu10 H.size) (va_cwS 2 hts (gS w_121 w_122 w_1 w_123) rfl rfl rfl (by decide +kernel) ⟨Nat.le_of_ble_eq_true rfl, Nat.le_of_ble_eq_true rfl⟩) (gpS hA hK (hD σ) hE hP hS) rfl rfl hl.1 rfl (lv_room (Nat.le_of_ble_eq_true rfl)) d_E_field_10 ⟨Nat.le_of_ble_eq_true rfl, Nat.le_of_ble_eq_true rfl⟩) hA (hD σ) hS (fun H locs hP hS => ?_)
  refine lv_if_ne (tgt := 19) hx hb d_E_field_13 (by decide) (fun c => ?_) (fun c => ?_)
  · have h := ifn c h
    refine lv_aload_n hx hb d_E_field_19 rfl (lv_at hl 0 rfl) ?_
    refine va_get (D := D) (ci := 0) (v := .ref (q 2)) (C := R_E) (T := T_E) (N := 4) hx hb hts l_E hown hK hP 0 rfl rfl 1 (by decide) (hts _ w_90) (fun _ h9 => h9) rfl d_E_field_20 ?_
    obtain ⟨u23, hu23, h⟩ := bnd h
    refine gcall_v (va_runV (As := []) (rest := []) ⟨hx, hb, hml, hown, hts⟩ (c_S_solve l D cI cZ tL q tl F σ  u23 hu23 H.size) (cwV 0 hts (gV w_191 w_192 w_193 w_3 w_194) rfl rfl rfl (by decide +kernel) ⟨Nat.le_of_ble_eq_true rfl, Nat.le_of_ble_eq_true rfl⟩) (gpV (k := 2) (ci := 2) hA hK (hD σ) hE hP hS rfl rfl) rfl rfl hl.1 rfl (lv_room (Nat.le_of_ble_eq_true rfl)) d_E_field_23 ⟨Nat.le_of_ble_eq_true rfl, Nat.le_of_ble_eq_true rfl⟩) hA (hD σ) hS (fun H locs hP hS => ?_)
    refine lv_aload_n hx hb d_E_field_26 rfl (lv_at hl 0 rfl) ?_
    refine va_get (D := D) (ci := 0) (v := .ref (q 2)) (C := R_E) (T := T_E) (N := 4) hx hb hts l_E hown hK hP 0 rfl rfl 1 (by decide) (hts _ w_90) (fun _ h9 => h9) rfl d_E_field_27 ?_
    refine lv_iload_n hx hb d_E_field_30 rfl (lv_at hl 1 rfl) ?_
    refine lv_iload_n hx hb d_E_field_31 rfl (lv_at hl 2 rfl) ?_
    obtain ⟨u32, hu32, h⟩ := bnd h
    refine gcall_i (va_runV (As := [.int x1, .int x2]) (rest := []) ⟨hx, hb, hml, hown, hts⟩ (c_S_ofField l D cI cZ tL q tl u23 x1 x2 u32 hu32 H.size) (cwV 2 hts (gV w_347 w_234 w_235 w_3 w_236) rfl rfl rfl (by decide +kernel) ⟨Nat.le_of_ble_eq_true rfl, Nat.le_of_ble_eq_true rfl⟩) (gpV (k := 2) (ci := 2) hA hK (hD u23) hE hP hS rfl rfl) rfl rfl hl.1 rfl (lv_room (Nat.le_of_ble_eq_true rfl)) d_E_field_32 ⟨Nat.le_of_ble_eq_true rfl, Nat.le_of_ble_eq_true rfl⟩) hA (hD u23) hS (fun H locs hP hS => ?_)
    cases h
    exact gret_i hx hb hr hlk hP hS d_E_field_35
  have h := ifp c h
  refine lv_bipush (v := -2) hx hb d_E_field_16 (by decide) ?_
  cases h
  exact gret_i hx hb hr hlk hP hS d_E_field_18
/-! ===== EscapeOwners.place(I)I ===== -/
def f_E_place (F : Nat) (σ : St) (x1 : Int32) : Option (Int32 × St) := Option.bind (f_E_isBelow x1 (4 : Int32)) (fun u2 => if u2 = 0 then (some ((-2 : Int32), σ)) else (Option.bind (f_S_solve F σ) (fun u15 => Option.bind (f_E_at 4 (u15 13) x1) (fun u26 => some (u26, u15)))))
set_option maxHeartbeats 4000000 in
set_option maxRecDepth 100000 in
theorem c_E_place (l : Launch) (D : va_G) (cI cZ : ClassId) (tL : Nat) (q : Nat → Nat) (tl : va_W) (F : Nat) (σ : St) (x1 : Int32) (out0 : Int32 × St) (h : f_E_place F σ x1 = some out0) : gCi l y_E_place (.code y_E_place b_E_place 2 (some .int) :: TB) { frames := 6, cells := 0, slots := 0, locals := 141 } D [(cI, .int), (cZ, .boolean)] tL [.ref (q 0), .int x1] (wE cI cZ q σ ++ tl) out0.1 (wE cI cZ q out0.2 ++ tl) := by
  refine gCi_of (cc := b_E_place) (maxL := 2) (ty := .int) (by decide) rfl (Nat.le_of_ble_eq_true rfl) ?_
  intro p e s m below meth c A ls hf hr hlk hA hK hD0 hE hP hl
  obtain ⟨hx, hb, hml, hown, hts⟩ := id hf
  have hts : ∀ w ∈ TB, w.before _ s = true := fun w h => hts w (List.mem_cons_of_mem _ h)
  have hown : s.vm.findClass R_E = some m.cls := hown
  have hl : lv_has ls 2 [(0, .ref (q 0)), (1, .int x1)] := hl
  have hS : va_S A s.heap s.heap [] := va_S.rf
  have hD : ∀ σ' : St, va_D A (wE cI cZ q σ' ++ tl) := fun σ' => va_Dsame hD0 rfl
  unfold f_E_place at h
  refine lv_iload_n hx hb d_E_place_0 rfl (lv_at hl 1 rfl) ?_
  refine lv_iconst (v := 4) hx hb d_E_place_1 (by decide) ?_
  obtain ⟨u2, hu2, h⟩ := bnd h
  refine gcall_i (va_runS (As := [.int x1, .int (4 : Int32)]) (rest := []) ⟨hx, hb, hml, hown, hts⟩ (c_E_isBelow l D cI cZ tL (wE cI cZ q σ ++ tl) x1 (4 : Int32) u2 hu2 s.heap.size) (va_cwS 2 hts (gS w_121 w_122 w_1 w_123) rfl rfl rfl (by decide +kernel) ⟨Nat.le_of_ble_eq_true rfl, Nat.le_of_ble_eq_true rfl⟩) (gpS hA hK (hD σ) hE hP hS) rfl rfl hl.1 rfl (lv_room (Nat.le_of_ble_eq_true rfl)) d_E_place_2 ⟨Nat.le_of_ble_eq_true rfl, Nat.le_of_ble_eq_true rfl⟩) hA (hD σ) hS (fun H locs hP hS => ?_)
  refine lv_if_ne (tgt := 11) hx hb d_E_place_5 (by decide) (fun c => ?_) (fun c => ?_)
  · have h := ifn c h
    refine lv_aload_n hx hb d_E_place_11 rfl (lv_at hl 0 rfl) ?_
    refine va_get (D := D) (ci := 0) (v := .ref (q 2)) (C := R_E) (T := T_E) (N := 4) hx hb hts l_E hown hK hP 0 rfl rfl 1 (by decide) (hts _ w_90) (fun _ h9 => h9) rfl d_E_place_12 ?_
    obtain ⟨u15, hu15, h⟩ := bnd h
    refine gcall_v (va_runV (As := []) (rest := []) ⟨hx, hb, hml, hown, hts⟩ (c_S_solve l D cI cZ tL q tl F σ  u15 hu15 H.size) (cwV 0 hts (gV w_191 w_192 w_193 w_3 w_194) rfl rfl rfl (by decide +kernel) ⟨Nat.le_of_ble_eq_true rfl, Nat.le_of_ble_eq_true rfl⟩) (gpV (k := 2) (ci := 2) hA hK (hD σ) hE hP hS rfl rfl) rfl rfl hl.1 rfl (lv_room (Nat.le_of_ble_eq_true rfl)) d_E_place_15 ⟨Nat.le_of_ble_eq_true rfl, Nat.le_of_ble_eq_true rfl⟩) hA (hD σ) hS (fun H locs hP hS => ?_)
    refine lv_aload_n hx hb d_E_place_18 rfl (lv_at hl 0 rfl) ?_
    refine va_get (D := D) (ci := 0) (v := .ref (q 2)) (C := R_E) (T := T_E) (N := 4) hx hb hts l_E hown hK hP 0 rfl rfl 1 (by decide) (hts _ w_90) (fun _ h9 => h9) rfl d_E_place_19 ?_
    refine va_getN (D := D) (ci := 2) (v := .ref (q 13)) (C := R_S) (T := T_S) (N := 11) hx hb hts l_S hown hK hP 2 rfl rfl 4 (by decide) (va_Nw.use rfl (nf_8 hE)) (fun _ h9 => h9) rfl d_E_place_22 ?_
    refine lv_iload_n hx hb d_E_place_25 rfl (lv_at hl 1 rfl) ?_
    obtain ⟨u26, hu26, h⟩ := bnd h
    refine gcall_i (va_runS (As := [.ref (q 13), .int x1]) (rest := []) ⟨hx, hb, hml, hown, hts⟩ (c_E_at_u l D cI cZ tL (wE cI cZ q u15 ++ tl) 13 (q 13) 4 (u15 13) rfl x1 u26 hu26 H.size) (va_cwS 2 hts (gS w_131 w_132 w_1 w_133) rfl rfl rfl (by decide +kernel) ⟨Nat.le_of_ble_eq_true rfl, Nat.le_of_ble_eq_true rfl⟩) (gpS hA hK (hD u15) hE hP hS) rfl rfl hl.1 rfl (lv_room (Nat.le_of_ble_eq_true rfl)) d_E_place_26 ⟨Nat.le_of_ble_eq_true rfl, Nat.le_of_ble_eq_true rfl⟩) hA (hD u15) hS (fun H locs hP hS => ?_)
    cases h
    exact gret_i hx hb hr hlk hP hS d_E_place_29
  have h := ifp c h
  refine lv_bipush (v := -2) hx hb d_E_place_8 (by decide) ?_
  cases h
  exact gret_i hx hb hr hlk hP hS d_E_place_10
/-! ===== EscapeOwners.result(I)I ===== -/
def f_E_result (F : Nat) (σ : St) (x1 : Int32) : Option (Int32 × St) := Option.bind (f_E_isMethod σ x1) (fun u2 => if u2 = 0 then (some ((-2 : Int32), σ)) else (Option.bind (f_S_solve F σ) (fun u15 => Option.bind (f_E_at 8 (u15 14) x1) (fun u26 => some (u26, u15)))))
set_option maxHeartbeats 4000000 in
set_option maxRecDepth 100000 in
theorem c_E_result (l : Launch) (D : va_G) (cI cZ : ClassId) (tL : Nat) (q : Nat → Nat) (tl : va_W) (F : Nat) (σ : St) (x1 : Int32) (out0 : Int32 × St) (h : f_E_result F σ x1 = some out0) : gCi l y_E_result (.code y_E_result b_E_result 2 (some .int) :: TB) { frames := 6, cells := 0, slots := 0, locals := 141 } D [(cI, .int), (cZ, .boolean)] tL [.ref (q 0), .int x1] (wE cI cZ q σ ++ tl) out0.1 (wE cI cZ q out0.2 ++ tl) := by
  refine gCi_of (cc := b_E_result) (maxL := 2) (ty := .int) (by decide) rfl (Nat.le_of_ble_eq_true rfl) ?_
  intro p e s m below meth c A ls hf hr hlk hA hK hD0 hE hP hl
  obtain ⟨hx, hb, hml, hown, hts⟩ := id hf
  have hts : ∀ w ∈ TB, w.before _ s = true := fun w h => hts w (List.mem_cons_of_mem _ h)
  have hown : s.vm.findClass R_E = some m.cls := hown
  have hl : lv_has ls 2 [(0, .ref (q 0)), (1, .int x1)] := hl
  have hS : va_S A s.heap s.heap [] := va_S.rf
  have hD : ∀ σ' : St, va_D A (wE cI cZ q σ' ++ tl) := fun σ' => va_Dsame hD0 rfl
  unfold f_E_result at h
  refine lv_aload_n hx hb d_E_result_0 rfl (lv_at hl 0 rfl) ?_
  refine lv_iload_n hx hb d_E_result_1 rfl (lv_at hl 1 rfl) ?_
  obtain ⟨u2, hu2, h⟩ := bnd h
  refine gcall_i (va_runV (As := [.int x1]) (rest := []) ⟨hx, hb, hml, hown, hts⟩ (c_E_isMethod l D cI cZ tL q tl σ x1 u2 hu2 s.heap.size) (cwV 1 hts (gV w_118 w_119 w_669 w_1 w_120) rfl rfl rfl (by decide +kernel) ⟨Nat.le_of_ble_eq_true rfl, Nat.le_of_ble_eq_true rfl⟩) (gpV (k := 0) (ci := 0) hA hK (hD σ) hE hP hS rfl rfl) rfl rfl hl.1 rfl (lv_room (Nat.le_of_ble_eq_true rfl)) d_E_result_2 ⟨Nat.le_of_ble_eq_true rfl, Nat.le_of_ble_eq_true rfl⟩) hA (hD σ) hS (fun H locs hP hS => ?_)
  refine lv_if_ne (tgt := 11) hx hb d_E_result_5 (by decide) (fun c => ?_) (fun c => ?_)
  · have h := ifn c h
    refine lv_aload_n hx hb d_E_result_11 rfl (lv_at hl 0 rfl) ?_
    refine va_get (D := D) (ci := 0) (v := .ref (q 2)) (C := R_E) (T := T_E) (N := 4) hx hb hts l_E hown hK hP 0 rfl rfl 1 (by decide) (hts _ w_90) (fun _ h9 => h9) rfl d_E_result_12 ?_
    obtain ⟨u15, hu15, h⟩ := bnd h
    refine gcall_v (va_runV (As := []) (rest := []) ⟨hx, hb, hml, hown, hts⟩ (c_S_solve l D cI cZ tL q tl F σ  u15 hu15 H.size) (cwV 0 hts (gV w_191 w_192 w_193 w_3 w_194) rfl rfl rfl (by decide +kernel) ⟨Nat.le_of_ble_eq_true rfl, Nat.le_of_ble_eq_true rfl⟩) (gpV (k := 2) (ci := 2) hA hK (hD σ) hE hP hS rfl rfl) rfl rfl hl.1 rfl (lv_room (Nat.le_of_ble_eq_true rfl)) d_E_result_15 ⟨Nat.le_of_ble_eq_true rfl, Nat.le_of_ble_eq_true rfl⟩) hA (hD σ) hS (fun H locs hP hS => ?_)
    refine lv_aload_n hx hb d_E_result_18 rfl (lv_at hl 0 rfl) ?_
    refine va_get (D := D) (ci := 0) (v := .ref (q 2)) (C := R_E) (T := T_E) (N := 4) hx hb hts l_E hown hK hP 0 rfl rfl 1 (by decide) (hts _ w_90) (fun _ h9 => h9) rfl d_E_result_19 ?_
    refine va_getN (D := D) (ci := 2) (v := .ref (q 14)) (C := R_S) (T := T_S) (N := 11) hx hb hts l_S hown hK hP 2 rfl rfl 5 (by decide) (va_Nw.use rfl (nf_10 hE)) (fun _ h9 => h9) rfl d_E_result_22 ?_
    refine lv_iload_n hx hb d_E_result_25 rfl (lv_at hl 1 rfl) ?_
    obtain ⟨u26, hu26, h⟩ := bnd h
    refine gcall_i (va_runS (As := [.ref (q 14), .int x1]) (rest := []) ⟨hx, hb, hml, hown, hts⟩ (c_E_at_u l D cI cZ tL (wE cI cZ q u15 ++ tl) 14 (q 14) 8 (u15 14) rfl x1 u26 hu26 H.size) (va_cwS 2 hts (gS w_131 w_132 w_1 w_133) rfl rfl rfl (by decide +kernel) ⟨Nat.le_of_ble_eq_true rfl, Nat.le_of_ble_eq_true rfl⟩) (gpS hA hK (hD u15) hE hP hS) rfl rfl hl.1 rfl (lv_room (Nat.le_of_ble_eq_true rfl)) d_E_result_26 ⟨Nat.le_of_ble_eq_true rfl, Nat.le_of_ble_eq_true rfl⟩) hA (hD u15) hS (fun H locs hP hS => ?_)
    cases h
    exact gret_i hx hb hr hlk hP hS d_E_result_29
  have h := ifp c h
  refine lv_bipush (v := -2) hx hb d_E_result_8 (by decide) ?_
  cases h
  exact gret_i hx hb hr hlk hP hS d_E_result_10
/-! ===== EscapeOwners.of(II)I ===== -/
def f_E_of (F : Nat) (σ : St) (x1 : Int32) (x2 : Int32) : Option (Int32 × St) := Option.bind (f_E_isSite σ x1) (fun u2 => if u2 = 0 then (some ((-2 : Int32), σ)) else (Option.bind (f_E_isBelow x2 (7 : Int32)) (fun u11 => if u11 = 0 then (some ((-2 : Int32), σ)) else (Option.bind (f_S_solve F σ) (fun u24 => if x2 = 0 then (Option.bind (f_P_methodOfSite u24 x1) (fun u73 => some (u73, u24))) else if x2 = 1 then (Option.bind (f_P_maker u24 x1) (fun u82 => some (u82, u24))) else if x2 = 2 then (Option.bind (f_E_at 16 (u24 15) x1) (fun u94 => some (u94, u24))) else if x2 = 3 then (Option.bind (f_X_countHolders F u24 x1) (fun u103 => some (u103, u24))) else if x2 = 4 then (Option.bind (f_X_holdingSites F u24 x1) (fun u112 => some (u112, u24))) else if x2 = 5 then (Option.bind (f_X_pointingMethods F u24 x1) (fun u121 => some (u121, u24))) else (Option.bind (f_X_storingMethods F u24 x1) (fun u130 => some (u130, u24))))))))
set_option maxHeartbeats 4000000 in
set_option maxRecDepth 100000 in
theorem c_E_of (l : Launch) (D : va_G) (cI cZ : ClassId) (tL : Nat) (q : Nat → Nat) (tl : va_W) (F : Nat) (σ : St) (x1 : Int32) (x2 : Int32) (out0 : Int32 × St) (h : f_E_of F σ x1 x2 = some out0) : gCi l y_E_of (.code y_E_of b_E_of 3 (some .int) :: TB) { frames := 6, cells := 0, slots := 0, locals := 141 } D [(cI, .int), (cZ, .boolean)] tL [.ref (q 0), .int x1, .int x2] (wE cI cZ q σ ++ tl) out0.1 (wE cI cZ q out0.2 ++ tl) := by
  refine gCi_of (cc := b_E_of) (maxL := 3) (ty := .int) (by decide) rfl (Nat.le_of_ble_eq_true rfl) ?_
  intro p e s m below meth c A ls hf hr hlk hA hK hD0 hE hP hl
  obtain ⟨hx, hb, hml, hown, hts⟩ := id hf
  have hts : ∀ w ∈ TB, w.before _ s = true := fun w h => hts w (List.mem_cons_of_mem _ h)
  have hown : s.vm.findClass R_E = some m.cls := hown
  have hl : lv_has ls 3 [(0, .ref (q 0)), (1, .int x1), (2, .int x2)] := hl
  have hS : va_S A s.heap s.heap [] := va_S.rf
  have hD : ∀ σ' : St, va_D A (wE cI cZ q σ' ++ tl) := fun σ' => va_Dsame hD0 rfl
  unfold f_E_of at h
  refine lv_aload_n hx hb d_E_of_0 rfl (lv_at hl 0 rfl) ?_
  refine lv_iload_n hx hb d_E_of_1 rfl (lv_at hl 1 rfl) ?_
  obtain ⟨u2, hu2, h⟩ := bnd h
  refine gcall_i (va_runV (As := [.int x1]) (rest := []) ⟨hx, hb, hml, hown, hts⟩ (c_E_isSite l D cI cZ tL q tl σ x1 u2 hu2 s.heap.size) (cwV 1 hts (gV w_344 w_345 w_670 w_1 w_346) rfl rfl rfl (by decide +kernel) ⟨Nat.le_of_ble_eq_true rfl, Nat.le_of_ble_eq_true rfl⟩) (gpV (k := 0) (ci := 0) hA hK (hD σ) hE hP hS rfl rfl) rfl rfl hl.1 rfl (lv_room (Nat.le_of_ble_eq_true rfl)) d_E_of_2 ⟨Nat.le_of_ble_eq_true rfl, Nat.le_of_ble_eq_true rfl⟩) hA (hD σ) hS (fun H locs hP hS => ?_)
  refine lv_if_eq (tgt := 17) hx hb d_E_of_5 (by decide) (fun c => ?_) (fun c => ?_)
  · have h := ifp c h
    refine lv_bipush (v := -2) hx hb d_E_of_17 (by decide) ?_
    cases h
    exact gret_i hx hb hr hlk hP hS d_E_of_19
  have h := ifn c h
  refine lv_iload_n hx hb d_E_of_8 rfl (lv_at hl 2 rfl) ?_
  refine lv_bipush (v := 7) hx hb d_E_of_9 (by decide) ?_
  obtain ⟨u11, hu11, h⟩ := bnd h
  refine gcall_i (va_runS (As := [.int x2, .int (7 : Int32)]) (rest := []) ⟨hx, hb, hml, hown, hts⟩ (c_E_isBelow l D cI cZ tL (wE cI cZ q σ ++ tl) x2 (7 : Int32) u11 hu11 H.size) (va_cwS 2 hts (gS w_121 w_122 w_1 w_123) rfl rfl rfl (by decide +kernel) ⟨Nat.le_of_ble_eq_true rfl, Nat.le_of_ble_eq_true rfl⟩) (gpS hA hK (hD σ) hE hP hS) rfl rfl hl.1 rfl (lv_room (Nat.le_of_ble_eq_true rfl)) d_E_of_11 ⟨Nat.le_of_ble_eq_true rfl, Nat.le_of_ble_eq_true rfl⟩) hA (hD σ) hS (fun H locs hP hS => ?_)
  refine lv_if_ne (tgt := 20) hx hb d_E_of_14 (by decide) (fun c => ?_) (fun c => ?_)
  · have h := ifn c h
    refine lv_aload_n hx hb d_E_of_20 rfl (lv_at hl 0 rfl) ?_
    refine va_get (D := D) (ci := 0) (v := .ref (q 2)) (C := R_E) (T := T_E) (N := 4) hx hb hts l_E hown hK hP 0 rfl rfl 1 (by decide) (hts _ w_90) (fun _ h9 => h9) rfl d_E_of_21 ?_
    obtain ⟨u24, hu24, h⟩ := bnd h
    refine gcall_v (va_runV (As := []) (rest := []) ⟨hx, hb, hml, hown, hts⟩ (c_S_solve l D cI cZ tL q tl F σ  u24 hu24 H.size) (cwV 0 hts (gV w_191 w_192 w_193 w_3 w_194) rfl rfl rfl (by decide +kernel) ⟨Nat.le_of_ble_eq_true rfl, Nat.le_of_ble_eq_true rfl⟩) (gpV (k := 2) (ci := 2) hA hK (hD σ) hE hP hS rfl rfl) rfl rfl hl.1 rfl (lv_room (Nat.le_of_ble_eq_true rfl)) d_E_of_24 ⟨Nat.le_of_ble_eq_true rfl, Nat.le_of_ble_eq_true rfl⟩) hA (hD σ) hS (fun H locs hP hS => ?_)
    refine lv_iload_n hx hb d_E_of_27 rfl (lv_at hl 2 rfl) ?_
    by_cases c0 : x2 = 0
    · refine lv_tableIn (tgt := 68) hx hb d_E_of_28 (by rw [c0]; decide) (by rw [c0]; decide) (by rw [c0]; rfl) (by decide) ?_
      have h := ifp c0 h
      refine lv_aload_n hx hb d_E_of_68 rfl (lv_at hl 0 rfl) ?_
      refine va_get (D := D) (ci := 0) (v := .ref (q 1)) (C := R_E) (T := T_E) (N := 4) hx hb hts l_E hown hK hP 0 rfl rfl 0 (by decide) (hts _ w_89) (fun _ h9 => h9) rfl d_E_of_69 ?_
      refine lv_iload_n hx hb d_E_of_72 rfl (lv_at hl 1 rfl) ?_
      obtain ⟨u73, hu73, h⟩ := bnd h
      refine gcall_i (va_runV (As := [.int x1]) (rest := []) ⟨hx, hb, hml, hown, hts⟩ (c_P_methodOfSite l D cI cZ tL q tl u24 x1 u73 hu73 H.size) (cwV 1 hts (gV w_357 w_264 w_265 w_2 w_266) rfl rfl rfl (by decide +kernel) ⟨Nat.le_of_ble_eq_true rfl, Nat.le_of_ble_eq_true rfl⟩) (gpV (k := 1) (ci := 1) hA hK (hD u24) hE hP hS rfl rfl) rfl rfl hl.1 rfl (lv_room (Nat.le_of_ble_eq_true rfl)) d_E_of_73 ⟨Nat.le_of_ble_eq_true rfl, Nat.le_of_ble_eq_true rfl⟩) hA (hD u24) hS (fun H locs hP hS => ?_)
      cases h
      exact gret_i hx hb hr hlk hP hS d_E_of_76
    have h := ifn c0 h
    by_cases c1 : x2 = 1
    · refine lv_tableIn (tgt := 77) hx hb d_E_of_28 (by rw [c1]; decide) (by rw [c1]; decide) (by rw [c1]; rfl) (by decide) ?_
      have h := ifp c1 h
      refine lv_aload_n hx hb d_E_of_77 rfl (lv_at hl 0 rfl) ?_
      refine va_get (D := D) (ci := 0) (v := .ref (q 1)) (C := R_E) (T := T_E) (N := 4) hx hb hts l_E hown hK hP 0 rfl rfl 0 (by decide) (hts _ w_89) (fun _ h9 => h9) rfl d_E_of_78 ?_
      refine lv_iload_n hx hb d_E_of_81 rfl (lv_at hl 1 rfl) ?_
      obtain ⟨u82, hu82, h⟩ := bnd h
      refine gcall_i (va_runV (As := [.int x1]) (rest := []) ⟨hx, hb, hml, hown, hts⟩ (c_P_maker l D cI cZ tL q tl u24 x1 u82 hu82 H.size) (cwV 1 hts (gV w_358 w_268 w_269 w_2 w_270) rfl rfl rfl (by decide +kernel) ⟨Nat.le_of_ble_eq_true rfl, Nat.le_of_ble_eq_true rfl⟩) (gpV (k := 1) (ci := 1) hA hK (hD u24) hE hP hS rfl rfl) rfl rfl hl.1 rfl (lv_room (Nat.le_of_ble_eq_true rfl)) d_E_of_82 ⟨Nat.le_of_ble_eq_true rfl, Nat.le_of_ble_eq_true rfl⟩) hA (hD u24) hS (fun H locs hP hS => ?_)
      cases h
      exact gret_i hx hb hr hlk hP hS d_E_of_85
    have h := ifn c1 h
    by_cases c2 : x2 = 2
    · refine lv_tableIn (tgt := 86) hx hb d_E_of_28 (by rw [c2]; decide) (by rw [c2]; decide) (by rw [c2]; rfl) (by decide) ?_
      have h := ifp c2 h
      refine lv_aload_n hx hb d_E_of_86 rfl (lv_at hl 0 rfl) ?_
      refine va_get (D := D) (ci := 0) (v := .ref (q 2)) (C := R_E) (T := T_E) (N := 4) hx hb hts l_E hown hK hP 0 rfl rfl 1 (by decide) (hts _ w_90) (fun _ h9 => h9) rfl d_E_of_87 ?_
      refine va_getN (D := D) (ci := 2) (v := .ref (q 15)) (C := R_S) (T := T_S) (N := 11) hx hb hts l_S hown hK hP 2 rfl rfl 6 (by decide) (va_Nw.use rfl (nf_11 hE)) (fun _ h9 => h9) rfl d_E_of_90 ?_
      refine lv_iload_n hx hb d_E_of_93 rfl (lv_at hl 1 rfl) ?_
      obtain ⟨u94, hu94, h⟩ := bnd h
      refine gcall_i (va_runS (As := [.ref (q 15), .int x1]) (rest := []) ⟨hx, hb, hml, hown, hts⟩ (c_E_at_u l D cI cZ tL (wE cI cZ q u24 ++ tl) 15 (q 15) 16 (u24 15) rfl x1 u94 hu94 H.size) (va_cwS 2 hts (gS w_131 w_132 w_1 w_133) rfl rfl rfl (by decide +kernel) ⟨Nat.le_of_ble_eq_true rfl, Nat.le_of_ble_eq_true rfl⟩) (gpS hA hK (hD u24) hE hP hS) rfl rfl hl.1 rfl (lv_room (Nat.le_of_ble_eq_true rfl)) d_E_of_94 ⟨Nat.le_of_ble_eq_true rfl, Nat.le_of_ble_eq_true rfl⟩) hA (hD u24) hS (fun H locs hP hS => ?_)
      cases h
      exact gret_i hx hb hr hlk hP hS d_E_of_97
    have h := ifn c2 h
    by_cases c3 : x2 = 3
    · refine lv_tableIn (tgt := 98) hx hb d_E_of_28 (by rw [c3]; decide) (by rw [c3]; decide) (by rw [c3]; rfl) (by decide) ?_
      have h := ifp c3 h
      refine lv_aload_n hx hb d_E_of_98 rfl (lv_at hl 0 rfl) ?_
      refine va_get (D := D) (ci := 0) (v := .ref (q 3)) (C := R_E) (T := T_E) (N := 4) hx hb hts l_E hown hK hP 0 rfl rfl 2 (by decide) (hts _ w_91) (fun _ h9 => h9) rfl d_E_of_99 ?_
      refine lv_iload_n hx hb d_E_of_102 rfl (lv_at hl 1 rfl) ?_
      obtain ⟨u103, hu103, h⟩ := bnd h
      refine gcall_i (va_runV (As := [.int x1]) (rest := []) ⟨hx, hb, hml, hown, hts⟩ (c_X_countHolders l D cI cZ tL q tl F u24 x1 u103 hu103 H.size) (cwV 1 hts (gV w_359 w_290 w_291 w_4 w_292) rfl rfl rfl (by decide +kernel) ⟨Nat.le_of_ble_eq_true rfl, Nat.le_of_ble_eq_true rfl⟩) (gpV (k := 3) (ci := 3) hA hK (hD u24) hE hP hS rfl rfl) rfl rfl hl.1 rfl (lv_room (Nat.le_of_ble_eq_true rfl)) d_E_of_103 ⟨Nat.le_of_ble_eq_true rfl, Nat.le_of_ble_eq_true rfl⟩) hA (hD u24) hS (fun H locs hP hS => ?_)
      cases h
      exact gret_i hx hb hr hlk hP hS d_E_of_106
    have h := ifn c3 h
    by_cases c4 : x2 = 4
    · refine lv_tableIn (tgt := 107) hx hb d_E_of_28 (by rw [c4]; decide) (by rw [c4]; decide) (by rw [c4]; rfl) (by decide) ?_
      have h := ifp c4 h
      refine lv_aload_n hx hb d_E_of_107 rfl (lv_at hl 0 rfl) ?_
      refine va_get (D := D) (ci := 0) (v := .ref (q 3)) (C := R_E) (T := T_E) (N := 4) hx hb hts l_E hown hK hP 0 rfl rfl 2 (by decide) (hts _ w_91) (fun _ h9 => h9) rfl d_E_of_108 ?_
      refine lv_iload_n hx hb d_E_of_111 rfl (lv_at hl 1 rfl) ?_
      obtain ⟨u112, hu112, h⟩ := bnd h
      refine gcall_i (va_runV (As := [.int x1]) (rest := []) ⟨hx, hb, hml, hown, hts⟩ (c_X_holdingSites l D cI cZ tL q tl F u24 x1 u112 hu112 H.size) (cwV 1 hts (gV w_360 w_361 w_362 w_4 w_363) rfl rfl rfl (by decide +kernel) ⟨Nat.le_of_ble_eq_true rfl, Nat.le_of_ble_eq_true rfl⟩) (gpV (k := 3) (ci := 3) hA hK (hD u24) hE hP hS rfl rfl) rfl rfl hl.1 rfl (lv_room (Nat.le_of_ble_eq_true rfl)) d_E_of_112 ⟨Nat.le_of_ble_eq_true rfl, Nat.le_of_ble_eq_true rfl⟩) hA (hD u24) hS (fun H locs hP hS => ?_)
      cases h
      exact gret_i hx hb hr hlk hP hS d_E_of_115
    have h := ifn c4 h
    by_cases c5 : x2 = 5
    · refine lv_tableIn (tgt := 116) hx hb d_E_of_28 (by rw [c5]; decide) (by rw [c5]; decide) (by rw [c5]; rfl) (by decide) ?_
      have h := ifp c5 h
      refine lv_aload_n hx hb d_E_of_116 rfl (lv_at hl 0 rfl) ?_
      refine va_get (D := D) (ci := 0) (v := .ref (q 3)) (C := R_E) (T := T_E) (N := 4) hx hb hts l_E hown hK hP 0 rfl rfl 2 (by decide) (hts _ w_91) (fun _ h9 => h9) rfl d_E_of_117 ?_
      refine lv_iload_n hx hb d_E_of_120 rfl (lv_at hl 1 rfl) ?_
      obtain ⟨u121, hu121, h⟩ := bnd h
      refine gcall_i (va_runV (As := [.int x1]) (rest := []) ⟨hx, hb, hml, hown, hts⟩ (c_X_pointingMethods l D cI cZ tL q tl F u24 x1 u121 hu121 H.size) (cwV 1 hts (gV w_364 w_365 w_366 w_4 w_367) rfl rfl rfl (by decide +kernel) ⟨Nat.le_of_ble_eq_true rfl, Nat.le_of_ble_eq_true rfl⟩) (gpV (k := 3) (ci := 3) hA hK (hD u24) hE hP hS rfl rfl) rfl rfl hl.1 rfl (lv_room (Nat.le_of_ble_eq_true rfl)) d_E_of_121 ⟨Nat.le_of_ble_eq_true rfl, Nat.le_of_ble_eq_true rfl⟩) hA (hD u24) hS (fun H locs hP hS => ?_)
      cases h
      exact gret_i hx hb hr hlk hP hS d_E_of_124
    have h := ifn c5 h
    refine lv_tableOut (tgt := 125) hx hb d_E_of_28 (by have e0 := lv_neT (a := 0) c0 (by decide); have e1 := lv_neT (a := 1) c1 (by decide); have e2 := lv_neT (a := 2) c2 (by decide); have e3 := lv_neT (a := 3) c3 (by decide); have e4 := lv_neT (a := 4) c4 (by decide); have e5 := lv_neT (a := 5) c5 (by decide); omega) (by decide) ?_
    refine lv_aload_n hx hb d_E_of_125 rfl (lv_at hl 0 rfl) ?_
    refine va_get (D := D) (ci := 0) (v := .ref (q 3)) (C := R_E) (T := T_E) (N := 4) hx hb hts l_E hown hK hP 0 rfl rfl 2 (by decide) (hts _ w_91) (fun _ h9 => h9) rfl d_E_of_126 ?_
    refine lv_iload_n hx hb d_E_of_129 rfl (lv_at hl 1 rfl) ?_
    obtain ⟨u130, hu130, h⟩ := bnd h
    refine gcall_i (va_runV (As := [.int x1]) (rest := []) ⟨hx, hb, hml, hown, hts⟩ (c_X_storingMethods l D cI cZ tL q tl F u24 x1 u130 hu130 H.size) (cwV 1 hts (gV w_368 w_299 w_300 w_4 w_301) rfl rfl rfl (by decide +kernel) ⟨Nat.le_of_ble_eq_true rfl, Nat.le_of_ble_eq_true rfl⟩) (gpV (k := 3) (ci := 3) hA hK (hD u24) hE hP hS rfl rfl) rfl rfl hl.1 rfl (lv_room (Nat.le_of_ble_eq_true rfl)) d_E_of_130 ⟨Nat.le_of_ble_eq_true rfl, Nat.le_of_ble_eq_true rfl⟩) hA (hD u24) hS (fun H locs hP hS => ?_)
    cases h
    exact gret_i hx hb hr hlk hP hS d_E_of_133
  have h := ifp c h
  refine lv_bipush (v := -2) hx hb d_E_of_17 (by decide) ?_
  cases h
  exact gret_i hx hb hr hlk hP hS d_E_of_19
/-! ===== EscapeOwners.meet(IIII)I ===== -/
def f_E_meet (F : Nat) (σ : St) (x1 : Int32) (x2 : Int32) (x3 : Int32) (x4 : Int32) : Option (Int32 × St) := Option.bind (f_E_isMethod σ x1) (fun u2 => if u2 = 0 then (some ((-2 : Int32), σ)) else (Option.bind (f_E_isBelow x2 (8 : Int32)) (fun u11 => if u11 = 0 then (some ((-2 : Int32), σ)) else (Option.bind (f_E_isMethod σ x3) (fun u19 => if u19 = 0 then (some ((-2 : Int32), σ)) else (Option.bind (f_E_isBelow x4 (8 : Int32)) (fun u29 => if u29 = 0 then (some ((-2 : Int32), σ)) else (Option.bind (f_S_solve F σ) (fun u42 => Option.bind (f_S_ofName u42 x1 x2) (fun u51 => Option.bind (f_S_ofName u42 x3 x4) (fun u61 => if (u51 &&& u61) = 0 then (some ((0 : Int32), u42)) else (some ((1 : Int32), u42)))))))))))))
set_option maxHeartbeats 4000000 in
set_option maxRecDepth 100000 in
theorem c_E_meet (l : Launch) (D : va_G) (cI cZ : ClassId) (tL : Nat) (q : Nat → Nat) (tl : va_W) (F : Nat) (σ : St) (x1 : Int32) (x2 : Int32) (x3 : Int32) (x4 : Int32) (out0 : Int32 × St) (h : f_E_meet F σ x1 x2 x3 x4 = some out0) : gCi l y_E_meet (.code y_E_meet b_E_meet 5 (some .int) :: TB) { frames := 6, cells := 0, slots := 0, locals := 141 } D [(cI, .int), (cZ, .boolean)] tL [.ref (q 0), .int x1, .int x2, .int x3, .int x4] (wE cI cZ q σ ++ tl) out0.1 (wE cI cZ q out0.2 ++ tl) := by
  refine gCi_of (cc := b_E_meet) (maxL := 5) (ty := .int) (by decide) rfl (Nat.le_of_ble_eq_true rfl) ?_
  intro p e s m below meth c A ls hf hr hlk hA hK hD0 hE hP hl
  obtain ⟨hx, hb, hml, hown, hts⟩ := id hf
  have hts : ∀ w ∈ TB, w.before _ s = true := fun w h => hts w (List.mem_cons_of_mem _ h)
  have hown : s.vm.findClass R_E = some m.cls := hown
  have hl : lv_has ls 5 [(0, .ref (q 0)), (1, .int x1), (2, .int x2), (3, .int x3), (4, .int x4)] := hl
  have hS : va_S A s.heap s.heap [] := va_S.rf
  have hD : ∀ σ' : St, va_D A (wE cI cZ q σ' ++ tl) := fun σ' => va_Dsame hD0 rfl
  unfold f_E_meet at h
  refine lv_aload_n hx hb d_E_meet_0 rfl (lv_at hl 0 rfl) ?_
  refine lv_iload_n hx hb d_E_meet_1 rfl (lv_at hl 1 rfl) ?_
  obtain ⟨u2, hu2, h⟩ := bnd h
  refine gcall_i (va_runV (As := [.int x1]) (rest := []) ⟨hx, hb, hml, hown, hts⟩ (c_E_isMethod l D cI cZ tL q tl σ x1 u2 hu2 s.heap.size) (cwV 1 hts (gV w_118 w_119 w_669 w_1 w_120) rfl rfl rfl (by decide +kernel) ⟨Nat.le_of_ble_eq_true rfl, Nat.le_of_ble_eq_true rfl⟩) (gpV (k := 0) (ci := 0) hA hK (hD σ) hE hP hS rfl rfl) rfl rfl hl.1 rfl (lv_room (Nat.le_of_ble_eq_true rfl)) d_E_meet_2 ⟨Nat.le_of_ble_eq_true rfl, Nat.le_of_ble_eq_true rfl⟩) hA (hD σ) hS (fun H locs hP hS => ?_)
  refine lv_if_eq (tgt := 35) hx hb d_E_meet_5 (by decide) (fun c => ?_) (fun c => ?_)
  · have h := ifp c h
    refine lv_bipush (v := -2) hx hb d_E_meet_35 (by decide) ?_
    cases h
    exact gret_i hx hb hr hlk hP hS d_E_meet_37
  have h := ifn c h
  refine lv_iload_n hx hb d_E_meet_8 rfl (lv_at hl 2 rfl) ?_
  refine lv_bipush (v := 8) hx hb d_E_meet_9 (by decide) ?_
  obtain ⟨u11, hu11, h⟩ := bnd h
  refine gcall_i (va_runS (As := [.int x2, .int (8 : Int32)]) (rest := []) ⟨hx, hb, hml, hown, hts⟩ (c_E_isBelow l D cI cZ tL (wE cI cZ q σ ++ tl) x2 (8 : Int32) u11 hu11 H.size) (va_cwS 2 hts (gS w_121 w_122 w_1 w_123) rfl rfl rfl (by decide +kernel) ⟨Nat.le_of_ble_eq_true rfl, Nat.le_of_ble_eq_true rfl⟩) (gpS hA hK (hD σ) hE hP hS) rfl rfl hl.1 rfl (lv_room (Nat.le_of_ble_eq_true rfl)) d_E_meet_11 ⟨Nat.le_of_ble_eq_true rfl, Nat.le_of_ble_eq_true rfl⟩) hA (hD σ) hS (fun H locs hP hS => ?_)
  refine lv_if_eq (tgt := 35) hx hb d_E_meet_14 (by decide) (fun c => ?_) (fun c => ?_)
  · have h := ifp c h
    refine lv_bipush (v := -2) hx hb d_E_meet_35 (by decide) ?_
    cases h
    exact gret_i hx hb hr hlk hP hS d_E_meet_37
  have h := ifn c h
  refine lv_aload_n hx hb d_E_meet_17 rfl (lv_at hl 0 rfl) ?_
  refine lv_iload_n hx hb d_E_meet_18 rfl (lv_at hl 3 rfl) ?_
  obtain ⟨u19, hu19, h⟩ := bnd h
  refine gcall_i (va_runV (As := [.int x3]) (rest := []) ⟨hx, hb, hml, hown, hts⟩ (c_E_isMethod l D cI cZ tL q tl σ x3 u19 hu19 H.size) (cwV 1 hts (gV w_118 w_119 w_669 w_1 w_120) rfl rfl rfl (by decide +kernel) ⟨Nat.le_of_ble_eq_true rfl, Nat.le_of_ble_eq_true rfl⟩) (gpV (k := 0) (ci := 0) hA hK (hD σ) hE hP hS rfl rfl) rfl rfl hl.1 rfl (lv_room (Nat.le_of_ble_eq_true rfl)) d_E_meet_19 ⟨Nat.le_of_ble_eq_true rfl, Nat.le_of_ble_eq_true rfl⟩) hA (hD σ) hS (fun H locs hP hS => ?_)
  refine lv_if_eq (tgt := 35) hx hb d_E_meet_22 (by decide) (fun c => ?_) (fun c => ?_)
  · have h := ifp c h
    refine lv_bipush (v := -2) hx hb d_E_meet_35 (by decide) ?_
    cases h
    exact gret_i hx hb hr hlk hP hS d_E_meet_37
  have h := ifn c h
  refine lv_iload hx hb d_E_meet_25 (lv_at hl 4 rfl) ?_
  refine lv_bipush (v := 8) hx hb d_E_meet_27 (by decide) ?_
  obtain ⟨u29, hu29, h⟩ := bnd h
  refine gcall_i (va_runS (As := [.int x4, .int (8 : Int32)]) (rest := []) ⟨hx, hb, hml, hown, hts⟩ (c_E_isBelow l D cI cZ tL (wE cI cZ q σ ++ tl) x4 (8 : Int32) u29 hu29 H.size) (va_cwS 2 hts (gS w_121 w_122 w_1 w_123) rfl rfl rfl (by decide +kernel) ⟨Nat.le_of_ble_eq_true rfl, Nat.le_of_ble_eq_true rfl⟩) (gpS hA hK (hD σ) hE hP hS) rfl rfl hl.1 rfl (lv_room (Nat.le_of_ble_eq_true rfl)) d_E_meet_29 ⟨Nat.le_of_ble_eq_true rfl, Nat.le_of_ble_eq_true rfl⟩) hA (hD σ) hS (fun H locs hP hS => ?_)
  refine lv_if_ne (tgt := 38) hx hb d_E_meet_32 (by decide) (fun c => ?_) (fun c => ?_)
  · have h := ifn c h
    refine lv_aload_n hx hb d_E_meet_38 rfl (lv_at hl 0 rfl) ?_
    refine va_get (D := D) (ci := 0) (v := .ref (q 2)) (C := R_E) (T := T_E) (N := 4) hx hb hts l_E hown hK hP 0 rfl rfl 1 (by decide) (hts _ w_90) (fun _ h9 => h9) rfl d_E_meet_39 ?_
    obtain ⟨u42, hu42, h⟩ := bnd h
    refine gcall_v (va_runV (As := []) (rest := []) ⟨hx, hb, hml, hown, hts⟩ (c_S_solve l D cI cZ tL q tl F σ  u42 hu42 H.size) (cwV 0 hts (gV w_191 w_192 w_193 w_3 w_194) rfl rfl rfl (by decide +kernel) ⟨Nat.le_of_ble_eq_true rfl, Nat.le_of_ble_eq_true rfl⟩) (gpV (k := 2) (ci := 2) hA hK (hD σ) hE hP hS rfl rfl) rfl rfl hl.1 rfl (lv_room (Nat.le_of_ble_eq_true rfl)) d_E_meet_42 ⟨Nat.le_of_ble_eq_true rfl, Nat.le_of_ble_eq_true rfl⟩) hA (hD σ) hS (fun H locs hP hS => ?_)
    refine lv_aload_n hx hb d_E_meet_45 rfl (lv_at hl 0 rfl) ?_
    refine va_get (D := D) (ci := 0) (v := .ref (q 2)) (C := R_E) (T := T_E) (N := 4) hx hb hts l_E hown hK hP 0 rfl rfl 1 (by decide) (hts _ w_90) (fun _ h9 => h9) rfl d_E_meet_46 ?_
    refine lv_iload_n hx hb d_E_meet_49 rfl (lv_at hl 1 rfl) ?_
    refine lv_iload_n hx hb d_E_meet_50 rfl (lv_at hl 2 rfl) ?_
    obtain ⟨u51, hu51, h⟩ := bnd h
    refine gcall_i (va_runV (As := [.int x1, .int x2]) (rest := []) ⟨hx, hb, hml, hown, hts⟩ (c_S_ofName l D cI cZ tL q tl u42 x1 x2 u51 hu51 H.size) (cwV 2 hts (gV w_340 w_227 w_228 w_3 w_229) rfl rfl rfl (by decide +kernel) ⟨Nat.le_of_ble_eq_true rfl, Nat.le_of_ble_eq_true rfl⟩) (gpV (k := 2) (ci := 2) hA hK (hD u42) hE hP hS rfl rfl) rfl rfl hl.1 rfl (lv_room (Nat.le_of_ble_eq_true rfl)) d_E_meet_51 ⟨Nat.le_of_ble_eq_true rfl, Nat.le_of_ble_eq_true rfl⟩) hA (hD u42) hS (fun H locs hP hS => ?_)
    refine lv_aload_n hx hb d_E_meet_54 rfl (lv_at hl 0 rfl) ?_
    refine va_get (D := D) (ci := 0) (v := .ref (q 2)) (C := R_E) (T := T_E) (N := 4) hx hb hts l_E hown hK hP 0 rfl rfl 1 (by decide) (hts _ w_90) (fun _ h9 => h9) rfl d_E_meet_55 ?_
    refine lv_iload_n hx hb d_E_meet_58 rfl (lv_at hl 3 rfl) ?_
    refine lv_iload hx hb d_E_meet_59 (lv_at hl 4 rfl) ?_
    obtain ⟨u61, hu61, h⟩ := bnd h
    refine gcall_i (va_runV (As := [.int x3, .int x4]) (rest := [.int u51]) ⟨hx, hb, hml, hown, hts⟩ (c_S_ofName l D cI cZ tL q tl u42 x3 x4 u61 hu61 H.size) (cwV 2 hts (gV w_340 w_227 w_228 w_3 w_229) rfl rfl rfl (by decide +kernel) ⟨Nat.le_of_ble_eq_true rfl, Nat.le_of_ble_eq_true rfl⟩) (gpV (k := 2) (ci := 2) hA hK (hD u42) hE hP hS rfl rfl) rfl rfl hl.1 rfl (lv_room (Nat.le_of_ble_eq_true rfl)) d_E_meet_61 ⟨Nat.le_of_ble_eq_true rfl, Nat.le_of_ble_eq_true rfl⟩) hA (hD u42) hS (fun H locs hP hS => ?_)
    refine lv_iand hx hb d_E_meet_64 ?_
    refine lv_if_eq (tgt := 72) hx hb d_E_meet_65 (by decide) (fun c => ?_) (fun c => ?_)
    · have h := ifp c h
      refine lv_iconst (v := 0) hx hb d_E_meet_72 (by decide) ?_
      cases h
      exact gret_i hx hb hr hlk hP hS d_E_meet_73
    have h := ifn c h
    refine lv_iconst (v := 1) hx hb d_E_meet_68 (by decide) ?_
    refine lv_goto (tgt := 73) hx hb d_E_meet_69 (by decide) ?_
    cases h
    exact gret_i hx hb hr hlk hP hS d_E_meet_73
  have h := ifp c h
  refine lv_bipush (v := -2) hx hb d_E_meet_35 (by decide) ?_
  cases h
  exact gret_i hx hb hr hlk hP hS d_E_meet_37
/-! ===== EscapeOwners.reach(II)I ===== -/
def f_E_reach (F : Nat) (σ : St) (x1 : Int32) (x2 : Int32) : Option (Int32 × St) := Option.bind (f_E_isMethod σ x1) (fun u2 => if u2 = 0 then (some ((-2 : Int32), σ)) else (Option.bind (f_E_isBelow x2 (8 : Int32)) (fun u11 => if u11 = 0 then (some ((-2 : Int32), σ)) else (Option.bind (f_S_solve F σ) (fun u24 => Option.bind (f_S_ofName u24 x1 x2) (fun u37 => Option.bind (f_S_reachedFrom F u24 u37) (fun u40 => some (u40, u24))))))))
set_option maxHeartbeats 4000000 in
set_option maxRecDepth 100000 in
theorem c_E_reach (l : Launch) (D : va_G) (cI cZ : ClassId) (tL : Nat) (q : Nat → Nat) (tl : va_W) (F : Nat) (σ : St) (x1 : Int32) (x2 : Int32) (out0 : Int32 × St) (h : f_E_reach F σ x1 x2 = some out0) : gCi l y_E_reach (.code y_E_reach b_E_reach 3 (some .int) :: TB) { frames := 6, cells := 0, slots := 0, locals := 141 } D [(cI, .int), (cZ, .boolean)] tL [.ref (q 0), .int x1, .int x2] (wE cI cZ q σ ++ tl) out0.1 (wE cI cZ q out0.2 ++ tl) := by
  refine gCi_of (cc := b_E_reach) (maxL := 3) (ty := .int) (by decide) rfl (Nat.le_of_ble_eq_true rfl) ?_
  intro p e s m below meth c A ls hf hr hlk hA hK hD0 hE hP hl
  obtain ⟨hx, hb, hml, hown, hts⟩ := id hf
  have hts : ∀ w ∈ TB, w.before _ s = true := fun w h => hts w (List.mem_cons_of_mem _ h)
  have hown : s.vm.findClass R_E = some m.cls := hown
  have hl : lv_has ls 3 [(0, .ref (q 0)), (1, .int x1), (2, .int x2)] := hl
  have hS : va_S A s.heap s.heap [] := va_S.rf
  have hD : ∀ σ' : St, va_D A (wE cI cZ q σ' ++ tl) := fun σ' => va_Dsame hD0 rfl
  unfold f_E_reach at h
  refine lv_aload_n hx hb d_E_reach_0 rfl (lv_at hl 0 rfl) ?_
  refine lv_iload_n hx hb d_E_reach_1 rfl (lv_at hl 1 rfl) ?_
  obtain ⟨u2, hu2, h⟩ := bnd h
  refine gcall_i (va_runV (As := [.int x1]) (rest := []) ⟨hx, hb, hml, hown, hts⟩ (c_E_isMethod l D cI cZ tL q tl σ x1 u2 hu2 s.heap.size) (cwV 1 hts (gV w_118 w_119 w_669 w_1 w_120) rfl rfl rfl (by decide +kernel) ⟨Nat.le_of_ble_eq_true rfl, Nat.le_of_ble_eq_true rfl⟩) (gpV (k := 0) (ci := 0) hA hK (hD σ) hE hP hS rfl rfl) rfl rfl hl.1 rfl (lv_room (Nat.le_of_ble_eq_true rfl)) d_E_reach_2 ⟨Nat.le_of_ble_eq_true rfl, Nat.le_of_ble_eq_true rfl⟩) hA (hD σ) hS (fun H locs hP hS => ?_)
  refine lv_if_eq (tgt := 17) hx hb d_E_reach_5 (by decide) (fun c => ?_) (fun c => ?_)
  · have h := ifp c h
    refine lv_bipush (v := -2) hx hb d_E_reach_17 (by decide) ?_
    cases h
    exact gret_i hx hb hr hlk hP hS d_E_reach_19
  have h := ifn c h
  refine lv_iload_n hx hb d_E_reach_8 rfl (lv_at hl 2 rfl) ?_
  refine lv_bipush (v := 8) hx hb d_E_reach_9 (by decide) ?_
  obtain ⟨u11, hu11, h⟩ := bnd h
  refine gcall_i (va_runS (As := [.int x2, .int (8 : Int32)]) (rest := []) ⟨hx, hb, hml, hown, hts⟩ (c_E_isBelow l D cI cZ tL (wE cI cZ q σ ++ tl) x2 (8 : Int32) u11 hu11 H.size) (va_cwS 2 hts (gS w_121 w_122 w_1 w_123) rfl rfl rfl (by decide +kernel) ⟨Nat.le_of_ble_eq_true rfl, Nat.le_of_ble_eq_true rfl⟩) (gpS hA hK (hD σ) hE hP hS) rfl rfl hl.1 rfl (lv_room (Nat.le_of_ble_eq_true rfl)) d_E_reach_11 ⟨Nat.le_of_ble_eq_true rfl, Nat.le_of_ble_eq_true rfl⟩) hA (hD σ) hS (fun H locs hP hS => ?_)
  refine lv_if_ne (tgt := 20) hx hb d_E_reach_14 (by decide) (fun c => ?_) (fun c => ?_)
  · have h := ifn c h
    refine lv_aload_n hx hb d_E_reach_20 rfl (lv_at hl 0 rfl) ?_
    refine va_get (D := D) (ci := 0) (v := .ref (q 2)) (C := R_E) (T := T_E) (N := 4) hx hb hts l_E hown hK hP 0 rfl rfl 1 (by decide) (hts _ w_90) (fun _ h9 => h9) rfl d_E_reach_21 ?_
    obtain ⟨u24, hu24, h⟩ := bnd h
    refine gcall_v (va_runV (As := []) (rest := []) ⟨hx, hb, hml, hown, hts⟩ (c_S_solve l D cI cZ tL q tl F σ  u24 hu24 H.size) (cwV 0 hts (gV w_191 w_192 w_193 w_3 w_194) rfl rfl rfl (by decide +kernel) ⟨Nat.le_of_ble_eq_true rfl, Nat.le_of_ble_eq_true rfl⟩) (gpV (k := 2) (ci := 2) hA hK (hD σ) hE hP hS rfl rfl) rfl rfl hl.1 rfl (lv_room (Nat.le_of_ble_eq_true rfl)) d_E_reach_24 ⟨Nat.le_of_ble_eq_true rfl, Nat.le_of_ble_eq_true rfl⟩) hA (hD σ) hS (fun H locs hP hS => ?_)
    refine lv_aload_n hx hb d_E_reach_27 rfl (lv_at hl 0 rfl) ?_
    refine va_get (D := D) (ci := 0) (v := .ref (q 2)) (C := R_E) (T := T_E) (N := 4) hx hb hts l_E hown hK hP 0 rfl rfl 1 (by decide) (hts _ w_90) (fun _ h9 => h9) rfl d_E_reach_28 ?_
    refine lv_aload_n hx hb d_E_reach_31 rfl (lv_at hl 0 rfl) ?_
    refine va_get (D := D) (ci := 0) (v := .ref (q 2)) (C := R_E) (T := T_E) (N := 4) hx hb hts l_E hown hK hP 0 rfl rfl 1 (by decide) (hts _ w_90) (fun _ h9 => h9) rfl d_E_reach_32 ?_
    refine lv_iload_n hx hb d_E_reach_35 rfl (lv_at hl 1 rfl) ?_
    refine lv_iload_n hx hb d_E_reach_36 rfl (lv_at hl 2 rfl) ?_
    obtain ⟨u37, hu37, h⟩ := bnd h
    refine gcall_i (va_runV (As := [.int x1, .int x2]) (rest := [.ref (q 2)]) ⟨hx, hb, hml, hown, hts⟩ (c_S_ofName l D cI cZ tL q tl u24 x1 x2 u37 hu37 H.size) (cwV 2 hts (gV w_340 w_227 w_228 w_3 w_229) rfl rfl rfl (by decide +kernel) ⟨Nat.le_of_ble_eq_true rfl, Nat.le_of_ble_eq_true rfl⟩) (gpV (k := 2) (ci := 2) hA hK (hD u24) hE hP hS rfl rfl) rfl rfl hl.1 rfl (lv_room (Nat.le_of_ble_eq_true rfl)) d_E_reach_37 ⟨Nat.le_of_ble_eq_true rfl, Nat.le_of_ble_eq_true rfl⟩) hA (hD u24) hS (fun H locs hP hS => ?_)
    obtain ⟨u40, hu40, h⟩ := bnd h
    refine gcall_i (va_runV (As := [.int u37]) (rest := []) ⟨hx, hb, hml, hown, hts⟩ (c_S_reachedFrom l D cI cZ tL q tl F u24 u37 u40 hu40 H.size) (cwV 1 hts (gV w_375 w_280 w_281 w_3 w_282) rfl rfl rfl (by decide +kernel) ⟨Nat.le_of_ble_eq_true rfl, Nat.le_of_ble_eq_true rfl⟩) (gpV (k := 2) (ci := 2) hA hK (hD u24) hE hP hS rfl rfl) rfl rfl hl.1 rfl (lv_room (Nat.le_of_ble_eq_true rfl)) d_E_reach_40 ⟨Nat.le_of_ble_eq_true rfl, Nat.le_of_ble_eq_true rfl⟩) hA (hD u24) hS (fun H locs hP hS => ?_)
    cases h
    exact gret_i hx hb hr hlk hP hS d_E_reach_43
  have h := ifp c h
  refine lv_bipush (v := -2) hx hb d_E_reach_17 (by decide) ?_
  cases h
  exact gret_i hx hb hr hlk hP hS d_E_reach_19
/-! ===== EscapeOwners.parameter(III)I ===== -/
def f_E_parameter (F : Nat) (σ : St) (x1 : Int32) (x2 : Int32) (x3 : Int32) : Option (Int32 × St) := Option.bind (f_E_isMethod σ x1) (fun u2 => if u2 = 0 then (some ((-2 : Int32), σ)) else (Option.bind (f_E_isBelow x2 (3 : Int32)) (fun u10 => if u10 = 0 then (some ((-2 : Int32), σ)) else (Option.bind (f_E_isBelow x3 (3 : Int32)) (fun u18 => if u18 = 0 then (some ((-2 : Int32), σ)) else (Option.bind (f_S_solve F σ) (fun u31 => Option.bind (f_E_has (u31 2 7) x1) (fun u42 => if u42 = 0 then (some ((-1 : Int32), u31)) else (Option.bind (f_K_spreadFrom F u31 x1 x2 (u31 2 7)) (fun u63 => if x3 = 0 then (Option.bind (f_K_isKept F u63) (fun u96 => if u96 = 0 then (some ((0 : Int32), u63)) else (some ((1 : Int32), u63)))) else if x3 = 1 then (Option.bind (f_E_has (u63 4 2) x1) (fun u116 => if u116 = 0 then (some ((0 : Int32), u63)) else (some ((1 : Int32), u63)))) else (Option.bind (f_K_countNames F u63) (fun u132 => some (u132, u63)))))))))))))
set_option maxHeartbeats 4000000 in
set_option maxRecDepth 100000 in
theorem c_E_parameter (l : Launch) (D : va_G) (cI cZ : ClassId) (tL : Nat) (q : Nat → Nat) (tl : va_W) (F : Nat) (σ : St) (x1 : Int32) (x2 : Int32) (x3 : Int32) (out0 : Int32 × St) (h : f_E_parameter F σ x1 x2 x3 = some out0) : gCi l y_E_parameter (.code y_E_parameter b_E_parameter 4 (some .int) :: TB) { frames := 6, cells := 0, slots := 0, locals := 141 } D [(cI, .int), (cZ, .boolean)] tL [.ref (q 0), .int x1, .int x2, .int x3] (wE cI cZ q σ ++ tl) out0.1 (wE cI cZ q out0.2 ++ tl) := by
  refine gCi_of (cc := b_E_parameter) (maxL := 4) (ty := .int) (by decide) rfl (Nat.le_of_ble_eq_true rfl) ?_
  intro p e s m below meth c A ls hf hr hlk hA hK hD0 hE hP hl
  obtain ⟨hx, hb, hml, hown, hts⟩ := id hf
  have hts : ∀ w ∈ TB, w.before _ s = true := fun w h => hts w (List.mem_cons_of_mem _ h)
  have hown : s.vm.findClass R_E = some m.cls := hown
  have hl : lv_has ls 4 [(0, .ref (q 0)), (1, .int x1), (2, .int x2), (3, .int x3)] := hl
  have hS : va_S A s.heap s.heap [] := va_S.rf
  have hD : ∀ σ' : St, va_D A (wE cI cZ q σ' ++ tl) := fun σ' => va_Dsame hD0 rfl
  unfold f_E_parameter at h
  refine lv_aload_n hx hb d_E_parameter_0 rfl (lv_at hl 0 rfl) ?_
  refine lv_iload_n hx hb d_E_parameter_1 rfl (lv_at hl 1 rfl) ?_
  obtain ⟨u2, hu2, h⟩ := bnd h
  refine gcall_i (va_runV (As := [.int x1]) (rest := []) ⟨hx, hb, hml, hown, hts⟩ (c_E_isMethod l D cI cZ tL q tl σ x1 u2 hu2 s.heap.size) (cwV 1 hts (gV w_118 w_119 w_669 w_1 w_120) rfl rfl rfl (by decide +kernel) ⟨Nat.le_of_ble_eq_true rfl, Nat.le_of_ble_eq_true rfl⟩) (gpV (k := 0) (ci := 0) hA hK (hD σ) hE hP hS rfl rfl) rfl rfl hl.1 rfl (lv_room (Nat.le_of_ble_eq_true rfl)) d_E_parameter_2 ⟨Nat.le_of_ble_eq_true rfl, Nat.le_of_ble_eq_true rfl⟩) hA (hD σ) hS (fun H locs hP hS => ?_)
  refine lv_if_eq (tgt := 24) hx hb d_E_parameter_5 (by decide) (fun c => ?_) (fun c => ?_)
  · have h := ifp c h
    refine lv_bipush (v := -2) hx hb d_E_parameter_24 (by decide) ?_
    cases h
    exact gret_i hx hb hr hlk hP hS d_E_parameter_26
  have h := ifn c h
  refine lv_iload_n hx hb d_E_parameter_8 rfl (lv_at hl 2 rfl) ?_
  refine lv_iconst (v := 3) hx hb d_E_parameter_9 (by decide) ?_
  obtain ⟨u10, hu10, h⟩ := bnd h
  refine gcall_i (va_runS (As := [.int x2, .int (3 : Int32)]) (rest := []) ⟨hx, hb, hml, hown, hts⟩ (c_E_isBelow l D cI cZ tL (wE cI cZ q σ ++ tl) x2 (3 : Int32) u10 hu10 H.size) (va_cwS 2 hts (gS w_121 w_122 w_1 w_123) rfl rfl rfl (by decide +kernel) ⟨Nat.le_of_ble_eq_true rfl, Nat.le_of_ble_eq_true rfl⟩) (gpS hA hK (hD σ) hE hP hS) rfl rfl hl.1 rfl (lv_room (Nat.le_of_ble_eq_true rfl)) d_E_parameter_10 ⟨Nat.le_of_ble_eq_true rfl, Nat.le_of_ble_eq_true rfl⟩) hA (hD σ) hS (fun H locs hP hS => ?_)
  refine lv_if_eq (tgt := 24) hx hb d_E_parameter_13 (by decide) (fun c => ?_) (fun c => ?_)
  · have h := ifp c h
    refine lv_bipush (v := -2) hx hb d_E_parameter_24 (by decide) ?_
    cases h
    exact gret_i hx hb hr hlk hP hS d_E_parameter_26
  have h := ifn c h
  refine lv_iload_n hx hb d_E_parameter_16 rfl (lv_at hl 3 rfl) ?_
  refine lv_iconst (v := 3) hx hb d_E_parameter_17 (by decide) ?_
  obtain ⟨u18, hu18, h⟩ := bnd h
  refine gcall_i (va_runS (As := [.int x3, .int (3 : Int32)]) (rest := []) ⟨hx, hb, hml, hown, hts⟩ (c_E_isBelow l D cI cZ tL (wE cI cZ q σ ++ tl) x3 (3 : Int32) u18 hu18 H.size) (va_cwS 2 hts (gS w_121 w_122 w_1 w_123) rfl rfl rfl (by decide +kernel) ⟨Nat.le_of_ble_eq_true rfl, Nat.le_of_ble_eq_true rfl⟩) (gpS hA hK (hD σ) hE hP hS) rfl rfl hl.1 rfl (lv_room (Nat.le_of_ble_eq_true rfl)) d_E_parameter_18 ⟨Nat.le_of_ble_eq_true rfl, Nat.le_of_ble_eq_true rfl⟩) hA (hD σ) hS (fun H locs hP hS => ?_)
  refine lv_if_ne (tgt := 27) hx hb d_E_parameter_21 (by decide) (fun c => ?_) (fun c => ?_)
  · have h := ifn c h
    refine lv_aload_n hx hb d_E_parameter_27 rfl (lv_at hl 0 rfl) ?_
    refine va_get (D := D) (ci := 0) (v := .ref (q 2)) (C := R_E) (T := T_E) (N := 4) hx hb hts l_E hown hK hP 0 rfl rfl 1 (by decide) (hts _ w_90) (fun _ h9 => h9) rfl d_E_parameter_28 ?_
    obtain ⟨u31, hu31, h⟩ := bnd h
    refine gcall_v (va_runV (As := []) (rest := []) ⟨hx, hb, hml, hown, hts⟩ (c_S_solve l D cI cZ tL q tl F σ  u31 hu31 H.size) (cwV 0 hts (gV w_191 w_192 w_193 w_3 w_194) rfl rfl rfl (by decide +kernel) ⟨Nat.le_of_ble_eq_true rfl, Nat.le_of_ble_eq_true rfl⟩) (gpV (k := 2) (ci := 2) hA hK (hD σ) hE hP hS rfl rfl) rfl rfl hl.1 rfl (lv_room (Nat.le_of_ble_eq_true rfl)) d_E_parameter_31 ⟨Nat.le_of_ble_eq_true rfl, Nat.le_of_ble_eq_true rfl⟩) hA (hD σ) hS (fun H locs hP hS => ?_)
    refine lv_aload_n hx hb d_E_parameter_34 rfl (lv_at hl 0 rfl) ?_
    refine va_get (D := D) (ci := 0) (v := .ref (q 2)) (C := R_E) (T := T_E) (N := 4) hx hb hts l_E hown hK hP 0 rfl rfl 1 (by decide) (hts _ w_90) (fun _ h9 => h9) rfl d_E_parameter_35 ?_
    refine va_getN (D := D) (ci := 2) (v := .int (u31 2 7)) (C := R_S) (T := T_S) (N := 11) hx hb hts l_S hown hK hP 2 rfl rfl 7 (by decide) (va_Nw.use rfl (nf_12 hE)) (fun _ h9 => h9) rfl d_E_parameter_38 ?_
    refine lv_iload_n hx hb d_E_parameter_41 rfl (lv_at hl 1 rfl) ?_
    obtain ⟨u42, hu42, h⟩ := bnd h
    refine gcall_i (va_runS (As := [.int (u31 2 7), .int x1]) (rest := []) ⟨hx, hb, hml, hown, hts⟩ (c_E_has l D cI cZ tL (wE cI cZ q u31 ++ tl) (u31 2 7) x1 u42 hu42 H.size) (va_cwS 2 hts (gS w_379 w_209 w_1 w_210) rfl rfl rfl (by decide +kernel) ⟨Nat.le_of_ble_eq_true rfl, Nat.le_of_ble_eq_true rfl⟩) (gpS hA hK (hD u31) hE hP hS) rfl rfl hl.1 rfl (lv_room (Nat.le_of_ble_eq_true rfl)) d_E_parameter_42 ⟨Nat.le_of_ble_eq_true rfl, Nat.le_of_ble_eq_true rfl⟩) hA (hD u31) hS (fun H locs hP hS => ?_)
    refine lv_if_ne (tgt := 50) hx hb d_E_parameter_45 (by decide) (fun c => ?_) (fun c => ?_)
    · have h := ifn c h
      refine lv_aload_n hx hb d_E_parameter_50 rfl (lv_at hl 0 rfl) ?_
      refine va_get (D := D) (ci := 0) (v := .ref (q 4)) (C := R_E) (T := T_E) (N := 4) hx hb hts l_E hown hK hP 0 rfl rfl 3 (by decide) (hts _ w_92) (fun _ h9 => h9) rfl d_E_parameter_51 ?_
      refine lv_iload_n hx hb d_E_parameter_54 rfl (lv_at hl 1 rfl) ?_
      refine lv_iload_n hx hb d_E_parameter_55 rfl (lv_at hl 2 rfl) ?_
      refine lv_aload_n hx hb d_E_parameter_56 rfl (lv_at hl 0 rfl) ?_
      refine va_get (D := D) (ci := 0) (v := .ref (q 2)) (C := R_E) (T := T_E) (N := 4) hx hb hts l_E hown hK hP 0 rfl rfl 1 (by decide) (hts _ w_90) (fun _ h9 => h9) rfl d_E_parameter_57 ?_
      refine va_getN (D := D) (ci := 2) (v := .int (u31 2 7)) (C := R_S) (T := T_S) (N := 11) hx hb hts l_S hown hK hP 2 rfl rfl 7 (by decide) (va_Nw.use rfl (nf_12 hE)) (fun _ h9 => h9) rfl d_E_parameter_60 ?_
      obtain ⟨u63, hu63, h⟩ := bnd h
      refine gcall_v (va_runV (As := [.int x1, .int x2, .int (u31 2 7)]) (rest := []) ⟨hx, hb, hml, hown, hts⟩ (c_K_spreadFrom l D cI cZ tL q tl F u31 x1 x2 (u31 2 7) u63 hu63 H.size) (cwV 3 hts (gV w_380 w_381 w_382 w_5 w_383) rfl rfl rfl (by decide +kernel) ⟨Nat.le_of_ble_eq_true rfl, Nat.le_of_ble_eq_true rfl⟩) (gpV (k := 4) (ci := 4) hA hK (hD u31) hE hP hS rfl rfl) rfl rfl hl.1 rfl (lv_room (Nat.le_of_ble_eq_true rfl)) d_E_parameter_63 ⟨Nat.le_of_ble_eq_true rfl, Nat.le_of_ble_eq_true rfl⟩) hA (hD u31) hS (fun H locs hP hS => ?_)
      refine lv_iload_n hx hb d_E_parameter_66 rfl (lv_at hl 3 rfl) ?_
      by_cases c0 : x3 = 0
      · refine lv_lookup (off := 25) (tgt := 92) hx hb d_E_parameter_67 (by decide) (by rw [c0]; decide) (by decide) ?_
        have h := ifp c0 h
        refine lv_aload_n hx hb d_E_parameter_92 rfl (lv_at hl 0 rfl) ?_
        refine va_get (D := D) (ci := 0) (v := .ref (q 4)) (C := R_E) (T := T_E) (N := 4) hx hb hts l_E hown hK hP 0 rfl rfl 3 (by decide) (hts _ w_92) (fun _ h9 => h9) rfl d_E_parameter_93 ?_
        obtain ⟨u96, hu96, h⟩ := bnd h
        refine gcall_i (va_runV (As := []) (rest := []) ⟨hx, hb, hml, hown, hts⟩ (c_K_isKept l D cI cZ tL q tl F u63  u96 hu96 H.size) (cwV 0 hts (gV w_406 w_407 w_408 w_5 w_409) rfl rfl rfl (by decide +kernel) ⟨Nat.le_of_ble_eq_true rfl, Nat.le_of_ble_eq_true rfl⟩) (gpV (k := 4) (ci := 4) hA hK (hD u63) hE hP hS rfl rfl) rfl rfl hl.1 rfl (lv_room (Nat.le_of_ble_eq_true rfl)) d_E_parameter_96 ⟨Nat.le_of_ble_eq_true rfl, Nat.le_of_ble_eq_true rfl⟩) hA (hD u63) hS (fun H locs hP hS => ?_)
        refine lv_if_eq (tgt := 106) hx hb d_E_parameter_99 (by decide) (fun c => ?_) (fun c => ?_)
        · have h := ifp c h
          refine lv_iconst (v := 0) hx hb d_E_parameter_106 (by decide) ?_
          cases h
          exact gret_i hx hb hr hlk hP hS d_E_parameter_107
        have h := ifn c h
        refine lv_iconst (v := 1) hx hb d_E_parameter_102 (by decide) ?_
        refine lv_goto (tgt := 107) hx hb d_E_parameter_103 (by decide) ?_
        cases h
        exact gret_i hx hb hr hlk hP hS d_E_parameter_107
      have h := ifn c0 h
      by_cases c1 : x3 = 1
      · refine lv_lookup (off := 41) (tgt := 108) hx hb d_E_parameter_67 (by decide) (by rw [c1]; decide) (by decide) ?_
        have h := ifp c1 h
        refine lv_aload_n hx hb d_E_parameter_108 rfl (lv_at hl 0 rfl) ?_
        refine va_get (D := D) (ci := 0) (v := .ref (q 4)) (C := R_E) (T := T_E) (N := 4) hx hb hts l_E hown hK hP 0 rfl rfl 3 (by decide) (hts _ w_92) (fun _ h9 => h9) rfl d_E_parameter_109 ?_
        refine va_getN (D := D) (ci := 4) (v := .int (u63 4 2)) (C := R_K) (T := T_K) (N := 4) hx hb hts l_K hown hK hP 4 rfl rfl 2 (by decide) (va_Nw.use rfl (nf_17 hE)) (fun _ h9 => h9) rfl d_E_parameter_112 ?_
        refine lv_iload_n hx hb d_E_parameter_115 rfl (lv_at hl 1 rfl) ?_
        obtain ⟨u116, hu116, h⟩ := bnd h
        refine gcall_i (va_runS (As := [.int (u63 4 2), .int x1]) (rest := []) ⟨hx, hb, hml, hown, hts⟩ (c_E_has l D cI cZ tL (wE cI cZ q u63 ++ tl) (u63 4 2) x1 u116 hu116 H.size) (va_cwS 2 hts (gS w_379 w_209 w_1 w_210) rfl rfl rfl (by decide +kernel) ⟨Nat.le_of_ble_eq_true rfl, Nat.le_of_ble_eq_true rfl⟩) (gpS hA hK (hD u63) hE hP hS) rfl rfl hl.1 rfl (lv_room (Nat.le_of_ble_eq_true rfl)) d_E_parameter_116 ⟨Nat.le_of_ble_eq_true rfl, Nat.le_of_ble_eq_true rfl⟩) hA (hD u63) hS (fun H locs hP hS => ?_)
        refine lv_if_eq (tgt := 126) hx hb d_E_parameter_119 (by decide) (fun c => ?_) (fun c => ?_)
        · have h := ifp c h
          refine lv_iconst (v := 0) hx hb d_E_parameter_126 (by decide) ?_
          cases h
          exact gret_i hx hb hr hlk hP hS d_E_parameter_127
        have h := ifn c h
        refine lv_iconst (v := 1) hx hb d_E_parameter_122 (by decide) ?_
        refine lv_goto (tgt := 127) hx hb d_E_parameter_123 (by decide) ?_
        cases h
        exact gret_i hx hb hr hlk hP hS d_E_parameter_127
      have h := ifn c1 h
      refine lv_lookup (off := 61) (tgt := 128) hx hb d_E_parameter_67 (by decide) ((lv_osw (k := 0) c0 (by decide)).trans ((lv_osw (k := 1) c1 (by decide)).trans (rfl))) (by decide) ?_
      refine lv_aload_n hx hb d_E_parameter_128 rfl (lv_at hl 0 rfl) ?_
      refine va_get (D := D) (ci := 0) (v := .ref (q 4)) (C := R_E) (T := T_E) (N := 4) hx hb hts l_E hown hK hP 0 rfl rfl 3 (by decide) (hts _ w_92) (fun _ h9 => h9) rfl d_E_parameter_129 ?_
      obtain ⟨u132, hu132, h⟩ := bnd h
      refine gcall_i (va_runV (As := []) (rest := []) ⟨hx, hb, hml, hown, hts⟩ (c_K_countNames l D cI cZ tL q tl F u63  u132 hu132 H.size) (cwV 0 hts (gV w_413 w_414 w_415 w_5 w_416) rfl rfl rfl (by decide +kernel) ⟨Nat.le_of_ble_eq_true rfl, Nat.le_of_ble_eq_true rfl⟩) (gpV (k := 4) (ci := 4) hA hK (hD u63) hE hP hS rfl rfl) rfl rfl hl.1 rfl (lv_room (Nat.le_of_ble_eq_true rfl)) d_E_parameter_132 ⟨Nat.le_of_ble_eq_true rfl, Nat.le_of_ble_eq_true rfl⟩) hA (hD u63) hS (fun H locs hP hS => ?_)
      cases h
      exact gret_i hx hb hr hlk hP hS d_E_parameter_135
    have h := ifp c h
    refine lv_iconst (v := -1) hx hb d_E_parameter_48 (by decide) ?_
    cases h
    exact gret_i hx hb hr hlk hP hS d_E_parameter_49
  have h := ifp c h
  refine lv_bipush (v := -2) hx hb d_E_parameter_24 (by decide) ?_
  cases h
  exact gret_i hx hb hr hlk hP hS d_E_parameter_26
/-! ===== EscapeOwners.idle(I)I ===== -/
def f_E_idle (F : Nat) (σ : St) (x1 : Int32) : Option (Int32 × St) := Option.bind (f_E_isStep σ x1) (fun u2 => if u2 = 0 then (some ((-2 : Int32), σ)) else (Option.bind (f_P_kind σ x1) (fun u13 => if u13 = (10 : Int32) then (Option.bind (f_S_solve F σ) (fun u28 => Option.bind (f_P_owner u28 x1) (fun u43 => Option.bind (f_E_has (u28 2 7) u43) (fun u46 => if u46 = 0 then (some ((-1 : Int32), u28)) else (Option.bind (f_X_isIdle u28 x1) (fun u59 => if u59 = 0 then (some ((0 : Int32), u28)) else (some ((1 : Int32), u28)))))))) else (some ((-2 : Int32), σ)))))
set_option maxHeartbeats 4000000 in
set_option maxRecDepth 100000 in
theorem c_E_idle (l : Launch) (D : va_G) (cI cZ : ClassId) (tL : Nat) (q : Nat → Nat) (tl : va_W) (F : Nat) (σ : St) (x1 : Int32) (out0 : Int32 × St) (h : f_E_idle F σ x1 = some out0) : gCi l y_E_idle (.code y_E_idle b_E_idle 2 (some .int) :: TB) { frames := 6, cells := 0, slots := 0, locals := 141 } D [(cI, .int), (cZ, .boolean)] tL [.ref (q 0), .int x1] (wE cI cZ q σ ++ tl) out0.1 (wE cI cZ q out0.2 ++ tl) := by
  refine gCi_of (cc := b_E_idle) (maxL := 2) (ty := .int) (by decide) rfl (Nat.le_of_ble_eq_true rfl) ?_
  intro p e s m below meth c A ls hf hr hlk hA hK hD0 hE hP hl
  obtain ⟨hx, hb, hml, hown, hts⟩ := id hf
  have hts : ∀ w ∈ TB, w.before _ s = true := fun w h => hts w (List.mem_cons_of_mem _ h)
  have hown : s.vm.findClass R_E = some m.cls := hown
  have hl : lv_has ls 2 [(0, .ref (q 0)), (1, .int x1)] := hl
  have hS : va_S A s.heap s.heap [] := va_S.rf
  have hD : ∀ σ' : St, va_D A (wE cI cZ q σ' ++ tl) := fun σ' => va_Dsame hD0 rfl
  unfold f_E_idle at h
  refine lv_aload_n hx hb d_E_idle_0 rfl (lv_at hl 0 rfl) ?_
  refine lv_iload_n hx hb d_E_idle_1 rfl (lv_at hl 1 rfl) ?_
  obtain ⟨u2, hu2, h⟩ := bnd h
  refine gcall_i (va_runV (As := [.int x1]) (rest := []) ⟨hx, hb, hml, hown, hts⟩ (c_E_isStep l D cI cZ tL q tl σ x1 u2 hu2 s.heap.size) (cwV 1 hts (gV w_172 w_173 w_671 w_1 w_174) rfl rfl rfl (by decide +kernel) ⟨Nat.le_of_ble_eq_true rfl, Nat.le_of_ble_eq_true rfl⟩) (gpV (k := 0) (ci := 0) hA hK (hD σ) hE hP hS rfl rfl) rfl rfl hl.1 rfl (lv_room (Nat.le_of_ble_eq_true rfl)) d_E_idle_2 ⟨Nat.le_of_ble_eq_true rfl, Nat.le_of_ble_eq_true rfl⟩) hA (hD σ) hS (fun H locs hP hS => ?_)
  refine lv_if_eq (tgt := 21) hx hb d_E_idle_5 (by decide) (fun c => ?_) (fun c => ?_)
  · have h := ifp c h
    refine lv_bipush (v := -2) hx hb d_E_idle_21 (by decide) ?_
    cases h
    exact gret_i hx hb hr hlk hP hS d_E_idle_23
  have h := ifn c h
  refine lv_aload_n hx hb d_E_idle_8 rfl (lv_at hl 0 rfl) ?_
  refine va_get (D := D) (ci := 0) (v := .ref (q 1)) (C := R_E) (T := T_E) (N := 4) hx hb hts l_E hown hK hP 0 rfl rfl 0 (by decide) (hts _ w_89) (fun _ h9 => h9) rfl d_E_idle_9 ?_
  refine lv_iload_n hx hb d_E_idle_12 rfl (lv_at hl 1 rfl) ?_
  obtain ⟨u13, hu13, h⟩ := bnd h
  refine gcall_i (va_runV (As := [.int x1]) (rest := []) ⟨hx, hb, hml, hown, hts⟩ (c_P_kind l D cI cZ tL q tl σ x1 u13 hu13 H.size) (cwV 1 hts (gV w_179 w_166 w_167 w_2 w_168) rfl rfl rfl (by decide +kernel) ⟨Nat.le_of_ble_eq_true rfl, Nat.le_of_ble_eq_true rfl⟩) (gpV (k := 1) (ci := 1) hA hK (hD σ) hE hP hS rfl rfl) rfl rfl hl.1 rfl (lv_room (Nat.le_of_ble_eq_true rfl)) d_E_idle_13 ⟨Nat.le_of_ble_eq_true rfl, Nat.le_of_ble_eq_true rfl⟩) hA (hD σ) hS (fun H locs hP hS => ?_)
  refine lv_bipush (v := 10) hx hb d_E_idle_16 (by decide) ?_
  refine lv_icmp_eq (tgt := 24) hx hb d_E_idle_18 (by decide) (fun c => ?_) (fun c => ?_)
  · have h := ifp c h
    refine lv_aload_n hx hb d_E_idle_24 rfl (lv_at hl 0 rfl) ?_
    refine va_get (D := D) (ci := 0) (v := .ref (q 2)) (C := R_E) (T := T_E) (N := 4) hx hb hts l_E hown hK hP 0 rfl rfl 1 (by decide) (hts _ w_90) (fun _ h9 => h9) rfl d_E_idle_25 ?_
    obtain ⟨u28, hu28, h⟩ := bnd h
    refine gcall_v (va_runV (As := []) (rest := []) ⟨hx, hb, hml, hown, hts⟩ (c_S_solve l D cI cZ tL q tl F σ  u28 hu28 H.size) (cwV 0 hts (gV w_191 w_192 w_193 w_3 w_194) rfl rfl rfl (by decide +kernel) ⟨Nat.le_of_ble_eq_true rfl, Nat.le_of_ble_eq_true rfl⟩) (gpV (k := 2) (ci := 2) hA hK (hD σ) hE hP hS rfl rfl) rfl rfl hl.1 rfl (lv_room (Nat.le_of_ble_eq_true rfl)) d_E_idle_28 ⟨Nat.le_of_ble_eq_true rfl, Nat.le_of_ble_eq_true rfl⟩) hA (hD σ) hS (fun H locs hP hS => ?_)
    refine lv_aload_n hx hb d_E_idle_31 rfl (lv_at hl 0 rfl) ?_
    refine va_get (D := D) (ci := 0) (v := .ref (q 2)) (C := R_E) (T := T_E) (N := 4) hx hb hts l_E hown hK hP 0 rfl rfl 1 (by decide) (hts _ w_90) (fun _ h9 => h9) rfl d_E_idle_32 ?_
    refine va_getN (D := D) (ci := 2) (v := .int (u28 2 7)) (C := R_S) (T := T_S) (N := 11) hx hb hts l_S hown hK hP 2 rfl rfl 7 (by decide) (va_Nw.use rfl (nf_12 hE)) (fun _ h9 => h9) rfl d_E_idle_35 ?_
    refine lv_aload_n hx hb d_E_idle_38 rfl (lv_at hl 0 rfl) ?_
    refine va_get (D := D) (ci := 0) (v := .ref (q 1)) (C := R_E) (T := T_E) (N := 4) hx hb hts l_E hown hK hP 0 rfl rfl 0 (by decide) (hts _ w_89) (fun _ h9 => h9) rfl d_E_idle_39 ?_
    refine lv_iload_n hx hb d_E_idle_42 rfl (lv_at hl 1 rfl) ?_
    obtain ⟨u43, hu43, h⟩ := bnd h
    refine gcall_i (va_runV (As := [.int x1]) (rest := [.int (u28 2 7)]) ⟨hx, hb, hml, hown, hts⟩ (c_P_owner l D cI cZ tL q tl u28 x1 u43 hu43 H.size) (cwV 1 hts (gV w_175 w_176 w_177 w_2 w_178) rfl rfl rfl (by decide +kernel) ⟨Nat.le_of_ble_eq_true rfl, Nat.le_of_ble_eq_true rfl⟩) (gpV (k := 1) (ci := 1) hA hK (hD u28) hE hP hS rfl rfl) rfl rfl hl.1 rfl (lv_room (Nat.le_of_ble_eq_true rfl)) d_E_idle_43 ⟨Nat.le_of_ble_eq_true rfl, Nat.le_of_ble_eq_true rfl⟩) hA (hD u28) hS (fun H locs hP hS => ?_)
    obtain ⟨u46, hu46, h⟩ := bnd h
    refine gcall_i (va_runS (As := [.int (u28 2 7), .int u43]) (rest := []) ⟨hx, hb, hml, hown, hts⟩ (c_E_has l D cI cZ tL (wE cI cZ q u28 ++ tl) (u28 2 7) u43 u46 hu46 H.size) (va_cwS 2 hts (gS w_379 w_209 w_1 w_210) rfl rfl rfl (by decide +kernel) ⟨Nat.le_of_ble_eq_true rfl, Nat.le_of_ble_eq_true rfl⟩) (gpS hA hK (hD u28) hE hP hS) rfl rfl hl.1 rfl (lv_room (Nat.le_of_ble_eq_true rfl)) d_E_idle_46 ⟨Nat.le_of_ble_eq_true rfl, Nat.le_of_ble_eq_true rfl⟩) hA (hD u28) hS (fun H locs hP hS => ?_)
    refine lv_if_ne (tgt := 54) hx hb d_E_idle_49 (by decide) (fun c => ?_) (fun c => ?_)
    · have h := ifn c h
      refine lv_aload_n hx hb d_E_idle_54 rfl (lv_at hl 0 rfl) ?_
      refine va_get (D := D) (ci := 0) (v := .ref (q 3)) (C := R_E) (T := T_E) (N := 4) hx hb hts l_E hown hK hP 0 rfl rfl 2 (by decide) (hts _ w_91) (fun _ h9 => h9) rfl d_E_idle_55 ?_
      refine lv_iload_n hx hb d_E_idle_58 rfl (lv_at hl 1 rfl) ?_
      obtain ⟨u59, hu59, h⟩ := bnd h
      refine gcall_i (va_runV (As := [.int x1]) (rest := []) ⟨hx, hb, hml, hown, hts⟩ (c_X_isIdle l D cI cZ tL q tl u28 x1 u59 hu59 H.size) (cwV 1 hts (gV w_426 w_334 w_335 w_4 w_336) rfl rfl rfl (by decide +kernel) ⟨Nat.le_of_ble_eq_true rfl, Nat.le_of_ble_eq_true rfl⟩) (gpV (k := 3) (ci := 3) hA hK (hD u28) hE hP hS rfl rfl) rfl rfl hl.1 rfl (lv_room (Nat.le_of_ble_eq_true rfl)) d_E_idle_59 ⟨Nat.le_of_ble_eq_true rfl, Nat.le_of_ble_eq_true rfl⟩) hA (hD u28) hS (fun H locs hP hS => ?_)
      refine lv_if_eq (tgt := 69) hx hb d_E_idle_62 (by decide) (fun c => ?_) (fun c => ?_)
      · have h := ifp c h
        refine lv_iconst (v := 0) hx hb d_E_idle_69 (by decide) ?_
        cases h
        exact gret_i hx hb hr hlk hP hS d_E_idle_70
      have h := ifn c h
      refine lv_iconst (v := 1) hx hb d_E_idle_65 (by decide) ?_
      refine lv_goto (tgt := 70) hx hb d_E_idle_66 (by decide) ?_
      cases h
      exact gret_i hx hb hr hlk hP hS d_E_idle_70
    have h := ifp c h
    refine lv_iconst (v := -1) hx hb d_E_idle_52 (by decide) ?_
    cases h
    exact gret_i hx hb hr hlk hP hS d_E_idle_53
  have h := ifn c h
  refine lv_bipush (v := -2) hx hb d_E_idle_21 (by decide) ?_
  cases h
  exact gret_i hx hb hr hlk hP hS d_E_idle_23
/-! ===== EscapeOwners.calls(II)I ===== -/
def f_E_calls (F : Nat) (σ : St) (x1 : Int32) (x2 : Int32) : Option (Int32 × St) := Option.bind (f_E_isMethod σ x1) (fun u2 => if u2 = 0 then (some ((-2 : Int32), σ)) else (Option.bind (f_E_isBelow x2 (3 : Int32)) (fun u10 => if u10 = 0 then (some ((-2 : Int32), σ)) else (Option.bind (f_S_solve F σ) (fun u23 => if x2 = 0 then (Option.bind (f_E_at 8 (u23 10) x1) (fun u60 => some (u60, u23))) else if x2 = 1 then (Option.bind (f_E_at 8 (u23 10) x1) (fun u76 => Option.bind (f_S_withCallees F u23 u76) (fun u79 => some (u79, u23)))) else (Option.bind (f_S_callersOf F u23 x1) (fun u88 => some (u88, u23))))))))
set_option maxHeartbeats 4000000 in
set_option maxRecDepth 100000 in
theorem c_E_calls (l : Launch) (D : va_G) (cI cZ : ClassId) (tL : Nat) (q : Nat → Nat) (tl : va_W) (F : Nat) (σ : St) (x1 : Int32) (x2 : Int32) (out0 : Int32 × St) (h : f_E_calls F σ x1 x2 = some out0) : gCi l y_E_calls (.code y_E_calls b_E_calls 3 (some .int) :: TB) { frames := 6, cells := 0, slots := 0, locals := 141 } D [(cI, .int), (cZ, .boolean)] tL [.ref (q 0), .int x1, .int x2] (wE cI cZ q σ ++ tl) out0.1 (wE cI cZ q out0.2 ++ tl) := by
  refine gCi_of (cc := b_E_calls) (maxL := 3) (ty := .int) (by decide) rfl (Nat.le_of_ble_eq_true rfl) ?_
  intro p e s m below meth c A ls hf hr hlk hA hK hD0 hE hP hl
  obtain ⟨hx, hb, hml, hown, hts⟩ := id hf
  have hts : ∀ w ∈ TB, w.before _ s = true := fun w h => hts w (List.mem_cons_of_mem _ h)
  have hown : s.vm.findClass R_E = some m.cls := hown
  have hl : lv_has ls 3 [(0, .ref (q 0)), (1, .int x1), (2, .int x2)] := hl
  have hS : va_S A s.heap s.heap [] := va_S.rf
  have hD : ∀ σ' : St, va_D A (wE cI cZ q σ' ++ tl) := fun σ' => va_Dsame hD0 rfl
  unfold f_E_calls at h
  refine lv_aload_n hx hb d_E_calls_0 rfl (lv_at hl 0 rfl) ?_
  refine lv_iload_n hx hb d_E_calls_1 rfl (lv_at hl 1 rfl) ?_
  obtain ⟨u2, hu2, h⟩ := bnd h
  refine gcall_i (va_runV (As := [.int x1]) (rest := []) ⟨hx, hb, hml, hown, hts⟩ (c_E_isMethod l D cI cZ tL q tl σ x1 u2 hu2 s.heap.size) (cwV 1 hts (gV w_118 w_119 w_669 w_1 w_120) rfl rfl rfl (by decide +kernel) ⟨Nat.le_of_ble_eq_true rfl, Nat.le_of_ble_eq_true rfl⟩) (gpV (k := 0) (ci := 0) hA hK (hD σ) hE hP hS rfl rfl) rfl rfl hl.1 rfl (lv_room (Nat.le_of_ble_eq_true rfl)) d_E_calls_2 ⟨Nat.le_of_ble_eq_true rfl, Nat.le_of_ble_eq_true rfl⟩) hA (hD σ) hS (fun H locs hP hS => ?_)
  refine lv_if_eq (tgt := 16) hx hb d_E_calls_5 (by decide) (fun c => ?_) (fun c => ?_)
  · have h := ifp c h
    refine lv_bipush (v := -2) hx hb d_E_calls_16 (by decide) ?_
    cases h
    exact gret_i hx hb hr hlk hP hS d_E_calls_18
  have h := ifn c h
  refine lv_iload_n hx hb d_E_calls_8 rfl (lv_at hl 2 rfl) ?_
  refine lv_iconst (v := 3) hx hb d_E_calls_9 (by decide) ?_
  obtain ⟨u10, hu10, h⟩ := bnd h
  refine gcall_i (va_runS (As := [.int x2, .int (3 : Int32)]) (rest := []) ⟨hx, hb, hml, hown, hts⟩ (c_E_isBelow l D cI cZ tL (wE cI cZ q σ ++ tl) x2 (3 : Int32) u10 hu10 H.size) (va_cwS 2 hts (gS w_121 w_122 w_1 w_123) rfl rfl rfl (by decide +kernel) ⟨Nat.le_of_ble_eq_true rfl, Nat.le_of_ble_eq_true rfl⟩) (gpS hA hK (hD σ) hE hP hS) rfl rfl hl.1 rfl (lv_room (Nat.le_of_ble_eq_true rfl)) d_E_calls_10 ⟨Nat.le_of_ble_eq_true rfl, Nat.le_of_ble_eq_true rfl⟩) hA (hD σ) hS (fun H locs hP hS => ?_)
  refine lv_if_ne (tgt := 19) hx hb d_E_calls_13 (by decide) (fun c => ?_) (fun c => ?_)
  · have h := ifn c h
    refine lv_aload_n hx hb d_E_calls_19 rfl (lv_at hl 0 rfl) ?_
    refine va_get (D := D) (ci := 0) (v := .ref (q 2)) (C := R_E) (T := T_E) (N := 4) hx hb hts l_E hown hK hP 0 rfl rfl 1 (by decide) (hts _ w_90) (fun _ h9 => h9) rfl d_E_calls_20 ?_
    obtain ⟨u23, hu23, h⟩ := bnd h
    refine gcall_v (va_runV (As := []) (rest := []) ⟨hx, hb, hml, hown, hts⟩ (c_S_solve l D cI cZ tL q tl F σ  u23 hu23 H.size) (cwV 0 hts (gV w_191 w_192 w_193 w_3 w_194) rfl rfl rfl (by decide +kernel) ⟨Nat.le_of_ble_eq_true rfl, Nat.le_of_ble_eq_true rfl⟩) (gpV (k := 2) (ci := 2) hA hK (hD σ) hE hP hS rfl rfl) rfl rfl hl.1 rfl (lv_room (Nat.le_of_ble_eq_true rfl)) d_E_calls_23 ⟨Nat.le_of_ble_eq_true rfl, Nat.le_of_ble_eq_true rfl⟩) hA (hD σ) hS (fun H locs hP hS => ?_)
    refine lv_iload_n hx hb d_E_calls_26 rfl (lv_at hl 2 rfl) ?_
    by_cases c0 : x2 = 0
    · refine lv_lookup (off := 25) (tgt := 52) hx hb d_E_calls_27 (by decide) (by rw [c0]; decide) (by decide) ?_
      have h := ifp c0 h
      refine lv_aload_n hx hb d_E_calls_52 rfl (lv_at hl 0 rfl) ?_
      refine va_get (D := D) (ci := 0) (v := .ref (q 2)) (C := R_E) (T := T_E) (N := 4) hx hb hts l_E hown hK hP 0 rfl rfl 1 (by decide) (hts _ w_90) (fun _ h9 => h9) rfl d_E_calls_53 ?_
      refine va_getN (D := D) (ci := 2) (v := .ref (q 10)) (C := R_S) (T := T_S) (N := 11) hx hb hts l_S hown hK hP 2 rfl rfl 1 (by decide) (va_Nw.use rfl (nf_7 hE)) (fun _ h9 => h9) rfl d_E_calls_56 ?_
      refine lv_iload_n hx hb d_E_calls_59 rfl (lv_at hl 1 rfl) ?_
      obtain ⟨u60, hu60, h⟩ := bnd h
      refine gcall_i (va_runS (As := [.ref (q 10), .int x1]) (rest := []) ⟨hx, hb, hml, hown, hts⟩ (c_E_at_u l D cI cZ tL (wE cI cZ q u23 ++ tl) 10 (q 10) 8 (u23 10) rfl x1 u60 hu60 H.size) (va_cwS 2 hts (gS w_131 w_132 w_1 w_133) rfl rfl rfl (by decide +kernel) ⟨Nat.le_of_ble_eq_true rfl, Nat.le_of_ble_eq_true rfl⟩) (gpS hA hK (hD u23) hE hP hS) rfl rfl hl.1 rfl (lv_room (Nat.le_of_ble_eq_true rfl)) d_E_calls_60 ⟨Nat.le_of_ble_eq_true rfl, Nat.le_of_ble_eq_true rfl⟩) hA (hD u23) hS (fun H locs hP hS => ?_)
      cases h
      exact gret_i hx hb hr hlk hP hS d_E_calls_63
    have h := ifn c0 h
    by_cases c1 : x2 = 1
    · refine lv_lookup (off := 37) (tgt := 64) hx hb d_E_calls_27 (by decide) (by rw [c1]; decide) (by decide) ?_
      have h := ifp c1 h
      refine lv_aload_n hx hb d_E_calls_64 rfl (lv_at hl 0 rfl) ?_
      refine va_get (D := D) (ci := 0) (v := .ref (q 2)) (C := R_E) (T := T_E) (N := 4) hx hb hts l_E hown hK hP 0 rfl rfl 1 (by decide) (hts _ w_90) (fun _ h9 => h9) rfl d_E_calls_65 ?_
      refine lv_aload_n hx hb d_E_calls_68 rfl (lv_at hl 0 rfl) ?_
      refine va_get (D := D) (ci := 0) (v := .ref (q 2)) (C := R_E) (T := T_E) (N := 4) hx hb hts l_E hown hK hP 0 rfl rfl 1 (by decide) (hts _ w_90) (fun _ h9 => h9) rfl d_E_calls_69 ?_
      refine va_getN (D := D) (ci := 2) (v := .ref (q 10)) (C := R_S) (T := T_S) (N := 11) hx hb hts l_S hown hK hP 2 rfl rfl 1 (by decide) (va_Nw.use rfl (nf_7 hE)) (fun _ h9 => h9) rfl d_E_calls_72 ?_
      refine lv_iload_n hx hb d_E_calls_75 rfl (lv_at hl 1 rfl) ?_
      obtain ⟨u76, hu76, h⟩ := bnd h
      refine gcall_i (va_runS (As := [.ref (q 10), .int x1]) (rest := [.ref (q 2)]) ⟨hx, hb, hml, hown, hts⟩ (c_E_at_u l D cI cZ tL (wE cI cZ q u23 ++ tl) 10 (q 10) 8 (u23 10) rfl x1 u76 hu76 H.size) (va_cwS 2 hts (gS w_131 w_132 w_1 w_133) rfl rfl rfl (by decide +kernel) ⟨Nat.le_of_ble_eq_true rfl, Nat.le_of_ble_eq_true rfl⟩) (gpS hA hK (hD u23) hE hP hS) rfl rfl hl.1 rfl (lv_room (Nat.le_of_ble_eq_true rfl)) d_E_calls_76 ⟨Nat.le_of_ble_eq_true rfl, Nat.le_of_ble_eq_true rfl⟩) hA (hD u23) hS (fun H locs hP hS => ?_)
      obtain ⟨u79, hu79, h⟩ := bnd h
      refine gcall_i (va_runV (As := [.int u76]) (rest := []) ⟨hx, hb, hml, hown, hts⟩ (c_S_withCallees l D cI cZ tL q tl F u23 u76 u79 hu79 H.size) (cwV 1 hts (gV w_430 w_206 w_207 w_3 w_208) rfl rfl rfl (by decide +kernel) ⟨Nat.le_of_ble_eq_true rfl, Nat.le_of_ble_eq_true rfl⟩) (gpV (k := 2) (ci := 2) hA hK (hD u23) hE hP hS rfl rfl) rfl rfl hl.1 rfl (lv_room (Nat.le_of_ble_eq_true rfl)) d_E_calls_79 ⟨Nat.le_of_ble_eq_true rfl, Nat.le_of_ble_eq_true rfl⟩) hA (hD u23) hS (fun H locs hP hS => ?_)
      cases h
      exact gret_i hx hb hr hlk hP hS d_E_calls_82
    have h := ifn c1 h
    refine lv_lookup (off := 56) (tgt := 83) hx hb d_E_calls_27 (by decide) ((lv_osw (k := 0) c0 (by decide)).trans ((lv_osw (k := 1) c1 (by decide)).trans (rfl))) (by decide) ?_
    refine lv_aload_n hx hb d_E_calls_83 rfl (lv_at hl 0 rfl) ?_
    refine va_get (D := D) (ci := 0) (v := .ref (q 2)) (C := R_E) (T := T_E) (N := 4) hx hb hts l_E hown hK hP 0 rfl rfl 1 (by decide) (hts _ w_90) (fun _ h9 => h9) rfl d_E_calls_84 ?_
    refine lv_iload_n hx hb d_E_calls_87 rfl (lv_at hl 1 rfl) ?_
    obtain ⟨u88, hu88, h⟩ := bnd h
    refine gcall_i (va_runV (As := [.int x1]) (rest := []) ⟨hx, hb, hml, hown, hts⟩ (c_S_callersOf l D cI cZ tL q tl F u23 x1 u88 hu88 H.size) (cwV 1 hts (gV w_431 w_432 w_433 w_3 w_434) rfl rfl rfl (by decide +kernel) ⟨Nat.le_of_ble_eq_true rfl, Nat.le_of_ble_eq_true rfl⟩) (gpV (k := 2) (ci := 2) hA hK (hD u23) hE hP hS rfl rfl) rfl rfl hl.1 rfl (lv_room (Nat.le_of_ble_eq_true rfl)) d_E_calls_88 ⟨Nat.le_of_ble_eq_true rfl, Nat.le_of_ble_eq_true rfl⟩) hA (hD u23) hS (fun H locs hP hS => ?_)
    cases h
    exact gret_i hx hb hr hlk hP hS d_E_calls_91
  have h := ifp c h
  refine lv_bipush (v := -2) hx hb d_E_calls_16 (by decide) ?_
  cases h
  exact gret_i hx hb hr hlk hP hS d_E_calls_18
