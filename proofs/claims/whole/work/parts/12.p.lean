/-! ===== EscapeOwners$Program.empty()V ===== -/
def f_P_empty (σ : St) : Option (St) := lett (su σ 1 0 (1 : Int32)) (fun s2 => lett (su s2 1 1 (0 : Int32)) (fun s7 => lett (su s7 1 2 (0 : Int32)) (fun s12 => some s12)))
set_option maxHeartbeats 4000000 in
set_option maxRecDepth 100000 in
theorem c_P_empty (l : Launch) (D : va_G) (cI cZ : ClassId) (tL : Nat) (q : Nat → Nat) (tl : va_W) (σ : St) (out0 : St) (h : f_P_empty σ = some out0) : gCv l y_P_empty (.code y_P_empty b_P_empty 1 none :: TB) { frames := 0, cells := 0, slots := 0, locals := 0 } D [(cI, .int), (cZ, .boolean)] tL [.ref (q 1)] (wE cI cZ q σ ++ tl) (wE cI cZ q out0 ++ tl) := by
  refine gCv_of (cc := b_P_empty) (maxL := 1)  (by decide) rfl (Nat.le_of_ble_eq_true rfl) ?_
  intro p e s m below meth c A ls hf hr hlk hA hK hD0 hE hP hl
  obtain ⟨hx, hb, hml, hown, hts⟩ := id hf
  have hts : ∀ w ∈ TB, w.before _ s = true := fun w h => hts w (List.mem_cons_of_mem _ h)
  have hown : s.vm.findClass R_P = some m.cls := hown
  have hl : lv_has ls 1 [(0, .ref (q 1))] := hl
  have hS : va_S A s.heap s.heap [] := va_S.rf
  have hD : ∀ σ' : St, va_D A (wE cI cZ q σ' ++ tl) := fun σ' => va_Dsame hD0 rfl
  unfold f_P_empty at h
  refine lv_aload_n hx hb d_P_empty_0 rfl (lv_at hl 0 rfl) ?_
  refine lv_iconst (v := 1) hx hb d_P_empty_1 (by decide) ?_
  refine va_put (D := D) (ci := 1) (v := .int (1 : Int32)) (ty := .int) (C := R_P) (T := T_P) (N := 8) hx hb hts l_P t_P t_P_ok n_P hown hK hP (hD σ) hS 1 rfl rfl 0 (by decide) (hts _ w_20) (fun _ h9 => h9) rfl (by decide +kernel) rfl rfl (Nat.le_of_ble_eq_true rfl) d_P_empty_2 (fun H locs hP _ hS => ?_)
  have hP : va_P D vwCl (wE cI cZ q (su σ 1 0 (1 : Int32)) ++ tl) H := hP
  obtain ⟨s2, es2, h⟩ := lettE h
  rw [← es2] at hP
  refine lv_aload_n hx hb d_P_empty_5 rfl (lv_at hl 0 rfl) ?_
  refine lv_iconst (v := 0) hx hb d_P_empty_6 (by decide) ?_
  refine va_put (D := D) (ci := 1) (v := .int (0 : Int32)) (ty := .int) (C := R_P) (T := T_P) (N := 8) hx hb hts l_P t_P t_P_ok n_P hown hK hP (hD s2) hS 1 rfl rfl 1 (by decide) (hts _ w_21) (fun _ h9 => h9) rfl (by decide +kernel) rfl rfl (Nat.le_of_ble_eq_true rfl) d_P_empty_7 (fun H locs hP _ hS => ?_)
  have hP : va_P D vwCl (wE cI cZ q (su s2 1 1 (0 : Int32)) ++ tl) H := hP
  obtain ⟨s7, es7, h⟩ := lettE h
  rw [← es7] at hP
  refine lv_aload_n hx hb d_P_empty_10 rfl (lv_at hl 0 rfl) ?_
  refine lv_iconst (v := 0) hx hb d_P_empty_11 (by decide) ?_
  refine va_put (D := D) (ci := 1) (v := .int (0 : Int32)) (ty := .int) (C := R_P) (T := T_P) (N := 8) hx hb hts l_P t_P t_P_ok n_P hown hK hP (hD s7) hS 1 rfl rfl 2 (by decide) (hts _ w_22) (fun _ h9 => h9) rfl (by decide +kernel) rfl rfl (Nat.le_of_ble_eq_true rfl) d_P_empty_12 (fun H locs hP _ hS => ?_)
  have hP : va_P D vwCl (wE cI cZ q (su s7 1 2 (0 : Int32)) ++ tl) H := hP
  obtain ⟨s12, es12, h⟩ := lettE h
  rw [← es12] at hP
  cases h
  exact gret_v hx hb hr hlk hP hS d_P_empty_15
/-! ===== EscapeOwners$Program.addMethod()I ===== -/
def f_P_addMethod (σ : St) : Option (Int32 × St) := lett (su σ 1 0 ((σ 1 0) + (1 : Int32))) (fun s7 => some (((s7 1 0) - (1 : Int32)), s7))
set_option maxHeartbeats 4000000 in
set_option maxRecDepth 100000 in
theorem c_P_addMethod (l : Launch) (D : va_G) (cI cZ : ClassId) (tL : Nat) (q : Nat → Nat) (tl : va_W) (σ : St) (out0 : Int32 × St) (h : f_P_addMethod σ = some out0) : gCi l y_P_addMethod (.code y_P_addMethod b_P_addMethod 1 (some .int) :: TB) { frames := 0, cells := 0, slots := 0, locals := 0 } D [(cI, .int), (cZ, .boolean)] tL [.ref (q 1)] (wE cI cZ q σ ++ tl) out0.1 (wE cI cZ q out0.2 ++ tl) := by
  refine gCi_of (cc := b_P_addMethod) (maxL := 1) (ty := .int) (by decide) rfl (Nat.le_of_ble_eq_true rfl) ?_
  intro p e s m below meth c A ls hf hr hlk hA hK hD0 hE hP hl
  obtain ⟨hx, hb, hml, hown, hts⟩ := id hf
  have hts : ∀ w ∈ TB, w.before _ s = true := fun w h => hts w (List.mem_cons_of_mem _ h)
  have hown : s.vm.findClass R_P = some m.cls := hown
  have hl : lv_has ls 1 [(0, .ref (q 1))] := hl
  have hS : va_S A s.heap s.heap [] := va_S.rf
  have hD : ∀ σ' : St, va_D A (wE cI cZ q σ' ++ tl) := fun σ' => va_Dsame hD0 rfl
  unfold f_P_addMethod at h
  refine lv_aload_n hx hb d_P_addMethod_0 rfl (lv_at hl 0 rfl) ?_
  refine lv_dup hx hb d_P_addMethod_1 rfl ?_
  refine va_get (D := D) (ci := 1) (v := .int (σ 1 0)) (C := R_P) (T := T_P) (N := 8) hx hb hts l_P hown hK hP 1 rfl rfl 0 (by decide) (hts _ w_20) (fun _ h9 => h9) rfl d_P_addMethod_2 ?_
  refine lv_iconst (v := 1) hx hb d_P_addMethod_5 (by decide) ?_
  refine lv_iadd hx hb d_P_addMethod_6 ?_
  refine va_put (D := D) (ci := 1) (v := .int ((σ 1 0) + (1 : Int32))) (ty := .int) (C := R_P) (T := T_P) (N := 8) hx hb hts l_P t_P t_P_ok n_P hown hK hP (hD σ) hS 1 rfl rfl 0 (by decide) (hts _ w_20) (fun _ h9 => h9) rfl (by decide +kernel) rfl rfl (Nat.le_of_ble_eq_true rfl) d_P_addMethod_7 (fun H locs hP _ hS => ?_)
  have hP : va_P D vwCl (wE cI cZ q (su σ 1 0 ((σ 1 0) + (1 : Int32))) ++ tl) H := hP
  obtain ⟨s7, es7, h⟩ := lettE h
  rw [← es7] at hP
  refine lv_aload_n hx hb d_P_addMethod_10 rfl (lv_at hl 0 rfl) ?_
  refine va_get (D := D) (ci := 1) (v := .int (s7 1 0)) (C := R_P) (T := T_P) (N := 8) hx hb hts l_P hown hK hP 1 rfl rfl 0 (by decide) (hts _ w_20) (fun _ h9 => h9) rfl d_P_addMethod_11 ?_
  refine lv_iconst (v := 1) hx hb d_P_addMethod_14 (by decide) ?_
  refine lv_isub hx hb d_P_addMethod_15 ?_
  cases h
  exact gret_i hx hb hr hlk hP hS d_P_addMethod_16
/-! ===== EscapeOwners$Program.hasRoomFor(I)Z ===== -/
def f_P_hasRoomFor (σ : St) (x1 : Int32) : Option (Int32) := if (64 : Int32) ≤ (σ 1 1) then (some (0 : Int32)) else (if x1 = 0 then (if (16 : Int32) ≤ (σ 1 2) then (some (0 : Int32)) else (some (1 : Int32))) else (some (1 : Int32)))
set_option maxHeartbeats 4000000 in
set_option maxRecDepth 100000 in
theorem c_P_hasRoomFor (l : Launch) (D : va_G) (cI cZ : ClassId) (tL : Nat) (q : Nat → Nat) (tl : va_W) (σ : St) (x1 : Int32) (out0 : Int32) (h : f_P_hasRoomFor σ x1 = some out0) : gCi l y_P_hasRoomFor (.code y_P_hasRoomFor b_P_hasRoomFor 2 (some .boolean) :: TB) { frames := 0, cells := 0, slots := 0, locals := 0 } D [(cI, .int), (cZ, .boolean)] tL [.ref (q 1), .int x1] (wE cI cZ q σ ++ tl) out0 (wE cI cZ q σ ++ tl) := by
  refine gCi_of (cc := b_P_hasRoomFor) (maxL := 2) (ty := .boolean) (by decide) rfl (Nat.le_of_ble_eq_true rfl) ?_
  intro p e s m below meth c A ls hf hr hlk hA hK hD0 hE hP hl
  obtain ⟨hx, hb, hml, hown, hts⟩ := id hf
  have hts : ∀ w ∈ TB, w.before _ s = true := fun w h => hts w (List.mem_cons_of_mem _ h)
  have hown : s.vm.findClass R_P = some m.cls := hown
  have hl : lv_has ls 2 [(0, .ref (q 1)), (1, .int x1)] := hl
  have hS : va_S A s.heap s.heap [] := va_S.rf
  have hD : ∀ σ' : St, va_D A (wE cI cZ q σ' ++ tl) := fun σ' => va_Dsame hD0 rfl
  unfold f_P_hasRoomFor at h
  refine lv_aload_n hx hb d_P_hasRoomFor_0 rfl (lv_at hl 0 rfl) ?_
  refine va_get (D := D) (ci := 1) (v := .int (σ 1 1)) (C := R_P) (T := T_P) (N := 8) hx hb hts l_P hown hK hP 1 rfl rfl 1 (by decide) (hts _ w_21) (fun _ h9 => h9) rfl d_P_hasRoomFor_1 ?_
  refine lv_bipush (v := 64) hx hb d_P_hasRoomFor_4 (by decide) ?_
  refine lv_icmp_ge (tgt := 26) hx hb d_P_hasRoomFor_6 (by decide) (fun c => ?_) (fun c => ?_)
  · have h := ifp c h
    refine lv_iconst (v := 0) hx hb d_P_hasRoomFor_26 (by decide) ?_
    cases h
    exact gret_z hx hb hr hlk (gz (Or.inl rfl)) hP hS d_P_hasRoomFor_27
  have h := ifn c h
  refine lv_iload_n hx hb d_P_hasRoomFor_9 rfl (lv_at hl 1 rfl) ?_
  refine lv_if_ne (tgt := 22) hx hb d_P_hasRoomFor_10 (by decide) (fun c => ?_) (fun c => ?_)
  · have h := ifn c h
    refine lv_iconst (v := 1) hx hb d_P_hasRoomFor_22 (by decide) ?_
    refine lv_goto (tgt := 27) hx hb d_P_hasRoomFor_23 (by decide) ?_
    cases h
    exact gret_z hx hb hr hlk (gz (Or.inr rfl)) hP hS d_P_hasRoomFor_27
  have h := ifp c h
  refine lv_aload_n hx hb d_P_hasRoomFor_13 rfl (lv_at hl 0 rfl) ?_
  refine va_get (D := D) (ci := 1) (v := .int (σ 1 2)) (C := R_P) (T := T_P) (N := 8) hx hb hts l_P hown hK hP 1 rfl rfl 2 (by decide) (hts _ w_22) (fun _ h9 => h9) rfl d_P_hasRoomFor_14 ?_
  refine lv_bipush (v := 16) hx hb d_P_hasRoomFor_17 (by decide) ?_
  refine lv_icmp_ge (tgt := 26) hx hb d_P_hasRoomFor_19 (by decide) (fun c => ?_) (fun c => ?_)
  · have h := ifp c h
    refine lv_iconst (v := 0) hx hb d_P_hasRoomFor_26 (by decide) ?_
    cases h
    exact gret_z hx hb hr hlk (gz (Or.inl rfl)) hP hS d_P_hasRoomFor_27
  have h := ifn c h
  refine lv_iconst (v := 1) hx hb d_P_hasRoomFor_22 (by decide) ?_
  refine lv_goto (tgt := 27) hx hb d_P_hasRoomFor_23 (by decide) ?_
  cases h
  exact gret_z hx hb hr hlk (gz (Or.inr rfl)) hP hS d_P_hasRoomFor_27
/-! ===== EscapeOwners$Program.setNeed(III)V ===== -/
def f_P_setNeed (σ : St) (x1 : Int32) (x2 : Int32) (x3 : Int32) : Option (St) := Option.bind (f_E_put 320 (σ 8) ((x1 * (5 : Int32)) + x2) x3) (fun u10 => lett (sr σ 8 u10) (fun s10 => some s10))
set_option maxHeartbeats 4000000 in
set_option maxRecDepth 100000 in
theorem c_P_setNeed (l : Launch) (D : va_G) (cI cZ : ClassId) (tL : Nat) (q : Nat → Nat) (tl : va_W) (σ : St) (x1 : Int32) (x2 : Int32) (x3 : Int32) (out0 : St) (h : f_P_setNeed σ x1 x2 x3 = some out0) : gCv l y_P_setNeed (.code y_P_setNeed b_P_setNeed 4 none :: TB) { frames := 1, cells := 0, slots := 0, locals := 22 } D [(cI, .int), (cZ, .boolean)] tL [.ref (q 1), .int x1, .int x2, .int x3] (wE cI cZ q σ ++ tl) (wE cI cZ q out0 ++ tl) := by
  refine gCv_of (cc := b_P_setNeed) (maxL := 4)  (by decide) rfl (Nat.le_of_ble_eq_true rfl) ?_
  intro p e s m below meth c A ls hf hr hlk hA hK hD0 hE hP hl
  obtain ⟨hx, hb, hml, hown, hts⟩ := id hf
  have hts : ∀ w ∈ TB, w.before _ s = true := fun w h => hts w (List.mem_cons_of_mem _ h)
  have hown : s.vm.findClass R_P = some m.cls := hown
  have hl : lv_has ls 4 [(0, .ref (q 1)), (1, .int x1), (2, .int x2), (3, .int x3)] := hl
  have hS : va_S A s.heap s.heap [] := va_S.rf
  have hD : ∀ σ' : St, va_D A (wE cI cZ q σ' ++ tl) := fun σ' => va_Dsame hD0 rfl
  unfold f_P_setNeed at h
  refine lv_aload_n hx hb d_P_setNeed_0 rfl (lv_at hl 0 rfl) ?_
  refine va_get (D := D) (ci := 1) (v := .ref (q 8)) (C := R_P) (T := T_P) (N := 8) hx hb hts l_P hown hK hP 1 rfl rfl 6 (by decide) (hts _ w_26) (fun _ h9 => h9) rfl d_P_setNeed_1 ?_
  refine lv_iload_n hx hb d_P_setNeed_4 rfl (lv_at hl 1 rfl) ?_
  refine lv_iconst (v := 5) hx hb d_P_setNeed_5 (by decide) ?_
  refine lv_imul hx hb d_P_setNeed_6 ?_
  refine lv_iload_n hx hb d_P_setNeed_7 rfl (lv_at hl 2 rfl) ?_
  refine lv_iadd hx hb d_P_setNeed_8 ?_
  refine lv_iload_n hx hb d_P_setNeed_9 rfl (lv_at hl 3 rfl) ?_
  obtain ⟨u10, hu10, h⟩ := bnd h
  refine gcall_v (va_runSN (As := [.ref (q 8), .int ((x1 * (5 : Int32)) + x2), .int x3]) (rest := []) ⟨hx, hb, hml, hown, hts⟩ (c_E_put_u l D cI cZ tL (wE cI cZ q σ ++ tl) 8 (q 8) 320 (σ 8) rfl ((x1 * (5 : Int32)) + x2) x3 u10 hu10 s.heap.size) ⟨va_cnB 3 hts (TB_code w_143) rfl rfl rfl (nm_0 hE) (hts _ w_1) (by decide +kernel) ⟨Nat.le_of_ble_eq_true rfl, Nat.le_of_ble_eq_true rfl⟩, hts _ w_142, trivial⟩ (gpS hA hK (hD σ) hE hP hS) rfl rfl hl.1 rfl (lv_room (Nat.le_of_ble_eq_true rfl)) d_P_setNeed_10 ⟨Nat.le_of_ble_eq_true rfl, Nat.le_of_ble_eq_true rfl⟩) hA (hD σ) hS (fun H locs hP hS => ?_)
  have hP : va_P D vwCl (wE cI cZ q (sr σ 8 u10) ++ tl) H := hP
  obtain ⟨s10, es10, h⟩ := lettE h
  rw [← es10] at hP
  cases h
  exact gret_v hx hb hr hlk hP hS d_P_setNeed_13
/-! ===== EscapeOwners$Program.addStep(II)I ===== -/
def f_P_addStep_B35 (F : Nat) (y2 : Int32) (y3 : Int32) (rec : Int32 → St → Option (Int32 × St)) (y4 : Int32) (σ : St) : Option (Int32 × St) := if (5 : Int32) ≤ y4 then (some (y4, σ)) else (Option.bind (f_P_setNeed σ y3 y4 (-1 : Int32)) (fun u46 => rec (y4 + (1 : Int32)) u46))
def f_P_addStep_L35 (F : Nat) (y2 : Int32) (y3 : Int32) : Nat → Int32 → St → Option (Int32 × St)
  | 0, _, _ => none
  | fu + 1, y4, σ => f_P_addStep_B35 F y2 y3 (f_P_addStep_L35 F y2 y3 fu) y4 σ
def f_P_addStep (F : Nat) (σ : St) (x1 : Int32) (x2 : Int32) : Option (Int32 × St) := Option.bind (f_E_put 64 (σ 5) (σ 1 1) x1) (fun u11 => lett (sr σ 5 u11) (fun s11 => Option.bind (f_E_put 64 (s11 6) (σ 1 1) x2) (fun u20 => lett (sr s11 6 u20) (fun s20 => Option.bind (f_E_put 64 (s20 7) (σ 1 1) (-1 : Int32)) (fun u29 => lett (sr s20 7 u29) (fun s29 => Option.bind (f_P_addStep_L35 F x2 (σ 1 1) F (0 : Int32) s29) (fun u35 => if x2 = 0 then (Option.bind (f_E_put 64 (u35.2 7) (σ 1 1) (u35.2 1 2)) (fun u68 => lett (sr u35.2 7 u68) (fun s68 => Option.bind (f_E_put 16 (s68 9) (s68 1 2) (σ 1 1)) (fun u80 => lett (sr s68 9 u80) (fun s80 => lett (su s80 1 2 ((s80 1 2) + (1 : Int32))) (fun s90 => lett (su s90 1 1 ((s90 1 1) + (1 : Int32))) (fun s100 => some ((σ 1 1), s100)))))))) else (lett (su u35.2 1 1 ((u35.2 1 1) + (1 : Int32))) (fun s100 => some ((σ 1 1), s100))))))))))
set_option maxHeartbeats 4000000 in
set_option maxRecDepth 100000 in
theorem c_P_addStep (l : Launch) (D : va_G) (cI cZ : ClassId) (tL : Nat) (q : Nat → Nat) (tl : va_W) (F : Nat) (σ : St) (x1 : Int32) (x2 : Int32) (out0 : Int32 × St) (h : f_P_addStep F σ x1 x2 = some out0) : gCi l y_P_addStep (.code y_P_addStep b_P_addStep 5 (some .int) :: TB) { frames := 2, cells := 0, slots := 0, locals := 45 } D [(cI, .int), (cZ, .boolean)] tL [.ref (q 1), .int x1, .int x2] (wE cI cZ q σ ++ tl) out0.1 (wE cI cZ q out0.2 ++ tl) := by
  refine gCi_of (cc := b_P_addStep) (maxL := 5) (ty := .int) (by decide) rfl (Nat.le_of_ble_eq_true rfl) ?_
  intro p e s m below meth c A ls hf hr hlk hA hK hD0 hE hP hl
  obtain ⟨hx, hb, hml, hown, hts⟩ := id hf
  have hts : ∀ w ∈ TB, w.before _ s = true := fun w h => hts w (List.mem_cons_of_mem _ h)
  have hown : s.vm.findClass R_P = some m.cls := hown
  have hl : lv_has ls 5 [(0, .ref (q 1)), (1, .int x1), (2, .int x2)] := hl
  have hS : va_S A s.heap s.heap [] := va_S.rf
  have hD : ∀ σ' : St, va_D A (wE cI cZ q σ' ++ tl) := fun σ' => va_Dsame hD0 rfl
  have L35 : ∀ (y2 : Int32) (y3 : Int32) (fu : Nat) (y4 : Int32) (σ : St) (H : Heap) (locs : List Loc) (ls : Array Slot) (out : Int32 × St), f_P_addStep_L35 F y2 y3 fu y4 σ = some out → va_P D vwCl (wE cI cZ q σ ++ tl) H → va_S A s.heap H locs → lv_has ls 5 [(0, .ref (q 1)), (2, .int y2), (3, .int y3), (4, .int y4)] → (∀ (H : Heap) (locs : List Loc) (ls : Array Slot), va_P D vwCl (wE cI cZ q out.2 ++ tl) H → va_S A s.heap H locs → lv_has ls 5 [(0, .ref (q 1)), (2, .int y2), (3, .int y3), (4, .int out.1)] → W p l e { frames := 2, cells := 0, slots := 0, locals := 45 } s m ([.ref (q 1), .int x1, .int x2] : List Value).toArray below meth c H locs 0 0 (gQi below D out0.1 (wE cI cZ q out0.2 ++ tl) A (([.ref (q 1), .int x1, .int x2] : List Value).toArray) s) (F0 m 55 ls [])) → W p l e { frames := 2, cells := 0, slots := 0, locals := 45 } s m ([.ref (q 1), .int x1, .int x2] : List Value).toArray below meth c H locs 0 0 (gQi below D out0.1 (wE cI cZ q out0.2 ++ tl) A (([.ref (q 1), .int x1, .int x2] : List Value).toArray) s) (F0 m 35 ls []) := by
    intro y2 y3 fu
    induction fu with
    | zero => intro y4 σ H locs ls out h; exact absurd (show (none : Option (Int32 × St)) = some out from h) (fun z => by cases z)
    | succ fu ih =>
      intro y4 σ H locs ls out h hP hS hl K
      have h : f_P_addStep_B35 F y2 y3 (f_P_addStep_L35 F y2 y3 fu) y4 σ = some out := h
      unfold f_P_addStep_B35 at h
      refine lv_iload hx hb d_P_addStep_35 (lv_at hl 3 rfl) ?_
      refine lv_iconst (v := 5) hx hb d_P_addStep_37 (by decide) ?_
      refine lv_icmp_ge (tgt := 55) hx hb d_P_addStep_38 (by decide) (fun c => ?_) (fun c => ?_)
      · have h := ifp c h
        cases h
        exact K _ _ ls hP hS (lv_sub hl [0, 1, 2, 3] rfl)
      have h := ifn c h
      refine lv_aload_n hx hb d_P_addStep_41 rfl (lv_at hl 0 rfl) ?_
      refine lv_iload_n hx hb d_P_addStep_42 rfl (lv_at hl 2 rfl) ?_
      refine lv_iload hx hb d_P_addStep_43 (lv_at hl 3 rfl) ?_
      refine lv_iconst (v := -1) hx hb d_P_addStep_45 (by decide) ?_
      obtain ⟨u46, hu46, h⟩ := bnd h
      refine gcall_v (va_runV (As := [.int y3, .int y4, .int (-1 : Int32)]) (rest := []) ⟨hx, hb, hml, hown, hts⟩ (c_P_setNeed l D cI cZ tL q tl σ y3 y4 (-1 : Int32) u46 hu46 H.size) (cwV 3 hts (gV w_144 w_145 w_146 w_2 w_147) rfl rfl rfl (by decide +kernel) ⟨Nat.le_of_ble_eq_true rfl, Nat.le_of_ble_eq_true rfl⟩) (gpV (k := 1) (ci := 1) hA hK (hD σ) hE hP hS rfl rfl) rfl rfl hl.1 rfl (lv_room (Nat.le_of_ble_eq_true rfl)) d_P_addStep_46 ⟨Nat.le_of_ble_eq_true rfl, Nat.le_of_ble_eq_true rfl⟩) hA (hD σ) hS (fun H locs hP hS => ?_)
      refine lv_iinc (v := (y4 + (1 : Int32))) (lv' := [(4, .int (y4 + (1 : Int32))), (0, .ref (q 1)), (2, .int y2), (3, .int y3)]) hx hb d_P_addStep_49 hl (k := 3) rfl rfl (by decide) rfl (fun ls hl => ?_)
      refine lv_goto (tgt := 35) hx hb d_P_addStep_52 (by decide) ?_
      exact ih (y4 + (1 : Int32)) u46 _ _ ls out h hP hS (lv_sub hl [1, 2, 3, 0] rfl) K
  unfold f_P_addStep at h
  refine lv_aload_n hx hb d_P_addStep_0 rfl (lv_at hl 0 rfl) ?_
  refine va_get (D := D) (ci := 1) (v := .int (σ 1 1)) (C := R_P) (T := T_P) (N := 8) hx hb hts l_P hown hK hP 1 rfl rfl 1 (by decide) (hts _ w_21) (fun _ h9 => h9) rfl d_P_addStep_1 ?_
  refine lv_istore_n (lv' := [(3, .int (σ 1 1)), (0, .ref (q 1)), (1, .int x1), (2, .int x2)]) hx hb d_P_addStep_4 rfl hl (by decide) rfl (fun ls hl => ?_)
  refine lv_aload_n hx hb d_P_addStep_5 rfl (lv_at hl 1 rfl) ?_
  refine va_get (D := D) (ci := 1) (v := .ref (q 5)) (C := R_P) (T := T_P) (N := 8) hx hb hts l_P hown hK hP 1 rfl rfl 3 (by decide) (hts _ w_23) (fun _ h9 => h9) rfl d_P_addStep_6 ?_
  refine lv_iload_n hx hb d_P_addStep_9 rfl (lv_at hl 0 rfl) ?_
  refine lv_iload_n hx hb d_P_addStep_10 rfl (lv_at hl 2 rfl) ?_
  obtain ⟨u11, hu11, h⟩ := bnd h
  refine gcall_v (va_runSN (As := [.ref (q 5), .int (σ 1 1), .int x1]) (rest := []) ⟨hx, hb, hml, hown, hts⟩ (c_E_put_u l D cI cZ tL (wE cI cZ q σ ++ tl) 5 (q 5) 64 (σ 5) rfl (σ 1 1) x1 u11 hu11 s.heap.size) ⟨va_cnB 3 hts (TB_code w_143) rfl rfl rfl (nm_0 hE) (hts _ w_1) (by decide +kernel) ⟨Nat.le_of_ble_eq_true rfl, Nat.le_of_ble_eq_true rfl⟩, hts _ w_142, trivial⟩ (gpS hA hK (hD σ) hE hP hS) rfl rfl hl.1 rfl (lv_room (Nat.le_of_ble_eq_true rfl)) d_P_addStep_11 ⟨Nat.le_of_ble_eq_true rfl, Nat.le_of_ble_eq_true rfl⟩) hA (hD σ) hS (fun H locs hP hS => ?_)
  have hP : va_P D vwCl (wE cI cZ q (sr σ 5 u11) ++ tl) H := hP
  obtain ⟨s11, es11, h⟩ := lettE h
  rw [← es11] at hP
  refine lv_aload_n hx hb d_P_addStep_14 rfl (lv_at hl 1 rfl) ?_
  refine va_get (D := D) (ci := 1) (v := .ref (q 6)) (C := R_P) (T := T_P) (N := 8) hx hb hts l_P hown hK hP 1 rfl rfl 4 (by decide) (hts _ w_24) (fun _ h9 => h9) rfl d_P_addStep_15 ?_
  refine lv_iload_n hx hb d_P_addStep_18 rfl (lv_at hl 0 rfl) ?_
  refine lv_iload_n hx hb d_P_addStep_19 rfl (lv_at hl 3 rfl) ?_
  obtain ⟨u20, hu20, h⟩ := bnd h
  refine gcall_v (va_runSN (As := [.ref (q 6), .int (σ 1 1), .int x2]) (rest := []) ⟨hx, hb, hml, hown, hts⟩ (c_E_put_u l D cI cZ tL (wE cI cZ q s11 ++ tl) 6 (q 6) 64 (s11 6) rfl (σ 1 1) x2 u20 hu20 H.size) ⟨va_cnB 3 hts (TB_code w_143) rfl rfl rfl (nm_0 hE) (hts _ w_1) (by decide +kernel) ⟨Nat.le_of_ble_eq_true rfl, Nat.le_of_ble_eq_true rfl⟩, hts _ w_142, trivial⟩ (gpS hA hK (hD s11) hE hP hS) rfl rfl hl.1 rfl (lv_room (Nat.le_of_ble_eq_true rfl)) d_P_addStep_20 ⟨Nat.le_of_ble_eq_true rfl, Nat.le_of_ble_eq_true rfl⟩) hA (hD s11) hS (fun H locs hP hS => ?_)
  have hP : va_P D vwCl (wE cI cZ q (sr s11 6 u20) ++ tl) H := hP
  obtain ⟨s20, es20, h⟩ := lettE h
  rw [← es20] at hP
  refine lv_aload_n hx hb d_P_addStep_23 rfl (lv_at hl 1 rfl) ?_
  refine va_get (D := D) (ci := 1) (v := .ref (q 7)) (C := R_P) (T := T_P) (N := 8) hx hb hts l_P hown hK hP 1 rfl rfl 5 (by decide) (hts _ w_25) (fun _ h9 => h9) rfl d_P_addStep_24 ?_
  refine lv_iload_n hx hb d_P_addStep_27 rfl (lv_at hl 0 rfl) ?_
  refine lv_iconst (v := -1) hx hb d_P_addStep_28 (by decide) ?_
  obtain ⟨u29, hu29, h⟩ := bnd h
  refine gcall_v (va_runSN (As := [.ref (q 7), .int (σ 1 1), .int (-1 : Int32)]) (rest := []) ⟨hx, hb, hml, hown, hts⟩ (c_E_put_u l D cI cZ tL (wE cI cZ q s20 ++ tl) 7 (q 7) 64 (s20 7) rfl (σ 1 1) (-1 : Int32) u29 hu29 H.size) ⟨va_cnB 3 hts (TB_code w_143) rfl rfl rfl (nm_0 hE) (hts _ w_1) (by decide +kernel) ⟨Nat.le_of_ble_eq_true rfl, Nat.le_of_ble_eq_true rfl⟩, hts _ w_142, trivial⟩ (gpS hA hK (hD s20) hE hP hS) rfl rfl hl.1 rfl (lv_room (Nat.le_of_ble_eq_true rfl)) d_P_addStep_29 ⟨Nat.le_of_ble_eq_true rfl, Nat.le_of_ble_eq_true rfl⟩) hA (hD s20) hS (fun H locs hP hS => ?_)
  have hP : va_P D vwCl (wE cI cZ q (sr s20 7 u29) ++ tl) H := hP
  obtain ⟨s29, es29, h⟩ := lettE h
  rw [← es29] at hP
  refine lv_iconst (v := 0) hx hb d_P_addStep_32 (by decide) ?_
  refine lv_istore (lv' := [(4, .int (0 : Int32)), (3, .int (σ 1 1)), (0, .ref (q 1)), (1, .int x1), (2, .int x2)]) hx hb d_P_addStep_33 hl (by decide) rfl (fun ls hl => ?_)
  obtain ⟨u35, hu35, h⟩ := bnd h
  refine L35 x2 (σ 1 1) F (0 : Int32) s29 _ _ ls u35 hu35 hP hS (lv_sub hl [2, 4, 1, 0] rfl) (fun H locs ls hP hS hl => ?_)
  refine lv_iload_n hx hb d_P_addStep_55 rfl (lv_at hl 1 rfl) ?_
  refine lv_if_ne (tgt := 93) hx hb d_P_addStep_56 (by decide) (fun c => ?_) (fun c => ?_)
  · have h := ifn c h
    refine lv_aload_n hx hb d_P_addStep_93 rfl (lv_at hl 0 rfl) ?_
    refine lv_dup hx hb d_P_addStep_94 rfl ?_
    refine va_get (D := D) (ci := 1) (v := .int (u35.2 1 1)) (C := R_P) (T := T_P) (N := 8) hx hb hts l_P hown hK hP 1 rfl rfl 1 (by decide) (hts _ w_21) (fun _ h9 => h9) rfl d_P_addStep_95 ?_
    refine lv_iconst (v := 1) hx hb d_P_addStep_98 (by decide) ?_
    refine lv_iadd hx hb d_P_addStep_99 ?_
    refine va_put (D := D) (ci := 1) (v := .int ((u35.2 1 1) + (1 : Int32))) (ty := .int) (C := R_P) (T := T_P) (N := 8) hx hb hts l_P t_P t_P_ok n_P hown hK hP (hD u35.2) hS 1 rfl rfl 1 (by decide) (hts _ w_21) (fun _ h9 => h9) rfl (by decide +kernel) rfl rfl (Nat.le_of_ble_eq_true rfl) d_P_addStep_100 (fun H locs hP _ hS => ?_)
    have hP : va_P D vwCl (wE cI cZ q (su u35.2 1 1 ((u35.2 1 1) + (1 : Int32))) ++ tl) H := hP
    obtain ⟨s100, es100, h⟩ := lettE h
    rw [← es100] at hP
    refine lv_iload_n hx hb d_P_addStep_103 rfl (lv_at hl 2 rfl) ?_
    cases h
    exact gret_i hx hb hr hlk hP hS d_P_addStep_104
  have h := ifp c h
  refine lv_aload_n hx hb d_P_addStep_59 rfl (lv_at hl 0 rfl) ?_
  refine va_get (D := D) (ci := 1) (v := .ref (q 7)) (C := R_P) (T := T_P) (N := 8) hx hb hts l_P hown hK hP 1 rfl rfl 5 (by decide) (hts _ w_25) (fun _ h9 => h9) rfl d_P_addStep_60 ?_
  refine lv_iload_n hx hb d_P_addStep_63 rfl (lv_at hl 2 rfl) ?_
  refine lv_aload_n hx hb d_P_addStep_64 rfl (lv_at hl 0 rfl) ?_
  refine va_get (D := D) (ci := 1) (v := .int (u35.2 1 2)) (C := R_P) (T := T_P) (N := 8) hx hb hts l_P hown hK hP 1 rfl rfl 2 (by decide) (hts _ w_22) (fun _ h9 => h9) rfl d_P_addStep_65 ?_
  obtain ⟨u68, hu68, h⟩ := bnd h
  refine gcall_v (va_runSN (As := [.ref (q 7), .int (σ 1 1), .int (u35.2 1 2)]) (rest := []) ⟨hx, hb, hml, hown, hts⟩ (c_E_put_u l D cI cZ tL (wE cI cZ q u35.2 ++ tl) 7 (q 7) 64 (u35.2 7) rfl (σ 1 1) (u35.2 1 2) u68 hu68 H.size) ⟨va_cnB 3 hts (TB_code w_143) rfl rfl rfl (nm_0 hE) (hts _ w_1) (by decide +kernel) ⟨Nat.le_of_ble_eq_true rfl, Nat.le_of_ble_eq_true rfl⟩, hts _ w_142, trivial⟩ (gpS hA hK (hD u35.2) hE hP hS) rfl rfl hl.1 rfl (lv_room (Nat.le_of_ble_eq_true rfl)) d_P_addStep_68 ⟨Nat.le_of_ble_eq_true rfl, Nat.le_of_ble_eq_true rfl⟩) hA (hD u35.2) hS (fun H locs hP hS => ?_)
  have hP : va_P D vwCl (wE cI cZ q (sr u35.2 7 u68) ++ tl) H := hP
  obtain ⟨s68, es68, h⟩ := lettE h
  rw [← es68] at hP
  refine lv_aload_n hx hb d_P_addStep_71 rfl (lv_at hl 0 rfl) ?_
  refine va_get (D := D) (ci := 1) (v := .ref (q 9)) (C := R_P) (T := T_P) (N := 8) hx hb hts l_P hown hK hP 1 rfl rfl 7 (by decide) (hts _ w_27) (fun _ h9 => h9) rfl d_P_addStep_72 ?_
  refine lv_aload_n hx hb d_P_addStep_75 rfl (lv_at hl 0 rfl) ?_
  refine va_get (D := D) (ci := 1) (v := .int (s68 1 2)) (C := R_P) (T := T_P) (N := 8) hx hb hts l_P hown hK hP 1 rfl rfl 2 (by decide) (hts _ w_22) (fun _ h9 => h9) rfl d_P_addStep_76 ?_
  refine lv_iload_n hx hb d_P_addStep_79 rfl (lv_at hl 2 rfl) ?_
  obtain ⟨u80, hu80, h⟩ := bnd h
  refine gcall_v (va_runSN (As := [.ref (q 9), .int (s68 1 2), .int (σ 1 1)]) (rest := []) ⟨hx, hb, hml, hown, hts⟩ (c_E_put_u l D cI cZ tL (wE cI cZ q s68 ++ tl) 9 (q 9) 16 (s68 9) rfl (s68 1 2) (σ 1 1) u80 hu80 H.size) ⟨va_cnB 3 hts (TB_code w_143) rfl rfl rfl (nm_0 hE) (hts _ w_1) (by decide +kernel) ⟨Nat.le_of_ble_eq_true rfl, Nat.le_of_ble_eq_true rfl⟩, hts _ w_142, trivial⟩ (gpS hA hK (hD s68) hE hP hS) rfl rfl hl.1 rfl (lv_room (Nat.le_of_ble_eq_true rfl)) d_P_addStep_80 ⟨Nat.le_of_ble_eq_true rfl, Nat.le_of_ble_eq_true rfl⟩) hA (hD s68) hS (fun H locs hP hS => ?_)
  have hP : va_P D vwCl (wE cI cZ q (sr s68 9 u80) ++ tl) H := hP
  obtain ⟨s80, es80, h⟩ := lettE h
  rw [← es80] at hP
  refine lv_aload_n hx hb d_P_addStep_83 rfl (lv_at hl 0 rfl) ?_
  refine lv_dup hx hb d_P_addStep_84 rfl ?_
  refine va_get (D := D) (ci := 1) (v := .int (s80 1 2)) (C := R_P) (T := T_P) (N := 8) hx hb hts l_P hown hK hP 1 rfl rfl 2 (by decide) (hts _ w_22) (fun _ h9 => h9) rfl d_P_addStep_85 ?_
  refine lv_iconst (v := 1) hx hb d_P_addStep_88 (by decide) ?_
  refine lv_iadd hx hb d_P_addStep_89 ?_
  refine va_put (D := D) (ci := 1) (v := .int ((s80 1 2) + (1 : Int32))) (ty := .int) (C := R_P) (T := T_P) (N := 8) hx hb hts l_P t_P t_P_ok n_P hown hK hP (hD s80) hS 1 rfl rfl 2 (by decide) (hts _ w_22) (fun _ h9 => h9) rfl (by decide +kernel) rfl rfl (Nat.le_of_ble_eq_true rfl) d_P_addStep_90 (fun H locs hP _ hS => ?_)
  have hP : va_P D vwCl (wE cI cZ q (su s80 1 2 ((s80 1 2) + (1 : Int32))) ++ tl) H := hP
  obtain ⟨s90, es90, h⟩ := lettE h
  rw [← es90] at hP
  refine lv_aload_n hx hb d_P_addStep_93 rfl (lv_at hl 0 rfl) ?_
  refine lv_dup hx hb d_P_addStep_94 rfl ?_
  refine va_get (D := D) (ci := 1) (v := .int (s90 1 1)) (C := R_P) (T := T_P) (N := 8) hx hb hts l_P hown hK hP 1 rfl rfl 1 (by decide) (hts _ w_21) (fun _ h9 => h9) rfl d_P_addStep_95 ?_
  refine lv_iconst (v := 1) hx hb d_P_addStep_98 (by decide) ?_
  refine lv_iadd hx hb d_P_addStep_99 ?_
  refine va_put (D := D) (ci := 1) (v := .int ((s90 1 1) + (1 : Int32))) (ty := .int) (C := R_P) (T := T_P) (N := 8) hx hb hts l_P t_P t_P_ok n_P hown hK hP (hD s90) hS 1 rfl rfl 1 (by decide) (hts _ w_21) (fun _ h9 => h9) rfl (by decide +kernel) rfl rfl (Nat.le_of_ble_eq_true rfl) d_P_addStep_100 (fun H locs hP _ hS => ?_)
  have hP : va_P D vwCl (wE cI cZ q (su s90 1 1 ((s90 1 1) + (1 : Int32))) ++ tl) H := hP
  obtain ⟨s100, es100, h⟩ := lettE h
  rw [← es100] at hP
  refine lv_iload_n hx hb d_P_addStep_103 rfl (lv_at hl 2 rfl) ?_
  cases h
  exact gret_i hx hb hr hlk hP hS d_P_addStep_104
/-! ===== EscapeOwners$Program.kind(I)I ===== -/
def f_P_kind (σ : St) (x1 : Int32) : Option (Int32) := Option.bind (f_E_at 64 (σ 6) x1) (fun u5 => some u5)
set_option maxHeartbeats 4000000 in
set_option maxRecDepth 100000 in
theorem c_P_kind (l : Launch) (D : va_G) (cI cZ : ClassId) (tL : Nat) (q : Nat → Nat) (tl : va_W) (σ : St) (x1 : Int32) (out0 : Int32) (h : f_P_kind σ x1 = some out0) : gCi l y_P_kind (.code y_P_kind b_P_kind 2 (some .int) :: TB) { frames := 1, cells := 0, slots := 0, locals := 21 } D [(cI, .int), (cZ, .boolean)] tL [.ref (q 1), .int x1] (wE cI cZ q σ ++ tl) out0 (wE cI cZ q σ ++ tl) := by
  refine gCi_of (cc := b_P_kind) (maxL := 2) (ty := .int) (by decide) rfl (Nat.le_of_ble_eq_true rfl) ?_
  intro p e s m below meth c A ls hf hr hlk hA hK hD0 hE hP hl
  obtain ⟨hx, hb, hml, hown, hts⟩ := id hf
  have hts : ∀ w ∈ TB, w.before _ s = true := fun w h => hts w (List.mem_cons_of_mem _ h)
  have hown : s.vm.findClass R_P = some m.cls := hown
  have hl : lv_has ls 2 [(0, .ref (q 1)), (1, .int x1)] := hl
  have hS : va_S A s.heap s.heap [] := va_S.rf
  have hD : ∀ σ' : St, va_D A (wE cI cZ q σ' ++ tl) := fun σ' => va_Dsame hD0 rfl
  unfold f_P_kind at h
  refine lv_aload_n hx hb d_P_kind_0 rfl (lv_at hl 0 rfl) ?_
  refine va_get (D := D) (ci := 1) (v := .ref (q 6)) (C := R_P) (T := T_P) (N := 8) hx hb hts l_P hown hK hP 1 rfl rfl 4 (by decide) (hts _ w_24) (fun _ h9 => h9) rfl d_P_kind_1 ?_
  refine lv_iload_n hx hb d_P_kind_4 rfl (lv_at hl 1 rfl) ?_
  obtain ⟨u5, hu5, h⟩ := bnd h
  refine gcall_i (va_runSN (As := [.ref (q 6), .int x1]) (rest := []) ⟨hx, hb, hml, hown, hts⟩ (c_E_at_u l D cI cZ tL (wE cI cZ q σ ++ tl) 6 (q 6) 64 (σ 6) rfl x1 u5 hu5 s.heap.size) ⟨va_cnB 2 hts (TB_code w_133) rfl rfl rfl (nm_1 hE) (hts _ w_1) (by decide +kernel) ⟨Nat.le_of_ble_eq_true rfl, Nat.le_of_ble_eq_true rfl⟩, hts _ w_132, trivial⟩ (gpS hA hK (hD σ) hE hP hS) rfl rfl hl.1 rfl (lv_room (Nat.le_of_ble_eq_true rfl)) d_P_kind_5 ⟨Nat.le_of_ble_eq_true rfl, Nat.le_of_ble_eq_true rfl⟩) hA (hD σ) hS (fun H locs hP hS => ?_)
  cases h
  exact gret_i hx hb hr hlk hP hS d_P_kind_8
/-! ===== EscapeOwners$Program.dropStep()I ===== -/
def f_P_dropStep (σ : St) : Option (Int32 × St) := lett (su σ 1 1 ((σ 1 1) - (1 : Int32))) (fun s7 => Option.bind (f_P_kind s7 (s7 1 1)) (fun u15 => if u15 = 0 then (lett (su s7 1 2 ((s7 1 2) - (1 : Int32))) (fun s28 => some ((s28 1 1), s28))) else (some ((s7 1 1), s7))))
set_option maxHeartbeats 4000000 in
set_option maxRecDepth 100000 in
theorem c_P_dropStep (l : Launch) (D : va_G) (cI cZ : ClassId) (tL : Nat) (q : Nat → Nat) (tl : va_W) (σ : St) (out0 : Int32 × St) (h : f_P_dropStep σ = some out0) : gCi l y_P_dropStep (.code y_P_dropStep b_P_dropStep 1 (some .int) :: TB) { frames := 2, cells := 0, slots := 0, locals := 42 } D [(cI, .int), (cZ, .boolean)] tL [.ref (q 1)] (wE cI cZ q σ ++ tl) out0.1 (wE cI cZ q out0.2 ++ tl) := by
  refine gCi_of (cc := b_P_dropStep) (maxL := 1) (ty := .int) (by decide) rfl (Nat.le_of_ble_eq_true rfl) ?_
  intro p e s m below meth c A ls hf hr hlk hA hK hD0 hE hP hl
  obtain ⟨hx, hb, hml, hown, hts⟩ := id hf
  have hts : ∀ w ∈ TB, w.before _ s = true := fun w h => hts w (List.mem_cons_of_mem _ h)
  have hown : s.vm.findClass R_P = some m.cls := hown
  have hl : lv_has ls 1 [(0, .ref (q 1))] := hl
  have hS : va_S A s.heap s.heap [] := va_S.rf
  have hD : ∀ σ' : St, va_D A (wE cI cZ q σ' ++ tl) := fun σ' => va_Dsame hD0 rfl
  unfold f_P_dropStep at h
  refine lv_aload_n hx hb d_P_dropStep_0 rfl (lv_at hl 0 rfl) ?_
  refine lv_dup hx hb d_P_dropStep_1 rfl ?_
  refine va_get (D := D) (ci := 1) (v := .int (σ 1 1)) (C := R_P) (T := T_P) (N := 8) hx hb hts l_P hown hK hP 1 rfl rfl 1 (by decide) (hts _ w_21) (fun _ h9 => h9) rfl d_P_dropStep_2 ?_
  refine lv_iconst (v := 1) hx hb d_P_dropStep_5 (by decide) ?_
  refine lv_isub hx hb d_P_dropStep_6 ?_
  refine va_put (D := D) (ci := 1) (v := .int ((σ 1 1) - (1 : Int32))) (ty := .int) (C := R_P) (T := T_P) (N := 8) hx hb hts l_P t_P t_P_ok n_P hown hK hP (hD σ) hS 1 rfl rfl 1 (by decide) (hts _ w_21) (fun _ h9 => h9) rfl (by decide +kernel) rfl rfl (Nat.le_of_ble_eq_true rfl) d_P_dropStep_7 (fun H locs hP _ hS => ?_)
  have hP : va_P D vwCl (wE cI cZ q (su σ 1 1 ((σ 1 1) - (1 : Int32))) ++ tl) H := hP
  obtain ⟨s7, es7, h⟩ := lettE h
  rw [← es7] at hP
  refine lv_aload_n hx hb d_P_dropStep_10 rfl (lv_at hl 0 rfl) ?_
  refine lv_aload_n hx hb d_P_dropStep_11 rfl (lv_at hl 0 rfl) ?_
  refine va_get (D := D) (ci := 1) (v := .int (s7 1 1)) (C := R_P) (T := T_P) (N := 8) hx hb hts l_P hown hK hP 1 rfl rfl 1 (by decide) (hts _ w_21) (fun _ h9 => h9) rfl d_P_dropStep_12 ?_
  obtain ⟨u15, hu15, h⟩ := bnd h
  refine gcall_i (va_runV (As := [.int (s7 1 1)]) (rest := []) ⟨hx, hb, hml, hown, hts⟩ (c_P_kind l D cI cZ tL q tl s7 (s7 1 1) u15 hu15 H.size) (cwV 1 hts (gV w_165 w_166 w_167 w_2 w_168) rfl rfl rfl (by decide +kernel) ⟨Nat.le_of_ble_eq_true rfl, Nat.le_of_ble_eq_true rfl⟩) (gpV (k := 1) (ci := 1) hA hK (hD s7) hE hP hS rfl rfl) rfl rfl hl.1 rfl (lv_room (Nat.le_of_ble_eq_true rfl)) d_P_dropStep_15 ⟨Nat.le_of_ble_eq_true rfl, Nat.le_of_ble_eq_true rfl⟩) hA (hD s7) hS (fun H locs hP hS => ?_)
  refine lv_if_ne (tgt := 31) hx hb d_P_dropStep_18 (by decide) (fun c => ?_) (fun c => ?_)
  · have h := ifn c h
    refine lv_aload_n hx hb d_P_dropStep_31 rfl (lv_at hl 0 rfl) ?_
    refine va_get (D := D) (ci := 1) (v := .int (s7 1 1)) (C := R_P) (T := T_P) (N := 8) hx hb hts l_P hown hK hP 1 rfl rfl 1 (by decide) (hts _ w_21) (fun _ h9 => h9) rfl d_P_dropStep_32 ?_
    cases h
    exact gret_i hx hb hr hlk hP hS d_P_dropStep_35
  have h := ifp c h
  refine lv_aload_n hx hb d_P_dropStep_21 rfl (lv_at hl 0 rfl) ?_
  refine lv_dup hx hb d_P_dropStep_22 rfl ?_
  refine va_get (D := D) (ci := 1) (v := .int (s7 1 2)) (C := R_P) (T := T_P) (N := 8) hx hb hts l_P hown hK hP 1 rfl rfl 2 (by decide) (hts _ w_22) (fun _ h9 => h9) rfl d_P_dropStep_23 ?_
  refine lv_iconst (v := 1) hx hb d_P_dropStep_26 (by decide) ?_
  refine lv_isub hx hb d_P_dropStep_27 ?_
  refine va_put (D := D) (ci := 1) (v := .int ((s7 1 2) - (1 : Int32))) (ty := .int) (C := R_P) (T := T_P) (N := 8) hx hb hts l_P t_P t_P_ok n_P hown hK hP (hD s7) hS 1 rfl rfl 2 (by decide) (hts _ w_22) (fun _ h9 => h9) rfl (by decide +kernel) rfl rfl (Nat.le_of_ble_eq_true rfl) d_P_dropStep_28 (fun H locs hP _ hS => ?_)
  have hP : va_P D vwCl (wE cI cZ q (su s7 1 2 ((s7 1 2) - (1 : Int32))) ++ tl) H := hP
  obtain ⟨s28, es28, h⟩ := lettE h
  rw [← es28] at hP
  refine lv_aload_n hx hb d_P_dropStep_31 rfl (lv_at hl 0 rfl) ?_
  refine va_get (D := D) (ci := 1) (v := .int (s28 1 1)) (C := R_P) (T := T_P) (N := 8) hx hb hts l_P hown hK hP 1 rfl rfl 1 (by decide) (hts _ w_21) (fun _ h9 => h9) rfl d_P_dropStep_32 ?_
  cases h
  exact gret_i hx hb hr hlk hP hS d_P_dropStep_35
/-! ===== EscapeOwners$Program.owner(I)I ===== -/
def f_P_owner (σ : St) (x1 : Int32) : Option (Int32) := Option.bind (f_E_at 64 (σ 5) x1) (fun u5 => some u5)
set_option maxHeartbeats 4000000 in
set_option maxRecDepth 100000 in
theorem c_P_owner (l : Launch) (D : va_G) (cI cZ : ClassId) (tL : Nat) (q : Nat → Nat) (tl : va_W) (σ : St) (x1 : Int32) (out0 : Int32) (h : f_P_owner σ x1 = some out0) : gCi l y_P_owner (.code y_P_owner b_P_owner 2 (some .int) :: TB) { frames := 1, cells := 0, slots := 0, locals := 21 } D [(cI, .int), (cZ, .boolean)] tL [.ref (q 1), .int x1] (wE cI cZ q σ ++ tl) out0 (wE cI cZ q σ ++ tl) := by
  refine gCi_of (cc := b_P_owner) (maxL := 2) (ty := .int) (by decide) rfl (Nat.le_of_ble_eq_true rfl) ?_
  intro p e s m below meth c A ls hf hr hlk hA hK hD0 hE hP hl
  obtain ⟨hx, hb, hml, hown, hts⟩ := id hf
  have hts : ∀ w ∈ TB, w.before _ s = true := fun w h => hts w (List.mem_cons_of_mem _ h)
  have hown : s.vm.findClass R_P = some m.cls := hown
  have hl : lv_has ls 2 [(0, .ref (q 1)), (1, .int x1)] := hl
  have hS : va_S A s.heap s.heap [] := va_S.rf
  have hD : ∀ σ' : St, va_D A (wE cI cZ q σ' ++ tl) := fun σ' => va_Dsame hD0 rfl
  unfold f_P_owner at h
  refine lv_aload_n hx hb d_P_owner_0 rfl (lv_at hl 0 rfl) ?_
  refine va_get (D := D) (ci := 1) (v := .ref (q 5)) (C := R_P) (T := T_P) (N := 8) hx hb hts l_P hown hK hP 1 rfl rfl 3 (by decide) (hts _ w_23) (fun _ h9 => h9) rfl d_P_owner_1 ?_
  refine lv_iload_n hx hb d_P_owner_4 rfl (lv_at hl 1 rfl) ?_
  obtain ⟨u5, hu5, h⟩ := bnd h
  refine gcall_i (va_runSN (As := [.ref (q 5), .int x1]) (rest := []) ⟨hx, hb, hml, hown, hts⟩ (c_E_at_u l D cI cZ tL (wE cI cZ q σ ++ tl) 5 (q 5) 64 (σ 5) rfl x1 u5 hu5 s.heap.size) ⟨va_cnB 2 hts (TB_code w_133) rfl rfl rfl (nm_1 hE) (hts _ w_1) (by decide +kernel) ⟨Nat.le_of_ble_eq_true rfl, Nat.le_of_ble_eq_true rfl⟩, hts _ w_132, trivial⟩ (gpS hA hK (hD σ) hE hP hS) rfl rfl hl.1 rfl (lv_room (Nat.le_of_ble_eq_true rfl)) d_P_owner_5 ⟨Nat.le_of_ble_eq_true rfl, Nat.le_of_ble_eq_true rfl⟩) hA (hD σ) hS (fun H locs hP hS => ?_)
  cases h
  exact gret_i hx hb hr hlk hP hS d_P_owner_8
/-! ===== EscapeOwners$Program.siteOf(I)I ===== -/
def f_P_siteOf (σ : St) (x1 : Int32) : Option (Int32) := Option.bind (f_E_at 64 (σ 7) x1) (fun u5 => some u5)
set_option maxHeartbeats 4000000 in
set_option maxRecDepth 100000 in
theorem c_P_siteOf (l : Launch) (D : va_G) (cI cZ : ClassId) (tL : Nat) (q : Nat → Nat) (tl : va_W) (σ : St) (x1 : Int32) (out0 : Int32) (h : f_P_siteOf σ x1 = some out0) : gCi l y_P_siteOf (.code y_P_siteOf b_P_siteOf 2 (some .int) :: TB) { frames := 1, cells := 0, slots := 0, locals := 21 } D [(cI, .int), (cZ, .boolean)] tL [.ref (q 1), .int x1] (wE cI cZ q σ ++ tl) out0 (wE cI cZ q σ ++ tl) := by
  refine gCi_of (cc := b_P_siteOf) (maxL := 2) (ty := .int) (by decide) rfl (Nat.le_of_ble_eq_true rfl) ?_
  intro p e s m below meth c A ls hf hr hlk hA hK hD0 hE hP hl
  obtain ⟨hx, hb, hml, hown, hts⟩ := id hf
  have hts : ∀ w ∈ TB, w.before _ s = true := fun w h => hts w (List.mem_cons_of_mem _ h)
  have hown : s.vm.findClass R_P = some m.cls := hown
  have hl : lv_has ls 2 [(0, .ref (q 1)), (1, .int x1)] := hl
  have hS : va_S A s.heap s.heap [] := va_S.rf
  have hD : ∀ σ' : St, va_D A (wE cI cZ q σ' ++ tl) := fun σ' => va_Dsame hD0 rfl
  unfold f_P_siteOf at h
  refine lv_aload_n hx hb d_P_siteOf_0 rfl (lv_at hl 0 rfl) ?_
  refine va_get (D := D) (ci := 1) (v := .ref (q 7)) (C := R_P) (T := T_P) (N := 8) hx hb hts l_P hown hK hP 1 rfl rfl 5 (by decide) (hts _ w_25) (fun _ h9 => h9) rfl d_P_siteOf_1 ?_
  refine lv_iload_n hx hb d_P_siteOf_4 rfl (lv_at hl 1 rfl) ?_
  obtain ⟨u5, hu5, h⟩ := bnd h
  refine gcall_i (va_runSN (As := [.ref (q 7), .int x1]) (rest := []) ⟨hx, hb, hml, hown, hts⟩ (c_E_at_u l D cI cZ tL (wE cI cZ q σ ++ tl) 7 (q 7) 64 (σ 7) rfl x1 u5 hu5 s.heap.size) ⟨va_cnB 2 hts (TB_code w_133) rfl rfl rfl (nm_1 hE) (hts _ w_1) (by decide +kernel) ⟨Nat.le_of_ble_eq_true rfl, Nat.le_of_ble_eq_true rfl⟩, hts _ w_132, trivial⟩ (gpS hA hK (hD σ) hE hP hS) rfl rfl hl.1 rfl (lv_room (Nat.le_of_ble_eq_true rfl)) d_P_siteOf_5 ⟨Nat.le_of_ble_eq_true rfl, Nat.le_of_ble_eq_true rfl⟩) hA (hD σ) hS (fun H locs hP hS => ?_)
  cases h
  exact gret_i hx hb hr hlk hP hS d_P_siteOf_8
/-! ===== EscapeOwners$Program.need(II)I ===== -/
def f_P_need (σ : St) (x1 : Int32) (x2 : Int32) : Option (Int32) := Option.bind (f_E_at 320 (σ 8) ((x1 * (5 : Int32)) + x2)) (fun u9 => some u9)
set_option maxHeartbeats 4000000 in
set_option maxRecDepth 100000 in
theorem c_P_need (l : Launch) (D : va_G) (cI cZ : ClassId) (tL : Nat) (q : Nat → Nat) (tl : va_W) (σ : St) (x1 : Int32) (x2 : Int32) (out0 : Int32) (h : f_P_need σ x1 x2 = some out0) : gCi l y_P_need (.code y_P_need b_P_need 3 (some .int) :: TB) { frames := 1, cells := 0, slots := 0, locals := 21 } D [(cI, .int), (cZ, .boolean)] tL [.ref (q 1), .int x1, .int x2] (wE cI cZ q σ ++ tl) out0 (wE cI cZ q σ ++ tl) := by
  refine gCi_of (cc := b_P_need) (maxL := 3) (ty := .int) (by decide) rfl (Nat.le_of_ble_eq_true rfl) ?_
  intro p e s m below meth c A ls hf hr hlk hA hK hD0 hE hP hl
  obtain ⟨hx, hb, hml, hown, hts⟩ := id hf
  have hts : ∀ w ∈ TB, w.before _ s = true := fun w h => hts w (List.mem_cons_of_mem _ h)
  have hown : s.vm.findClass R_P = some m.cls := hown
  have hl : lv_has ls 3 [(0, .ref (q 1)), (1, .int x1), (2, .int x2)] := hl
  have hS : va_S A s.heap s.heap [] := va_S.rf
  have hD : ∀ σ' : St, va_D A (wE cI cZ q σ' ++ tl) := fun σ' => va_Dsame hD0 rfl
  unfold f_P_need at h
  refine lv_aload_n hx hb d_P_need_0 rfl (lv_at hl 0 rfl) ?_
  refine va_get (D := D) (ci := 1) (v := .ref (q 8)) (C := R_P) (T := T_P) (N := 8) hx hb hts l_P hown hK hP 1 rfl rfl 6 (by decide) (hts _ w_26) (fun _ h9 => h9) rfl d_P_need_1 ?_
  refine lv_iload_n hx hb d_P_need_4 rfl (lv_at hl 1 rfl) ?_
  refine lv_iconst (v := 5) hx hb d_P_need_5 (by decide) ?_
  refine lv_imul hx hb d_P_need_6 ?_
  refine lv_iload_n hx hb d_P_need_7 rfl (lv_at hl 2 rfl) ?_
  refine lv_iadd hx hb d_P_need_8 ?_
  obtain ⟨u9, hu9, h⟩ := bnd h
  refine gcall_i (va_runSN (As := [.ref (q 8), .int ((x1 * (5 : Int32)) + x2)]) (rest := []) ⟨hx, hb, hml, hown, hts⟩ (c_E_at_u l D cI cZ tL (wE cI cZ q σ ++ tl) 8 (q 8) 320 (σ 8) rfl ((x1 * (5 : Int32)) + x2) u9 hu9 s.heap.size) ⟨va_cnB 2 hts (TB_code w_133) rfl rfl rfl (nm_1 hE) (hts _ w_1) (by decide +kernel) ⟨Nat.le_of_ble_eq_true rfl, Nat.le_of_ble_eq_true rfl⟩, hts _ w_132, trivial⟩ (gpS hA hK (hD σ) hE hP hS) rfl rfl hl.1 rfl (lv_room (Nat.le_of_ble_eq_true rfl)) d_P_need_9 ⟨Nat.le_of_ble_eq_true rfl, Nat.le_of_ble_eq_true rfl⟩) hA (hD σ) hS (fun H locs hP hS => ?_)
  cases h
  exact gret_i hx hb hr hlk hP hS d_P_need_12
/-! ===== EscapeOwners$Program.isIn(II)Z ===== -/
def f_P_isIn (σ : St) (x1 : Int32) (x2 : Int32) : Option (Int32) := Option.bind (f_P_owner σ x2) (fun u3 => Option.bind (f_E_has x1 u3) (fun u6 => if u6 = 0 ∨ u6 = 1 then some u6 else none))
set_option maxHeartbeats 4000000 in
set_option maxRecDepth 100000 in
theorem c_P_isIn (l : Launch) (D : va_G) (cI cZ : ClassId) (tL : Nat) (q : Nat → Nat) (tl : va_W) (σ : St) (x1 : Int32) (x2 : Int32) (out0 : Int32) (h : f_P_isIn σ x1 x2 = some out0) : gCi l y_P_isIn (.code y_P_isIn b_P_isIn 3 (some .boolean) :: TB) { frames := 2, cells := 0, slots := 0, locals := 42 } D [(cI, .int), (cZ, .boolean)] tL [.ref (q 1), .int x1, .int x2] (wE cI cZ q σ ++ tl) out0 (wE cI cZ q σ ++ tl) := by
  refine gCi_of (cc := b_P_isIn) (maxL := 3) (ty := .boolean) (by decide) rfl (Nat.le_of_ble_eq_true rfl) ?_
  intro p e s m below meth c A ls hf hr hlk hA hK hD0 hE hP hl
  obtain ⟨hx, hb, hml, hown, hts⟩ := id hf
  have hts : ∀ w ∈ TB, w.before _ s = true := fun w h => hts w (List.mem_cons_of_mem _ h)
  have hown : s.vm.findClass R_P = some m.cls := hown
  have hl : lv_has ls 3 [(0, .ref (q 1)), (1, .int x1), (2, .int x2)] := hl
  have hS : va_S A s.heap s.heap [] := va_S.rf
  have hD : ∀ σ' : St, va_D A (wE cI cZ q σ' ++ tl) := fun σ' => va_Dsame hD0 rfl
  unfold f_P_isIn at h
  refine lv_iload_n hx hb d_P_isIn_0 rfl (lv_at hl 1 rfl) ?_
  refine lv_aload_n hx hb d_P_isIn_1 rfl (lv_at hl 0 rfl) ?_
  refine lv_iload_n hx hb d_P_isIn_2 rfl (lv_at hl 2 rfl) ?_
  obtain ⟨u3, hu3, h⟩ := bnd h
  refine gcall_i (va_runV (As := [.int x2]) (rest := [.int x1]) ⟨hx, hb, hml, hown, hts⟩ (c_P_owner l D cI cZ tL q tl σ x2 u3 hu3 s.heap.size) (cwV 1 hts (gV w_218 w_176 w_177 w_2 w_178) rfl rfl rfl (by decide +kernel) ⟨Nat.le_of_ble_eq_true rfl, Nat.le_of_ble_eq_true rfl⟩) (gpV (k := 1) (ci := 1) hA hK (hD σ) hE hP hS rfl rfl) rfl rfl hl.1 rfl (lv_room (Nat.le_of_ble_eq_true rfl)) d_P_isIn_3 ⟨Nat.le_of_ble_eq_true rfl, Nat.le_of_ble_eq_true rfl⟩) hA (hD σ) hS (fun H locs hP hS => ?_)
  obtain ⟨u6, hu6, h⟩ := bnd h
  refine gcall_i (va_runSN (As := [.int x1, .int u3]) (rest := []) ⟨hx, hb, hml, hown, hts⟩ (c_E_has l D cI cZ tL (wE cI cZ q σ ++ tl) x1 u3 u6 hu6 H.size) ⟨va_cnB 2 hts (TB_code w_210) rfl rfl rfl (nm_7 hE) (hts _ w_1) (by decide +kernel) ⟨Nat.le_of_ble_eq_true rfl, Nat.le_of_ble_eq_true rfl⟩, hts _ w_209, trivial⟩ (gpS hA hK (hD σ) hE hP hS) rfl rfl hl.1 rfl (lv_room (Nat.le_of_ble_eq_true rfl)) d_P_isIn_6 ⟨Nat.le_of_ble_eq_true rfl, Nat.le_of_ble_eq_true rfl⟩) hA (hD σ) hS (fun H locs hP hS => ?_)
  obtain ⟨c, h⟩ := ifs h
  cases h
  exact gret_z hx hb hr hlk (gz c) hP hS d_P_isIn_9
/-! ===== EscapeOwners$Program.maker(I)I ===== -/
def f_P_maker (σ : St) (x1 : Int32) : Option (Int32) := Option.bind (f_E_at 16 (σ 9) x1) (fun u5 => some u5)
set_option maxHeartbeats 4000000 in
set_option maxRecDepth 100000 in
theorem c_P_maker (l : Launch) (D : va_G) (cI cZ : ClassId) (tL : Nat) (q : Nat → Nat) (tl : va_W) (σ : St) (x1 : Int32) (out0 : Int32) (h : f_P_maker σ x1 = some out0) : gCi l y_P_maker (.code y_P_maker b_P_maker 2 (some .int) :: TB) { frames := 1, cells := 0, slots := 0, locals := 21 } D [(cI, .int), (cZ, .boolean)] tL [.ref (q 1), .int x1] (wE cI cZ q σ ++ tl) out0 (wE cI cZ q σ ++ tl) := by
  refine gCi_of (cc := b_P_maker) (maxL := 2) (ty := .int) (by decide) rfl (Nat.le_of_ble_eq_true rfl) ?_
  intro p e s m below meth c A ls hf hr hlk hA hK hD0 hE hP hl
  obtain ⟨hx, hb, hml, hown, hts⟩ := id hf
  have hts : ∀ w ∈ TB, w.before _ s = true := fun w h => hts w (List.mem_cons_of_mem _ h)
  have hown : s.vm.findClass R_P = some m.cls := hown
  have hl : lv_has ls 2 [(0, .ref (q 1)), (1, .int x1)] := hl
  have hS : va_S A s.heap s.heap [] := va_S.rf
  have hD : ∀ σ' : St, va_D A (wE cI cZ q σ' ++ tl) := fun σ' => va_Dsame hD0 rfl
  unfold f_P_maker at h
  refine lv_aload_n hx hb d_P_maker_0 rfl (lv_at hl 0 rfl) ?_
  refine va_get (D := D) (ci := 1) (v := .ref (q 9)) (C := R_P) (T := T_P) (N := 8) hx hb hts l_P hown hK hP 1 rfl rfl 7 (by decide) (hts _ w_27) (fun _ h9 => h9) rfl d_P_maker_1 ?_
  refine lv_iload_n hx hb d_P_maker_4 rfl (lv_at hl 1 rfl) ?_
  obtain ⟨u5, hu5, h⟩ := bnd h
  refine gcall_i (va_runSN (As := [.ref (q 9), .int x1]) (rest := []) ⟨hx, hb, hml, hown, hts⟩ (c_E_at_u l D cI cZ tL (wE cI cZ q σ ++ tl) 9 (q 9) 16 (σ 9) rfl x1 u5 hu5 s.heap.size) ⟨va_cnB 2 hts (TB_code w_133) rfl rfl rfl (nm_1 hE) (hts _ w_1) (by decide +kernel) ⟨Nat.le_of_ble_eq_true rfl, Nat.le_of_ble_eq_true rfl⟩, hts _ w_132, trivial⟩ (gpS hA hK (hD σ) hE hP hS) rfl rfl hl.1 rfl (lv_room (Nat.le_of_ble_eq_true rfl)) d_P_maker_5 ⟨Nat.le_of_ble_eq_true rfl, Nat.le_of_ble_eq_true rfl⟩) hA (hD σ) hS (fun H locs hP hS => ?_)
  cases h
  exact gret_i hx hb hr hlk hP hS d_P_maker_8
/-! ===== EscapeOwners$Program.methodOfSite(I)I ===== -/
def f_P_methodOfSite (σ : St) (x1 : Int32) : Option (Int32) := Option.bind (f_P_maker σ x1) (fun u3 => Option.bind (f_P_owner σ u3) (fun u6 => some u6))
set_option maxHeartbeats 4000000 in
set_option maxRecDepth 100000 in
theorem c_P_methodOfSite (l : Launch) (D : va_G) (cI cZ : ClassId) (tL : Nat) (q : Nat → Nat) (tl : va_W) (σ : St) (x1 : Int32) (out0 : Int32) (h : f_P_methodOfSite σ x1 = some out0) : gCi l y_P_methodOfSite (.code y_P_methodOfSite b_P_methodOfSite 2 (some .int) :: TB) { frames := 2, cells := 0, slots := 0, locals := 42 } D [(cI, .int), (cZ, .boolean)] tL [.ref (q 1), .int x1] (wE cI cZ q σ ++ tl) out0 (wE cI cZ q σ ++ tl) := by
  refine gCi_of (cc := b_P_methodOfSite) (maxL := 2) (ty := .int) (by decide) rfl (Nat.le_of_ble_eq_true rfl) ?_
  intro p e s m below meth c A ls hf hr hlk hA hK hD0 hE hP hl
  obtain ⟨hx, hb, hml, hown, hts⟩ := id hf
  have hts : ∀ w ∈ TB, w.before _ s = true := fun w h => hts w (List.mem_cons_of_mem _ h)
  have hown : s.vm.findClass R_P = some m.cls := hown
  have hl : lv_has ls 2 [(0, .ref (q 1)), (1, .int x1)] := hl
  have hS : va_S A s.heap s.heap [] := va_S.rf
  have hD : ∀ σ' : St, va_D A (wE cI cZ q σ' ++ tl) := fun σ' => va_Dsame hD0 rfl
  unfold f_P_methodOfSite at h
  refine lv_aload_n hx hb d_P_methodOfSite_0 rfl (lv_at hl 0 rfl) ?_
  refine lv_aload_n hx hb d_P_methodOfSite_1 rfl (lv_at hl 0 rfl) ?_
  refine lv_iload_n hx hb d_P_methodOfSite_2 rfl (lv_at hl 1 rfl) ?_
  obtain ⟨u3, hu3, h⟩ := bnd h
  refine gcall_i (va_runV (As := [.int x1]) (rest := [.ref (q 1)]) ⟨hx, hb, hml, hown, hts⟩ (c_P_maker l D cI cZ tL q tl σ x1 u3 hu3 s.heap.size) (cwV 1 hts (gV w_267 w_268 w_269 w_2 w_270) rfl rfl rfl (by decide +kernel) ⟨Nat.le_of_ble_eq_true rfl, Nat.le_of_ble_eq_true rfl⟩) (gpV (k := 1) (ci := 1) hA hK (hD σ) hE hP hS rfl rfl) rfl rfl hl.1 rfl (lv_room (Nat.le_of_ble_eq_true rfl)) d_P_methodOfSite_3 ⟨Nat.le_of_ble_eq_true rfl, Nat.le_of_ble_eq_true rfl⟩) hA (hD σ) hS (fun H locs hP hS => ?_)
  obtain ⟨u6, hu6, h⟩ := bnd h
  refine gcall_i (va_runV (As := [.int u3]) (rest := []) ⟨hx, hb, hml, hown, hts⟩ (c_P_owner l D cI cZ tL q tl σ u3 u6 hu6 H.size) (cwV 1 hts (gV w_218 w_176 w_177 w_2 w_178) rfl rfl rfl (by decide +kernel) ⟨Nat.le_of_ble_eq_true rfl, Nat.le_of_ble_eq_true rfl⟩) (gpV (k := 1) (ci := 1) hA hK (hD σ) hE hP hS rfl rfl) rfl rfl hl.1 rfl (lv_room (Nat.le_of_ble_eq_true rfl)) d_P_methodOfSite_6 ⟨Nat.le_of_ble_eq_true rfl, Nat.le_of_ble_eq_true rfl⟩) hA (hD σ) hS (fun H locs hP hS => ?_)
  cases h
  exact gret_i hx hb hr hlk hP hS d_P_methodOfSite_9
/-! ===== EscapeOwners$Program.madeBy(I)I ===== -/
def f_P_madeBy_B4 (F : Nat) (σ : St) (y1 : Int32) (rec : Int32 → Int32 → Option (Int32 × Int32)) (y2 : Int32) (y3 : Int32) : Option (Int32 × Int32) := if (σ 1 2) ≤ y3 then (some (y2, y3)) else (Option.bind (f_P_methodOfSite σ y3) (fun u15 => Option.bind (f_E_has y1 u15) (fun u18 => if u18 = 0 then (rec y2 (y3 + (1 : Int32))) else (rec (y2 ||| ((1 : Int32) <<< (y3 &&& 31))) (y3 + (1 : Int32))))))
def f_P_madeBy_L4 (F : Nat) (σ : St) (y1 : Int32) : Nat → Int32 → Int32 → Option (Int32 × Int32)
  | 0, _, _ => none
  | fu + 1, y2, y3 => f_P_madeBy_B4 F σ y1 (f_P_madeBy_L4 F σ y1 fu) y2 y3
def f_P_madeBy (F : Nat) (σ : St) (x1 : Int32) : Option (Int32) := Option.bind (f_P_madeBy_L4 F σ x1 F (0 : Int32) (0 : Int32)) (fun u4 => some u4.1)
set_option maxHeartbeats 4000000 in
set_option maxRecDepth 100000 in
theorem c_P_madeBy (l : Launch) (D : va_G) (cI cZ : ClassId) (tL : Nat) (q : Nat → Nat) (tl : va_W) (F : Nat) (σ : St) (x1 : Int32) (out0 : Int32) (h : f_P_madeBy F σ x1 = some out0) : gCi l y_P_madeBy (.code y_P_madeBy b_P_madeBy 4 (some .int) :: TB) { frames := 3, cells := 0, slots := 0, locals := 63 } D [(cI, .int), (cZ, .boolean)] tL [.ref (q 1), .int x1] (wE cI cZ q σ ++ tl) out0 (wE cI cZ q σ ++ tl) := by
  refine gCi_of (cc := b_P_madeBy) (maxL := 4) (ty := .int) (by decide) rfl (Nat.le_of_ble_eq_true rfl) ?_
  intro p e s m below meth c A ls hf hr hlk hA hK hD0 hE hP hl
  obtain ⟨hx, hb, hml, hown, hts⟩ := id hf
  have hts : ∀ w ∈ TB, w.before _ s = true := fun w h => hts w (List.mem_cons_of_mem _ h)
  have hown : s.vm.findClass R_P = some m.cls := hown
  have hl : lv_has ls 4 [(0, .ref (q 1)), (1, .int x1)] := hl
  have hS : va_S A s.heap s.heap [] := va_S.rf
  have hD : ∀ σ' : St, va_D A (wE cI cZ q σ' ++ tl) := fun σ' => va_Dsame hD0 rfl
  have L4 : ∀ (σ : St) (y1 : Int32) (fu : Nat) (y2 : Int32) (y3 : Int32) (H : Heap) (locs : List Loc) (ls : Array Slot) (out : Int32 × Int32), f_P_madeBy_L4 F σ y1 fu y2 y3 = some out → va_P D vwCl (wE cI cZ q σ ++ tl) H → va_S A s.heap H locs → lv_has ls 4 [(0, .ref (q 1)), (1, .int y1), (2, .int y2), (3, .int y3)] → (∀ (H : Heap) (locs : List Loc) (ls : Array Slot), va_P D vwCl (wE cI cZ q σ ++ tl) H → va_S A s.heap H locs → lv_has ls 4 [(0, .ref (q 1)), (1, .int y1), (2, .int out.1), (3, .int out.2)] → W p l e { frames := 3, cells := 0, slots := 0, locals := 63 } s m ([.ref (q 1), .int x1] : List Value).toArray below meth c H locs 0 0 (gQi below D out0 (wE cI cZ q σ ++ tl) A (([.ref (q 1), .int x1] : List Value).toArray) s) (F0 m 36 ls [])) → W p l e { frames := 3, cells := 0, slots := 0, locals := 63 } s m ([.ref (q 1), .int x1] : List Value).toArray below meth c H locs 0 0 (gQi below D out0 (wE cI cZ q σ ++ tl) A (([.ref (q 1), .int x1] : List Value).toArray) s) (F0 m 4 ls []) := by
    intro σ y1 fu
    induction fu with
    | zero => intro y2 y3 H locs ls out h; exact absurd (show (none : Option (Int32 × Int32)) = some out from h) (fun z => by cases z)
    | succ fu ih =>
      intro y2 y3 H locs ls out h hP hS hl K
      have h : f_P_madeBy_B4 F σ y1 (f_P_madeBy_L4 F σ y1 fu) y2 y3 = some out := h
      unfold f_P_madeBy_B4 at h
      refine lv_iload_n hx hb d_P_madeBy_4 rfl (lv_at hl 3 rfl) ?_
      refine lv_aload_n hx hb d_P_madeBy_5 rfl (lv_at hl 0 rfl) ?_
      refine va_get (D := D) (ci := 1) (v := .int (σ 1 2)) (C := R_P) (T := T_P) (N := 8) hx hb hts l_P hown hK hP 1 rfl rfl 2 (by decide) (hts _ w_22) (fun _ h9 => h9) rfl d_P_madeBy_6 ?_
      refine lv_icmp_ge (tgt := 36) hx hb d_P_madeBy_9 (by decide) (fun c => ?_) (fun c => ?_)
      · have h := ifp c h
        cases h
        exact K _ _ ls hP hS (lv_sub hl [0, 1, 2, 3] rfl)
      have h := ifn c h
      refine lv_iload_n hx hb d_P_madeBy_12 rfl (lv_at hl 1 rfl) ?_
      refine lv_aload_n hx hb d_P_madeBy_13 rfl (lv_at hl 0 rfl) ?_
      refine lv_iload_n hx hb d_P_madeBy_14 rfl (lv_at hl 3 rfl) ?_
      obtain ⟨u15, hu15, h⟩ := bnd h
      refine gcall_i (va_runV (As := [.int y3]) (rest := [.int y1]) ⟨hx, hb, hml, hown, hts⟩ (c_P_methodOfSite l D cI cZ tL q tl σ y3 u15 hu15 H.size) (cwV 1 hts (gV w_263 w_264 w_265 w_2 w_266) rfl rfl rfl (by decide +kernel) ⟨Nat.le_of_ble_eq_true rfl, Nat.le_of_ble_eq_true rfl⟩) (gpV (k := 1) (ci := 1) hA hK (hD σ) hE hP hS rfl rfl) rfl rfl hl.1 rfl (lv_room (Nat.le_of_ble_eq_true rfl)) d_P_madeBy_15 ⟨Nat.le_of_ble_eq_true rfl, Nat.le_of_ble_eq_true rfl⟩) hA (hD σ) hS (fun H locs hP hS => ?_)
      obtain ⟨u18, hu18, h⟩ := bnd h
      refine gcall_i (va_runSN (As := [.int y1, .int u15]) (rest := []) ⟨hx, hb, hml, hown, hts⟩ (c_E_has l D cI cZ tL (wE cI cZ q σ ++ tl) y1 u15 u18 hu18 H.size) ⟨va_cnB 2 hts (TB_code w_210) rfl rfl rfl (nm_7 hE) (hts _ w_1) (by decide +kernel) ⟨Nat.le_of_ble_eq_true rfl, Nat.le_of_ble_eq_true rfl⟩, hts _ w_209, trivial⟩ (gpS hA hK (hD σ) hE hP hS) rfl rfl hl.1 rfl (lv_room (Nat.le_of_ble_eq_true rfl)) d_P_madeBy_18 ⟨Nat.le_of_ble_eq_true rfl, Nat.le_of_ble_eq_true rfl⟩) hA (hD σ) hS (fun H locs hP hS => ?_)
      refine lv_if_eq (tgt := 30) hx hb d_P_madeBy_21 (by decide) (fun c => ?_) (fun c => ?_)
      · have h := ifp c h
        refine lv_iinc (v := (y3 + (1 : Int32))) (lv' := [(3, .int (y3 + (1 : Int32))), (0, .ref (q 1)), (1, .int y1), (2, .int y2)]) hx hb d_P_madeBy_30 hl (k := 3) rfl rfl (by decide) rfl (fun ls hl => ?_)
        refine lv_goto (tgt := 4) hx hb d_P_madeBy_33 (by decide) ?_
        exact ih y2 (y3 + (1 : Int32)) _ _ ls out h hP hS (lv_sub hl [1, 2, 3, 0] rfl) K
      have h := ifn c h
      refine lv_iload_n hx hb d_P_madeBy_24 rfl (lv_at hl 2 rfl) ?_
      refine lv_iconst (v := 1) hx hb d_P_madeBy_25 (by decide) ?_
      refine lv_iload_n hx hb d_P_madeBy_26 rfl (lv_at hl 3 rfl) ?_
      refine lv_ishl hx hb d_P_madeBy_27 ?_
      refine lv_ior hx hb d_P_madeBy_28 ?_
      refine lv_istore_n (lv' := [(2, .int (y2 ||| ((1 : Int32) <<< (y3 &&& 31)))), (0, .ref (q 1)), (1, .int y1), (3, .int y3)]) hx hb d_P_madeBy_29 rfl hl (by decide) rfl (fun ls hl => ?_)
      refine lv_iinc (v := (y3 + (1 : Int32))) (lv' := [(3, .int (y3 + (1 : Int32))), (2, .int (y2 ||| ((1 : Int32) <<< (y3 &&& 31)))), (0, .ref (q 1)), (1, .int y1)]) hx hb d_P_madeBy_30 hl (k := 3) rfl rfl (by decide) rfl (fun ls hl => ?_)
      refine lv_goto (tgt := 4) hx hb d_P_madeBy_33 (by decide) ?_
      exact ih (y2 ||| ((1 : Int32) <<< (y3 &&& 31))) (y3 + (1 : Int32)) _ _ ls out h hP hS (lv_sub hl [2, 3, 1, 0] rfl) K
  unfold f_P_madeBy at h
  refine lv_iconst (v := 0) hx hb d_P_madeBy_0 (by decide) ?_
  refine lv_istore_n (lv' := [(2, .int (0 : Int32)), (0, .ref (q 1)), (1, .int x1)]) hx hb d_P_madeBy_1 rfl hl (by decide) rfl (fun ls hl => ?_)
  refine lv_iconst (v := 0) hx hb d_P_madeBy_2 (by decide) ?_
  refine lv_istore_n (lv' := [(3, .int (0 : Int32)), (2, .int (0 : Int32)), (0, .ref (q 1)), (1, .int x1)]) hx hb d_P_madeBy_3 rfl hl (by decide) rfl (fun ls hl => ?_)
  obtain ⟨u4, hu4, h⟩ := bnd h
  refine L4 σ x1 F (0 : Int32) (0 : Int32) _ _ ls u4 hu4 hP hS (lv_sub hl [2, 3, 1, 0] rfl) (fun H locs ls hP hS hl => ?_)
  refine lv_iload_n hx hb d_P_madeBy_36 rfl (lv_at hl 2 rfl) ?_
  cases h
  exact gret_i hx hb hr hlk hP hS d_P_madeBy_37
