/-! ===== EscapeOwnersModel.isIn(III)Z ===== -/
def f_M_isIn (x0 : Int32) (x1 : Int32) (x2 : Int32) : Option (Int32) := if x0 < x1 then (some (0 : Int32)) else (if x2 < x0 then (some (0 : Int32)) else (some (1 : Int32)))
set_option maxHeartbeats 4000000 in
set_option maxRecDepth 100000 in
theorem c_M_isIn (l : Launch) (D : va_G) (cI cZ : ClassId) (tL : Nat) (ws : va_W) (x0 : Int32) (x1 : Int32) (x2 : Int32) (out0 : Int32) (h : f_M_isIn x0 x1 x2 = some out0) : gCi l y_M_isIn (.code y_M_isIn b_M_isIn 3 (some .boolean) :: TB) { frames := 0, cells := 0, slots := 0, locals := 0 } D [(cI, .int), (cZ, .boolean)] tL [.int x0, .int x1, .int x2] ws out0 ws := by
  refine gCi_of (cc := b_M_isIn) (maxL := 3) (ty := .boolean) (by decide) rfl (Nat.le_of_ble_eq_true rfl) ?_
  intro p e s m below meth c A ls hf hr hlk hA hK hD0 hE hP hl
  obtain ⟨hx, hb, hml, hown, hts⟩ := id hf
  have hts : ∀ w ∈ TB, w.before _ s = true := fun w h => hts w (List.mem_cons_of_mem _ h)
  have hown : s.vm.findClass R_M = some m.cls := hown
  have hl : lv_has ls 3 [(0, .int x0), (1, .int x1), (2, .int x2)] := hl
  have hS : va_S A s.heap s.heap [] := va_S.rf
  have hD := hD0
  unfold f_M_isIn at h
  refine lv_iload_n hx hb d_M_isIn_0 rfl (lv_at hl 0 rfl) ?_
  refine lv_iload_n hx hb d_M_isIn_1 rfl (lv_at hl 1 rfl) ?_
  refine lv_icmp_lt (tgt := 14) hx hb d_M_isIn_2 (by decide) (fun c => ?_) (fun c => ?_)
  · have h := ifp c h
    refine lv_iconst (v := 0) hx hb d_M_isIn_14 (by decide) ?_
    cases h
    exact gret_z hx hb hr hlk (gz (Or.inl rfl)) hP hS d_M_isIn_15
  have h := ifn c h
  refine lv_iload_n hx hb d_M_isIn_5 rfl (lv_at hl 0 rfl) ?_
  refine lv_iload_n hx hb d_M_isIn_6 rfl (lv_at hl 2 rfl) ?_
  refine lv_icmp_gt (tgt := 14) hx hb d_M_isIn_7 (by decide) (fun c => ?_) (fun c => ?_)
  · have h := ifp c h
    refine lv_iconst (v := 0) hx hb d_M_isIn_14 (by decide) ?_
    cases h
    exact gret_z hx hb hr hlk (gz (Or.inl rfl)) hP hS d_M_isIn_15
  have h := ifn c h
  refine lv_iconst (v := 1) hx hb d_M_isIn_10 (by decide) ?_
  refine lv_goto (tgt := 15) hx hb d_M_isIn_11 (by decide) ?_
  cases h
  exact gret_z hx hb hr hlk (gz (Or.inr rfl)) hP hS d_M_isIn_15
/-! ===== EscapeOwnersModel.has(II)Z ===== -/
def f_M_has (x0 : Int32) (x1 : Int32) : Option (Int32) := if ((x0 >>> (x1 &&& 31)) &&& (1 : Int32)) = (1 : Int32) then (some (1 : Int32)) else (some (0 : Int32))
set_option maxHeartbeats 4000000 in
set_option maxRecDepth 100000 in
theorem c_M_has (l : Launch) (D : va_G) (cI cZ : ClassId) (tL : Nat) (ws : va_W) (x0 : Int32) (x1 : Int32) (out0 : Int32) (h : f_M_has x0 x1 = some out0) : gCi l y_M_has (.code y_M_has b_M_has 2 (some .boolean) :: TB) { frames := 0, cells := 0, slots := 0, locals := 0 } D [(cI, .int), (cZ, .boolean)] tL [.int x0, .int x1] ws out0 ws := by
  refine gCi_of (cc := b_M_has) (maxL := 2) (ty := .boolean) (by decide) rfl (Nat.le_of_ble_eq_true rfl) ?_
  intro p e s m below meth c A ls hf hr hlk hA hK hD0 hE hP hl
  obtain ⟨hx, hb, hml, hown, hts⟩ := id hf
  have hts : ∀ w ∈ TB, w.before _ s = true := fun w h => hts w (List.mem_cons_of_mem _ h)
  have hown : s.vm.findClass R_M = some m.cls := hown
  have hl : lv_has ls 2 [(0, .int x0), (1, .int x1)] := hl
  have hS : va_S A s.heap s.heap [] := va_S.rf
  have hD := hD0
  unfold f_M_has at h
  refine lv_iload_n hx hb d_M_has_0 rfl (lv_at hl 0 rfl) ?_
  refine lv_iload_n hx hb d_M_has_1 rfl (lv_at hl 1 rfl) ?_
  refine lv_ishr hx hb d_M_has_2 ?_
  refine lv_iconst (v := 1) hx hb d_M_has_3 (by decide) ?_
  refine lv_iand hx hb d_M_has_4 ?_
  refine lv_iconst (v := 1) hx hb d_M_has_5 (by decide) ?_
  refine lv_icmp_ne (tgt := 13) hx hb d_M_has_6 (by decide) (fun c => ?_) (fun c => ?_)
  · have h := ifn c h
    refine lv_iconst (v := 0) hx hb d_M_has_13 (by decide) ?_
    cases h
    exact gret_z hx hb hr hlk (gz (Or.inl rfl)) hP hS d_M_has_14
  have h := ifp c h
  refine lv_iconst (v := 1) hx hb d_M_has_9 (by decide) ?_
  refine lv_goto (tgt := 14) hx hb d_M_has_10 (by decide) ?_
  cases h
  exact gret_z hx hb hr hlk (gz (Or.inr rfl)) hP hS d_M_has_14
/-! ===== EscapeOwnersModel.clear()I ===== -/
def f_M_clear (σ : St) : Option (Int32 × St) := lett (su σ 0 1 (0 : Int32)) (fun s7 => lett (su s7 0 2 (0 : Int32)) (fun s12 => lett (su s12 0 0 (1 : Int32)) (fun s17 => lett (su s17 0 13 (1 : Int32)) (fun s22 => some ((σ 0 1), s22)))))
set_option maxHeartbeats 4000000 in
set_option maxRecDepth 100000 in
theorem c_M_clear (l : Launch) (D : va_G) (cI cZ : ClassId) (tL : Nat) (q : Nat → Nat) (tl : va_W) (σ : St) (out0 : Int32 × St) (h : f_M_clear σ = some out0) : gCi l y_M_clear (.code y_M_clear b_M_clear 2 (some .int) :: TB) { frames := 0, cells := 0, slots := 0, locals := 0 } D [(cI, .int), (cZ, .boolean)] tL [.ref (q 0)] (wM cI cZ q σ ++ tl) out0.1 (wM cI cZ q out0.2 ++ tl) := by
  refine gCi_of (cc := b_M_clear) (maxL := 2) (ty := .int) (by decide) rfl (Nat.le_of_ble_eq_true rfl) ?_
  intro p e s m below meth c A ls hf hr hlk hA hK hD0 hE hP hl
  obtain ⟨hx, hb, hml, hown, hts⟩ := id hf
  have hts : ∀ w ∈ TB, w.before _ s = true := fun w h => hts w (List.mem_cons_of_mem _ h)
  have hown : s.vm.findClass R_M = some m.cls := hown
  have hl : lv_has ls 2 [(0, .ref (q 0))] := hl
  have hS : va_S A s.heap s.heap [] := va_S.rf
  have hD : ∀ σ' : St, va_D A (wM cI cZ q σ' ++ tl) := fun σ' => va_Dsame hD0 rfl
  unfold f_M_clear at h
  refine lv_aload_n hx hb d_M_clear_0 rfl (lv_at hl 0 rfl) ?_
  refine va_get (D := D) (ci := 5) (v := .int (σ 0 1)) (C := R_M) (T := T_M) (N := 17) hx hb hts l_M hown hK hP 0 rfl rfl 1 (by decide) (hts _ w_440) (fun _ h9 => h9) rfl d_M_clear_1 ?_
  refine lv_istore_n (lv' := [(1, .int (σ 0 1)), (0, .ref (q 0))]) hx hb d_M_clear_4 rfl hl (by decide) rfl (fun ls hl => ?_)
  refine lv_aload_n hx hb d_M_clear_5 rfl (lv_at hl 1 rfl) ?_
  refine lv_iconst (v := 0) hx hb d_M_clear_6 (by decide) ?_
  refine va_put (D := D) (ci := 5) (v := .int (0 : Int32)) (ty := .int) (C := R_M) (T := T_M) (N := 17) hx hb hts l_M t_M t_M_ok n_M hown hK hP (hD σ) hS 0 rfl rfl 1 (by decide) (hts _ w_440) (fun _ h9 => h9) rfl (by decide +kernel) rfl rfl (Nat.le_of_ble_eq_true rfl) d_M_clear_7 (fun H locs hP _ hS => ?_)
  have hP : va_P D vwCl (wM cI cZ q (su σ 0 1 (0 : Int32)) ++ tl) H := hP
  obtain ⟨s7, es7, h⟩ := lettE h
  rw [← es7] at hP
  refine lv_aload_n hx hb d_M_clear_10 rfl (lv_at hl 1 rfl) ?_
  refine lv_iconst (v := 0) hx hb d_M_clear_11 (by decide) ?_
  refine va_put (D := D) (ci := 5) (v := .int (0 : Int32)) (ty := .int) (C := R_M) (T := T_M) (N := 17) hx hb hts l_M t_M t_M_ok n_M hown hK hP (hD s7) hS 0 rfl rfl 2 (by decide) (hts _ w_441) (fun _ h9 => h9) rfl (by decide +kernel) rfl rfl (Nat.le_of_ble_eq_true rfl) d_M_clear_12 (fun H locs hP _ hS => ?_)
  have hP : va_P D vwCl (wM cI cZ q (su s7 0 2 (0 : Int32)) ++ tl) H := hP
  obtain ⟨s12, es12, h⟩ := lettE h
  rw [← es12] at hP
  refine lv_aload_n hx hb d_M_clear_15 rfl (lv_at hl 1 rfl) ?_
  refine lv_iconst (v := 1) hx hb d_M_clear_16 (by decide) ?_
  refine va_put (D := D) (ci := 5) (v := .int (1 : Int32)) (ty := .int) (C := R_M) (T := T_M) (N := 17) hx hb hts l_M t_M t_M_ok n_M hown hK hP (hD s12) hS 0 rfl rfl 0 (by decide) (hts _ w_439) (fun _ h9 => h9) rfl (by decide +kernel) rfl rfl (Nat.le_of_ble_eq_true rfl) d_M_clear_17 (fun H locs hP _ hS => ?_)
  have hP : va_P D vwCl (wM cI cZ q (su s12 0 0 (1 : Int32)) ++ tl) H := hP
  obtain ⟨s17, es17, h⟩ := lettE h
  rw [← es17] at hP
  refine lv_aload_n hx hb d_M_clear_20 rfl (lv_at hl 1 rfl) ?_
  refine lv_iconst (v := 1) hx hb d_M_clear_21 (by decide) ?_
  refine va_put (D := D) (ci := 5) (v := .int (1 : Int32)) (ty := .boolean) (C := R_M) (T := T_M) (N := 17) hx hb hts l_M t_M t_M_ok n_M hown hK hP (hD s17) hS 0 rfl rfl 13 (by decide) (hts _ w_452) (fun _ h9 => h9) rfl (by decide +kernel) rfl rfl (Nat.le_of_ble_eq_true rfl) d_M_clear_22 (fun H locs hP _ hS => ?_)
  have hP : va_P D vwCl (wM cI cZ q (su s17 0 13 (1 : Int32)) ++ tl) H := hP
  obtain ⟨s22, es22, h⟩ := lettE h
  rw [← es22] at hP
  refine lv_iload_n hx hb d_M_clear_25 rfl (lv_at hl 0 rfl) ?_
  cases h
  exact gret_i hx hb hr hlk hP hS d_M_clear_26
/-! ===== EscapeOwnersModel.method()I ===== -/
def f_M_method (σ : St) : Option (Int32 × St) := if (σ 0 0) = (8 : Int32) then (some ((-3 : Int32), σ)) else (lett (su σ 0 0 ((σ 0 0) + (1 : Int32))) (fun s19 => lett (su s19 0 13 (1 : Int32)) (fun s24 => some (((s24 0 0) - (1 : Int32)), s24))))
set_option maxHeartbeats 4000000 in
set_option maxRecDepth 100000 in
theorem c_M_method (l : Launch) (D : va_G) (cI cZ : ClassId) (tL : Nat) (q : Nat → Nat) (tl : va_W) (σ : St) (out0 : Int32 × St) (h : f_M_method σ = some out0) : gCi l y_M_method (.code y_M_method b_M_method 1 (some .int) :: TB) { frames := 0, cells := 0, slots := 0, locals := 0 } D [(cI, .int), (cZ, .boolean)] tL [.ref (q 0)] (wM cI cZ q σ ++ tl) out0.1 (wM cI cZ q out0.2 ++ tl) := by
  refine gCi_of (cc := b_M_method) (maxL := 1) (ty := .int) (by decide) rfl (Nat.le_of_ble_eq_true rfl) ?_
  intro p e s m below meth c A ls hf hr hlk hA hK hD0 hE hP hl
  obtain ⟨hx, hb, hml, hown, hts⟩ := id hf
  have hts : ∀ w ∈ TB, w.before _ s = true := fun w h => hts w (List.mem_cons_of_mem _ h)
  have hown : s.vm.findClass R_M = some m.cls := hown
  have hl : lv_has ls 1 [(0, .ref (q 0))] := hl
  have hS : va_S A s.heap s.heap [] := va_S.rf
  have hD : ∀ σ' : St, va_D A (wM cI cZ q σ' ++ tl) := fun σ' => va_Dsame hD0 rfl
  unfold f_M_method at h
  refine lv_aload_n hx hb d_M_method_0 rfl (lv_at hl 0 rfl) ?_
  refine va_get (D := D) (ci := 5) (v := .int (σ 0 0)) (C := R_M) (T := T_M) (N := 17) hx hb hts l_M hown hK hP 0 rfl rfl 0 (by decide) (hts _ w_439) (fun _ h9 => h9) rfl d_M_method_1 ?_
  refine lv_bipush (v := 8) hx hb d_M_method_4 (by decide) ?_
  refine lv_icmp_ne (tgt := 12) hx hb d_M_method_6 (by decide) (fun c => ?_) (fun c => ?_)
  · have h := ifn c h
    refine lv_aload_n hx hb d_M_method_12 rfl (lv_at hl 0 rfl) ?_
    refine lv_dup hx hb d_M_method_13 rfl ?_
    refine va_get (D := D) (ci := 5) (v := .int (σ 0 0)) (C := R_M) (T := T_M) (N := 17) hx hb hts l_M hown hK hP 0 rfl rfl 0 (by decide) (hts _ w_439) (fun _ h9 => h9) rfl d_M_method_14 ?_
    refine lv_iconst (v := 1) hx hb d_M_method_17 (by decide) ?_
    refine lv_iadd hx hb d_M_method_18 ?_
    refine va_put (D := D) (ci := 5) (v := .int ((σ 0 0) + (1 : Int32))) (ty := .int) (C := R_M) (T := T_M) (N := 17) hx hb hts l_M t_M t_M_ok n_M hown hK hP (hD σ) hS 0 rfl rfl 0 (by decide) (hts _ w_439) (fun _ h9 => h9) rfl (by decide +kernel) rfl rfl (Nat.le_of_ble_eq_true rfl) d_M_method_19 (fun H locs hP _ hS => ?_)
    have hP : va_P D vwCl (wM cI cZ q (su σ 0 0 ((σ 0 0) + (1 : Int32))) ++ tl) H := hP
    obtain ⟨s19, es19, h⟩ := lettE h
    rw [← es19] at hP
    refine lv_aload_n hx hb d_M_method_22 rfl (lv_at hl 0 rfl) ?_
    refine lv_iconst (v := 1) hx hb d_M_method_23 (by decide) ?_
    refine va_put (D := D) (ci := 5) (v := .int (1 : Int32)) (ty := .boolean) (C := R_M) (T := T_M) (N := 17) hx hb hts l_M t_M t_M_ok n_M hown hK hP (hD s19) hS 0 rfl rfl 13 (by decide) (hts _ w_452) (fun _ h9 => h9) rfl (by decide +kernel) rfl rfl (Nat.le_of_ble_eq_true rfl) d_M_method_24 (fun H locs hP _ hS => ?_)
    have hP : va_P D vwCl (wM cI cZ q (su s19 0 13 (1 : Int32)) ++ tl) H := hP
    obtain ⟨s24, es24, h⟩ := lettE h
    rw [← es24] at hP
    refine lv_aload_n hx hb d_M_method_27 rfl (lv_at hl 0 rfl) ?_
    refine va_get (D := D) (ci := 5) (v := .int (s24 0 0)) (C := R_M) (T := T_M) (N := 17) hx hb hts l_M hown hK hP 0 rfl rfl 0 (by decide) (hts _ w_439) (fun _ h9 => h9) rfl d_M_method_28 ?_
    refine lv_iconst (v := 1) hx hb d_M_method_31 (by decide) ?_
    refine lv_isub hx hb d_M_method_32 ?_
    cases h
    exact gret_i hx hb hr hlk hP hS d_M_method_33
  have h := ifp c h
  refine lv_bipush (v := -3) hx hb d_M_method_9 (by decide) ?_
  cases h
  exact gret_i hx hb hr hlk hP hS d_M_method_11
/-! ===== EscapeOwnersModel.isMethod(I)Z ===== -/
def f_M_isMethod (σ : St) (x1 : Int32) : Option (Int32) := Option.bind (f_M_isIn x1 (0 : Int32) ((σ 0 0) - (1 : Int32))) (fun u8 => if u8 = 0 ∨ u8 = 1 then some u8 else none)
set_option maxHeartbeats 4000000 in
set_option maxRecDepth 100000 in
theorem c_M_isMethod (l : Launch) (D : va_G) (cI cZ : ClassId) (tL : Nat) (q : Nat → Nat) (tl : va_W) (σ : St) (x1 : Int32) (out0 : Int32) (h : f_M_isMethod σ x1 = some out0) : gCi l y_M_isMethod (.code y_M_isMethod b_M_isMethod 2 (some .boolean) :: TB) { frames := 1, cells := 0, slots := 0, locals := 22 } D [(cI, .int), (cZ, .boolean)] tL [.ref (q 0), .int x1] (wM cI cZ q σ ++ tl) out0 (wM cI cZ q σ ++ tl) := by
  refine gCi_of (cc := b_M_isMethod) (maxL := 2) (ty := .boolean) (by decide) rfl (Nat.le_of_ble_eq_true rfl) ?_
  intro p e s m below meth c A ls hf hr hlk hA hK hD0 hE hP hl
  obtain ⟨hx, hb, hml, hown, hts⟩ := id hf
  have hts : ∀ w ∈ TB, w.before _ s = true := fun w h => hts w (List.mem_cons_of_mem _ h)
  have hown : s.vm.findClass R_M = some m.cls := hown
  have hl : lv_has ls 2 [(0, .ref (q 0)), (1, .int x1)] := hl
  have hS : va_S A s.heap s.heap [] := va_S.rf
  have hD : ∀ σ' : St, va_D A (wM cI cZ q σ' ++ tl) := fun σ' => va_Dsame hD0 rfl
  unfold f_M_isMethod at h
  refine lv_iload_n hx hb d_M_isMethod_0 rfl (lv_at hl 1 rfl) ?_
  refine lv_iconst (v := 0) hx hb d_M_isMethod_1 (by decide) ?_
  refine lv_aload_n hx hb d_M_isMethod_2 rfl (lv_at hl 0 rfl) ?_
  refine va_get (D := D) (ci := 5) (v := .int (σ 0 0)) (C := R_M) (T := T_M) (N := 17) hx hb hts l_M hown hK hP 0 rfl rfl 0 (by decide) (hts _ w_439) (fun _ h9 => h9) rfl d_M_isMethod_3 ?_
  refine lv_iconst (v := 1) hx hb d_M_isMethod_6 (by decide) ?_
  refine lv_isub hx hb d_M_isMethod_7 ?_
  obtain ⟨u8, hu8, h⟩ := bnd h
  refine gcall_i (va_runS (As := [.int x1, .int (0 : Int32), .int ((σ 0 0) - (1 : Int32))]) (rest := []) ⟨hx, hb, hml, hown, hts⟩ (c_M_isIn l D cI cZ tL (wM cI cZ q σ ++ tl) x1 (0 : Int32) ((σ 0 0) - (1 : Int32)) u8 hu8 s.heap.size) (va_cwS 3 hts (gS w_486 w_487 w_6 w_488) rfl rfl rfl (by decide +kernel) ⟨Nat.le_of_ble_eq_true rfl, Nat.le_of_ble_eq_true rfl⟩) (gpS hA hK (hD σ) hE hP hS) rfl rfl hl.1 rfl (lv_room (Nat.le_of_ble_eq_true rfl)) d_M_isMethod_8 ⟨Nat.le_of_ble_eq_true rfl, Nat.le_of_ble_eq_true rfl⟩) hA (hD σ) hS (fun H locs hP hS => ?_)
  obtain ⟨c, h⟩ := ifs h
  cases h
  exact gret_z hx hb hr hlk (gz c) hP hS d_M_isMethod_11
/-! ===== EscapeOwnersModel.isName(I)Z ===== -/
def f_M_isName (x0 : Int32) : Option (Int32) := Option.bind (f_M_isIn x0 (0 : Int32) (7 : Int32)) (fun u4 => if u4 = 0 ∨ u4 = 1 then some u4 else none)
set_option maxHeartbeats 4000000 in
set_option maxRecDepth 100000 in
theorem c_M_isName (l : Launch) (D : va_G) (cI cZ : ClassId) (tL : Nat) (ws : va_W) (x0 : Int32) (out0 : Int32) (h : f_M_isName x0 = some out0) : gCi l y_M_isName (.code y_M_isName b_M_isName 1 (some .boolean) :: TB) { frames := 1, cells := 0, slots := 0, locals := 22 } D [(cI, .int), (cZ, .boolean)] tL [.int x0] ws out0 ws := by
  refine gCi_of (cc := b_M_isName) (maxL := 1) (ty := .boolean) (by decide) rfl (Nat.le_of_ble_eq_true rfl) ?_
  intro p e s m below meth c A ls hf hr hlk hA hK hD0 hE hP hl
  obtain ⟨hx, hb, hml, hown, hts⟩ := id hf
  have hts : ∀ w ∈ TB, w.before _ s = true := fun w h => hts w (List.mem_cons_of_mem _ h)
  have hown : s.vm.findClass R_M = some m.cls := hown
  have hl : lv_has ls 1 [(0, .int x0)] := hl
  have hS : va_S A s.heap s.heap [] := va_S.rf
  have hD := hD0
  unfold f_M_isName at h
  refine lv_iload_n hx hb d_M_isName_0 rfl (lv_at hl 0 rfl) ?_
  refine lv_iconst (v := 0) hx hb d_M_isName_1 (by decide) ?_
  refine lv_bipush (v := 7) hx hb d_M_isName_2 (by decide) ?_
  obtain ⟨u4, hu4, h⟩ := bnd h
  refine gcall_i (va_runS (As := [.int x0, .int (0 : Int32), .int (7 : Int32)]) (rest := []) ⟨hx, hb, hml, hown, hts⟩ (c_M_isIn l D cI cZ tL ws x0 (0 : Int32) (7 : Int32) u4 hu4 s.heap.size) (va_cwS 3 hts (gS w_486 w_487 w_6 w_488) rfl rfl rfl (by decide +kernel) ⟨Nat.le_of_ble_eq_true rfl, Nat.le_of_ble_eq_true rfl⟩) (gpS hA hK hD hE hP hS) rfl rfl hl.1 rfl (lv_room (Nat.le_of_ble_eq_true rfl)) d_M_isName_4 ⟨Nat.le_of_ble_eq_true rfl, Nat.le_of_ble_eq_true rfl⟩) hA hD hS (fun H locs hP hS => ?_)
  obtain ⟨c, h⟩ := ifs h
  cases h
  exact gret_z hx hb hr hlk (gz c) hP hS d_M_isName_7
/-! ===== EscapeOwnersModel.needs(I)I ===== -/
def f_M_needs (x0 : Int32) : Option (Int32) := if x0 = 0 then (some (1 : Int32)) else if x0 = 1 then (some (2 : Int32)) else if x0 = 2 then (some (3 : Int32)) else if x0 = 3 then (some (3 : Int32)) else if x0 = 4 then (some (2 : Int32)) else if x0 = 5 then (some (2 : Int32)) else if x0 = 6 then (some (5 : Int32)) else if x0 = 7 then (some (1 : Int32)) else if x0 = 8 then (some (1 : Int32)) else if x0 = 9 then (some (1 : Int32)) else if x0 = 10 then (some (1 : Int32)) else (some (2 : Int32))
set_option maxHeartbeats 4000000 in
set_option maxRecDepth 100000 in
theorem c_M_needs (l : Launch) (D : va_G) (cI cZ : ClassId) (tL : Nat) (ws : va_W) (x0 : Int32) (out0 : Int32) (h : f_M_needs x0 = some out0) : gCi l y_M_needs (.code y_M_needs b_M_needs 1 (some .int) :: TB) { frames := 0, cells := 0, slots := 0, locals := 0 } D [(cI, .int), (cZ, .boolean)] tL [.int x0] ws out0 ws := by
  refine gCi_of (cc := b_M_needs) (maxL := 1) (ty := .int) (by decide) rfl (Nat.le_of_ble_eq_true rfl) ?_
  intro p e s m below meth c A ls hf hr hlk hA hK hD0 hE hP hl
  obtain ⟨hx, hb, hml, hown, hts⟩ := id hf
  have hts : ∀ w ∈ TB, w.before _ s = true := fun w h => hts w (List.mem_cons_of_mem _ h)
  have hown : s.vm.findClass R_M = some m.cls := hown
  have hl : lv_has ls 1 [(0, .int x0)] := hl
  have hS : va_S A s.heap s.heap [] := va_S.rf
  have hD := hD0
  unfold f_M_needs at h
  refine lv_iload_n hx hb d_M_needs_0 rfl (lv_at hl 0 rfl) ?_
  by_cases c0 : x0 = 0
  · refine lv_tableIn (tgt := 60) hx hb d_M_needs_1 (by rw [c0]; decide) (by rw [c0]; decide) (by rw [c0]; rfl) (by decide) ?_
    have h := ifp c0 h
    refine lv_iconst (v := 1) hx hb d_M_needs_60 (by decide) ?_
    cases h
    exact gret_i hx hb hr hlk hP hS d_M_needs_61
  have h := ifn c0 h
  by_cases c1 : x0 = 1
  · refine lv_tableIn (tgt := 66) hx hb d_M_needs_1 (by rw [c1]; decide) (by rw [c1]; decide) (by rw [c1]; rfl) (by decide) ?_
    have h := ifp c1 h
    refine lv_iconst (v := 2) hx hb d_M_needs_66 (by decide) ?_
    cases h
    exact gret_i hx hb hr hlk hP hS d_M_needs_67
  have h := ifn c1 h
  by_cases c2 : x0 = 2
  · refine lv_tableIn (tgt := 62) hx hb d_M_needs_1 (by rw [c2]; decide) (by rw [c2]; decide) (by rw [c2]; rfl) (by decide) ?_
    have h := ifp c2 h
    refine lv_iconst (v := 3) hx hb d_M_needs_62 (by decide) ?_
    cases h
    exact gret_i hx hb hr hlk hP hS d_M_needs_63
  have h := ifn c2 h
  by_cases c3 : x0 = 3
  · refine lv_tableIn (tgt := 62) hx hb d_M_needs_1 (by rw [c3]; decide) (by rw [c3]; decide) (by rw [c3]; rfl) (by decide) ?_
    have h := ifp c3 h
    refine lv_iconst (v := 3) hx hb d_M_needs_62 (by decide) ?_
    cases h
    exact gret_i hx hb hr hlk hP hS d_M_needs_63
  have h := ifn c3 h
  by_cases c4 : x0 = 4
  · refine lv_tableIn (tgt := 66) hx hb d_M_needs_1 (by rw [c4]; decide) (by rw [c4]; decide) (by rw [c4]; rfl) (by decide) ?_
    have h := ifp c4 h
    refine lv_iconst (v := 2) hx hb d_M_needs_66 (by decide) ?_
    cases h
    exact gret_i hx hb hr hlk hP hS d_M_needs_67
  have h := ifn c4 h
  by_cases c5 : x0 = 5
  · refine lv_tableIn (tgt := 66) hx hb d_M_needs_1 (by rw [c5]; decide) (by rw [c5]; decide) (by rw [c5]; rfl) (by decide) ?_
    have h := ifp c5 h
    refine lv_iconst (v := 2) hx hb d_M_needs_66 (by decide) ?_
    cases h
    exact gret_i hx hb hr hlk hP hS d_M_needs_67
  have h := ifn c5 h
  by_cases c6 : x0 = 6
  · refine lv_tableIn (tgt := 64) hx hb d_M_needs_1 (by rw [c6]; decide) (by rw [c6]; decide) (by rw [c6]; rfl) (by decide) ?_
    have h := ifp c6 h
    refine lv_iconst (v := 5) hx hb d_M_needs_64 (by decide) ?_
    cases h
    exact gret_i hx hb hr hlk hP hS d_M_needs_65
  have h := ifn c6 h
  by_cases c7 : x0 = 7
  · refine lv_tableIn (tgt := 60) hx hb d_M_needs_1 (by rw [c7]; decide) (by rw [c7]; decide) (by rw [c7]; rfl) (by decide) ?_
    have h := ifp c7 h
    refine lv_iconst (v := 1) hx hb d_M_needs_60 (by decide) ?_
    cases h
    exact gret_i hx hb hr hlk hP hS d_M_needs_61
  have h := ifn c7 h
  by_cases c8 : x0 = 8
  · refine lv_tableIn (tgt := 60) hx hb d_M_needs_1 (by rw [c8]; decide) (by rw [c8]; decide) (by rw [c8]; rfl) (by decide) ?_
    have h := ifp c8 h
    refine lv_iconst (v := 1) hx hb d_M_needs_60 (by decide) ?_
    cases h
    exact gret_i hx hb hr hlk hP hS d_M_needs_61
  have h := ifn c8 h
  by_cases c9 : x0 = 9
  · refine lv_tableIn (tgt := 60) hx hb d_M_needs_1 (by rw [c9]; decide) (by rw [c9]; decide) (by rw [c9]; rfl) (by decide) ?_
    have h := ifp c9 h
    refine lv_iconst (v := 1) hx hb d_M_needs_60 (by decide) ?_
    cases h
    exact gret_i hx hb hr hlk hP hS d_M_needs_61
  have h := ifn c9 h
  by_cases c10 : x0 = 10
  · refine lv_tableIn (tgt := 60) hx hb d_M_needs_1 (by rw [c10]; decide) (by rw [c10]; decide) (by rw [c10]; rfl) (by decide) ?_
    have h := ifp c10 h
    refine lv_iconst (v := 1) hx hb d_M_needs_60 (by decide) ?_
    cases h
    exact gret_i hx hb hr hlk hP hS d_M_needs_61
  have h := ifn c10 h
  refine lv_tableOut (tgt := 66) hx hb d_M_needs_1 (by have e0 := lv_neT (a := 0) c0 (by decide); have e1 := lv_neT (a := 1) c1 (by decide); have e2 := lv_neT (a := 2) c2 (by decide); have e3 := lv_neT (a := 3) c3 (by decide); have e4 := lv_neT (a := 4) c4 (by decide); have e5 := lv_neT (a := 5) c5 (by decide); have e6 := lv_neT (a := 6) c6 (by decide); have e7 := lv_neT (a := 7) c7 (by decide); have e8 := lv_neT (a := 8) c8 (by decide); have e9 := lv_neT (a := 9) c9 (by decide); have e10 := lv_neT (a := 10) c10 (by decide); omega) (by decide) ?_
  refine lv_iconst (v := 2) hx hb d_M_needs_66 (by decide) ?_
  cases h
  exact gret_i hx hb hr hlk hP hS d_M_needs_67
/-! ===== EscapeOwnersModel.isNeed(III)Z ===== -/
def f_M_isNeed (x0 : Int32) (x1 : Int32) (x2 : Int32) : Option (Int32) := if x0 = (2 : Int32) then (if x1 = (2 : Int32) then (if (1 : Int32) = 0 then (Option.bind (f_M_isName x2) (fun u59 => if u59 = 0 ∨ u59 = 1 then some u59 else none)) else (Option.bind (f_M_isIn x2 (0 : Int32) (3 : Int32)) (fun u52 => if u52 = 0 ∨ u52 = 1 then some u52 else none))) else (if x0 = (3 : Int32) then (if x1 = (1 : Int32) then (if (1 : Int32) = 0 then (Option.bind (f_M_isName x2) (fun u59 => if u59 = 0 ∨ u59 = 1 then some u59 else none)) else (Option.bind (f_M_isIn x2 (0 : Int32) (3 : Int32)) (fun u52 => if u52 = 0 ∨ u52 = 1 then some u52 else none))) else (if x0 = (4 : Int32) then (if x1 = (1 : Int32) then (if (1 : Int32) = 0 then (Option.bind (f_M_isName x2) (fun u59 => if u59 = 0 ∨ u59 = 1 then some u59 else none)) else (Option.bind (f_M_isIn x2 (0 : Int32) (3 : Int32)) (fun u52 => if u52 = 0 ∨ u52 = 1 then some u52 else none))) else (if x0 = (5 : Int32) then (if x1 = 0 then (if (1 : Int32) = 0 then (Option.bind (f_M_isName x2) (fun u59 => if u59 = 0 ∨ u59 = 1 then some u59 else none)) else (Option.bind (f_M_isIn x2 (0 : Int32) (3 : Int32)) (fun u52 => if u52 = 0 ∨ u52 = 1 then some u52 else none))) else (if (0 : Int32) = 0 then (Option.bind (f_M_isName x2) (fun u59 => if u59 = 0 ∨ u59 = 1 then some u59 else none)) else (Option.bind (f_M_isIn x2 (0 : Int32) (3 : Int32)) (fun u52 => if u52 = 0 ∨ u52 = 1 then some u52 else none)))) else (if (0 : Int32) = 0 then (Option.bind (f_M_isName x2) (fun u59 => if u59 = 0 ∨ u59 = 1 then some u59 else none)) else (Option.bind (f_M_isIn x2 (0 : Int32) (3 : Int32)) (fun u52 => if u52 = 0 ∨ u52 = 1 then some u52 else none))))) else (if x0 = (5 : Int32) then (if x1 = 0 then (if (1 : Int32) = 0 then (Option.bind (f_M_isName x2) (fun u59 => if u59 = 0 ∨ u59 = 1 then some u59 else none)) else (Option.bind (f_M_isIn x2 (0 : Int32) (3 : Int32)) (fun u52 => if u52 = 0 ∨ u52 = 1 then some u52 else none))) else (if (0 : Int32) = 0 then (Option.bind (f_M_isName x2) (fun u59 => if u59 = 0 ∨ u59 = 1 then some u59 else none)) else (Option.bind (f_M_isIn x2 (0 : Int32) (3 : Int32)) (fun u52 => if u52 = 0 ∨ u52 = 1 then some u52 else none)))) else (if (0 : Int32) = 0 then (Option.bind (f_M_isName x2) (fun u59 => if u59 = 0 ∨ u59 = 1 then some u59 else none)) else (Option.bind (f_M_isIn x2 (0 : Int32) (3 : Int32)) (fun u52 => if u52 = 0 ∨ u52 = 1 then some u52 else none)))))) else (if x0 = (4 : Int32) then (if x1 = (1 : Int32) then (if (1 : Int32) = 0 then (Option.bind (f_M_isName x2) (fun u59 => if u59 = 0 ∨ u59 = 1 then some u59 else none)) else (Option.bind (f_M_isIn x2 (0 : Int32) (3 : Int32)) (fun u52 => if u52 = 0 ∨ u52 = 1 then some u52 else none))) else (if x0 = (5 : Int32) then (if x1 = 0 then (if (1 : Int32) = 0 then (Option.bind (f_M_isName x2) (fun u59 => if u59 = 0 ∨ u59 = 1 then some u59 else none)) else (Option.bind (f_M_isIn x2 (0 : Int32) (3 : Int32)) (fun u52 => if u52 = 0 ∨ u52 = 1 then some u52 else none))) else (if (0 : Int32) = 0 then (Option.bind (f_M_isName x2) (fun u59 => if u59 = 0 ∨ u59 = 1 then some u59 else none)) else (Option.bind (f_M_isIn x2 (0 : Int32) (3 : Int32)) (fun u52 => if u52 = 0 ∨ u52 = 1 then some u52 else none)))) else (if (0 : Int32) = 0 then (Option.bind (f_M_isName x2) (fun u59 => if u59 = 0 ∨ u59 = 1 then some u59 else none)) else (Option.bind (f_M_isIn x2 (0 : Int32) (3 : Int32)) (fun u52 => if u52 = 0 ∨ u52 = 1 then some u52 else none))))) else (if x0 = (5 : Int32) then (if x1 = 0 then (if (1 : Int32) = 0 then (Option.bind (f_M_isName x2) (fun u59 => if u59 = 0 ∨ u59 = 1 then some u59 else none)) else (Option.bind (f_M_isIn x2 (0 : Int32) (3 : Int32)) (fun u52 => if u52 = 0 ∨ u52 = 1 then some u52 else none))) else (if (0 : Int32) = 0 then (Option.bind (f_M_isName x2) (fun u59 => if u59 = 0 ∨ u59 = 1 then some u59 else none)) else (Option.bind (f_M_isIn x2 (0 : Int32) (3 : Int32)) (fun u52 => if u52 = 0 ∨ u52 = 1 then some u52 else none)))) else (if (0 : Int32) = 0 then (Option.bind (f_M_isName x2) (fun u59 => if u59 = 0 ∨ u59 = 1 then some u59 else none)) else (Option.bind (f_M_isIn x2 (0 : Int32) (3 : Int32)) (fun u52 => if u52 = 0 ∨ u52 = 1 then some u52 else none))))))) else (if x0 = (3 : Int32) then (if x1 = (1 : Int32) then (if (1 : Int32) = 0 then (Option.bind (f_M_isName x2) (fun u59 => if u59 = 0 ∨ u59 = 1 then some u59 else none)) else (Option.bind (f_M_isIn x2 (0 : Int32) (3 : Int32)) (fun u52 => if u52 = 0 ∨ u52 = 1 then some u52 else none))) else (if x0 = (4 : Int32) then (if x1 = (1 : Int32) then (if (1 : Int32) = 0 then (Option.bind (f_M_isName x2) (fun u59 => if u59 = 0 ∨ u59 = 1 then some u59 else none)) else (Option.bind (f_M_isIn x2 (0 : Int32) (3 : Int32)) (fun u52 => if u52 = 0 ∨ u52 = 1 then some u52 else none))) else (if x0 = (5 : Int32) then (if x1 = 0 then (if (1 : Int32) = 0 then (Option.bind (f_M_isName x2) (fun u59 => if u59 = 0 ∨ u59 = 1 then some u59 else none)) else (Option.bind (f_M_isIn x2 (0 : Int32) (3 : Int32)) (fun u52 => if u52 = 0 ∨ u52 = 1 then some u52 else none))) else (if (0 : Int32) = 0 then (Option.bind (f_M_isName x2) (fun u59 => if u59 = 0 ∨ u59 = 1 then some u59 else none)) else (Option.bind (f_M_isIn x2 (0 : Int32) (3 : Int32)) (fun u52 => if u52 = 0 ∨ u52 = 1 then some u52 else none)))) else (if (0 : Int32) = 0 then (Option.bind (f_M_isName x2) (fun u59 => if u59 = 0 ∨ u59 = 1 then some u59 else none)) else (Option.bind (f_M_isIn x2 (0 : Int32) (3 : Int32)) (fun u52 => if u52 = 0 ∨ u52 = 1 then some u52 else none))))) else (if x0 = (5 : Int32) then (if x1 = 0 then (if (1 : Int32) = 0 then (Option.bind (f_M_isName x2) (fun u59 => if u59 = 0 ∨ u59 = 1 then some u59 else none)) else (Option.bind (f_M_isIn x2 (0 : Int32) (3 : Int32)) (fun u52 => if u52 = 0 ∨ u52 = 1 then some u52 else none))) else (if (0 : Int32) = 0 then (Option.bind (f_M_isName x2) (fun u59 => if u59 = 0 ∨ u59 = 1 then some u59 else none)) else (Option.bind (f_M_isIn x2 (0 : Int32) (3 : Int32)) (fun u52 => if u52 = 0 ∨ u52 = 1 then some u52 else none)))) else (if (0 : Int32) = 0 then (Option.bind (f_M_isName x2) (fun u59 => if u59 = 0 ∨ u59 = 1 then some u59 else none)) else (Option.bind (f_M_isIn x2 (0 : Int32) (3 : Int32)) (fun u52 => if u52 = 0 ∨ u52 = 1 then some u52 else none)))))) else (if x0 = (4 : Int32) then (if x1 = (1 : Int32) then (if (1 : Int32) = 0 then (Option.bind (f_M_isName x2) (fun u59 => if u59 = 0 ∨ u59 = 1 then some u59 else none)) else (Option.bind (f_M_isIn x2 (0 : Int32) (3 : Int32)) (fun u52 => if u52 = 0 ∨ u52 = 1 then some u52 else none))) else (if x0 = (5 : Int32) then (if x1 = 0 then (if (1 : Int32) = 0 then (Option.bind (f_M_isName x2) (fun u59 => if u59 = 0 ∨ u59 = 1 then some u59 else none)) else (Option.bind (f_M_isIn x2 (0 : Int32) (3 : Int32)) (fun u52 => if u52 = 0 ∨ u52 = 1 then some u52 else none))) else (if (0 : Int32) = 0 then (Option.bind (f_M_isName x2) (fun u59 => if u59 = 0 ∨ u59 = 1 then some u59 else none)) else (Option.bind (f_M_isIn x2 (0 : Int32) (3 : Int32)) (fun u52 => if u52 = 0 ∨ u52 = 1 then some u52 else none)))) else (if (0 : Int32) = 0 then (Option.bind (f_M_isName x2) (fun u59 => if u59 = 0 ∨ u59 = 1 then some u59 else none)) else (Option.bind (f_M_isIn x2 (0 : Int32) (3 : Int32)) (fun u52 => if u52 = 0 ∨ u52 = 1 then some u52 else none))))) else (if x0 = (5 : Int32) then (if x1 = 0 then (if (1 : Int32) = 0 then (Option.bind (f_M_isName x2) (fun u59 => if u59 = 0 ∨ u59 = 1 then some u59 else none)) else (Option.bind (f_M_isIn x2 (0 : Int32) (3 : Int32)) (fun u52 => if u52 = 0 ∨ u52 = 1 then some u52 else none))) else (if (0 : Int32) = 0 then (Option.bind (f_M_isName x2) (fun u59 => if u59 = 0 ∨ u59 = 1 then some u59 else none)) else (Option.bind (f_M_isIn x2 (0 : Int32) (3 : Int32)) (fun u52 => if u52 = 0 ∨ u52 = 1 then some u52 else none)))) else (if (0 : Int32) = 0 then (Option.bind (f_M_isName x2) (fun u59 => if u59 = 0 ∨ u59 = 1 then some u59 else none)) else (Option.bind (f_M_isIn x2 (0 : Int32) (3 : Int32)) (fun u52 => if u52 = 0 ∨ u52 = 1 then some u52 else none))))))
set_option maxHeartbeats 4000000 in
set_option maxRecDepth 100000 in
theorem c_M_isNeed (l : Launch) (D : va_G) (cI cZ : ClassId) (tL : Nat) (ws : va_W) (x0 : Int32) (x1 : Int32) (x2 : Int32) (out0 : Int32) (h : f_M_isNeed x0 x1 x2 = some out0) : gCi l y_M_isNeed (.code y_M_isNeed b_M_isNeed 4 (some .boolean) :: TB) { frames := 2, cells := 0, slots := 0, locals := 42 } D [(cI, .int), (cZ, .boolean)] tL [.int x0, .int x1, .int x2] ws out0 ws := by
  refine gCi_of (cc := b_M_isNeed) (maxL := 4) (ty := .boolean) (by decide) rfl (Nat.le_of_ble_eq_true rfl) ?_
  intro p e s m below meth c A ls hf hr hlk hA hK hD0 hE hP hl
  obtain ⟨hx, hb, hml, hown, hts⟩ := id hf
  have hts : ∀ w ∈ TB, w.before _ s = true := fun w h => hts w (List.mem_cons_of_mem _ h)
  have hown : s.vm.findClass R_M = some m.cls := hown
  have hl : lv_has ls 4 [(0, .int x0), (1, .int x1), (2, .int x2)] := hl
  have hS : va_S A s.heap s.heap [] := va_S.rf
  have hD := hD0
  unfold f_M_isNeed at h
  refine lv_iload_n hx hb d_M_isNeed_0 rfl (lv_at hl 0 rfl) ?_
  refine lv_iconst (v := 2) hx hb d_M_isNeed_1 (by decide) ?_
  refine lv_icmp_ne (tgt := 10) hx hb d_M_isNeed_2 (by decide) (fun c => ?_) (fun c => ?_)
  · have h := ifn c h
    refine lv_iload_n hx hb d_M_isNeed_10 rfl (lv_at hl 0 rfl) ?_
    refine lv_iconst (v := 3) hx hb d_M_isNeed_11 (by decide) ?_
    refine lv_icmp_ne (tgt := 20) hx hb d_M_isNeed_12 (by decide) (fun c => ?_) (fun c => ?_)
    · have h := ifn c h
      refine lv_iload_n hx hb d_M_isNeed_20 rfl (lv_at hl 0 rfl) ?_
      refine lv_iconst (v := 4) hx hb d_M_isNeed_21 (by decide) ?_
      refine lv_icmp_ne (tgt := 30) hx hb d_M_isNeed_22 (by decide) (fun c => ?_) (fun c => ?_)
      · have h := ifn c h
        refine lv_iload_n hx hb d_M_isNeed_30 rfl (lv_at hl 0 rfl) ?_
        refine lv_iconst (v := 5) hx hb d_M_isNeed_31 (by decide) ?_
        refine lv_icmp_ne (tgt := 43) hx hb d_M_isNeed_32 (by decide) (fun c => ?_) (fun c => ?_)
        · have h := ifn c h
          refine lv_iconst (v := 0) hx hb d_M_isNeed_43 (by decide) ?_
          refine lv_istore_n (lv' := [(3, .int (0 : Int32)), (0, .int x0), (1, .int x1), (2, .int x2)]) hx hb d_M_isNeed_44 rfl hl (by decide) rfl (fun ls hl => ?_)
          refine lv_iload_n hx hb d_M_isNeed_45 rfl (lv_at hl 0 rfl) ?_
          refine lv_if_eq (tgt := 58) hx hb d_M_isNeed_46 (by decide) (fun c => ?_) (fun c => ?_)
          · have h := ifp c h
            refine lv_iload_n hx hb d_M_isNeed_58 rfl (lv_at hl 3 rfl) ?_
            obtain ⟨u59, hu59, h⟩ := bnd h
            refine gcall_i (va_runS (As := [.int x2]) (rest := []) ⟨hx, hb, hml, hown, hts⟩ (c_M_isName l D cI cZ tL ws x2 u59 hu59 s.heap.size) (va_cwS 1 hts (gS w_495 w_496 w_6 w_497) rfl rfl rfl (by decide +kernel) ⟨Nat.le_of_ble_eq_true rfl, Nat.le_of_ble_eq_true rfl⟩) (gpS hA hK hD hE hP hS) rfl rfl hl.1 rfl (lv_room (Nat.le_of_ble_eq_true rfl)) d_M_isNeed_59 ⟨Nat.le_of_ble_eq_true rfl, Nat.le_of_ble_eq_true rfl⟩) hA hD hS (fun H locs hP hS => ?_)
            obtain ⟨c, h⟩ := ifs h
            cases h
            exact gret_z hx hb hr hlk (gz c) hP hS d_M_isNeed_62
          have h := ifn c h
          refine lv_iload_n hx hb d_M_isNeed_49 rfl (lv_at hl 3 rfl) ?_
          refine lv_iconst (v := 0) hx hb d_M_isNeed_50 (by decide) ?_
          refine lv_iconst (v := 3) hx hb d_M_isNeed_51 (by decide) ?_
          obtain ⟨u52, hu52, h⟩ := bnd h
          refine gcall_i (va_runS (As := [.int x2, .int (0 : Int32), .int (3 : Int32)]) (rest := []) ⟨hx, hb, hml, hown, hts⟩ (c_M_isIn l D cI cZ tL ws x2 (0 : Int32) (3 : Int32) u52 hu52 s.heap.size) (va_cwS 3 hts (gS w_486 w_487 w_6 w_488) rfl rfl rfl (by decide +kernel) ⟨Nat.le_of_ble_eq_true rfl, Nat.le_of_ble_eq_true rfl⟩) (gpS hA hK hD hE hP hS) rfl rfl hl.1 rfl (lv_room (Nat.le_of_ble_eq_true rfl)) d_M_isNeed_52 ⟨Nat.le_of_ble_eq_true rfl, Nat.le_of_ble_eq_true rfl⟩) hA hD hS (fun H locs hP hS => ?_)
          refine lv_goto (tgt := 62) hx hb d_M_isNeed_55 (by decide) ?_
          obtain ⟨c, h⟩ := ifs h
          cases h
          exact gret_z hx hb hr hlk (gz c) hP hS d_M_isNeed_62
        have h := ifp c h
        refine lv_iload_n hx hb d_M_isNeed_35 rfl (lv_at hl 1 rfl) ?_
        refine lv_if_ne (tgt := 43) hx hb d_M_isNeed_36 (by decide) (fun c => ?_) (fun c => ?_)
        · have h := ifn c h
          refine lv_iconst (v := 0) hx hb d_M_isNeed_43 (by decide) ?_
          refine lv_istore_n (lv' := [(3, .int (0 : Int32)), (0, .int x0), (1, .int x1), (2, .int x2)]) hx hb d_M_isNeed_44 rfl hl (by decide) rfl (fun ls hl => ?_)
          refine lv_iload_n hx hb d_M_isNeed_45 rfl (lv_at hl 0 rfl) ?_
          refine lv_if_eq (tgt := 58) hx hb d_M_isNeed_46 (by decide) (fun c => ?_) (fun c => ?_)
          · have h := ifp c h
            refine lv_iload_n hx hb d_M_isNeed_58 rfl (lv_at hl 3 rfl) ?_
            obtain ⟨u59, hu59, h⟩ := bnd h
            refine gcall_i (va_runS (As := [.int x2]) (rest := []) ⟨hx, hb, hml, hown, hts⟩ (c_M_isName l D cI cZ tL ws x2 u59 hu59 s.heap.size) (va_cwS 1 hts (gS w_495 w_496 w_6 w_497) rfl rfl rfl (by decide +kernel) ⟨Nat.le_of_ble_eq_true rfl, Nat.le_of_ble_eq_true rfl⟩) (gpS hA hK hD hE hP hS) rfl rfl hl.1 rfl (lv_room (Nat.le_of_ble_eq_true rfl)) d_M_isNeed_59 ⟨Nat.le_of_ble_eq_true rfl, Nat.le_of_ble_eq_true rfl⟩) hA hD hS (fun H locs hP hS => ?_)
            obtain ⟨c, h⟩ := ifs h
            cases h
            exact gret_z hx hb hr hlk (gz c) hP hS d_M_isNeed_62
          have h := ifn c h
          refine lv_iload_n hx hb d_M_isNeed_49 rfl (lv_at hl 3 rfl) ?_
          refine lv_iconst (v := 0) hx hb d_M_isNeed_50 (by decide) ?_
          refine lv_iconst (v := 3) hx hb d_M_isNeed_51 (by decide) ?_
          obtain ⟨u52, hu52, h⟩ := bnd h
          refine gcall_i (va_runS (As := [.int x2, .int (0 : Int32), .int (3 : Int32)]) (rest := []) ⟨hx, hb, hml, hown, hts⟩ (c_M_isIn l D cI cZ tL ws x2 (0 : Int32) (3 : Int32) u52 hu52 s.heap.size) (va_cwS 3 hts (gS w_486 w_487 w_6 w_488) rfl rfl rfl (by decide +kernel) ⟨Nat.le_of_ble_eq_true rfl, Nat.le_of_ble_eq_true rfl⟩) (gpS hA hK hD hE hP hS) rfl rfl hl.1 rfl (lv_room (Nat.le_of_ble_eq_true rfl)) d_M_isNeed_52 ⟨Nat.le_of_ble_eq_true rfl, Nat.le_of_ble_eq_true rfl⟩) hA hD hS (fun H locs hP hS => ?_)
          refine lv_goto (tgt := 62) hx hb d_M_isNeed_55 (by decide) ?_
          obtain ⟨c, h⟩ := ifs h
          cases h
          exact gret_z hx hb hr hlk (gz c) hP hS d_M_isNeed_62
        have h := ifp c h
        refine lv_iconst (v := 1) hx hb d_M_isNeed_39 (by decide) ?_
        refine lv_goto (tgt := 44) hx hb d_M_isNeed_40 (by decide) ?_
        refine lv_istore_n (lv' := [(3, .int (1 : Int32)), (0, .int x0), (1, .int x1), (2, .int x2)]) hx hb d_M_isNeed_44 rfl hl (by decide) rfl (fun ls hl => ?_)
        refine lv_iload_n hx hb d_M_isNeed_45 rfl (lv_at hl 0 rfl) ?_
        refine lv_if_eq (tgt := 58) hx hb d_M_isNeed_46 (by decide) (fun c => ?_) (fun c => ?_)
        · have h := ifp c h
          refine lv_iload_n hx hb d_M_isNeed_58 rfl (lv_at hl 3 rfl) ?_
          obtain ⟨u59, hu59, h⟩ := bnd h
          refine gcall_i (va_runS (As := [.int x2]) (rest := []) ⟨hx, hb, hml, hown, hts⟩ (c_M_isName l D cI cZ tL ws x2 u59 hu59 s.heap.size) (va_cwS 1 hts (gS w_495 w_496 w_6 w_497) rfl rfl rfl (by decide +kernel) ⟨Nat.le_of_ble_eq_true rfl, Nat.le_of_ble_eq_true rfl⟩) (gpS hA hK hD hE hP hS) rfl rfl hl.1 rfl (lv_room (Nat.le_of_ble_eq_true rfl)) d_M_isNeed_59 ⟨Nat.le_of_ble_eq_true rfl, Nat.le_of_ble_eq_true rfl⟩) hA hD hS (fun H locs hP hS => ?_)
          obtain ⟨c, h⟩ := ifs h
          cases h
          exact gret_z hx hb hr hlk (gz c) hP hS d_M_isNeed_62
        have h := ifn c h
        refine lv_iload_n hx hb d_M_isNeed_49 rfl (lv_at hl 3 rfl) ?_
        refine lv_iconst (v := 0) hx hb d_M_isNeed_50 (by decide) ?_
        refine lv_iconst (v := 3) hx hb d_M_isNeed_51 (by decide) ?_
        obtain ⟨u52, hu52, h⟩ := bnd h
        refine gcall_i (va_runS (As := [.int x2, .int (0 : Int32), .int (3 : Int32)]) (rest := []) ⟨hx, hb, hml, hown, hts⟩ (c_M_isIn l D cI cZ tL ws x2 (0 : Int32) (3 : Int32) u52 hu52 s.heap.size) (va_cwS 3 hts (gS w_486 w_487 w_6 w_488) rfl rfl rfl (by decide +kernel) ⟨Nat.le_of_ble_eq_true rfl, Nat.le_of_ble_eq_true rfl⟩) (gpS hA hK hD hE hP hS) rfl rfl hl.1 rfl (lv_room (Nat.le_of_ble_eq_true rfl)) d_M_isNeed_52 ⟨Nat.le_of_ble_eq_true rfl, Nat.le_of_ble_eq_true rfl⟩) hA hD hS (fun H locs hP hS => ?_)
        refine lv_goto (tgt := 62) hx hb d_M_isNeed_55 (by decide) ?_
        obtain ⟨c, h⟩ := ifs h
        cases h
        exact gret_z hx hb hr hlk (gz c) hP hS d_M_isNeed_62
      have h := ifp c h
      refine lv_iload_n hx hb d_M_isNeed_25 rfl (lv_at hl 1 rfl) ?_
      refine lv_iconst (v := 1) hx hb d_M_isNeed_26 (by decide) ?_
      refine lv_icmp_eq (tgt := 39) hx hb d_M_isNeed_27 (by decide) (fun c => ?_) (fun c => ?_)
      · have h := ifp c h
        refine lv_iconst (v := 1) hx hb d_M_isNeed_39 (by decide) ?_
        refine lv_goto (tgt := 44) hx hb d_M_isNeed_40 (by decide) ?_
        refine lv_istore_n (lv' := [(3, .int (1 : Int32)), (0, .int x0), (1, .int x1), (2, .int x2)]) hx hb d_M_isNeed_44 rfl hl (by decide) rfl (fun ls hl => ?_)
        refine lv_iload_n hx hb d_M_isNeed_45 rfl (lv_at hl 0 rfl) ?_
        refine lv_if_eq (tgt := 58) hx hb d_M_isNeed_46 (by decide) (fun c => ?_) (fun c => ?_)
        · have h := ifp c h
          refine lv_iload_n hx hb d_M_isNeed_58 rfl (lv_at hl 3 rfl) ?_
          obtain ⟨u59, hu59, h⟩ := bnd h
          refine gcall_i (va_runS (As := [.int x2]) (rest := []) ⟨hx, hb, hml, hown, hts⟩ (c_M_isName l D cI cZ tL ws x2 u59 hu59 s.heap.size) (va_cwS 1 hts (gS w_495 w_496 w_6 w_497) rfl rfl rfl (by decide +kernel) ⟨Nat.le_of_ble_eq_true rfl, Nat.le_of_ble_eq_true rfl⟩) (gpS hA hK hD hE hP hS) rfl rfl hl.1 rfl (lv_room (Nat.le_of_ble_eq_true rfl)) d_M_isNeed_59 ⟨Nat.le_of_ble_eq_true rfl, Nat.le_of_ble_eq_true rfl⟩) hA hD hS (fun H locs hP hS => ?_)
          obtain ⟨c, h⟩ := ifs h
          cases h
          exact gret_z hx hb hr hlk (gz c) hP hS d_M_isNeed_62
        have h := ifn c h
        refine lv_iload_n hx hb d_M_isNeed_49 rfl (lv_at hl 3 rfl) ?_
        refine lv_iconst (v := 0) hx hb d_M_isNeed_50 (by decide) ?_
        refine lv_iconst (v := 3) hx hb d_M_isNeed_51 (by decide) ?_
        obtain ⟨u52, hu52, h⟩ := bnd h
        refine gcall_i (va_runS (As := [.int x2, .int (0 : Int32), .int (3 : Int32)]) (rest := []) ⟨hx, hb, hml, hown, hts⟩ (c_M_isIn l D cI cZ tL ws x2 (0 : Int32) (3 : Int32) u52 hu52 s.heap.size) (va_cwS 3 hts (gS w_486 w_487 w_6 w_488) rfl rfl rfl (by decide +kernel) ⟨Nat.le_of_ble_eq_true rfl, Nat.le_of_ble_eq_true rfl⟩) (gpS hA hK hD hE hP hS) rfl rfl hl.1 rfl (lv_room (Nat.le_of_ble_eq_true rfl)) d_M_isNeed_52 ⟨Nat.le_of_ble_eq_true rfl, Nat.le_of_ble_eq_true rfl⟩) hA hD hS (fun H locs hP hS => ?_)
        refine lv_goto (tgt := 62) hx hb d_M_isNeed_55 (by decide) ?_
        obtain ⟨c, h⟩ := ifs h
        cases h
        exact gret_z hx hb hr hlk (gz c) hP hS d_M_isNeed_62
      have h := ifn c h
      refine lv_iload_n hx hb d_M_isNeed_30 rfl (lv_at hl 0 rfl) ?_
      refine lv_iconst (v := 5) hx hb d_M_isNeed_31 (by decide) ?_
      refine lv_icmp_ne (tgt := 43) hx hb d_M_isNeed_32 (by decide) (fun c => ?_) (fun c => ?_)
      · have h := ifn c h
        refine lv_iconst (v := 0) hx hb d_M_isNeed_43 (by decide) ?_
        refine lv_istore_n (lv' := [(3, .int (0 : Int32)), (0, .int x0), (1, .int x1), (2, .int x2)]) hx hb d_M_isNeed_44 rfl hl (by decide) rfl (fun ls hl => ?_)
        refine lv_iload_n hx hb d_M_isNeed_45 rfl (lv_at hl 0 rfl) ?_
        refine lv_if_eq (tgt := 58) hx hb d_M_isNeed_46 (by decide) (fun c => ?_) (fun c => ?_)
        · have h := ifp c h
          refine lv_iload_n hx hb d_M_isNeed_58 rfl (lv_at hl 3 rfl) ?_
          obtain ⟨u59, hu59, h⟩ := bnd h
          refine gcall_i (va_runS (As := [.int x2]) (rest := []) ⟨hx, hb, hml, hown, hts⟩ (c_M_isName l D cI cZ tL ws x2 u59 hu59 s.heap.size) (va_cwS 1 hts (gS w_495 w_496 w_6 w_497) rfl rfl rfl (by decide +kernel) ⟨Nat.le_of_ble_eq_true rfl, Nat.le_of_ble_eq_true rfl⟩) (gpS hA hK hD hE hP hS) rfl rfl hl.1 rfl (lv_room (Nat.le_of_ble_eq_true rfl)) d_M_isNeed_59 ⟨Nat.le_of_ble_eq_true rfl, Nat.le_of_ble_eq_true rfl⟩) hA hD hS (fun H locs hP hS => ?_)
          obtain ⟨c, h⟩ := ifs h
          cases h
          exact gret_z hx hb hr hlk (gz c) hP hS d_M_isNeed_62
        have h := ifn c h
        refine lv_iload_n hx hb d_M_isNeed_49 rfl (lv_at hl 3 rfl) ?_
        refine lv_iconst (v := 0) hx hb d_M_isNeed_50 (by decide) ?_
        refine lv_iconst (v := 3) hx hb d_M_isNeed_51 (by decide) ?_
        obtain ⟨u52, hu52, h⟩ := bnd h
        refine gcall_i (va_runS (As := [.int x2, .int (0 : Int32), .int (3 : Int32)]) (rest := []) ⟨hx, hb, hml, hown, hts⟩ (c_M_isIn l D cI cZ tL ws x2 (0 : Int32) (3 : Int32) u52 hu52 s.heap.size) (va_cwS 3 hts (gS w_486 w_487 w_6 w_488) rfl rfl rfl (by decide +kernel) ⟨Nat.le_of_ble_eq_true rfl, Nat.le_of_ble_eq_true rfl⟩) (gpS hA hK hD hE hP hS) rfl rfl hl.1 rfl (lv_room (Nat.le_of_ble_eq_true rfl)) d_M_isNeed_52 ⟨Nat.le_of_ble_eq_true rfl, Nat.le_of_ble_eq_true rfl⟩) hA hD hS (fun H locs hP hS => ?_)
        refine lv_goto (tgt := 62) hx hb d_M_isNeed_55 (by decide) ?_
        obtain ⟨c, h⟩ := ifs h
        cases h
        exact gret_z hx hb hr hlk (gz c) hP hS d_M_isNeed_62
      have h := ifp c h
      refine lv_iload_n hx hb d_M_isNeed_35 rfl (lv_at hl 1 rfl) ?_
      refine lv_if_ne (tgt := 43) hx hb d_M_isNeed_36 (by decide) (fun c => ?_) (fun c => ?_)
      · have h := ifn c h
        refine lv_iconst (v := 0) hx hb d_M_isNeed_43 (by decide) ?_
        refine lv_istore_n (lv' := [(3, .int (0 : Int32)), (0, .int x0), (1, .int x1), (2, .int x2)]) hx hb d_M_isNeed_44 rfl hl (by decide) rfl (fun ls hl => ?_)
        refine lv_iload_n hx hb d_M_isNeed_45 rfl (lv_at hl 0 rfl) ?_
        refine lv_if_eq (tgt := 58) hx hb d_M_isNeed_46 (by decide) (fun c => ?_) (fun c => ?_)
        · have h := ifp c h
          refine lv_iload_n hx hb d_M_isNeed_58 rfl (lv_at hl 3 rfl) ?_
          obtain ⟨u59, hu59, h⟩ := bnd h
          refine gcall_i (va_runS (As := [.int x2]) (rest := []) ⟨hx, hb, hml, hown, hts⟩ (c_M_isName l D cI cZ tL ws x2 u59 hu59 s.heap.size) (va_cwS 1 hts (gS w_495 w_496 w_6 w_497) rfl rfl rfl (by decide +kernel) ⟨Nat.le_of_ble_eq_true rfl, Nat.le_of_ble_eq_true rfl⟩) (gpS hA hK hD hE hP hS) rfl rfl hl.1 rfl (lv_room (Nat.le_of_ble_eq_true rfl)) d_M_isNeed_59 ⟨Nat.le_of_ble_eq_true rfl, Nat.le_of_ble_eq_true rfl⟩) hA hD hS (fun H locs hP hS => ?_)
          obtain ⟨c, h⟩ := ifs h
          cases h
          exact gret_z hx hb hr hlk (gz c) hP hS d_M_isNeed_62
        have h := ifn c h
        refine lv_iload_n hx hb d_M_isNeed_49 rfl (lv_at hl 3 rfl) ?_
        refine lv_iconst (v := 0) hx hb d_M_isNeed_50 (by decide) ?_
        refine lv_iconst (v := 3) hx hb d_M_isNeed_51 (by decide) ?_
        obtain ⟨u52, hu52, h⟩ := bnd h
        refine gcall_i (va_runS (As := [.int x2, .int (0 : Int32), .int (3 : Int32)]) (rest := []) ⟨hx, hb, hml, hown, hts⟩ (c_M_isIn l D cI cZ tL ws x2 (0 : Int32) (3 : Int32) u52 hu52 s.heap.size) (va_cwS 3 hts (gS w_486 w_487 w_6 w_488) rfl rfl rfl (by decide +kernel) ⟨Nat.le_of_ble_eq_true rfl, Nat.le_of_ble_eq_true rfl⟩) (gpS hA hK hD hE hP hS) rfl rfl hl.1 rfl (lv_room (Nat.le_of_ble_eq_true rfl)) d_M_isNeed_52 ⟨Nat.le_of_ble_eq_true rfl, Nat.le_of_ble_eq_true rfl⟩) hA hD hS (fun H locs hP hS => ?_)
        refine lv_goto (tgt := 62) hx hb d_M_isNeed_55 (by decide) ?_
        obtain ⟨c, h⟩ := ifs h
        cases h
        exact gret_z hx hb hr hlk (gz c) hP hS d_M_isNeed_62
      have h := ifp c h
      refine lv_iconst (v := 1) hx hb d_M_isNeed_39 (by decide) ?_
      refine lv_goto (tgt := 44) hx hb d_M_isNeed_40 (by decide) ?_
      refine lv_istore_n (lv' := [(3, .int (1 : Int32)), (0, .int x0), (1, .int x1), (2, .int x2)]) hx hb d_M_isNeed_44 rfl hl (by decide) rfl (fun ls hl => ?_)
      refine lv_iload_n hx hb d_M_isNeed_45 rfl (lv_at hl 0 rfl) ?_
      refine lv_if_eq (tgt := 58) hx hb d_M_isNeed_46 (by decide) (fun c => ?_) (fun c => ?_)
      · have h := ifp c h
        refine lv_iload_n hx hb d_M_isNeed_58 rfl (lv_at hl 3 rfl) ?_
        obtain ⟨u59, hu59, h⟩ := bnd h
        refine gcall_i (va_runS (As := [.int x2]) (rest := []) ⟨hx, hb, hml, hown, hts⟩ (c_M_isName l D cI cZ tL ws x2 u59 hu59 s.heap.size) (va_cwS 1 hts (gS w_495 w_496 w_6 w_497) rfl rfl rfl (by decide +kernel) ⟨Nat.le_of_ble_eq_true rfl, Nat.le_of_ble_eq_true rfl⟩) (gpS hA hK hD hE hP hS) rfl rfl hl.1 rfl (lv_room (Nat.le_of_ble_eq_true rfl)) d_M_isNeed_59 ⟨Nat.le_of_ble_eq_true rfl, Nat.le_of_ble_eq_true rfl⟩) hA hD hS (fun H locs hP hS => ?_)
        obtain ⟨c, h⟩ := ifs h
        cases h
        exact gret_z hx hb hr hlk (gz c) hP hS d_M_isNeed_62
      have h := ifn c h
      refine lv_iload_n hx hb d_M_isNeed_49 rfl (lv_at hl 3 rfl) ?_
      refine lv_iconst (v := 0) hx hb d_M_isNeed_50 (by decide) ?_
      refine lv_iconst (v := 3) hx hb d_M_isNeed_51 (by decide) ?_
      obtain ⟨u52, hu52, h⟩ := bnd h
      refine gcall_i (va_runS (As := [.int x2, .int (0 : Int32), .int (3 : Int32)]) (rest := []) ⟨hx, hb, hml, hown, hts⟩ (c_M_isIn l D cI cZ tL ws x2 (0 : Int32) (3 : Int32) u52 hu52 s.heap.size) (va_cwS 3 hts (gS w_486 w_487 w_6 w_488) rfl rfl rfl (by decide +kernel) ⟨Nat.le_of_ble_eq_true rfl, Nat.le_of_ble_eq_true rfl⟩) (gpS hA hK hD hE hP hS) rfl rfl hl.1 rfl (lv_room (Nat.le_of_ble_eq_true rfl)) d_M_isNeed_52 ⟨Nat.le_of_ble_eq_true rfl, Nat.le_of_ble_eq_true rfl⟩) hA hD hS (fun H locs hP hS => ?_)
      refine lv_goto (tgt := 62) hx hb d_M_isNeed_55 (by decide) ?_
      obtain ⟨c, h⟩ := ifs h
      cases h
      exact gret_z hx hb hr hlk (gz c) hP hS d_M_isNeed_62
    have h := ifp c h
    refine lv_iload_n hx hb d_M_isNeed_15 rfl (lv_at hl 1 rfl) ?_
    refine lv_iconst (v := 1) hx hb d_M_isNeed_16 (by decide) ?_
    refine lv_icmp_eq (tgt := 39) hx hb d_M_isNeed_17 (by decide) (fun c => ?_) (fun c => ?_)
    · have h := ifp c h
      refine lv_iconst (v := 1) hx hb d_M_isNeed_39 (by decide) ?_
      refine lv_goto (tgt := 44) hx hb d_M_isNeed_40 (by decide) ?_
      refine lv_istore_n (lv' := [(3, .int (1 : Int32)), (0, .int x0), (1, .int x1), (2, .int x2)]) hx hb d_M_isNeed_44 rfl hl (by decide) rfl (fun ls hl => ?_)
      refine lv_iload_n hx hb d_M_isNeed_45 rfl (lv_at hl 0 rfl) ?_
      refine lv_if_eq (tgt := 58) hx hb d_M_isNeed_46 (by decide) (fun c => ?_) (fun c => ?_)
      · have h := ifp c h
        refine lv_iload_n hx hb d_M_isNeed_58 rfl (lv_at hl 3 rfl) ?_
        obtain ⟨u59, hu59, h⟩ := bnd h
        refine gcall_i (va_runS (As := [.int x2]) (rest := []) ⟨hx, hb, hml, hown, hts⟩ (c_M_isName l D cI cZ tL ws x2 u59 hu59 s.heap.size) (va_cwS 1 hts (gS w_495 w_496 w_6 w_497) rfl rfl rfl (by decide +kernel) ⟨Nat.le_of_ble_eq_true rfl, Nat.le_of_ble_eq_true rfl⟩) (gpS hA hK hD hE hP hS) rfl rfl hl.1 rfl (lv_room (Nat.le_of_ble_eq_true rfl)) d_M_isNeed_59 ⟨Nat.le_of_ble_eq_true rfl, Nat.le_of_ble_eq_true rfl⟩) hA hD hS (fun H locs hP hS => ?_)
        obtain ⟨c, h⟩ := ifs h
        cases h
        exact gret_z hx hb hr hlk (gz c) hP hS d_M_isNeed_62
      have h := ifn c h
      refine lv_iload_n hx hb d_M_isNeed_49 rfl (lv_at hl 3 rfl) ?_
      refine lv_iconst (v := 0) hx hb d_M_isNeed_50 (by decide) ?_
      refine lv_iconst (v := 3) hx hb d_M_isNeed_51 (by decide) ?_
      obtain ⟨u52, hu52, h⟩ := bnd h
      refine gcall_i (va_runS (As := [.int x2, .int (0 : Int32), .int (3 : Int32)]) (rest := []) ⟨hx, hb, hml, hown, hts⟩ (c_M_isIn l D cI cZ tL ws x2 (0 : Int32) (3 : Int32) u52 hu52 s.heap.size) (va_cwS 3 hts (gS w_486 w_487 w_6 w_488) rfl rfl rfl (by decide +kernel) ⟨Nat.le_of_ble_eq_true rfl, Nat.le_of_ble_eq_true rfl⟩) (gpS hA hK hD hE hP hS) rfl rfl hl.1 rfl (lv_room (Nat.le_of_ble_eq_true rfl)) d_M_isNeed_52 ⟨Nat.le_of_ble_eq_true rfl, Nat.le_of_ble_eq_true rfl⟩) hA hD hS (fun H locs hP hS => ?_)
      refine lv_goto (tgt := 62) hx hb d_M_isNeed_55 (by decide) ?_
      obtain ⟨c, h⟩ := ifs h
      cases h
      exact gret_z hx hb hr hlk (gz c) hP hS d_M_isNeed_62
    have h := ifn c h
    refine lv_iload_n hx hb d_M_isNeed_20 rfl (lv_at hl 0 rfl) ?_
    refine lv_iconst (v := 4) hx hb d_M_isNeed_21 (by decide) ?_
    refine lv_icmp_ne (tgt := 30) hx hb d_M_isNeed_22 (by decide) (fun c => ?_) (fun c => ?_)
    · have h := ifn c h
      refine lv_iload_n hx hb d_M_isNeed_30 rfl (lv_at hl 0 rfl) ?_
      refine lv_iconst (v := 5) hx hb d_M_isNeed_31 (by decide) ?_
      refine lv_icmp_ne (tgt := 43) hx hb d_M_isNeed_32 (by decide) (fun c => ?_) (fun c => ?_)
      · have h := ifn c h
        refine lv_iconst (v := 0) hx hb d_M_isNeed_43 (by decide) ?_
        refine lv_istore_n (lv' := [(3, .int (0 : Int32)), (0, .int x0), (1, .int x1), (2, .int x2)]) hx hb d_M_isNeed_44 rfl hl (by decide) rfl (fun ls hl => ?_)
        refine lv_iload_n hx hb d_M_isNeed_45 rfl (lv_at hl 0 rfl) ?_
        refine lv_if_eq (tgt := 58) hx hb d_M_isNeed_46 (by decide) (fun c => ?_) (fun c => ?_)
        · have h := ifp c h
          refine lv_iload_n hx hb d_M_isNeed_58 rfl (lv_at hl 3 rfl) ?_
          obtain ⟨u59, hu59, h⟩ := bnd h
          refine gcall_i (va_runS (As := [.int x2]) (rest := []) ⟨hx, hb, hml, hown, hts⟩ (c_M_isName l D cI cZ tL ws x2 u59 hu59 s.heap.size) (va_cwS 1 hts (gS w_495 w_496 w_6 w_497) rfl rfl rfl (by decide +kernel) ⟨Nat.le_of_ble_eq_true rfl, Nat.le_of_ble_eq_true rfl⟩) (gpS hA hK hD hE hP hS) rfl rfl hl.1 rfl (lv_room (Nat.le_of_ble_eq_true rfl)) d_M_isNeed_59 ⟨Nat.le_of_ble_eq_true rfl, Nat.le_of_ble_eq_true rfl⟩) hA hD hS (fun H locs hP hS => ?_)
          obtain ⟨c, h⟩ := ifs h
          cases h
          exact gret_z hx hb hr hlk (gz c) hP hS d_M_isNeed_62
        have h := ifn c h
        refine lv_iload_n hx hb d_M_isNeed_49 rfl (lv_at hl 3 rfl) ?_
        refine lv_iconst (v := 0) hx hb d_M_isNeed_50 (by decide) ?_
        refine lv_iconst (v := 3) hx hb d_M_isNeed_51 (by decide) ?_
        obtain ⟨u52, hu52, h⟩ := bnd h
        refine gcall_i (va_runS (As := [.int x2, .int (0 : Int32), .int (3 : Int32)]) (rest := []) ⟨hx, hb, hml, hown, hts⟩ (c_M_isIn l D cI cZ tL ws x2 (0 : Int32) (3 : Int32) u52 hu52 s.heap.size) (va_cwS 3 hts (gS w_486 w_487 w_6 w_488) rfl rfl rfl (by decide +kernel) ⟨Nat.le_of_ble_eq_true rfl, Nat.le_of_ble_eq_true rfl⟩) (gpS hA hK hD hE hP hS) rfl rfl hl.1 rfl (lv_room (Nat.le_of_ble_eq_true rfl)) d_M_isNeed_52 ⟨Nat.le_of_ble_eq_true rfl, Nat.le_of_ble_eq_true rfl⟩) hA hD hS (fun H locs hP hS => ?_)
        refine lv_goto (tgt := 62) hx hb d_M_isNeed_55 (by decide) ?_
        obtain ⟨c, h⟩ := ifs h
        cases h
        exact gret_z hx hb hr hlk (gz c) hP hS d_M_isNeed_62
      have h := ifp c h
      refine lv_iload_n hx hb d_M_isNeed_35 rfl (lv_at hl 1 rfl) ?_
      refine lv_if_ne (tgt := 43) hx hb d_M_isNeed_36 (by decide) (fun c => ?_) (fun c => ?_)
      · have h := ifn c h
        refine lv_iconst (v := 0) hx hb d_M_isNeed_43 (by decide) ?_
        refine lv_istore_n (lv' := [(3, .int (0 : Int32)), (0, .int x0), (1, .int x1), (2, .int x2)]) hx hb d_M_isNeed_44 rfl hl (by decide) rfl (fun ls hl => ?_)
        refine lv_iload_n hx hb d_M_isNeed_45 rfl (lv_at hl 0 rfl) ?_
        refine lv_if_eq (tgt := 58) hx hb d_M_isNeed_46 (by decide) (fun c => ?_) (fun c => ?_)
        · have h := ifp c h
          refine lv_iload_n hx hb d_M_isNeed_58 rfl (lv_at hl 3 rfl) ?_
          obtain ⟨u59, hu59, h⟩ := bnd h
          refine gcall_i (va_runS (As := [.int x2]) (rest := []) ⟨hx, hb, hml, hown, hts⟩ (c_M_isName l D cI cZ tL ws x2 u59 hu59 s.heap.size) (va_cwS 1 hts (gS w_495 w_496 w_6 w_497) rfl rfl rfl (by decide +kernel) ⟨Nat.le_of_ble_eq_true rfl, Nat.le_of_ble_eq_true rfl⟩) (gpS hA hK hD hE hP hS) rfl rfl hl.1 rfl (lv_room (Nat.le_of_ble_eq_true rfl)) d_M_isNeed_59 ⟨Nat.le_of_ble_eq_true rfl, Nat.le_of_ble_eq_true rfl⟩) hA hD hS (fun H locs hP hS => ?_)
          obtain ⟨c, h⟩ := ifs h
          cases h
          exact gret_z hx hb hr hlk (gz c) hP hS d_M_isNeed_62
        have h := ifn c h
        refine lv_iload_n hx hb d_M_isNeed_49 rfl (lv_at hl 3 rfl) ?_
        refine lv_iconst (v := 0) hx hb d_M_isNeed_50 (by decide) ?_
        refine lv_iconst (v := 3) hx hb d_M_isNeed_51 (by decide) ?_
        obtain ⟨u52, hu52, h⟩ := bnd h
        refine gcall_i (va_runS (As := [.int x2, .int (0 : Int32), .int (3 : Int32)]) (rest := []) ⟨hx, hb, hml, hown, hts⟩ (c_M_isIn l D cI cZ tL ws x2 (0 : Int32) (3 : Int32) u52 hu52 s.heap.size) (va_cwS 3 hts (gS w_486 w_487 w_6 w_488) rfl rfl rfl (by decide +kernel) ⟨Nat.le_of_ble_eq_true rfl, Nat.le_of_ble_eq_true rfl⟩) (gpS hA hK hD hE hP hS) rfl rfl hl.1 rfl (lv_room (Nat.le_of_ble_eq_true rfl)) d_M_isNeed_52 ⟨Nat.le_of_ble_eq_true rfl, Nat.le_of_ble_eq_true rfl⟩) hA hD hS (fun H locs hP hS => ?_)
        refine lv_goto (tgt := 62) hx hb d_M_isNeed_55 (by decide) ?_
        obtain ⟨c, h⟩ := ifs h
        cases h
        exact gret_z hx hb hr hlk (gz c) hP hS d_M_isNeed_62
      have h := ifp c h
      refine lv_iconst (v := 1) hx hb d_M_isNeed_39 (by decide) ?_
      refine lv_goto (tgt := 44) hx hb d_M_isNeed_40 (by decide) ?_
      refine lv_istore_n (lv' := [(3, .int (1 : Int32)), (0, .int x0), (1, .int x1), (2, .int x2)]) hx hb d_M_isNeed_44 rfl hl (by decide) rfl (fun ls hl => ?_)
      refine lv_iload_n hx hb d_M_isNeed_45 rfl (lv_at hl 0 rfl) ?_
      refine lv_if_eq (tgt := 58) hx hb d_M_isNeed_46 (by decide) (fun c => ?_) (fun c => ?_)
      · have h := ifp c h
        refine lv_iload_n hx hb d_M_isNeed_58 rfl (lv_at hl 3 rfl) ?_
        obtain ⟨u59, hu59, h⟩ := bnd h
        refine gcall_i (va_runS (As := [.int x2]) (rest := []) ⟨hx, hb, hml, hown, hts⟩ (c_M_isName l D cI cZ tL ws x2 u59 hu59 s.heap.size) (va_cwS 1 hts (gS w_495 w_496 w_6 w_497) rfl rfl rfl (by decide +kernel) ⟨Nat.le_of_ble_eq_true rfl, Nat.le_of_ble_eq_true rfl⟩) (gpS hA hK hD hE hP hS) rfl rfl hl.1 rfl (lv_room (Nat.le_of_ble_eq_true rfl)) d_M_isNeed_59 ⟨Nat.le_of_ble_eq_true rfl, Nat.le_of_ble_eq_true rfl⟩) hA hD hS (fun H locs hP hS => ?_)
        obtain ⟨c, h⟩ := ifs h
        cases h
        exact gret_z hx hb hr hlk (gz c) hP hS d_M_isNeed_62
      have h := ifn c h
      refine lv_iload_n hx hb d_M_isNeed_49 rfl (lv_at hl 3 rfl) ?_
      refine lv_iconst (v := 0) hx hb d_M_isNeed_50 (by decide) ?_
      refine lv_iconst (v := 3) hx hb d_M_isNeed_51 (by decide) ?_
      obtain ⟨u52, hu52, h⟩ := bnd h
      refine gcall_i (va_runS (As := [.int x2, .int (0 : Int32), .int (3 : Int32)]) (rest := []) ⟨hx, hb, hml, hown, hts⟩ (c_M_isIn l D cI cZ tL ws x2 (0 : Int32) (3 : Int32) u52 hu52 s.heap.size) (va_cwS 3 hts (gS w_486 w_487 w_6 w_488) rfl rfl rfl (by decide +kernel) ⟨Nat.le_of_ble_eq_true rfl, Nat.le_of_ble_eq_true rfl⟩) (gpS hA hK hD hE hP hS) rfl rfl hl.1 rfl (lv_room (Nat.le_of_ble_eq_true rfl)) d_M_isNeed_52 ⟨Nat.le_of_ble_eq_true rfl, Nat.le_of_ble_eq_true rfl⟩) hA hD hS (fun H locs hP hS => ?_)
      refine lv_goto (tgt := 62) hx hb d_M_isNeed_55 (by decide) ?_
      obtain ⟨c, h⟩ := ifs h
      cases h
      exact gret_z hx hb hr hlk (gz c) hP hS d_M_isNeed_62
    have h := ifp c h
    refine lv_iload_n hx hb d_M_isNeed_25 rfl (lv_at hl 1 rfl) ?_
    refine lv_iconst (v := 1) hx hb d_M_isNeed_26 (by decide) ?_
    refine lv_icmp_eq (tgt := 39) hx hb d_M_isNeed_27 (by decide) (fun c => ?_) (fun c => ?_)
    · have h := ifp c h
      refine lv_iconst (v := 1) hx hb d_M_isNeed_39 (by decide) ?_
      refine lv_goto (tgt := 44) hx hb d_M_isNeed_40 (by decide) ?_
      refine lv_istore_n (lv' := [(3, .int (1 : Int32)), (0, .int x0), (1, .int x1), (2, .int x2)]) hx hb d_M_isNeed_44 rfl hl (by decide) rfl (fun ls hl => ?_)
      refine lv_iload_n hx hb d_M_isNeed_45 rfl (lv_at hl 0 rfl) ?_
      refine lv_if_eq (tgt := 58) hx hb d_M_isNeed_46 (by decide) (fun c => ?_) (fun c => ?_)
      · have h := ifp c h
        refine lv_iload_n hx hb d_M_isNeed_58 rfl (lv_at hl 3 rfl) ?_
        obtain ⟨u59, hu59, h⟩ := bnd h
        refine gcall_i (va_runS (As := [.int x2]) (rest := []) ⟨hx, hb, hml, hown, hts⟩ (c_M_isName l D cI cZ tL ws x2 u59 hu59 s.heap.size) (va_cwS 1 hts (gS w_495 w_496 w_6 w_497) rfl rfl rfl (by decide +kernel) ⟨Nat.le_of_ble_eq_true rfl, Nat.le_of_ble_eq_true rfl⟩) (gpS hA hK hD hE hP hS) rfl rfl hl.1 rfl (lv_room (Nat.le_of_ble_eq_true rfl)) d_M_isNeed_59 ⟨Nat.le_of_ble_eq_true rfl, Nat.le_of_ble_eq_true rfl⟩) hA hD hS (fun H locs hP hS => ?_)
        obtain ⟨c, h⟩ := ifs h
        cases h
        exact gret_z hx hb hr hlk (gz c) hP hS d_M_isNeed_62
      have h := ifn c h
      refine lv_iload_n hx hb d_M_isNeed_49 rfl (lv_at hl 3 rfl) ?_
      refine lv_iconst (v := 0) hx hb d_M_isNeed_50 (by decide) ?_
      refine lv_iconst (v := 3) hx hb d_M_isNeed_51 (by decide) ?_
      obtain ⟨u52, hu52, h⟩ := bnd h
      refine gcall_i (va_runS (As := [.int x2, .int (0 : Int32), .int (3 : Int32)]) (rest := []) ⟨hx, hb, hml, hown, hts⟩ (c_M_isIn l D cI cZ tL ws x2 (0 : Int32) (3 : Int32) u52 hu52 s.heap.size) (va_cwS 3 hts (gS w_486 w_487 w_6 w_488) rfl rfl rfl (by decide +kernel) ⟨Nat.le_of_ble_eq_true rfl, Nat.le_of_ble_eq_true rfl⟩) (gpS hA hK hD hE hP hS) rfl rfl hl.1 rfl (lv_room (Nat.le_of_ble_eq_true rfl)) d_M_isNeed_52 ⟨Nat.le_of_ble_eq_true rfl, Nat.le_of_ble_eq_true rfl⟩) hA hD hS (fun H locs hP hS => ?_)
      refine lv_goto (tgt := 62) hx hb d_M_isNeed_55 (by decide) ?_
      obtain ⟨c, h⟩ := ifs h
      cases h
      exact gret_z hx hb hr hlk (gz c) hP hS d_M_isNeed_62
    have h := ifn c h
    refine lv_iload_n hx hb d_M_isNeed_30 rfl (lv_at hl 0 rfl) ?_
    refine lv_iconst (v := 5) hx hb d_M_isNeed_31 (by decide) ?_
    refine lv_icmp_ne (tgt := 43) hx hb d_M_isNeed_32 (by decide) (fun c => ?_) (fun c => ?_)
    · have h := ifn c h
      refine lv_iconst (v := 0) hx hb d_M_isNeed_43 (by decide) ?_
      refine lv_istore_n (lv' := [(3, .int (0 : Int32)), (0, .int x0), (1, .int x1), (2, .int x2)]) hx hb d_M_isNeed_44 rfl hl (by decide) rfl (fun ls hl => ?_)
      refine lv_iload_n hx hb d_M_isNeed_45 rfl (lv_at hl 0 rfl) ?_
      refine lv_if_eq (tgt := 58) hx hb d_M_isNeed_46 (by decide) (fun c => ?_) (fun c => ?_)
      · have h := ifp c h
        refine lv_iload_n hx hb d_M_isNeed_58 rfl (lv_at hl 3 rfl) ?_
        obtain ⟨u59, hu59, h⟩ := bnd h
        refine gcall_i (va_runS (As := [.int x2]) (rest := []) ⟨hx, hb, hml, hown, hts⟩ (c_M_isName l D cI cZ tL ws x2 u59 hu59 s.heap.size) (va_cwS 1 hts (gS w_495 w_496 w_6 w_497) rfl rfl rfl (by decide +kernel) ⟨Nat.le_of_ble_eq_true rfl, Nat.le_of_ble_eq_true rfl⟩) (gpS hA hK hD hE hP hS) rfl rfl hl.1 rfl (lv_room (Nat.le_of_ble_eq_true rfl)) d_M_isNeed_59 ⟨Nat.le_of_ble_eq_true rfl, Nat.le_of_ble_eq_true rfl⟩) hA hD hS (fun H locs hP hS => ?_)
        obtain ⟨c, h⟩ := ifs h
        cases h
        exact gret_z hx hb hr hlk (gz c) hP hS d_M_isNeed_62
      have h := ifn c h
      refine lv_iload_n hx hb d_M_isNeed_49 rfl (lv_at hl 3 rfl) ?_
      refine lv_iconst (v := 0) hx hb d_M_isNeed_50 (by decide) ?_
      refine lv_iconst (v := 3) hx hb d_M_isNeed_51 (by decide) ?_
      obtain ⟨u52, hu52, h⟩ := bnd h
      refine gcall_i (va_runS (As := [.int x2, .int (0 : Int32), .int (3 : Int32)]) (rest := []) ⟨hx, hb, hml, hown, hts⟩ (c_M_isIn l D cI cZ tL ws x2 (0 : Int32) (3 : Int32) u52 hu52 s.heap.size) (va_cwS 3 hts (gS w_486 w_487 w_6 w_488) rfl rfl rfl (by decide +kernel) ⟨Nat.le_of_ble_eq_true rfl, Nat.le_of_ble_eq_true rfl⟩) (gpS hA hK hD hE hP hS) rfl rfl hl.1 rfl (lv_room (Nat.le_of_ble_eq_true rfl)) d_M_isNeed_52 ⟨Nat.le_of_ble_eq_true rfl, Nat.le_of_ble_eq_true rfl⟩) hA hD hS (fun H locs hP hS => ?_)
      refine lv_goto (tgt := 62) hx hb d_M_isNeed_55 (by decide) ?_
      obtain ⟨c, h⟩ := ifs h
      cases h
      exact gret_z hx hb hr hlk (gz c) hP hS d_M_isNeed_62
    have h := ifp c h
    refine lv_iload_n hx hb d_M_isNeed_35 rfl (lv_at hl 1 rfl) ?_
    refine lv_if_ne (tgt := 43) hx hb d_M_isNeed_36 (by decide) (fun c => ?_) (fun c => ?_)
    · have h := ifn c h
      refine lv_iconst (v := 0) hx hb d_M_isNeed_43 (by decide) ?_
      refine lv_istore_n (lv' := [(3, .int (0 : Int32)), (0, .int x0), (1, .int x1), (2, .int x2)]) hx hb d_M_isNeed_44 rfl hl (by decide) rfl (fun ls hl => ?_)
      refine lv_iload_n hx hb d_M_isNeed_45 rfl (lv_at hl 0 rfl) ?_
      refine lv_if_eq (tgt := 58) hx hb d_M_isNeed_46 (by decide) (fun c => ?_) (fun c => ?_)
      · have h := ifp c h
        refine lv_iload_n hx hb d_M_isNeed_58 rfl (lv_at hl 3 rfl) ?_
        obtain ⟨u59, hu59, h⟩ := bnd h
        refine gcall_i (va_runS (As := [.int x2]) (rest := []) ⟨hx, hb, hml, hown, hts⟩ (c_M_isName l D cI cZ tL ws x2 u59 hu59 s.heap.size) (va_cwS 1 hts (gS w_495 w_496 w_6 w_497) rfl rfl rfl (by decide +kernel) ⟨Nat.le_of_ble_eq_true rfl, Nat.le_of_ble_eq_true rfl⟩) (gpS hA hK hD hE hP hS) rfl rfl hl.1 rfl (lv_room (Nat.le_of_ble_eq_true rfl)) d_M_isNeed_59 ⟨Nat.le_of_ble_eq_true rfl, Nat.le_of_ble_eq_true rfl⟩) hA hD hS (fun H locs hP hS => ?_)
        obtain ⟨c, h⟩ := ifs h
        cases h
        exact gret_z hx hb hr hlk (gz c) hP hS d_M_isNeed_62
      have h := ifn c h
      refine lv_iload_n hx hb d_M_isNeed_49 rfl (lv_at hl 3 rfl) ?_
      refine lv_iconst (v := 0) hx hb d_M_isNeed_50 (by decide) ?_
      refine lv_iconst (v := 3) hx hb d_M_isNeed_51 (by decide) ?_
      obtain ⟨u52, hu52, h⟩ := bnd h
      refine gcall_i (va_runS (As := [.int x2, .int (0 : Int32), .int (3 : Int32)]) (rest := []) ⟨hx, hb, hml, hown, hts⟩ (c_M_isIn l D cI cZ tL ws x2 (0 : Int32) (3 : Int32) u52 hu52 s.heap.size) (va_cwS 3 hts (gS w_486 w_487 w_6 w_488) rfl rfl rfl (by decide +kernel) ⟨Nat.le_of_ble_eq_true rfl, Nat.le_of_ble_eq_true rfl⟩) (gpS hA hK hD hE hP hS) rfl rfl hl.1 rfl (lv_room (Nat.le_of_ble_eq_true rfl)) d_M_isNeed_52 ⟨Nat.le_of_ble_eq_true rfl, Nat.le_of_ble_eq_true rfl⟩) hA hD hS (fun H locs hP hS => ?_)
      refine lv_goto (tgt := 62) hx hb d_M_isNeed_55 (by decide) ?_
      obtain ⟨c, h⟩ := ifs h
      cases h
      exact gret_z hx hb hr hlk (gz c) hP hS d_M_isNeed_62
    have h := ifp c h
    refine lv_iconst (v := 1) hx hb d_M_isNeed_39 (by decide) ?_
    refine lv_goto (tgt := 44) hx hb d_M_isNeed_40 (by decide) ?_
    refine lv_istore_n (lv' := [(3, .int (1 : Int32)), (0, .int x0), (1, .int x1), (2, .int x2)]) hx hb d_M_isNeed_44 rfl hl (by decide) rfl (fun ls hl => ?_)
    refine lv_iload_n hx hb d_M_isNeed_45 rfl (lv_at hl 0 rfl) ?_
    refine lv_if_eq (tgt := 58) hx hb d_M_isNeed_46 (by decide) (fun c => ?_) (fun c => ?_)
    · have h := ifp c h
      refine lv_iload_n hx hb d_M_isNeed_58 rfl (lv_at hl 3 rfl) ?_
      obtain ⟨u59, hu59, h⟩ := bnd h
      refine gcall_i (va_runS (As := [.int x2]) (rest := []) ⟨hx, hb, hml, hown, hts⟩ (c_M_isName l D cI cZ tL ws x2 u59 hu59 s.heap.size) (va_cwS 1 hts (gS w_495 w_496 w_6 w_497) rfl rfl rfl (by decide +kernel) ⟨Nat.le_of_ble_eq_true rfl, Nat.le_of_ble_eq_true rfl⟩) (gpS hA hK hD hE hP hS) rfl rfl hl.1 rfl (lv_room (Nat.le_of_ble_eq_true rfl)) d_M_isNeed_59 ⟨Nat.le_of_ble_eq_true rfl, Nat.le_of_ble_eq_true rfl⟩) hA hD hS (fun H locs hP hS => ?_)
      obtain ⟨c, h⟩ := ifs h
      cases h
      exact gret_z hx hb hr hlk (gz c) hP hS d_M_isNeed_62
    have h := ifn c h
    refine lv_iload_n hx hb d_M_isNeed_49 rfl (lv_at hl 3 rfl) ?_
    refine lv_iconst (v := 0) hx hb d_M_isNeed_50 (by decide) ?_
    refine lv_iconst (v := 3) hx hb d_M_isNeed_51 (by decide) ?_
    obtain ⟨u52, hu52, h⟩ := bnd h
    refine gcall_i (va_runS (As := [.int x2, .int (0 : Int32), .int (3 : Int32)]) (rest := []) ⟨hx, hb, hml, hown, hts⟩ (c_M_isIn l D cI cZ tL ws x2 (0 : Int32) (3 : Int32) u52 hu52 s.heap.size) (va_cwS 3 hts (gS w_486 w_487 w_6 w_488) rfl rfl rfl (by decide +kernel) ⟨Nat.le_of_ble_eq_true rfl, Nat.le_of_ble_eq_true rfl⟩) (gpS hA hK hD hE hP hS) rfl rfl hl.1 rfl (lv_room (Nat.le_of_ble_eq_true rfl)) d_M_isNeed_52 ⟨Nat.le_of_ble_eq_true rfl, Nat.le_of_ble_eq_true rfl⟩) hA hD hS (fun H locs hP hS => ?_)
    refine lv_goto (tgt := 62) hx hb d_M_isNeed_55 (by decide) ?_
    obtain ⟨c, h⟩ := ifs h
    cases h
    exact gret_z hx hb hr hlk (gz c) hP hS d_M_isNeed_62
  have h := ifp c h
  refine lv_iload_n hx hb d_M_isNeed_5 rfl (lv_at hl 1 rfl) ?_
  refine lv_iconst (v := 2) hx hb d_M_isNeed_6 (by decide) ?_
  refine lv_icmp_eq (tgt := 39) hx hb d_M_isNeed_7 (by decide) (fun c => ?_) (fun c => ?_)
  · have h := ifp c h
    refine lv_iconst (v := 1) hx hb d_M_isNeed_39 (by decide) ?_
    refine lv_goto (tgt := 44) hx hb d_M_isNeed_40 (by decide) ?_
    refine lv_istore_n (lv' := [(3, .int (1 : Int32)), (0, .int x0), (1, .int x1), (2, .int x2)]) hx hb d_M_isNeed_44 rfl hl (by decide) rfl (fun ls hl => ?_)
    refine lv_iload_n hx hb d_M_isNeed_45 rfl (lv_at hl 0 rfl) ?_
    refine lv_if_eq (tgt := 58) hx hb d_M_isNeed_46 (by decide) (fun c => ?_) (fun c => ?_)
    · have h := ifp c h
      refine lv_iload_n hx hb d_M_isNeed_58 rfl (lv_at hl 3 rfl) ?_
      obtain ⟨u59, hu59, h⟩ := bnd h
      refine gcall_i (va_runS (As := [.int x2]) (rest := []) ⟨hx, hb, hml, hown, hts⟩ (c_M_isName l D cI cZ tL ws x2 u59 hu59 s.heap.size) (va_cwS 1 hts (gS w_495 w_496 w_6 w_497) rfl rfl rfl (by decide +kernel) ⟨Nat.le_of_ble_eq_true rfl, Nat.le_of_ble_eq_true rfl⟩) (gpS hA hK hD hE hP hS) rfl rfl hl.1 rfl (lv_room (Nat.le_of_ble_eq_true rfl)) d_M_isNeed_59 ⟨Nat.le_of_ble_eq_true rfl, Nat.le_of_ble_eq_true rfl⟩) hA hD hS (fun H locs hP hS => ?_)
      obtain ⟨c, h⟩ := ifs h
      cases h
      exact gret_z hx hb hr hlk (gz c) hP hS d_M_isNeed_62
    have h := ifn c h
    refine lv_iload_n hx hb d_M_isNeed_49 rfl (lv_at hl 3 rfl) ?_
    refine lv_iconst (v := 0) hx hb d_M_isNeed_50 (by decide) ?_
    refine lv_iconst (v := 3) hx hb d_M_isNeed_51 (by decide) ?_
    obtain ⟨u52, hu52, h⟩ := bnd h
    refine gcall_i (va_runS (As := [.int x2, .int (0 : Int32), .int (3 : Int32)]) (rest := []) ⟨hx, hb, hml, hown, hts⟩ (c_M_isIn l D cI cZ tL ws x2 (0 : Int32) (3 : Int32) u52 hu52 s.heap.size) (va_cwS 3 hts (gS w_486 w_487 w_6 w_488) rfl rfl rfl (by decide +kernel) ⟨Nat.le_of_ble_eq_true rfl, Nat.le_of_ble_eq_true rfl⟩) (gpS hA hK hD hE hP hS) rfl rfl hl.1 rfl (lv_room (Nat.le_of_ble_eq_true rfl)) d_M_isNeed_52 ⟨Nat.le_of_ble_eq_true rfl, Nat.le_of_ble_eq_true rfl⟩) hA hD hS (fun H locs hP hS => ?_)
    refine lv_goto (tgt := 62) hx hb d_M_isNeed_55 (by decide) ?_
    obtain ⟨c, h⟩ := ifs h
    cases h
    exact gret_z hx hb hr hlk (gz c) hP hS d_M_isNeed_62
  have h := ifn c h
  refine lv_iload_n hx hb d_M_isNeed_10 rfl (lv_at hl 0 rfl) ?_
  refine lv_iconst (v := 3) hx hb d_M_isNeed_11 (by decide) ?_
  refine lv_icmp_ne (tgt := 20) hx hb d_M_isNeed_12 (by decide) (fun c => ?_) (fun c => ?_)
  · have h := ifn c h
    refine lv_iload_n hx hb d_M_isNeed_20 rfl (lv_at hl 0 rfl) ?_
    refine lv_iconst (v := 4) hx hb d_M_isNeed_21 (by decide) ?_
    refine lv_icmp_ne (tgt := 30) hx hb d_M_isNeed_22 (by decide) (fun c => ?_) (fun c => ?_)
    · have h := ifn c h
      refine lv_iload_n hx hb d_M_isNeed_30 rfl (lv_at hl 0 rfl) ?_
      refine lv_iconst (v := 5) hx hb d_M_isNeed_31 (by decide) ?_
      refine lv_icmp_ne (tgt := 43) hx hb d_M_isNeed_32 (by decide) (fun c => ?_) (fun c => ?_)
      · have h := ifn c h
        refine lv_iconst (v := 0) hx hb d_M_isNeed_43 (by decide) ?_
        refine lv_istore_n (lv' := [(3, .int (0 : Int32)), (0, .int x0), (1, .int x1), (2, .int x2)]) hx hb d_M_isNeed_44 rfl hl (by decide) rfl (fun ls hl => ?_)
        refine lv_iload_n hx hb d_M_isNeed_45 rfl (lv_at hl 0 rfl) ?_
        refine lv_if_eq (tgt := 58) hx hb d_M_isNeed_46 (by decide) (fun c => ?_) (fun c => ?_)
        · have h := ifp c h
          refine lv_iload_n hx hb d_M_isNeed_58 rfl (lv_at hl 3 rfl) ?_
          obtain ⟨u59, hu59, h⟩ := bnd h
          refine gcall_i (va_runS (As := [.int x2]) (rest := []) ⟨hx, hb, hml, hown, hts⟩ (c_M_isName l D cI cZ tL ws x2 u59 hu59 s.heap.size) (va_cwS 1 hts (gS w_495 w_496 w_6 w_497) rfl rfl rfl (by decide +kernel) ⟨Nat.le_of_ble_eq_true rfl, Nat.le_of_ble_eq_true rfl⟩) (gpS hA hK hD hE hP hS) rfl rfl hl.1 rfl (lv_room (Nat.le_of_ble_eq_true rfl)) d_M_isNeed_59 ⟨Nat.le_of_ble_eq_true rfl, Nat.le_of_ble_eq_true rfl⟩) hA hD hS (fun H locs hP hS => ?_)
          obtain ⟨c, h⟩ := ifs h
          cases h
          exact gret_z hx hb hr hlk (gz c) hP hS d_M_isNeed_62
        have h := ifn c h
        refine lv_iload_n hx hb d_M_isNeed_49 rfl (lv_at hl 3 rfl) ?_
        refine lv_iconst (v := 0) hx hb d_M_isNeed_50 (by decide) ?_
        refine lv_iconst (v := 3) hx hb d_M_isNeed_51 (by decide) ?_
        obtain ⟨u52, hu52, h⟩ := bnd h
        refine gcall_i (va_runS (As := [.int x2, .int (0 : Int32), .int (3 : Int32)]) (rest := []) ⟨hx, hb, hml, hown, hts⟩ (c_M_isIn l D cI cZ tL ws x2 (0 : Int32) (3 : Int32) u52 hu52 s.heap.size) (va_cwS 3 hts (gS w_486 w_487 w_6 w_488) rfl rfl rfl (by decide +kernel) ⟨Nat.le_of_ble_eq_true rfl, Nat.le_of_ble_eq_true rfl⟩) (gpS hA hK hD hE hP hS) rfl rfl hl.1 rfl (lv_room (Nat.le_of_ble_eq_true rfl)) d_M_isNeed_52 ⟨Nat.le_of_ble_eq_true rfl, Nat.le_of_ble_eq_true rfl⟩) hA hD hS (fun H locs hP hS => ?_)
        refine lv_goto (tgt := 62) hx hb d_M_isNeed_55 (by decide) ?_
        obtain ⟨c, h⟩ := ifs h
        cases h
        exact gret_z hx hb hr hlk (gz c) hP hS d_M_isNeed_62
      have h := ifp c h
      refine lv_iload_n hx hb d_M_isNeed_35 rfl (lv_at hl 1 rfl) ?_
      refine lv_if_ne (tgt := 43) hx hb d_M_isNeed_36 (by decide) (fun c => ?_) (fun c => ?_)
      · have h := ifn c h
        refine lv_iconst (v := 0) hx hb d_M_isNeed_43 (by decide) ?_
        refine lv_istore_n (lv' := [(3, .int (0 : Int32)), (0, .int x0), (1, .int x1), (2, .int x2)]) hx hb d_M_isNeed_44 rfl hl (by decide) rfl (fun ls hl => ?_)
        refine lv_iload_n hx hb d_M_isNeed_45 rfl (lv_at hl 0 rfl) ?_
        refine lv_if_eq (tgt := 58) hx hb d_M_isNeed_46 (by decide) (fun c => ?_) (fun c => ?_)
        · have h := ifp c h
          refine lv_iload_n hx hb d_M_isNeed_58 rfl (lv_at hl 3 rfl) ?_
          obtain ⟨u59, hu59, h⟩ := bnd h
          refine gcall_i (va_runS (As := [.int x2]) (rest := []) ⟨hx, hb, hml, hown, hts⟩ (c_M_isName l D cI cZ tL ws x2 u59 hu59 s.heap.size) (va_cwS 1 hts (gS w_495 w_496 w_6 w_497) rfl rfl rfl (by decide +kernel) ⟨Nat.le_of_ble_eq_true rfl, Nat.le_of_ble_eq_true rfl⟩) (gpS hA hK hD hE hP hS) rfl rfl hl.1 rfl (lv_room (Nat.le_of_ble_eq_true rfl)) d_M_isNeed_59 ⟨Nat.le_of_ble_eq_true rfl, Nat.le_of_ble_eq_true rfl⟩) hA hD hS (fun H locs hP hS => ?_)
          obtain ⟨c, h⟩ := ifs h
          cases h
          exact gret_z hx hb hr hlk (gz c) hP hS d_M_isNeed_62
        have h := ifn c h
        refine lv_iload_n hx hb d_M_isNeed_49 rfl (lv_at hl 3 rfl) ?_
        refine lv_iconst (v := 0) hx hb d_M_isNeed_50 (by decide) ?_
        refine lv_iconst (v := 3) hx hb d_M_isNeed_51 (by decide) ?_
        obtain ⟨u52, hu52, h⟩ := bnd h
        refine gcall_i (va_runS (As := [.int x2, .int (0 : Int32), .int (3 : Int32)]) (rest := []) ⟨hx, hb, hml, hown, hts⟩ (c_M_isIn l D cI cZ tL ws x2 (0 : Int32) (3 : Int32) u52 hu52 s.heap.size) (va_cwS 3 hts (gS w_486 w_487 w_6 w_488) rfl rfl rfl (by decide +kernel) ⟨Nat.le_of_ble_eq_true rfl, Nat.le_of_ble_eq_true rfl⟩) (gpS hA hK hD hE hP hS) rfl rfl hl.1 rfl (lv_room (Nat.le_of_ble_eq_true rfl)) d_M_isNeed_52 ⟨Nat.le_of_ble_eq_true rfl, Nat.le_of_ble_eq_true rfl⟩) hA hD hS (fun H locs hP hS => ?_)
        refine lv_goto (tgt := 62) hx hb d_M_isNeed_55 (by decide) ?_
        obtain ⟨c, h⟩ := ifs h
        cases h
        exact gret_z hx hb hr hlk (gz c) hP hS d_M_isNeed_62
      have h := ifp c h
      refine lv_iconst (v := 1) hx hb d_M_isNeed_39 (by decide) ?_
      refine lv_goto (tgt := 44) hx hb d_M_isNeed_40 (by decide) ?_
      refine lv_istore_n (lv' := [(3, .int (1 : Int32)), (0, .int x0), (1, .int x1), (2, .int x2)]) hx hb d_M_isNeed_44 rfl hl (by decide) rfl (fun ls hl => ?_)
      refine lv_iload_n hx hb d_M_isNeed_45 rfl (lv_at hl 0 rfl) ?_
      refine lv_if_eq (tgt := 58) hx hb d_M_isNeed_46 (by decide) (fun c => ?_) (fun c => ?_)
      · have h := ifp c h
        refine lv_iload_n hx hb d_M_isNeed_58 rfl (lv_at hl 3 rfl) ?_
        obtain ⟨u59, hu59, h⟩ := bnd h
        refine gcall_i (va_runS (As := [.int x2]) (rest := []) ⟨hx, hb, hml, hown, hts⟩ (c_M_isName l D cI cZ tL ws x2 u59 hu59 s.heap.size) (va_cwS 1 hts (gS w_495 w_496 w_6 w_497) rfl rfl rfl (by decide +kernel) ⟨Nat.le_of_ble_eq_true rfl, Nat.le_of_ble_eq_true rfl⟩) (gpS hA hK hD hE hP hS) rfl rfl hl.1 rfl (lv_room (Nat.le_of_ble_eq_true rfl)) d_M_isNeed_59 ⟨Nat.le_of_ble_eq_true rfl, Nat.le_of_ble_eq_true rfl⟩) hA hD hS (fun H locs hP hS => ?_)
        obtain ⟨c, h⟩ := ifs h
        cases h
        exact gret_z hx hb hr hlk (gz c) hP hS d_M_isNeed_62
      have h := ifn c h
      refine lv_iload_n hx hb d_M_isNeed_49 rfl (lv_at hl 3 rfl) ?_
      refine lv_iconst (v := 0) hx hb d_M_isNeed_50 (by decide) ?_
      refine lv_iconst (v := 3) hx hb d_M_isNeed_51 (by decide) ?_
      obtain ⟨u52, hu52, h⟩ := bnd h
      refine gcall_i (va_runS (As := [.int x2, .int (0 : Int32), .int (3 : Int32)]) (rest := []) ⟨hx, hb, hml, hown, hts⟩ (c_M_isIn l D cI cZ tL ws x2 (0 : Int32) (3 : Int32) u52 hu52 s.heap.size) (va_cwS 3 hts (gS w_486 w_487 w_6 w_488) rfl rfl rfl (by decide +kernel) ⟨Nat.le_of_ble_eq_true rfl, Nat.le_of_ble_eq_true rfl⟩) (gpS hA hK hD hE hP hS) rfl rfl hl.1 rfl (lv_room (Nat.le_of_ble_eq_true rfl)) d_M_isNeed_52 ⟨Nat.le_of_ble_eq_true rfl, Nat.le_of_ble_eq_true rfl⟩) hA hD hS (fun H locs hP hS => ?_)
      refine lv_goto (tgt := 62) hx hb d_M_isNeed_55 (by decide) ?_
      obtain ⟨c, h⟩ := ifs h
      cases h
      exact gret_z hx hb hr hlk (gz c) hP hS d_M_isNeed_62
    have h := ifp c h
    refine lv_iload_n hx hb d_M_isNeed_25 rfl (lv_at hl 1 rfl) ?_
    refine lv_iconst (v := 1) hx hb d_M_isNeed_26 (by decide) ?_
    refine lv_icmp_eq (tgt := 39) hx hb d_M_isNeed_27 (by decide) (fun c => ?_) (fun c => ?_)
    · have h := ifp c h
      refine lv_iconst (v := 1) hx hb d_M_isNeed_39 (by decide) ?_
      refine lv_goto (tgt := 44) hx hb d_M_isNeed_40 (by decide) ?_
      refine lv_istore_n (lv' := [(3, .int (1 : Int32)), (0, .int x0), (1, .int x1), (2, .int x2)]) hx hb d_M_isNeed_44 rfl hl (by decide) rfl (fun ls hl => ?_)
      refine lv_iload_n hx hb d_M_isNeed_45 rfl (lv_at hl 0 rfl) ?_
      refine lv_if_eq (tgt := 58) hx hb d_M_isNeed_46 (by decide) (fun c => ?_) (fun c => ?_)
      · have h := ifp c h
        refine lv_iload_n hx hb d_M_isNeed_58 rfl (lv_at hl 3 rfl) ?_
        obtain ⟨u59, hu59, h⟩ := bnd h
        refine gcall_i (va_runS (As := [.int x2]) (rest := []) ⟨hx, hb, hml, hown, hts⟩ (c_M_isName l D cI cZ tL ws x2 u59 hu59 s.heap.size) (va_cwS 1 hts (gS w_495 w_496 w_6 w_497) rfl rfl rfl (by decide +kernel) ⟨Nat.le_of_ble_eq_true rfl, Nat.le_of_ble_eq_true rfl⟩) (gpS hA hK hD hE hP hS) rfl rfl hl.1 rfl (lv_room (Nat.le_of_ble_eq_true rfl)) d_M_isNeed_59 ⟨Nat.le_of_ble_eq_true rfl, Nat.le_of_ble_eq_true rfl⟩) hA hD hS (fun H locs hP hS => ?_)
        obtain ⟨c, h⟩ := ifs h
        cases h
        exact gret_z hx hb hr hlk (gz c) hP hS d_M_isNeed_62
      have h := ifn c h
      refine lv_iload_n hx hb d_M_isNeed_49 rfl (lv_at hl 3 rfl) ?_
      refine lv_iconst (v := 0) hx hb d_M_isNeed_50 (by decide) ?_
      refine lv_iconst (v := 3) hx hb d_M_isNeed_51 (by decide) ?_
      obtain ⟨u52, hu52, h⟩ := bnd h
      refine gcall_i (va_runS (As := [.int x2, .int (0 : Int32), .int (3 : Int32)]) (rest := []) ⟨hx, hb, hml, hown, hts⟩ (c_M_isIn l D cI cZ tL ws x2 (0 : Int32) (3 : Int32) u52 hu52 s.heap.size) (va_cwS 3 hts (gS w_486 w_487 w_6 w_488) rfl rfl rfl (by decide +kernel) ⟨Nat.le_of_ble_eq_true rfl, Nat.le_of_ble_eq_true rfl⟩) (gpS hA hK hD hE hP hS) rfl rfl hl.1 rfl (lv_room (Nat.le_of_ble_eq_true rfl)) d_M_isNeed_52 ⟨Nat.le_of_ble_eq_true rfl, Nat.le_of_ble_eq_true rfl⟩) hA hD hS (fun H locs hP hS => ?_)
      refine lv_goto (tgt := 62) hx hb d_M_isNeed_55 (by decide) ?_
      obtain ⟨c, h⟩ := ifs h
      cases h
      exact gret_z hx hb hr hlk (gz c) hP hS d_M_isNeed_62
    have h := ifn c h
    refine lv_iload_n hx hb d_M_isNeed_30 rfl (lv_at hl 0 rfl) ?_
    refine lv_iconst (v := 5) hx hb d_M_isNeed_31 (by decide) ?_
    refine lv_icmp_ne (tgt := 43) hx hb d_M_isNeed_32 (by decide) (fun c => ?_) (fun c => ?_)
    · have h := ifn c h
      refine lv_iconst (v := 0) hx hb d_M_isNeed_43 (by decide) ?_
      refine lv_istore_n (lv' := [(3, .int (0 : Int32)), (0, .int x0), (1, .int x1), (2, .int x2)]) hx hb d_M_isNeed_44 rfl hl (by decide) rfl (fun ls hl => ?_)
      refine lv_iload_n hx hb d_M_isNeed_45 rfl (lv_at hl 0 rfl) ?_
      refine lv_if_eq (tgt := 58) hx hb d_M_isNeed_46 (by decide) (fun c => ?_) (fun c => ?_)
      · have h := ifp c h
        refine lv_iload_n hx hb d_M_isNeed_58 rfl (lv_at hl 3 rfl) ?_
        obtain ⟨u59, hu59, h⟩ := bnd h
        refine gcall_i (va_runS (As := [.int x2]) (rest := []) ⟨hx, hb, hml, hown, hts⟩ (c_M_isName l D cI cZ tL ws x2 u59 hu59 s.heap.size) (va_cwS 1 hts (gS w_495 w_496 w_6 w_497) rfl rfl rfl (by decide +kernel) ⟨Nat.le_of_ble_eq_true rfl, Nat.le_of_ble_eq_true rfl⟩) (gpS hA hK hD hE hP hS) rfl rfl hl.1 rfl (lv_room (Nat.le_of_ble_eq_true rfl)) d_M_isNeed_59 ⟨Nat.le_of_ble_eq_true rfl, Nat.le_of_ble_eq_true rfl⟩) hA hD hS (fun H locs hP hS => ?_)
        obtain ⟨c, h⟩ := ifs h
        cases h
        exact gret_z hx hb hr hlk (gz c) hP hS d_M_isNeed_62
      have h := ifn c h
      refine lv_iload_n hx hb d_M_isNeed_49 rfl (lv_at hl 3 rfl) ?_
      refine lv_iconst (v := 0) hx hb d_M_isNeed_50 (by decide) ?_
      refine lv_iconst (v := 3) hx hb d_M_isNeed_51 (by decide) ?_
      obtain ⟨u52, hu52, h⟩ := bnd h
      refine gcall_i (va_runS (As := [.int x2, .int (0 : Int32), .int (3 : Int32)]) (rest := []) ⟨hx, hb, hml, hown, hts⟩ (c_M_isIn l D cI cZ tL ws x2 (0 : Int32) (3 : Int32) u52 hu52 s.heap.size) (va_cwS 3 hts (gS w_486 w_487 w_6 w_488) rfl rfl rfl (by decide +kernel) ⟨Nat.le_of_ble_eq_true rfl, Nat.le_of_ble_eq_true rfl⟩) (gpS hA hK hD hE hP hS) rfl rfl hl.1 rfl (lv_room (Nat.le_of_ble_eq_true rfl)) d_M_isNeed_52 ⟨Nat.le_of_ble_eq_true rfl, Nat.le_of_ble_eq_true rfl⟩) hA hD hS (fun H locs hP hS => ?_)
      refine lv_goto (tgt := 62) hx hb d_M_isNeed_55 (by decide) ?_
      obtain ⟨c, h⟩ := ifs h
      cases h
      exact gret_z hx hb hr hlk (gz c) hP hS d_M_isNeed_62
    have h := ifp c h
    refine lv_iload_n hx hb d_M_isNeed_35 rfl (lv_at hl 1 rfl) ?_
    refine lv_if_ne (tgt := 43) hx hb d_M_isNeed_36 (by decide) (fun c => ?_) (fun c => ?_)
    · have h := ifn c h
      refine lv_iconst (v := 0) hx hb d_M_isNeed_43 (by decide) ?_
      refine lv_istore_n (lv' := [(3, .int (0 : Int32)), (0, .int x0), (1, .int x1), (2, .int x2)]) hx hb d_M_isNeed_44 rfl hl (by decide) rfl (fun ls hl => ?_)
      refine lv_iload_n hx hb d_M_isNeed_45 rfl (lv_at hl 0 rfl) ?_
      refine lv_if_eq (tgt := 58) hx hb d_M_isNeed_46 (by decide) (fun c => ?_) (fun c => ?_)
      · have h := ifp c h
        refine lv_iload_n hx hb d_M_isNeed_58 rfl (lv_at hl 3 rfl) ?_
        obtain ⟨u59, hu59, h⟩ := bnd h
        refine gcall_i (va_runS (As := [.int x2]) (rest := []) ⟨hx, hb, hml, hown, hts⟩ (c_M_isName l D cI cZ tL ws x2 u59 hu59 s.heap.size) (va_cwS 1 hts (gS w_495 w_496 w_6 w_497) rfl rfl rfl (by decide +kernel) ⟨Nat.le_of_ble_eq_true rfl, Nat.le_of_ble_eq_true rfl⟩) (gpS hA hK hD hE hP hS) rfl rfl hl.1 rfl (lv_room (Nat.le_of_ble_eq_true rfl)) d_M_isNeed_59 ⟨Nat.le_of_ble_eq_true rfl, Nat.le_of_ble_eq_true rfl⟩) hA hD hS (fun H locs hP hS => ?_)
        obtain ⟨c, h⟩ := ifs h
        cases h
        exact gret_z hx hb hr hlk (gz c) hP hS d_M_isNeed_62
      have h := ifn c h
      refine lv_iload_n hx hb d_M_isNeed_49 rfl (lv_at hl 3 rfl) ?_
      refine lv_iconst (v := 0) hx hb d_M_isNeed_50 (by decide) ?_
      refine lv_iconst (v := 3) hx hb d_M_isNeed_51 (by decide) ?_
      obtain ⟨u52, hu52, h⟩ := bnd h
      refine gcall_i (va_runS (As := [.int x2, .int (0 : Int32), .int (3 : Int32)]) (rest := []) ⟨hx, hb, hml, hown, hts⟩ (c_M_isIn l D cI cZ tL ws x2 (0 : Int32) (3 : Int32) u52 hu52 s.heap.size) (va_cwS 3 hts (gS w_486 w_487 w_6 w_488) rfl rfl rfl (by decide +kernel) ⟨Nat.le_of_ble_eq_true rfl, Nat.le_of_ble_eq_true rfl⟩) (gpS hA hK hD hE hP hS) rfl rfl hl.1 rfl (lv_room (Nat.le_of_ble_eq_true rfl)) d_M_isNeed_52 ⟨Nat.le_of_ble_eq_true rfl, Nat.le_of_ble_eq_true rfl⟩) hA hD hS (fun H locs hP hS => ?_)
      refine lv_goto (tgt := 62) hx hb d_M_isNeed_55 (by decide) ?_
      obtain ⟨c, h⟩ := ifs h
      cases h
      exact gret_z hx hb hr hlk (gz c) hP hS d_M_isNeed_62
    have h := ifp c h
    refine lv_iconst (v := 1) hx hb d_M_isNeed_39 (by decide) ?_
    refine lv_goto (tgt := 44) hx hb d_M_isNeed_40 (by decide) ?_
    refine lv_istore_n (lv' := [(3, .int (1 : Int32)), (0, .int x0), (1, .int x1), (2, .int x2)]) hx hb d_M_isNeed_44 rfl hl (by decide) rfl (fun ls hl => ?_)
    refine lv_iload_n hx hb d_M_isNeed_45 rfl (lv_at hl 0 rfl) ?_
    refine lv_if_eq (tgt := 58) hx hb d_M_isNeed_46 (by decide) (fun c => ?_) (fun c => ?_)
    · have h := ifp c h
      refine lv_iload_n hx hb d_M_isNeed_58 rfl (lv_at hl 3 rfl) ?_
      obtain ⟨u59, hu59, h⟩ := bnd h
      refine gcall_i (va_runS (As := [.int x2]) (rest := []) ⟨hx, hb, hml, hown, hts⟩ (c_M_isName l D cI cZ tL ws x2 u59 hu59 s.heap.size) (va_cwS 1 hts (gS w_495 w_496 w_6 w_497) rfl rfl rfl (by decide +kernel) ⟨Nat.le_of_ble_eq_true rfl, Nat.le_of_ble_eq_true rfl⟩) (gpS hA hK hD hE hP hS) rfl rfl hl.1 rfl (lv_room (Nat.le_of_ble_eq_true rfl)) d_M_isNeed_59 ⟨Nat.le_of_ble_eq_true rfl, Nat.le_of_ble_eq_true rfl⟩) hA hD hS (fun H locs hP hS => ?_)
      obtain ⟨c, h⟩ := ifs h
      cases h
      exact gret_z hx hb hr hlk (gz c) hP hS d_M_isNeed_62
    have h := ifn c h
    refine lv_iload_n hx hb d_M_isNeed_49 rfl (lv_at hl 3 rfl) ?_
    refine lv_iconst (v := 0) hx hb d_M_isNeed_50 (by decide) ?_
    refine lv_iconst (v := 3) hx hb d_M_isNeed_51 (by decide) ?_
    obtain ⟨u52, hu52, h⟩ := bnd h
    refine gcall_i (va_runS (As := [.int x2, .int (0 : Int32), .int (3 : Int32)]) (rest := []) ⟨hx, hb, hml, hown, hts⟩ (c_M_isIn l D cI cZ tL ws x2 (0 : Int32) (3 : Int32) u52 hu52 s.heap.size) (va_cwS 3 hts (gS w_486 w_487 w_6 w_488) rfl rfl rfl (by decide +kernel) ⟨Nat.le_of_ble_eq_true rfl, Nat.le_of_ble_eq_true rfl⟩) (gpS hA hK hD hE hP hS) rfl rfl hl.1 rfl (lv_room (Nat.le_of_ble_eq_true rfl)) d_M_isNeed_52 ⟨Nat.le_of_ble_eq_true rfl, Nat.le_of_ble_eq_true rfl⟩) hA hD hS (fun H locs hP hS => ?_)
    refine lv_goto (tgt := 62) hx hb d_M_isNeed_55 (by decide) ?_
    obtain ⟨c, h⟩ := ifs h
    cases h
    exact gret_z hx hb hr hlk (gz c) hP hS d_M_isNeed_62
  have h := ifp c h
  refine lv_iload_n hx hb d_M_isNeed_15 rfl (lv_at hl 1 rfl) ?_
  refine lv_iconst (v := 1) hx hb d_M_isNeed_16 (by decide) ?_
  refine lv_icmp_eq (tgt := 39) hx hb d_M_isNeed_17 (by decide) (fun c => ?_) (fun c => ?_)
  · have h := ifp c h
    refine lv_iconst (v := 1) hx hb d_M_isNeed_39 (by decide) ?_
    refine lv_goto (tgt := 44) hx hb d_M_isNeed_40 (by decide) ?_
    refine lv_istore_n (lv' := [(3, .int (1 : Int32)), (0, .int x0), (1, .int x1), (2, .int x2)]) hx hb d_M_isNeed_44 rfl hl (by decide) rfl (fun ls hl => ?_)
    refine lv_iload_n hx hb d_M_isNeed_45 rfl (lv_at hl 0 rfl) ?_
    refine lv_if_eq (tgt := 58) hx hb d_M_isNeed_46 (by decide) (fun c => ?_) (fun c => ?_)
    · have h := ifp c h
      refine lv_iload_n hx hb d_M_isNeed_58 rfl (lv_at hl 3 rfl) ?_
      obtain ⟨u59, hu59, h⟩ := bnd h
      refine gcall_i (va_runS (As := [.int x2]) (rest := []) ⟨hx, hb, hml, hown, hts⟩ (c_M_isName l D cI cZ tL ws x2 u59 hu59 s.heap.size) (va_cwS 1 hts (gS w_495 w_496 w_6 w_497) rfl rfl rfl (by decide +kernel) ⟨Nat.le_of_ble_eq_true rfl, Nat.le_of_ble_eq_true rfl⟩) (gpS hA hK hD hE hP hS) rfl rfl hl.1 rfl (lv_room (Nat.le_of_ble_eq_true rfl)) d_M_isNeed_59 ⟨Nat.le_of_ble_eq_true rfl, Nat.le_of_ble_eq_true rfl⟩) hA hD hS (fun H locs hP hS => ?_)
      obtain ⟨c, h⟩ := ifs h
      cases h
      exact gret_z hx hb hr hlk (gz c) hP hS d_M_isNeed_62
    have h := ifn c h
    refine lv_iload_n hx hb d_M_isNeed_49 rfl (lv_at hl 3 rfl) ?_
    refine lv_iconst (v := 0) hx hb d_M_isNeed_50 (by decide) ?_
    refine lv_iconst (v := 3) hx hb d_M_isNeed_51 (by decide) ?_
    obtain ⟨u52, hu52, h⟩ := bnd h
    refine gcall_i (va_runS (As := [.int x2, .int (0 : Int32), .int (3 : Int32)]) (rest := []) ⟨hx, hb, hml, hown, hts⟩ (c_M_isIn l D cI cZ tL ws x2 (0 : Int32) (3 : Int32) u52 hu52 s.heap.size) (va_cwS 3 hts (gS w_486 w_487 w_6 w_488) rfl rfl rfl (by decide +kernel) ⟨Nat.le_of_ble_eq_true rfl, Nat.le_of_ble_eq_true rfl⟩) (gpS hA hK hD hE hP hS) rfl rfl hl.1 rfl (lv_room (Nat.le_of_ble_eq_true rfl)) d_M_isNeed_52 ⟨Nat.le_of_ble_eq_true rfl, Nat.le_of_ble_eq_true rfl⟩) hA hD hS (fun H locs hP hS => ?_)
    refine lv_goto (tgt := 62) hx hb d_M_isNeed_55 (by decide) ?_
    obtain ⟨c, h⟩ := ifs h
    cases h
    exact gret_z hx hb hr hlk (gz c) hP hS d_M_isNeed_62
  have h := ifn c h
  refine lv_iload_n hx hb d_M_isNeed_20 rfl (lv_at hl 0 rfl) ?_
  refine lv_iconst (v := 4) hx hb d_M_isNeed_21 (by decide) ?_
  refine lv_icmp_ne (tgt := 30) hx hb d_M_isNeed_22 (by decide) (fun c => ?_) (fun c => ?_)
  · have h := ifn c h
    refine lv_iload_n hx hb d_M_isNeed_30 rfl (lv_at hl 0 rfl) ?_
    refine lv_iconst (v := 5) hx hb d_M_isNeed_31 (by decide) ?_
    refine lv_icmp_ne (tgt := 43) hx hb d_M_isNeed_32 (by decide) (fun c => ?_) (fun c => ?_)
    · have h := ifn c h
      refine lv_iconst (v := 0) hx hb d_M_isNeed_43 (by decide) ?_
      refine lv_istore_n (lv' := [(3, .int (0 : Int32)), (0, .int x0), (1, .int x1), (2, .int x2)]) hx hb d_M_isNeed_44 rfl hl (by decide) rfl (fun ls hl => ?_)
      refine lv_iload_n hx hb d_M_isNeed_45 rfl (lv_at hl 0 rfl) ?_
      refine lv_if_eq (tgt := 58) hx hb d_M_isNeed_46 (by decide) (fun c => ?_) (fun c => ?_)
      · have h := ifp c h
        refine lv_iload_n hx hb d_M_isNeed_58 rfl (lv_at hl 3 rfl) ?_
        obtain ⟨u59, hu59, h⟩ := bnd h
        refine gcall_i (va_runS (As := [.int x2]) (rest := []) ⟨hx, hb, hml, hown, hts⟩ (c_M_isName l D cI cZ tL ws x2 u59 hu59 s.heap.size) (va_cwS 1 hts (gS w_495 w_496 w_6 w_497) rfl rfl rfl (by decide +kernel) ⟨Nat.le_of_ble_eq_true rfl, Nat.le_of_ble_eq_true rfl⟩) (gpS hA hK hD hE hP hS) rfl rfl hl.1 rfl (lv_room (Nat.le_of_ble_eq_true rfl)) d_M_isNeed_59 ⟨Nat.le_of_ble_eq_true rfl, Nat.le_of_ble_eq_true rfl⟩) hA hD hS (fun H locs hP hS => ?_)
        obtain ⟨c, h⟩ := ifs h
        cases h
        exact gret_z hx hb hr hlk (gz c) hP hS d_M_isNeed_62
      have h := ifn c h
      refine lv_iload_n hx hb d_M_isNeed_49 rfl (lv_at hl 3 rfl) ?_
      refine lv_iconst (v := 0) hx hb d_M_isNeed_50 (by decide) ?_
      refine lv_iconst (v := 3) hx hb d_M_isNeed_51 (by decide) ?_
      obtain ⟨u52, hu52, h⟩ := bnd h
      refine gcall_i (va_runS (As := [.int x2, .int (0 : Int32), .int (3 : Int32)]) (rest := []) ⟨hx, hb, hml, hown, hts⟩ (c_M_isIn l D cI cZ tL ws x2 (0 : Int32) (3 : Int32) u52 hu52 s.heap.size) (va_cwS 3 hts (gS w_486 w_487 w_6 w_488) rfl rfl rfl (by decide +kernel) ⟨Nat.le_of_ble_eq_true rfl, Nat.le_of_ble_eq_true rfl⟩) (gpS hA hK hD hE hP hS) rfl rfl hl.1 rfl (lv_room (Nat.le_of_ble_eq_true rfl)) d_M_isNeed_52 ⟨Nat.le_of_ble_eq_true rfl, Nat.le_of_ble_eq_true rfl⟩) hA hD hS (fun H locs hP hS => ?_)
      refine lv_goto (tgt := 62) hx hb d_M_isNeed_55 (by decide) ?_
      obtain ⟨c, h⟩ := ifs h
      cases h
      exact gret_z hx hb hr hlk (gz c) hP hS d_M_isNeed_62
    have h := ifp c h
    refine lv_iload_n hx hb d_M_isNeed_35 rfl (lv_at hl 1 rfl) ?_
    refine lv_if_ne (tgt := 43) hx hb d_M_isNeed_36 (by decide) (fun c => ?_) (fun c => ?_)
    · have h := ifn c h
      refine lv_iconst (v := 0) hx hb d_M_isNeed_43 (by decide) ?_
      refine lv_istore_n (lv' := [(3, .int (0 : Int32)), (0, .int x0), (1, .int x1), (2, .int x2)]) hx hb d_M_isNeed_44 rfl hl (by decide) rfl (fun ls hl => ?_)
      refine lv_iload_n hx hb d_M_isNeed_45 rfl (lv_at hl 0 rfl) ?_
      refine lv_if_eq (tgt := 58) hx hb d_M_isNeed_46 (by decide) (fun c => ?_) (fun c => ?_)
      · have h := ifp c h
        refine lv_iload_n hx hb d_M_isNeed_58 rfl (lv_at hl 3 rfl) ?_
        obtain ⟨u59, hu59, h⟩ := bnd h
        refine gcall_i (va_runS (As := [.int x2]) (rest := []) ⟨hx, hb, hml, hown, hts⟩ (c_M_isName l D cI cZ tL ws x2 u59 hu59 s.heap.size) (va_cwS 1 hts (gS w_495 w_496 w_6 w_497) rfl rfl rfl (by decide +kernel) ⟨Nat.le_of_ble_eq_true rfl, Nat.le_of_ble_eq_true rfl⟩) (gpS hA hK hD hE hP hS) rfl rfl hl.1 rfl (lv_room (Nat.le_of_ble_eq_true rfl)) d_M_isNeed_59 ⟨Nat.le_of_ble_eq_true rfl, Nat.le_of_ble_eq_true rfl⟩) hA hD hS (fun H locs hP hS => ?_)
        obtain ⟨c, h⟩ := ifs h
        cases h
        exact gret_z hx hb hr hlk (gz c) hP hS d_M_isNeed_62
      have h := ifn c h
      refine lv_iload_n hx hb d_M_isNeed_49 rfl (lv_at hl 3 rfl) ?_
      refine lv_iconst (v := 0) hx hb d_M_isNeed_50 (by decide) ?_
      refine lv_iconst (v := 3) hx hb d_M_isNeed_51 (by decide) ?_
      obtain ⟨u52, hu52, h⟩ := bnd h
      refine gcall_i (va_runS (As := [.int x2, .int (0 : Int32), .int (3 : Int32)]) (rest := []) ⟨hx, hb, hml, hown, hts⟩ (c_M_isIn l D cI cZ tL ws x2 (0 : Int32) (3 : Int32) u52 hu52 s.heap.size) (va_cwS 3 hts (gS w_486 w_487 w_6 w_488) rfl rfl rfl (by decide +kernel) ⟨Nat.le_of_ble_eq_true rfl, Nat.le_of_ble_eq_true rfl⟩) (gpS hA hK hD hE hP hS) rfl rfl hl.1 rfl (lv_room (Nat.le_of_ble_eq_true rfl)) d_M_isNeed_52 ⟨Nat.le_of_ble_eq_true rfl, Nat.le_of_ble_eq_true rfl⟩) hA hD hS (fun H locs hP hS => ?_)
      refine lv_goto (tgt := 62) hx hb d_M_isNeed_55 (by decide) ?_
      obtain ⟨c, h⟩ := ifs h
      cases h
      exact gret_z hx hb hr hlk (gz c) hP hS d_M_isNeed_62
    have h := ifp c h
    refine lv_iconst (v := 1) hx hb d_M_isNeed_39 (by decide) ?_
    refine lv_goto (tgt := 44) hx hb d_M_isNeed_40 (by decide) ?_
    refine lv_istore_n (lv' := [(3, .int (1 : Int32)), (0, .int x0), (1, .int x1), (2, .int x2)]) hx hb d_M_isNeed_44 rfl hl (by decide) rfl (fun ls hl => ?_)
    refine lv_iload_n hx hb d_M_isNeed_45 rfl (lv_at hl 0 rfl) ?_
    refine lv_if_eq (tgt := 58) hx hb d_M_isNeed_46 (by decide) (fun c => ?_) (fun c => ?_)
    · have h := ifp c h
      refine lv_iload_n hx hb d_M_isNeed_58 rfl (lv_at hl 3 rfl) ?_
      obtain ⟨u59, hu59, h⟩ := bnd h
      refine gcall_i (va_runS (As := [.int x2]) (rest := []) ⟨hx, hb, hml, hown, hts⟩ (c_M_isName l D cI cZ tL ws x2 u59 hu59 s.heap.size) (va_cwS 1 hts (gS w_495 w_496 w_6 w_497) rfl rfl rfl (by decide +kernel) ⟨Nat.le_of_ble_eq_true rfl, Nat.le_of_ble_eq_true rfl⟩) (gpS hA hK hD hE hP hS) rfl rfl hl.1 rfl (lv_room (Nat.le_of_ble_eq_true rfl)) d_M_isNeed_59 ⟨Nat.le_of_ble_eq_true rfl, Nat.le_of_ble_eq_true rfl⟩) hA hD hS (fun H locs hP hS => ?_)
      obtain ⟨c, h⟩ := ifs h
      cases h
      exact gret_z hx hb hr hlk (gz c) hP hS d_M_isNeed_62
    have h := ifn c h
    refine lv_iload_n hx hb d_M_isNeed_49 rfl (lv_at hl 3 rfl) ?_
    refine lv_iconst (v := 0) hx hb d_M_isNeed_50 (by decide) ?_
    refine lv_iconst (v := 3) hx hb d_M_isNeed_51 (by decide) ?_
    obtain ⟨u52, hu52, h⟩ := bnd h
    refine gcall_i (va_runS (As := [.int x2, .int (0 : Int32), .int (3 : Int32)]) (rest := []) ⟨hx, hb, hml, hown, hts⟩ (c_M_isIn l D cI cZ tL ws x2 (0 : Int32) (3 : Int32) u52 hu52 s.heap.size) (va_cwS 3 hts (gS w_486 w_487 w_6 w_488) rfl rfl rfl (by decide +kernel) ⟨Nat.le_of_ble_eq_true rfl, Nat.le_of_ble_eq_true rfl⟩) (gpS hA hK hD hE hP hS) rfl rfl hl.1 rfl (lv_room (Nat.le_of_ble_eq_true rfl)) d_M_isNeed_52 ⟨Nat.le_of_ble_eq_true rfl, Nat.le_of_ble_eq_true rfl⟩) hA hD hS (fun H locs hP hS => ?_)
    refine lv_goto (tgt := 62) hx hb d_M_isNeed_55 (by decide) ?_
    obtain ⟨c, h⟩ := ifs h
    cases h
    exact gret_z hx hb hr hlk (gz c) hP hS d_M_isNeed_62
  have h := ifp c h
  refine lv_iload_n hx hb d_M_isNeed_25 rfl (lv_at hl 1 rfl) ?_
  refine lv_iconst (v := 1) hx hb d_M_isNeed_26 (by decide) ?_
  refine lv_icmp_eq (tgt := 39) hx hb d_M_isNeed_27 (by decide) (fun c => ?_) (fun c => ?_)
  · have h := ifp c h
    refine lv_iconst (v := 1) hx hb d_M_isNeed_39 (by decide) ?_
    refine lv_goto (tgt := 44) hx hb d_M_isNeed_40 (by decide) ?_
    refine lv_istore_n (lv' := [(3, .int (1 : Int32)), (0, .int x0), (1, .int x1), (2, .int x2)]) hx hb d_M_isNeed_44 rfl hl (by decide) rfl (fun ls hl => ?_)
    refine lv_iload_n hx hb d_M_isNeed_45 rfl (lv_at hl 0 rfl) ?_
    refine lv_if_eq (tgt := 58) hx hb d_M_isNeed_46 (by decide) (fun c => ?_) (fun c => ?_)
    · have h := ifp c h
      refine lv_iload_n hx hb d_M_isNeed_58 rfl (lv_at hl 3 rfl) ?_
      obtain ⟨u59, hu59, h⟩ := bnd h
      refine gcall_i (va_runS (As := [.int x2]) (rest := []) ⟨hx, hb, hml, hown, hts⟩ (c_M_isName l D cI cZ tL ws x2 u59 hu59 s.heap.size) (va_cwS 1 hts (gS w_495 w_496 w_6 w_497) rfl rfl rfl (by decide +kernel) ⟨Nat.le_of_ble_eq_true rfl, Nat.le_of_ble_eq_true rfl⟩) (gpS hA hK hD hE hP hS) rfl rfl hl.1 rfl (lv_room (Nat.le_of_ble_eq_true rfl)) d_M_isNeed_59 ⟨Nat.le_of_ble_eq_true rfl, Nat.le_of_ble_eq_true rfl⟩) hA hD hS (fun H locs hP hS => ?_)
      obtain ⟨c, h⟩ := ifs h
      cases h
      exact gret_z hx hb hr hlk (gz c) hP hS d_M_isNeed_62
    have h := ifn c h
    refine lv_iload_n hx hb d_M_isNeed_49 rfl (lv_at hl 3 rfl) ?_
    refine lv_iconst (v := 0) hx hb d_M_isNeed_50 (by decide) ?_
    refine lv_iconst (v := 3) hx hb d_M_isNeed_51 (by decide) ?_
    obtain ⟨u52, hu52, h⟩ := bnd h
    refine gcall_i (va_runS (As := [.int x2, .int (0 : Int32), .int (3 : Int32)]) (rest := []) ⟨hx, hb, hml, hown, hts⟩ (c_M_isIn l D cI cZ tL ws x2 (0 : Int32) (3 : Int32) u52 hu52 s.heap.size) (va_cwS 3 hts (gS w_486 w_487 w_6 w_488) rfl rfl rfl (by decide +kernel) ⟨Nat.le_of_ble_eq_true rfl, Nat.le_of_ble_eq_true rfl⟩) (gpS hA hK hD hE hP hS) rfl rfl hl.1 rfl (lv_room (Nat.le_of_ble_eq_true rfl)) d_M_isNeed_52 ⟨Nat.le_of_ble_eq_true rfl, Nat.le_of_ble_eq_true rfl⟩) hA hD hS (fun H locs hP hS => ?_)
    refine lv_goto (tgt := 62) hx hb d_M_isNeed_55 (by decide) ?_
    obtain ⟨c, h⟩ := ifs h
    cases h
    exact gret_z hx hb hr hlk (gz c) hP hS d_M_isNeed_62
  have h := ifn c h
  refine lv_iload_n hx hb d_M_isNeed_30 rfl (lv_at hl 0 rfl) ?_
  refine lv_iconst (v := 5) hx hb d_M_isNeed_31 (by decide) ?_
  refine lv_icmp_ne (tgt := 43) hx hb d_M_isNeed_32 (by decide) (fun c => ?_) (fun c => ?_)
  · have h := ifn c h
    refine lv_iconst (v := 0) hx hb d_M_isNeed_43 (by decide) ?_
    refine lv_istore_n (lv' := [(3, .int (0 : Int32)), (0, .int x0), (1, .int x1), (2, .int x2)]) hx hb d_M_isNeed_44 rfl hl (by decide) rfl (fun ls hl => ?_)
    refine lv_iload_n hx hb d_M_isNeed_45 rfl (lv_at hl 0 rfl) ?_
    refine lv_if_eq (tgt := 58) hx hb d_M_isNeed_46 (by decide) (fun c => ?_) (fun c => ?_)
    · have h := ifp c h
      refine lv_iload_n hx hb d_M_isNeed_58 rfl (lv_at hl 3 rfl) ?_
      obtain ⟨u59, hu59, h⟩ := bnd h
      refine gcall_i (va_runS (As := [.int x2]) (rest := []) ⟨hx, hb, hml, hown, hts⟩ (c_M_isName l D cI cZ tL ws x2 u59 hu59 s.heap.size) (va_cwS 1 hts (gS w_495 w_496 w_6 w_497) rfl rfl rfl (by decide +kernel) ⟨Nat.le_of_ble_eq_true rfl, Nat.le_of_ble_eq_true rfl⟩) (gpS hA hK hD hE hP hS) rfl rfl hl.1 rfl (lv_room (Nat.le_of_ble_eq_true rfl)) d_M_isNeed_59 ⟨Nat.le_of_ble_eq_true rfl, Nat.le_of_ble_eq_true rfl⟩) hA hD hS (fun H locs hP hS => ?_)
      obtain ⟨c, h⟩ := ifs h
      cases h
      exact gret_z hx hb hr hlk (gz c) hP hS d_M_isNeed_62
    have h := ifn c h
    refine lv_iload_n hx hb d_M_isNeed_49 rfl (lv_at hl 3 rfl) ?_
    refine lv_iconst (v := 0) hx hb d_M_isNeed_50 (by decide) ?_
    refine lv_iconst (v := 3) hx hb d_M_isNeed_51 (by decide) ?_
    obtain ⟨u52, hu52, h⟩ := bnd h
    refine gcall_i (va_runS (As := [.int x2, .int (0 : Int32), .int (3 : Int32)]) (rest := []) ⟨hx, hb, hml, hown, hts⟩ (c_M_isIn l D cI cZ tL ws x2 (0 : Int32) (3 : Int32) u52 hu52 s.heap.size) (va_cwS 3 hts (gS w_486 w_487 w_6 w_488) rfl rfl rfl (by decide +kernel) ⟨Nat.le_of_ble_eq_true rfl, Nat.le_of_ble_eq_true rfl⟩) (gpS hA hK hD hE hP hS) rfl rfl hl.1 rfl (lv_room (Nat.le_of_ble_eq_true rfl)) d_M_isNeed_52 ⟨Nat.le_of_ble_eq_true rfl, Nat.le_of_ble_eq_true rfl⟩) hA hD hS (fun H locs hP hS => ?_)
    refine lv_goto (tgt := 62) hx hb d_M_isNeed_55 (by decide) ?_
    obtain ⟨c, h⟩ := ifs h
    cases h
    exact gret_z hx hb hr hlk (gz c) hP hS d_M_isNeed_62
  have h := ifp c h
  refine lv_iload_n hx hb d_M_isNeed_35 rfl (lv_at hl 1 rfl) ?_
  refine lv_if_ne (tgt := 43) hx hb d_M_isNeed_36 (by decide) (fun c => ?_) (fun c => ?_)
  · have h := ifn c h
    refine lv_iconst (v := 0) hx hb d_M_isNeed_43 (by decide) ?_
    refine lv_istore_n (lv' := [(3, .int (0 : Int32)), (0, .int x0), (1, .int x1), (2, .int x2)]) hx hb d_M_isNeed_44 rfl hl (by decide) rfl (fun ls hl => ?_)
    refine lv_iload_n hx hb d_M_isNeed_45 rfl (lv_at hl 0 rfl) ?_
    refine lv_if_eq (tgt := 58) hx hb d_M_isNeed_46 (by decide) (fun c => ?_) (fun c => ?_)
    · have h := ifp c h
      refine lv_iload_n hx hb d_M_isNeed_58 rfl (lv_at hl 3 rfl) ?_
      obtain ⟨u59, hu59, h⟩ := bnd h
      refine gcall_i (va_runS (As := [.int x2]) (rest := []) ⟨hx, hb, hml, hown, hts⟩ (c_M_isName l D cI cZ tL ws x2 u59 hu59 s.heap.size) (va_cwS 1 hts (gS w_495 w_496 w_6 w_497) rfl rfl rfl (by decide +kernel) ⟨Nat.le_of_ble_eq_true rfl, Nat.le_of_ble_eq_true rfl⟩) (gpS hA hK hD hE hP hS) rfl rfl hl.1 rfl (lv_room (Nat.le_of_ble_eq_true rfl)) d_M_isNeed_59 ⟨Nat.le_of_ble_eq_true rfl, Nat.le_of_ble_eq_true rfl⟩) hA hD hS (fun H locs hP hS => ?_)
      obtain ⟨c, h⟩ := ifs h
      cases h
      exact gret_z hx hb hr hlk (gz c) hP hS d_M_isNeed_62
    have h := ifn c h
    refine lv_iload_n hx hb d_M_isNeed_49 rfl (lv_at hl 3 rfl) ?_
    refine lv_iconst (v := 0) hx hb d_M_isNeed_50 (by decide) ?_
    refine lv_iconst (v := 3) hx hb d_M_isNeed_51 (by decide) ?_
    obtain ⟨u52, hu52, h⟩ := bnd h
    refine gcall_i (va_runS (As := [.int x2, .int (0 : Int32), .int (3 : Int32)]) (rest := []) ⟨hx, hb, hml, hown, hts⟩ (c_M_isIn l D cI cZ tL ws x2 (0 : Int32) (3 : Int32) u52 hu52 s.heap.size) (va_cwS 3 hts (gS w_486 w_487 w_6 w_488) rfl rfl rfl (by decide +kernel) ⟨Nat.le_of_ble_eq_true rfl, Nat.le_of_ble_eq_true rfl⟩) (gpS hA hK hD hE hP hS) rfl rfl hl.1 rfl (lv_room (Nat.le_of_ble_eq_true rfl)) d_M_isNeed_52 ⟨Nat.le_of_ble_eq_true rfl, Nat.le_of_ble_eq_true rfl⟩) hA hD hS (fun H locs hP hS => ?_)
    refine lv_goto (tgt := 62) hx hb d_M_isNeed_55 (by decide) ?_
    obtain ⟨c, h⟩ := ifs h
    cases h
    exact gret_z hx hb hr hlk (gz c) hP hS d_M_isNeed_62
  have h := ifp c h
  refine lv_iconst (v := 1) hx hb d_M_isNeed_39 (by decide) ?_
  refine lv_goto (tgt := 44) hx hb d_M_isNeed_40 (by decide) ?_
  refine lv_istore_n (lv' := [(3, .int (1 : Int32)), (0, .int x0), (1, .int x1), (2, .int x2)]) hx hb d_M_isNeed_44 rfl hl (by decide) rfl (fun ls hl => ?_)
  refine lv_iload_n hx hb d_M_isNeed_45 rfl (lv_at hl 0 rfl) ?_
  refine lv_if_eq (tgt := 58) hx hb d_M_isNeed_46 (by decide) (fun c => ?_) (fun c => ?_)
  · have h := ifp c h
    refine lv_iload_n hx hb d_M_isNeed_58 rfl (lv_at hl 3 rfl) ?_
    obtain ⟨u59, hu59, h⟩ := bnd h
    refine gcall_i (va_runS (As := [.int x2]) (rest := []) ⟨hx, hb, hml, hown, hts⟩ (c_M_isName l D cI cZ tL ws x2 u59 hu59 s.heap.size) (va_cwS 1 hts (gS w_495 w_496 w_6 w_497) rfl rfl rfl (by decide +kernel) ⟨Nat.le_of_ble_eq_true rfl, Nat.le_of_ble_eq_true rfl⟩) (gpS hA hK hD hE hP hS) rfl rfl hl.1 rfl (lv_room (Nat.le_of_ble_eq_true rfl)) d_M_isNeed_59 ⟨Nat.le_of_ble_eq_true rfl, Nat.le_of_ble_eq_true rfl⟩) hA hD hS (fun H locs hP hS => ?_)
    obtain ⟨c, h⟩ := ifs h
    cases h
    exact gret_z hx hb hr hlk (gz c) hP hS d_M_isNeed_62
  have h := ifn c h
  refine lv_iload_n hx hb d_M_isNeed_49 rfl (lv_at hl 3 rfl) ?_
  refine lv_iconst (v := 0) hx hb d_M_isNeed_50 (by decide) ?_
  refine lv_iconst (v := 3) hx hb d_M_isNeed_51 (by decide) ?_
  obtain ⟨u52, hu52, h⟩ := bnd h
  refine gcall_i (va_runS (As := [.int x2, .int (0 : Int32), .int (3 : Int32)]) (rest := []) ⟨hx, hb, hml, hown, hts⟩ (c_M_isIn l D cI cZ tL ws x2 (0 : Int32) (3 : Int32) u52 hu52 s.heap.size) (va_cwS 3 hts (gS w_486 w_487 w_6 w_488) rfl rfl rfl (by decide +kernel) ⟨Nat.le_of_ble_eq_true rfl, Nat.le_of_ble_eq_true rfl⟩) (gpS hA hK hD hE hP hS) rfl rfl hl.1 rfl (lv_room (Nat.le_of_ble_eq_true rfl)) d_M_isNeed_52 ⟨Nat.le_of_ble_eq_true rfl, Nat.le_of_ble_eq_true rfl⟩) hA hD hS (fun H locs hP hS => ?_)
  refine lv_goto (tgt := 62) hx hb d_M_isNeed_55 (by decide) ?_
  obtain ⟨c, h⟩ := ifs h
  cases h
  exact gret_z hx hb hr hlk (gz c) hP hS d_M_isNeed_62
/-! ===== EscapeOwnersModel.add(II)I ===== -/
def f_M_add (σ : St) (x1 : Int32) (x2 : Int32) : Option (Int32 × St) := if ¬ ((σ 0 1) < 0 ∨ 64 ≤ (σ 0 1).toNatClampNeg) then (lett (sr σ 1 (upd (σ 1) (σ 0 1).toNatClampNeg x1)) (fun s9 => if ¬ ((s9 0 1) < 0 ∨ 64 ≤ (s9 0 1).toNatClampNeg) then (lett (sr s9 2 (upd (s9 2) (s9 0 1).toNatClampNeg x2)) (fun s19 => if ¬ ((s19 0 1) < 0 ∨ 64 ≤ (s19 0 1).toNatClampNeg) then (lett (sr s19 3 (upd (s19 3) (s19 0 1).toNatClampNeg (-1 : Int32))) (fun s29 => if x2 = 0 then (if ¬ ((s29 0 1) < 0 ∨ 64 ≤ (s29 0 1).toNatClampNeg) then (lett (sr s29 3 (upd (s29 3) (s29 0 1).toNatClampNeg (s29 0 2))) (fun s46 => if ¬ ((s46 0 2) < 0 ∨ 16 ≤ (s46 0 2).toNatClampNeg) then (lett (sr s46 5 (upd (s46 5) (s46 0 2).toNatClampNeg (s46 0 1))) (fun s59 => lett (su s59 0 2 ((s59 0 2) + (1 : Int32))) (fun s67 => lett (su s67 0 13 (1 : Int32)) (fun s72 => lett (su s72 0 1 ((s72 0 1) + (1 : Int32))) (fun s82 => some (((s82 0 1) - (1 : Int32)), s82)))))) else none)) else none) else (lett (su s29 0 13 (1 : Int32)) (fun s72 => lett (su s72 0 1 ((s72 0 1) + (1 : Int32))) (fun s82 => some (((s82 0 1) - (1 : Int32)), s82)))))) else none)) else none)) else none
set_option maxHeartbeats 4000000 in
set_option maxRecDepth 100000 in
theorem c_M_add (l : Launch) (D : va_G) (cI cZ : ClassId) (tL : Nat) (q : Nat → Nat) (tl : va_W) (σ : St) (x1 : Int32) (x2 : Int32) (out0 : Int32 × St) (h : f_M_add σ x1 x2 = some out0) : gCi l y_M_add (.code y_M_add b_M_add 3 (some .int) :: TB) { frames := 0, cells := 0, slots := 0, locals := 0 } D [(cI, .int), (cZ, .boolean)] tL [.ref (q 0), .int x1, .int x2] (wM cI cZ q σ ++ tl) out0.1 (wM cI cZ q out0.2 ++ tl) := by
  refine gCi_of (cc := b_M_add) (maxL := 3) (ty := .int) (by decide) rfl (Nat.le_of_ble_eq_true rfl) ?_
  intro p e s m below meth c A ls hf hr hlk hA hK hD0 hE hP hl
  obtain ⟨hx, hb, hml, hown, hts⟩ := id hf
  have hts : ∀ w ∈ TB, w.before _ s = true := fun w h => hts w (List.mem_cons_of_mem _ h)
  have hown : s.vm.findClass R_M = some m.cls := hown
  have hl : lv_has ls 3 [(0, .ref (q 0)), (1, .int x1), (2, .int x2)] := hl
  have hS : va_S A s.heap s.heap [] := va_S.rf
  have hD : ∀ σ' : St, va_D A (wM cI cZ q σ' ++ tl) := fun σ' => va_Dsame hD0 rfl
  unfold f_M_add at h
  refine lv_aload_n hx hb d_M_add_0 rfl (lv_at hl 0 rfl) ?_
  refine va_get (D := D) (ci := 5) (v := .ref (q 1)) (C := R_M) (T := T_M) (N := 17) hx hb hts l_M hown hK hP 0 rfl rfl 3 (by decide) (hts _ w_442) (fun _ h9 => h9) rfl d_M_add_1 ?_
  refine lv_aload_n hx hb d_M_add_4 rfl (lv_at hl 0 rfl) ?_
  refine va_get (D := D) (ci := 5) (v := .int (σ 0 1)) (C := R_M) (T := T_M) (N := 17) hx hb hts l_M hown hK hP 0 rfl rfl 1 (by decide) (hts _ w_440) (fun _ h9 => h9) rfl d_M_add_5 ?_
  refine lv_iload_n hx hb d_M_add_8 rfl (lv_at hl 1 rfl) ?_
  obtain ⟨c, h⟩ := ifs h
  refine va_iast hx hb hK hP (hD σ) hS 1 0 rfl rfl c d_M_add_9 (fun H locs hP _ hS => ?_)
  have hP : va_P D vwCl (wM cI cZ q (sr σ 1 (upd (σ 1) (σ 0 1).toNatClampNeg x1)) ++ tl) H := hP
  obtain ⟨s9, es9, h⟩ := lettE h
  rw [← es9] at hP
  refine lv_aload_n hx hb d_M_add_10 rfl (lv_at hl 0 rfl) ?_
  refine va_get (D := D) (ci := 5) (v := .ref (q 2)) (C := R_M) (T := T_M) (N := 17) hx hb hts l_M hown hK hP 0 rfl rfl 4 (by decide) (hts _ w_443) (fun _ h9 => h9) rfl d_M_add_11 ?_
  refine lv_aload_n hx hb d_M_add_14 rfl (lv_at hl 0 rfl) ?_
  refine va_get (D := D) (ci := 5) (v := .int (s9 0 1)) (C := R_M) (T := T_M) (N := 17) hx hb hts l_M hown hK hP 0 rfl rfl 1 (by decide) (hts _ w_440) (fun _ h9 => h9) rfl d_M_add_15 ?_
  refine lv_iload_n hx hb d_M_add_18 rfl (lv_at hl 2 rfl) ?_
  obtain ⟨c, h⟩ := ifs h
  refine va_iast hx hb hK hP (hD s9) hS 2 0 rfl rfl c d_M_add_19 (fun H locs hP _ hS => ?_)
  have hP : va_P D vwCl (wM cI cZ q (sr s9 2 (upd (s9 2) (s9 0 1).toNatClampNeg x2)) ++ tl) H := hP
  obtain ⟨s19, es19, h⟩ := lettE h
  rw [← es19] at hP
  refine lv_aload_n hx hb d_M_add_20 rfl (lv_at hl 0 rfl) ?_
  refine va_get (D := D) (ci := 5) (v := .ref (q 3)) (C := R_M) (T := T_M) (N := 17) hx hb hts l_M hown hK hP 0 rfl rfl 5 (by decide) (hts _ w_444) (fun _ h9 => h9) rfl d_M_add_21 ?_
  refine lv_aload_n hx hb d_M_add_24 rfl (lv_at hl 0 rfl) ?_
  refine va_get (D := D) (ci := 5) (v := .int (s19 0 1)) (C := R_M) (T := T_M) (N := 17) hx hb hts l_M hown hK hP 0 rfl rfl 1 (by decide) (hts _ w_440) (fun _ h9 => h9) rfl d_M_add_25 ?_
  refine lv_iconst (v := -1) hx hb d_M_add_28 (by decide) ?_
  obtain ⟨c, h⟩ := ifs h
  refine va_iast hx hb hK hP (hD s19) hS 3 0 rfl rfl c d_M_add_29 (fun H locs hP _ hS => ?_)
  have hP : va_P D vwCl (wM cI cZ q (sr s19 3 (upd (s19 3) (s19 0 1).toNatClampNeg (-1 : Int32))) ++ tl) H := hP
  obtain ⟨s29, es29, h⟩ := lettE h
  rw [← es29] at hP
  refine lv_iload_n hx hb d_M_add_30 rfl (lv_at hl 2 rfl) ?_
  refine lv_if_ne (tgt := 70) hx hb d_M_add_31 (by decide) (fun c => ?_) (fun c => ?_)
  · have h := ifn c h
    refine lv_aload_n hx hb d_M_add_70 rfl (lv_at hl 0 rfl) ?_
    refine lv_iconst (v := 1) hx hb d_M_add_71 (by decide) ?_
    refine va_put (D := D) (ci := 5) (v := .int (1 : Int32)) (ty := .boolean) (C := R_M) (T := T_M) (N := 17) hx hb hts l_M t_M t_M_ok n_M hown hK hP (hD s29) hS 0 rfl rfl 13 (by decide) (hts _ w_452) (fun _ h9 => h9) rfl (by decide +kernel) rfl rfl (Nat.le_of_ble_eq_true rfl) d_M_add_72 (fun H locs hP _ hS => ?_)
    have hP : va_P D vwCl (wM cI cZ q (su s29 0 13 (1 : Int32)) ++ tl) H := hP
    obtain ⟨s72, es72, h⟩ := lettE h
    rw [← es72] at hP
    refine lv_aload_n hx hb d_M_add_75 rfl (lv_at hl 0 rfl) ?_
    refine lv_dup hx hb d_M_add_76 rfl ?_
    refine va_get (D := D) (ci := 5) (v := .int (s72 0 1)) (C := R_M) (T := T_M) (N := 17) hx hb hts l_M hown hK hP 0 rfl rfl 1 (by decide) (hts _ w_440) (fun _ h9 => h9) rfl d_M_add_77 ?_
    refine lv_iconst (v := 1) hx hb d_M_add_80 (by decide) ?_
    refine lv_iadd hx hb d_M_add_81 ?_
    refine va_put (D := D) (ci := 5) (v := .int ((s72 0 1) + (1 : Int32))) (ty := .int) (C := R_M) (T := T_M) (N := 17) hx hb hts l_M t_M t_M_ok n_M hown hK hP (hD s72) hS 0 rfl rfl 1 (by decide) (hts _ w_440) (fun _ h9 => h9) rfl (by decide +kernel) rfl rfl (Nat.le_of_ble_eq_true rfl) d_M_add_82 (fun H locs hP _ hS => ?_)
    have hP : va_P D vwCl (wM cI cZ q (su s72 0 1 ((s72 0 1) + (1 : Int32))) ++ tl) H := hP
    obtain ⟨s82, es82, h⟩ := lettE h
    rw [← es82] at hP
    refine lv_aload_n hx hb d_M_add_85 rfl (lv_at hl 0 rfl) ?_
    refine va_get (D := D) (ci := 5) (v := .int (s82 0 1)) (C := R_M) (T := T_M) (N := 17) hx hb hts l_M hown hK hP 0 rfl rfl 1 (by decide) (hts _ w_440) (fun _ h9 => h9) rfl d_M_add_86 ?_
    refine lv_iconst (v := 1) hx hb d_M_add_89 (by decide) ?_
    refine lv_isub hx hb d_M_add_90 ?_
    cases h
    exact gret_i hx hb hr hlk hP hS d_M_add_91
  have h := ifp c h
  refine lv_aload_n hx hb d_M_add_34 rfl (lv_at hl 0 rfl) ?_
  refine va_get (D := D) (ci := 5) (v := .ref (q 3)) (C := R_M) (T := T_M) (N := 17) hx hb hts l_M hown hK hP 0 rfl rfl 5 (by decide) (hts _ w_444) (fun _ h9 => h9) rfl d_M_add_35 ?_
  refine lv_aload_n hx hb d_M_add_38 rfl (lv_at hl 0 rfl) ?_
  refine va_get (D := D) (ci := 5) (v := .int (s29 0 1)) (C := R_M) (T := T_M) (N := 17) hx hb hts l_M hown hK hP 0 rfl rfl 1 (by decide) (hts _ w_440) (fun _ h9 => h9) rfl d_M_add_39 ?_
  refine lv_aload_n hx hb d_M_add_42 rfl (lv_at hl 0 rfl) ?_
  refine va_get (D := D) (ci := 5) (v := .int (s29 0 2)) (C := R_M) (T := T_M) (N := 17) hx hb hts l_M hown hK hP 0 rfl rfl 2 (by decide) (hts _ w_441) (fun _ h9 => h9) rfl d_M_add_43 ?_
  obtain ⟨c, h⟩ := ifs h
  refine va_iast hx hb hK hP (hD s29) hS 3 0 rfl rfl c d_M_add_46 (fun H locs hP _ hS => ?_)
  have hP : va_P D vwCl (wM cI cZ q (sr s29 3 (upd (s29 3) (s29 0 1).toNatClampNeg (s29 0 2))) ++ tl) H := hP
  obtain ⟨s46, es46, h⟩ := lettE h
  rw [← es46] at hP
  refine lv_aload_n hx hb d_M_add_47 rfl (lv_at hl 0 rfl) ?_
  refine va_get (D := D) (ci := 5) (v := .ref (q 5)) (C := R_M) (T := T_M) (N := 17) hx hb hts l_M hown hK hP 0 rfl rfl 7 (by decide) (hts _ w_446) (fun _ h9 => h9) rfl d_M_add_48 ?_
  refine lv_aload_n hx hb d_M_add_51 rfl (lv_at hl 0 rfl) ?_
  refine va_get (D := D) (ci := 5) (v := .int (s46 0 2)) (C := R_M) (T := T_M) (N := 17) hx hb hts l_M hown hK hP 0 rfl rfl 2 (by decide) (hts _ w_441) (fun _ h9 => h9) rfl d_M_add_52 ?_
  refine lv_aload_n hx hb d_M_add_55 rfl (lv_at hl 0 rfl) ?_
  refine va_get (D := D) (ci := 5) (v := .int (s46 0 1)) (C := R_M) (T := T_M) (N := 17) hx hb hts l_M hown hK hP 0 rfl rfl 1 (by decide) (hts _ w_440) (fun _ h9 => h9) rfl d_M_add_56 ?_
  obtain ⟨c, h⟩ := ifs h
  refine va_iast hx hb hK hP (hD s46) hS 5 0 rfl rfl c d_M_add_59 (fun H locs hP _ hS => ?_)
  have hP : va_P D vwCl (wM cI cZ q (sr s46 5 (upd (s46 5) (s46 0 2).toNatClampNeg (s46 0 1))) ++ tl) H := hP
  obtain ⟨s59, es59, h⟩ := lettE h
  rw [← es59] at hP
  refine lv_aload_n hx hb d_M_add_60 rfl (lv_at hl 0 rfl) ?_
  refine lv_dup hx hb d_M_add_61 rfl ?_
  refine va_get (D := D) (ci := 5) (v := .int (s59 0 2)) (C := R_M) (T := T_M) (N := 17) hx hb hts l_M hown hK hP 0 rfl rfl 2 (by decide) (hts _ w_441) (fun _ h9 => h9) rfl d_M_add_62 ?_
  refine lv_iconst (v := 1) hx hb d_M_add_65 (by decide) ?_
  refine lv_iadd hx hb d_M_add_66 ?_
  refine va_put (D := D) (ci := 5) (v := .int ((s59 0 2) + (1 : Int32))) (ty := .int) (C := R_M) (T := T_M) (N := 17) hx hb hts l_M t_M t_M_ok n_M hown hK hP (hD s59) hS 0 rfl rfl 2 (by decide) (hts _ w_441) (fun _ h9 => h9) rfl (by decide +kernel) rfl rfl (Nat.le_of_ble_eq_true rfl) d_M_add_67 (fun H locs hP _ hS => ?_)
  have hP : va_P D vwCl (wM cI cZ q (su s59 0 2 ((s59 0 2) + (1 : Int32))) ++ tl) H := hP
  obtain ⟨s67, es67, h⟩ := lettE h
  rw [← es67] at hP
  refine lv_aload_n hx hb d_M_add_70 rfl (lv_at hl 0 rfl) ?_
  refine lv_iconst (v := 1) hx hb d_M_add_71 (by decide) ?_
  refine va_put (D := D) (ci := 5) (v := .int (1 : Int32)) (ty := .boolean) (C := R_M) (T := T_M) (N := 17) hx hb hts l_M t_M t_M_ok n_M hown hK hP (hD s67) hS 0 rfl rfl 13 (by decide) (hts _ w_452) (fun _ h9 => h9) rfl (by decide +kernel) rfl rfl (Nat.le_of_ble_eq_true rfl) d_M_add_72 (fun H locs hP _ hS => ?_)
  have hP : va_P D vwCl (wM cI cZ q (su s67 0 13 (1 : Int32)) ++ tl) H := hP
  obtain ⟨s72, es72, h⟩ := lettE h
  rw [← es72] at hP
  refine lv_aload_n hx hb d_M_add_75 rfl (lv_at hl 0 rfl) ?_
  refine lv_dup hx hb d_M_add_76 rfl ?_
  refine va_get (D := D) (ci := 5) (v := .int (s72 0 1)) (C := R_M) (T := T_M) (N := 17) hx hb hts l_M hown hK hP 0 rfl rfl 1 (by decide) (hts _ w_440) (fun _ h9 => h9) rfl d_M_add_77 ?_
  refine lv_iconst (v := 1) hx hb d_M_add_80 (by decide) ?_
  refine lv_iadd hx hb d_M_add_81 ?_
  refine va_put (D := D) (ci := 5) (v := .int ((s72 0 1) + (1 : Int32))) (ty := .int) (C := R_M) (T := T_M) (N := 17) hx hb hts l_M t_M t_M_ok n_M hown hK hP (hD s72) hS 0 rfl rfl 1 (by decide) (hts _ w_440) (fun _ h9 => h9) rfl (by decide +kernel) rfl rfl (Nat.le_of_ble_eq_true rfl) d_M_add_82 (fun H locs hP _ hS => ?_)
  have hP : va_P D vwCl (wM cI cZ q (su s72 0 1 ((s72 0 1) + (1 : Int32))) ++ tl) H := hP
  obtain ⟨s82, es82, h⟩ := lettE h
  rw [← es82] at hP
  refine lv_aload_n hx hb d_M_add_85 rfl (lv_at hl 0 rfl) ?_
  refine va_get (D := D) (ci := 5) (v := .int (s82 0 1)) (C := R_M) (T := T_M) (N := 17) hx hb hts l_M hown hK hP 0 rfl rfl 1 (by decide) (hts _ w_440) (fun _ h9 => h9) rfl d_M_add_86 ?_
  refine lv_iconst (v := 1) hx hb d_M_add_89 (by decide) ?_
  refine lv_isub hx hb d_M_add_90 ?_
  cases h
  exact gret_i hx hb hr hlk hP hS d_M_add_91
/-! ===== EscapeOwnersModel.step(IIIII)I ===== -/
def f_M_step (σ : St) (x1 : Int32) (x2 : Int32) (x3 : Int32) (x4 : Int32) (x5 : Int32) : Option (Int32 × St) := Option.bind (f_M_isMethod σ x1) (fun u2 => if u2 = 0 then (some ((-2 : Int32), σ)) else (Option.bind (f_M_isIn x2 (0 : Int32) (10 : Int32)) (fun u12 => if u12 = 0 then (some ((-2 : Int32), σ)) else (if x2 = (6 : Int32) then (some ((-2 : Int32), σ)) else (Option.bind (f_M_needs x2) (fun u28 => Option.bind (f_M_isNeed x2 (0 : Int32) x3) (fun u36 => if u36 = 0 then (some ((-2 : Int32), σ)) else (if u28 ≤ (1 : Int32) then (if u28 ≤ (2 : Int32) then (if (σ 0 1) = (64 : Int32) then (some ((-3 : Int32), σ)) else (if x2 = 0 then (if (σ 0 2) = (16 : Int32) then (some ((-3 : Int32), σ)) else (if ¬ (((5 : Int32) * (σ 0 1)) < 0 ∨ 320 ≤ ((5 : Int32) * (σ 0 1)).toNatClampNeg) then (lett (sr σ 4 (upd (σ 4) ((5 : Int32) * (σ 0 1)).toNatClampNeg x3)) (fun s113 => if ¬ ((((5 : Int32) * (s113 0 1)) + (1 : Int32)) < 0 ∨ 320 ≤ (((5 : Int32) * (s113 0 1)) + (1 : Int32)).toNatClampNeg) then (lett (sr s113 4 (upd (s113 4) (((5 : Int32) * (s113 0 1)) + (1 : Int32)).toNatClampNeg x4)) (fun s128 => if ¬ ((((5 : Int32) * (s128 0 1)) + (2 : Int32)) < 0 ∨ 320 ≤ (((5 : Int32) * (s128 0 1)) + (2 : Int32)).toNatClampNeg) then (lett (sr s128 4 (upd (s128 4) (((5 : Int32) * (s128 0 1)) + (2 : Int32)).toNatClampNeg x5)) (fun s143 => Option.bind (f_M_add s143 x1 x2) (fun u147 => some (u147.1, u147.2)))) else none)) else none)) else none)) else (if ¬ (((5 : Int32) * (σ 0 1)) < 0 ∨ 320 ≤ ((5 : Int32) * (σ 0 1)).toNatClampNeg) then (lett (sr σ 4 (upd (σ 4) ((5 : Int32) * (σ 0 1)).toNatClampNeg x3)) (fun s113 => if ¬ ((((5 : Int32) * (s113 0 1)) + (1 : Int32)) < 0 ∨ 320 ≤ (((5 : Int32) * (s113 0 1)) + (1 : Int32)).toNatClampNeg) then (lett (sr s113 4 (upd (s113 4) (((5 : Int32) * (s113 0 1)) + (1 : Int32)).toNatClampNeg x4)) (fun s128 => if ¬ ((((5 : Int32) * (s128 0 1)) + (2 : Int32)) < 0 ∨ 320 ≤ (((5 : Int32) * (s128 0 1)) + (2 : Int32)).toNatClampNeg) then (lett (sr s128 4 (upd (s128 4) (((5 : Int32) * (s128 0 1)) + (2 : Int32)).toNatClampNeg x5)) (fun s143 => Option.bind (f_M_add s143 x1 x2) (fun u147 => some (u147.1, u147.2)))) else none)) else none)) else none))) else (Option.bind (f_M_isNeed x2 (2 : Int32) x5) (fun u68 => if u68 = 0 then (some ((-2 : Int32), σ)) else (if (σ 0 1) = (64 : Int32) then (some ((-3 : Int32), σ)) else (if x2 = 0 then (if (σ 0 2) = (16 : Int32) then (some ((-3 : Int32), σ)) else (if ¬ (((5 : Int32) * (σ 0 1)) < 0 ∨ 320 ≤ ((5 : Int32) * (σ 0 1)).toNatClampNeg) then (lett (sr σ 4 (upd (σ 4) ((5 : Int32) * (σ 0 1)).toNatClampNeg x3)) (fun s113 => if ¬ ((((5 : Int32) * (s113 0 1)) + (1 : Int32)) < 0 ∨ 320 ≤ (((5 : Int32) * (s113 0 1)) + (1 : Int32)).toNatClampNeg) then (lett (sr s113 4 (upd (s113 4) (((5 : Int32) * (s113 0 1)) + (1 : Int32)).toNatClampNeg x4)) (fun s128 => if ¬ ((((5 : Int32) * (s128 0 1)) + (2 : Int32)) < 0 ∨ 320 ≤ (((5 : Int32) * (s128 0 1)) + (2 : Int32)).toNatClampNeg) then (lett (sr s128 4 (upd (s128 4) (((5 : Int32) * (s128 0 1)) + (2 : Int32)).toNatClampNeg x5)) (fun s143 => Option.bind (f_M_add s143 x1 x2) (fun u147 => some (u147.1, u147.2)))) else none)) else none)) else none)) else (if ¬ (((5 : Int32) * (σ 0 1)) < 0 ∨ 320 ≤ ((5 : Int32) * (σ 0 1)).toNatClampNeg) then (lett (sr σ 4 (upd (σ 4) ((5 : Int32) * (σ 0 1)).toNatClampNeg x3)) (fun s113 => if ¬ ((((5 : Int32) * (s113 0 1)) + (1 : Int32)) < 0 ∨ 320 ≤ (((5 : Int32) * (s113 0 1)) + (1 : Int32)).toNatClampNeg) then (lett (sr s113 4 (upd (s113 4) (((5 : Int32) * (s113 0 1)) + (1 : Int32)).toNatClampNeg x4)) (fun s128 => if ¬ ((((5 : Int32) * (s128 0 1)) + (2 : Int32)) < 0 ∨ 320 ≤ (((5 : Int32) * (s128 0 1)) + (2 : Int32)).toNatClampNeg) then (lett (sr s128 4 (upd (s128 4) (((5 : Int32) * (s128 0 1)) + (2 : Int32)).toNatClampNeg x5)) (fun s143 => Option.bind (f_M_add s143 x1 x2) (fun u147 => some (u147.1, u147.2)))) else none)) else none)) else none)))))) else (Option.bind (f_M_isNeed x2 (1 : Int32) x4) (fun u52 => if u52 = 0 then (some ((-2 : Int32), σ)) else (if u28 ≤ (2 : Int32) then (if (σ 0 1) = (64 : Int32) then (some ((-3 : Int32), σ)) else (if x2 = 0 then (if (σ 0 2) = (16 : Int32) then (some ((-3 : Int32), σ)) else (if ¬ (((5 : Int32) * (σ 0 1)) < 0 ∨ 320 ≤ ((5 : Int32) * (σ 0 1)).toNatClampNeg) then (lett (sr σ 4 (upd (σ 4) ((5 : Int32) * (σ 0 1)).toNatClampNeg x3)) (fun s113 => if ¬ ((((5 : Int32) * (s113 0 1)) + (1 : Int32)) < 0 ∨ 320 ≤ (((5 : Int32) * (s113 0 1)) + (1 : Int32)).toNatClampNeg) then (lett (sr s113 4 (upd (s113 4) (((5 : Int32) * (s113 0 1)) + (1 : Int32)).toNatClampNeg x4)) (fun s128 => if ¬ ((((5 : Int32) * (s128 0 1)) + (2 : Int32)) < 0 ∨ 320 ≤ (((5 : Int32) * (s128 0 1)) + (2 : Int32)).toNatClampNeg) then (lett (sr s128 4 (upd (s128 4) (((5 : Int32) * (s128 0 1)) + (2 : Int32)).toNatClampNeg x5)) (fun s143 => Option.bind (f_M_add s143 x1 x2) (fun u147 => some (u147.1, u147.2)))) else none)) else none)) else none)) else (if ¬ (((5 : Int32) * (σ 0 1)) < 0 ∨ 320 ≤ ((5 : Int32) * (σ 0 1)).toNatClampNeg) then (lett (sr σ 4 (upd (σ 4) ((5 : Int32) * (σ 0 1)).toNatClampNeg x3)) (fun s113 => if ¬ ((((5 : Int32) * (s113 0 1)) + (1 : Int32)) < 0 ∨ 320 ≤ (((5 : Int32) * (s113 0 1)) + (1 : Int32)).toNatClampNeg) then (lett (sr s113 4 (upd (s113 4) (((5 : Int32) * (s113 0 1)) + (1 : Int32)).toNatClampNeg x4)) (fun s128 => if ¬ ((((5 : Int32) * (s128 0 1)) + (2 : Int32)) < 0 ∨ 320 ≤ (((5 : Int32) * (s128 0 1)) + (2 : Int32)).toNatClampNeg) then (lett (sr s128 4 (upd (s128 4) (((5 : Int32) * (s128 0 1)) + (2 : Int32)).toNatClampNeg x5)) (fun s143 => Option.bind (f_M_add s143 x1 x2) (fun u147 => some (u147.1, u147.2)))) else none)) else none)) else none))) else (Option.bind (f_M_isNeed x2 (2 : Int32) x5) (fun u68 => if u68 = 0 then (some ((-2 : Int32), σ)) else (if (σ 0 1) = (64 : Int32) then (some ((-3 : Int32), σ)) else (if x2 = 0 then (if (σ 0 2) = (16 : Int32) then (some ((-3 : Int32), σ)) else (if ¬ (((5 : Int32) * (σ 0 1)) < 0 ∨ 320 ≤ ((5 : Int32) * (σ 0 1)).toNatClampNeg) then (lett (sr σ 4 (upd (σ 4) ((5 : Int32) * (σ 0 1)).toNatClampNeg x3)) (fun s113 => if ¬ ((((5 : Int32) * (s113 0 1)) + (1 : Int32)) < 0 ∨ 320 ≤ (((5 : Int32) * (s113 0 1)) + (1 : Int32)).toNatClampNeg) then (lett (sr s113 4 (upd (s113 4) (((5 : Int32) * (s113 0 1)) + (1 : Int32)).toNatClampNeg x4)) (fun s128 => if ¬ ((((5 : Int32) * (s128 0 1)) + (2 : Int32)) < 0 ∨ 320 ≤ (((5 : Int32) * (s128 0 1)) + (2 : Int32)).toNatClampNeg) then (lett (sr s128 4 (upd (s128 4) (((5 : Int32) * (s128 0 1)) + (2 : Int32)).toNatClampNeg x5)) (fun s143 => Option.bind (f_M_add s143 x1 x2) (fun u147 => some (u147.1, u147.2)))) else none)) else none)) else none)) else (if ¬ (((5 : Int32) * (σ 0 1)) < 0 ∨ 320 ≤ ((5 : Int32) * (σ 0 1)).toNatClampNeg) then (lett (sr σ 4 (upd (σ 4) ((5 : Int32) * (σ 0 1)).toNatClampNeg x3)) (fun s113 => if ¬ ((((5 : Int32) * (s113 0 1)) + (1 : Int32)) < 0 ∨ 320 ≤ (((5 : Int32) * (s113 0 1)) + (1 : Int32)).toNatClampNeg) then (lett (sr s113 4 (upd (s113 4) (((5 : Int32) * (s113 0 1)) + (1 : Int32)).toNatClampNeg x4)) (fun s128 => if ¬ ((((5 : Int32) * (s128 0 1)) + (2 : Int32)) < 0 ∨ 320 ≤ (((5 : Int32) * (s128 0 1)) + (2 : Int32)).toNatClampNeg) then (lett (sr s128 4 (upd (s128 4) (((5 : Int32) * (s128 0 1)) + (2 : Int32)).toNatClampNeg x5)) (fun s143 => Option.bind (f_M_add s143 x1 x2) (fun u147 => some (u147.1, u147.2)))) else none)) else none)) else none))))))))))))))))
set_option maxHeartbeats 4000000 in
set_option maxRecDepth 100000 in
theorem c_M_step (l : Launch) (D : va_G) (cI cZ : ClassId) (tL : Nat) (q : Nat → Nat) (tl : va_W) (σ : St) (x1 : Int32) (x2 : Int32) (x3 : Int32) (x4 : Int32) (x5 : Int32) (out0 : Int32 × St) (h : f_M_step σ x1 x2 x3 x4 x5 = some out0) : gCi l y_M_step (.code y_M_step b_M_step 7 (some .int) :: TB) { frames := 3, cells := 0, slots := 0, locals := 65 } D [(cI, .int), (cZ, .boolean)] tL [.ref (q 0), .int x1, .int x2, .int x3, .int x4, .int x5] (wM cI cZ q σ ++ tl) out0.1 (wM cI cZ q out0.2 ++ tl) := by
  refine gCi_of (cc := b_M_step) (maxL := 7) (ty := .int) (by decide) rfl (Nat.le_of_ble_eq_true rfl) ?_
  intro p e s m below meth c A ls hf hr hlk hA hK hD0 hE hP hl
  obtain ⟨hx, hb, hml, hown, hts⟩ := id hf
  have hts : ∀ w ∈ TB, w.before _ s = true := fun w h => hts w (List.mem_cons_of_mem _ h)
  have hown : s.vm.findClass R_M = some m.cls := hown
  have hl : lv_has ls 7 [(0, .ref (q 0)), (1, .int x1), (2, .int x2), (3, .int x3), (4, .int x4), (5, .int x5)] := hl
  have hS : va_S A s.heap s.heap [] := va_S.rf
  have hD : ∀ σ' : St, va_D A (wM cI cZ q σ' ++ tl) := fun σ' => va_Dsame hD0 rfl
  unfold f_M_step at h
  refine lv_aload_n hx hb d_M_step_0 rfl (lv_at hl 0 rfl) ?_
  refine lv_iload_n hx hb d_M_step_1 rfl (lv_at hl 1 rfl) ?_
  obtain ⟨u2, hu2, h⟩ := bnd h
  refine gcall_i (va_runV (As := [.int x1]) (rest := []) ⟨hx, hb, hml, hown, hts⟩ (c_M_isMethod l D cI cZ tL q tl σ x1 u2 hu2 s.heap.size) (cwV 1 hts (gV w_483 w_484 w_714 w_6 w_485) rfl rfl rfl (by decide +kernel) ⟨Nat.le_of_ble_eq_true rfl, Nat.le_of_ble_eq_true rfl⟩) (gpV (k := 0) (ci := 5) hA hK (hD σ) hE hP hS rfl rfl) rfl rfl hl.1 rfl (lv_room (Nat.le_of_ble_eq_true rfl)) d_M_step_2 ⟨Nat.le_of_ble_eq_true rfl, Nat.le_of_ble_eq_true rfl⟩) hA (hD σ) hS (fun H locs hP hS => ?_)
  refine lv_if_eq (tgt := 24) hx hb d_M_step_5 (by decide) (fun c => ?_) (fun c => ?_)
  · have h := ifp c h
    refine lv_bipush (v := -2) hx hb d_M_step_24 (by decide) ?_
    cases h
    exact gret_i hx hb hr hlk hP hS d_M_step_26
  have h := ifn c h
  refine lv_iload_n hx hb d_M_step_8 rfl (lv_at hl 2 rfl) ?_
  refine lv_iconst (v := 0) hx hb d_M_step_9 (by decide) ?_
  refine lv_bipush (v := 10) hx hb d_M_step_10 (by decide) ?_
  obtain ⟨u12, hu12, h⟩ := bnd h
  refine gcall_i (va_runS (As := [.int x2, .int (0 : Int32), .int (10 : Int32)]) (rest := []) ⟨hx, hb, hml, hown, hts⟩ (c_M_isIn l D cI cZ tL (wM cI cZ q σ ++ tl) x2 (0 : Int32) (10 : Int32) u12 hu12 H.size) (va_cwS 3 hts (gS w_486 w_487 w_6 w_488) rfl rfl rfl (by decide +kernel) ⟨Nat.le_of_ble_eq_true rfl, Nat.le_of_ble_eq_true rfl⟩) (gpS hA hK (hD σ) hE hP hS) rfl rfl hl.1 rfl (lv_room (Nat.le_of_ble_eq_true rfl)) d_M_step_12 ⟨Nat.le_of_ble_eq_true rfl, Nat.le_of_ble_eq_true rfl⟩) hA (hD σ) hS (fun H locs hP hS => ?_)
  refine lv_if_eq (tgt := 24) hx hb d_M_step_15 (by decide) (fun c => ?_) (fun c => ?_)
  · have h := ifp c h
    refine lv_bipush (v := -2) hx hb d_M_step_24 (by decide) ?_
    cases h
    exact gret_i hx hb hr hlk hP hS d_M_step_26
  have h := ifn c h
  refine lv_iload_n hx hb d_M_step_18 rfl (lv_at hl 2 rfl) ?_
  refine lv_bipush (v := 6) hx hb d_M_step_19 (by decide) ?_
  refine lv_icmp_ne (tgt := 27) hx hb d_M_step_21 (by decide) (fun c => ?_) (fun c => ?_)
  · have h := ifn c h
    refine lv_iload_n hx hb d_M_step_27 rfl (lv_at hl 2 rfl) ?_
    obtain ⟨u28, hu28, h⟩ := bnd h
    refine gcall_i (va_runS (As := [.int x2]) (rest := []) ⟨hx, hb, hml, hown, hts⟩ (c_M_needs l D cI cZ tL (wM cI cZ q σ ++ tl) x2 u28 hu28 H.size) (va_cwS 1 hts (gS w_489 w_490 w_6 w_491) rfl rfl rfl (by decide +kernel) ⟨Nat.le_of_ble_eq_true rfl, Nat.le_of_ble_eq_true rfl⟩) (gpS hA hK (hD σ) hE hP hS) rfl rfl hl.1 rfl (lv_room (Nat.le_of_ble_eq_true rfl)) d_M_step_28 ⟨Nat.le_of_ble_eq_true rfl, Nat.le_of_ble_eq_true rfl⟩) hA (hD σ) hS (fun H locs hP hS => ?_)
    refine lv_istore (lv' := [(6, .int u28), (0, .ref (q 0)), (1, .int x1), (2, .int x2), (3, .int x3), (4, .int x4), (5, .int x5)]) hx hb d_M_step_31 hl (by decide) rfl (fun ls hl => ?_)
    refine lv_iload_n hx hb d_M_step_33 rfl (lv_at hl 3 rfl) ?_
    refine lv_iconst (v := 0) hx hb d_M_step_34 (by decide) ?_
    refine lv_iload_n hx hb d_M_step_35 rfl (lv_at hl 4 rfl) ?_
    obtain ⟨u36, hu36, h⟩ := bnd h
    refine gcall_i (va_runS (As := [.int x2, .int (0 : Int32), .int x3]) (rest := []) ⟨hx, hb, hml, hown, hts⟩ (c_M_isNeed l D cI cZ tL (wM cI cZ q σ ++ tl) x2 (0 : Int32) x3 u36 hu36 H.size) (va_cwS 3 hts (gS w_492 w_493 w_6 w_494) rfl rfl rfl (by decide +kernel) ⟨Nat.le_of_ble_eq_true rfl, Nat.le_of_ble_eq_true rfl⟩) (gpS hA hK (hD σ) hE hP hS) rfl rfl hl.1 rfl (lv_room (Nat.le_of_ble_eq_true rfl)) d_M_step_36 ⟨Nat.le_of_ble_eq_true rfl, Nat.le_of_ble_eq_true rfl⟩) hA (hD σ) hS (fun H locs hP hS => ?_)
    refine lv_if_eq (tgt := 74) hx hb d_M_step_39 (by decide) (fun c => ?_) (fun c => ?_)
    · have h := ifp c h
      refine lv_bipush (v := -2) hx hb d_M_step_74 (by decide) ?_
      cases h
      exact gret_i hx hb hr hlk hP hS d_M_step_76
    have h := ifn c h
    refine lv_iload hx hb d_M_step_42 (lv_at hl 0 rfl) ?_
    refine lv_iconst (v := 1) hx hb d_M_step_44 (by decide) ?_
    refine lv_icmp_le (tgt := 58) hx hb d_M_step_45 (by decide) (fun c => ?_) (fun c => ?_)
    · have h := ifp c h
      refine lv_iload hx hb d_M_step_58 (lv_at hl 0 rfl) ?_
      refine lv_iconst (v := 2) hx hb d_M_step_60 (by decide) ?_
      refine lv_icmp_le (tgt := 77) hx hb d_M_step_61 (by decide) (fun c => ?_) (fun c => ?_)
      · have h := ifp c h
        refine lv_aload_n hx hb d_M_step_77 rfl (lv_at hl 1 rfl) ?_
        refine va_get (D := D) (ci := 5) (v := .int (σ 0 1)) (C := R_M) (T := T_M) (N := 17) hx hb hts l_M hown hK hP 0 rfl rfl 1 (by decide) (hts _ w_440) (fun _ h9 => h9) rfl d_M_step_78 ?_
        refine lv_bipush (v := 64) hx hb d_M_step_81 (by decide) ?_
        refine lv_icmp_eq (tgt := 99) hx hb d_M_step_83 (by decide) (fun c => ?_) (fun c => ?_)
        · have h := ifp c h
          refine lv_bipush (v := -3) hx hb d_M_step_99 (by decide) ?_
          cases h
          exact gret_i hx hb hr hlk hP hS d_M_step_101
        have h := ifn c h
        refine lv_iload_n hx hb d_M_step_86 rfl (lv_at hl 3 rfl) ?_
        refine lv_if_ne (tgt := 102) hx hb d_M_step_87 (by decide) (fun c => ?_) (fun c => ?_)
        · have h := ifn c h
          refine lv_aload_n hx hb d_M_step_102 rfl (lv_at hl 1 rfl) ?_
          refine va_get (D := D) (ci := 5) (v := .ref (q 4)) (C := R_M) (T := T_M) (N := 17) hx hb hts l_M hown hK hP 0 rfl rfl 6 (by decide) (hts _ w_445) (fun _ h9 => h9) rfl d_M_step_103 ?_
          refine lv_iconst (v := 5) hx hb d_M_step_106 (by decide) ?_
          refine lv_aload_n hx hb d_M_step_107 rfl (lv_at hl 1 rfl) ?_
          refine va_get (D := D) (ci := 5) (v := .int (σ 0 1)) (C := R_M) (T := T_M) (N := 17) hx hb hts l_M hown hK hP 0 rfl rfl 1 (by decide) (hts _ w_440) (fun _ h9 => h9) rfl d_M_step_108 ?_
          refine lv_imul hx hb d_M_step_111 ?_
          refine lv_iload_n hx hb d_M_step_112 rfl (lv_at hl 4 rfl) ?_
          obtain ⟨c, h⟩ := ifs h
          refine va_iast hx hb hK hP (hD σ) hS 4 0 rfl rfl c d_M_step_113 (fun H locs hP _ hS => ?_)
          have hP : va_P D vwCl (wM cI cZ q (sr σ 4 (upd (σ 4) ((5 : Int32) * (σ 0 1)).toNatClampNeg x3)) ++ tl) H := hP
          obtain ⟨s113, es113, h⟩ := lettE h
          rw [← es113] at hP
          refine lv_aload_n hx hb d_M_step_114 rfl (lv_at hl 1 rfl) ?_
          refine va_get (D := D) (ci := 5) (v := .ref (q 4)) (C := R_M) (T := T_M) (N := 17) hx hb hts l_M hown hK hP 0 rfl rfl 6 (by decide) (hts _ w_445) (fun _ h9 => h9) rfl d_M_step_115 ?_
          refine lv_iconst (v := 5) hx hb d_M_step_118 (by decide) ?_
          refine lv_aload_n hx hb d_M_step_119 rfl (lv_at hl 1 rfl) ?_
          refine va_get (D := D) (ci := 5) (v := .int (s113 0 1)) (C := R_M) (T := T_M) (N := 17) hx hb hts l_M hown hK hP 0 rfl rfl 1 (by decide) (hts _ w_440) (fun _ h9 => h9) rfl d_M_step_120 ?_
          refine lv_imul hx hb d_M_step_123 ?_
          refine lv_iconst (v := 1) hx hb d_M_step_124 (by decide) ?_
          refine lv_iadd hx hb d_M_step_125 ?_
          refine lv_iload hx hb d_M_step_126 (lv_at hl 5 rfl) ?_
          obtain ⟨c, h⟩ := ifs h
          refine va_iast hx hb hK hP (hD s113) hS 4 0 rfl rfl c d_M_step_128 (fun H locs hP _ hS => ?_)
          have hP : va_P D vwCl (wM cI cZ q (sr s113 4 (upd (s113 4) (((5 : Int32) * (s113 0 1)) + (1 : Int32)).toNatClampNeg x4)) ++ tl) H := hP
          obtain ⟨s128, es128, h⟩ := lettE h
          rw [← es128] at hP
          refine lv_aload_n hx hb d_M_step_129 rfl (lv_at hl 1 rfl) ?_
          refine va_get (D := D) (ci := 5) (v := .ref (q 4)) (C := R_M) (T := T_M) (N := 17) hx hb hts l_M hown hK hP 0 rfl rfl 6 (by decide) (hts _ w_445) (fun _ h9 => h9) rfl d_M_step_130 ?_
          refine lv_iconst (v := 5) hx hb d_M_step_133 (by decide) ?_
          refine lv_aload_n hx hb d_M_step_134 rfl (lv_at hl 1 rfl) ?_
          refine va_get (D := D) (ci := 5) (v := .int (s128 0 1)) (C := R_M) (T := T_M) (N := 17) hx hb hts l_M hown hK hP 0 rfl rfl 1 (by decide) (hts _ w_440) (fun _ h9 => h9) rfl d_M_step_135 ?_
          refine lv_imul hx hb d_M_step_138 ?_
          refine lv_iconst (v := 2) hx hb d_M_step_139 (by decide) ?_
          refine lv_iadd hx hb d_M_step_140 ?_
          refine lv_iload hx hb d_M_step_141 (lv_at hl 6 rfl) ?_
          obtain ⟨c, h⟩ := ifs h
          refine va_iast hx hb hK hP (hD s128) hS 4 0 rfl rfl c d_M_step_143 (fun H locs hP _ hS => ?_)
          have hP : va_P D vwCl (wM cI cZ q (sr s128 4 (upd (s128 4) (((5 : Int32) * (s128 0 1)) + (2 : Int32)).toNatClampNeg x5)) ++ tl) H := hP
          obtain ⟨s143, es143, h⟩ := lettE h
          rw [← es143] at hP
          refine lv_aload_n hx hb d_M_step_144 rfl (lv_at hl 1 rfl) ?_
          refine lv_iload_n hx hb d_M_step_145 rfl (lv_at hl 2 rfl) ?_
          refine lv_iload_n hx hb d_M_step_146 rfl (lv_at hl 3 rfl) ?_
          obtain ⟨u147, hu147, h⟩ := bnd h
          refine gcall_i (va_runV (As := [.int x1, .int x2]) (rest := []) ⟨hx, hb, hml, hown, hts⟩ (c_M_add l D cI cZ tL q tl s143 x1 x2 u147 hu147 H.size) (cwV 2 hts (gV w_498 w_499 w_694 w_6 w_500) rfl rfl rfl (by decide +kernel) ⟨Nat.le_of_ble_eq_true rfl, Nat.le_of_ble_eq_true rfl⟩) (gpV (k := 0) (ci := 5) hA hK (hD s143) hE hP hS rfl rfl) rfl rfl hl.1 rfl (lv_room (Nat.le_of_ble_eq_true rfl)) d_M_step_147 ⟨Nat.le_of_ble_eq_true rfl, Nat.le_of_ble_eq_true rfl⟩) hA (hD s143) hS (fun H locs hP hS => ?_)
          cases h
          exact gret_i hx hb hr hlk hP hS d_M_step_150
        have h := ifp c h
        refine lv_aload_n hx hb d_M_step_90 rfl (lv_at hl 1 rfl) ?_
        refine va_get (D := D) (ci := 5) (v := .int (σ 0 2)) (C := R_M) (T := T_M) (N := 17) hx hb hts l_M hown hK hP 0 rfl rfl 2 (by decide) (hts _ w_441) (fun _ h9 => h9) rfl d_M_step_91 ?_
        refine lv_bipush (v := 16) hx hb d_M_step_94 (by decide) ?_
        refine lv_icmp_ne (tgt := 102) hx hb d_M_step_96 (by decide) (fun c => ?_) (fun c => ?_)
        · have h := ifn c h
          refine lv_aload_n hx hb d_M_step_102 rfl (lv_at hl 1 rfl) ?_
          refine va_get (D := D) (ci := 5) (v := .ref (q 4)) (C := R_M) (T := T_M) (N := 17) hx hb hts l_M hown hK hP 0 rfl rfl 6 (by decide) (hts _ w_445) (fun _ h9 => h9) rfl d_M_step_103 ?_
          refine lv_iconst (v := 5) hx hb d_M_step_106 (by decide) ?_
          refine lv_aload_n hx hb d_M_step_107 rfl (lv_at hl 1 rfl) ?_
          refine va_get (D := D) (ci := 5) (v := .int (σ 0 1)) (C := R_M) (T := T_M) (N := 17) hx hb hts l_M hown hK hP 0 rfl rfl 1 (by decide) (hts _ w_440) (fun _ h9 => h9) rfl d_M_step_108 ?_
          refine lv_imul hx hb d_M_step_111 ?_
          refine lv_iload_n hx hb d_M_step_112 rfl (lv_at hl 4 rfl) ?_
          obtain ⟨c, h⟩ := ifs h
          refine va_iast hx hb hK hP (hD σ) hS 4 0 rfl rfl c d_M_step_113 (fun H locs hP _ hS => ?_)
          have hP : va_P D vwCl (wM cI cZ q (sr σ 4 (upd (σ 4) ((5 : Int32) * (σ 0 1)).toNatClampNeg x3)) ++ tl) H := hP
          obtain ⟨s113, es113, h⟩ := lettE h
          rw [← es113] at hP
          refine lv_aload_n hx hb d_M_step_114 rfl (lv_at hl 1 rfl) ?_
          refine va_get (D := D) (ci := 5) (v := .ref (q 4)) (C := R_M) (T := T_M) (N := 17) hx hb hts l_M hown hK hP 0 rfl rfl 6 (by decide) (hts _ w_445) (fun _ h9 => h9) rfl d_M_step_115 ?_
          refine lv_iconst (v := 5) hx hb d_M_step_118 (by decide) ?_
          refine lv_aload_n hx hb d_M_step_119 rfl (lv_at hl 1 rfl) ?_
          refine va_get (D := D) (ci := 5) (v := .int (s113 0 1)) (C := R_M) (T := T_M) (N := 17) hx hb hts l_M hown hK hP 0 rfl rfl 1 (by decide) (hts _ w_440) (fun _ h9 => h9) rfl d_M_step_120 ?_
          refine lv_imul hx hb d_M_step_123 ?_
          refine lv_iconst (v := 1) hx hb d_M_step_124 (by decide) ?_
          refine lv_iadd hx hb d_M_step_125 ?_
          refine lv_iload hx hb d_M_step_126 (lv_at hl 5 rfl) ?_
          obtain ⟨c, h⟩ := ifs h
          refine va_iast hx hb hK hP (hD s113) hS 4 0 rfl rfl c d_M_step_128 (fun H locs hP _ hS => ?_)
          have hP : va_P D vwCl (wM cI cZ q (sr s113 4 (upd (s113 4) (((5 : Int32) * (s113 0 1)) + (1 : Int32)).toNatClampNeg x4)) ++ tl) H := hP
          obtain ⟨s128, es128, h⟩ := lettE h
          rw [← es128] at hP
          refine lv_aload_n hx hb d_M_step_129 rfl (lv_at hl 1 rfl) ?_
          refine va_get (D := D) (ci := 5) (v := .ref (q 4)) (C := R_M) (T := T_M) (N := 17) hx hb hts l_M hown hK hP 0 rfl rfl 6 (by decide) (hts _ w_445) (fun _ h9 => h9) rfl d_M_step_130 ?_
          refine lv_iconst (v := 5) hx hb d_M_step_133 (by decide) ?_
          refine lv_aload_n hx hb d_M_step_134 rfl (lv_at hl 1 rfl) ?_
          refine va_get (D := D) (ci := 5) (v := .int (s128 0 1)) (C := R_M) (T := T_M) (N := 17) hx hb hts l_M hown hK hP 0 rfl rfl 1 (by decide) (hts _ w_440) (fun _ h9 => h9) rfl d_M_step_135 ?_
          refine lv_imul hx hb d_M_step_138 ?_
          refine lv_iconst (v := 2) hx hb d_M_step_139 (by decide) ?_
          refine lv_iadd hx hb d_M_step_140 ?_
          refine lv_iload hx hb d_M_step_141 (lv_at hl 6 rfl) ?_
          obtain ⟨c, h⟩ := ifs h
          refine va_iast hx hb hK hP (hD s128) hS 4 0 rfl rfl c d_M_step_143 (fun H locs hP _ hS => ?_)
          have hP : va_P D vwCl (wM cI cZ q (sr s128 4 (upd (s128 4) (((5 : Int32) * (s128 0 1)) + (2 : Int32)).toNatClampNeg x5)) ++ tl) H := hP
          obtain ⟨s143, es143, h⟩ := lettE h
          rw [← es143] at hP
          refine lv_aload_n hx hb d_M_step_144 rfl (lv_at hl 1 rfl) ?_
          refine lv_iload_n hx hb d_M_step_145 rfl (lv_at hl 2 rfl) ?_
          refine lv_iload_n hx hb d_M_step_146 rfl (lv_at hl 3 rfl) ?_
          obtain ⟨u147, hu147, h⟩ := bnd h
          refine gcall_i (va_runV (As := [.int x1, .int x2]) (rest := []) ⟨hx, hb, hml, hown, hts⟩ (c_M_add l D cI cZ tL q tl s143 x1 x2 u147 hu147 H.size) (cwV 2 hts (gV w_498 w_499 w_694 w_6 w_500) rfl rfl rfl (by decide +kernel) ⟨Nat.le_of_ble_eq_true rfl, Nat.le_of_ble_eq_true rfl⟩) (gpV (k := 0) (ci := 5) hA hK (hD s143) hE hP hS rfl rfl) rfl rfl hl.1 rfl (lv_room (Nat.le_of_ble_eq_true rfl)) d_M_step_147 ⟨Nat.le_of_ble_eq_true rfl, Nat.le_of_ble_eq_true rfl⟩) hA (hD s143) hS (fun H locs hP hS => ?_)
          cases h
          exact gret_i hx hb hr hlk hP hS d_M_step_150
        have h := ifp c h
        refine lv_bipush (v := -3) hx hb d_M_step_99 (by decide) ?_
        cases h
        exact gret_i hx hb hr hlk hP hS d_M_step_101
      have h := ifn c h
      refine lv_iload_n hx hb d_M_step_64 rfl (lv_at hl 3 rfl) ?_
      refine lv_iconst (v := 2) hx hb d_M_step_65 (by decide) ?_
      refine lv_iload hx hb d_M_step_66 (lv_at hl 6 rfl) ?_
      obtain ⟨u68, hu68, h⟩ := bnd h
      refine gcall_i (va_runS (As := [.int x2, .int (2 : Int32), .int x5]) (rest := []) ⟨hx, hb, hml, hown, hts⟩ (c_M_isNeed l D cI cZ tL (wM cI cZ q σ ++ tl) x2 (2 : Int32) x5 u68 hu68 H.size) (va_cwS 3 hts (gS w_492 w_493 w_6 w_494) rfl rfl rfl (by decide +kernel) ⟨Nat.le_of_ble_eq_true rfl, Nat.le_of_ble_eq_true rfl⟩) (gpS hA hK (hD σ) hE hP hS) rfl rfl hl.1 rfl (lv_room (Nat.le_of_ble_eq_true rfl)) d_M_step_68 ⟨Nat.le_of_ble_eq_true rfl, Nat.le_of_ble_eq_true rfl⟩) hA (hD σ) hS (fun H locs hP hS => ?_)
      refine lv_if_ne (tgt := 77) hx hb d_M_step_71 (by decide) (fun c => ?_) (fun c => ?_)
      · have h := ifn c h
        refine lv_aload_n hx hb d_M_step_77 rfl (lv_at hl 1 rfl) ?_
        refine va_get (D := D) (ci := 5) (v := .int (σ 0 1)) (C := R_M) (T := T_M) (N := 17) hx hb hts l_M hown hK hP 0 rfl rfl 1 (by decide) (hts _ w_440) (fun _ h9 => h9) rfl d_M_step_78 ?_
        refine lv_bipush (v := 64) hx hb d_M_step_81 (by decide) ?_
        refine lv_icmp_eq (tgt := 99) hx hb d_M_step_83 (by decide) (fun c => ?_) (fun c => ?_)
        · have h := ifp c h
          refine lv_bipush (v := -3) hx hb d_M_step_99 (by decide) ?_
          cases h
          exact gret_i hx hb hr hlk hP hS d_M_step_101
        have h := ifn c h
        refine lv_iload_n hx hb d_M_step_86 rfl (lv_at hl 3 rfl) ?_
        refine lv_if_ne (tgt := 102) hx hb d_M_step_87 (by decide) (fun c => ?_) (fun c => ?_)
        · have h := ifn c h
          refine lv_aload_n hx hb d_M_step_102 rfl (lv_at hl 1 rfl) ?_
          refine va_get (D := D) (ci := 5) (v := .ref (q 4)) (C := R_M) (T := T_M) (N := 17) hx hb hts l_M hown hK hP 0 rfl rfl 6 (by decide) (hts _ w_445) (fun _ h9 => h9) rfl d_M_step_103 ?_
          refine lv_iconst (v := 5) hx hb d_M_step_106 (by decide) ?_
          refine lv_aload_n hx hb d_M_step_107 rfl (lv_at hl 1 rfl) ?_
          refine va_get (D := D) (ci := 5) (v := .int (σ 0 1)) (C := R_M) (T := T_M) (N := 17) hx hb hts l_M hown hK hP 0 rfl rfl 1 (by decide) (hts _ w_440) (fun _ h9 => h9) rfl d_M_step_108 ?_
          refine lv_imul hx hb d_M_step_111 ?_
          refine lv_iload_n hx hb d_M_step_112 rfl (lv_at hl 4 rfl) ?_
          obtain ⟨c, h⟩ := ifs h
          refine va_iast hx hb hK hP (hD σ) hS 4 0 rfl rfl c d_M_step_113 (fun H locs hP _ hS => ?_)
          have hP : va_P D vwCl (wM cI cZ q (sr σ 4 (upd (σ 4) ((5 : Int32) * (σ 0 1)).toNatClampNeg x3)) ++ tl) H := hP
          obtain ⟨s113, es113, h⟩ := lettE h
          rw [← es113] at hP
          refine lv_aload_n hx hb d_M_step_114 rfl (lv_at hl 1 rfl) ?_
          refine va_get (D := D) (ci := 5) (v := .ref (q 4)) (C := R_M) (T := T_M) (N := 17) hx hb hts l_M hown hK hP 0 rfl rfl 6 (by decide) (hts _ w_445) (fun _ h9 => h9) rfl d_M_step_115 ?_
          refine lv_iconst (v := 5) hx hb d_M_step_118 (by decide) ?_
          refine lv_aload_n hx hb d_M_step_119 rfl (lv_at hl 1 rfl) ?_
          refine va_get (D := D) (ci := 5) (v := .int (s113 0 1)) (C := R_M) (T := T_M) (N := 17) hx hb hts l_M hown hK hP 0 rfl rfl 1 (by decide) (hts _ w_440) (fun _ h9 => h9) rfl d_M_step_120 ?_
          refine lv_imul hx hb d_M_step_123 ?_
          refine lv_iconst (v := 1) hx hb d_M_step_124 (by decide) ?_
          refine lv_iadd hx hb d_M_step_125 ?_
          refine lv_iload hx hb d_M_step_126 (lv_at hl 5 rfl) ?_
          obtain ⟨c, h⟩ := ifs h
          refine va_iast hx hb hK hP (hD s113) hS 4 0 rfl rfl c d_M_step_128 (fun H locs hP _ hS => ?_)
          have hP : va_P D vwCl (wM cI cZ q (sr s113 4 (upd (s113 4) (((5 : Int32) * (s113 0 1)) + (1 : Int32)).toNatClampNeg x4)) ++ tl) H := hP
          obtain ⟨s128, es128, h⟩ := lettE h
          rw [← es128] at hP
          refine lv_aload_n hx hb d_M_step_129 rfl (lv_at hl 1 rfl) ?_
          refine va_get (D := D) (ci := 5) (v := .ref (q 4)) (C := R_M) (T := T_M) (N := 17) hx hb hts l_M hown hK hP 0 rfl rfl 6 (by decide) (hts _ w_445) (fun _ h9 => h9) rfl d_M_step_130 ?_
          refine lv_iconst (v := 5) hx hb d_M_step_133 (by decide) ?_
          refine lv_aload_n hx hb d_M_step_134 rfl (lv_at hl 1 rfl) ?_
          refine va_get (D := D) (ci := 5) (v := .int (s128 0 1)) (C := R_M) (T := T_M) (N := 17) hx hb hts l_M hown hK hP 0 rfl rfl 1 (by decide) (hts _ w_440) (fun _ h9 => h9) rfl d_M_step_135 ?_
          refine lv_imul hx hb d_M_step_138 ?_
          refine lv_iconst (v := 2) hx hb d_M_step_139 (by decide) ?_
          refine lv_iadd hx hb d_M_step_140 ?_
          refine lv_iload hx hb d_M_step_141 (lv_at hl 6 rfl) ?_
          obtain ⟨c, h⟩ := ifs h
          refine va_iast hx hb hK hP (hD s128) hS 4 0 rfl rfl c d_M_step_143 (fun H locs hP _ hS => ?_)
          have hP : va_P D vwCl (wM cI cZ q (sr s128 4 (upd (s128 4) (((5 : Int32) * (s128 0 1)) + (2 : Int32)).toNatClampNeg x5)) ++ tl) H := hP
          obtain ⟨s143, es143, h⟩ := lettE h
          rw [← es143] at hP
          refine lv_aload_n hx hb d_M_step_144 rfl (lv_at hl 1 rfl) ?_
          refine lv_iload_n hx hb d_M_step_145 rfl (lv_at hl 2 rfl) ?_
          refine lv_iload_n hx hb d_M_step_146 rfl (lv_at hl 3 rfl) ?_
          obtain ⟨u147, hu147, h⟩ := bnd h
          refine gcall_i (va_runV (As := [.int x1, .int x2]) (rest := []) ⟨hx, hb, hml, hown, hts⟩ (c_M_add l D cI cZ tL q tl s143 x1 x2 u147 hu147 H.size) (cwV 2 hts (gV w_498 w_499 w_694 w_6 w_500) rfl rfl rfl (by decide +kernel) ⟨Nat.le_of_ble_eq_true rfl, Nat.le_of_ble_eq_true rfl⟩) (gpV (k := 0) (ci := 5) hA hK (hD s143) hE hP hS rfl rfl) rfl rfl hl.1 rfl (lv_room (Nat.le_of_ble_eq_true rfl)) d_M_step_147 ⟨Nat.le_of_ble_eq_true rfl, Nat.le_of_ble_eq_true rfl⟩) hA (hD s143) hS (fun H locs hP hS => ?_)
          cases h
          exact gret_i hx hb hr hlk hP hS d_M_step_150
        have h := ifp c h
        refine lv_aload_n hx hb d_M_step_90 rfl (lv_at hl 1 rfl) ?_
        refine va_get (D := D) (ci := 5) (v := .int (σ 0 2)) (C := R_M) (T := T_M) (N := 17) hx hb hts l_M hown hK hP 0 rfl rfl 2 (by decide) (hts _ w_441) (fun _ h9 => h9) rfl d_M_step_91 ?_
        refine lv_bipush (v := 16) hx hb d_M_step_94 (by decide) ?_
        refine lv_icmp_ne (tgt := 102) hx hb d_M_step_96 (by decide) (fun c => ?_) (fun c => ?_)
        · have h := ifn c h
          refine lv_aload_n hx hb d_M_step_102 rfl (lv_at hl 1 rfl) ?_
          refine va_get (D := D) (ci := 5) (v := .ref (q 4)) (C := R_M) (T := T_M) (N := 17) hx hb hts l_M hown hK hP 0 rfl rfl 6 (by decide) (hts _ w_445) (fun _ h9 => h9) rfl d_M_step_103 ?_
          refine lv_iconst (v := 5) hx hb d_M_step_106 (by decide) ?_
          refine lv_aload_n hx hb d_M_step_107 rfl (lv_at hl 1 rfl) ?_
          refine va_get (D := D) (ci := 5) (v := .int (σ 0 1)) (C := R_M) (T := T_M) (N := 17) hx hb hts l_M hown hK hP 0 rfl rfl 1 (by decide) (hts _ w_440) (fun _ h9 => h9) rfl d_M_step_108 ?_
          refine lv_imul hx hb d_M_step_111 ?_
          refine lv_iload_n hx hb d_M_step_112 rfl (lv_at hl 4 rfl) ?_
          obtain ⟨c, h⟩ := ifs h
          refine va_iast hx hb hK hP (hD σ) hS 4 0 rfl rfl c d_M_step_113 (fun H locs hP _ hS => ?_)
          have hP : va_P D vwCl (wM cI cZ q (sr σ 4 (upd (σ 4) ((5 : Int32) * (σ 0 1)).toNatClampNeg x3)) ++ tl) H := hP
          obtain ⟨s113, es113, h⟩ := lettE h
          rw [← es113] at hP
          refine lv_aload_n hx hb d_M_step_114 rfl (lv_at hl 1 rfl) ?_
          refine va_get (D := D) (ci := 5) (v := .ref (q 4)) (C := R_M) (T := T_M) (N := 17) hx hb hts l_M hown hK hP 0 rfl rfl 6 (by decide) (hts _ w_445) (fun _ h9 => h9) rfl d_M_step_115 ?_
          refine lv_iconst (v := 5) hx hb d_M_step_118 (by decide) ?_
          refine lv_aload_n hx hb d_M_step_119 rfl (lv_at hl 1 rfl) ?_
          refine va_get (D := D) (ci := 5) (v := .int (s113 0 1)) (C := R_M) (T := T_M) (N := 17) hx hb hts l_M hown hK hP 0 rfl rfl 1 (by decide) (hts _ w_440) (fun _ h9 => h9) rfl d_M_step_120 ?_
          refine lv_imul hx hb d_M_step_123 ?_
          refine lv_iconst (v := 1) hx hb d_M_step_124 (by decide) ?_
          refine lv_iadd hx hb d_M_step_125 ?_
          refine lv_iload hx hb d_M_step_126 (lv_at hl 5 rfl) ?_
          obtain ⟨c, h⟩ := ifs h
          refine va_iast hx hb hK hP (hD s113) hS 4 0 rfl rfl c d_M_step_128 (fun H locs hP _ hS => ?_)
          have hP : va_P D vwCl (wM cI cZ q (sr s113 4 (upd (s113 4) (((5 : Int32) * (s113 0 1)) + (1 : Int32)).toNatClampNeg x4)) ++ tl) H := hP
          obtain ⟨s128, es128, h⟩ := lettE h
          rw [← es128] at hP
          refine lv_aload_n hx hb d_M_step_129 rfl (lv_at hl 1 rfl) ?_
          refine va_get (D := D) (ci := 5) (v := .ref (q 4)) (C := R_M) (T := T_M) (N := 17) hx hb hts l_M hown hK hP 0 rfl rfl 6 (by decide) (hts _ w_445) (fun _ h9 => h9) rfl d_M_step_130 ?_
          refine lv_iconst (v := 5) hx hb d_M_step_133 (by decide) ?_
          refine lv_aload_n hx hb d_M_step_134 rfl (lv_at hl 1 rfl) ?_
          refine va_get (D := D) (ci := 5) (v := .int (s128 0 1)) (C := R_M) (T := T_M) (N := 17) hx hb hts l_M hown hK hP 0 rfl rfl 1 (by decide) (hts _ w_440) (fun _ h9 => h9) rfl d_M_step_135 ?_
          refine lv_imul hx hb d_M_step_138 ?_
          refine lv_iconst (v := 2) hx hb d_M_step_139 (by decide) ?_
          refine lv_iadd hx hb d_M_step_140 ?_
          refine lv_iload hx hb d_M_step_141 (lv_at hl 6 rfl) ?_
          obtain ⟨c, h⟩ := ifs h
          refine va_iast hx hb hK hP (hD s128) hS 4 0 rfl rfl c d_M_step_143 (fun H locs hP _ hS => ?_)
          have hP : va_P D vwCl (wM cI cZ q (sr s128 4 (upd (s128 4) (((5 : Int32) * (s128 0 1)) + (2 : Int32)).toNatClampNeg x5)) ++ tl) H := hP
          obtain ⟨s143, es143, h⟩ := lettE h
          rw [← es143] at hP
          refine lv_aload_n hx hb d_M_step_144 rfl (lv_at hl 1 rfl) ?_
          refine lv_iload_n hx hb d_M_step_145 rfl (lv_at hl 2 rfl) ?_
          refine lv_iload_n hx hb d_M_step_146 rfl (lv_at hl 3 rfl) ?_
          obtain ⟨u147, hu147, h⟩ := bnd h
          refine gcall_i (va_runV (As := [.int x1, .int x2]) (rest := []) ⟨hx, hb, hml, hown, hts⟩ (c_M_add l D cI cZ tL q tl s143 x1 x2 u147 hu147 H.size) (cwV 2 hts (gV w_498 w_499 w_694 w_6 w_500) rfl rfl rfl (by decide +kernel) ⟨Nat.le_of_ble_eq_true rfl, Nat.le_of_ble_eq_true rfl⟩) (gpV (k := 0) (ci := 5) hA hK (hD s143) hE hP hS rfl rfl) rfl rfl hl.1 rfl (lv_room (Nat.le_of_ble_eq_true rfl)) d_M_step_147 ⟨Nat.le_of_ble_eq_true rfl, Nat.le_of_ble_eq_true rfl⟩) hA (hD s143) hS (fun H locs hP hS => ?_)
          cases h
          exact gret_i hx hb hr hlk hP hS d_M_step_150
        have h := ifp c h
        refine lv_bipush (v := -3) hx hb d_M_step_99 (by decide) ?_
        cases h
        exact gret_i hx hb hr hlk hP hS d_M_step_101
      have h := ifp c h
      refine lv_bipush (v := -2) hx hb d_M_step_74 (by decide) ?_
      cases h
      exact gret_i hx hb hr hlk hP hS d_M_step_76
    have h := ifn c h
    refine lv_iload_n hx hb d_M_step_48 rfl (lv_at hl 3 rfl) ?_
    refine lv_iconst (v := 1) hx hb d_M_step_49 (by decide) ?_
    refine lv_iload hx hb d_M_step_50 (lv_at hl 5 rfl) ?_
    obtain ⟨u52, hu52, h⟩ := bnd h
    refine gcall_i (va_runS (As := [.int x2, .int (1 : Int32), .int x4]) (rest := []) ⟨hx, hb, hml, hown, hts⟩ (c_M_isNeed l D cI cZ tL (wM cI cZ q σ ++ tl) x2 (1 : Int32) x4 u52 hu52 H.size) (va_cwS 3 hts (gS w_492 w_493 w_6 w_494) rfl rfl rfl (by decide +kernel) ⟨Nat.le_of_ble_eq_true rfl, Nat.le_of_ble_eq_true rfl⟩) (gpS hA hK (hD σ) hE hP hS) rfl rfl hl.1 rfl (lv_room (Nat.le_of_ble_eq_true rfl)) d_M_step_52 ⟨Nat.le_of_ble_eq_true rfl, Nat.le_of_ble_eq_true rfl⟩) hA (hD σ) hS (fun H locs hP hS => ?_)
    refine lv_if_eq (tgt := 74) hx hb d_M_step_55 (by decide) (fun c => ?_) (fun c => ?_)
    · have h := ifp c h
      refine lv_bipush (v := -2) hx hb d_M_step_74 (by decide) ?_
      cases h
      exact gret_i hx hb hr hlk hP hS d_M_step_76
    have h := ifn c h
    refine lv_iload hx hb d_M_step_58 (lv_at hl 0 rfl) ?_
    refine lv_iconst (v := 2) hx hb d_M_step_60 (by decide) ?_
    refine lv_icmp_le (tgt := 77) hx hb d_M_step_61 (by decide) (fun c => ?_) (fun c => ?_)
    · have h := ifp c h
      refine lv_aload_n hx hb d_M_step_77 rfl (lv_at hl 1 rfl) ?_
      refine va_get (D := D) (ci := 5) (v := .int (σ 0 1)) (C := R_M) (T := T_M) (N := 17) hx hb hts l_M hown hK hP 0 rfl rfl 1 (by decide) (hts _ w_440) (fun _ h9 => h9) rfl d_M_step_78 ?_
      refine lv_bipush (v := 64) hx hb d_M_step_81 (by decide) ?_
      refine lv_icmp_eq (tgt := 99) hx hb d_M_step_83 (by decide) (fun c => ?_) (fun c => ?_)
      · have h := ifp c h
        refine lv_bipush (v := -3) hx hb d_M_step_99 (by decide) ?_
        cases h
        exact gret_i hx hb hr hlk hP hS d_M_step_101
      have h := ifn c h
      refine lv_iload_n hx hb d_M_step_86 rfl (lv_at hl 3 rfl) ?_
      refine lv_if_ne (tgt := 102) hx hb d_M_step_87 (by decide) (fun c => ?_) (fun c => ?_)
      · have h := ifn c h
        refine lv_aload_n hx hb d_M_step_102 rfl (lv_at hl 1 rfl) ?_
        refine va_get (D := D) (ci := 5) (v := .ref (q 4)) (C := R_M) (T := T_M) (N := 17) hx hb hts l_M hown hK hP 0 rfl rfl 6 (by decide) (hts _ w_445) (fun _ h9 => h9) rfl d_M_step_103 ?_
        refine lv_iconst (v := 5) hx hb d_M_step_106 (by decide) ?_
        refine lv_aload_n hx hb d_M_step_107 rfl (lv_at hl 1 rfl) ?_
        refine va_get (D := D) (ci := 5) (v := .int (σ 0 1)) (C := R_M) (T := T_M) (N := 17) hx hb hts l_M hown hK hP 0 rfl rfl 1 (by decide) (hts _ w_440) (fun _ h9 => h9) rfl d_M_step_108 ?_
        refine lv_imul hx hb d_M_step_111 ?_
        refine lv_iload_n hx hb d_M_step_112 rfl (lv_at hl 4 rfl) ?_
        obtain ⟨c, h⟩ := ifs h
        refine va_iast hx hb hK hP (hD σ) hS 4 0 rfl rfl c d_M_step_113 (fun H locs hP _ hS => ?_)
        have hP : va_P D vwCl (wM cI cZ q (sr σ 4 (upd (σ 4) ((5 : Int32) * (σ 0 1)).toNatClampNeg x3)) ++ tl) H := hP
        obtain ⟨s113, es113, h⟩ := lettE h
        rw [← es113] at hP
        refine lv_aload_n hx hb d_M_step_114 rfl (lv_at hl 1 rfl) ?_
        refine va_get (D := D) (ci := 5) (v := .ref (q 4)) (C := R_M) (T := T_M) (N := 17) hx hb hts l_M hown hK hP 0 rfl rfl 6 (by decide) (hts _ w_445) (fun _ h9 => h9) rfl d_M_step_115 ?_
        refine lv_iconst (v := 5) hx hb d_M_step_118 (by decide) ?_
        refine lv_aload_n hx hb d_M_step_119 rfl (lv_at hl 1 rfl) ?_
        refine va_get (D := D) (ci := 5) (v := .int (s113 0 1)) (C := R_M) (T := T_M) (N := 17) hx hb hts l_M hown hK hP 0 rfl rfl 1 (by decide) (hts _ w_440) (fun _ h9 => h9) rfl d_M_step_120 ?_
        refine lv_imul hx hb d_M_step_123 ?_
        refine lv_iconst (v := 1) hx hb d_M_step_124 (by decide) ?_
        refine lv_iadd hx hb d_M_step_125 ?_
        refine lv_iload hx hb d_M_step_126 (lv_at hl 5 rfl) ?_
        obtain ⟨c, h⟩ := ifs h
        refine va_iast hx hb hK hP (hD s113) hS 4 0 rfl rfl c d_M_step_128 (fun H locs hP _ hS => ?_)
        have hP : va_P D vwCl (wM cI cZ q (sr s113 4 (upd (s113 4) (((5 : Int32) * (s113 0 1)) + (1 : Int32)).toNatClampNeg x4)) ++ tl) H := hP
        obtain ⟨s128, es128, h⟩ := lettE h
        rw [← es128] at hP
        refine lv_aload_n hx hb d_M_step_129 rfl (lv_at hl 1 rfl) ?_
        refine va_get (D := D) (ci := 5) (v := .ref (q 4)) (C := R_M) (T := T_M) (N := 17) hx hb hts l_M hown hK hP 0 rfl rfl 6 (by decide) (hts _ w_445) (fun _ h9 => h9) rfl d_M_step_130 ?_
        refine lv_iconst (v := 5) hx hb d_M_step_133 (by decide) ?_
        refine lv_aload_n hx hb d_M_step_134 rfl (lv_at hl 1 rfl) ?_
        refine va_get (D := D) (ci := 5) (v := .int (s128 0 1)) (C := R_M) (T := T_M) (N := 17) hx hb hts l_M hown hK hP 0 rfl rfl 1 (by decide) (hts _ w_440) (fun _ h9 => h9) rfl d_M_step_135 ?_
        refine lv_imul hx hb d_M_step_138 ?_
        refine lv_iconst (v := 2) hx hb d_M_step_139 (by decide) ?_
        refine lv_iadd hx hb d_M_step_140 ?_
        refine lv_iload hx hb d_M_step_141 (lv_at hl 6 rfl) ?_
        obtain ⟨c, h⟩ := ifs h
        refine va_iast hx hb hK hP (hD s128) hS 4 0 rfl rfl c d_M_step_143 (fun H locs hP _ hS => ?_)
        have hP : va_P D vwCl (wM cI cZ q (sr s128 4 (upd (s128 4) (((5 : Int32) * (s128 0 1)) + (2 : Int32)).toNatClampNeg x5)) ++ tl) H := hP
        obtain ⟨s143, es143, h⟩ := lettE h
        rw [← es143] at hP
        refine lv_aload_n hx hb d_M_step_144 rfl (lv_at hl 1 rfl) ?_
        refine lv_iload_n hx hb d_M_step_145 rfl (lv_at hl 2 rfl) ?_
        refine lv_iload_n hx hb d_M_step_146 rfl (lv_at hl 3 rfl) ?_
        obtain ⟨u147, hu147, h⟩ := bnd h
        refine gcall_i (va_runV (As := [.int x1, .int x2]) (rest := []) ⟨hx, hb, hml, hown, hts⟩ (c_M_add l D cI cZ tL q tl s143 x1 x2 u147 hu147 H.size) (cwV 2 hts (gV w_498 w_499 w_694 w_6 w_500) rfl rfl rfl (by decide +kernel) ⟨Nat.le_of_ble_eq_true rfl, Nat.le_of_ble_eq_true rfl⟩) (gpV (k := 0) (ci := 5) hA hK (hD s143) hE hP hS rfl rfl) rfl rfl hl.1 rfl (lv_room (Nat.le_of_ble_eq_true rfl)) d_M_step_147 ⟨Nat.le_of_ble_eq_true rfl, Nat.le_of_ble_eq_true rfl⟩) hA (hD s143) hS (fun H locs hP hS => ?_)
        cases h
        exact gret_i hx hb hr hlk hP hS d_M_step_150
      have h := ifp c h
      refine lv_aload_n hx hb d_M_step_90 rfl (lv_at hl 1 rfl) ?_
      refine va_get (D := D) (ci := 5) (v := .int (σ 0 2)) (C := R_M) (T := T_M) (N := 17) hx hb hts l_M hown hK hP 0 rfl rfl 2 (by decide) (hts _ w_441) (fun _ h9 => h9) rfl d_M_step_91 ?_
      refine lv_bipush (v := 16) hx hb d_M_step_94 (by decide) ?_
      refine lv_icmp_ne (tgt := 102) hx hb d_M_step_96 (by decide) (fun c => ?_) (fun c => ?_)
      · have h := ifn c h
        refine lv_aload_n hx hb d_M_step_102 rfl (lv_at hl 1 rfl) ?_
        refine va_get (D := D) (ci := 5) (v := .ref (q 4)) (C := R_M) (T := T_M) (N := 17) hx hb hts l_M hown hK hP 0 rfl rfl 6 (by decide) (hts _ w_445) (fun _ h9 => h9) rfl d_M_step_103 ?_
        refine lv_iconst (v := 5) hx hb d_M_step_106 (by decide) ?_
        refine lv_aload_n hx hb d_M_step_107 rfl (lv_at hl 1 rfl) ?_
        refine va_get (D := D) (ci := 5) (v := .int (σ 0 1)) (C := R_M) (T := T_M) (N := 17) hx hb hts l_M hown hK hP 0 rfl rfl 1 (by decide) (hts _ w_440) (fun _ h9 => h9) rfl d_M_step_108 ?_
        refine lv_imul hx hb d_M_step_111 ?_
        refine lv_iload_n hx hb d_M_step_112 rfl (lv_at hl 4 rfl) ?_
        obtain ⟨c, h⟩ := ifs h
        refine va_iast hx hb hK hP (hD σ) hS 4 0 rfl rfl c d_M_step_113 (fun H locs hP _ hS => ?_)
        have hP : va_P D vwCl (wM cI cZ q (sr σ 4 (upd (σ 4) ((5 : Int32) * (σ 0 1)).toNatClampNeg x3)) ++ tl) H := hP
        obtain ⟨s113, es113, h⟩ := lettE h
        rw [← es113] at hP
        refine lv_aload_n hx hb d_M_step_114 rfl (lv_at hl 1 rfl) ?_
        refine va_get (D := D) (ci := 5) (v := .ref (q 4)) (C := R_M) (T := T_M) (N := 17) hx hb hts l_M hown hK hP 0 rfl rfl 6 (by decide) (hts _ w_445) (fun _ h9 => h9) rfl d_M_step_115 ?_
        refine lv_iconst (v := 5) hx hb d_M_step_118 (by decide) ?_
        refine lv_aload_n hx hb d_M_step_119 rfl (lv_at hl 1 rfl) ?_
        refine va_get (D := D) (ci := 5) (v := .int (s113 0 1)) (C := R_M) (T := T_M) (N := 17) hx hb hts l_M hown hK hP 0 rfl rfl 1 (by decide) (hts _ w_440) (fun _ h9 => h9) rfl d_M_step_120 ?_
        refine lv_imul hx hb d_M_step_123 ?_
        refine lv_iconst (v := 1) hx hb d_M_step_124 (by decide) ?_
        refine lv_iadd hx hb d_M_step_125 ?_
        refine lv_iload hx hb d_M_step_126 (lv_at hl 5 rfl) ?_
        obtain ⟨c, h⟩ := ifs h
        refine va_iast hx hb hK hP (hD s113) hS 4 0 rfl rfl c d_M_step_128 (fun H locs hP _ hS => ?_)
        have hP : va_P D vwCl (wM cI cZ q (sr s113 4 (upd (s113 4) (((5 : Int32) * (s113 0 1)) + (1 : Int32)).toNatClampNeg x4)) ++ tl) H := hP
        obtain ⟨s128, es128, h⟩ := lettE h
        rw [← es128] at hP
        refine lv_aload_n hx hb d_M_step_129 rfl (lv_at hl 1 rfl) ?_
        refine va_get (D := D) (ci := 5) (v := .ref (q 4)) (C := R_M) (T := T_M) (N := 17) hx hb hts l_M hown hK hP 0 rfl rfl 6 (by decide) (hts _ w_445) (fun _ h9 => h9) rfl d_M_step_130 ?_
        refine lv_iconst (v := 5) hx hb d_M_step_133 (by decide) ?_
        refine lv_aload_n hx hb d_M_step_134 rfl (lv_at hl 1 rfl) ?_
        refine va_get (D := D) (ci := 5) (v := .int (s128 0 1)) (C := R_M) (T := T_M) (N := 17) hx hb hts l_M hown hK hP 0 rfl rfl 1 (by decide) (hts _ w_440) (fun _ h9 => h9) rfl d_M_step_135 ?_
        refine lv_imul hx hb d_M_step_138 ?_
        refine lv_iconst (v := 2) hx hb d_M_step_139 (by decide) ?_
        refine lv_iadd hx hb d_M_step_140 ?_
        refine lv_iload hx hb d_M_step_141 (lv_at hl 6 rfl) ?_
        obtain ⟨c, h⟩ := ifs h
        refine va_iast hx hb hK hP (hD s128) hS 4 0 rfl rfl c d_M_step_143 (fun H locs hP _ hS => ?_)
        have hP : va_P D vwCl (wM cI cZ q (sr s128 4 (upd (s128 4) (((5 : Int32) * (s128 0 1)) + (2 : Int32)).toNatClampNeg x5)) ++ tl) H := hP
        obtain ⟨s143, es143, h⟩ := lettE h
        rw [← es143] at hP
        refine lv_aload_n hx hb d_M_step_144 rfl (lv_at hl 1 rfl) ?_
        refine lv_iload_n hx hb d_M_step_145 rfl (lv_at hl 2 rfl) ?_
        refine lv_iload_n hx hb d_M_step_146 rfl (lv_at hl 3 rfl) ?_
        obtain ⟨u147, hu147, h⟩ := bnd h
        refine gcall_i (va_runV (As := [.int x1, .int x2]) (rest := []) ⟨hx, hb, hml, hown, hts⟩ (c_M_add l D cI cZ tL q tl s143 x1 x2 u147 hu147 H.size) (cwV 2 hts (gV w_498 w_499 w_694 w_6 w_500) rfl rfl rfl (by decide +kernel) ⟨Nat.le_of_ble_eq_true rfl, Nat.le_of_ble_eq_true rfl⟩) (gpV (k := 0) (ci := 5) hA hK (hD s143) hE hP hS rfl rfl) rfl rfl hl.1 rfl (lv_room (Nat.le_of_ble_eq_true rfl)) d_M_step_147 ⟨Nat.le_of_ble_eq_true rfl, Nat.le_of_ble_eq_true rfl⟩) hA (hD s143) hS (fun H locs hP hS => ?_)
        cases h
        exact gret_i hx hb hr hlk hP hS d_M_step_150
      have h := ifp c h
      refine lv_bipush (v := -3) hx hb d_M_step_99 (by decide) ?_
      cases h
      exact gret_i hx hb hr hlk hP hS d_M_step_101
    have h := ifn c h
    refine lv_iload_n hx hb d_M_step_64 rfl (lv_at hl 3 rfl) ?_
    refine lv_iconst (v := 2) hx hb d_M_step_65 (by decide) ?_
    refine lv_iload hx hb d_M_step_66 (lv_at hl 6 rfl) ?_
    obtain ⟨u68, hu68, h⟩ := bnd h
    refine gcall_i (va_runS (As := [.int x2, .int (2 : Int32), .int x5]) (rest := []) ⟨hx, hb, hml, hown, hts⟩ (c_M_isNeed l D cI cZ tL (wM cI cZ q σ ++ tl) x2 (2 : Int32) x5 u68 hu68 H.size) (va_cwS 3 hts (gS w_492 w_493 w_6 w_494) rfl rfl rfl (by decide +kernel) ⟨Nat.le_of_ble_eq_true rfl, Nat.le_of_ble_eq_true rfl⟩) (gpS hA hK (hD σ) hE hP hS) rfl rfl hl.1 rfl (lv_room (Nat.le_of_ble_eq_true rfl)) d_M_step_68 ⟨Nat.le_of_ble_eq_true rfl, Nat.le_of_ble_eq_true rfl⟩) hA (hD σ) hS (fun H locs hP hS => ?_)
    refine lv_if_ne (tgt := 77) hx hb d_M_step_71 (by decide) (fun c => ?_) (fun c => ?_)
    · have h := ifn c h
      refine lv_aload_n hx hb d_M_step_77 rfl (lv_at hl 1 rfl) ?_
      refine va_get (D := D) (ci := 5) (v := .int (σ 0 1)) (C := R_M) (T := T_M) (N := 17) hx hb hts l_M hown hK hP 0 rfl rfl 1 (by decide) (hts _ w_440) (fun _ h9 => h9) rfl d_M_step_78 ?_
      refine lv_bipush (v := 64) hx hb d_M_step_81 (by decide) ?_
      refine lv_icmp_eq (tgt := 99) hx hb d_M_step_83 (by decide) (fun c => ?_) (fun c => ?_)
      · have h := ifp c h
        refine lv_bipush (v := -3) hx hb d_M_step_99 (by decide) ?_
        cases h
        exact gret_i hx hb hr hlk hP hS d_M_step_101
      have h := ifn c h
      refine lv_iload_n hx hb d_M_step_86 rfl (lv_at hl 3 rfl) ?_
      refine lv_if_ne (tgt := 102) hx hb d_M_step_87 (by decide) (fun c => ?_) (fun c => ?_)
      · have h := ifn c h
        refine lv_aload_n hx hb d_M_step_102 rfl (lv_at hl 1 rfl) ?_
        refine va_get (D := D) (ci := 5) (v := .ref (q 4)) (C := R_M) (T := T_M) (N := 17) hx hb hts l_M hown hK hP 0 rfl rfl 6 (by decide) (hts _ w_445) (fun _ h9 => h9) rfl d_M_step_103 ?_
        refine lv_iconst (v := 5) hx hb d_M_step_106 (by decide) ?_
        refine lv_aload_n hx hb d_M_step_107 rfl (lv_at hl 1 rfl) ?_
        refine va_get (D := D) (ci := 5) (v := .int (σ 0 1)) (C := R_M) (T := T_M) (N := 17) hx hb hts l_M hown hK hP 0 rfl rfl 1 (by decide) (hts _ w_440) (fun _ h9 => h9) rfl d_M_step_108 ?_
        refine lv_imul hx hb d_M_step_111 ?_
        refine lv_iload_n hx hb d_M_step_112 rfl (lv_at hl 4 rfl) ?_
        obtain ⟨c, h⟩ := ifs h
        refine va_iast hx hb hK hP (hD σ) hS 4 0 rfl rfl c d_M_step_113 (fun H locs hP _ hS => ?_)
        have hP : va_P D vwCl (wM cI cZ q (sr σ 4 (upd (σ 4) ((5 : Int32) * (σ 0 1)).toNatClampNeg x3)) ++ tl) H := hP
        obtain ⟨s113, es113, h⟩ := lettE h
        rw [← es113] at hP
        refine lv_aload_n hx hb d_M_step_114 rfl (lv_at hl 1 rfl) ?_
        refine va_get (D := D) (ci := 5) (v := .ref (q 4)) (C := R_M) (T := T_M) (N := 17) hx hb hts l_M hown hK hP 0 rfl rfl 6 (by decide) (hts _ w_445) (fun _ h9 => h9) rfl d_M_step_115 ?_
        refine lv_iconst (v := 5) hx hb d_M_step_118 (by decide) ?_
        refine lv_aload_n hx hb d_M_step_119 rfl (lv_at hl 1 rfl) ?_
        refine va_get (D := D) (ci := 5) (v := .int (s113 0 1)) (C := R_M) (T := T_M) (N := 17) hx hb hts l_M hown hK hP 0 rfl rfl 1 (by decide) (hts _ w_440) (fun _ h9 => h9) rfl d_M_step_120 ?_
        refine lv_imul hx hb d_M_step_123 ?_
        refine lv_iconst (v := 1) hx hb d_M_step_124 (by decide) ?_
        refine lv_iadd hx hb d_M_step_125 ?_
        refine lv_iload hx hb d_M_step_126 (lv_at hl 5 rfl) ?_
        obtain ⟨c, h⟩ := ifs h
        refine va_iast hx hb hK hP (hD s113) hS 4 0 rfl rfl c d_M_step_128 (fun H locs hP _ hS => ?_)
        have hP : va_P D vwCl (wM cI cZ q (sr s113 4 (upd (s113 4) (((5 : Int32) * (s113 0 1)) + (1 : Int32)).toNatClampNeg x4)) ++ tl) H := hP
        obtain ⟨s128, es128, h⟩ := lettE h
        rw [← es128] at hP
        refine lv_aload_n hx hb d_M_step_129 rfl (lv_at hl 1 rfl) ?_
        refine va_get (D := D) (ci := 5) (v := .ref (q 4)) (C := R_M) (T := T_M) (N := 17) hx hb hts l_M hown hK hP 0 rfl rfl 6 (by decide) (hts _ w_445) (fun _ h9 => h9) rfl d_M_step_130 ?_
        refine lv_iconst (v := 5) hx hb d_M_step_133 (by decide) ?_
        refine lv_aload_n hx hb d_M_step_134 rfl (lv_at hl 1 rfl) ?_
        refine va_get (D := D) (ci := 5) (v := .int (s128 0 1)) (C := R_M) (T := T_M) (N := 17) hx hb hts l_M hown hK hP 0 rfl rfl 1 (by decide) (hts _ w_440) (fun _ h9 => h9) rfl d_M_step_135 ?_
        refine lv_imul hx hb d_M_step_138 ?_
        refine lv_iconst (v := 2) hx hb d_M_step_139 (by decide) ?_
        refine lv_iadd hx hb d_M_step_140 ?_
        refine lv_iload hx hb d_M_step_141 (lv_at hl 6 rfl) ?_
        obtain ⟨c, h⟩ := ifs h
        refine va_iast hx hb hK hP (hD s128) hS 4 0 rfl rfl c d_M_step_143 (fun H locs hP _ hS => ?_)
        have hP : va_P D vwCl (wM cI cZ q (sr s128 4 (upd (s128 4) (((5 : Int32) * (s128 0 1)) + (2 : Int32)).toNatClampNeg x5)) ++ tl) H := hP
        obtain ⟨s143, es143, h⟩ := lettE h
        rw [← es143] at hP
        refine lv_aload_n hx hb d_M_step_144 rfl (lv_at hl 1 rfl) ?_
        refine lv_iload_n hx hb d_M_step_145 rfl (lv_at hl 2 rfl) ?_
        refine lv_iload_n hx hb d_M_step_146 rfl (lv_at hl 3 rfl) ?_
        obtain ⟨u147, hu147, h⟩ := bnd h
        refine gcall_i (va_runV (As := [.int x1, .int x2]) (rest := []) ⟨hx, hb, hml, hown, hts⟩ (c_M_add l D cI cZ tL q tl s143 x1 x2 u147 hu147 H.size) (cwV 2 hts (gV w_498 w_499 w_694 w_6 w_500) rfl rfl rfl (by decide +kernel) ⟨Nat.le_of_ble_eq_true rfl, Nat.le_of_ble_eq_true rfl⟩) (gpV (k := 0) (ci := 5) hA hK (hD s143) hE hP hS rfl rfl) rfl rfl hl.1 rfl (lv_room (Nat.le_of_ble_eq_true rfl)) d_M_step_147 ⟨Nat.le_of_ble_eq_true rfl, Nat.le_of_ble_eq_true rfl⟩) hA (hD s143) hS (fun H locs hP hS => ?_)
        cases h
        exact gret_i hx hb hr hlk hP hS d_M_step_150
      have h := ifp c h
      refine lv_aload_n hx hb d_M_step_90 rfl (lv_at hl 1 rfl) ?_
      refine va_get (D := D) (ci := 5) (v := .int (σ 0 2)) (C := R_M) (T := T_M) (N := 17) hx hb hts l_M hown hK hP 0 rfl rfl 2 (by decide) (hts _ w_441) (fun _ h9 => h9) rfl d_M_step_91 ?_
      refine lv_bipush (v := 16) hx hb d_M_step_94 (by decide) ?_
      refine lv_icmp_ne (tgt := 102) hx hb d_M_step_96 (by decide) (fun c => ?_) (fun c => ?_)
      · have h := ifn c h
        refine lv_aload_n hx hb d_M_step_102 rfl (lv_at hl 1 rfl) ?_
        refine va_get (D := D) (ci := 5) (v := .ref (q 4)) (C := R_M) (T := T_M) (N := 17) hx hb hts l_M hown hK hP 0 rfl rfl 6 (by decide) (hts _ w_445) (fun _ h9 => h9) rfl d_M_step_103 ?_
        refine lv_iconst (v := 5) hx hb d_M_step_106 (by decide) ?_
        refine lv_aload_n hx hb d_M_step_107 rfl (lv_at hl 1 rfl) ?_
        refine va_get (D := D) (ci := 5) (v := .int (σ 0 1)) (C := R_M) (T := T_M) (N := 17) hx hb hts l_M hown hK hP 0 rfl rfl 1 (by decide) (hts _ w_440) (fun _ h9 => h9) rfl d_M_step_108 ?_
        refine lv_imul hx hb d_M_step_111 ?_
        refine lv_iload_n hx hb d_M_step_112 rfl (lv_at hl 4 rfl) ?_
        obtain ⟨c, h⟩ := ifs h
        refine va_iast hx hb hK hP (hD σ) hS 4 0 rfl rfl c d_M_step_113 (fun H locs hP _ hS => ?_)
        have hP : va_P D vwCl (wM cI cZ q (sr σ 4 (upd (σ 4) ((5 : Int32) * (σ 0 1)).toNatClampNeg x3)) ++ tl) H := hP
        obtain ⟨s113, es113, h⟩ := lettE h
        rw [← es113] at hP
        refine lv_aload_n hx hb d_M_step_114 rfl (lv_at hl 1 rfl) ?_
        refine va_get (D := D) (ci := 5) (v := .ref (q 4)) (C := R_M) (T := T_M) (N := 17) hx hb hts l_M hown hK hP 0 rfl rfl 6 (by decide) (hts _ w_445) (fun _ h9 => h9) rfl d_M_step_115 ?_
        refine lv_iconst (v := 5) hx hb d_M_step_118 (by decide) ?_
        refine lv_aload_n hx hb d_M_step_119 rfl (lv_at hl 1 rfl) ?_
        refine va_get (D := D) (ci := 5) (v := .int (s113 0 1)) (C := R_M) (T := T_M) (N := 17) hx hb hts l_M hown hK hP 0 rfl rfl 1 (by decide) (hts _ w_440) (fun _ h9 => h9) rfl d_M_step_120 ?_
        refine lv_imul hx hb d_M_step_123 ?_
        refine lv_iconst (v := 1) hx hb d_M_step_124 (by decide) ?_
        refine lv_iadd hx hb d_M_step_125 ?_
        refine lv_iload hx hb d_M_step_126 (lv_at hl 5 rfl) ?_
        obtain ⟨c, h⟩ := ifs h
        refine va_iast hx hb hK hP (hD s113) hS 4 0 rfl rfl c d_M_step_128 (fun H locs hP _ hS => ?_)
        have hP : va_P D vwCl (wM cI cZ q (sr s113 4 (upd (s113 4) (((5 : Int32) * (s113 0 1)) + (1 : Int32)).toNatClampNeg x4)) ++ tl) H := hP
        obtain ⟨s128, es128, h⟩ := lettE h
        rw [← es128] at hP
        refine lv_aload_n hx hb d_M_step_129 rfl (lv_at hl 1 rfl) ?_
        refine va_get (D := D) (ci := 5) (v := .ref (q 4)) (C := R_M) (T := T_M) (N := 17) hx hb hts l_M hown hK hP 0 rfl rfl 6 (by decide) (hts _ w_445) (fun _ h9 => h9) rfl d_M_step_130 ?_
        refine lv_iconst (v := 5) hx hb d_M_step_133 (by decide) ?_
        refine lv_aload_n hx hb d_M_step_134 rfl (lv_at hl 1 rfl) ?_
        refine va_get (D := D) (ci := 5) (v := .int (s128 0 1)) (C := R_M) (T := T_M) (N := 17) hx hb hts l_M hown hK hP 0 rfl rfl 1 (by decide) (hts _ w_440) (fun _ h9 => h9) rfl d_M_step_135 ?_
        refine lv_imul hx hb d_M_step_138 ?_
        refine lv_iconst (v := 2) hx hb d_M_step_139 (by decide) ?_
        refine lv_iadd hx hb d_M_step_140 ?_
        refine lv_iload hx hb d_M_step_141 (lv_at hl 6 rfl) ?_
        obtain ⟨c, h⟩ := ifs h
        refine va_iast hx hb hK hP (hD s128) hS 4 0 rfl rfl c d_M_step_143 (fun H locs hP _ hS => ?_)
        have hP : va_P D vwCl (wM cI cZ q (sr s128 4 (upd (s128 4) (((5 : Int32) * (s128 0 1)) + (2 : Int32)).toNatClampNeg x5)) ++ tl) H := hP
        obtain ⟨s143, es143, h⟩ := lettE h
        rw [← es143] at hP
        refine lv_aload_n hx hb d_M_step_144 rfl (lv_at hl 1 rfl) ?_
        refine lv_iload_n hx hb d_M_step_145 rfl (lv_at hl 2 rfl) ?_
        refine lv_iload_n hx hb d_M_step_146 rfl (lv_at hl 3 rfl) ?_
        obtain ⟨u147, hu147, h⟩ := bnd h
        refine gcall_i (va_runV (As := [.int x1, .int x2]) (rest := []) ⟨hx, hb, hml, hown, hts⟩ (c_M_add l D cI cZ tL q tl s143 x1 x2 u147 hu147 H.size) (cwV 2 hts (gV w_498 w_499 w_694 w_6 w_500) rfl rfl rfl (by decide +kernel) ⟨Nat.le_of_ble_eq_true rfl, Nat.le_of_ble_eq_true rfl⟩) (gpV (k := 0) (ci := 5) hA hK (hD s143) hE hP hS rfl rfl) rfl rfl hl.1 rfl (lv_room (Nat.le_of_ble_eq_true rfl)) d_M_step_147 ⟨Nat.le_of_ble_eq_true rfl, Nat.le_of_ble_eq_true rfl⟩) hA (hD s143) hS (fun H locs hP hS => ?_)
        cases h
        exact gret_i hx hb hr hlk hP hS d_M_step_150
      have h := ifp c h
      refine lv_bipush (v := -3) hx hb d_M_step_99 (by decide) ?_
      cases h
      exact gret_i hx hb hr hlk hP hS d_M_step_101
    have h := ifp c h
    refine lv_bipush (v := -2) hx hb d_M_step_74 (by decide) ?_
    cases h
    exact gret_i hx hb hr hlk hP hS d_M_step_76
  have h := ifp c h
  refine lv_bipush (v := -2) hx hb d_M_step_24 (by decide) ?_
  cases h
  exact gret_i hx hb hr hlk hP hS d_M_step_26
/-! ===== EscapeOwnersModel.isNameOrNone(I)Z ===== -/
def f_M_isNameOrNone (x0 : Int32) : Option (Int32) := if x0 = (-1 : Int32) then (some (1 : Int32)) else (Option.bind (f_M_isName x0) (fun u6 => if u6 = 0 then (some (0 : Int32)) else (some (1 : Int32))))
set_option maxHeartbeats 4000000 in
set_option maxRecDepth 100000 in
theorem c_M_isNameOrNone (l : Launch) (D : va_G) (cI cZ : ClassId) (tL : Nat) (ws : va_W) (x0 : Int32) (out0 : Int32) (h : f_M_isNameOrNone x0 = some out0) : gCi l y_M_isNameOrNone (.code y_M_isNameOrNone b_M_isNameOrNone 1 (some .boolean) :: TB) { frames := 2, cells := 0, slots := 0, locals := 42 } D [(cI, .int), (cZ, .boolean)] tL [.int x0] ws out0 ws := by
  refine gCi_of (cc := b_M_isNameOrNone) (maxL := 1) (ty := .boolean) (by decide) rfl (Nat.le_of_ble_eq_true rfl) ?_
  intro p e s m below meth c A ls hf hr hlk hA hK hD0 hE hP hl
  obtain ⟨hx, hb, hml, hown, hts⟩ := id hf
  have hts : ∀ w ∈ TB, w.before _ s = true := fun w h => hts w (List.mem_cons_of_mem _ h)
  have hown : s.vm.findClass R_M = some m.cls := hown
  have hl : lv_has ls 1 [(0, .int x0)] := hl
  have hS : va_S A s.heap s.heap [] := va_S.rf
  have hD := hD0
  unfold f_M_isNameOrNone at h
  refine lv_iload_n hx hb d_M_isNameOrNone_0 rfl (lv_at hl 0 rfl) ?_
  refine lv_iconst (v := -1) hx hb d_M_isNameOrNone_1 (by decide) ?_
  refine lv_icmp_eq (tgt := 12) hx hb d_M_isNameOrNone_2 (by decide) (fun c => ?_) (fun c => ?_)
  · have h := ifp c h
    refine lv_iconst (v := 1) hx hb d_M_isNameOrNone_12 (by decide) ?_
    refine lv_goto (tgt := 17) hx hb d_M_isNameOrNone_13 (by decide) ?_
    cases h
    exact gret_z hx hb hr hlk (gz (Or.inr rfl)) hP hS d_M_isNameOrNone_17
  have h := ifn c h
  refine lv_iload_n hx hb d_M_isNameOrNone_5 rfl (lv_at hl 0 rfl) ?_
  obtain ⟨u6, hu6, h⟩ := bnd h
  refine gcall_i (va_runS (As := [.int x0]) (rest := []) ⟨hx, hb, hml, hown, hts⟩ (c_M_isName l D cI cZ tL ws x0 u6 hu6 s.heap.size) (va_cwS 1 hts (gS w_495 w_496 w_6 w_497) rfl rfl rfl (by decide +kernel) ⟨Nat.le_of_ble_eq_true rfl, Nat.le_of_ble_eq_true rfl⟩) (gpS hA hK hD hE hP hS) rfl rfl hl.1 rfl (lv_room (Nat.le_of_ble_eq_true rfl)) d_M_isNameOrNone_6 ⟨Nat.le_of_ble_eq_true rfl, Nat.le_of_ble_eq_true rfl⟩) hA hD hS (fun H locs hP hS => ?_)
  refine lv_if_eq (tgt := 16) hx hb d_M_isNameOrNone_9 (by decide) (fun c => ?_) (fun c => ?_)
  · have h := ifp c h
    refine lv_iconst (v := 0) hx hb d_M_isNameOrNone_16 (by decide) ?_
    cases h
    exact gret_z hx hb hr hlk (gz (Or.inl rfl)) hP hS d_M_isNameOrNone_17
  have h := ifn c h
  refine lv_iconst (v := 1) hx hb d_M_isNameOrNone_12 (by decide) ?_
  refine lv_goto (tgt := 17) hx hb d_M_isNameOrNone_13 (by decide) ?_
  cases h
  exact gret_z hx hb hr hlk (gz (Or.inr rfl)) hP hS d_M_isNameOrNone_17
/-! ===== EscapeOwnersModel.call(IIIIII)I ===== -/
def f_M_call (σ : St) (x1 : Int32) (x2 : Int32) (x3 : Int32) (x4 : Int32) (x5 : Int32) (x6 : Int32) : Option (Int32 × St) := Option.bind (f_M_isMethod σ x1) (fun u2 => if u2 = 0 then (some ((-2 : Int32), σ)) else (Option.bind (f_M_isMethod σ x2) (fun u10 => if u10 = 0 then (some ((-2 : Int32), σ)) else (Option.bind (f_M_isNameOrNone x3) (fun u17 => if u17 = 0 then (some ((-2 : Int32), σ)) else (Option.bind (f_M_isNameOrNone x4) (fun u25 => if u25 = 0 then (some ((-2 : Int32), σ)) else (Option.bind (f_M_isNameOrNone x5) (fun u33 => if u33 = 0 then (some ((-2 : Int32), σ)) else (Option.bind (f_M_isNameOrNone x6) (fun u41 => if u41 = 0 then (some ((-2 : Int32), σ)) else (if (σ 0 1) = (64 : Int32) then (some ((-3 : Int32), σ)) else (if ¬ (((5 : Int32) * (σ 0 1)) < 0 ∨ 320 ≤ ((5 : Int32) * (σ 0 1)).toNatClampNeg) then (lett (sr σ 4 (upd (σ 4) ((5 : Int32) * (σ 0 1)).toNatClampNeg x2)) (fun s73 => if ¬ ((((5 : Int32) * (s73 0 1)) + (1 : Int32)) < 0 ∨ 320 ≤ (((5 : Int32) * (s73 0 1)) + (1 : Int32)).toNatClampNeg) then (lett (sr s73 4 (upd (s73 4) (((5 : Int32) * (s73 0 1)) + (1 : Int32)).toNatClampNeg x3)) (fun s87 => if ¬ ((((5 : Int32) * (s87 0 1)) + (2 : Int32)) < 0 ∨ 320 ≤ (((5 : Int32) * (s87 0 1)) + (2 : Int32)).toNatClampNeg) then (lett (sr s87 4 (upd (s87 4) (((5 : Int32) * (s87 0 1)) + (2 : Int32)).toNatClampNeg x4)) (fun s102 => if ¬ ((((5 : Int32) * (s102 0 1)) + (3 : Int32)) < 0 ∨ 320 ≤ (((5 : Int32) * (s102 0 1)) + (3 : Int32)).toNatClampNeg) then (lett (sr s102 4 (upd (s102 4) (((5 : Int32) * (s102 0 1)) + (3 : Int32)).toNatClampNeg x5)) (fun s117 => if ¬ ((((5 : Int32) * (s117 0 1)) + (4 : Int32)) < 0 ∨ 320 ≤ (((5 : Int32) * (s117 0 1)) + (4 : Int32)).toNatClampNeg) then (lett (sr s117 4 (upd (s117 4) (((5 : Int32) * (s117 0 1)) + (4 : Int32)).toNatClampNeg x6)) (fun s132 => Option.bind (f_M_add s132 x1 (6 : Int32)) (fun u137 => some (u137.1, u137.2)))) else none)) else none)) else none)) else none)) else none)))))))))))))
set_option maxHeartbeats 4000000 in
set_option maxRecDepth 100000 in
theorem c_M_call (l : Launch) (D : va_G) (cI cZ : ClassId) (tL : Nat) (q : Nat → Nat) (tl : va_W) (σ : St) (x1 : Int32) (x2 : Int32) (x3 : Int32) (x4 : Int32) (x5 : Int32) (x6 : Int32) (out0 : Int32 × St) (h : f_M_call σ x1 x2 x3 x4 x5 x6 = some out0) : gCi l y_M_call (.code y_M_call b_M_call 7 (some .int) :: TB) { frames := 3, cells := 0, slots := 0, locals := 62 } D [(cI, .int), (cZ, .boolean)] tL [.ref (q 0), .int x1, .int x2, .int x3, .int x4, .int x5, .int x6] (wM cI cZ q σ ++ tl) out0.1 (wM cI cZ q out0.2 ++ tl) := by
  refine gCi_of (cc := b_M_call) (maxL := 7) (ty := .int) (by decide) rfl (Nat.le_of_ble_eq_true rfl) ?_
  intro p e s m below meth c A ls hf hr hlk hA hK hD0 hE hP hl
  obtain ⟨hx, hb, hml, hown, hts⟩ := id hf
  have hts : ∀ w ∈ TB, w.before _ s = true := fun w h => hts w (List.mem_cons_of_mem _ h)
  have hown : s.vm.findClass R_M = some m.cls := hown
  have hl : lv_has ls 7 [(0, .ref (q 0)), (1, .int x1), (2, .int x2), (3, .int x3), (4, .int x4), (5, .int x5), (6, .int x6)] := hl
  have hS : va_S A s.heap s.heap [] := va_S.rf
  have hD : ∀ σ' : St, va_D A (wM cI cZ q σ' ++ tl) := fun σ' => va_Dsame hD0 rfl
  unfold f_M_call at h
  refine lv_aload_n hx hb d_M_call_0 rfl (lv_at hl 0 rfl) ?_
  refine lv_iload_n hx hb d_M_call_1 rfl (lv_at hl 1 rfl) ?_
  obtain ⟨u2, hu2, h⟩ := bnd h
  refine gcall_i (va_runV (As := [.int x1]) (rest := []) ⟨hx, hb, hml, hown, hts⟩ (c_M_isMethod l D cI cZ tL q tl σ x1 u2 hu2 s.heap.size) (cwV 1 hts (gV w_483 w_484 w_714 w_6 w_485) rfl rfl rfl (by decide +kernel) ⟨Nat.le_of_ble_eq_true rfl, Nat.le_of_ble_eq_true rfl⟩) (gpV (k := 0) (ci := 5) hA hK (hD σ) hE hP hS rfl rfl) rfl rfl hl.1 rfl (lv_room (Nat.le_of_ble_eq_true rfl)) d_M_call_2 ⟨Nat.le_of_ble_eq_true rfl, Nat.le_of_ble_eq_true rfl⟩) hA (hD σ) hS (fun H locs hP hS => ?_)
  refine lv_if_eq (tgt := 47) hx hb d_M_call_5 (by decide) (fun c => ?_) (fun c => ?_)
  · have h := ifp c h
    refine lv_bipush (v := -2) hx hb d_M_call_47 (by decide) ?_
    cases h
    exact gret_i hx hb hr hlk hP hS d_M_call_49
  have h := ifn c h
  refine lv_aload_n hx hb d_M_call_8 rfl (lv_at hl 0 rfl) ?_
  refine lv_iload_n hx hb d_M_call_9 rfl (lv_at hl 2 rfl) ?_
  obtain ⟨u10, hu10, h⟩ := bnd h
  refine gcall_i (va_runV (As := [.int x2]) (rest := []) ⟨hx, hb, hml, hown, hts⟩ (c_M_isMethod l D cI cZ tL q tl σ x2 u10 hu10 H.size) (cwV 1 hts (gV w_483 w_484 w_714 w_6 w_485) rfl rfl rfl (by decide +kernel) ⟨Nat.le_of_ble_eq_true rfl, Nat.le_of_ble_eq_true rfl⟩) (gpV (k := 0) (ci := 5) hA hK (hD σ) hE hP hS rfl rfl) rfl rfl hl.1 rfl (lv_room (Nat.le_of_ble_eq_true rfl)) d_M_call_10 ⟨Nat.le_of_ble_eq_true rfl, Nat.le_of_ble_eq_true rfl⟩) hA (hD σ) hS (fun H locs hP hS => ?_)
  refine lv_if_eq (tgt := 47) hx hb d_M_call_13 (by decide) (fun c => ?_) (fun c => ?_)
  · have h := ifp c h
    refine lv_bipush (v := -2) hx hb d_M_call_47 (by decide) ?_
    cases h
    exact gret_i hx hb hr hlk hP hS d_M_call_49
  have h := ifn c h
  refine lv_iload_n hx hb d_M_call_16 rfl (lv_at hl 3 rfl) ?_
  obtain ⟨u17, hu17, h⟩ := bnd h
  refine gcall_i (va_runS (As := [.int x3]) (rest := []) ⟨hx, hb, hml, hown, hts⟩ (c_M_isNameOrNone l D cI cZ tL (wM cI cZ q σ ++ tl) x3 u17 hu17 H.size) (va_cwS 1 hts (gS w_504 w_505 w_6 w_506) rfl rfl rfl (by decide +kernel) ⟨Nat.le_of_ble_eq_true rfl, Nat.le_of_ble_eq_true rfl⟩) (gpS hA hK (hD σ) hE hP hS) rfl rfl hl.1 rfl (lv_room (Nat.le_of_ble_eq_true rfl)) d_M_call_17 ⟨Nat.le_of_ble_eq_true rfl, Nat.le_of_ble_eq_true rfl⟩) hA (hD σ) hS (fun H locs hP hS => ?_)
  refine lv_if_eq (tgt := 47) hx hb d_M_call_20 (by decide) (fun c => ?_) (fun c => ?_)
  · have h := ifp c h
    refine lv_bipush (v := -2) hx hb d_M_call_47 (by decide) ?_
    cases h
    exact gret_i hx hb hr hlk hP hS d_M_call_49
  have h := ifn c h
  refine lv_iload hx hb d_M_call_23 (lv_at hl 4 rfl) ?_
  obtain ⟨u25, hu25, h⟩ := bnd h
  refine gcall_i (va_runS (As := [.int x4]) (rest := []) ⟨hx, hb, hml, hown, hts⟩ (c_M_isNameOrNone l D cI cZ tL (wM cI cZ q σ ++ tl) x4 u25 hu25 H.size) (va_cwS 1 hts (gS w_504 w_505 w_6 w_506) rfl rfl rfl (by decide +kernel) ⟨Nat.le_of_ble_eq_true rfl, Nat.le_of_ble_eq_true rfl⟩) (gpS hA hK (hD σ) hE hP hS) rfl rfl hl.1 rfl (lv_room (Nat.le_of_ble_eq_true rfl)) d_M_call_25 ⟨Nat.le_of_ble_eq_true rfl, Nat.le_of_ble_eq_true rfl⟩) hA (hD σ) hS (fun H locs hP hS => ?_)
  refine lv_if_eq (tgt := 47) hx hb d_M_call_28 (by decide) (fun c => ?_) (fun c => ?_)
  · have h := ifp c h
    refine lv_bipush (v := -2) hx hb d_M_call_47 (by decide) ?_
    cases h
    exact gret_i hx hb hr hlk hP hS d_M_call_49
  have h := ifn c h
  refine lv_iload hx hb d_M_call_31 (lv_at hl 5 rfl) ?_
  obtain ⟨u33, hu33, h⟩ := bnd h
  refine gcall_i (va_runS (As := [.int x5]) (rest := []) ⟨hx, hb, hml, hown, hts⟩ (c_M_isNameOrNone l D cI cZ tL (wM cI cZ q σ ++ tl) x5 u33 hu33 H.size) (va_cwS 1 hts (gS w_504 w_505 w_6 w_506) rfl rfl rfl (by decide +kernel) ⟨Nat.le_of_ble_eq_true rfl, Nat.le_of_ble_eq_true rfl⟩) (gpS hA hK (hD σ) hE hP hS) rfl rfl hl.1 rfl (lv_room (Nat.le_of_ble_eq_true rfl)) d_M_call_33 ⟨Nat.le_of_ble_eq_true rfl, Nat.le_of_ble_eq_true rfl⟩) hA (hD σ) hS (fun H locs hP hS => ?_)
  refine lv_if_eq (tgt := 47) hx hb d_M_call_36 (by decide) (fun c => ?_) (fun c => ?_)
  · have h := ifp c h
    refine lv_bipush (v := -2) hx hb d_M_call_47 (by decide) ?_
    cases h
    exact gret_i hx hb hr hlk hP hS d_M_call_49
  have h := ifn c h
  refine lv_iload hx hb d_M_call_39 (lv_at hl 6 rfl) ?_
  obtain ⟨u41, hu41, h⟩ := bnd h
  refine gcall_i (va_runS (As := [.int x6]) (rest := []) ⟨hx, hb, hml, hown, hts⟩ (c_M_isNameOrNone l D cI cZ tL (wM cI cZ q σ ++ tl) x6 u41 hu41 H.size) (va_cwS 1 hts (gS w_504 w_505 w_6 w_506) rfl rfl rfl (by decide +kernel) ⟨Nat.le_of_ble_eq_true rfl, Nat.le_of_ble_eq_true rfl⟩) (gpS hA hK (hD σ) hE hP hS) rfl rfl hl.1 rfl (lv_room (Nat.le_of_ble_eq_true rfl)) d_M_call_41 ⟨Nat.le_of_ble_eq_true rfl, Nat.le_of_ble_eq_true rfl⟩) hA (hD σ) hS (fun H locs hP hS => ?_)
  refine lv_if_ne (tgt := 50) hx hb d_M_call_44 (by decide) (fun c => ?_) (fun c => ?_)
  · have h := ifn c h
    refine lv_aload_n hx hb d_M_call_50 rfl (lv_at hl 0 rfl) ?_
    refine va_get (D := D) (ci := 5) (v := .int (σ 0 1)) (C := R_M) (T := T_M) (N := 17) hx hb hts l_M hown hK hP 0 rfl rfl 1 (by decide) (hts _ w_440) (fun _ h9 => h9) rfl d_M_call_51 ?_
    refine lv_bipush (v := 64) hx hb d_M_call_54 (by decide) ?_
    refine lv_icmp_ne (tgt := 62) hx hb d_M_call_56 (by decide) (fun c => ?_) (fun c => ?_)
    · have h := ifn c h
      refine lv_aload_n hx hb d_M_call_62 rfl (lv_at hl 0 rfl) ?_
      refine va_get (D := D) (ci := 5) (v := .ref (q 4)) (C := R_M) (T := T_M) (N := 17) hx hb hts l_M hown hK hP 0 rfl rfl 6 (by decide) (hts _ w_445) (fun _ h9 => h9) rfl d_M_call_63 ?_
      refine lv_iconst (v := 5) hx hb d_M_call_66 (by decide) ?_
      refine lv_aload_n hx hb d_M_call_67 rfl (lv_at hl 0 rfl) ?_
      refine va_get (D := D) (ci := 5) (v := .int (σ 0 1)) (C := R_M) (T := T_M) (N := 17) hx hb hts l_M hown hK hP 0 rfl rfl 1 (by decide) (hts _ w_440) (fun _ h9 => h9) rfl d_M_call_68 ?_
      refine lv_imul hx hb d_M_call_71 ?_
      refine lv_iload_n hx hb d_M_call_72 rfl (lv_at hl 2 rfl) ?_
      obtain ⟨c, h⟩ := ifs h
      refine va_iast hx hb hK hP (hD σ) hS 4 0 rfl rfl c d_M_call_73 (fun H locs hP _ hS => ?_)
      have hP : va_P D vwCl (wM cI cZ q (sr σ 4 (upd (σ 4) ((5 : Int32) * (σ 0 1)).toNatClampNeg x2)) ++ tl) H := hP
      obtain ⟨s73, es73, h⟩ := lettE h
      rw [← es73] at hP
      refine lv_aload_n hx hb d_M_call_74 rfl (lv_at hl 0 rfl) ?_
      refine va_get (D := D) (ci := 5) (v := .ref (q 4)) (C := R_M) (T := T_M) (N := 17) hx hb hts l_M hown hK hP 0 rfl rfl 6 (by decide) (hts _ w_445) (fun _ h9 => h9) rfl d_M_call_75 ?_
      refine lv_iconst (v := 5) hx hb d_M_call_78 (by decide) ?_
      refine lv_aload_n hx hb d_M_call_79 rfl (lv_at hl 0 rfl) ?_
      refine va_get (D := D) (ci := 5) (v := .int (s73 0 1)) (C := R_M) (T := T_M) (N := 17) hx hb hts l_M hown hK hP 0 rfl rfl 1 (by decide) (hts _ w_440) (fun _ h9 => h9) rfl d_M_call_80 ?_
      refine lv_imul hx hb d_M_call_83 ?_
      refine lv_iconst (v := 1) hx hb d_M_call_84 (by decide) ?_
      refine lv_iadd hx hb d_M_call_85 ?_
      refine lv_iload_n hx hb d_M_call_86 rfl (lv_at hl 3 rfl) ?_
      obtain ⟨c, h⟩ := ifs h
      refine va_iast hx hb hK hP (hD s73) hS 4 0 rfl rfl c d_M_call_87 (fun H locs hP _ hS => ?_)
      have hP : va_P D vwCl (wM cI cZ q (sr s73 4 (upd (s73 4) (((5 : Int32) * (s73 0 1)) + (1 : Int32)).toNatClampNeg x3)) ++ tl) H := hP
      obtain ⟨s87, es87, h⟩ := lettE h
      rw [← es87] at hP
      refine lv_aload_n hx hb d_M_call_88 rfl (lv_at hl 0 rfl) ?_
      refine va_get (D := D) (ci := 5) (v := .ref (q 4)) (C := R_M) (T := T_M) (N := 17) hx hb hts l_M hown hK hP 0 rfl rfl 6 (by decide) (hts _ w_445) (fun _ h9 => h9) rfl d_M_call_89 ?_
      refine lv_iconst (v := 5) hx hb d_M_call_92 (by decide) ?_
      refine lv_aload_n hx hb d_M_call_93 rfl (lv_at hl 0 rfl) ?_
      refine va_get (D := D) (ci := 5) (v := .int (s87 0 1)) (C := R_M) (T := T_M) (N := 17) hx hb hts l_M hown hK hP 0 rfl rfl 1 (by decide) (hts _ w_440) (fun _ h9 => h9) rfl d_M_call_94 ?_
      refine lv_imul hx hb d_M_call_97 ?_
      refine lv_iconst (v := 2) hx hb d_M_call_98 (by decide) ?_
      refine lv_iadd hx hb d_M_call_99 ?_
      refine lv_iload hx hb d_M_call_100 (lv_at hl 4 rfl) ?_
      obtain ⟨c, h⟩ := ifs h
      refine va_iast hx hb hK hP (hD s87) hS 4 0 rfl rfl c d_M_call_102 (fun H locs hP _ hS => ?_)
      have hP : va_P D vwCl (wM cI cZ q (sr s87 4 (upd (s87 4) (((5 : Int32) * (s87 0 1)) + (2 : Int32)).toNatClampNeg x4)) ++ tl) H := hP
      obtain ⟨s102, es102, h⟩ := lettE h
      rw [← es102] at hP
      refine lv_aload_n hx hb d_M_call_103 rfl (lv_at hl 0 rfl) ?_
      refine va_get (D := D) (ci := 5) (v := .ref (q 4)) (C := R_M) (T := T_M) (N := 17) hx hb hts l_M hown hK hP 0 rfl rfl 6 (by decide) (hts _ w_445) (fun _ h9 => h9) rfl d_M_call_104 ?_
      refine lv_iconst (v := 5) hx hb d_M_call_107 (by decide) ?_
      refine lv_aload_n hx hb d_M_call_108 rfl (lv_at hl 0 rfl) ?_
      refine va_get (D := D) (ci := 5) (v := .int (s102 0 1)) (C := R_M) (T := T_M) (N := 17) hx hb hts l_M hown hK hP 0 rfl rfl 1 (by decide) (hts _ w_440) (fun _ h9 => h9) rfl d_M_call_109 ?_
      refine lv_imul hx hb d_M_call_112 ?_
      refine lv_iconst (v := 3) hx hb d_M_call_113 (by decide) ?_
      refine lv_iadd hx hb d_M_call_114 ?_
      refine lv_iload hx hb d_M_call_115 (lv_at hl 5 rfl) ?_
      obtain ⟨c, h⟩ := ifs h
      refine va_iast hx hb hK hP (hD s102) hS 4 0 rfl rfl c d_M_call_117 (fun H locs hP _ hS => ?_)
      have hP : va_P D vwCl (wM cI cZ q (sr s102 4 (upd (s102 4) (((5 : Int32) * (s102 0 1)) + (3 : Int32)).toNatClampNeg x5)) ++ tl) H := hP
      obtain ⟨s117, es117, h⟩ := lettE h
      rw [← es117] at hP
      refine lv_aload_n hx hb d_M_call_118 rfl (lv_at hl 0 rfl) ?_
      refine va_get (D := D) (ci := 5) (v := .ref (q 4)) (C := R_M) (T := T_M) (N := 17) hx hb hts l_M hown hK hP 0 rfl rfl 6 (by decide) (hts _ w_445) (fun _ h9 => h9) rfl d_M_call_119 ?_
      refine lv_iconst (v := 5) hx hb d_M_call_122 (by decide) ?_
      refine lv_aload_n hx hb d_M_call_123 rfl (lv_at hl 0 rfl) ?_
      refine va_get (D := D) (ci := 5) (v := .int (s117 0 1)) (C := R_M) (T := T_M) (N := 17) hx hb hts l_M hown hK hP 0 rfl rfl 1 (by decide) (hts _ w_440) (fun _ h9 => h9) rfl d_M_call_124 ?_
      refine lv_imul hx hb d_M_call_127 ?_
      refine lv_iconst (v := 4) hx hb d_M_call_128 (by decide) ?_
      refine lv_iadd hx hb d_M_call_129 ?_
      refine lv_iload hx hb d_M_call_130 (lv_at hl 6 rfl) ?_
      obtain ⟨c, h⟩ := ifs h
      refine va_iast hx hb hK hP (hD s117) hS 4 0 rfl rfl c d_M_call_132 (fun H locs hP _ hS => ?_)
      have hP : va_P D vwCl (wM cI cZ q (sr s117 4 (upd (s117 4) (((5 : Int32) * (s117 0 1)) + (4 : Int32)).toNatClampNeg x6)) ++ tl) H := hP
      obtain ⟨s132, es132, h⟩ := lettE h
      rw [← es132] at hP
      refine lv_aload_n hx hb d_M_call_133 rfl (lv_at hl 0 rfl) ?_
      refine lv_iload_n hx hb d_M_call_134 rfl (lv_at hl 1 rfl) ?_
      refine lv_bipush (v := 6) hx hb d_M_call_135 (by decide) ?_
      obtain ⟨u137, hu137, h⟩ := bnd h
      refine gcall_i (va_runV (As := [.int x1, .int (6 : Int32)]) (rest := []) ⟨hx, hb, hml, hown, hts⟩ (c_M_add l D cI cZ tL q tl s132 x1 (6 : Int32) u137 hu137 H.size) (cwV 2 hts (gV w_498 w_499 w_694 w_6 w_500) rfl rfl rfl (by decide +kernel) ⟨Nat.le_of_ble_eq_true rfl, Nat.le_of_ble_eq_true rfl⟩) (gpV (k := 0) (ci := 5) hA hK (hD s132) hE hP hS rfl rfl) rfl rfl hl.1 rfl (lv_room (Nat.le_of_ble_eq_true rfl)) d_M_call_137 ⟨Nat.le_of_ble_eq_true rfl, Nat.le_of_ble_eq_true rfl⟩) hA (hD s132) hS (fun H locs hP hS => ?_)
      cases h
      exact gret_i hx hb hr hlk hP hS d_M_call_140
    have h := ifp c h
    refine lv_bipush (v := -3) hx hb d_M_call_59 (by decide) ?_
    cases h
    exact gret_i hx hb hr hlk hP hS d_M_call_61
  have h := ifp c h
  refine lv_bipush (v := -2) hx hb d_M_call_47 (by decide) ?_
  cases h
  exact gret_i hx hb hr hlk hP hS d_M_call_49
/-! ===== EscapeOwnersModel.undo()I ===== -/
def f_M_undo (σ : St) : Option (Int32 × St) := if (σ 0 1) = 0 then (some ((-1 : Int32), σ)) else (lett (su σ 0 1 ((σ 0 1) - (1 : Int32))) (fun s16 => if ¬ ((s16 0 1) < 0 ∨ 64 ≤ (s16 0 1).toNatClampNeg) then (if ((s16 2) (s16 0 1).toNatClampNeg) = 0 then (lett (su s16 0 2 ((s16 0 2) - (1 : Int32))) (fun s45 => lett (su s45 0 13 (1 : Int32)) (fun s50 => some ((s50 0 1), s50)))) else (lett (su s16 0 2 (s16 0 2)) (fun s45 => lett (su s45 0 13 (1 : Int32)) (fun s50 => some ((s50 0 1), s50))))) else none))
set_option maxHeartbeats 4000000 in
set_option maxRecDepth 100000 in
theorem c_M_undo (l : Launch) (D : va_G) (cI cZ : ClassId) (tL : Nat) (q : Nat → Nat) (tl : va_W) (σ : St) (out0 : Int32 × St) (h : f_M_undo σ = some out0) : gCi l y_M_undo (.code y_M_undo b_M_undo 1 (some .int) :: TB) { frames := 0, cells := 0, slots := 0, locals := 0 } D [(cI, .int), (cZ, .boolean)] tL [.ref (q 0)] (wM cI cZ q σ ++ tl) out0.1 (wM cI cZ q out0.2 ++ tl) := by
  refine gCi_of (cc := b_M_undo) (maxL := 1) (ty := .int) (by decide) rfl (Nat.le_of_ble_eq_true rfl) ?_
  intro p e s m below meth c A ls hf hr hlk hA hK hD0 hE hP hl
  obtain ⟨hx, hb, hml, hown, hts⟩ := id hf
  have hts : ∀ w ∈ TB, w.before _ s = true := fun w h => hts w (List.mem_cons_of_mem _ h)
  have hown : s.vm.findClass R_M = some m.cls := hown
  have hl : lv_has ls 1 [(0, .ref (q 0))] := hl
  have hS : va_S A s.heap s.heap [] := va_S.rf
  have hD : ∀ σ' : St, va_D A (wM cI cZ q σ' ++ tl) := fun σ' => va_Dsame hD0 rfl
  unfold f_M_undo at h
  refine lv_aload_n hx hb d_M_undo_0 rfl (lv_at hl 0 rfl) ?_
  refine va_get (D := D) (ci := 5) (v := .int (σ 0 1)) (C := R_M) (T := T_M) (N := 17) hx hb hts l_M hown hK hP 0 rfl rfl 1 (by decide) (hts _ w_440) (fun _ h9 => h9) rfl d_M_undo_1 ?_
  refine lv_if_ne (tgt := 9) hx hb d_M_undo_4 (by decide) (fun c => ?_) (fun c => ?_)
  · have h := ifn c h
    refine lv_aload_n hx hb d_M_undo_9 rfl (lv_at hl 0 rfl) ?_
    refine lv_dup hx hb d_M_undo_10 rfl ?_
    refine va_get (D := D) (ci := 5) (v := .int (σ 0 1)) (C := R_M) (T := T_M) (N := 17) hx hb hts l_M hown hK hP 0 rfl rfl 1 (by decide) (hts _ w_440) (fun _ h9 => h9) rfl d_M_undo_11 ?_
    refine lv_iconst (v := 1) hx hb d_M_undo_14 (by decide) ?_
    refine lv_isub hx hb d_M_undo_15 ?_
    refine va_put (D := D) (ci := 5) (v := .int ((σ 0 1) - (1 : Int32))) (ty := .int) (C := R_M) (T := T_M) (N := 17) hx hb hts l_M t_M t_M_ok n_M hown hK hP (hD σ) hS 0 rfl rfl 1 (by decide) (hts _ w_440) (fun _ h9 => h9) rfl (by decide +kernel) rfl rfl (Nat.le_of_ble_eq_true rfl) d_M_undo_16 (fun H locs hP _ hS => ?_)
    have hP : va_P D vwCl (wM cI cZ q (su σ 0 1 ((σ 0 1) - (1 : Int32))) ++ tl) H := hP
    obtain ⟨s16, es16, h⟩ := lettE h
    rw [← es16] at hP
    refine lv_aload_n hx hb d_M_undo_19 rfl (lv_at hl 0 rfl) ?_
    refine lv_aload_n hx hb d_M_undo_20 rfl (lv_at hl 0 rfl) ?_
    refine va_get (D := D) (ci := 5) (v := .ref (q 2)) (C := R_M) (T := T_M) (N := 17) hx hb hts l_M hown hK hP 0 rfl rfl 4 (by decide) (hts _ w_443) (fun _ h9 => h9) rfl d_M_undo_21 ?_
    refine lv_aload_n hx hb d_M_undo_24 rfl (lv_at hl 0 rfl) ?_
    refine va_get (D := D) (ci := 5) (v := .int (s16 0 1)) (C := R_M) (T := T_M) (N := 17) hx hb hts l_M hown hK hP 0 rfl rfl 1 (by decide) (hts _ w_440) (fun _ h9 => h9) rfl d_M_undo_25 ?_
    obtain ⟨c, h⟩ := ifs h
    refine va_iald hx hb hK hP 2 0 rfl rfl c d_M_undo_28 ?_
    refine lv_if_ne (tgt := 41) hx hb d_M_undo_29 (by decide) (fun c => ?_) (fun c => ?_)
    · have h := ifn c h
      refine lv_aload_n hx hb d_M_undo_41 rfl (lv_at hl 0 rfl) ?_
      refine va_get (D := D) (ci := 5) (v := .int (s16 0 2)) (C := R_M) (T := T_M) (N := 17) hx hb hts l_M hown hK hP 0 rfl rfl 2 (by decide) (hts _ w_441) (fun _ h9 => h9) rfl d_M_undo_42 ?_
      refine va_put (D := D) (ci := 5) (v := .int (s16 0 2)) (ty := .int) (C := R_M) (T := T_M) (N := 17) hx hb hts l_M t_M t_M_ok n_M hown hK hP (hD s16) hS 0 rfl rfl 2 (by decide) (hts _ w_441) (fun _ h9 => h9) rfl (by decide +kernel) rfl rfl (Nat.le_of_ble_eq_true rfl) d_M_undo_45 (fun H locs hP _ hS => ?_)
      have hP : va_P D vwCl (wM cI cZ q (su s16 0 2 (s16 0 2)) ++ tl) H := hP
      obtain ⟨s45, es45, h⟩ := lettE h
      rw [← es45] at hP
      refine lv_aload_n hx hb d_M_undo_48 rfl (lv_at hl 0 rfl) ?_
      refine lv_iconst (v := 1) hx hb d_M_undo_49 (by decide) ?_
      refine va_put (D := D) (ci := 5) (v := .int (1 : Int32)) (ty := .boolean) (C := R_M) (T := T_M) (N := 17) hx hb hts l_M t_M t_M_ok n_M hown hK hP (hD s45) hS 0 rfl rfl 13 (by decide) (hts _ w_452) (fun _ h9 => h9) rfl (by decide +kernel) rfl rfl (Nat.le_of_ble_eq_true rfl) d_M_undo_50 (fun H locs hP _ hS => ?_)
      have hP : va_P D vwCl (wM cI cZ q (su s45 0 13 (1 : Int32)) ++ tl) H := hP
      obtain ⟨s50, es50, h⟩ := lettE h
      rw [← es50] at hP
      refine lv_aload_n hx hb d_M_undo_53 rfl (lv_at hl 0 rfl) ?_
      refine va_get (D := D) (ci := 5) (v := .int (s50 0 1)) (C := R_M) (T := T_M) (N := 17) hx hb hts l_M hown hK hP 0 rfl rfl 1 (by decide) (hts _ w_440) (fun _ h9 => h9) rfl d_M_undo_54 ?_
      cases h
      exact gret_i hx hb hr hlk hP hS d_M_undo_57
    have h := ifp c h
    refine lv_aload_n hx hb d_M_undo_32 rfl (lv_at hl 0 rfl) ?_
    refine va_get (D := D) (ci := 5) (v := .int (s16 0 2)) (C := R_M) (T := T_M) (N := 17) hx hb hts l_M hown hK hP 0 rfl rfl 2 (by decide) (hts _ w_441) (fun _ h9 => h9) rfl d_M_undo_33 ?_
    refine lv_iconst (v := 1) hx hb d_M_undo_36 (by decide) ?_
    refine lv_isub hx hb d_M_undo_37 ?_
    refine lv_goto (tgt := 45) hx hb d_M_undo_38 (by decide) ?_
    refine va_put (D := D) (ci := 5) (v := .int ((s16 0 2) - (1 : Int32))) (ty := .int) (C := R_M) (T := T_M) (N := 17) hx hb hts l_M t_M t_M_ok n_M hown hK hP (hD s16) hS 0 rfl rfl 2 (by decide) (hts _ w_441) (fun _ h9 => h9) rfl (by decide +kernel) rfl rfl (Nat.le_of_ble_eq_true rfl) d_M_undo_45 (fun H locs hP _ hS => ?_)
    have hP : va_P D vwCl (wM cI cZ q (su s16 0 2 ((s16 0 2) - (1 : Int32))) ++ tl) H := hP
    obtain ⟨s45, es45, h⟩ := lettE h
    rw [← es45] at hP
    refine lv_aload_n hx hb d_M_undo_48 rfl (lv_at hl 0 rfl) ?_
    refine lv_iconst (v := 1) hx hb d_M_undo_49 (by decide) ?_
    refine va_put (D := D) (ci := 5) (v := .int (1 : Int32)) (ty := .boolean) (C := R_M) (T := T_M) (N := 17) hx hb hts l_M t_M t_M_ok n_M hown hK hP (hD s45) hS 0 rfl rfl 13 (by decide) (hts _ w_452) (fun _ h9 => h9) rfl (by decide +kernel) rfl rfl (Nat.le_of_ble_eq_true rfl) d_M_undo_50 (fun H locs hP _ hS => ?_)
    have hP : va_P D vwCl (wM cI cZ q (su s45 0 13 (1 : Int32)) ++ tl) H := hP
    obtain ⟨s50, es50, h⟩ := lettE h
    rw [← es50] at hP
    refine lv_aload_n hx hb d_M_undo_53 rfl (lv_at hl 0 rfl) ?_
    refine va_get (D := D) (ci := 5) (v := .int (s50 0 1)) (C := R_M) (T := T_M) (N := 17) hx hb hts l_M hown hK hP 0 rfl rfl 1 (by decide) (hts _ w_440) (fun _ h9 => h9) rfl d_M_undo_54 ?_
    cases h
    exact gret_i hx hb hr hlk hP hS d_M_undo_57
  have h := ifp c h
  refine lv_iconst (v := -1) hx hb d_M_undo_7 (by decide) ?_
  cases h
  exact gret_i hx hb hr hlk hP hS d_M_undo_8
/-! ===== EscapeOwnersModel.told(II)I ===== -/
def f_M_told (σ : St) (x1 : Int32) (x2 : Int32) : Option (Int32) := Option.bind (f_M_isIn x1 (0 : Int32) ((σ 0 1) - (1 : Int32))) (fun u8 => if u8 = 0 then (some (-2 : Int32)) else (Option.bind (f_M_isIn x2 (0 : Int32) (7 : Int32)) (fun u18 => if u18 = 0 then (some (-2 : Int32)) else (if x2 = 0 then (if ¬ (x1 < 0 ∨ 64 ≤ x1.toNatClampNeg) then (some ((σ 1) x1.toNatClampNeg)) else none) else if x2 = 1 then (if ¬ (x1 < 0 ∨ 64 ≤ x1.toNatClampNeg) then (some ((σ 2) x1.toNatClampNeg)) else none) else if x2 = 2 then (if ¬ (x1 < 0 ∨ 64 ≤ x1.toNatClampNeg) then (some ((σ 3) x1.toNatClampNeg)) else none) else (if ¬ (x1 < 0 ∨ 64 ≤ x1.toNatClampNeg) then (Option.bind (f_M_needs ((σ 2) x1.toNatClampNeg)) (fun u86 => if u86 ≤ (x2 - (3 : Int32)) then (some (-1 : Int32)) else (if ¬ (((((5 : Int32) * x1) + x2) - (3 : Int32)) < 0 ∨ 320 ≤ ((((5 : Int32) * x1) + x2) - (3 : Int32)).toNatClampNeg) then (some ((σ 4) ((((5 : Int32) * x1) + x2) - (3 : Int32)).toNatClampNeg)) else none))) else none)))))
set_option maxHeartbeats 4000000 in
set_option maxRecDepth 100000 in
theorem c_M_told (l : Launch) (D : va_G) (cI cZ : ClassId) (tL : Nat) (q : Nat → Nat) (tl : va_W) (σ : St) (x1 : Int32) (x2 : Int32) (out0 : Int32) (h : f_M_told σ x1 x2 = some out0) : gCi l y_M_told (.code y_M_told b_M_told 3 (some .int) :: TB) { frames := 1, cells := 0, slots := 0, locals := 22 } D [(cI, .int), (cZ, .boolean)] tL [.ref (q 0), .int x1, .int x2] (wM cI cZ q σ ++ tl) out0 (wM cI cZ q σ ++ tl) := by
  refine gCi_of (cc := b_M_told) (maxL := 3) (ty := .int) (by decide) rfl (Nat.le_of_ble_eq_true rfl) ?_
  intro p e s m below meth c A ls hf hr hlk hA hK hD0 hE hP hl
  obtain ⟨hx, hb, hml, hown, hts⟩ := id hf
  have hts : ∀ w ∈ TB, w.before _ s = true := fun w h => hts w (List.mem_cons_of_mem _ h)
  have hown : s.vm.findClass R_M = some m.cls := hown
  have hl : lv_has ls 3 [(0, .ref (q 0)), (1, .int x1), (2, .int x2)] := hl
  have hS : va_S A s.heap s.heap [] := va_S.rf
  have hD : ∀ σ' : St, va_D A (wM cI cZ q σ' ++ tl) := fun σ' => va_Dsame hD0 rfl
  unfold f_M_told at h
  refine lv_iload_n hx hb d_M_told_0 rfl (lv_at hl 1 rfl) ?_
  refine lv_iconst (v := 0) hx hb d_M_told_1 (by decide) ?_
  refine lv_aload_n hx hb d_M_told_2 rfl (lv_at hl 0 rfl) ?_
  refine va_get (D := D) (ci := 5) (v := .int (σ 0 1)) (C := R_M) (T := T_M) (N := 17) hx hb hts l_M hown hK hP 0 rfl rfl 1 (by decide) (hts _ w_440) (fun _ h9 => h9) rfl d_M_told_3 ?_
  refine lv_iconst (v := 1) hx hb d_M_told_6 (by decide) ?_
  refine lv_isub hx hb d_M_told_7 ?_
  obtain ⟨u8, hu8, h⟩ := bnd h
  refine gcall_i (va_runS (As := [.int x1, .int (0 : Int32), .int ((σ 0 1) - (1 : Int32))]) (rest := []) ⟨hx, hb, hml, hown, hts⟩ (c_M_isIn l D cI cZ tL (wM cI cZ q σ ++ tl) x1 (0 : Int32) ((σ 0 1) - (1 : Int32)) u8 hu8 s.heap.size) (va_cwS 3 hts (gS w_486 w_487 w_6 w_488) rfl rfl rfl (by decide +kernel) ⟨Nat.le_of_ble_eq_true rfl, Nat.le_of_ble_eq_true rfl⟩) (gpS hA hK (hD σ) hE hP hS) rfl rfl hl.1 rfl (lv_room (Nat.le_of_ble_eq_true rfl)) d_M_told_8 ⟨Nat.le_of_ble_eq_true rfl, Nat.le_of_ble_eq_true rfl⟩) hA (hD σ) hS (fun H locs hP hS => ?_)
  refine lv_if_eq (tgt := 24) hx hb d_M_told_11 (by decide) (fun c => ?_) (fun c => ?_)
  · have h := ifp c h
    refine lv_bipush (v := -2) hx hb d_M_told_24 (by decide) ?_
    cases h
    exact gret_i hx hb hr hlk hP hS d_M_told_26
  have h := ifn c h
  refine lv_iload_n hx hb d_M_told_14 rfl (lv_at hl 2 rfl) ?_
  refine lv_iconst (v := 0) hx hb d_M_told_15 (by decide) ?_
  refine lv_bipush (v := 7) hx hb d_M_told_16 (by decide) ?_
  obtain ⟨u18, hu18, h⟩ := bnd h
  refine gcall_i (va_runS (As := [.int x2, .int (0 : Int32), .int (7 : Int32)]) (rest := []) ⟨hx, hb, hml, hown, hts⟩ (c_M_isIn l D cI cZ tL (wM cI cZ q σ ++ tl) x2 (0 : Int32) (7 : Int32) u18 hu18 H.size) (va_cwS 3 hts (gS w_486 w_487 w_6 w_488) rfl rfl rfl (by decide +kernel) ⟨Nat.le_of_ble_eq_true rfl, Nat.le_of_ble_eq_true rfl⟩) (gpS hA hK (hD σ) hE hP hS) rfl rfl hl.1 rfl (lv_room (Nat.le_of_ble_eq_true rfl)) d_M_told_18 ⟨Nat.le_of_ble_eq_true rfl, Nat.le_of_ble_eq_true rfl⟩) hA (hD σ) hS (fun H locs hP hS => ?_)
  refine lv_if_ne (tgt := 27) hx hb d_M_told_21 (by decide) (fun c => ?_) (fun c => ?_)
  · have h := ifn c h
    refine lv_iload_n hx hb d_M_told_27 rfl (lv_at hl 2 rfl) ?_
    by_cases c0 : x2 = 0
    · refine lv_tableIn (tgt := 56) hx hb d_M_told_28 (by rw [c0]; decide) (by rw [c0]; decide) (by rw [c0]; rfl) (by decide) ?_
      have h := ifp c0 h
      refine lv_aload_n hx hb d_M_told_56 rfl (lv_at hl 0 rfl) ?_
      refine va_get (D := D) (ci := 5) (v := .ref (q 1)) (C := R_M) (T := T_M) (N := 17) hx hb hts l_M hown hK hP 0 rfl rfl 3 (by decide) (hts _ w_442) (fun _ h9 => h9) rfl d_M_told_57 ?_
      refine lv_iload_n hx hb d_M_told_60 rfl (lv_at hl 1 rfl) ?_
      obtain ⟨c, h⟩ := ifs h
      refine va_iald hx hb hK hP 1 0 rfl rfl c d_M_told_61 ?_
      cases h
      exact gret_i hx hb hr hlk hP hS d_M_told_62
    have h := ifn c0 h
    by_cases c1 : x2 = 1
    · refine lv_tableIn (tgt := 63) hx hb d_M_told_28 (by rw [c1]; decide) (by rw [c1]; decide) (by rw [c1]; rfl) (by decide) ?_
      have h := ifp c1 h
      refine lv_aload_n hx hb d_M_told_63 rfl (lv_at hl 0 rfl) ?_
      refine va_get (D := D) (ci := 5) (v := .ref (q 2)) (C := R_M) (T := T_M) (N := 17) hx hb hts l_M hown hK hP 0 rfl rfl 4 (by decide) (hts _ w_443) (fun _ h9 => h9) rfl d_M_told_64 ?_
      refine lv_iload_n hx hb d_M_told_67 rfl (lv_at hl 1 rfl) ?_
      obtain ⟨c, h⟩ := ifs h
      refine va_iald hx hb hK hP 2 0 rfl rfl c d_M_told_68 ?_
      cases h
      exact gret_i hx hb hr hlk hP hS d_M_told_69
    have h := ifn c1 h
    by_cases c2 : x2 = 2
    · refine lv_tableIn (tgt := 70) hx hb d_M_told_28 (by rw [c2]; decide) (by rw [c2]; decide) (by rw [c2]; rfl) (by decide) ?_
      have h := ifp c2 h
      refine lv_aload_n hx hb d_M_told_70 rfl (lv_at hl 0 rfl) ?_
      refine va_get (D := D) (ci := 5) (v := .ref (q 3)) (C := R_M) (T := T_M) (N := 17) hx hb hts l_M hown hK hP 0 rfl rfl 5 (by decide) (hts _ w_444) (fun _ h9 => h9) rfl d_M_told_71 ?_
      refine lv_iload_n hx hb d_M_told_74 rfl (lv_at hl 1 rfl) ?_
      obtain ⟨c, h⟩ := ifs h
      refine va_iald hx hb hK hP 3 0 rfl rfl c d_M_told_75 ?_
      cases h
      exact gret_i hx hb hr hlk hP hS d_M_told_76
    have h := ifn c2 h
    refine lv_tableOut (tgt := 77) hx hb d_M_told_28 (by have e0 := lv_neT (a := 0) c0 (by decide); have e1 := lv_neT (a := 1) c1 (by decide); have e2 := lv_neT (a := 2) c2 (by decide); omega) (by decide) ?_
    refine lv_iload_n hx hb d_M_told_77 rfl (lv_at hl 2 rfl) ?_
    refine lv_iconst (v := 3) hx hb d_M_told_78 (by decide) ?_
    refine lv_isub hx hb d_M_told_79 ?_
    refine lv_aload_n hx hb d_M_told_80 rfl (lv_at hl 0 rfl) ?_
    refine va_get (D := D) (ci := 5) (v := .ref (q 2)) (C := R_M) (T := T_M) (N := 17) hx hb hts l_M hown hK hP 0 rfl rfl 4 (by decide) (hts _ w_443) (fun _ h9 => h9) rfl d_M_told_81 ?_
    refine lv_iload_n hx hb d_M_told_84 rfl (lv_at hl 1 rfl) ?_
    obtain ⟨c, h⟩ := ifs h
    refine va_iald hx hb hK hP 2 0 rfl rfl c d_M_told_85 ?_
    obtain ⟨u86, hu86, h⟩ := bnd h
    refine gcall_i (va_runS (As := [.int ((σ 2) x1.toNatClampNeg)]) (rest := [.int (x2 - (3 : Int32))]) ⟨hx, hb, hml, hown, hts⟩ (c_M_needs l D cI cZ tL (wM cI cZ q σ ++ tl) ((σ 2) x1.toNatClampNeg) u86 hu86 H.size) (va_cwS 1 hts (gS w_489 w_490 w_6 w_491) rfl rfl rfl (by decide +kernel) ⟨Nat.le_of_ble_eq_true rfl, Nat.le_of_ble_eq_true rfl⟩) (gpS hA hK (hD σ) hE hP hS) rfl rfl hl.1 rfl (lv_room (Nat.le_of_ble_eq_true rfl)) d_M_told_86 ⟨Nat.le_of_ble_eq_true rfl, Nat.le_of_ble_eq_true rfl⟩) hA (hD σ) hS (fun H locs hP hS => ?_)
    refine lv_icmp_ge (tgt := 107) hx hb d_M_told_89 (by decide) (fun c => ?_) (fun c => ?_)
    · have h := ifp c h
      refine lv_iconst (v := -1) hx hb d_M_told_107 (by decide) ?_
      cases h
      exact gret_i hx hb hr hlk hP hS d_M_told_108
    have h := ifn c h
    refine lv_aload_n hx hb d_M_told_92 rfl (lv_at hl 0 rfl) ?_
    refine va_get (D := D) (ci := 5) (v := .ref (q 4)) (C := R_M) (T := T_M) (N := 17) hx hb hts l_M hown hK hP 0 rfl rfl 6 (by decide) (hts _ w_445) (fun _ h9 => h9) rfl d_M_told_93 ?_
    refine lv_iconst (v := 5) hx hb d_M_told_96 (by decide) ?_
    refine lv_iload_n hx hb d_M_told_97 rfl (lv_at hl 1 rfl) ?_
    refine lv_imul hx hb d_M_told_98 ?_
    refine lv_iload_n hx hb d_M_told_99 rfl (lv_at hl 2 rfl) ?_
    refine lv_iadd hx hb d_M_told_100 ?_
    refine lv_iconst (v := 3) hx hb d_M_told_101 (by decide) ?_
    refine lv_isub hx hb d_M_told_102 ?_
    obtain ⟨c, h⟩ := ifs h
    refine va_iald hx hb hK hP 4 0 rfl rfl c d_M_told_103 ?_
    refine lv_goto (tgt := 108) hx hb d_M_told_104 (by decide) ?_
    cases h
    exact gret_i hx hb hr hlk hP hS d_M_told_108
  have h := ifp c h
  refine lv_bipush (v := -2) hx hb d_M_told_24 (by decide) ?_
  cases h
  exact gret_i hx hb hr hlk hP hS d_M_told_26
/-! ===== EscapeOwnersModel.calledBy(I)I ===== -/
def f_M_calledBy_B4 (F : Nat) (σ : St) (y1 : Int32) (rec : Int32 → Int32 → Option (Int32 × Int32)) (y2 : Int32) (y3 : Int32) : Option (Int32 × Int32) := if (σ 0 1) ≤ y3 then (some (y2, y3)) else (if ¬ (y3 < 0 ∨ 64 ≤ y3.toNatClampNeg) then (if ((σ 2) y3.toNatClampNeg) = (6 : Int32) then (if ¬ (y3 < 0 ∨ 64 ≤ y3.toNatClampNeg) then (if ((σ 1) y3.toNatClampNeg) = y1 then (if ¬ (((5 : Int32) * y3) < 0 ∨ 320 ≤ ((5 : Int32) * y3).toNatClampNeg) then (rec (y2 ||| ((1 : Int32) <<< (((σ 4) ((5 : Int32) * y3).toNatClampNeg) &&& 31))) (y3 + (1 : Int32))) else none) else (rec y2 (y3 + (1 : Int32)))) else none) else (rec y2 (y3 + (1 : Int32)))) else none)
def f_M_calledBy_L4 (F : Nat) (σ : St) (y1 : Int32) : Nat → Int32 → Int32 → Option (Int32 × Int32)
  | 0, _, _ => none
  | fu + 1, y2, y3 => f_M_calledBy_B4 F σ y1 (f_M_calledBy_L4 F σ y1 fu) y2 y3
def f_M_calledBy (F : Nat) (σ : St) (x1 : Int32) : Option (Int32) := Option.bind (f_M_calledBy_L4 F σ x1 F (0 : Int32) (0 : Int32)) (fun u4 => some u4.1)
set_option maxHeartbeats 4000000 in
set_option maxRecDepth 100000 in
theorem c_M_calledBy (l : Launch) (D : va_G) (cI cZ : ClassId) (tL : Nat) (q : Nat → Nat) (tl : va_W) (F : Nat) (σ : St) (x1 : Int32) (out0 : Int32) (h : f_M_calledBy F σ x1 = some out0) : gCi l y_M_calledBy (.code y_M_calledBy b_M_calledBy 4 (some .int) :: TB) { frames := 0, cells := 0, slots := 0, locals := 0 } D [(cI, .int), (cZ, .boolean)] tL [.ref (q 0), .int x1] (wM cI cZ q σ ++ tl) out0 (wM cI cZ q σ ++ tl) := by
  refine gCi_of (cc := b_M_calledBy) (maxL := 4) (ty := .int) (by decide) rfl (Nat.le_of_ble_eq_true rfl) ?_
  intro p e s m below meth c A ls hf hr hlk hA hK hD0 hE hP hl
  obtain ⟨hx, hb, hml, hown, hts⟩ := id hf
  have hts : ∀ w ∈ TB, w.before _ s = true := fun w h => hts w (List.mem_cons_of_mem _ h)
  have hown : s.vm.findClass R_M = some m.cls := hown
  have hl : lv_has ls 4 [(0, .ref (q 0)), (1, .int x1)] := hl
  have hS : va_S A s.heap s.heap [] := va_S.rf
  have hD : ∀ σ' : St, va_D A (wM cI cZ q σ' ++ tl) := fun σ' => va_Dsame hD0 rfl
  have L4 : ∀ (σ : St) (y1 : Int32) (fu : Nat) (y2 : Int32) (y3 : Int32) (H : Heap) (locs : List Loc) (ls : Array Slot) (out : Int32 × Int32), f_M_calledBy_L4 F σ y1 fu y2 y3 = some out → va_P D vwCl (wM cI cZ q σ ++ tl) H → va_S A s.heap H locs → lv_has ls 4 [(0, .ref (q 0)), (1, .int y1), (2, .int y2), (3, .int y3)] → (∀ (H : Heap) (locs : List Loc) (ls : Array Slot), va_P D vwCl (wM cI cZ q σ ++ tl) H → va_S A s.heap H locs → lv_has ls 4 [(0, .ref (q 0)), (1, .int y1), (2, .int out.1), (3, .int out.2)] → W p l e { frames := 0, cells := 0, slots := 0, locals := 0 } s m ([.ref (q 0), .int x1] : List Value).toArray below meth c H locs 0 0 (gQi below D out0 (wM cI cZ q σ ++ tl) A (([.ref (q 0), .int x1] : List Value).toArray) s) (F0 m 56 ls [])) → W p l e { frames := 0, cells := 0, slots := 0, locals := 0 } s m ([.ref (q 0), .int x1] : List Value).toArray below meth c H locs 0 0 (gQi below D out0 (wM cI cZ q σ ++ tl) A (([.ref (q 0), .int x1] : List Value).toArray) s) (F0 m 4 ls []) := by
    intro σ y1 fu
    induction fu with
    | zero => intro y2 y3 H locs ls out h; exact absurd (show (none : Option (Int32 × Int32)) = some out from h) (fun z => by cases z)
    | succ fu ih =>
      intro y2 y3 H locs ls out h hP hS hl K
      have h : f_M_calledBy_B4 F σ y1 (f_M_calledBy_L4 F σ y1 fu) y2 y3 = some out := h
      unfold f_M_calledBy_B4 at h
      refine lv_iload_n hx hb d_M_calledBy_4 rfl (lv_at hl 3 rfl) ?_
      refine lv_aload_n hx hb d_M_calledBy_5 rfl (lv_at hl 0 rfl) ?_
      refine va_get (D := D) (ci := 5) (v := .int (σ 0 1)) (C := R_M) (T := T_M) (N := 17) hx hb hts l_M hown hK hP 0 rfl rfl 1 (by decide) (hts _ w_440) (fun _ h9 => h9) rfl d_M_calledBy_6 ?_
      refine lv_icmp_ge (tgt := 56) hx hb d_M_calledBy_9 (by decide) (fun c => ?_) (fun c => ?_)
      · have h := ifp c h
        cases h
        exact K _ _ ls hP hS (lv_sub hl [0, 1, 2, 3] rfl)
      have h := ifn c h
      refine lv_aload_n hx hb d_M_calledBy_12 rfl (lv_at hl 0 rfl) ?_
      refine va_get (D := D) (ci := 5) (v := .ref (q 2)) (C := R_M) (T := T_M) (N := 17) hx hb hts l_M hown hK hP 0 rfl rfl 4 (by decide) (hts _ w_443) (fun _ h9 => h9) rfl d_M_calledBy_13 ?_
      refine lv_iload_n hx hb d_M_calledBy_16 rfl (lv_at hl 3 rfl) ?_
      obtain ⟨c, h⟩ := ifs h
      refine va_iald hx hb hK hP 2 0 rfl rfl c d_M_calledBy_17 ?_
      refine lv_bipush (v := 6) hx hb d_M_calledBy_18 (by decide) ?_
      refine lv_icmp_ne (tgt := 48) hx hb d_M_calledBy_20 (by decide) (fun c => ?_) (fun c => ?_)
      · have h := ifn c h
        refine lv_iload_n hx hb d_M_calledBy_48 rfl (lv_at hl 2 rfl) ?_
        refine lv_istore_n (lv' := [(2, .int y2), (0, .ref (q 0)), (1, .int y1), (3, .int y3)]) hx hb d_M_calledBy_49 rfl hl (by decide) rfl (fun ls hl => ?_)
        refine lv_iinc (v := (y3 + (1 : Int32))) (lv' := [(3, .int (y3 + (1 : Int32))), (2, .int y2), (0, .ref (q 0)), (1, .int y1)]) hx hb d_M_calledBy_50 hl (k := 3) rfl rfl (by decide) rfl (fun ls hl => ?_)
        refine lv_goto (tgt := 4) hx hb d_M_calledBy_53 (by decide) ?_
        exact ih y2 (y3 + (1 : Int32)) _ _ ls out h hP hS (lv_sub hl [2, 3, 1, 0] rfl) K
      have h := ifp c h
      refine lv_aload_n hx hb d_M_calledBy_23 rfl (lv_at hl 0 rfl) ?_
      refine va_get (D := D) (ci := 5) (v := .ref (q 1)) (C := R_M) (T := T_M) (N := 17) hx hb hts l_M hown hK hP 0 rfl rfl 3 (by decide) (hts _ w_442) (fun _ h9 => h9) rfl d_M_calledBy_24 ?_
      refine lv_iload_n hx hb d_M_calledBy_27 rfl (lv_at hl 3 rfl) ?_
      obtain ⟨c, h⟩ := ifs h
      refine va_iald hx hb hK hP 1 0 rfl rfl c d_M_calledBy_28 ?_
      refine lv_iload_n hx hb d_M_calledBy_29 rfl (lv_at hl 1 rfl) ?_
      refine lv_icmp_ne (tgt := 48) hx hb d_M_calledBy_30 (by decide) (fun c => ?_) (fun c => ?_)
      · have h := ifn c h
        refine lv_iload_n hx hb d_M_calledBy_48 rfl (lv_at hl 2 rfl) ?_
        refine lv_istore_n (lv' := [(2, .int y2), (0, .ref (q 0)), (1, .int y1), (3, .int y3)]) hx hb d_M_calledBy_49 rfl hl (by decide) rfl (fun ls hl => ?_)
        refine lv_iinc (v := (y3 + (1 : Int32))) (lv' := [(3, .int (y3 + (1 : Int32))), (2, .int y2), (0, .ref (q 0)), (1, .int y1)]) hx hb d_M_calledBy_50 hl (k := 3) rfl rfl (by decide) rfl (fun ls hl => ?_)
        refine lv_goto (tgt := 4) hx hb d_M_calledBy_53 (by decide) ?_
        exact ih y2 (y3 + (1 : Int32)) _ _ ls out h hP hS (lv_sub hl [2, 3, 1, 0] rfl) K
      have h := ifp c h
      refine lv_iload_n hx hb d_M_calledBy_33 rfl (lv_at hl 2 rfl) ?_
      refine lv_iconst (v := 1) hx hb d_M_calledBy_34 (by decide) ?_
      refine lv_aload_n hx hb d_M_calledBy_35 rfl (lv_at hl 0 rfl) ?_
      refine va_get (D := D) (ci := 5) (v := .ref (q 4)) (C := R_M) (T := T_M) (N := 17) hx hb hts l_M hown hK hP 0 rfl rfl 6 (by decide) (hts _ w_445) (fun _ h9 => h9) rfl d_M_calledBy_36 ?_
      refine lv_iconst (v := 5) hx hb d_M_calledBy_39 (by decide) ?_
      refine lv_iload_n hx hb d_M_calledBy_40 rfl (lv_at hl 3 rfl) ?_
      refine lv_imul hx hb d_M_calledBy_41 ?_
      obtain ⟨c, h⟩ := ifs h
      refine va_iald hx hb hK hP 4 0 rfl rfl c d_M_calledBy_42 ?_
      refine lv_ishl hx hb d_M_calledBy_43 ?_
      refine lv_ior hx hb d_M_calledBy_44 ?_
      refine lv_goto (tgt := 49) hx hb d_M_calledBy_45 (by decide) ?_
      refine lv_istore_n (lv' := [(2, .int (y2 ||| ((1 : Int32) <<< (((σ 4) ((5 : Int32) * y3).toNatClampNeg) &&& 31)))), (0, .ref (q 0)), (1, .int y1), (3, .int y3)]) hx hb d_M_calledBy_49 rfl hl (by decide) rfl (fun ls hl => ?_)
      refine lv_iinc (v := (y3 + (1 : Int32))) (lv' := [(3, .int (y3 + (1 : Int32))), (2, .int (y2 ||| ((1 : Int32) <<< (((σ 4) ((5 : Int32) * y3).toNatClampNeg) &&& 31)))), (0, .ref (q 0)), (1, .int y1)]) hx hb d_M_calledBy_50 hl (k := 3) rfl rfl (by decide) rfl (fun ls hl => ?_)
      refine lv_goto (tgt := 4) hx hb d_M_calledBy_53 (by decide) ?_
      exact ih (y2 ||| ((1 : Int32) <<< (((σ 4) ((5 : Int32) * y3).toNatClampNeg) &&& 31))) (y3 + (1 : Int32)) _ _ ls out h hP hS (lv_sub hl [2, 3, 1, 0] rfl) K
  unfold f_M_calledBy at h
  refine lv_iconst (v := 0) hx hb d_M_calledBy_0 (by decide) ?_
  refine lv_istore_n (lv' := [(2, .int (0 : Int32)), (0, .ref (q 0)), (1, .int x1)]) hx hb d_M_calledBy_1 rfl hl (by decide) rfl (fun ls hl => ?_)
  refine lv_iconst (v := 0) hx hb d_M_calledBy_2 (by decide) ?_
  refine lv_istore_n (lv' := [(3, .int (0 : Int32)), (2, .int (0 : Int32)), (0, .ref (q 0)), (1, .int x1)]) hx hb d_M_calledBy_3 rfl hl (by decide) rfl (fun ls hl => ?_)
  obtain ⟨u4, hu4, h⟩ := bnd h
  refine L4 σ x1 F (0 : Int32) (0 : Int32) _ _ ls u4 hu4 hP hS (lv_sub hl [2, 3, 1, 0] rfl) (fun H locs ls hP hS hl => ?_)
  refine lv_iload_n hx hb d_M_calledBy_56 rfl (lv_at hl 2 rfl) ?_
  cases h
  exact gret_i hx hb hr hlk hP hS d_M_calledBy_57
/-! ===== EscapeOwnersModel.allCalled(I)I ===== -/
def f_M_allCalled_B14 (F : Nat) (σ : St) (y3 : Int32) (rec : Int32 → Int32 → Option (Int32 × Int32)) (y2 : Int32) (y4 : Int32) : Option (Int32 × Int32) := if (σ 0 0) ≤ y4 then (some (y2, y4)) else (Option.bind (f_M_has y3 y4) (fun u26 => if u26 = 0 then (rec y2 (y4 + (1 : Int32))) else (Option.bind (f_M_calledBy F σ y4) (fun u36 => rec (y2 ||| u36) (y4 + (1 : Int32))))))
def f_M_allCalled_L14 (F : Nat) (σ : St) (y3 : Int32) : Nat → Int32 → Int32 → Option (Int32 × Int32)
  | 0, _, _ => none
  | fu + 1, y2, y4 => f_M_allCalled_B14 F σ y3 (f_M_allCalled_L14 F σ y3 fu) y2 y4
def f_M_allCalled_B4 (F : Nat) (σ : St) (rec : Int32 → Int32 → Option (Int32 × Int32)) (y2 : Int32) (y3 : Int32) : Option (Int32 × Int32) := if y2 = y3 then (some (y2, y3)) else (Option.bind (f_M_allCalled_L14 F σ y2 F y2 (0 : Int32)) (fun u14 => rec u14.1 y2))
def f_M_allCalled_L4 (F : Nat) (σ : St) : Nat → Int32 → Int32 → Option (Int32 × Int32)
  | 0, _, _ => none
  | fu + 1, y2, y3 => f_M_allCalled_B4 F σ (f_M_allCalled_L4 F σ fu) y2 y3
def f_M_allCalled (F : Nat) (σ : St) (x1 : Int32) : Option (Int32) := Option.bind (f_M_allCalled_L4 F σ F x1 (0 : Int32)) (fun u4 => some u4.1)
set_option maxHeartbeats 4000000 in
set_option maxRecDepth 100000 in
theorem c_M_allCalled (l : Launch) (D : va_G) (cI cZ : ClassId) (tL : Nat) (q : Nat → Nat) (tl : va_W) (F : Nat) (σ : St) (x1 : Int32) (out0 : Int32) (h : f_M_allCalled F σ x1 = some out0) : gCi l y_M_allCalled (.code y_M_allCalled b_M_allCalled 5 (some .int) :: TB) { frames := 1, cells := 0, slots := 0, locals := 23 } D [(cI, .int), (cZ, .boolean)] tL [.ref (q 0), .int x1] (wM cI cZ q σ ++ tl) out0 (wM cI cZ q σ ++ tl) := by
  refine gCi_of (cc := b_M_allCalled) (maxL := 5) (ty := .int) (by decide) rfl (Nat.le_of_ble_eq_true rfl) ?_
  intro p e s m below meth c A ls hf hr hlk hA hK hD0 hE hP hl
  obtain ⟨hx, hb, hml, hown, hts⟩ := id hf
  have hts : ∀ w ∈ TB, w.before _ s = true := fun w h => hts w (List.mem_cons_of_mem _ h)
  have hown : s.vm.findClass R_M = some m.cls := hown
  have hl : lv_has ls 5 [(0, .ref (q 0)), (1, .int x1)] := hl
  have hS : va_S A s.heap s.heap [] := va_S.rf
  have hD : ∀ σ' : St, va_D A (wM cI cZ q σ' ++ tl) := fun σ' => va_Dsame hD0 rfl
  have L14 : ∀ (σ : St) (y3 : Int32) (fu : Nat) (y2 : Int32) (y4 : Int32) (H : Heap) (locs : List Loc) (ls : Array Slot) (out : Int32 × Int32), f_M_allCalled_L14 F σ y3 fu y2 y4 = some out → va_P D vwCl (wM cI cZ q σ ++ tl) H → va_S A s.heap H locs → lv_has ls 5 [(0, .ref (q 0)), (2, .int y2), (3, .int y3), (4, .int y4)] → (∀ (H : Heap) (locs : List Loc) (ls : Array Slot), va_P D vwCl (wM cI cZ q σ ++ tl) H → va_S A s.heap H locs → lv_has ls 5 [(0, .ref (q 0)), (2, .int out.1), (3, .int y3), (4, .int out.2)] → W p l e { frames := 1, cells := 0, slots := 0, locals := 23 } s m ([.ref (q 0), .int x1] : List Value).toArray below meth c H locs 0 0 (gQi below D out0 (wM cI cZ q σ ++ tl) A (([.ref (q 0), .int x1] : List Value).toArray) s) (F0 m 51 ls [])) → W p l e { frames := 1, cells := 0, slots := 0, locals := 23 } s m ([.ref (q 0), .int x1] : List Value).toArray below meth c H locs 0 0 (gQi below D out0 (wM cI cZ q σ ++ tl) A (([.ref (q 0), .int x1] : List Value).toArray) s) (F0 m 14 ls []) := by
    intro σ y3 fu
    induction fu with
    | zero => intro y2 y4 H locs ls out h; exact absurd (show (none : Option (Int32 × Int32)) = some out from h) (fun z => by cases z)
    | succ fu ih =>
      intro y2 y4 H locs ls out h hP hS hl K
      have h : f_M_allCalled_B14 F σ y3 (f_M_allCalled_L14 F σ y3 fu) y2 y4 = some out := h
      unfold f_M_allCalled_B14 at h
      refine lv_iload hx hb d_M_allCalled_14 (lv_at hl 3 rfl) ?_
      refine lv_aload_n hx hb d_M_allCalled_16 rfl (lv_at hl 0 rfl) ?_
      refine va_get (D := D) (ci := 5) (v := .int (σ 0 0)) (C := R_M) (T := T_M) (N := 17) hx hb hts l_M hown hK hP 0 rfl rfl 0 (by decide) (hts _ w_439) (fun _ h9 => h9) rfl d_M_allCalled_17 ?_
      refine lv_icmp_ge (tgt := 51) hx hb d_M_allCalled_20 (by decide) (fun c => ?_) (fun c => ?_)
      · have h := ifp c h
        cases h
        exact K _ _ ls hP hS (lv_sub hl [0, 1, 2, 3] rfl)
      have h := ifn c h
      refine lv_iload_n hx hb d_M_allCalled_23 rfl (lv_at hl 2 rfl) ?_
      refine lv_iload hx hb d_M_allCalled_24 (lv_at hl 3 rfl) ?_
      obtain ⟨u26, hu26, h⟩ := bnd h
      refine gcall_i (va_runS (As := [.int y3, .int y4]) (rest := []) ⟨hx, hb, hml, hown, hts⟩ (c_M_has l D cI cZ tL (wM cI cZ q σ ++ tl) y3 y4 u26 hu26 H.size) (va_cwS 2 hts (gS w_522 w_523 w_6 w_524) rfl rfl rfl (by decide +kernel) ⟨Nat.le_of_ble_eq_true rfl, Nat.le_of_ble_eq_true rfl⟩) (gpS hA hK (hD σ) hE hP hS) rfl rfl hl.1 rfl (lv_room (Nat.le_of_ble_eq_true rfl)) d_M_allCalled_26 ⟨Nat.le_of_ble_eq_true rfl, Nat.le_of_ble_eq_true rfl⟩) hA (hD σ) hS (fun H locs hP hS => ?_)
      refine lv_if_eq (tgt := 43) hx hb d_M_allCalled_29 (by decide) (fun c => ?_) (fun c => ?_)
      · have h := ifp c h
        refine lv_iload_n hx hb d_M_allCalled_43 rfl (lv_at hl 1 rfl) ?_
        refine lv_istore_n (lv' := [(2, .int y2), (0, .ref (q 0)), (3, .int y3), (4, .int y4)]) hx hb d_M_allCalled_44 rfl hl (by decide) rfl (fun ls hl => ?_)
        refine lv_iinc (v := (y4 + (1 : Int32))) (lv' := [(4, .int (y4 + (1 : Int32))), (2, .int y2), (0, .ref (q 0)), (3, .int y3)]) hx hb d_M_allCalled_45 hl (k := 3) rfl rfl (by decide) rfl (fun ls hl => ?_)
        refine lv_goto (tgt := 14) hx hb d_M_allCalled_48 (by decide) ?_
        exact ih y2 (y4 + (1 : Int32)) _ _ ls out h hP hS (lv_sub hl [2, 1, 3, 0] rfl) K
      have h := ifn c h
      refine lv_iload_n hx hb d_M_allCalled_32 rfl (lv_at hl 1 rfl) ?_
      refine lv_aload_n hx hb d_M_allCalled_33 rfl (lv_at hl 0 rfl) ?_
      refine lv_iload hx hb d_M_allCalled_34 (lv_at hl 3 rfl) ?_
      obtain ⟨u36, hu36, h⟩ := bnd h
      refine gcall_i (va_runV (As := [.int y4]) (rest := [.int y2]) ⟨hx, hb, hml, hown, hts⟩ (c_M_calledBy l D cI cZ tL q tl F σ y4 u36 hu36 H.size) (cwV 1 hts (gV w_525 w_526 w_697 w_6 w_527) rfl rfl rfl (by decide +kernel) ⟨Nat.le_of_ble_eq_true rfl, Nat.le_of_ble_eq_true rfl⟩) (gpV (k := 0) (ci := 5) hA hK (hD σ) hE hP hS rfl rfl) rfl rfl hl.1 rfl (lv_room (Nat.le_of_ble_eq_true rfl)) d_M_allCalled_36 ⟨Nat.le_of_ble_eq_true rfl, Nat.le_of_ble_eq_true rfl⟩) hA (hD σ) hS (fun H locs hP hS => ?_)
      refine lv_ior hx hb d_M_allCalled_39 ?_
      refine lv_goto (tgt := 44) hx hb d_M_allCalled_40 (by decide) ?_
      refine lv_istore_n (lv' := [(2, .int (y2 ||| u36)), (0, .ref (q 0)), (3, .int y3), (4, .int y4)]) hx hb d_M_allCalled_44 rfl hl (by decide) rfl (fun ls hl => ?_)
      refine lv_iinc (v := (y4 + (1 : Int32))) (lv' := [(4, .int (y4 + (1 : Int32))), (2, .int (y2 ||| u36)), (0, .ref (q 0)), (3, .int y3)]) hx hb d_M_allCalled_45 hl (k := 3) rfl rfl (by decide) rfl (fun ls hl => ?_)
      refine lv_goto (tgt := 14) hx hb d_M_allCalled_48 (by decide) ?_
      exact ih (y2 ||| u36) (y4 + (1 : Int32)) _ _ ls out h hP hS (lv_sub hl [2, 1, 3, 0] rfl) K
  have L4 : ∀ (σ : St) (fu : Nat) (y2 : Int32) (y3 : Int32) (H : Heap) (locs : List Loc) (ls : Array Slot) (out : Int32 × Int32), f_M_allCalled_L4 F σ fu y2 y3 = some out → va_P D vwCl (wM cI cZ q σ ++ tl) H → va_S A s.heap H locs → lv_has ls 5 [(0, .ref (q 0)), (2, .int y2), (3, .int y3)] → (∀ (H : Heap) (locs : List Loc) (ls : Array Slot), va_P D vwCl (wM cI cZ q σ ++ tl) H → va_S A s.heap H locs → lv_has ls 5 [(0, .ref (q 0)), (2, .int out.1), (3, .int out.2)] → W p l e { frames := 1, cells := 0, slots := 0, locals := 23 } s m ([.ref (q 0), .int x1] : List Value).toArray below meth c H locs 0 0 (gQi below D out0 (wM cI cZ q σ ++ tl) A (([.ref (q 0), .int x1] : List Value).toArray) s) (F0 m 54 ls [])) → W p l e { frames := 1, cells := 0, slots := 0, locals := 23 } s m ([.ref (q 0), .int x1] : List Value).toArray below meth c H locs 0 0 (gQi below D out0 (wM cI cZ q σ ++ tl) A (([.ref (q 0), .int x1] : List Value).toArray) s) (F0 m 4 ls []) := by
    intro σ fu
    induction fu with
    | zero => intro y2 y3 H locs ls out h; exact absurd (show (none : Option (Int32 × Int32)) = some out from h) (fun z => by cases z)
    | succ fu ih =>
      intro y2 y3 H locs ls out h hP hS hl K
      have h : f_M_allCalled_B4 F σ (f_M_allCalled_L4 F σ fu) y2 y3 = some out := h
      unfold f_M_allCalled_B4 at h
      refine lv_iload_n hx hb d_M_allCalled_4 rfl (lv_at hl 1 rfl) ?_
      refine lv_iload_n hx hb d_M_allCalled_5 rfl (lv_at hl 2 rfl) ?_
      refine lv_icmp_eq (tgt := 54) hx hb d_M_allCalled_6 (by decide) (fun c => ?_) (fun c => ?_)
      · have h := ifp c h
        cases h
        exact K _ _ ls hP hS (lv_sub hl [0, 1, 2] rfl)
      have h := ifn c h
      refine lv_iload_n hx hb d_M_allCalled_9 rfl (lv_at hl 1 rfl) ?_
      refine lv_istore_n (lv' := [(3, .int y2), (0, .ref (q 0)), (2, .int y2)]) hx hb d_M_allCalled_10 rfl hl (by decide) rfl (fun ls hl => ?_)
      refine lv_iconst (v := 0) hx hb d_M_allCalled_11 (by decide) ?_
      refine lv_istore (lv' := [(4, .int (0 : Int32)), (3, .int y2), (0, .ref (q 0)), (2, .int y2)]) hx hb d_M_allCalled_12 hl (by decide) rfl (fun ls hl => ?_)
      obtain ⟨u14, hu14, h⟩ := bnd h
      refine L14 σ y2 F y2 (0 : Int32) _ _ ls u14 hu14 hP hS (lv_sub hl [2, 3, 1, 0] rfl) (fun H locs ls hP hS hl => ?_)
      refine lv_goto (tgt := 4) hx hb d_M_allCalled_51 (by decide) ?_
      exact ih u14.1 y2 _ _ ls out h hP hS (lv_sub hl [0, 1, 2] rfl) K
  unfold f_M_allCalled at h
  refine lv_iload_n hx hb d_M_allCalled_0 rfl (lv_at hl 1 rfl) ?_
  refine lv_istore_n (lv' := [(2, .int x1), (0, .ref (q 0)), (1, .int x1)]) hx hb d_M_allCalled_1 rfl hl (by decide) rfl (fun ls hl => ?_)
  refine lv_iconst (v := 0) hx hb d_M_allCalled_2 (by decide) ?_
  refine lv_istore_n (lv' := [(3, .int (0 : Int32)), (2, .int x1), (0, .ref (q 0)), (1, .int x1)]) hx hb d_M_allCalled_3 rfl hl (by decide) rfl (fun ls hl => ?_)
  obtain ⟨u4, hu4, h⟩ := bnd h
  refine L4 σ F x1 (0 : Int32) _ _ ls u4 hu4 hP hS (lv_sub hl [2, 1, 0] rfl) (fun H locs ls hP hS hl => ?_)
  refine lv_iload_n hx hb d_M_allCalled_54 rfl (lv_at hl 1 rfl) ?_
  cases h
  exact gret_i hx hb hr hlk hP hS d_M_allCalled_55
/-! ===== EscapeOwnersModel.callers(I)I ===== -/
def f_M_callers_B4 (F : Nat) (σ : St) (y1 : Int32) (rec : Int32 → Int32 → Option (Int32 × Int32)) (y2 : Int32) (y3 : Int32) : Option (Int32 × Int32) := if (σ 0 1) ≤ y3 then (some (y2, y3)) else (if ¬ (y3 < 0 ∨ 64 ≤ y3.toNatClampNeg) then (if ((σ 2) y3.toNatClampNeg) = (6 : Int32) then (if ¬ (((5 : Int32) * y3) < 0 ∨ 320 ≤ ((5 : Int32) * y3).toNatClampNeg) then (if ((σ 4) ((5 : Int32) * y3).toNatClampNeg) = y1 then (if ¬ (y3 < 0 ∨ 64 ≤ y3.toNatClampNeg) then (rec (y2 ||| ((1 : Int32) <<< (((σ 1) y3.toNatClampNeg) &&& 31))) (y3 + (1 : Int32))) else none) else (rec y2 (y3 + (1 : Int32)))) else none) else (rec y2 (y3 + (1 : Int32)))) else none)
def f_M_callers_L4 (F : Nat) (σ : St) (y1 : Int32) : Nat → Int32 → Int32 → Option (Int32 × Int32)
  | 0, _, _ => none
  | fu + 1, y2, y3 => f_M_callers_B4 F σ y1 (f_M_callers_L4 F σ y1 fu) y2 y3
def f_M_callers (F : Nat) (σ : St) (x1 : Int32) : Option (Int32) := Option.bind (f_M_callers_L4 F σ x1 F (0 : Int32) (0 : Int32)) (fun u4 => some u4.1)
set_option maxHeartbeats 4000000 in
set_option maxRecDepth 100000 in
theorem c_M_callers (l : Launch) (D : va_G) (cI cZ : ClassId) (tL : Nat) (q : Nat → Nat) (tl : va_W) (F : Nat) (σ : St) (x1 : Int32) (out0 : Int32) (h : f_M_callers F σ x1 = some out0) : gCi l y_M_callers (.code y_M_callers b_M_callers 4 (some .int) :: TB) { frames := 0, cells := 0, slots := 0, locals := 0 } D [(cI, .int), (cZ, .boolean)] tL [.ref (q 0), .int x1] (wM cI cZ q σ ++ tl) out0 (wM cI cZ q σ ++ tl) := by
  refine gCi_of (cc := b_M_callers) (maxL := 4) (ty := .int) (by decide) rfl (Nat.le_of_ble_eq_true rfl) ?_
  intro p e s m below meth c A ls hf hr hlk hA hK hD0 hE hP hl
  obtain ⟨hx, hb, hml, hown, hts⟩ := id hf
  have hts : ∀ w ∈ TB, w.before _ s = true := fun w h => hts w (List.mem_cons_of_mem _ h)
  have hown : s.vm.findClass R_M = some m.cls := hown
  have hl : lv_has ls 4 [(0, .ref (q 0)), (1, .int x1)] := hl
  have hS : va_S A s.heap s.heap [] := va_S.rf
  have hD : ∀ σ' : St, va_D A (wM cI cZ q σ' ++ tl) := fun σ' => va_Dsame hD0 rfl
  have L4 : ∀ (σ : St) (y1 : Int32) (fu : Nat) (y2 : Int32) (y3 : Int32) (H : Heap) (locs : List Loc) (ls : Array Slot) (out : Int32 × Int32), f_M_callers_L4 F σ y1 fu y2 y3 = some out → va_P D vwCl (wM cI cZ q σ ++ tl) H → va_S A s.heap H locs → lv_has ls 4 [(0, .ref (q 0)), (1, .int y1), (2, .int y2), (3, .int y3)] → (∀ (H : Heap) (locs : List Loc) (ls : Array Slot), va_P D vwCl (wM cI cZ q σ ++ tl) H → va_S A s.heap H locs → lv_has ls 4 [(0, .ref (q 0)), (1, .int y1), (2, .int out.1), (3, .int out.2)] → W p l e { frames := 0, cells := 0, slots := 0, locals := 0 } s m ([.ref (q 0), .int x1] : List Value).toArray below meth c H locs 0 0 (gQi below D out0 (wM cI cZ q σ ++ tl) A (([.ref (q 0), .int x1] : List Value).toArray) s) (F0 m 56 ls [])) → W p l e { frames := 0, cells := 0, slots := 0, locals := 0 } s m ([.ref (q 0), .int x1] : List Value).toArray below meth c H locs 0 0 (gQi below D out0 (wM cI cZ q σ ++ tl) A (([.ref (q 0), .int x1] : List Value).toArray) s) (F0 m 4 ls []) := by
    intro σ y1 fu
    induction fu with
    | zero => intro y2 y3 H locs ls out h; exact absurd (show (none : Option (Int32 × Int32)) = some out from h) (fun z => by cases z)
    | succ fu ih =>
      intro y2 y3 H locs ls out h hP hS hl K
      have h : f_M_callers_B4 F σ y1 (f_M_callers_L4 F σ y1 fu) y2 y3 = some out := h
      unfold f_M_callers_B4 at h
      refine lv_iload_n hx hb d_M_callers_4 rfl (lv_at hl 3 rfl) ?_
      refine lv_aload_n hx hb d_M_callers_5 rfl (lv_at hl 0 rfl) ?_
      refine va_get (D := D) (ci := 5) (v := .int (σ 0 1)) (C := R_M) (T := T_M) (N := 17) hx hb hts l_M hown hK hP 0 rfl rfl 1 (by decide) (hts _ w_440) (fun _ h9 => h9) rfl d_M_callers_6 ?_
      refine lv_icmp_ge (tgt := 56) hx hb d_M_callers_9 (by decide) (fun c => ?_) (fun c => ?_)
      · have h := ifp c h
        cases h
        exact K _ _ ls hP hS (lv_sub hl [0, 1, 2, 3] rfl)
      have h := ifn c h
      refine lv_aload_n hx hb d_M_callers_12 rfl (lv_at hl 0 rfl) ?_
      refine va_get (D := D) (ci := 5) (v := .ref (q 2)) (C := R_M) (T := T_M) (N := 17) hx hb hts l_M hown hK hP 0 rfl rfl 4 (by decide) (hts _ w_443) (fun _ h9 => h9) rfl d_M_callers_13 ?_
      refine lv_iload_n hx hb d_M_callers_16 rfl (lv_at hl 3 rfl) ?_
      obtain ⟨c, h⟩ := ifs h
      refine va_iald hx hb hK hP 2 0 rfl rfl c d_M_callers_17 ?_
      refine lv_bipush (v := 6) hx hb d_M_callers_18 (by decide) ?_
      refine lv_icmp_ne (tgt := 48) hx hb d_M_callers_20 (by decide) (fun c => ?_) (fun c => ?_)
      · have h := ifn c h
        refine lv_iload_n hx hb d_M_callers_48 rfl (lv_at hl 2 rfl) ?_
        refine lv_istore_n (lv' := [(2, .int y2), (0, .ref (q 0)), (1, .int y1), (3, .int y3)]) hx hb d_M_callers_49 rfl hl (by decide) rfl (fun ls hl => ?_)
        refine lv_iinc (v := (y3 + (1 : Int32))) (lv' := [(3, .int (y3 + (1 : Int32))), (2, .int y2), (0, .ref (q 0)), (1, .int y1)]) hx hb d_M_callers_50 hl (k := 3) rfl rfl (by decide) rfl (fun ls hl => ?_)
        refine lv_goto (tgt := 4) hx hb d_M_callers_53 (by decide) ?_
        exact ih y2 (y3 + (1 : Int32)) _ _ ls out h hP hS (lv_sub hl [2, 3, 1, 0] rfl) K
      have h := ifp c h
      refine lv_aload_n hx hb d_M_callers_23 rfl (lv_at hl 0 rfl) ?_
      refine va_get (D := D) (ci := 5) (v := .ref (q 4)) (C := R_M) (T := T_M) (N := 17) hx hb hts l_M hown hK hP 0 rfl rfl 6 (by decide) (hts _ w_445) (fun _ h9 => h9) rfl d_M_callers_24 ?_
      refine lv_iconst (v := 5) hx hb d_M_callers_27 (by decide) ?_
      refine lv_iload_n hx hb d_M_callers_28 rfl (lv_at hl 3 rfl) ?_
      refine lv_imul hx hb d_M_callers_29 ?_
      obtain ⟨c, h⟩ := ifs h
      refine va_iald hx hb hK hP 4 0 rfl rfl c d_M_callers_30 ?_
      refine lv_iload_n hx hb d_M_callers_31 rfl (lv_at hl 1 rfl) ?_
      refine lv_icmp_ne (tgt := 48) hx hb d_M_callers_32 (by decide) (fun c => ?_) (fun c => ?_)
      · have h := ifn c h
        refine lv_iload_n hx hb d_M_callers_48 rfl (lv_at hl 2 rfl) ?_
        refine lv_istore_n (lv' := [(2, .int y2), (0, .ref (q 0)), (1, .int y1), (3, .int y3)]) hx hb d_M_callers_49 rfl hl (by decide) rfl (fun ls hl => ?_)
        refine lv_iinc (v := (y3 + (1 : Int32))) (lv' := [(3, .int (y3 + (1 : Int32))), (2, .int y2), (0, .ref (q 0)), (1, .int y1)]) hx hb d_M_callers_50 hl (k := 3) rfl rfl (by decide) rfl (fun ls hl => ?_)
        refine lv_goto (tgt := 4) hx hb d_M_callers_53 (by decide) ?_
        exact ih y2 (y3 + (1 : Int32)) _ _ ls out h hP hS (lv_sub hl [2, 3, 1, 0] rfl) K
      have h := ifp c h
      refine lv_iload_n hx hb d_M_callers_35 rfl (lv_at hl 2 rfl) ?_
      refine lv_iconst (v := 1) hx hb d_M_callers_36 (by decide) ?_
      refine lv_aload_n hx hb d_M_callers_37 rfl (lv_at hl 0 rfl) ?_
      refine va_get (D := D) (ci := 5) (v := .ref (q 1)) (C := R_M) (T := T_M) (N := 17) hx hb hts l_M hown hK hP 0 rfl rfl 3 (by decide) (hts _ w_442) (fun _ h9 => h9) rfl d_M_callers_38 ?_
      refine lv_iload_n hx hb d_M_callers_41 rfl (lv_at hl 3 rfl) ?_
      obtain ⟨c, h⟩ := ifs h
      refine va_iald hx hb hK hP 1 0 rfl rfl c d_M_callers_42 ?_
      refine lv_ishl hx hb d_M_callers_43 ?_
      refine lv_ior hx hb d_M_callers_44 ?_
      refine lv_goto (tgt := 49) hx hb d_M_callers_45 (by decide) ?_
      refine lv_istore_n (lv' := [(2, .int (y2 ||| ((1 : Int32) <<< (((σ 1) y3.toNatClampNeg) &&& 31)))), (0, .ref (q 0)), (1, .int y1), (3, .int y3)]) hx hb d_M_callers_49 rfl hl (by decide) rfl (fun ls hl => ?_)
      refine lv_iinc (v := (y3 + (1 : Int32))) (lv' := [(3, .int (y3 + (1 : Int32))), (2, .int (y2 ||| ((1 : Int32) <<< (((σ 1) y3.toNatClampNeg) &&& 31)))), (0, .ref (q 0)), (1, .int y1)]) hx hb d_M_callers_50 hl (k := 3) rfl rfl (by decide) rfl (fun ls hl => ?_)
      refine lv_goto (tgt := 4) hx hb d_M_callers_53 (by decide) ?_
      exact ih (y2 ||| ((1 : Int32) <<< (((σ 1) y3.toNatClampNeg) &&& 31))) (y3 + (1 : Int32)) _ _ ls out h hP hS (lv_sub hl [2, 3, 1, 0] rfl) K
  unfold f_M_callers at h
  refine lv_iconst (v := 0) hx hb d_M_callers_0 (by decide) ?_
  refine lv_istore_n (lv' := [(2, .int (0 : Int32)), (0, .ref (q 0)), (1, .int x1)]) hx hb d_M_callers_1 rfl hl (by decide) rfl (fun ls hl => ?_)
  refine lv_iconst (v := 0) hx hb d_M_callers_2 (by decide) ?_
  refine lv_istore_n (lv' := [(3, .int (0 : Int32)), (2, .int (0 : Int32)), (0, .ref (q 0)), (1, .int x1)]) hx hb d_M_callers_3 rfl hl (by decide) rfl (fun ls hl => ?_)
  obtain ⟨u4, hu4, h⟩ := bnd h
  refine L4 σ x1 F (0 : Int32) (0 : Int32) _ _ ls u4 hu4 hP hS (lv_sub hl [2, 3, 1, 0] rfl) (fun H locs ls hP hS hl => ?_)
  refine lv_iload_n hx hb d_M_callers_56 rfl (lv_at hl 2 rfl) ?_
  cases h
  exact gret_i hx hb hr hlk hP hS d_M_callers_57
/-! ===== EscapeOwnersModel.isLive(I)Z ===== -/
def f_M_isLive (σ : St) (x1 : Int32) : Option (Int32) := if ¬ (x1 < 0 ∨ 64 ≤ x1.toNatClampNeg) then (Option.bind (f_M_has (σ 0 12) ((σ 1) x1.toNatClampNeg)) (fun u10 => if u10 = 0 ∨ u10 = 1 then some u10 else none)) else none
set_option maxHeartbeats 4000000 in
set_option maxRecDepth 100000 in
theorem c_M_isLive (l : Launch) (D : va_G) (cI cZ : ClassId) (tL : Nat) (q : Nat → Nat) (tl : va_W) (σ : St) (x1 : Int32) (out0 : Int32) (h : f_M_isLive σ x1 = some out0) : gCi l y_M_isLive (.code y_M_isLive b_M_isLive 2 (some .boolean) :: TB) { frames := 1, cells := 0, slots := 0, locals := 21 } D [(cI, .int), (cZ, .boolean)] tL [.ref (q 0), .int x1] (wM cI cZ q σ ++ tl) out0 (wM cI cZ q σ ++ tl) := by
  refine gCi_of (cc := b_M_isLive) (maxL := 2) (ty := .boolean) (by decide) rfl (Nat.le_of_ble_eq_true rfl) ?_
  intro p e s m below meth c A ls hf hr hlk hA hK hD0 hE hP hl
  obtain ⟨hx, hb, hml, hown, hts⟩ := id hf
  have hts : ∀ w ∈ TB, w.before _ s = true := fun w h => hts w (List.mem_cons_of_mem _ h)
  have hown : s.vm.findClass R_M = some m.cls := hown
  have hl : lv_has ls 2 [(0, .ref (q 0)), (1, .int x1)] := hl
  have hS : va_S A s.heap s.heap [] := va_S.rf
  have hD : ∀ σ' : St, va_D A (wM cI cZ q σ' ++ tl) := fun σ' => va_Dsame hD0 rfl
  unfold f_M_isLive at h
  refine lv_aload_n hx hb d_M_isLive_0 rfl (lv_at hl 0 rfl) ?_
  refine va_get (D := D) (ci := 5) (v := .int (σ 0 12)) (C := R_M) (T := T_M) (N := 17) hx hb hts l_M hown hK hP 0 rfl rfl 12 (by decide) (hts _ w_451) (fun _ h9 => h9) rfl d_M_isLive_1 ?_
  refine lv_aload_n hx hb d_M_isLive_4 rfl (lv_at hl 0 rfl) ?_
  refine va_get (D := D) (ci := 5) (v := .ref (q 1)) (C := R_M) (T := T_M) (N := 17) hx hb hts l_M hown hK hP 0 rfl rfl 3 (by decide) (hts _ w_442) (fun _ h9 => h9) rfl d_M_isLive_5 ?_
  refine lv_iload_n hx hb d_M_isLive_8 rfl (lv_at hl 1 rfl) ?_
  obtain ⟨c, h⟩ := ifs h
  refine va_iald hx hb hK hP 1 0 rfl rfl c d_M_isLive_9 ?_
  obtain ⟨u10, hu10, h⟩ := bnd h
  refine gcall_i (va_runS (As := [.int (σ 0 12), .int ((σ 1) x1.toNatClampNeg)]) (rest := []) ⟨hx, hb, hml, hown, hts⟩ (c_M_has l D cI cZ tL (wM cI cZ q σ ++ tl) (σ 0 12) ((σ 1) x1.toNatClampNeg) u10 hu10 s.heap.size) (va_cwS 2 hts (gS w_522 w_523 w_6 w_524) rfl rfl rfl (by decide +kernel) ⟨Nat.le_of_ble_eq_true rfl, Nat.le_of_ble_eq_true rfl⟩) (gpS hA hK (hD σ) hE hP hS) rfl rfl hl.1 rfl (lv_room (Nat.le_of_ble_eq_true rfl)) d_M_isLive_10 ⟨Nat.le_of_ble_eq_true rfl, Nat.le_of_ble_eq_true rfl⟩) hA (hD σ) hS (fun H locs hP hS => ?_)
  obtain ⟨c, h⟩ := ifs h
  cases h
  exact gret_z hx hb hr hlk (gz c) hP hS d_M_isLive_13
/-! ===== EscapeOwnersModel.toName(III)V ===== -/
def f_M_toName (σ : St) (x1 : Int32) (x2 : Int32) (x3 : Int32) : Option (St) := if ¬ ((((8 : Int32) * x1) + x2) < 0 ∨ 64 ≤ (((8 : Int32) * x1) + x2).toNatClampNeg) then (if (σ 0 14) = 0 then (if ¬ ((((8 : Int32) * x1) + x2) < 0 ∨ 64 ≤ (((8 : Int32) * x1) + x2).toNatClampNeg) then (if (((σ 6) (((8 : Int32) * x1) + x2).toNatClampNeg) ||| x3) = ((σ 6) (((8 : Int32) * x1) + x2).toNatClampNeg) then (lett (su σ 0 14 (0 : Int32)) (fun s44 => if ¬ ((((8 : Int32) * x1) + x2) < 0 ∨ 64 ≤ (((8 : Int32) * x1) + x2).toNatClampNeg) then (lett (sr s44 6 (upd (s44 6) (((8 : Int32) * x1) + x2).toNatClampNeg (((σ 6) (((8 : Int32) * x1) + x2).toNatClampNeg) ||| x3))) (fun s59 => some s59)) else none)) else (lett (su σ 0 14 (1 : Int32)) (fun s44 => if ¬ ((((8 : Int32) * x1) + x2) < 0 ∨ 64 ≤ (((8 : Int32) * x1) + x2).toNatClampNeg) then (lett (sr s44 6 (upd (s44 6) (((8 : Int32) * x1) + x2).toNatClampNeg (((σ 6) (((8 : Int32) * x1) + x2).toNatClampNeg) ||| x3))) (fun s59 => some s59)) else none))) else none) else (lett (su σ 0 14 (1 : Int32)) (fun s44 => if ¬ ((((8 : Int32) * x1) + x2) < 0 ∨ 64 ≤ (((8 : Int32) * x1) + x2).toNatClampNeg) then (lett (sr s44 6 (upd (s44 6) (((8 : Int32) * x1) + x2).toNatClampNeg (((σ 6) (((8 : Int32) * x1) + x2).toNatClampNeg) ||| x3))) (fun s59 => some s59)) else none))) else none
set_option maxHeartbeats 4000000 in
set_option maxRecDepth 100000 in
theorem c_M_toName (l : Launch) (D : va_G) (cI cZ : ClassId) (tL : Nat) (q : Nat → Nat) (tl : va_W) (σ : St) (x1 : Int32) (x2 : Int32) (x3 : Int32) (out0 : St) (h : f_M_toName σ x1 x2 x3 = some out0) : gCv l y_M_toName (.code y_M_toName b_M_toName 5 none :: TB) { frames := 0, cells := 0, slots := 0, locals := 0 } D [(cI, .int), (cZ, .boolean)] tL [.ref (q 0), .int x1, .int x2, .int x3] (wM cI cZ q σ ++ tl) (wM cI cZ q out0 ++ tl) := by
  refine gCv_of (cc := b_M_toName) (maxL := 5)  (by decide) rfl (Nat.le_of_ble_eq_true rfl) ?_
  intro p e s m below meth c A ls hf hr hlk hA hK hD0 hE hP hl
  obtain ⟨hx, hb, hml, hown, hts⟩ := id hf
  have hts : ∀ w ∈ TB, w.before _ s = true := fun w h => hts w (List.mem_cons_of_mem _ h)
  have hown : s.vm.findClass R_M = some m.cls := hown
  have hl : lv_has ls 5 [(0, .ref (q 0)), (1, .int x1), (2, .int x2), (3, .int x3)] := hl
  have hS : va_S A s.heap s.heap [] := va_S.rf
  have hD : ∀ σ' : St, va_D A (wM cI cZ q σ' ++ tl) := fun σ' => va_Dsame hD0 rfl
  unfold f_M_toName at h
  refine lv_aload_n hx hb d_M_toName_0 rfl (lv_at hl 0 rfl) ?_
  refine va_get (D := D) (ci := 5) (v := .ref (q 6)) (C := R_M) (T := T_M) (N := 17) hx hb hts l_M hown hK hP 0 rfl rfl 8 (by decide) (hts _ w_447) (fun _ h9 => h9) rfl d_M_toName_1 ?_
  refine lv_bipush (v := 8) hx hb d_M_toName_4 (by decide) ?_
  refine lv_iload_n hx hb d_M_toName_6 rfl (lv_at hl 1 rfl) ?_
  refine lv_imul hx hb d_M_toName_7 ?_
  refine lv_iload_n hx hb d_M_toName_8 rfl (lv_at hl 2 rfl) ?_
  refine lv_iadd hx hb d_M_toName_9 ?_
  obtain ⟨c, h⟩ := ifs h
  refine va_iald hx hb hK hP 6 0 rfl rfl c d_M_toName_10 ?_
  refine lv_iload_n hx hb d_M_toName_11 rfl (lv_at hl 3 rfl) ?_
  refine lv_ior hx hb d_M_toName_12 ?_
  refine lv_istore (lv' := [(4, .int (((σ 6) (((8 : Int32) * x1) + x2).toNatClampNeg) ||| x3)), (0, .ref (q 0)), (1, .int x1), (2, .int x2), (3, .int x3)]) hx hb d_M_toName_13 hl (by decide) rfl (fun ls hl => ?_)
  refine lv_aload_n hx hb d_M_toName_15 rfl (lv_at hl 1 rfl) ?_
  refine lv_aload_n hx hb d_M_toName_16 rfl (lv_at hl 1 rfl) ?_
  refine va_get (D := D) (ci := 5) (v := .int (σ 0 14)) (C := R_M) (T := T_M) (N := 17) hx hb hts l_M hown hK hP 0 rfl rfl 14 (by decide) (hts _ w_453) (fun _ h9 => h9) rfl d_M_toName_17 ?_
  refine lv_if_ne (tgt := 39) hx hb d_M_toName_20 (by decide) (fun c => ?_) (fun c => ?_)
  · have h := ifn c h
    refine lv_iconst (v := 1) hx hb d_M_toName_39 (by decide) ?_
    refine lv_goto (tgt := 44) hx hb d_M_toName_40 (by decide) ?_
    refine va_put (D := D) (ci := 5) (v := .int (1 : Int32)) (ty := .boolean) (C := R_M) (T := T_M) (N := 17) hx hb hts l_M t_M t_M_ok n_M hown hK hP (hD σ) hS 0 rfl rfl 14 (by decide) (hts _ w_453) (fun _ h9 => h9) rfl (by decide +kernel) rfl rfl (Nat.le_of_ble_eq_true rfl) d_M_toName_44 (fun H locs hP _ hS => ?_)
    have hP : va_P D vwCl (wM cI cZ q (su σ 0 14 (1 : Int32)) ++ tl) H := hP
    obtain ⟨s44, es44, h⟩ := lettE h
    rw [← es44] at hP
    refine lv_aload_n hx hb d_M_toName_47 rfl (lv_at hl 1 rfl) ?_
    refine va_get (D := D) (ci := 5) (v := .ref (q 6)) (C := R_M) (T := T_M) (N := 17) hx hb hts l_M hown hK hP 0 rfl rfl 8 (by decide) (hts _ w_447) (fun _ h9 => h9) rfl d_M_toName_48 ?_
    refine lv_bipush (v := 8) hx hb d_M_toName_51 (by decide) ?_
    refine lv_iload_n hx hb d_M_toName_53 rfl (lv_at hl 2 rfl) ?_
    refine lv_imul hx hb d_M_toName_54 ?_
    refine lv_iload_n hx hb d_M_toName_55 rfl (lv_at hl 3 rfl) ?_
    refine lv_iadd hx hb d_M_toName_56 ?_
    refine lv_iload hx hb d_M_toName_57 (lv_at hl 0 rfl) ?_
    obtain ⟨c, h⟩ := ifs h
    refine va_iast hx hb hK hP (hD s44) hS 6 0 rfl rfl c d_M_toName_59 (fun H locs hP _ hS => ?_)
    have hP : va_P D vwCl (wM cI cZ q (sr s44 6 (upd (s44 6) (((8 : Int32) * x1) + x2).toNatClampNeg (((σ 6) (((8 : Int32) * x1) + x2).toNatClampNeg) ||| x3))) ++ tl) H := hP
    obtain ⟨s59, es59, h⟩ := lettE h
    rw [← es59] at hP
    cases h
    exact gret_v hx hb hr hlk hP hS d_M_toName_60
  have h := ifp c h
  refine lv_iload hx hb d_M_toName_23 (lv_at hl 0 rfl) ?_
  refine lv_aload_n hx hb d_M_toName_25 rfl (lv_at hl 1 rfl) ?_
  refine va_get (D := D) (ci := 5) (v := .ref (q 6)) (C := R_M) (T := T_M) (N := 17) hx hb hts l_M hown hK hP 0 rfl rfl 8 (by decide) (hts _ w_447) (fun _ h9 => h9) rfl d_M_toName_26 ?_
  refine lv_bipush (v := 8) hx hb d_M_toName_29 (by decide) ?_
  refine lv_iload_n hx hb d_M_toName_31 rfl (lv_at hl 2 rfl) ?_
  refine lv_imul hx hb d_M_toName_32 ?_
  refine lv_iload_n hx hb d_M_toName_33 rfl (lv_at hl 3 rfl) ?_
  refine lv_iadd hx hb d_M_toName_34 ?_
  obtain ⟨c, h⟩ := ifs h
  refine va_iald hx hb hK hP 6 0 rfl rfl c d_M_toName_35 ?_
  refine lv_icmp_eq (tgt := 43) hx hb d_M_toName_36 (by decide) (fun c => ?_) (fun c => ?_)
  · have h := ifp c h
    refine lv_iconst (v := 0) hx hb d_M_toName_43 (by decide) ?_
    refine va_put (D := D) (ci := 5) (v := .int (0 : Int32)) (ty := .boolean) (C := R_M) (T := T_M) (N := 17) hx hb hts l_M t_M t_M_ok n_M hown hK hP (hD σ) hS 0 rfl rfl 14 (by decide) (hts _ w_453) (fun _ h9 => h9) rfl (by decide +kernel) rfl rfl (Nat.le_of_ble_eq_true rfl) d_M_toName_44 (fun H locs hP _ hS => ?_)
    have hP : va_P D vwCl (wM cI cZ q (su σ 0 14 (0 : Int32)) ++ tl) H := hP
    obtain ⟨s44, es44, h⟩ := lettE h
    rw [← es44] at hP
    refine lv_aload_n hx hb d_M_toName_47 rfl (lv_at hl 1 rfl) ?_
    refine va_get (D := D) (ci := 5) (v := .ref (q 6)) (C := R_M) (T := T_M) (N := 17) hx hb hts l_M hown hK hP 0 rfl rfl 8 (by decide) (hts _ w_447) (fun _ h9 => h9) rfl d_M_toName_48 ?_
    refine lv_bipush (v := 8) hx hb d_M_toName_51 (by decide) ?_
    refine lv_iload_n hx hb d_M_toName_53 rfl (lv_at hl 2 rfl) ?_
    refine lv_imul hx hb d_M_toName_54 ?_
    refine lv_iload_n hx hb d_M_toName_55 rfl (lv_at hl 3 rfl) ?_
    refine lv_iadd hx hb d_M_toName_56 ?_
    refine lv_iload hx hb d_M_toName_57 (lv_at hl 0 rfl) ?_
    obtain ⟨c, h⟩ := ifs h
    refine va_iast hx hb hK hP (hD s44) hS 6 0 rfl rfl c d_M_toName_59 (fun H locs hP _ hS => ?_)
    have hP : va_P D vwCl (wM cI cZ q (sr s44 6 (upd (s44 6) (((8 : Int32) * x1) + x2).toNatClampNeg (((σ 6) (((8 : Int32) * x1) + x2).toNatClampNeg) ||| x3))) ++ tl) H := hP
    obtain ⟨s59, es59, h⟩ := lettE h
    rw [← es59] at hP
    cases h
    exact gret_v hx hb hr hlk hP hS d_M_toName_60
  have h := ifn c h
  refine lv_iconst (v := 1) hx hb d_M_toName_39 (by decide) ?_
  refine lv_goto (tgt := 44) hx hb d_M_toName_40 (by decide) ?_
  refine va_put (D := D) (ci := 5) (v := .int (1 : Int32)) (ty := .boolean) (C := R_M) (T := T_M) (N := 17) hx hb hts l_M t_M t_M_ok n_M hown hK hP (hD σ) hS 0 rfl rfl 14 (by decide) (hts _ w_453) (fun _ h9 => h9) rfl (by decide +kernel) rfl rfl (Nat.le_of_ble_eq_true rfl) d_M_toName_44 (fun H locs hP _ hS => ?_)
  have hP : va_P D vwCl (wM cI cZ q (su σ 0 14 (1 : Int32)) ++ tl) H := hP
  obtain ⟨s44, es44, h⟩ := lettE h
  rw [← es44] at hP
  refine lv_aload_n hx hb d_M_toName_47 rfl (lv_at hl 1 rfl) ?_
  refine va_get (D := D) (ci := 5) (v := .ref (q 6)) (C := R_M) (T := T_M) (N := 17) hx hb hts l_M hown hK hP 0 rfl rfl 8 (by decide) (hts _ w_447) (fun _ h9 => h9) rfl d_M_toName_48 ?_
  refine lv_bipush (v := 8) hx hb d_M_toName_51 (by decide) ?_
  refine lv_iload_n hx hb d_M_toName_53 rfl (lv_at hl 2 rfl) ?_
  refine lv_imul hx hb d_M_toName_54 ?_
  refine lv_iload_n hx hb d_M_toName_55 rfl (lv_at hl 3 rfl) ?_
  refine lv_iadd hx hb d_M_toName_56 ?_
  refine lv_iload hx hb d_M_toName_57 (lv_at hl 0 rfl) ?_
  obtain ⟨c, h⟩ := ifs h
  refine va_iast hx hb hK hP (hD s44) hS 6 0 rfl rfl c d_M_toName_59 (fun H locs hP _ hS => ?_)
  have hP : va_P D vwCl (wM cI cZ q (sr s44 6 (upd (s44 6) (((8 : Int32) * x1) + x2).toNatClampNeg (((σ 6) (((8 : Int32) * x1) + x2).toNatClampNeg) ||| x3))) ++ tl) H := hP
  obtain ⟨s59, es59, h⟩ := lettE h
  rw [← es59] at hP
  cases h
  exact gret_v hx hb hr hlk hP hS d_M_toName_60
/-! ===== EscapeOwnersModel.name(II)I ===== -/
def f_M_name (σ : St) (x1 : Int32) (x2 : Int32) : Option (Int32) := if ¬ ((((8 : Int32) * x1) + x2) < 0 ∨ 64 ≤ (((8 : Int32) * x1) + x2).toNatClampNeg) then (some ((σ 6) (((8 : Int32) * x1) + x2).toNatClampNeg)) else none
set_option maxHeartbeats 4000000 in
set_option maxRecDepth 100000 in
theorem c_M_name (l : Launch) (D : va_G) (cI cZ : ClassId) (tL : Nat) (q : Nat → Nat) (tl : va_W) (σ : St) (x1 : Int32) (x2 : Int32) (out0 : Int32) (h : f_M_name σ x1 x2 = some out0) : gCi l y_M_name (.code y_M_name b_M_name 3 (some .int) :: TB) { frames := 0, cells := 0, slots := 0, locals := 0 } D [(cI, .int), (cZ, .boolean)] tL [.ref (q 0), .int x1, .int x2] (wM cI cZ q σ ++ tl) out0 (wM cI cZ q σ ++ tl) := by
  refine gCi_of (cc := b_M_name) (maxL := 3) (ty := .int) (by decide) rfl (Nat.le_of_ble_eq_true rfl) ?_
  intro p e s m below meth c A ls hf hr hlk hA hK hD0 hE hP hl
  obtain ⟨hx, hb, hml, hown, hts⟩ := id hf
  have hts : ∀ w ∈ TB, w.before _ s = true := fun w h => hts w (List.mem_cons_of_mem _ h)
  have hown : s.vm.findClass R_M = some m.cls := hown
  have hl : lv_has ls 3 [(0, .ref (q 0)), (1, .int x1), (2, .int x2)] := hl
  have hS : va_S A s.heap s.heap [] := va_S.rf
  have hD : ∀ σ' : St, va_D A (wM cI cZ q σ' ++ tl) := fun σ' => va_Dsame hD0 rfl
  unfold f_M_name at h
  refine lv_aload_n hx hb d_M_name_0 rfl (lv_at hl 0 rfl) ?_
  refine va_get (D := D) (ci := 5) (v := .ref (q 6)) (C := R_M) (T := T_M) (N := 17) hx hb hts l_M hown hK hP 0 rfl rfl 8 (by decide) (hts _ w_447) (fun _ h9 => h9) rfl d_M_name_1 ?_
  refine lv_bipush (v := 8) hx hb d_M_name_4 (by decide) ?_
  refine lv_iload_n hx hb d_M_name_6 rfl (lv_at hl 1 rfl) ?_
  refine lv_imul hx hb d_M_name_7 ?_
  refine lv_iload_n hx hb d_M_name_8 rfl (lv_at hl 2 rfl) ?_
  refine lv_iadd hx hb d_M_name_9 ?_
  obtain ⟨c, h⟩ := ifs h
  refine va_iald hx hb hK hP 6 0 rfl rfl c d_M_name_10 ?_
  cases h
  exact gret_i hx hb hr hlk hP hS d_M_name_11
/-! ===== EscapeOwnersModel.fromField(II)I ===== -/
def f_M_fromField_B5 (F : Nat) (σ : St) (y1 : Int32) (y2 : Int32) (rec : Int32 → Int32 → Option (Int32 × Int32)) (y3 : Int32) (y4 : Int32) : Option (Int32 × Int32) := if (σ 0 2) ≤ y4 then (some (y3, y4)) else (Option.bind (f_M_has y1 y4) (fun u17 => if u17 = 0 then (rec y3 (y4 + (1 : Int32))) else (if ¬ ((((4 : Int32) * y4) + y2) < 0 ∨ 64 ≤ (((4 : Int32) * y4) + y2).toNatClampNeg) then (rec (y3 ||| ((σ 7) (((4 : Int32) * y4) + y2).toNatClampNeg)) (y4 + (1 : Int32))) else none)))
def f_M_fromField_L5 (F : Nat) (σ : St) (y1 : Int32) (y2 : Int32) : Nat → Int32 → Int32 → Option (Int32 × Int32)
  | 0, _, _ => none
  | fu + 1, y3, y4 => f_M_fromField_B5 F σ y1 y2 (f_M_fromField_L5 F σ y1 y2 fu) y3 y4
def f_M_fromField (F : Nat) (σ : St) (x1 : Int32) (x2 : Int32) : Option (Int32) := Option.bind (f_M_fromField_L5 F σ x1 x2 F (0 : Int32) (0 : Int32)) (fun u5 => some u5.1)
set_option maxHeartbeats 4000000 in
set_option maxRecDepth 100000 in
theorem c_M_fromField (l : Launch) (D : va_G) (cI cZ : ClassId) (tL : Nat) (q : Nat → Nat) (tl : va_W) (F : Nat) (σ : St) (x1 : Int32) (x2 : Int32) (out0 : Int32) (h : f_M_fromField F σ x1 x2 = some out0) : gCi l y_M_fromField (.code y_M_fromField b_M_fromField 5 (some .int) :: TB) { frames := 1, cells := 0, slots := 0, locals := 21 } D [(cI, .int), (cZ, .boolean)] tL [.ref (q 0), .int x1, .int x2] (wM cI cZ q σ ++ tl) out0 (wM cI cZ q σ ++ tl) := by
  refine gCi_of (cc := b_M_fromField) (maxL := 5) (ty := .int) (by decide) rfl (Nat.le_of_ble_eq_true rfl) ?_
  intro p e s m below meth c A ls hf hr hlk hA hK hD0 hE hP hl
  obtain ⟨hx, hb, hml, hown, hts⟩ := id hf
  have hts : ∀ w ∈ TB, w.before _ s = true := fun w h => hts w (List.mem_cons_of_mem _ h)
  have hown : s.vm.findClass R_M = some m.cls := hown
  have hl : lv_has ls 5 [(0, .ref (q 0)), (1, .int x1), (2, .int x2)] := hl
  have hS : va_S A s.heap s.heap [] := va_S.rf
  have hD : ∀ σ' : St, va_D A (wM cI cZ q σ' ++ tl) := fun σ' => va_Dsame hD0 rfl
  have L5 : ∀ (σ : St) (y1 : Int32) (y2 : Int32) (fu : Nat) (y3 : Int32) (y4 : Int32) (H : Heap) (locs : List Loc) (ls : Array Slot) (out : Int32 × Int32), f_M_fromField_L5 F σ y1 y2 fu y3 y4 = some out → va_P D vwCl (wM cI cZ q σ ++ tl) H → va_S A s.heap H locs → lv_has ls 5 [(0, .ref (q 0)), (1, .int y1), (2, .int y2), (3, .int y3), (4, .int y4)] → (∀ (H : Heap) (locs : List Loc) (ls : Array Slot), va_P D vwCl (wM cI cZ q σ ++ tl) H → va_S A s.heap H locs → lv_has ls 5 [(0, .ref (q 0)), (1, .int y1), (2, .int y2), (3, .int out.1), (4, .int out.2)] → W p l e { frames := 1, cells := 0, slots := 0, locals := 21 } s m ([.ref (q 0), .int x1, .int x2] : List Value).toArray below meth c H locs 0 0 (gQi below D out0 (wM cI cZ q σ ++ tl) A (([.ref (q 0), .int x1, .int x2] : List Value).toArray) s) (F0 m 47 ls [])) → W p l e { frames := 1, cells := 0, slots := 0, locals := 21 } s m ([.ref (q 0), .int x1, .int x2] : List Value).toArray below meth c H locs 0 0 (gQi below D out0 (wM cI cZ q σ ++ tl) A (([.ref (q 0), .int x1, .int x2] : List Value).toArray) s) (F0 m 5 ls []) := by
    intro σ y1 y2 fu
    induction fu with
    | zero => intro y3 y4 H locs ls out h; exact absurd (show (none : Option (Int32 × Int32)) = some out from h) (fun z => by cases z)
    | succ fu ih =>
      intro y3 y4 H locs ls out h hP hS hl K
      have h : f_M_fromField_B5 F σ y1 y2 (f_M_fromField_L5 F σ y1 y2 fu) y3 y4 = some out := h
      unfold f_M_fromField_B5 at h
      refine lv_iload hx hb d_M_fromField_5 (lv_at hl 4 rfl) ?_
      refine lv_aload_n hx hb d_M_fromField_7 rfl (lv_at hl 0 rfl) ?_
      refine va_get (D := D) (ci := 5) (v := .int (σ 0 2)) (C := R_M) (T := T_M) (N := 17) hx hb hts l_M hown hK hP 0 rfl rfl 2 (by decide) (hts _ w_441) (fun _ h9 => h9) rfl d_M_fromField_8 ?_
      refine lv_icmp_ge (tgt := 47) hx hb d_M_fromField_11 (by decide) (fun c => ?_) (fun c => ?_)
      · have h := ifp c h
        cases h
        exact K _ _ ls hP hS (lv_sub hl [0, 1, 2, 3, 4] rfl)
      have h := ifn c h
      refine lv_iload_n hx hb d_M_fromField_14 rfl (lv_at hl 1 rfl) ?_
      refine lv_iload hx hb d_M_fromField_15 (lv_at hl 4 rfl) ?_
      obtain ⟨u17, hu17, h⟩ := bnd h
      refine gcall_i (va_runS (As := [.int y1, .int y4]) (rest := []) ⟨hx, hb, hml, hown, hts⟩ (c_M_has l D cI cZ tL (wM cI cZ q σ ++ tl) y1 y4 u17 hu17 H.size) (va_cwS 2 hts (gS w_522 w_523 w_6 w_524) rfl rfl rfl (by decide +kernel) ⟨Nat.le_of_ble_eq_true rfl, Nat.le_of_ble_eq_true rfl⟩) (gpS hA hK (hD σ) hE hP hS) rfl rfl hl.1 rfl (lv_room (Nat.le_of_ble_eq_true rfl)) d_M_fromField_17 ⟨Nat.le_of_ble_eq_true rfl, Nat.le_of_ble_eq_true rfl⟩) hA (hD σ) hS (fun H locs hP hS => ?_)
      refine lv_if_eq (tgt := 39) hx hb d_M_fromField_20 (by decide) (fun c => ?_) (fun c => ?_)
      · have h := ifp c h
        refine lv_iload_n hx hb d_M_fromField_39 rfl (lv_at hl 3 rfl) ?_
        refine lv_istore_n (lv' := [(3, .int y3), (0, .ref (q 0)), (1, .int y1), (2, .int y2), (4, .int y4)]) hx hb d_M_fromField_40 rfl hl (by decide) rfl (fun ls hl => ?_)
        refine lv_iinc (v := (y4 + (1 : Int32))) (lv' := [(4, .int (y4 + (1 : Int32))), (3, .int y3), (0, .ref (q 0)), (1, .int y1), (2, .int y2)]) hx hb d_M_fromField_41 hl (k := 4) rfl rfl (by decide) rfl (fun ls hl => ?_)
        refine lv_goto (tgt := 5) hx hb d_M_fromField_44 (by decide) ?_
        exact ih y3 (y4 + (1 : Int32)) _ _ ls out h hP hS (lv_sub hl [2, 3, 4, 1, 0] rfl) K
      have h := ifn c h
      refine lv_iload_n hx hb d_M_fromField_23 rfl (lv_at hl 3 rfl) ?_
      refine lv_aload_n hx hb d_M_fromField_24 rfl (lv_at hl 0 rfl) ?_
      refine va_get (D := D) (ci := 5) (v := .ref (q 7)) (C := R_M) (T := T_M) (N := 17) hx hb hts l_M hown hK hP 0 rfl rfl 9 (by decide) (hts _ w_448) (fun _ h9 => h9) rfl d_M_fromField_25 ?_
      refine lv_iconst (v := 4) hx hb d_M_fromField_28 (by decide) ?_
      refine lv_iload hx hb d_M_fromField_29 (lv_at hl 4 rfl) ?_
      refine lv_imul hx hb d_M_fromField_31 ?_
      refine lv_iload_n hx hb d_M_fromField_32 rfl (lv_at hl 2 rfl) ?_
      refine lv_iadd hx hb d_M_fromField_33 ?_
      obtain ⟨c, h⟩ := ifs h
      refine va_iald hx hb hK hP 7 0 rfl rfl c d_M_fromField_34 ?_
      refine lv_ior hx hb d_M_fromField_35 ?_
      refine lv_goto (tgt := 40) hx hb d_M_fromField_36 (by decide) ?_
      refine lv_istore_n (lv' := [(3, .int (y3 ||| ((σ 7) (((4 : Int32) * y4) + y2).toNatClampNeg))), (0, .ref (q 0)), (1, .int y1), (2, .int y2), (4, .int y4)]) hx hb d_M_fromField_40 rfl hl (by decide) rfl (fun ls hl => ?_)
      refine lv_iinc (v := (y4 + (1 : Int32))) (lv' := [(4, .int (y4 + (1 : Int32))), (3, .int (y3 ||| ((σ 7) (((4 : Int32) * y4) + y2).toNatClampNeg))), (0, .ref (q 0)), (1, .int y1), (2, .int y2)]) hx hb d_M_fromField_41 hl (k := 4) rfl rfl (by decide) rfl (fun ls hl => ?_)
      refine lv_goto (tgt := 5) hx hb d_M_fromField_44 (by decide) ?_
      exact ih (y3 ||| ((σ 7) (((4 : Int32) * y4) + y2).toNatClampNeg)) (y4 + (1 : Int32)) _ _ ls out h hP hS (lv_sub hl [2, 3, 4, 1, 0] rfl) K
  unfold f_M_fromField at h
  refine lv_iconst (v := 0) hx hb d_M_fromField_0 (by decide) ?_
  refine lv_istore_n (lv' := [(3, .int (0 : Int32)), (0, .ref (q 0)), (1, .int x1), (2, .int x2)]) hx hb d_M_fromField_1 rfl hl (by decide) rfl (fun ls hl => ?_)
  refine lv_iconst (v := 0) hx hb d_M_fromField_2 (by decide) ?_
  refine lv_istore (lv' := [(4, .int (0 : Int32)), (3, .int (0 : Int32)), (0, .ref (q 0)), (1, .int x1), (2, .int x2)]) hx hb d_M_fromField_3 hl (by decide) rfl (fun ls hl => ?_)
  obtain ⟨u5, hu5, h⟩ := bnd h
  refine L5 σ x1 x2 F (0 : Int32) (0 : Int32) _ _ ls u5 hu5 hP hS (lv_sub hl [2, 3, 4, 1, 0] rfl) (fun H locs ls hP hS hl => ?_)
  refine lv_iload_n hx hb d_M_fromField_47 rfl (lv_at hl 3 rfl) ?_
  cases h
  exact gret_i hx hb hr hlk hP hS d_M_fromField_48
/-! ===== EscapeOwnersModel.toField(III)V ===== -/
def f_M_toField_B3 (F : Nat) (y1 : Int32) (y2 : Int32) (y3 : Int32) (rec : Int32 → St → Option (Int32 × St)) (y4 : Int32) (σ : St) : Option (Int32 × St) := if (σ 0 2) ≤ y4 then (some (y4, σ)) else (Option.bind (f_M_has y1 y4) (fun u15 => if u15 = 0 then (if ¬ ((((4 : Int32) * y4) + y2) < 0 ∨ 64 ≤ (((4 : Int32) * y4) + y2).toNatClampNeg) then (if (σ 0 14) = 0 then (if ¬ ((((4 : Int32) * y4) + y2) < 0 ∨ 64 ≤ (((4 : Int32) * y4) + y2).toNatClampNeg) then (if ((σ 7) (((4 : Int32) * y4) + y2).toNatClampNeg) = ((σ 7) (((4 : Int32) * y4) + y2).toNatClampNeg) then (lett (su σ 0 14 (0 : Int32)) (fun s79 => if ¬ ((((4 : Int32) * y4) + y2) < 0 ∨ 64 ≤ (((4 : Int32) * y4) + y2).toNatClampNeg) then (lett (sr s79 7 (upd (s79 7) (((4 : Int32) * y4) + y2).toNatClampNeg ((σ 7) (((4 : Int32) * y4) + y2).toNatClampNeg))) (fun s94 => rec (y4 + (1 : Int32)) s94)) else none)) else (lett (su σ 0 14 (1 : Int32)) (fun s79 => if ¬ ((((4 : Int32) * y4) + y2) < 0 ∨ 64 ≤ (((4 : Int32) * y4) + y2).toNatClampNeg) then (lett (sr s79 7 (upd (s79 7) (((4 : Int32) * y4) + y2).toNatClampNeg ((σ 7) (((4 : Int32) * y4) + y2).toNatClampNeg))) (fun s94 => rec (y4 + (1 : Int32)) s94)) else none))) else none) else (lett (su σ 0 14 (1 : Int32)) (fun s79 => if ¬ ((((4 : Int32) * y4) + y2) < 0 ∨ 64 ≤ (((4 : Int32) * y4) + y2).toNatClampNeg) then (lett (sr s79 7 (upd (s79 7) (((4 : Int32) * y4) + y2).toNatClampNeg ((σ 7) (((4 : Int32) * y4) + y2).toNatClampNeg))) (fun s94 => rec (y4 + (1 : Int32)) s94)) else none))) else none) else (if ¬ ((((4 : Int32) * y4) + y2) < 0 ∨ 64 ≤ (((4 : Int32) * y4) + y2).toNatClampNeg) then (if (σ 0 14) = 0 then (if ¬ ((((4 : Int32) * y4) + y2) < 0 ∨ 64 ≤ (((4 : Int32) * y4) + y2).toNatClampNeg) then (if (((σ 7) (((4 : Int32) * y4) + y2).toNatClampNeg) ||| y3) = ((σ 7) (((4 : Int32) * y4) + y2).toNatClampNeg) then (lett (su σ 0 14 (0 : Int32)) (fun s79 => if ¬ ((((4 : Int32) * y4) + y2) < 0 ∨ 64 ≤ (((4 : Int32) * y4) + y2).toNatClampNeg) then (lett (sr s79 7 (upd (s79 7) (((4 : Int32) * y4) + y2).toNatClampNeg (((σ 7) (((4 : Int32) * y4) + y2).toNatClampNeg) ||| y3))) (fun s94 => rec (y4 + (1 : Int32)) s94)) else none)) else (lett (su σ 0 14 (1 : Int32)) (fun s79 => if ¬ ((((4 : Int32) * y4) + y2) < 0 ∨ 64 ≤ (((4 : Int32) * y4) + y2).toNatClampNeg) then (lett (sr s79 7 (upd (s79 7) (((4 : Int32) * y4) + y2).toNatClampNeg (((σ 7) (((4 : Int32) * y4) + y2).toNatClampNeg) ||| y3))) (fun s94 => rec (y4 + (1 : Int32)) s94)) else none))) else none) else (lett (su σ 0 14 (1 : Int32)) (fun s79 => if ¬ ((((4 : Int32) * y4) + y2) < 0 ∨ 64 ≤ (((4 : Int32) * y4) + y2).toNatClampNeg) then (lett (sr s79 7 (upd (s79 7) (((4 : Int32) * y4) + y2).toNatClampNeg (((σ 7) (((4 : Int32) * y4) + y2).toNatClampNeg) ||| y3))) (fun s94 => rec (y4 + (1 : Int32)) s94)) else none))) else none)))
def f_M_toField_L3 (F : Nat) (y1 : Int32) (y2 : Int32) (y3 : Int32) : Nat → Int32 → St → Option (Int32 × St)
  | 0, _, _ => none
  | fu + 1, y4, σ => f_M_toField_B3 F y1 y2 y3 (f_M_toField_L3 F y1 y2 y3 fu) y4 σ
def f_M_toField (F : Nat) (σ : St) (x1 : Int32) (x2 : Int32) (x3 : Int32) : Option (St) := Option.bind (f_M_toField_L3 F x1 x2 x3 F (0 : Int32) σ) (fun u3 => some u3.2)
set_option maxHeartbeats 4000000 in
set_option maxRecDepth 100000 in
theorem c_M_toField (l : Launch) (D : va_G) (cI cZ : ClassId) (tL : Nat) (q : Nat → Nat) (tl : va_W) (F : Nat) (σ : St) (x1 : Int32) (x2 : Int32) (x3 : Int32) (out0 : St) (h : f_M_toField F σ x1 x2 x3 = some out0) : gCv l y_M_toField (.code y_M_toField b_M_toField 6 none :: TB) { frames := 1, cells := 0, slots := 0, locals := 21 } D [(cI, .int), (cZ, .boolean)] tL [.ref (q 0), .int x1, .int x2, .int x3] (wM cI cZ q σ ++ tl) (wM cI cZ q out0 ++ tl) := by
  refine gCv_of (cc := b_M_toField) (maxL := 6)  (by decide) rfl (Nat.le_of_ble_eq_true rfl) ?_
  intro p e s m below meth c A ls hf hr hlk hA hK hD0 hE hP hl
  obtain ⟨hx, hb, hml, hown, hts⟩ := id hf
  have hts : ∀ w ∈ TB, w.before _ s = true := fun w h => hts w (List.mem_cons_of_mem _ h)
  have hown : s.vm.findClass R_M = some m.cls := hown
  have hl : lv_has ls 6 [(0, .ref (q 0)), (1, .int x1), (2, .int x2), (3, .int x3)] := hl
  have hS : va_S A s.heap s.heap [] := va_S.rf
  have hD : ∀ σ' : St, va_D A (wM cI cZ q σ' ++ tl) := fun σ' => va_Dsame hD0 rfl
  have L3 : ∀ (y1 : Int32) (y2 : Int32) (y3 : Int32) (fu : Nat) (y4 : Int32) (σ : St) (H : Heap) (locs : List Loc) (ls : Array Slot) (out : Int32 × St), f_M_toField_L3 F y1 y2 y3 fu y4 σ = some out → va_P D vwCl (wM cI cZ q σ ++ tl) H → va_S A s.heap H locs → lv_has ls 6 [(0, .ref (q 0)), (1, .int y1), (2, .int y2), (3, .int y3), (4, .int y4)] → (∀ (H : Heap) (locs : List Loc) (ls : Array Slot), va_P D vwCl (wM cI cZ q out.2 ++ tl) H → va_S A s.heap H locs → lv_has ls 6 [(0, .ref (q 0)), (1, .int y1), (2, .int y2), (3, .int y3), (4, .int out.1)] → W p l e { frames := 1, cells := 0, slots := 0, locals := 21 } s m ([.ref (q 0), .int x1, .int x2, .int x3] : List Value).toArray below meth c H locs 0 0 (gQv below D (wM cI cZ q out0 ++ tl) A (([.ref (q 0), .int x1, .int x2, .int x3] : List Value).toArray) s) (F0 m 101 ls [])) → W p l e { frames := 1, cells := 0, slots := 0, locals := 21 } s m ([.ref (q 0), .int x1, .int x2, .int x3] : List Value).toArray below meth c H locs 0 0 (gQv below D (wM cI cZ q out0 ++ tl) A (([.ref (q 0), .int x1, .int x2, .int x3] : List Value).toArray) s) (F0 m 3 ls []) := by
    intro y1 y2 y3 fu
    induction fu with
    | zero => intro y4 σ H locs ls out h; exact absurd (show (none : Option (Int32 × St)) = some out from h) (fun z => by cases z)
    | succ fu ih =>
      intro y4 σ H locs ls out h hP hS hl K
      have h : f_M_toField_B3 F y1 y2 y3 (f_M_toField_L3 F y1 y2 y3 fu) y4 σ = some out := h
      unfold f_M_toField_B3 at h
      refine lv_iload hx hb d_M_toField_3 (lv_at hl 4 rfl) ?_
      refine lv_aload_n hx hb d_M_toField_5 rfl (lv_at hl 0 rfl) ?_
      refine va_get (D := D) (ci := 5) (v := .int (σ 0 2)) (C := R_M) (T := T_M) (N := 17) hx hb hts l_M hown hK hP 0 rfl rfl 2 (by decide) (hts _ w_441) (fun _ h9 => h9) rfl d_M_toField_6 ?_
      refine lv_icmp_ge (tgt := 101) hx hb d_M_toField_9 (by decide) (fun c => ?_) (fun c => ?_)
      · have h := ifp c h
        cases h
        exact K _ _ ls hP hS (lv_sub hl [0, 1, 2, 3, 4] rfl)
      have h := ifn c h
      refine lv_iload_n hx hb d_M_toField_12 rfl (lv_at hl 1 rfl) ?_
      refine lv_iload hx hb d_M_toField_13 (lv_at hl 4 rfl) ?_
      obtain ⟨u15, hu15, h⟩ := bnd h
      refine gcall_i (va_runS (As := [.int y1, .int y4]) (rest := []) ⟨hx, hb, hml, hown, hts⟩ (c_M_has l D cI cZ tL (wM cI cZ q σ ++ tl) y1 y4 u15 hu15 H.size) (va_cwS 2 hts (gS w_522 w_523 w_6 w_524) rfl rfl rfl (by decide +kernel) ⟨Nat.le_of_ble_eq_true rfl, Nat.le_of_ble_eq_true rfl⟩) (gpS hA hK (hD σ) hE hP hS) rfl rfl hl.1 rfl (lv_room (Nat.le_of_ble_eq_true rfl)) d_M_toField_15 ⟨Nat.le_of_ble_eq_true rfl, Nat.le_of_ble_eq_true rfl⟩) hA (hD σ) hS (fun H locs hP hS => ?_)
      refine lv_if_eq (tgt := 37) hx hb d_M_toField_18 (by decide) (fun c => ?_) (fun c => ?_)
      · have h := ifp c h
        refine lv_aload_n hx hb d_M_toField_37 rfl (lv_at hl 0 rfl) ?_
        refine va_get (D := D) (ci := 5) (v := .ref (q 7)) (C := R_M) (T := T_M) (N := 17) hx hb hts l_M hown hK hP 0 rfl rfl 9 (by decide) (hts _ w_448) (fun _ h9 => h9) rfl d_M_toField_38 ?_
        refine lv_iconst (v := 4) hx hb d_M_toField_41 (by decide) ?_
        refine lv_iload hx hb d_M_toField_42 (lv_at hl 4 rfl) ?_
        refine lv_imul hx hb d_M_toField_44 ?_
        refine lv_iload_n hx hb d_M_toField_45 rfl (lv_at hl 2 rfl) ?_
        refine lv_iadd hx hb d_M_toField_46 ?_
        obtain ⟨c, h⟩ := ifs h
        refine va_iald hx hb hK hP 7 0 rfl rfl c d_M_toField_47 ?_
        refine lv_istore (lv' := [(5, .int ((σ 7) (((4 : Int32) * y4) + y2).toNatClampNeg)), (0, .ref (q 0)), (1, .int y1), (2, .int y2), (3, .int y3), (4, .int y4)]) hx hb d_M_toField_48 hl (by decide) rfl (fun ls hl => ?_)
        refine lv_aload_n hx hb d_M_toField_50 rfl (lv_at hl 1 rfl) ?_
        refine lv_aload_n hx hb d_M_toField_51 rfl (lv_at hl 1 rfl) ?_
        refine va_get (D := D) (ci := 5) (v := .int (σ 0 14)) (C := R_M) (T := T_M) (N := 17) hx hb hts l_M hown hK hP 0 rfl rfl 14 (by decide) (hts _ w_453) (fun _ h9 => h9) rfl d_M_toField_52 ?_
        refine lv_if_ne (tgt := 74) hx hb d_M_toField_55 (by decide) (fun c => ?_) (fun c => ?_)
        · have h := ifn c h
          refine lv_iconst (v := 1) hx hb d_M_toField_74 (by decide) ?_
          refine lv_goto (tgt := 79) hx hb d_M_toField_75 (by decide) ?_
          refine va_put (D := D) (ci := 5) (v := .int (1 : Int32)) (ty := .boolean) (C := R_M) (T := T_M) (N := 17) hx hb hts l_M t_M t_M_ok n_M hown hK hP (hD σ) hS 0 rfl rfl 14 (by decide) (hts _ w_453) (fun _ h9 => h9) rfl (by decide +kernel) rfl rfl (Nat.le_of_ble_eq_true rfl) d_M_toField_79 (fun H locs hP _ hS => ?_)
          have hP : va_P D vwCl (wM cI cZ q (su σ 0 14 (1 : Int32)) ++ tl) H := hP
          obtain ⟨s79, es79, h⟩ := lettE h
          rw [← es79] at hP
          refine lv_aload_n hx hb d_M_toField_82 rfl (lv_at hl 1 rfl) ?_
          refine va_get (D := D) (ci := 5) (v := .ref (q 7)) (C := R_M) (T := T_M) (N := 17) hx hb hts l_M hown hK hP 0 rfl rfl 9 (by decide) (hts _ w_448) (fun _ h9 => h9) rfl d_M_toField_83 ?_
          refine lv_iconst (v := 4) hx hb d_M_toField_86 (by decide) ?_
          refine lv_iload hx hb d_M_toField_87 (lv_at hl 5 rfl) ?_
          refine lv_imul hx hb d_M_toField_89 ?_
          refine lv_iload_n hx hb d_M_toField_90 rfl (lv_at hl 3 rfl) ?_
          refine lv_iadd hx hb d_M_toField_91 ?_
          refine lv_iload hx hb d_M_toField_92 (lv_at hl 0 rfl) ?_
          obtain ⟨c, h⟩ := ifs h
          refine va_iast hx hb hK hP (hD s79) hS 7 0 rfl rfl c d_M_toField_94 (fun H locs hP _ hS => ?_)
          have hP : va_P D vwCl (wM cI cZ q (sr s79 7 (upd (s79 7) (((4 : Int32) * y4) + y2).toNatClampNeg ((σ 7) (((4 : Int32) * y4) + y2).toNatClampNeg))) ++ tl) H := hP
          obtain ⟨s94, es94, h⟩ := lettE h
          rw [← es94] at hP
          refine lv_iinc (v := (y4 + (1 : Int32))) (lv' := [(4, .int (y4 + (1 : Int32))), (5, .int ((σ 7) (((4 : Int32) * y4) + y2).toNatClampNeg)), (0, .ref (q 0)), (1, .int y1), (2, .int y2), (3, .int y3)]) hx hb d_M_toField_95 hl (k := 5) rfl rfl (by decide) rfl (fun ls hl => ?_)
          refine lv_goto (tgt := 3) hx hb d_M_toField_98 (by decide) ?_
          exact ih (y4 + (1 : Int32)) s94 _ _ ls out h hP hS (lv_sub hl [2, 3, 4, 5, 0] rfl) K
        have h := ifp c h
        refine lv_iload hx hb d_M_toField_58 (lv_at hl 0 rfl) ?_
        refine lv_aload_n hx hb d_M_toField_60 rfl (lv_at hl 1 rfl) ?_
        refine va_get (D := D) (ci := 5) (v := .ref (q 7)) (C := R_M) (T := T_M) (N := 17) hx hb hts l_M hown hK hP 0 rfl rfl 9 (by decide) (hts _ w_448) (fun _ h9 => h9) rfl d_M_toField_61 ?_
        refine lv_iconst (v := 4) hx hb d_M_toField_64 (by decide) ?_
        refine lv_iload hx hb d_M_toField_65 (lv_at hl 5 rfl) ?_
        refine lv_imul hx hb d_M_toField_67 ?_
        refine lv_iload_n hx hb d_M_toField_68 rfl (lv_at hl 3 rfl) ?_
        refine lv_iadd hx hb d_M_toField_69 ?_
        obtain ⟨c, h⟩ := ifs h
        refine va_iald hx hb hK hP 7 0 rfl rfl c d_M_toField_70 ?_
        refine lv_icmp_eq (tgt := 78) hx hb d_M_toField_71 (by decide) (fun c => ?_) (fun c => ?_)
        · have h := ifp c h
          refine lv_iconst (v := 0) hx hb d_M_toField_78 (by decide) ?_
          refine va_put (D := D) (ci := 5) (v := .int (0 : Int32)) (ty := .boolean) (C := R_M) (T := T_M) (N := 17) hx hb hts l_M t_M t_M_ok n_M hown hK hP (hD σ) hS 0 rfl rfl 14 (by decide) (hts _ w_453) (fun _ h9 => h9) rfl (by decide +kernel) rfl rfl (Nat.le_of_ble_eq_true rfl) d_M_toField_79 (fun H locs hP _ hS => ?_)
          have hP : va_P D vwCl (wM cI cZ q (su σ 0 14 (0 : Int32)) ++ tl) H := hP
          obtain ⟨s79, es79, h⟩ := lettE h
          rw [← es79] at hP
          refine lv_aload_n hx hb d_M_toField_82 rfl (lv_at hl 1 rfl) ?_
          refine va_get (D := D) (ci := 5) (v := .ref (q 7)) (C := R_M) (T := T_M) (N := 17) hx hb hts l_M hown hK hP 0 rfl rfl 9 (by decide) (hts _ w_448) (fun _ h9 => h9) rfl d_M_toField_83 ?_
          refine lv_iconst (v := 4) hx hb d_M_toField_86 (by decide) ?_
          refine lv_iload hx hb d_M_toField_87 (lv_at hl 5 rfl) ?_
          refine lv_imul hx hb d_M_toField_89 ?_
          refine lv_iload_n hx hb d_M_toField_90 rfl (lv_at hl 3 rfl) ?_
          refine lv_iadd hx hb d_M_toField_91 ?_
          refine lv_iload hx hb d_M_toField_92 (lv_at hl 0 rfl) ?_
          obtain ⟨c, h⟩ := ifs h
          refine va_iast hx hb hK hP (hD s79) hS 7 0 rfl rfl c d_M_toField_94 (fun H locs hP _ hS => ?_)
          have hP : va_P D vwCl (wM cI cZ q (sr s79 7 (upd (s79 7) (((4 : Int32) * y4) + y2).toNatClampNeg ((σ 7) (((4 : Int32) * y4) + y2).toNatClampNeg))) ++ tl) H := hP
          obtain ⟨s94, es94, h⟩ := lettE h
          rw [← es94] at hP
          refine lv_iinc (v := (y4 + (1 : Int32))) (lv' := [(4, .int (y4 + (1 : Int32))), (5, .int ((σ 7) (((4 : Int32) * y4) + y2).toNatClampNeg)), (0, .ref (q 0)), (1, .int y1), (2, .int y2), (3, .int y3)]) hx hb d_M_toField_95 hl (k := 5) rfl rfl (by decide) rfl (fun ls hl => ?_)
          refine lv_goto (tgt := 3) hx hb d_M_toField_98 (by decide) ?_
          exact ih (y4 + (1 : Int32)) s94 _ _ ls out h hP hS (lv_sub hl [2, 3, 4, 5, 0] rfl) K
        have h := ifn c h
        refine lv_iconst (v := 1) hx hb d_M_toField_74 (by decide) ?_
        refine lv_goto (tgt := 79) hx hb d_M_toField_75 (by decide) ?_
        refine va_put (D := D) (ci := 5) (v := .int (1 : Int32)) (ty := .boolean) (C := R_M) (T := T_M) (N := 17) hx hb hts l_M t_M t_M_ok n_M hown hK hP (hD σ) hS 0 rfl rfl 14 (by decide) (hts _ w_453) (fun _ h9 => h9) rfl (by decide +kernel) rfl rfl (Nat.le_of_ble_eq_true rfl) d_M_toField_79 (fun H locs hP _ hS => ?_)
        have hP : va_P D vwCl (wM cI cZ q (su σ 0 14 (1 : Int32)) ++ tl) H := hP
        obtain ⟨s79, es79, h⟩ := lettE h
        rw [← es79] at hP
        refine lv_aload_n hx hb d_M_toField_82 rfl (lv_at hl 1 rfl) ?_
        refine va_get (D := D) (ci := 5) (v := .ref (q 7)) (C := R_M) (T := T_M) (N := 17) hx hb hts l_M hown hK hP 0 rfl rfl 9 (by decide) (hts _ w_448) (fun _ h9 => h9) rfl d_M_toField_83 ?_
        refine lv_iconst (v := 4) hx hb d_M_toField_86 (by decide) ?_
        refine lv_iload hx hb d_M_toField_87 (lv_at hl 5 rfl) ?_
        refine lv_imul hx hb d_M_toField_89 ?_
        refine lv_iload_n hx hb d_M_toField_90 rfl (lv_at hl 3 rfl) ?_
        refine lv_iadd hx hb d_M_toField_91 ?_
        refine lv_iload hx hb d_M_toField_92 (lv_at hl 0 rfl) ?_
        obtain ⟨c, h⟩ := ifs h
        refine va_iast hx hb hK hP (hD s79) hS 7 0 rfl rfl c d_M_toField_94 (fun H locs hP _ hS => ?_)
        have hP : va_P D vwCl (wM cI cZ q (sr s79 7 (upd (s79 7) (((4 : Int32) * y4) + y2).toNatClampNeg ((σ 7) (((4 : Int32) * y4) + y2).toNatClampNeg))) ++ tl) H := hP
        obtain ⟨s94, es94, h⟩ := lettE h
        rw [← es94] at hP
        refine lv_iinc (v := (y4 + (1 : Int32))) (lv' := [(4, .int (y4 + (1 : Int32))), (5, .int ((σ 7) (((4 : Int32) * y4) + y2).toNatClampNeg)), (0, .ref (q 0)), (1, .int y1), (2, .int y2), (3, .int y3)]) hx hb d_M_toField_95 hl (k := 5) rfl rfl (by decide) rfl (fun ls hl => ?_)
        refine lv_goto (tgt := 3) hx hb d_M_toField_98 (by decide) ?_
        exact ih (y4 + (1 : Int32)) s94 _ _ ls out h hP hS (lv_sub hl [2, 3, 4, 5, 0] rfl) K
      have h := ifn c h
      refine lv_aload_n hx hb d_M_toField_21 rfl (lv_at hl 0 rfl) ?_
      refine va_get (D := D) (ci := 5) (v := .ref (q 7)) (C := R_M) (T := T_M) (N := 17) hx hb hts l_M hown hK hP 0 rfl rfl 9 (by decide) (hts _ w_448) (fun _ h9 => h9) rfl d_M_toField_22 ?_
      refine lv_iconst (v := 4) hx hb d_M_toField_25 (by decide) ?_
      refine lv_iload hx hb d_M_toField_26 (lv_at hl 4 rfl) ?_
      refine lv_imul hx hb d_M_toField_28 ?_
      refine lv_iload_n hx hb d_M_toField_29 rfl (lv_at hl 2 rfl) ?_
      refine lv_iadd hx hb d_M_toField_30 ?_
      obtain ⟨c, h⟩ := ifs h
      refine va_iald hx hb hK hP 7 0 rfl rfl c d_M_toField_31 ?_
      refine lv_iload_n hx hb d_M_toField_32 rfl (lv_at hl 3 rfl) ?_
      refine lv_ior hx hb d_M_toField_33 ?_
      refine lv_goto (tgt := 48) hx hb d_M_toField_34 (by decide) ?_
      refine lv_istore (lv' := [(5, .int (((σ 7) (((4 : Int32) * y4) + y2).toNatClampNeg) ||| y3)), (0, .ref (q 0)), (1, .int y1), (2, .int y2), (3, .int y3), (4, .int y4)]) hx hb d_M_toField_48 hl (by decide) rfl (fun ls hl => ?_)
      refine lv_aload_n hx hb d_M_toField_50 rfl (lv_at hl 1 rfl) ?_
      refine lv_aload_n hx hb d_M_toField_51 rfl (lv_at hl 1 rfl) ?_
      refine va_get (D := D) (ci := 5) (v := .int (σ 0 14)) (C := R_M) (T := T_M) (N := 17) hx hb hts l_M hown hK hP 0 rfl rfl 14 (by decide) (hts _ w_453) (fun _ h9 => h9) rfl d_M_toField_52 ?_
      refine lv_if_ne (tgt := 74) hx hb d_M_toField_55 (by decide) (fun c => ?_) (fun c => ?_)
      · have h := ifn c h
        refine lv_iconst (v := 1) hx hb d_M_toField_74 (by decide) ?_
        refine lv_goto (tgt := 79) hx hb d_M_toField_75 (by decide) ?_
        refine va_put (D := D) (ci := 5) (v := .int (1 : Int32)) (ty := .boolean) (C := R_M) (T := T_M) (N := 17) hx hb hts l_M t_M t_M_ok n_M hown hK hP (hD σ) hS 0 rfl rfl 14 (by decide) (hts _ w_453) (fun _ h9 => h9) rfl (by decide +kernel) rfl rfl (Nat.le_of_ble_eq_true rfl) d_M_toField_79 (fun H locs hP _ hS => ?_)
        have hP : va_P D vwCl (wM cI cZ q (su σ 0 14 (1 : Int32)) ++ tl) H := hP
        obtain ⟨s79, es79, h⟩ := lettE h
        rw [← es79] at hP
        refine lv_aload_n hx hb d_M_toField_82 rfl (lv_at hl 1 rfl) ?_
        refine va_get (D := D) (ci := 5) (v := .ref (q 7)) (C := R_M) (T := T_M) (N := 17) hx hb hts l_M hown hK hP 0 rfl rfl 9 (by decide) (hts _ w_448) (fun _ h9 => h9) rfl d_M_toField_83 ?_
        refine lv_iconst (v := 4) hx hb d_M_toField_86 (by decide) ?_
        refine lv_iload hx hb d_M_toField_87 (lv_at hl 5 rfl) ?_
        refine lv_imul hx hb d_M_toField_89 ?_
        refine lv_iload_n hx hb d_M_toField_90 rfl (lv_at hl 3 rfl) ?_
        refine lv_iadd hx hb d_M_toField_91 ?_
        refine lv_iload hx hb d_M_toField_92 (lv_at hl 0 rfl) ?_
        obtain ⟨c, h⟩ := ifs h
        refine va_iast hx hb hK hP (hD s79) hS 7 0 rfl rfl c d_M_toField_94 (fun H locs hP _ hS => ?_)
        have hP : va_P D vwCl (wM cI cZ q (sr s79 7 (upd (s79 7) (((4 : Int32) * y4) + y2).toNatClampNeg (((σ 7) (((4 : Int32) * y4) + y2).toNatClampNeg) ||| y3))) ++ tl) H := hP
        obtain ⟨s94, es94, h⟩ := lettE h
        rw [← es94] at hP
        refine lv_iinc (v := (y4 + (1 : Int32))) (lv' := [(4, .int (y4 + (1 : Int32))), (5, .int (((σ 7) (((4 : Int32) * y4) + y2).toNatClampNeg) ||| y3)), (0, .ref (q 0)), (1, .int y1), (2, .int y2), (3, .int y3)]) hx hb d_M_toField_95 hl (k := 5) rfl rfl (by decide) rfl (fun ls hl => ?_)
        refine lv_goto (tgt := 3) hx hb d_M_toField_98 (by decide) ?_
        exact ih (y4 + (1 : Int32)) s94 _ _ ls out h hP hS (lv_sub hl [2, 3, 4, 5, 0] rfl) K
      have h := ifp c h
      refine lv_iload hx hb d_M_toField_58 (lv_at hl 0 rfl) ?_
      refine lv_aload_n hx hb d_M_toField_60 rfl (lv_at hl 1 rfl) ?_
      refine va_get (D := D) (ci := 5) (v := .ref (q 7)) (C := R_M) (T := T_M) (N := 17) hx hb hts l_M hown hK hP 0 rfl rfl 9 (by decide) (hts _ w_448) (fun _ h9 => h9) rfl d_M_toField_61 ?_
      refine lv_iconst (v := 4) hx hb d_M_toField_64 (by decide) ?_
      refine lv_iload hx hb d_M_toField_65 (lv_at hl 5 rfl) ?_
      refine lv_imul hx hb d_M_toField_67 ?_
      refine lv_iload_n hx hb d_M_toField_68 rfl (lv_at hl 3 rfl) ?_
      refine lv_iadd hx hb d_M_toField_69 ?_
      obtain ⟨c, h⟩ := ifs h
      refine va_iald hx hb hK hP 7 0 rfl rfl c d_M_toField_70 ?_
      refine lv_icmp_eq (tgt := 78) hx hb d_M_toField_71 (by decide) (fun c => ?_) (fun c => ?_)
      · have h := ifp c h
        refine lv_iconst (v := 0) hx hb d_M_toField_78 (by decide) ?_
        refine va_put (D := D) (ci := 5) (v := .int (0 : Int32)) (ty := .boolean) (C := R_M) (T := T_M) (N := 17) hx hb hts l_M t_M t_M_ok n_M hown hK hP (hD σ) hS 0 rfl rfl 14 (by decide) (hts _ w_453) (fun _ h9 => h9) rfl (by decide +kernel) rfl rfl (Nat.le_of_ble_eq_true rfl) d_M_toField_79 (fun H locs hP _ hS => ?_)
        have hP : va_P D vwCl (wM cI cZ q (su σ 0 14 (0 : Int32)) ++ tl) H := hP
        obtain ⟨s79, es79, h⟩ := lettE h
        rw [← es79] at hP
        refine lv_aload_n hx hb d_M_toField_82 rfl (lv_at hl 1 rfl) ?_
        refine va_get (D := D) (ci := 5) (v := .ref (q 7)) (C := R_M) (T := T_M) (N := 17) hx hb hts l_M hown hK hP 0 rfl rfl 9 (by decide) (hts _ w_448) (fun _ h9 => h9) rfl d_M_toField_83 ?_
        refine lv_iconst (v := 4) hx hb d_M_toField_86 (by decide) ?_
        refine lv_iload hx hb d_M_toField_87 (lv_at hl 5 rfl) ?_
        refine lv_imul hx hb d_M_toField_89 ?_
        refine lv_iload_n hx hb d_M_toField_90 rfl (lv_at hl 3 rfl) ?_
        refine lv_iadd hx hb d_M_toField_91 ?_
        refine lv_iload hx hb d_M_toField_92 (lv_at hl 0 rfl) ?_
        obtain ⟨c, h⟩ := ifs h
        refine va_iast hx hb hK hP (hD s79) hS 7 0 rfl rfl c d_M_toField_94 (fun H locs hP _ hS => ?_)
        have hP : va_P D vwCl (wM cI cZ q (sr s79 7 (upd (s79 7) (((4 : Int32) * y4) + y2).toNatClampNeg (((σ 7) (((4 : Int32) * y4) + y2).toNatClampNeg) ||| y3))) ++ tl) H := hP
        obtain ⟨s94, es94, h⟩ := lettE h
        rw [← es94] at hP
        refine lv_iinc (v := (y4 + (1 : Int32))) (lv' := [(4, .int (y4 + (1 : Int32))), (5, .int (((σ 7) (((4 : Int32) * y4) + y2).toNatClampNeg) ||| y3)), (0, .ref (q 0)), (1, .int y1), (2, .int y2), (3, .int y3)]) hx hb d_M_toField_95 hl (k := 5) rfl rfl (by decide) rfl (fun ls hl => ?_)
        refine lv_goto (tgt := 3) hx hb d_M_toField_98 (by decide) ?_
        exact ih (y4 + (1 : Int32)) s94 _ _ ls out h hP hS (lv_sub hl [2, 3, 4, 5, 0] rfl) K
      have h := ifn c h
      refine lv_iconst (v := 1) hx hb d_M_toField_74 (by decide) ?_
      refine lv_goto (tgt := 79) hx hb d_M_toField_75 (by decide) ?_
      refine va_put (D := D) (ci := 5) (v := .int (1 : Int32)) (ty := .boolean) (C := R_M) (T := T_M) (N := 17) hx hb hts l_M t_M t_M_ok n_M hown hK hP (hD σ) hS 0 rfl rfl 14 (by decide) (hts _ w_453) (fun _ h9 => h9) rfl (by decide +kernel) rfl rfl (Nat.le_of_ble_eq_true rfl) d_M_toField_79 (fun H locs hP _ hS => ?_)
      have hP : va_P D vwCl (wM cI cZ q (su σ 0 14 (1 : Int32)) ++ tl) H := hP
      obtain ⟨s79, es79, h⟩ := lettE h
      rw [← es79] at hP
      refine lv_aload_n hx hb d_M_toField_82 rfl (lv_at hl 1 rfl) ?_
      refine va_get (D := D) (ci := 5) (v := .ref (q 7)) (C := R_M) (T := T_M) (N := 17) hx hb hts l_M hown hK hP 0 rfl rfl 9 (by decide) (hts _ w_448) (fun _ h9 => h9) rfl d_M_toField_83 ?_
      refine lv_iconst (v := 4) hx hb d_M_toField_86 (by decide) ?_
      refine lv_iload hx hb d_M_toField_87 (lv_at hl 5 rfl) ?_
      refine lv_imul hx hb d_M_toField_89 ?_
      refine lv_iload_n hx hb d_M_toField_90 rfl (lv_at hl 3 rfl) ?_
      refine lv_iadd hx hb d_M_toField_91 ?_
      refine lv_iload hx hb d_M_toField_92 (lv_at hl 0 rfl) ?_
      obtain ⟨c, h⟩ := ifs h
      refine va_iast hx hb hK hP (hD s79) hS 7 0 rfl rfl c d_M_toField_94 (fun H locs hP _ hS => ?_)
      have hP : va_P D vwCl (wM cI cZ q (sr s79 7 (upd (s79 7) (((4 : Int32) * y4) + y2).toNatClampNeg (((σ 7) (((4 : Int32) * y4) + y2).toNatClampNeg) ||| y3))) ++ tl) H := hP
      obtain ⟨s94, es94, h⟩ := lettE h
      rw [← es94] at hP
      refine lv_iinc (v := (y4 + (1 : Int32))) (lv' := [(4, .int (y4 + (1 : Int32))), (5, .int (((σ 7) (((4 : Int32) * y4) + y2).toNatClampNeg) ||| y3)), (0, .ref (q 0)), (1, .int y1), (2, .int y2), (3, .int y3)]) hx hb d_M_toField_95 hl (k := 5) rfl rfl (by decide) rfl (fun ls hl => ?_)
      refine lv_goto (tgt := 3) hx hb d_M_toField_98 (by decide) ?_
      exact ih (y4 + (1 : Int32)) s94 _ _ ls out h hP hS (lv_sub hl [2, 3, 4, 5, 0] rfl) K
  unfold f_M_toField at h
  refine lv_iconst (v := 0) hx hb d_M_toField_0 (by decide) ?_
  refine lv_istore (lv' := [(4, .int (0 : Int32)), (0, .ref (q 0)), (1, .int x1), (2, .int x2), (3, .int x3)]) hx hb d_M_toField_1 hl (by decide) rfl (fun ls hl => ?_)
  obtain ⟨u3, hu3, h⟩ := bnd h
  refine L3 x1 x2 x3 F (0 : Int32) σ _ _ ls u3 hu3 hP hS (lv_sub hl [1, 2, 3, 4, 0] rfl) (fun H locs ls hP hS hl => ?_)
  cases h
  exact gret_v hx hb hr hlk hP hS d_M_toField_101
/-! ===== EscapeOwnersModel.toPlace(II)V ===== -/
def f_M_toPlace (σ : St) (x1 : Int32) (x2 : Int32) : Option (St) := if ¬ (x1 < 0 ∨ 4 ≤ x1.toNatClampNeg) then (if (σ 0 14) = 0 then (if ¬ (x1 < 0 ∨ 4 ≤ x1.toNatClampNeg) then (if (((σ 8) x1.toNatClampNeg) ||| x2) = ((σ 8) x1.toNatClampNeg) then (lett (su σ 0 14 (0 : Int32)) (fun s32 => if ¬ (x1 < 0 ∨ 4 ≤ x1.toNatClampNeg) then (lett (sr s32 8 (upd (s32 8) x1.toNatClampNeg (((σ 8) x1.toNatClampNeg) ||| x2))) (fun s41 => some s41)) else none)) else (lett (su σ 0 14 (1 : Int32)) (fun s32 => if ¬ (x1 < 0 ∨ 4 ≤ x1.toNatClampNeg) then (lett (sr s32 8 (upd (s32 8) x1.toNatClampNeg (((σ 8) x1.toNatClampNeg) ||| x2))) (fun s41 => some s41)) else none))) else none) else (lett (su σ 0 14 (1 : Int32)) (fun s32 => if ¬ (x1 < 0 ∨ 4 ≤ x1.toNatClampNeg) then (lett (sr s32 8 (upd (s32 8) x1.toNatClampNeg (((σ 8) x1.toNatClampNeg) ||| x2))) (fun s41 => some s41)) else none))) else none
set_option maxHeartbeats 4000000 in
set_option maxRecDepth 100000 in
theorem c_M_toPlace (l : Launch) (D : va_G) (cI cZ : ClassId) (tL : Nat) (q : Nat → Nat) (tl : va_W) (σ : St) (x1 : Int32) (x2 : Int32) (out0 : St) (h : f_M_toPlace σ x1 x2 = some out0) : gCv l y_M_toPlace (.code y_M_toPlace b_M_toPlace 4 none :: TB) { frames := 0, cells := 0, slots := 0, locals := 0 } D [(cI, .int), (cZ, .boolean)] tL [.ref (q 0), .int x1, .int x2] (wM cI cZ q σ ++ tl) (wM cI cZ q out0 ++ tl) := by
  refine gCv_of (cc := b_M_toPlace) (maxL := 4)  (by decide) rfl (Nat.le_of_ble_eq_true rfl) ?_
  intro p e s m below meth c A ls hf hr hlk hA hK hD0 hE hP hl
  obtain ⟨hx, hb, hml, hown, hts⟩ := id hf
  have hts : ∀ w ∈ TB, w.before _ s = true := fun w h => hts w (List.mem_cons_of_mem _ h)
  have hown : s.vm.findClass R_M = some m.cls := hown
  have hl : lv_has ls 4 [(0, .ref (q 0)), (1, .int x1), (2, .int x2)] := hl
  have hS : va_S A s.heap s.heap [] := va_S.rf
  have hD : ∀ σ' : St, va_D A (wM cI cZ q σ' ++ tl) := fun σ' => va_Dsame hD0 rfl
  unfold f_M_toPlace at h
  refine lv_aload_n hx hb d_M_toPlace_0 rfl (lv_at hl 0 rfl) ?_
  refine va_get (D := D) (ci := 5) (v := .ref (q 8)) (C := R_M) (T := T_M) (N := 17) hx hb hts l_M hown hK hP 0 rfl rfl 10 (by decide) (hts _ w_449) (fun _ h9 => h9) rfl d_M_toPlace_1 ?_
  refine lv_iload_n hx hb d_M_toPlace_4 rfl (lv_at hl 1 rfl) ?_
  obtain ⟨c, h⟩ := ifs h
  refine va_iald hx hb hK hP 8 0 rfl rfl c d_M_toPlace_5 ?_
  refine lv_iload_n hx hb d_M_toPlace_6 rfl (lv_at hl 2 rfl) ?_
  refine lv_ior hx hb d_M_toPlace_7 ?_
  refine lv_istore_n (lv' := [(3, .int (((σ 8) x1.toNatClampNeg) ||| x2)), (0, .ref (q 0)), (1, .int x1), (2, .int x2)]) hx hb d_M_toPlace_8 rfl hl (by decide) rfl (fun ls hl => ?_)
  refine lv_aload_n hx hb d_M_toPlace_9 rfl (lv_at hl 1 rfl) ?_
  refine lv_aload_n hx hb d_M_toPlace_10 rfl (lv_at hl 1 rfl) ?_
  refine va_get (D := D) (ci := 5) (v := .int (σ 0 14)) (C := R_M) (T := T_M) (N := 17) hx hb hts l_M hown hK hP 0 rfl rfl 14 (by decide) (hts _ w_453) (fun _ h9 => h9) rfl d_M_toPlace_11 ?_
  refine lv_if_ne (tgt := 27) hx hb d_M_toPlace_14 (by decide) (fun c => ?_) (fun c => ?_)
  · have h := ifn c h
    refine lv_iconst (v := 1) hx hb d_M_toPlace_27 (by decide) ?_
    refine lv_goto (tgt := 32) hx hb d_M_toPlace_28 (by decide) ?_
    refine va_put (D := D) (ci := 5) (v := .int (1 : Int32)) (ty := .boolean) (C := R_M) (T := T_M) (N := 17) hx hb hts l_M t_M t_M_ok n_M hown hK hP (hD σ) hS 0 rfl rfl 14 (by decide) (hts _ w_453) (fun _ h9 => h9) rfl (by decide +kernel) rfl rfl (Nat.le_of_ble_eq_true rfl) d_M_toPlace_32 (fun H locs hP _ hS => ?_)
    have hP : va_P D vwCl (wM cI cZ q (su σ 0 14 (1 : Int32)) ++ tl) H := hP
    obtain ⟨s32, es32, h⟩ := lettE h
    rw [← es32] at hP
    refine lv_aload_n hx hb d_M_toPlace_35 rfl (lv_at hl 1 rfl) ?_
    refine va_get (D := D) (ci := 5) (v := .ref (q 8)) (C := R_M) (T := T_M) (N := 17) hx hb hts l_M hown hK hP 0 rfl rfl 10 (by decide) (hts _ w_449) (fun _ h9 => h9) rfl d_M_toPlace_36 ?_
    refine lv_iload_n hx hb d_M_toPlace_39 rfl (lv_at hl 2 rfl) ?_
    refine lv_iload_n hx hb d_M_toPlace_40 rfl (lv_at hl 0 rfl) ?_
    obtain ⟨c, h⟩ := ifs h
    refine va_iast hx hb hK hP (hD s32) hS 8 0 rfl rfl c d_M_toPlace_41 (fun H locs hP _ hS => ?_)
    have hP : va_P D vwCl (wM cI cZ q (sr s32 8 (upd (s32 8) x1.toNatClampNeg (((σ 8) x1.toNatClampNeg) ||| x2))) ++ tl) H := hP
    obtain ⟨s41, es41, h⟩ := lettE h
    rw [← es41] at hP
    cases h
    exact gret_v hx hb hr hlk hP hS d_M_toPlace_42
  have h := ifp c h
  refine lv_iload_n hx hb d_M_toPlace_17 rfl (lv_at hl 0 rfl) ?_
  refine lv_aload_n hx hb d_M_toPlace_18 rfl (lv_at hl 1 rfl) ?_
  refine va_get (D := D) (ci := 5) (v := .ref (q 8)) (C := R_M) (T := T_M) (N := 17) hx hb hts l_M hown hK hP 0 rfl rfl 10 (by decide) (hts _ w_449) (fun _ h9 => h9) rfl d_M_toPlace_19 ?_
  refine lv_iload_n hx hb d_M_toPlace_22 rfl (lv_at hl 2 rfl) ?_
  obtain ⟨c, h⟩ := ifs h
  refine va_iald hx hb hK hP 8 0 rfl rfl c d_M_toPlace_23 ?_
  refine lv_icmp_eq (tgt := 31) hx hb d_M_toPlace_24 (by decide) (fun c => ?_) (fun c => ?_)
  · have h := ifp c h
    refine lv_iconst (v := 0) hx hb d_M_toPlace_31 (by decide) ?_
    refine va_put (D := D) (ci := 5) (v := .int (0 : Int32)) (ty := .boolean) (C := R_M) (T := T_M) (N := 17) hx hb hts l_M t_M t_M_ok n_M hown hK hP (hD σ) hS 0 rfl rfl 14 (by decide) (hts _ w_453) (fun _ h9 => h9) rfl (by decide +kernel) rfl rfl (Nat.le_of_ble_eq_true rfl) d_M_toPlace_32 (fun H locs hP _ hS => ?_)
    have hP : va_P D vwCl (wM cI cZ q (su σ 0 14 (0 : Int32)) ++ tl) H := hP
    obtain ⟨s32, es32, h⟩ := lettE h
    rw [← es32] at hP
    refine lv_aload_n hx hb d_M_toPlace_35 rfl (lv_at hl 1 rfl) ?_
    refine va_get (D := D) (ci := 5) (v := .ref (q 8)) (C := R_M) (T := T_M) (N := 17) hx hb hts l_M hown hK hP 0 rfl rfl 10 (by decide) (hts _ w_449) (fun _ h9 => h9) rfl d_M_toPlace_36 ?_
    refine lv_iload_n hx hb d_M_toPlace_39 rfl (lv_at hl 2 rfl) ?_
    refine lv_iload_n hx hb d_M_toPlace_40 rfl (lv_at hl 0 rfl) ?_
    obtain ⟨c, h⟩ := ifs h
    refine va_iast hx hb hK hP (hD s32) hS 8 0 rfl rfl c d_M_toPlace_41 (fun H locs hP _ hS => ?_)
    have hP : va_P D vwCl (wM cI cZ q (sr s32 8 (upd (s32 8) x1.toNatClampNeg (((σ 8) x1.toNatClampNeg) ||| x2))) ++ tl) H := hP
    obtain ⟨s41, es41, h⟩ := lettE h
    rw [← es41] at hP
    cases h
    exact gret_v hx hb hr hlk hP hS d_M_toPlace_42
  have h := ifn c h
  refine lv_iconst (v := 1) hx hb d_M_toPlace_27 (by decide) ?_
  refine lv_goto (tgt := 32) hx hb d_M_toPlace_28 (by decide) ?_
  refine va_put (D := D) (ci := 5) (v := .int (1 : Int32)) (ty := .boolean) (C := R_M) (T := T_M) (N := 17) hx hb hts l_M t_M t_M_ok n_M hown hK hP (hD σ) hS 0 rfl rfl 14 (by decide) (hts _ w_453) (fun _ h9 => h9) rfl (by decide +kernel) rfl rfl (Nat.le_of_ble_eq_true rfl) d_M_toPlace_32 (fun H locs hP _ hS => ?_)
  have hP : va_P D vwCl (wM cI cZ q (su σ 0 14 (1 : Int32)) ++ tl) H := hP
  obtain ⟨s32, es32, h⟩ := lettE h
  rw [← es32] at hP
  refine lv_aload_n hx hb d_M_toPlace_35 rfl (lv_at hl 1 rfl) ?_
  refine va_get (D := D) (ci := 5) (v := .ref (q 8)) (C := R_M) (T := T_M) (N := 17) hx hb hts l_M hown hK hP 0 rfl rfl 10 (by decide) (hts _ w_449) (fun _ h9 => h9) rfl d_M_toPlace_36 ?_
  refine lv_iload_n hx hb d_M_toPlace_39 rfl (lv_at hl 2 rfl) ?_
  refine lv_iload_n hx hb d_M_toPlace_40 rfl (lv_at hl 0 rfl) ?_
  obtain ⟨c, h⟩ := ifs h
  refine va_iast hx hb hK hP (hD s32) hS 8 0 rfl rfl c d_M_toPlace_41 (fun H locs hP _ hS => ?_)
  have hP : va_P D vwCl (wM cI cZ q (sr s32 8 (upd (s32 8) x1.toNatClampNeg (((σ 8) x1.toNatClampNeg) ||| x2))) ++ tl) H := hP
  obtain ⟨s41, es41, h⟩ := lettE h
  rw [← es41] at hP
  cases h
  exact gret_v hx hb hr hlk hP hS d_M_toPlace_42
/-! ===== EscapeOwnersModel.toResult(II)V ===== -/
def f_M_toResult (σ : St) (x1 : Int32) (x2 : Int32) : Option (St) := if ¬ (x1 < 0 ∨ 8 ≤ x1.toNatClampNeg) then (if (σ 0 14) = 0 then (if ¬ (x1 < 0 ∨ 8 ≤ x1.toNatClampNeg) then (if (((σ 9) x1.toNatClampNeg) ||| x2) = ((σ 9) x1.toNatClampNeg) then (lett (su σ 0 14 (0 : Int32)) (fun s32 => if ¬ (x1 < 0 ∨ 8 ≤ x1.toNatClampNeg) then (lett (sr s32 9 (upd (s32 9) x1.toNatClampNeg (((σ 9) x1.toNatClampNeg) ||| x2))) (fun s41 => some s41)) else none)) else (lett (su σ 0 14 (1 : Int32)) (fun s32 => if ¬ (x1 < 0 ∨ 8 ≤ x1.toNatClampNeg) then (lett (sr s32 9 (upd (s32 9) x1.toNatClampNeg (((σ 9) x1.toNatClampNeg) ||| x2))) (fun s41 => some s41)) else none))) else none) else (lett (su σ 0 14 (1 : Int32)) (fun s32 => if ¬ (x1 < 0 ∨ 8 ≤ x1.toNatClampNeg) then (lett (sr s32 9 (upd (s32 9) x1.toNatClampNeg (((σ 9) x1.toNatClampNeg) ||| x2))) (fun s41 => some s41)) else none))) else none
set_option maxHeartbeats 4000000 in
set_option maxRecDepth 100000 in
theorem c_M_toResult (l : Launch) (D : va_G) (cI cZ : ClassId) (tL : Nat) (q : Nat → Nat) (tl : va_W) (σ : St) (x1 : Int32) (x2 : Int32) (out0 : St) (h : f_M_toResult σ x1 x2 = some out0) : gCv l y_M_toResult (.code y_M_toResult b_M_toResult 4 none :: TB) { frames := 0, cells := 0, slots := 0, locals := 0 } D [(cI, .int), (cZ, .boolean)] tL [.ref (q 0), .int x1, .int x2] (wM cI cZ q σ ++ tl) (wM cI cZ q out0 ++ tl) := by
  refine gCv_of (cc := b_M_toResult) (maxL := 4)  (by decide) rfl (Nat.le_of_ble_eq_true rfl) ?_
  intro p e s m below meth c A ls hf hr hlk hA hK hD0 hE hP hl
  obtain ⟨hx, hb, hml, hown, hts⟩ := id hf
  have hts : ∀ w ∈ TB, w.before _ s = true := fun w h => hts w (List.mem_cons_of_mem _ h)
  have hown : s.vm.findClass R_M = some m.cls := hown
  have hl : lv_has ls 4 [(0, .ref (q 0)), (1, .int x1), (2, .int x2)] := hl
  have hS : va_S A s.heap s.heap [] := va_S.rf
  have hD : ∀ σ' : St, va_D A (wM cI cZ q σ' ++ tl) := fun σ' => va_Dsame hD0 rfl
  unfold f_M_toResult at h
  refine lv_aload_n hx hb d_M_toResult_0 rfl (lv_at hl 0 rfl) ?_
  refine va_get (D := D) (ci := 5) (v := .ref (q 9)) (C := R_M) (T := T_M) (N := 17) hx hb hts l_M hown hK hP 0 rfl rfl 11 (by decide) (hts _ w_450) (fun _ h9 => h9) rfl d_M_toResult_1 ?_
  refine lv_iload_n hx hb d_M_toResult_4 rfl (lv_at hl 1 rfl) ?_
  obtain ⟨c, h⟩ := ifs h
  refine va_iald hx hb hK hP 9 0 rfl rfl c d_M_toResult_5 ?_
  refine lv_iload_n hx hb d_M_toResult_6 rfl (lv_at hl 2 rfl) ?_
  refine lv_ior hx hb d_M_toResult_7 ?_
  refine lv_istore_n (lv' := [(3, .int (((σ 9) x1.toNatClampNeg) ||| x2)), (0, .ref (q 0)), (1, .int x1), (2, .int x2)]) hx hb d_M_toResult_8 rfl hl (by decide) rfl (fun ls hl => ?_)
  refine lv_aload_n hx hb d_M_toResult_9 rfl (lv_at hl 1 rfl) ?_
  refine lv_aload_n hx hb d_M_toResult_10 rfl (lv_at hl 1 rfl) ?_
  refine va_get (D := D) (ci := 5) (v := .int (σ 0 14)) (C := R_M) (T := T_M) (N := 17) hx hb hts l_M hown hK hP 0 rfl rfl 14 (by decide) (hts _ w_453) (fun _ h9 => h9) rfl d_M_toResult_11 ?_
  refine lv_if_ne (tgt := 27) hx hb d_M_toResult_14 (by decide) (fun c => ?_) (fun c => ?_)
  · have h := ifn c h
    refine lv_iconst (v := 1) hx hb d_M_toResult_27 (by decide) ?_
    refine lv_goto (tgt := 32) hx hb d_M_toResult_28 (by decide) ?_
    refine va_put (D := D) (ci := 5) (v := .int (1 : Int32)) (ty := .boolean) (C := R_M) (T := T_M) (N := 17) hx hb hts l_M t_M t_M_ok n_M hown hK hP (hD σ) hS 0 rfl rfl 14 (by decide) (hts _ w_453) (fun _ h9 => h9) rfl (by decide +kernel) rfl rfl (Nat.le_of_ble_eq_true rfl) d_M_toResult_32 (fun H locs hP _ hS => ?_)
    have hP : va_P D vwCl (wM cI cZ q (su σ 0 14 (1 : Int32)) ++ tl) H := hP
    obtain ⟨s32, es32, h⟩ := lettE h
    rw [← es32] at hP
    refine lv_aload_n hx hb d_M_toResult_35 rfl (lv_at hl 1 rfl) ?_
    refine va_get (D := D) (ci := 5) (v := .ref (q 9)) (C := R_M) (T := T_M) (N := 17) hx hb hts l_M hown hK hP 0 rfl rfl 11 (by decide) (hts _ w_450) (fun _ h9 => h9) rfl d_M_toResult_36 ?_
    refine lv_iload_n hx hb d_M_toResult_39 rfl (lv_at hl 2 rfl) ?_
    refine lv_iload_n hx hb d_M_toResult_40 rfl (lv_at hl 0 rfl) ?_
    obtain ⟨c, h⟩ := ifs h
    refine va_iast hx hb hK hP (hD s32) hS 9 0 rfl rfl c d_M_toResult_41 (fun H locs hP _ hS => ?_)
    have hP : va_P D vwCl (wM cI cZ q (sr s32 9 (upd (s32 9) x1.toNatClampNeg (((σ 9) x1.toNatClampNeg) ||| x2))) ++ tl) H := hP
    obtain ⟨s41, es41, h⟩ := lettE h
    rw [← es41] at hP
    cases h
    exact gret_v hx hb hr hlk hP hS d_M_toResult_42
  have h := ifp c h
  refine lv_iload_n hx hb d_M_toResult_17 rfl (lv_at hl 0 rfl) ?_
  refine lv_aload_n hx hb d_M_toResult_18 rfl (lv_at hl 1 rfl) ?_
  refine va_get (D := D) (ci := 5) (v := .ref (q 9)) (C := R_M) (T := T_M) (N := 17) hx hb hts l_M hown hK hP 0 rfl rfl 11 (by decide) (hts _ w_450) (fun _ h9 => h9) rfl d_M_toResult_19 ?_
  refine lv_iload_n hx hb d_M_toResult_22 rfl (lv_at hl 2 rfl) ?_
  obtain ⟨c, h⟩ := ifs h
  refine va_iald hx hb hK hP 9 0 rfl rfl c d_M_toResult_23 ?_
  refine lv_icmp_eq (tgt := 31) hx hb d_M_toResult_24 (by decide) (fun c => ?_) (fun c => ?_)
  · have h := ifp c h
    refine lv_iconst (v := 0) hx hb d_M_toResult_31 (by decide) ?_
    refine va_put (D := D) (ci := 5) (v := .int (0 : Int32)) (ty := .boolean) (C := R_M) (T := T_M) (N := 17) hx hb hts l_M t_M t_M_ok n_M hown hK hP (hD σ) hS 0 rfl rfl 14 (by decide) (hts _ w_453) (fun _ h9 => h9) rfl (by decide +kernel) rfl rfl (Nat.le_of_ble_eq_true rfl) d_M_toResult_32 (fun H locs hP _ hS => ?_)
    have hP : va_P D vwCl (wM cI cZ q (su σ 0 14 (0 : Int32)) ++ tl) H := hP
    obtain ⟨s32, es32, h⟩ := lettE h
    rw [← es32] at hP
    refine lv_aload_n hx hb d_M_toResult_35 rfl (lv_at hl 1 rfl) ?_
    refine va_get (D := D) (ci := 5) (v := .ref (q 9)) (C := R_M) (T := T_M) (N := 17) hx hb hts l_M hown hK hP 0 rfl rfl 11 (by decide) (hts _ w_450) (fun _ h9 => h9) rfl d_M_toResult_36 ?_
    refine lv_iload_n hx hb d_M_toResult_39 rfl (lv_at hl 2 rfl) ?_
    refine lv_iload_n hx hb d_M_toResult_40 rfl (lv_at hl 0 rfl) ?_
    obtain ⟨c, h⟩ := ifs h
    refine va_iast hx hb hK hP (hD s32) hS 9 0 rfl rfl c d_M_toResult_41 (fun H locs hP _ hS => ?_)
    have hP : va_P D vwCl (wM cI cZ q (sr s32 9 (upd (s32 9) x1.toNatClampNeg (((σ 9) x1.toNatClampNeg) ||| x2))) ++ tl) H := hP
    obtain ⟨s41, es41, h⟩ := lettE h
    rw [← es41] at hP
    cases h
    exact gret_v hx hb hr hlk hP hS d_M_toResult_42
  have h := ifn c h
  refine lv_iconst (v := 1) hx hb d_M_toResult_27 (by decide) ?_
  refine lv_goto (tgt := 32) hx hb d_M_toResult_28 (by decide) ?_
  refine va_put (D := D) (ci := 5) (v := .int (1 : Int32)) (ty := .boolean) (C := R_M) (T := T_M) (N := 17) hx hb hts l_M t_M t_M_ok n_M hown hK hP (hD σ) hS 0 rfl rfl 14 (by decide) (hts _ w_453) (fun _ h9 => h9) rfl (by decide +kernel) rfl rfl (Nat.le_of_ble_eq_true rfl) d_M_toResult_32 (fun H locs hP _ hS => ?_)
  have hP : va_P D vwCl (wM cI cZ q (su σ 0 14 (1 : Int32)) ++ tl) H := hP
  obtain ⟨s32, es32, h⟩ := lettE h
  rw [← es32] at hP
  refine lv_aload_n hx hb d_M_toResult_35 rfl (lv_at hl 1 rfl) ?_
  refine va_get (D := D) (ci := 5) (v := .ref (q 9)) (C := R_M) (T := T_M) (N := 17) hx hb hts l_M hown hK hP 0 rfl rfl 11 (by decide) (hts _ w_450) (fun _ h9 => h9) rfl d_M_toResult_36 ?_
  refine lv_iload_n hx hb d_M_toResult_39 rfl (lv_at hl 2 rfl) ?_
  refine lv_iload_n hx hb d_M_toResult_40 rfl (lv_at hl 0 rfl) ?_
  obtain ⟨c, h⟩ := ifs h
  refine va_iast hx hb hK hP (hD s32) hS 9 0 rfl rfl c d_M_toResult_41 (fun H locs hP _ hS => ?_)
  have hP : va_P D vwCl (wM cI cZ q (sr s32 9 (upd (s32 9) x1.toNatClampNeg (((σ 9) x1.toNatClampNeg) ||| x2))) ++ tl) H := hP
  obtain ⟨s41, es41, h⟩ := lettE h
  rw [← es41] at hP
  cases h
  exact gret_v hx hb hr hlk hP hS d_M_toResult_42
/-! ===== EscapeOwnersModel.doStep(I)V ===== -/
def f_M_doStep_B203 (F : Nat) (y1 : Int32) (y2 : Int32) (y3 : Int32) (rec : Int32 → St → Option (Int32 × St)) (y6 : Int32) (σ : St) : Option (Int32 × St) := if (3 : Int32) ≤ y6 then (some (y6, σ)) else (if ¬ (((((5 : Int32) * y1) + (1 : Int32)) + y6) < 0 ∨ 320 ≤ ((((5 : Int32) * y1) + (1 : Int32)) + y6).toNatClampNeg) then (if ((σ 4) ((((5 : Int32) * y1) + (1 : Int32)) + y6).toNatClampNeg) = (-1 : Int32) then (rec (y6 + (1 : Int32)) σ) else (Option.bind (f_M_name σ y2 ((σ 4) ((((5 : Int32) * y1) + (1 : Int32)) + y6).toNatClampNeg)) (fun u238 => Option.bind (f_M_toName σ y3 y6 u238) (fun u241 => rec (y6 + (1 : Int32)) u241)))) else none)
def f_M_doStep_L203 (F : Nat) (y1 : Int32) (y2 : Int32) (y3 : Int32) : Nat → Int32 → St → Option (Int32 × St)
  | 0, _, _ => none
  | fu + 1, y6, σ => f_M_doStep_B203 F y1 y2 y3 (f_M_doStep_L203 F y1 y2 y3 fu) y6 σ
def f_M_doStep (F : Nat) (σ : St) (x1 : Int32) : Option (St) := if ¬ (x1 < 0 ∨ 64 ≤ x1.toNatClampNeg) then (if ¬ (((5 : Int32) * x1) < 0 ∨ 320 ≤ ((5 : Int32) * x1).toNatClampNeg) then (if ¬ ((((5 : Int32) * x1) + (1 : Int32)) < 0 ∨ 320 ≤ (((5 : Int32) * x1) + (1 : Int32)).toNatClampNeg) then (if ¬ ((((5 : Int32) * x1) + (2 : Int32)) < 0 ∨ 320 ≤ (((5 : Int32) * x1) + (2 : Int32)).toNatClampNeg) then (if ¬ (x1 < 0 ∨ 64 ≤ x1.toNatClampNeg) then (if ((σ 2) x1.toNatClampNeg) = 0 then (if ¬ (x1 < 0 ∨ 64 ≤ x1.toNatClampNeg) then (Option.bind (f_M_toName σ ((σ 1) x1.toNatClampNeg) ((σ 4) ((5 : Int32) * x1).toNatClampNeg) ((1 : Int32) <<< (((σ 3) x1.toNatClampNeg) &&& 31))) (fun u103 => some u103)) else none) else if ((σ 2) x1.toNatClampNeg) = 1 then (Option.bind (f_M_name σ ((σ 1) x1.toNatClampNeg) ((σ 4) (((5 : Int32) * x1) + (1 : Int32)).toNatClampNeg)) (fun u116 => Option.bind (f_M_toName σ ((σ 1) x1.toNatClampNeg) ((σ 4) ((5 : Int32) * x1).toNatClampNeg) u116) (fun u119 => some u119))) else if ((σ 2) x1.toNatClampNeg) = 2 then (Option.bind (f_M_name σ ((σ 1) x1.toNatClampNeg) ((σ 4) (((5 : Int32) * x1) + (1 : Int32)).toNatClampNeg)) (fun u133 => Option.bind (f_M_fromField F σ u133 ((σ 4) (((5 : Int32) * x1) + (2 : Int32)).toNatClampNeg)) (fun u138 => Option.bind (f_M_toName σ ((σ 1) x1.toNatClampNeg) ((σ 4) ((5 : Int32) * x1).toNatClampNeg) u138) (fun u141 => some u141)))) else if ((σ 2) x1.toNatClampNeg) = 3 then (Option.bind (f_M_name σ ((σ 1) x1.toNatClampNeg) ((σ 4) ((5 : Int32) * x1).toNatClampNeg)) (fun u151 => Option.bind (f_M_name σ ((σ 1) x1.toNatClampNeg) ((σ 4) (((5 : Int32) * x1) + (2 : Int32)).toNatClampNeg)) (fun u160 => Option.bind (f_M_toField F σ u151 ((σ 4) (((5 : Int32) * x1) + (1 : Int32)).toNatClampNeg) u160) (fun u163 => some u163)))) else if ((σ 2) x1.toNatClampNeg) = 4 then (if ¬ (((σ 4) (((5 : Int32) * x1) + (1 : Int32)).toNatClampNeg) < 0 ∨ 4 ≤ ((σ 4) (((5 : Int32) * x1) + (1 : Int32)).toNatClampNeg).toNatClampNeg) then (Option.bind (f_M_toName σ ((σ 1) x1.toNatClampNeg) ((σ 4) ((5 : Int32) * x1).toNatClampNeg) ((σ 8) ((σ 4) (((5 : Int32) * x1) + (1 : Int32)).toNatClampNeg).toNatClampNeg)) (fun u179 => some u179)) else none) else if ((σ 2) x1.toNatClampNeg) = 5 then (Option.bind (f_M_name σ ((σ 1) x1.toNatClampNeg) ((σ 4) (((5 : Int32) * x1) + (1 : Int32)).toNatClampNeg)) (fun u191 => Option.bind (f_M_toPlace σ ((σ 4) ((5 : Int32) * x1).toNatClampNeg) u191) (fun u194 => some u194))) else if ((σ 2) x1.toNatClampNeg) = 6 then (Option.bind (f_M_doStep_L203 F x1 ((σ 1) x1.toNatClampNeg) ((σ 4) ((5 : Int32) * x1).toNatClampNeg) F (0 : Int32) σ) (fun u203 => if ¬ ((((5 : Int32) * x1) + (4 : Int32)) < 0 ∨ 320 ≤ (((5 : Int32) * x1) + (4 : Int32)).toNatClampNeg) then (if ((u203.2 4) (((5 : Int32) * x1) + (4 : Int32)).toNatClampNeg) = (-1 : Int32) then (some u203.2) else (if ¬ ((((5 : Int32) * x1) + (4 : Int32)) < 0 ∨ 320 ≤ (((5 : Int32) * x1) + (4 : Int32)).toNatClampNeg) then (if ¬ (((σ 4) ((5 : Int32) * x1).toNatClampNeg) < 0 ∨ 8 ≤ ((σ 4) ((5 : Int32) * x1).toNatClampNeg).toNatClampNeg) then (Option.bind (f_M_toName u203.2 ((σ 1) x1.toNatClampNeg) ((u203.2 4) (((5 : Int32) * x1) + (4 : Int32)).toNatClampNeg) ((u203.2 9) ((σ 4) ((5 : Int32) * x1).toNatClampNeg).toNatClampNeg)) (fun u282 => some u282)) else none) else none)) else none)) else if ((σ 2) x1.toNatClampNeg) = 7 then (Option.bind (f_M_name σ ((σ 1) x1.toNatClampNeg) ((σ 4) ((5 : Int32) * x1).toNatClampNeg)) (fun u293 => Option.bind (f_M_toResult σ ((σ 1) x1.toNatClampNeg) u293) (fun u296 => some u296))) else (some σ)) else none) else none) else none) else none) else none
set_option maxHeartbeats 4000000 in
set_option maxRecDepth 100000 in
theorem c_M_doStep (l : Launch) (D : va_G) (cI cZ : ClassId) (tL : Nat) (q : Nat → Nat) (tl : va_W) (F : Nat) (σ : St) (x1 : Int32) (out0 : St) (h : f_M_doStep F σ x1 = some out0) : gCv l y_M_doStep (.code y_M_doStep b_M_doStep 8 none :: TB) { frames := 2, cells := 0, slots := 0, locals := 46 } D [(cI, .int), (cZ, .boolean)] tL [.ref (q 0), .int x1] (wM cI cZ q σ ++ tl) (wM cI cZ q out0 ++ tl) := by
  refine gCv_of (cc := b_M_doStep) (maxL := 8)  (by decide) rfl (Nat.le_of_ble_eq_true rfl) ?_
  intro p e s m below meth c A ls hf hr hlk hA hK hD0 hE hP hl
  obtain ⟨hx, hb, hml, hown, hts⟩ := id hf
  have hts : ∀ w ∈ TB, w.before _ s = true := fun w h => hts w (List.mem_cons_of_mem _ h)
  have hown : s.vm.findClass R_M = some m.cls := hown
  have hl : lv_has ls 8 [(0, .ref (q 0)), (1, .int x1)] := hl
  have hS : va_S A s.heap s.heap [] := va_S.rf
  have hD : ∀ σ' : St, va_D A (wM cI cZ q σ' ++ tl) := fun σ' => va_Dsame hD0 rfl
  have L203 : ∀ (y1 : Int32) (y2 : Int32) (y3 : Int32) (fu : Nat) (y6 : Int32) (σ : St) (H : Heap) (locs : List Loc) (ls : Array Slot) (out : Int32 × St), f_M_doStep_L203 F y1 y2 y3 fu y6 σ = some out → va_P D vwCl (wM cI cZ q σ ++ tl) H → va_S A s.heap H locs → lv_has ls 8 [(0, .ref (q 0)), (1, .int y1), (2, .int y2), (3, .int y3), (6, .int y6)] → (∀ (H : Heap) (locs : List Loc) (ls : Array Slot), va_P D vwCl (wM cI cZ q out.2 ++ tl) H → va_S A s.heap H locs → lv_has ls 8 [(0, .ref (q 0)), (1, .int y1), (2, .int y2), (3, .int y3), (6, .int out.1)] → W p l e { frames := 2, cells := 0, slots := 0, locals := 46 } s m ([.ref (q 0), .int x1] : List Value).toArray below meth c H locs 0 0 (gQv below D (wM cI cZ q out0 ++ tl) A (([.ref (q 0), .int x1] : List Value).toArray) s) (F0 m 250 ls [])) → W p l e { frames := 2, cells := 0, slots := 0, locals := 46 } s m ([.ref (q 0), .int x1] : List Value).toArray below meth c H locs 0 0 (gQv below D (wM cI cZ q out0 ++ tl) A (([.ref (q 0), .int x1] : List Value).toArray) s) (F0 m 203 ls []) := by
    intro y1 y2 y3 fu
    induction fu with
    | zero => intro y6 σ H locs ls out h; exact absurd (show (none : Option (Int32 × St)) = some out from h) (fun z => by cases z)
    | succ fu ih =>
      intro y6 σ H locs ls out h hP hS hl K
      have h : f_M_doStep_B203 F y1 y2 y3 (f_M_doStep_L203 F y1 y2 y3 fu) y6 σ = some out := h
      unfold f_M_doStep_B203 at h
      refine lv_iload hx hb d_M_doStep_203 (lv_at hl 4 rfl) ?_
      refine lv_iconst (v := 3) hx hb d_M_doStep_205 (by decide) ?_
      refine lv_icmp_ge (tgt := 250) hx hb d_M_doStep_206 (by decide) (fun c => ?_) (fun c => ?_)
      · have h := ifp c h
        cases h
        exact K _ _ ls hP hS (lv_sub hl [0, 1, 2, 3, 4] rfl)
      have h := ifn c h
      refine lv_aload_n hx hb d_M_doStep_209 rfl (lv_at hl 0 rfl) ?_
      refine va_get (D := D) (ci := 5) (v := .ref (q 4)) (C := R_M) (T := T_M) (N := 17) hx hb hts l_M hown hK hP 0 rfl rfl 6 (by decide) (hts _ w_445) (fun _ h9 => h9) rfl d_M_doStep_210 ?_
      refine lv_iconst (v := 5) hx hb d_M_doStep_213 (by decide) ?_
      refine lv_iload_n hx hb d_M_doStep_214 rfl (lv_at hl 1 rfl) ?_
      refine lv_imul hx hb d_M_doStep_215 ?_
      refine lv_iconst (v := 1) hx hb d_M_doStep_216 (by decide) ?_
      refine lv_iadd hx hb d_M_doStep_217 ?_
      refine lv_iload hx hb d_M_doStep_218 (lv_at hl 4 rfl) ?_
      refine lv_iadd hx hb d_M_doStep_220 ?_
      obtain ⟨c, h⟩ := ifs h
      refine va_iald hx hb hK hP 4 0 rfl rfl c d_M_doStep_221 ?_
      refine lv_istore (lv' := [(7, .int ((σ 4) ((((5 : Int32) * y1) + (1 : Int32)) + y6).toNatClampNeg)), (0, .ref (q 0)), (1, .int y1), (2, .int y2), (3, .int y3), (6, .int y6)]) hx hb d_M_doStep_222 hl (by decide) rfl (fun ls hl => ?_)
      refine lv_iload hx hb d_M_doStep_224 (lv_at hl 0 rfl) ?_
      refine lv_iconst (v := -1) hx hb d_M_doStep_226 (by decide) ?_
      refine lv_icmp_eq (tgt := 244) hx hb d_M_doStep_227 (by decide) (fun c => ?_) (fun c => ?_)
      · have h := ifp c h
        refine lv_iinc (v := (y6 + (1 : Int32))) (lv' := [(6, .int (y6 + (1 : Int32))), (7, .int ((σ 4) ((((5 : Int32) * y1) + (1 : Int32)) + y6).toNatClampNeg)), (0, .ref (q 0)), (1, .int y1), (2, .int y2), (3, .int y3)]) hx hb d_M_doStep_244 hl (k := 5) rfl rfl (by decide) rfl (fun ls hl => ?_)
        refine lv_goto (tgt := 203) hx hb d_M_doStep_247 (by decide) ?_
        exact ih (y6 + (1 : Int32)) σ _ _ ls out h hP hS (lv_sub hl [2, 3, 4, 5, 0] rfl) K
      have h := ifn c h
      refine lv_aload_n hx hb d_M_doStep_230 rfl (lv_at hl 1 rfl) ?_
      refine lv_iload_n hx hb d_M_doStep_231 rfl (lv_at hl 4 rfl) ?_
      refine lv_iload hx hb d_M_doStep_232 (lv_at hl 5 rfl) ?_
      refine lv_aload_n hx hb d_M_doStep_234 rfl (lv_at hl 1 rfl) ?_
      refine lv_iload_n hx hb d_M_doStep_235 rfl (lv_at hl 3 rfl) ?_
      refine lv_iload hx hb d_M_doStep_236 (lv_at hl 0 rfl) ?_
      obtain ⟨u238, hu238, h⟩ := bnd h
      refine gcall_i (va_runV (As := [.int y2, .int ((σ 4) ((((5 : Int32) * y1) + (1 : Int32)) + y6).toNatClampNeg)]) (rest := [.int y6, .int y3, .ref (q 0)]) ⟨hx, hb, hml, hown, hts⟩ (c_M_name l D cI cZ tL q tl σ y2 ((σ 4) ((((5 : Int32) * y1) + (1 : Int32)) + y6).toNatClampNeg) u238 hu238 H.size) (cwV 2 hts (gV w_537 w_538 w_723 w_6 w_539) rfl rfl rfl (by decide +kernel) ⟨Nat.le_of_ble_eq_true rfl, Nat.le_of_ble_eq_true rfl⟩) (gpV (k := 0) (ci := 5) hA hK (hD σ) hE hP hS rfl rfl) rfl rfl hl.1 rfl (lv_room (Nat.le_of_ble_eq_true rfl)) d_M_doStep_238 ⟨Nat.le_of_ble_eq_true rfl, Nat.le_of_ble_eq_true rfl⟩) hA (hD σ) hS (fun H locs hP hS => ?_)
      obtain ⟨u241, hu241, h⟩ := bnd h
      refine gcall_v (va_runV (As := [.int y3, .int y6, .int u238]) (rest := []) ⟨hx, hb, hml, hown, hts⟩ (c_M_toName l D cI cZ tL q tl σ y3 y6 u238 u241 hu241 H.size) (cwV 3 hts (gV w_534 w_535 w_733 w_6 w_536) rfl rfl rfl (by decide +kernel) ⟨Nat.le_of_ble_eq_true rfl, Nat.le_of_ble_eq_true rfl⟩) (gpV (k := 0) (ci := 5) hA hK (hD σ) hE hP hS rfl rfl) rfl rfl hl.1 rfl (lv_room (Nat.le_of_ble_eq_true rfl)) d_M_doStep_241 ⟨Nat.le_of_ble_eq_true rfl, Nat.le_of_ble_eq_true rfl⟩) hA (hD σ) hS (fun H locs hP hS => ?_)
      refine lv_iinc (v := (y6 + (1 : Int32))) (lv' := [(6, .int (y6 + (1 : Int32))), (7, .int ((σ 4) ((((5 : Int32) * y1) + (1 : Int32)) + y6).toNatClampNeg)), (0, .ref (q 0)), (1, .int y1), (2, .int y2), (3, .int y3)]) hx hb d_M_doStep_244 hl (k := 5) rfl rfl (by decide) rfl (fun ls hl => ?_)
      refine lv_goto (tgt := 203) hx hb d_M_doStep_247 (by decide) ?_
      exact ih (y6 + (1 : Int32)) u241 _ _ ls out h hP hS (lv_sub hl [2, 3, 4, 5, 0] rfl) K
  unfold f_M_doStep at h
  refine lv_aload_n hx hb d_M_doStep_0 rfl (lv_at hl 0 rfl) ?_
  refine va_get (D := D) (ci := 5) (v := .ref (q 1)) (C := R_M) (T := T_M) (N := 17) hx hb hts l_M hown hK hP 0 rfl rfl 3 (by decide) (hts _ w_442) (fun _ h9 => h9) rfl d_M_doStep_1 ?_
  refine lv_iload_n hx hb d_M_doStep_4 rfl (lv_at hl 1 rfl) ?_
  obtain ⟨c, h⟩ := ifs h
  refine va_iald hx hb hK hP 1 0 rfl rfl c d_M_doStep_5 ?_
  refine lv_istore_n (lv' := [(2, .int ((σ 1) x1.toNatClampNeg)), (0, .ref (q 0)), (1, .int x1)]) hx hb d_M_doStep_6 rfl hl (by decide) rfl (fun ls hl => ?_)
  refine lv_aload_n hx hb d_M_doStep_7 rfl (lv_at hl 1 rfl) ?_
  refine va_get (D := D) (ci := 5) (v := .ref (q 4)) (C := R_M) (T := T_M) (N := 17) hx hb hts l_M hown hK hP 0 rfl rfl 6 (by decide) (hts _ w_445) (fun _ h9 => h9) rfl d_M_doStep_8 ?_
  refine lv_iconst (v := 5) hx hb d_M_doStep_11 (by decide) ?_
  refine lv_iload_n hx hb d_M_doStep_12 rfl (lv_at hl 2 rfl) ?_
  refine lv_imul hx hb d_M_doStep_13 ?_
  obtain ⟨c, h⟩ := ifs h
  refine va_iald hx hb hK hP 4 0 rfl rfl c d_M_doStep_14 ?_
  refine lv_istore_n (lv' := [(3, .int ((σ 4) ((5 : Int32) * x1).toNatClampNeg)), (2, .int ((σ 1) x1.toNatClampNeg)), (0, .ref (q 0)), (1, .int x1)]) hx hb d_M_doStep_15 rfl hl (by decide) rfl (fun ls hl => ?_)
  refine lv_aload_n hx hb d_M_doStep_16 rfl (lv_at hl 2 rfl) ?_
  refine va_get (D := D) (ci := 5) (v := .ref (q 4)) (C := R_M) (T := T_M) (N := 17) hx hb hts l_M hown hK hP 0 rfl rfl 6 (by decide) (hts _ w_445) (fun _ h9 => h9) rfl d_M_doStep_17 ?_
  refine lv_iconst (v := 5) hx hb d_M_doStep_20 (by decide) ?_
  refine lv_iload_n hx hb d_M_doStep_21 rfl (lv_at hl 3 rfl) ?_
  refine lv_imul hx hb d_M_doStep_22 ?_
  refine lv_iconst (v := 1) hx hb d_M_doStep_23 (by decide) ?_
  refine lv_iadd hx hb d_M_doStep_24 ?_
  obtain ⟨c, h⟩ := ifs h
  refine va_iald hx hb hK hP 4 0 rfl rfl c d_M_doStep_25 ?_
  refine lv_istore (lv' := [(4, .int ((σ 4) (((5 : Int32) * x1) + (1 : Int32)).toNatClampNeg)), (3, .int ((σ 4) ((5 : Int32) * x1).toNatClampNeg)), (2, .int ((σ 1) x1.toNatClampNeg)), (0, .ref (q 0)), (1, .int x1)]) hx hb d_M_doStep_26 hl (by decide) rfl (fun ls hl => ?_)
  refine lv_aload_n hx hb d_M_doStep_28 rfl (lv_at hl 3 rfl) ?_
  refine va_get (D := D) (ci := 5) (v := .ref (q 4)) (C := R_M) (T := T_M) (N := 17) hx hb hts l_M hown hK hP 0 rfl rfl 6 (by decide) (hts _ w_445) (fun _ h9 => h9) rfl d_M_doStep_29 ?_
  refine lv_iconst (v := 5) hx hb d_M_doStep_32 (by decide) ?_
  refine lv_iload_n hx hb d_M_doStep_33 rfl (lv_at hl 4 rfl) ?_
  refine lv_imul hx hb d_M_doStep_34 ?_
  refine lv_iconst (v := 2) hx hb d_M_doStep_35 (by decide) ?_
  refine lv_iadd hx hb d_M_doStep_36 ?_
  obtain ⟨c, h⟩ := ifs h
  refine va_iald hx hb hK hP 4 0 rfl rfl c d_M_doStep_37 ?_
  refine lv_istore (lv' := [(5, .int ((σ 4) (((5 : Int32) * x1) + (2 : Int32)).toNatClampNeg)), (4, .int ((σ 4) (((5 : Int32) * x1) + (1 : Int32)).toNatClampNeg)), (3, .int ((σ 4) ((5 : Int32) * x1).toNatClampNeg)), (2, .int ((σ 1) x1.toNatClampNeg)), (0, .ref (q 0)), (1, .int x1)]) hx hb d_M_doStep_38 hl (by decide) rfl (fun ls hl => ?_)
  refine lv_aload_n hx hb d_M_doStep_40 rfl (lv_at hl 4 rfl) ?_
  refine va_get (D := D) (ci := 5) (v := .ref (q 2)) (C := R_M) (T := T_M) (N := 17) hx hb hts l_M hown hK hP 0 rfl rfl 4 (by decide) (hts _ w_443) (fun _ h9 => h9) rfl d_M_doStep_41 ?_
  refine lv_iload_n hx hb d_M_doStep_44 rfl (lv_at hl 5 rfl) ?_
  obtain ⟨c, h⟩ := ifs h
  refine va_iald hx hb hK hP 2 0 rfl rfl c d_M_doStep_45 ?_
  by_cases c0 : ((σ 2) x1.toNatClampNeg) = 0
  · refine lv_tableIn (tgt := 92) hx hb d_M_doStep_46 (by rw [c0]; decide) (by rw [c0]; decide) (by rw [c0]; rfl) (by decide) ?_
    have h := ifp c0 h
    refine lv_aload_n hx hb d_M_doStep_92 rfl (lv_at hl 4 rfl) ?_
    refine lv_iload_n hx hb d_M_doStep_93 rfl (lv_at hl 3 rfl) ?_
    refine lv_iload_n hx hb d_M_doStep_94 rfl (lv_at hl 2 rfl) ?_
    refine lv_iconst (v := 1) hx hb d_M_doStep_95 (by decide) ?_
    refine lv_aload_n hx hb d_M_doStep_96 rfl (lv_at hl 4 rfl) ?_
    refine va_get (D := D) (ci := 5) (v := .ref (q 3)) (C := R_M) (T := T_M) (N := 17) hx hb hts l_M hown hK hP 0 rfl rfl 5 (by decide) (hts _ w_444) (fun _ h9 => h9) rfl d_M_doStep_97 ?_
    refine lv_iload_n hx hb d_M_doStep_100 rfl (lv_at hl 5 rfl) ?_
    obtain ⟨c, h⟩ := ifs h
    refine va_iald hx hb hK hP 3 0 rfl rfl c d_M_doStep_101 ?_
    refine lv_ishl hx hb d_M_doStep_102 ?_
    obtain ⟨u103, hu103, h⟩ := bnd h
    refine gcall_v (va_runV (As := [.int ((σ 1) x1.toNatClampNeg), .int ((σ 4) ((5 : Int32) * x1).toNatClampNeg), .int ((1 : Int32) <<< (((σ 3) x1.toNatClampNeg) &&& 31))]) (rest := []) ⟨hx, hb, hml, hown, hts⟩ (c_M_toName l D cI cZ tL q tl σ ((σ 1) x1.toNatClampNeg) ((σ 4) ((5 : Int32) * x1).toNatClampNeg) ((1 : Int32) <<< (((σ 3) x1.toNatClampNeg) &&& 31)) u103 hu103 s.heap.size) (cwV 3 hts (gV w_534 w_535 w_733 w_6 w_536) rfl rfl rfl (by decide +kernel) ⟨Nat.le_of_ble_eq_true rfl, Nat.le_of_ble_eq_true rfl⟩) (gpV (k := 0) (ci := 5) hA hK (hD σ) hE hP hS rfl rfl) rfl rfl hl.1 rfl (lv_room (Nat.le_of_ble_eq_true rfl)) d_M_doStep_103 ⟨Nat.le_of_ble_eq_true rfl, Nat.le_of_ble_eq_true rfl⟩) hA (hD σ) hS (fun H locs hP hS => ?_)
    refine lv_goto (tgt := 302) hx hb d_M_doStep_106 (by decide) ?_
    cases h
    exact gret_v hx hb hr hlk hP hS d_M_doStep_302
  have h := ifn c0 h
  by_cases c1 : ((σ 2) x1.toNatClampNeg) = 1
  · refine lv_tableIn (tgt := 109) hx hb d_M_doStep_46 (by rw [c1]; decide) (by rw [c1]; decide) (by rw [c1]; rfl) (by decide) ?_
    have h := ifp c1 h
    refine lv_aload_n hx hb d_M_doStep_109 rfl (lv_at hl 4 rfl) ?_
    refine lv_iload_n hx hb d_M_doStep_110 rfl (lv_at hl 3 rfl) ?_
    refine lv_iload_n hx hb d_M_doStep_111 rfl (lv_at hl 2 rfl) ?_
    refine lv_aload_n hx hb d_M_doStep_112 rfl (lv_at hl 4 rfl) ?_
    refine lv_iload_n hx hb d_M_doStep_113 rfl (lv_at hl 3 rfl) ?_
    refine lv_iload hx hb d_M_doStep_114 (lv_at hl 1 rfl) ?_
    obtain ⟨u116, hu116, h⟩ := bnd h
    refine gcall_i (va_runV (As := [.int ((σ 1) x1.toNatClampNeg), .int ((σ 4) (((5 : Int32) * x1) + (1 : Int32)).toNatClampNeg)]) (rest := [.int ((σ 4) ((5 : Int32) * x1).toNatClampNeg), .int ((σ 1) x1.toNatClampNeg), .ref (q 0)]) ⟨hx, hb, hml, hown, hts⟩ (c_M_name l D cI cZ tL q tl σ ((σ 1) x1.toNatClampNeg) ((σ 4) (((5 : Int32) * x1) + (1 : Int32)).toNatClampNeg) u116 hu116 s.heap.size) (cwV 2 hts (gV w_537 w_538 w_723 w_6 w_539) rfl rfl rfl (by decide +kernel) ⟨Nat.le_of_ble_eq_true rfl, Nat.le_of_ble_eq_true rfl⟩) (gpV (k := 0) (ci := 5) hA hK (hD σ) hE hP hS rfl rfl) rfl rfl hl.1 rfl (lv_room (Nat.le_of_ble_eq_true rfl)) d_M_doStep_116 ⟨Nat.le_of_ble_eq_true rfl, Nat.le_of_ble_eq_true rfl⟩) hA (hD σ) hS (fun H locs hP hS => ?_)
    obtain ⟨u119, hu119, h⟩ := bnd h
    refine gcall_v (va_runV (As := [.int ((σ 1) x1.toNatClampNeg), .int ((σ 4) ((5 : Int32) * x1).toNatClampNeg), .int u116]) (rest := []) ⟨hx, hb, hml, hown, hts⟩ (c_M_toName l D cI cZ tL q tl σ ((σ 1) x1.toNatClampNeg) ((σ 4) ((5 : Int32) * x1).toNatClampNeg) u116 u119 hu119 H.size) (cwV 3 hts (gV w_534 w_535 w_733 w_6 w_536) rfl rfl rfl (by decide +kernel) ⟨Nat.le_of_ble_eq_true rfl, Nat.le_of_ble_eq_true rfl⟩) (gpV (k := 0) (ci := 5) hA hK (hD σ) hE hP hS rfl rfl) rfl rfl hl.1 rfl (lv_room (Nat.le_of_ble_eq_true rfl)) d_M_doStep_119 ⟨Nat.le_of_ble_eq_true rfl, Nat.le_of_ble_eq_true rfl⟩) hA (hD σ) hS (fun H locs hP hS => ?_)
    refine lv_goto (tgt := 302) hx hb d_M_doStep_122 (by decide) ?_
    cases h
    exact gret_v hx hb hr hlk hP hS d_M_doStep_302
  have h := ifn c1 h
  by_cases c2 : ((σ 2) x1.toNatClampNeg) = 2
  · refine lv_tableIn (tgt := 125) hx hb d_M_doStep_46 (by rw [c2]; decide) (by rw [c2]; decide) (by rw [c2]; rfl) (by decide) ?_
    have h := ifp c2 h
    refine lv_aload_n hx hb d_M_doStep_125 rfl (lv_at hl 4 rfl) ?_
    refine lv_iload_n hx hb d_M_doStep_126 rfl (lv_at hl 3 rfl) ?_
    refine lv_iload_n hx hb d_M_doStep_127 rfl (lv_at hl 2 rfl) ?_
    refine lv_aload_n hx hb d_M_doStep_128 rfl (lv_at hl 4 rfl) ?_
    refine lv_aload_n hx hb d_M_doStep_129 rfl (lv_at hl 4 rfl) ?_
    refine lv_iload_n hx hb d_M_doStep_130 rfl (lv_at hl 3 rfl) ?_
    refine lv_iload hx hb d_M_doStep_131 (lv_at hl 1 rfl) ?_
    obtain ⟨u133, hu133, h⟩ := bnd h
    refine gcall_i (va_runV (As := [.int ((σ 1) x1.toNatClampNeg), .int ((σ 4) (((5 : Int32) * x1) + (1 : Int32)).toNatClampNeg)]) (rest := [.ref (q 0), .int ((σ 4) ((5 : Int32) * x1).toNatClampNeg), .int ((σ 1) x1.toNatClampNeg), .ref (q 0)]) ⟨hx, hb, hml, hown, hts⟩ (c_M_name l D cI cZ tL q tl σ ((σ 1) x1.toNatClampNeg) ((σ 4) (((5 : Int32) * x1) + (1 : Int32)).toNatClampNeg) u133 hu133 s.heap.size) (cwV 2 hts (gV w_537 w_538 w_723 w_6 w_539) rfl rfl rfl (by decide +kernel) ⟨Nat.le_of_ble_eq_true rfl, Nat.le_of_ble_eq_true rfl⟩) (gpV (k := 0) (ci := 5) hA hK (hD σ) hE hP hS rfl rfl) rfl rfl hl.1 rfl (lv_room (Nat.le_of_ble_eq_true rfl)) d_M_doStep_133 ⟨Nat.le_of_ble_eq_true rfl, Nat.le_of_ble_eq_true rfl⟩) hA (hD σ) hS (fun H locs hP hS => ?_)
    refine lv_iload hx hb d_M_doStep_136 (lv_at hl 0 rfl) ?_
    obtain ⟨u138, hu138, h⟩ := bnd h
    refine gcall_i (va_runV (As := [.int u133, .int ((σ 4) (((5 : Int32) * x1) + (2 : Int32)).toNatClampNeg)]) (rest := [.int ((σ 4) ((5 : Int32) * x1).toNatClampNeg), .int ((σ 1) x1.toNatClampNeg), .ref (q 0)]) ⟨hx, hb, hml, hown, hts⟩ (c_M_fromField l D cI cZ tL q tl F σ u133 ((σ 4) (((5 : Int32) * x1) + (2 : Int32)).toNatClampNeg) u138 hu138 H.size) (cwV 2 hts (gV w_540 w_541 w_703 w_6 w_542) rfl rfl rfl (by decide +kernel) ⟨Nat.le_of_ble_eq_true rfl, Nat.le_of_ble_eq_true rfl⟩) (gpV (k := 0) (ci := 5) hA hK (hD σ) hE hP hS rfl rfl) rfl rfl hl.1 rfl (lv_room (Nat.le_of_ble_eq_true rfl)) d_M_doStep_138 ⟨Nat.le_of_ble_eq_true rfl, Nat.le_of_ble_eq_true rfl⟩) hA (hD σ) hS (fun H locs hP hS => ?_)
    obtain ⟨u141, hu141, h⟩ := bnd h
    refine gcall_v (va_runV (As := [.int ((σ 1) x1.toNatClampNeg), .int ((σ 4) ((5 : Int32) * x1).toNatClampNeg), .int u138]) (rest := []) ⟨hx, hb, hml, hown, hts⟩ (c_M_toName l D cI cZ tL q tl σ ((σ 1) x1.toNatClampNeg) ((σ 4) ((5 : Int32) * x1).toNatClampNeg) u138 u141 hu141 H.size) (cwV 3 hts (gV w_534 w_535 w_733 w_6 w_536) rfl rfl rfl (by decide +kernel) ⟨Nat.le_of_ble_eq_true rfl, Nat.le_of_ble_eq_true rfl⟩) (gpV (k := 0) (ci := 5) hA hK (hD σ) hE hP hS rfl rfl) rfl rfl hl.1 rfl (lv_room (Nat.le_of_ble_eq_true rfl)) d_M_doStep_141 ⟨Nat.le_of_ble_eq_true rfl, Nat.le_of_ble_eq_true rfl⟩) hA (hD σ) hS (fun H locs hP hS => ?_)
    refine lv_goto (tgt := 302) hx hb d_M_doStep_144 (by decide) ?_
    cases h
    exact gret_v hx hb hr hlk hP hS d_M_doStep_302
  have h := ifn c2 h
  by_cases c3 : ((σ 2) x1.toNatClampNeg) = 3
  · refine lv_tableIn (tgt := 147) hx hb d_M_doStep_46 (by rw [c3]; decide) (by rw [c3]; decide) (by rw [c3]; rfl) (by decide) ?_
    have h := ifp c3 h
    refine lv_aload_n hx hb d_M_doStep_147 rfl (lv_at hl 4 rfl) ?_
    refine lv_aload_n hx hb d_M_doStep_148 rfl (lv_at hl 4 rfl) ?_
    refine lv_iload_n hx hb d_M_doStep_149 rfl (lv_at hl 3 rfl) ?_
    refine lv_iload_n hx hb d_M_doStep_150 rfl (lv_at hl 2 rfl) ?_
    obtain ⟨u151, hu151, h⟩ := bnd h
    refine gcall_i (va_runV (As := [.int ((σ 1) x1.toNatClampNeg), .int ((σ 4) ((5 : Int32) * x1).toNatClampNeg)]) (rest := [.ref (q 0)]) ⟨hx, hb, hml, hown, hts⟩ (c_M_name l D cI cZ tL q tl σ ((σ 1) x1.toNatClampNeg) ((σ 4) ((5 : Int32) * x1).toNatClampNeg) u151 hu151 s.heap.size) (cwV 2 hts (gV w_537 w_538 w_723 w_6 w_539) rfl rfl rfl (by decide +kernel) ⟨Nat.le_of_ble_eq_true rfl, Nat.le_of_ble_eq_true rfl⟩) (gpV (k := 0) (ci := 5) hA hK (hD σ) hE hP hS rfl rfl) rfl rfl hl.1 rfl (lv_room (Nat.le_of_ble_eq_true rfl)) d_M_doStep_151 ⟨Nat.le_of_ble_eq_true rfl, Nat.le_of_ble_eq_true rfl⟩) hA (hD σ) hS (fun H locs hP hS => ?_)
    refine lv_iload hx hb d_M_doStep_154 (lv_at hl 1 rfl) ?_
    refine lv_aload_n hx hb d_M_doStep_156 rfl (lv_at hl 4 rfl) ?_
    refine lv_iload_n hx hb d_M_doStep_157 rfl (lv_at hl 3 rfl) ?_
    refine lv_iload hx hb d_M_doStep_158 (lv_at hl 0 rfl) ?_
    obtain ⟨u160, hu160, h⟩ := bnd h
    refine gcall_i (va_runV (As := [.int ((σ 1) x1.toNatClampNeg), .int ((σ 4) (((5 : Int32) * x1) + (2 : Int32)).toNatClampNeg)]) (rest := [.int ((σ 4) (((5 : Int32) * x1) + (1 : Int32)).toNatClampNeg), .int u151, .ref (q 0)]) ⟨hx, hb, hml, hown, hts⟩ (c_M_name l D cI cZ tL q tl σ ((σ 1) x1.toNatClampNeg) ((σ 4) (((5 : Int32) * x1) + (2 : Int32)).toNatClampNeg) u160 hu160 H.size) (cwV 2 hts (gV w_537 w_538 w_723 w_6 w_539) rfl rfl rfl (by decide +kernel) ⟨Nat.le_of_ble_eq_true rfl, Nat.le_of_ble_eq_true rfl⟩) (gpV (k := 0) (ci := 5) hA hK (hD σ) hE hP hS rfl rfl) rfl rfl hl.1 rfl (lv_room (Nat.le_of_ble_eq_true rfl)) d_M_doStep_160 ⟨Nat.le_of_ble_eq_true rfl, Nat.le_of_ble_eq_true rfl⟩) hA (hD σ) hS (fun H locs hP hS => ?_)
    obtain ⟨u163, hu163, h⟩ := bnd h
    refine gcall_v (va_runV (As := [.int u151, .int ((σ 4) (((5 : Int32) * x1) + (1 : Int32)).toNatClampNeg), .int u160]) (rest := []) ⟨hx, hb, hml, hown, hts⟩ (c_M_toField l D cI cZ tL q tl F σ u151 ((σ 4) (((5 : Int32) * x1) + (1 : Int32)).toNatClampNeg) u160 u163 hu163 H.size) (cwV 3 hts (gV w_543 w_544 w_732 w_6 w_545) rfl rfl rfl (by decide +kernel) ⟨Nat.le_of_ble_eq_true rfl, Nat.le_of_ble_eq_true rfl⟩) (gpV (k := 0) (ci := 5) hA hK (hD σ) hE hP hS rfl rfl) rfl rfl hl.1 rfl (lv_room (Nat.le_of_ble_eq_true rfl)) d_M_doStep_163 ⟨Nat.le_of_ble_eq_true rfl, Nat.le_of_ble_eq_true rfl⟩) hA (hD σ) hS (fun H locs hP hS => ?_)
    refine lv_goto (tgt := 302) hx hb d_M_doStep_166 (by decide) ?_
    cases h
    exact gret_v hx hb hr hlk hP hS d_M_doStep_302
  have h := ifn c3 h
  by_cases c4 : ((σ 2) x1.toNatClampNeg) = 4
  · refine lv_tableIn (tgt := 169) hx hb d_M_doStep_46 (by rw [c4]; decide) (by rw [c4]; decide) (by rw [c4]; rfl) (by decide) ?_
    have h := ifp c4 h
    refine lv_aload_n hx hb d_M_doStep_169 rfl (lv_at hl 4 rfl) ?_
    refine lv_iload_n hx hb d_M_doStep_170 rfl (lv_at hl 3 rfl) ?_
    refine lv_iload_n hx hb d_M_doStep_171 rfl (lv_at hl 2 rfl) ?_
    refine lv_aload_n hx hb d_M_doStep_172 rfl (lv_at hl 4 rfl) ?_
    refine va_get (D := D) (ci := 5) (v := .ref (q 8)) (C := R_M) (T := T_M) (N := 17) hx hb hts l_M hown hK hP 0 rfl rfl 10 (by decide) (hts _ w_449) (fun _ h9 => h9) rfl d_M_doStep_173 ?_
    refine lv_iload hx hb d_M_doStep_176 (lv_at hl 1 rfl) ?_
    obtain ⟨c, h⟩ := ifs h
    refine va_iald hx hb hK hP 8 0 rfl rfl c d_M_doStep_178 ?_
    obtain ⟨u179, hu179, h⟩ := bnd h
    refine gcall_v (va_runV (As := [.int ((σ 1) x1.toNatClampNeg), .int ((σ 4) ((5 : Int32) * x1).toNatClampNeg), .int ((σ 8) ((σ 4) (((5 : Int32) * x1) + (1 : Int32)).toNatClampNeg).toNatClampNeg)]) (rest := []) ⟨hx, hb, hml, hown, hts⟩ (c_M_toName l D cI cZ tL q tl σ ((σ 1) x1.toNatClampNeg) ((σ 4) ((5 : Int32) * x1).toNatClampNeg) ((σ 8) ((σ 4) (((5 : Int32) * x1) + (1 : Int32)).toNatClampNeg).toNatClampNeg) u179 hu179 s.heap.size) (cwV 3 hts (gV w_534 w_535 w_733 w_6 w_536) rfl rfl rfl (by decide +kernel) ⟨Nat.le_of_ble_eq_true rfl, Nat.le_of_ble_eq_true rfl⟩) (gpV (k := 0) (ci := 5) hA hK (hD σ) hE hP hS rfl rfl) rfl rfl hl.1 rfl (lv_room (Nat.le_of_ble_eq_true rfl)) d_M_doStep_179 ⟨Nat.le_of_ble_eq_true rfl, Nat.le_of_ble_eq_true rfl⟩) hA (hD σ) hS (fun H locs hP hS => ?_)
    refine lv_goto (tgt := 302) hx hb d_M_doStep_182 (by decide) ?_
    cases h
    exact gret_v hx hb hr hlk hP hS d_M_doStep_302
  have h := ifn c4 h
  by_cases c5 : ((σ 2) x1.toNatClampNeg) = 5
  · refine lv_tableIn (tgt := 185) hx hb d_M_doStep_46 (by rw [c5]; decide) (by rw [c5]; decide) (by rw [c5]; rfl) (by decide) ?_
    have h := ifp c5 h
    refine lv_aload_n hx hb d_M_doStep_185 rfl (lv_at hl 4 rfl) ?_
    refine lv_iload_n hx hb d_M_doStep_186 rfl (lv_at hl 2 rfl) ?_
    refine lv_aload_n hx hb d_M_doStep_187 rfl (lv_at hl 4 rfl) ?_
    refine lv_iload_n hx hb d_M_doStep_188 rfl (lv_at hl 3 rfl) ?_
    refine lv_iload hx hb d_M_doStep_189 (lv_at hl 1 rfl) ?_
    obtain ⟨u191, hu191, h⟩ := bnd h
    refine gcall_i (va_runV (As := [.int ((σ 1) x1.toNatClampNeg), .int ((σ 4) (((5 : Int32) * x1) + (1 : Int32)).toNatClampNeg)]) (rest := [.int ((σ 4) ((5 : Int32) * x1).toNatClampNeg), .ref (q 0)]) ⟨hx, hb, hml, hown, hts⟩ (c_M_name l D cI cZ tL q tl σ ((σ 1) x1.toNatClampNeg) ((σ 4) (((5 : Int32) * x1) + (1 : Int32)).toNatClampNeg) u191 hu191 s.heap.size) (cwV 2 hts (gV w_537 w_538 w_723 w_6 w_539) rfl rfl rfl (by decide +kernel) ⟨Nat.le_of_ble_eq_true rfl, Nat.le_of_ble_eq_true rfl⟩) (gpV (k := 0) (ci := 5) hA hK (hD σ) hE hP hS rfl rfl) rfl rfl hl.1 rfl (lv_room (Nat.le_of_ble_eq_true rfl)) d_M_doStep_191 ⟨Nat.le_of_ble_eq_true rfl, Nat.le_of_ble_eq_true rfl⟩) hA (hD σ) hS (fun H locs hP hS => ?_)
    obtain ⟨u194, hu194, h⟩ := bnd h
    refine gcall_v (va_runV (As := [.int ((σ 4) ((5 : Int32) * x1).toNatClampNeg), .int u191]) (rest := []) ⟨hx, hb, hml, hown, hts⟩ (c_M_toPlace l D cI cZ tL q tl σ ((σ 4) ((5 : Int32) * x1).toNatClampNeg) u191 u194 hu194 H.size) (cwV 2 hts (gV w_546 w_547 w_734 w_6 w_548) rfl rfl rfl (by decide +kernel) ⟨Nat.le_of_ble_eq_true rfl, Nat.le_of_ble_eq_true rfl⟩) (gpV (k := 0) (ci := 5) hA hK (hD σ) hE hP hS rfl rfl) rfl rfl hl.1 rfl (lv_room (Nat.le_of_ble_eq_true rfl)) d_M_doStep_194 ⟨Nat.le_of_ble_eq_true rfl, Nat.le_of_ble_eq_true rfl⟩) hA (hD σ) hS (fun H locs hP hS => ?_)
    refine lv_goto (tgt := 302) hx hb d_M_doStep_197 (by decide) ?_
    cases h
    exact gret_v hx hb hr hlk hP hS d_M_doStep_302
  have h := ifn c5 h
  by_cases c6 : ((σ 2) x1.toNatClampNeg) = 6
  · refine lv_tableIn (tgt := 200) hx hb d_M_doStep_46 (by rw [c6]; decide) (by rw [c6]; decide) (by rw [c6]; rfl) (by decide) ?_
    have h := ifp c6 h
    refine lv_iconst (v := 0) hx hb d_M_doStep_200 (by decide) ?_
    refine lv_istore (lv' := [(6, .int (0 : Int32)), (5, .int ((σ 4) (((5 : Int32) * x1) + (2 : Int32)).toNatClampNeg)), (4, .int ((σ 4) (((5 : Int32) * x1) + (1 : Int32)).toNatClampNeg)), (3, .int ((σ 4) ((5 : Int32) * x1).toNatClampNeg)), (2, .int ((σ 1) x1.toNatClampNeg)), (0, .ref (q 0)), (1, .int x1)]) hx hb d_M_doStep_201 hl (by decide) rfl (fun ls hl => ?_)
    obtain ⟨u203, hu203, h⟩ := bnd h
    refine L203 x1 ((σ 1) x1.toNatClampNeg) ((σ 4) ((5 : Int32) * x1).toNatClampNeg) F (0 : Int32) σ _ _ ls u203 hu203 hP hS (lv_sub hl [5, 6, 4, 3, 0] rfl) (fun H locs ls hP hS hl => ?_)
    refine lv_aload_n hx hb d_M_doStep_250 rfl (lv_at hl 0 rfl) ?_
    refine va_get (D := D) (ci := 5) (v := .ref (q 4)) (C := R_M) (T := T_M) (N := 17) hx hb hts l_M hown hK hP 0 rfl rfl 6 (by decide) (hts _ w_445) (fun _ h9 => h9) rfl d_M_doStep_251 ?_
    refine lv_iconst (v := 5) hx hb d_M_doStep_254 (by decide) ?_
    refine lv_iload_n hx hb d_M_doStep_255 rfl (lv_at hl 1 rfl) ?_
    refine lv_imul hx hb d_M_doStep_256 ?_
    refine lv_iconst (v := 4) hx hb d_M_doStep_257 (by decide) ?_
    refine lv_iadd hx hb d_M_doStep_258 ?_
    obtain ⟨c, h⟩ := ifs h
    refine va_iald hx hb hK hP 4 0 rfl rfl c d_M_doStep_259 ?_
    refine lv_iconst (v := -1) hx hb d_M_doStep_260 (by decide) ?_
    refine lv_icmp_eq (tgt := 302) hx hb d_M_doStep_261 (by decide) (fun c => ?_) (fun c => ?_)
    · have h := ifp c h
      cases h
      exact gret_v hx hb hr hlk hP hS d_M_doStep_302
    have h := ifn c h
    refine lv_aload_n hx hb d_M_doStep_264 rfl (lv_at hl 0 rfl) ?_
    refine lv_iload_n hx hb d_M_doStep_265 rfl (lv_at hl 2 rfl) ?_
    refine lv_aload_n hx hb d_M_doStep_266 rfl (lv_at hl 0 rfl) ?_
    refine va_get (D := D) (ci := 5) (v := .ref (q 4)) (C := R_M) (T := T_M) (N := 17) hx hb hts l_M hown hK hP 0 rfl rfl 6 (by decide) (hts _ w_445) (fun _ h9 => h9) rfl d_M_doStep_267 ?_
    refine lv_iconst (v := 5) hx hb d_M_doStep_270 (by decide) ?_
    refine lv_iload_n hx hb d_M_doStep_271 rfl (lv_at hl 1 rfl) ?_
    refine lv_imul hx hb d_M_doStep_272 ?_
    refine lv_iconst (v := 4) hx hb d_M_doStep_273 (by decide) ?_
    refine lv_iadd hx hb d_M_doStep_274 ?_
    obtain ⟨c, h⟩ := ifs h
    refine va_iald hx hb hK hP 4 0 rfl rfl c d_M_doStep_275 ?_
    refine lv_aload_n hx hb d_M_doStep_276 rfl (lv_at hl 0 rfl) ?_
    refine va_get (D := D) (ci := 5) (v := .ref (q 9)) (C := R_M) (T := T_M) (N := 17) hx hb hts l_M hown hK hP 0 rfl rfl 11 (by decide) (hts _ w_450) (fun _ h9 => h9) rfl d_M_doStep_277 ?_
    refine lv_iload_n hx hb d_M_doStep_280 rfl (lv_at hl 3 rfl) ?_
    obtain ⟨c, h⟩ := ifs h
    refine va_iald hx hb hK hP 9 0 rfl rfl c d_M_doStep_281 ?_
    obtain ⟨u282, hu282, h⟩ := bnd h
    refine gcall_v (va_runV (As := [.int ((σ 1) x1.toNatClampNeg), .int ((u203.2 4) (((5 : Int32) * x1) + (4 : Int32)).toNatClampNeg), .int ((u203.2 9) ((σ 4) ((5 : Int32) * x1).toNatClampNeg).toNatClampNeg)]) (rest := []) ⟨hx, hb, hml, hown, hts⟩ (c_M_toName l D cI cZ tL q tl u203.2 ((σ 1) x1.toNatClampNeg) ((u203.2 4) (((5 : Int32) * x1) + (4 : Int32)).toNatClampNeg) ((u203.2 9) ((σ 4) ((5 : Int32) * x1).toNatClampNeg).toNatClampNeg) u282 hu282 H.size) (cwV 3 hts (gV w_534 w_535 w_733 w_6 w_536) rfl rfl rfl (by decide +kernel) ⟨Nat.le_of_ble_eq_true rfl, Nat.le_of_ble_eq_true rfl⟩) (gpV (k := 0) (ci := 5) hA hK (hD u203.2) hE hP hS rfl rfl) rfl rfl hl.1 rfl (lv_room (Nat.le_of_ble_eq_true rfl)) d_M_doStep_282 ⟨Nat.le_of_ble_eq_true rfl, Nat.le_of_ble_eq_true rfl⟩) hA (hD u203.2) hS (fun H locs hP hS => ?_)
    refine lv_goto (tgt := 302) hx hb d_M_doStep_285 (by decide) ?_
    cases h
    exact gret_v hx hb hr hlk hP hS d_M_doStep_302
  have h := ifn c6 h
  by_cases c7 : ((σ 2) x1.toNatClampNeg) = 7
  · refine lv_tableIn (tgt := 288) hx hb d_M_doStep_46 (by rw [c7]; decide) (by rw [c7]; decide) (by rw [c7]; rfl) (by decide) ?_
    have h := ifp c7 h
    refine lv_aload_n hx hb d_M_doStep_288 rfl (lv_at hl 4 rfl) ?_
    refine lv_iload_n hx hb d_M_doStep_289 rfl (lv_at hl 3 rfl) ?_
    refine lv_aload_n hx hb d_M_doStep_290 rfl (lv_at hl 4 rfl) ?_
    refine lv_iload_n hx hb d_M_doStep_291 rfl (lv_at hl 3 rfl) ?_
    refine lv_iload_n hx hb d_M_doStep_292 rfl (lv_at hl 2 rfl) ?_
    obtain ⟨u293, hu293, h⟩ := bnd h
    refine gcall_i (va_runV (As := [.int ((σ 1) x1.toNatClampNeg), .int ((σ 4) ((5 : Int32) * x1).toNatClampNeg)]) (rest := [.int ((σ 1) x1.toNatClampNeg), .ref (q 0)]) ⟨hx, hb, hml, hown, hts⟩ (c_M_name l D cI cZ tL q tl σ ((σ 1) x1.toNatClampNeg) ((σ 4) ((5 : Int32) * x1).toNatClampNeg) u293 hu293 s.heap.size) (cwV 2 hts (gV w_537 w_538 w_723 w_6 w_539) rfl rfl rfl (by decide +kernel) ⟨Nat.le_of_ble_eq_true rfl, Nat.le_of_ble_eq_true rfl⟩) (gpV (k := 0) (ci := 5) hA hK (hD σ) hE hP hS rfl rfl) rfl rfl hl.1 rfl (lv_room (Nat.le_of_ble_eq_true rfl)) d_M_doStep_293 ⟨Nat.le_of_ble_eq_true rfl, Nat.le_of_ble_eq_true rfl⟩) hA (hD σ) hS (fun H locs hP hS => ?_)
    obtain ⟨u296, hu296, h⟩ := bnd h
    refine gcall_v (va_runV (As := [.int ((σ 1) x1.toNatClampNeg), .int u293]) (rest := []) ⟨hx, hb, hml, hown, hts⟩ (c_M_toResult l D cI cZ tL q tl σ ((σ 1) x1.toNatClampNeg) u293 u296 hu296 H.size) (cwV 2 hts (gV w_549 w_550 w_735 w_6 w_551) rfl rfl rfl (by decide +kernel) ⟨Nat.le_of_ble_eq_true rfl, Nat.le_of_ble_eq_true rfl⟩) (gpV (k := 0) (ci := 5) hA hK (hD σ) hE hP hS rfl rfl) rfl rfl hl.1 rfl (lv_room (Nat.le_of_ble_eq_true rfl)) d_M_doStep_296 ⟨Nat.le_of_ble_eq_true rfl, Nat.le_of_ble_eq_true rfl⟩) hA (hD σ) hS (fun H locs hP hS => ?_)
    refine lv_goto (tgt := 302) hx hb d_M_doStep_299 (by decide) ?_
    cases h
    exact gret_v hx hb hr hlk hP hS d_M_doStep_302
  have h := ifn c7 h
  refine lv_tableOut (tgt := 302) hx hb d_M_doStep_46 (by have e0 := lv_neT (a := 0) c0 (by decide); have e1 := lv_neT (a := 1) c1 (by decide); have e2 := lv_neT (a := 2) c2 (by decide); have e3 := lv_neT (a := 3) c3 (by decide); have e4 := lv_neT (a := 4) c4 (by decide); have e5 := lv_neT (a := 5) c5 (by decide); have e6 := lv_neT (a := 6) c6 (by decide); have e7 := lv_neT (a := 7) c7 (by decide); omega) (by decide) ?_
  cases h
  exact gret_v hx hb hr hlk hP hS d_M_doStep_302
/-! ===== EscapeOwnersModel.solve()V ===== -/
def f_M_solve_B15 (F : Nat) (rec : Int32 → St → Option (Int32 × St)) (y1 : Int32) (σ : St) : Option (Int32 × St) := if (64 : Int32) ≤ y1 then (some (y1, σ)) else (if ¬ (y1 < 0 ∨ 64 ≤ y1.toNatClampNeg) then (lett (sr σ 6 (upd (σ 6) y1.toNatClampNeg (0 : Int32))) (fun s27 => if ¬ (y1 < 0 ∨ 64 ≤ y1.toNatClampNeg) then (lett (sr s27 7 (upd (s27 7) y1.toNatClampNeg (0 : Int32))) (fun s34 => rec (y1 + (1 : Int32)) s34)) else none)) else none)
def f_M_solve_L15 (F : Nat) : Nat → Int32 → St → Option (Int32 × St)
  | 0, _, _ => none
  | fu + 1, y1, σ => f_M_solve_B15 F (f_M_solve_L15 F fu) y1 σ
def f_M_solve_B43 (F : Nat) (rec : Int32 → St → Option (Int32 × St)) (y1 : Int32) (σ : St) : Option (Int32 × St) := if (8 : Int32) ≤ y1 then (some (y1, σ)) else (if ¬ (y1 < 0 ∨ 8 ≤ y1.toNatClampNeg) then (lett (sr σ 9 (upd (σ 9) y1.toNatClampNeg (0 : Int32))) (fun s55 => rec (y1 + (1 : Int32)) s55)) else none)
def f_M_solve_L43 (F : Nat) : Nat → Int32 → St → Option (Int32 × St)
  | 0, _, _ => none
  | fu + 1, y1, σ => f_M_solve_B43 F (f_M_solve_L43 F fu) y1 σ
def f_M_solve_B64 (F : Nat) (rec : Int32 → St → Option (Int32 × St)) (y1 : Int32) (σ : St) : Option (Int32 × St) := if (4 : Int32) ≤ y1 then (some (y1, σ)) else (if ¬ (y1 < 0 ∨ 4 ≤ y1.toNatClampNeg) then (lett (sr σ 8 (upd (σ 8) y1.toNatClampNeg (0 : Int32))) (fun s75 => rec (y1 + (1 : Int32)) s75)) else none)
def f_M_solve_L64 (F : Nat) : Nat → Int32 → St → Option (Int32 × St)
  | 0, _, _ => none
  | fu + 1, y1, σ => f_M_solve_B64 F (f_M_solve_L64 F fu) y1 σ
def f_M_solve_B110 (F : Nat) (rec : Int32 → St → Option (Int32 × St)) (y1 : Int32) (σ : St) : Option (Int32 × St) := if (σ 0 1) ≤ y1 then (some (y1, σ)) else (Option.bind (f_M_isLive σ y1) (fun u120 => if u120 = 0 then (rec (y1 + (1 : Int32)) σ) else (Option.bind (f_M_doStep F σ y1) (fun u128 => rec (y1 + (1 : Int32)) u128))))
def f_M_solve_L110 (F : Nat) : Nat → Int32 → St → Option (Int32 × St)
  | 0, _, _ => none
  | fu + 1, y1, σ => f_M_solve_B110 F (f_M_solve_L110 F fu) y1 σ
def f_M_solve_B96 (F : Nat) (rec : St → Option (St)) (σ : St) : Option (St) := if (σ 0 14) = 0 then (some σ) else (lett (su σ 0 14 (0 : Int32)) (fun s105 => Option.bind (f_M_solve_L110 F F (0 : Int32) s105) (fun u110 => rec u110.2)))
def f_M_solve_L96 (F : Nat) : Nat → St → Option (St)
  | 0, _ => none
  | fu + 1, σ => f_M_solve_B96 F (f_M_solve_L96 F fu) σ
def f_M_solve (F : Nat) (σ : St) : Option (St) := if (σ 0 13) = 0 then (some σ) else (lett (su σ 0 13 (0 : Int32)) (fun s10 => Option.bind (f_M_solve_L15 F F (0 : Int32) s10) (fun u15 => Option.bind (f_M_solve_L43 F F (0 : Int32) u15.2) (fun u43 => Option.bind (f_M_solve_L64 F F (0 : Int32) u43.2) (fun u64 => Option.bind (f_M_allCalled F u64.2 (1 : Int32)) (fun u85 => lett (su u64.2 0 12 u85) (fun s88 => lett (su s88 0 14 (1 : Int32)) (fun s93 => Option.bind (f_M_solve_L96 F F s93) (fun u96 => some u96)))))))))
set_option maxHeartbeats 4000000 in
set_option maxRecDepth 100000 in
theorem c_M_solve (l : Launch) (D : va_G) (cI cZ : ClassId) (tL : Nat) (q : Nat → Nat) (tl : va_W) (F : Nat) (σ : St) (out0 : St) (h : f_M_solve F σ = some out0) : gCv l y_M_solve (.code y_M_solve b_M_solve 2 none :: TB) { frames := 3, cells := 0, slots := 0, locals := 73 } D [(cI, .int), (cZ, .boolean)] tL [.ref (q 0)] (wM cI cZ q σ ++ tl) (wM cI cZ q out0 ++ tl) := by
  refine gCv_of (cc := b_M_solve) (maxL := 2)  (by decide) rfl (Nat.le_of_ble_eq_true rfl) ?_
  intro p e s m below meth c A ls hf hr hlk hA hK hD0 hE hP hl
  obtain ⟨hx, hb, hml, hown, hts⟩ := id hf
  have hts : ∀ w ∈ TB, w.before _ s = true := fun w h => hts w (List.mem_cons_of_mem _ h)
  have hown : s.vm.findClass R_M = some m.cls := hown
  have hl : lv_has ls 2 [(0, .ref (q 0))] := hl
  have hS : va_S A s.heap s.heap [] := va_S.rf
  have hD : ∀ σ' : St, va_D A (wM cI cZ q σ' ++ tl) := fun σ' => va_Dsame hD0 rfl
  have L15 : ∀  (fu : Nat) (y1 : Int32) (σ : St) (H : Heap) (locs : List Loc) (ls : Array Slot) (out : Int32 × St), f_M_solve_L15 F fu y1 σ = some out → va_P D vwCl (wM cI cZ q σ ++ tl) H → va_S A s.heap H locs → lv_has ls 2 [(0, .ref (q 0)), (1, .int y1)] → (∀ (H : Heap) (locs : List Loc) (ls : Array Slot), va_P D vwCl (wM cI cZ q out.2 ++ tl) H → va_S A s.heap H locs → lv_has ls 2 [(0, .ref (q 0)), (1, .int out.1)] → W p l e { frames := 3, cells := 0, slots := 0, locals := 73 } s m ([.ref (q 0)] : List Value).toArray below meth c H locs 0 0 (gQv below D (wM cI cZ q out0 ++ tl) A (([.ref (q 0)] : List Value).toArray) s) (F0 m 41 ls [])) → W p l e { frames := 3, cells := 0, slots := 0, locals := 73 } s m ([.ref (q 0)] : List Value).toArray below meth c H locs 0 0 (gQv below D (wM cI cZ q out0 ++ tl) A (([.ref (q 0)] : List Value).toArray) s) (F0 m 15 ls []) := by
    intro  fu
    induction fu with
    | zero => intro y1 σ H locs ls out h; exact absurd (show (none : Option (Int32 × St)) = some out from h) (fun z => by cases z)
    | succ fu ih =>
      intro y1 σ H locs ls out h hP hS hl K
      have h : f_M_solve_B15 F (f_M_solve_L15 F fu) y1 σ = some out := h
      unfold f_M_solve_B15 at h
      refine lv_iload_n hx hb d_M_solve_15 rfl (lv_at hl 1 rfl) ?_
      refine lv_bipush (v := 64) hx hb d_M_solve_16 (by decide) ?_
      refine lv_icmp_ge (tgt := 41) hx hb d_M_solve_18 (by decide) (fun c => ?_) (fun c => ?_)
      · have h := ifp c h
        cases h
        exact K _ _ ls hP hS (lv_sub hl [0, 1] rfl)
      have h := ifn c h
      refine lv_aload_n hx hb d_M_solve_21 rfl (lv_at hl 0 rfl) ?_
      refine va_get (D := D) (ci := 5) (v := .ref (q 6)) (C := R_M) (T := T_M) (N := 17) hx hb hts l_M hown hK hP 0 rfl rfl 8 (by decide) (hts _ w_447) (fun _ h9 => h9) rfl d_M_solve_22 ?_
      refine lv_iload_n hx hb d_M_solve_25 rfl (lv_at hl 1 rfl) ?_
      refine lv_iconst (v := 0) hx hb d_M_solve_26 (by decide) ?_
      obtain ⟨c, h⟩ := ifs h
      refine va_iast hx hb hK hP (hD σ) hS 6 0 rfl rfl c d_M_solve_27 (fun H locs hP _ hS => ?_)
      have hP : va_P D vwCl (wM cI cZ q (sr σ 6 (upd (σ 6) y1.toNatClampNeg (0 : Int32))) ++ tl) H := hP
      obtain ⟨s27, es27, h⟩ := lettE h
      rw [← es27] at hP
      refine lv_aload_n hx hb d_M_solve_28 rfl (lv_at hl 0 rfl) ?_
      refine va_get (D := D) (ci := 5) (v := .ref (q 7)) (C := R_M) (T := T_M) (N := 17) hx hb hts l_M hown hK hP 0 rfl rfl 9 (by decide) (hts _ w_448) (fun _ h9 => h9) rfl d_M_solve_29 ?_
      refine lv_iload_n hx hb d_M_solve_32 rfl (lv_at hl 1 rfl) ?_
      refine lv_iconst (v := 0) hx hb d_M_solve_33 (by decide) ?_
      obtain ⟨c, h⟩ := ifs h
      refine va_iast hx hb hK hP (hD s27) hS 7 0 rfl rfl c d_M_solve_34 (fun H locs hP _ hS => ?_)
      have hP : va_P D vwCl (wM cI cZ q (sr s27 7 (upd (s27 7) y1.toNatClampNeg (0 : Int32))) ++ tl) H := hP
      obtain ⟨s34, es34, h⟩ := lettE h
      rw [← es34] at hP
      refine lv_iinc (v := (y1 + (1 : Int32))) (lv' := [(1, .int (y1 + (1 : Int32))), (0, .ref (q 0))]) hx hb d_M_solve_35 hl (k := 1) rfl rfl (by decide) rfl (fun ls hl => ?_)
      refine lv_goto (tgt := 15) hx hb d_M_solve_38 (by decide) ?_
      exact ih (y1 + (1 : Int32)) s34 _ _ ls out h hP hS (lv_sub hl [1, 0] rfl) K
  have L43 : ∀  (fu : Nat) (y1 : Int32) (σ : St) (H : Heap) (locs : List Loc) (ls : Array Slot) (out : Int32 × St), f_M_solve_L43 F fu y1 σ = some out → va_P D vwCl (wM cI cZ q σ ++ tl) H → va_S A s.heap H locs → lv_has ls 2 [(0, .ref (q 0)), (1, .int y1)] → (∀ (H : Heap) (locs : List Loc) (ls : Array Slot), va_P D vwCl (wM cI cZ q out.2 ++ tl) H → va_S A s.heap H locs → lv_has ls 2 [(0, .ref (q 0)), (1, .int out.1)] → W p l e { frames := 3, cells := 0, slots := 0, locals := 73 } s m ([.ref (q 0)] : List Value).toArray below meth c H locs 0 0 (gQv below D (wM cI cZ q out0 ++ tl) A (([.ref (q 0)] : List Value).toArray) s) (F0 m 62 ls [])) → W p l e { frames := 3, cells := 0, slots := 0, locals := 73 } s m ([.ref (q 0)] : List Value).toArray below meth c H locs 0 0 (gQv below D (wM cI cZ q out0 ++ tl) A (([.ref (q 0)] : List Value).toArray) s) (F0 m 43 ls []) := by
    intro  fu
    induction fu with
    | zero => intro y1 σ H locs ls out h; exact absurd (show (none : Option (Int32 × St)) = some out from h) (fun z => by cases z)
    | succ fu ih =>
      intro y1 σ H locs ls out h hP hS hl K
      have h : f_M_solve_B43 F (f_M_solve_L43 F fu) y1 σ = some out := h
      unfold f_M_solve_B43 at h
      refine lv_iload_n hx hb d_M_solve_43 rfl (lv_at hl 1 rfl) ?_
      refine lv_bipush (v := 8) hx hb d_M_solve_44 (by decide) ?_
      refine lv_icmp_ge (tgt := 62) hx hb d_M_solve_46 (by decide) (fun c => ?_) (fun c => ?_)
      · have h := ifp c h
        cases h
        exact K _ _ ls hP hS (lv_sub hl [0, 1] rfl)
      have h := ifn c h
      refine lv_aload_n hx hb d_M_solve_49 rfl (lv_at hl 0 rfl) ?_
      refine va_get (D := D) (ci := 5) (v := .ref (q 9)) (C := R_M) (T := T_M) (N := 17) hx hb hts l_M hown hK hP 0 rfl rfl 11 (by decide) (hts _ w_450) (fun _ h9 => h9) rfl d_M_solve_50 ?_
      refine lv_iload_n hx hb d_M_solve_53 rfl (lv_at hl 1 rfl) ?_
      refine lv_iconst (v := 0) hx hb d_M_solve_54 (by decide) ?_
      obtain ⟨c, h⟩ := ifs h
      refine va_iast hx hb hK hP (hD σ) hS 9 0 rfl rfl c d_M_solve_55 (fun H locs hP _ hS => ?_)
      have hP : va_P D vwCl (wM cI cZ q (sr σ 9 (upd (σ 9) y1.toNatClampNeg (0 : Int32))) ++ tl) H := hP
      obtain ⟨s55, es55, h⟩ := lettE h
      rw [← es55] at hP
      refine lv_iinc (v := (y1 + (1 : Int32))) (lv' := [(1, .int (y1 + (1 : Int32))), (0, .ref (q 0))]) hx hb d_M_solve_56 hl (k := 1) rfl rfl (by decide) rfl (fun ls hl => ?_)
      refine lv_goto (tgt := 43) hx hb d_M_solve_59 (by decide) ?_
      exact ih (y1 + (1 : Int32)) s55 _ _ ls out h hP hS (lv_sub hl [1, 0] rfl) K
  have L64 : ∀  (fu : Nat) (y1 : Int32) (σ : St) (H : Heap) (locs : List Loc) (ls : Array Slot) (out : Int32 × St), f_M_solve_L64 F fu y1 σ = some out → va_P D vwCl (wM cI cZ q σ ++ tl) H → va_S A s.heap H locs → lv_has ls 2 [(0, .ref (q 0)), (1, .int y1)] → (∀ (H : Heap) (locs : List Loc) (ls : Array Slot), va_P D vwCl (wM cI cZ q out.2 ++ tl) H → va_S A s.heap H locs → lv_has ls 2 [(0, .ref (q 0)), (1, .int out.1)] → W p l e { frames := 3, cells := 0, slots := 0, locals := 73 } s m ([.ref (q 0)] : List Value).toArray below meth c H locs 0 0 (gQv below D (wM cI cZ q out0 ++ tl) A (([.ref (q 0)] : List Value).toArray) s) (F0 m 82 ls [])) → W p l e { frames := 3, cells := 0, slots := 0, locals := 73 } s m ([.ref (q 0)] : List Value).toArray below meth c H locs 0 0 (gQv below D (wM cI cZ q out0 ++ tl) A (([.ref (q 0)] : List Value).toArray) s) (F0 m 64 ls []) := by
    intro  fu
    induction fu with
    | zero => intro y1 σ H locs ls out h; exact absurd (show (none : Option (Int32 × St)) = some out from h) (fun z => by cases z)
    | succ fu ih =>
      intro y1 σ H locs ls out h hP hS hl K
      have h : f_M_solve_B64 F (f_M_solve_L64 F fu) y1 σ = some out := h
      unfold f_M_solve_B64 at h
      refine lv_iload_n hx hb d_M_solve_64 rfl (lv_at hl 1 rfl) ?_
      refine lv_iconst (v := 4) hx hb d_M_solve_65 (by decide) ?_
      refine lv_icmp_ge (tgt := 82) hx hb d_M_solve_66 (by decide) (fun c => ?_) (fun c => ?_)
      · have h := ifp c h
        cases h
        exact K _ _ ls hP hS (lv_sub hl [0, 1] rfl)
      have h := ifn c h
      refine lv_aload_n hx hb d_M_solve_69 rfl (lv_at hl 0 rfl) ?_
      refine va_get (D := D) (ci := 5) (v := .ref (q 8)) (C := R_M) (T := T_M) (N := 17) hx hb hts l_M hown hK hP 0 rfl rfl 10 (by decide) (hts _ w_449) (fun _ h9 => h9) rfl d_M_solve_70 ?_
      refine lv_iload_n hx hb d_M_solve_73 rfl (lv_at hl 1 rfl) ?_
      refine lv_iconst (v := 0) hx hb d_M_solve_74 (by decide) ?_
      obtain ⟨c, h⟩ := ifs h
      refine va_iast hx hb hK hP (hD σ) hS 8 0 rfl rfl c d_M_solve_75 (fun H locs hP _ hS => ?_)
      have hP : va_P D vwCl (wM cI cZ q (sr σ 8 (upd (σ 8) y1.toNatClampNeg (0 : Int32))) ++ tl) H := hP
      obtain ⟨s75, es75, h⟩ := lettE h
      rw [← es75] at hP
      refine lv_iinc (v := (y1 + (1 : Int32))) (lv' := [(1, .int (y1 + (1 : Int32))), (0, .ref (q 0))]) hx hb d_M_solve_76 hl (k := 1) rfl rfl (by decide) rfl (fun ls hl => ?_)
      refine lv_goto (tgt := 64) hx hb d_M_solve_79 (by decide) ?_
      exact ih (y1 + (1 : Int32)) s75 _ _ ls out h hP hS (lv_sub hl [1, 0] rfl) K
  have L110 : ∀  (fu : Nat) (y1 : Int32) (σ : St) (H : Heap) (locs : List Loc) (ls : Array Slot) (out : Int32 × St), f_M_solve_L110 F fu y1 σ = some out → va_P D vwCl (wM cI cZ q σ ++ tl) H → va_S A s.heap H locs → lv_has ls 2 [(0, .ref (q 0)), (1, .int y1)] → (∀ (H : Heap) (locs : List Loc) (ls : Array Slot), va_P D vwCl (wM cI cZ q out.2 ++ tl) H → va_S A s.heap H locs → lv_has ls 2 [(0, .ref (q 0)), (1, .int out.1)] → W p l e { frames := 3, cells := 0, slots := 0, locals := 73 } s m ([.ref (q 0)] : List Value).toArray below meth c H locs 0 0 (gQv below D (wM cI cZ q out0 ++ tl) A (([.ref (q 0)] : List Value).toArray) s) (F0 m 137 ls [])) → W p l e { frames := 3, cells := 0, slots := 0, locals := 73 } s m ([.ref (q 0)] : List Value).toArray below meth c H locs 0 0 (gQv below D (wM cI cZ q out0 ++ tl) A (([.ref (q 0)] : List Value).toArray) s) (F0 m 110 ls []) := by
    intro  fu
    induction fu with
    | zero => intro y1 σ H locs ls out h; exact absurd (show (none : Option (Int32 × St)) = some out from h) (fun z => by cases z)
    | succ fu ih =>
      intro y1 σ H locs ls out h hP hS hl K
      have h : f_M_solve_B110 F (f_M_solve_L110 F fu) y1 σ = some out := h
      unfold f_M_solve_B110 at h
      refine lv_iload_n hx hb d_M_solve_110 rfl (lv_at hl 1 rfl) ?_
      refine lv_aload_n hx hb d_M_solve_111 rfl (lv_at hl 0 rfl) ?_
      refine va_get (D := D) (ci := 5) (v := .int (σ 0 1)) (C := R_M) (T := T_M) (N := 17) hx hb hts l_M hown hK hP 0 rfl rfl 1 (by decide) (hts _ w_440) (fun _ h9 => h9) rfl d_M_solve_112 ?_
      refine lv_icmp_ge (tgt := 137) hx hb d_M_solve_115 (by decide) (fun c => ?_) (fun c => ?_)
      · have h := ifp c h
        cases h
        exact K _ _ ls hP hS (lv_sub hl [0, 1] rfl)
      have h := ifn c h
      refine lv_aload_n hx hb d_M_solve_118 rfl (lv_at hl 0 rfl) ?_
      refine lv_iload_n hx hb d_M_solve_119 rfl (lv_at hl 1 rfl) ?_
      obtain ⟨u120, hu120, h⟩ := bnd h
      refine gcall_i (va_runV (As := [.int y1]) (rest := []) ⟨hx, hb, hml, hown, hts⟩ (c_M_isLive l D cI cZ tL q tl σ y1 u120 hu120 H.size) (cwV 1 hts (gV w_528 w_529 w_711 w_6 w_530) rfl rfl rfl (by decide +kernel) ⟨Nat.le_of_ble_eq_true rfl, Nat.le_of_ble_eq_true rfl⟩) (gpV (k := 0) (ci := 5) hA hK (hD σ) hE hP hS rfl rfl) rfl rfl hl.1 rfl (lv_room (Nat.le_of_ble_eq_true rfl)) d_M_solve_120 ⟨Nat.le_of_ble_eq_true rfl, Nat.le_of_ble_eq_true rfl⟩) hA (hD σ) hS (fun H locs hP hS => ?_)
      refine lv_if_eq (tgt := 131) hx hb d_M_solve_123 (by decide) (fun c => ?_) (fun c => ?_)
      · have h := ifp c h
        refine lv_iinc (v := (y1 + (1 : Int32))) (lv' := [(1, .int (y1 + (1 : Int32))), (0, .ref (q 0))]) hx hb d_M_solve_131 hl (k := 1) rfl rfl (by decide) rfl (fun ls hl => ?_)
        refine lv_goto (tgt := 110) hx hb d_M_solve_134 (by decide) ?_
        exact ih (y1 + (1 : Int32)) σ _ _ ls out h hP hS (lv_sub hl [1, 0] rfl) K
      have h := ifn c h
      refine lv_aload_n hx hb d_M_solve_126 rfl (lv_at hl 0 rfl) ?_
      refine lv_iload_n hx hb d_M_solve_127 rfl (lv_at hl 1 rfl) ?_
      obtain ⟨u128, hu128, h⟩ := bnd h
      refine gcall_v (va_runV (As := [.int y1]) (rest := []) ⟨hx, hb, hml, hown, hts⟩ (c_M_doStep l D cI cZ tL q tl F σ y1 u128 hu128 H.size) (cwV 1 hts (gV w_531 w_532 w_700 w_6 w_533) rfl rfl rfl (by decide +kernel) ⟨Nat.le_of_ble_eq_true rfl, Nat.le_of_ble_eq_true rfl⟩) (gpV (k := 0) (ci := 5) hA hK (hD σ) hE hP hS rfl rfl) rfl rfl hl.1 rfl (lv_room (Nat.le_of_ble_eq_true rfl)) d_M_solve_128 ⟨Nat.le_of_ble_eq_true rfl, Nat.le_of_ble_eq_true rfl⟩) hA (hD σ) hS (fun H locs hP hS => ?_)
      refine lv_iinc (v := (y1 + (1 : Int32))) (lv' := [(1, .int (y1 + (1 : Int32))), (0, .ref (q 0))]) hx hb d_M_solve_131 hl (k := 1) rfl rfl (by decide) rfl (fun ls hl => ?_)
      refine lv_goto (tgt := 110) hx hb d_M_solve_134 (by decide) ?_
      exact ih (y1 + (1 : Int32)) u128 _ _ ls out h hP hS (lv_sub hl [1, 0] rfl) K
  have L96 : ∀  (fu : Nat) (σ : St) (H : Heap) (locs : List Loc) (ls : Array Slot) (out : St), f_M_solve_L96 F fu σ = some out → va_P D vwCl (wM cI cZ q σ ++ tl) H → va_S A s.heap H locs → lv_has ls 2 [(0, .ref (q 0))] → (∀ (H : Heap) (locs : List Loc) (ls : Array Slot), va_P D vwCl (wM cI cZ q out ++ tl) H → va_S A s.heap H locs → lv_has ls 2 [(0, .ref (q 0))] → W p l e { frames := 3, cells := 0, slots := 0, locals := 73 } s m ([.ref (q 0)] : List Value).toArray below meth c H locs 0 0 (gQv below D (wM cI cZ q out0 ++ tl) A (([.ref (q 0)] : List Value).toArray) s) (F0 m 140 ls [])) → W p l e { frames := 3, cells := 0, slots := 0, locals := 73 } s m ([.ref (q 0)] : List Value).toArray below meth c H locs 0 0 (gQv below D (wM cI cZ q out0 ++ tl) A (([.ref (q 0)] : List Value).toArray) s) (F0 m 96 ls []) := by
    intro  fu
    induction fu with
    | zero => intro σ H locs ls out h; exact absurd (show (none : Option (St)) = some out from h) (fun z => by cases z)
    | succ fu ih =>
      intro σ H locs ls out h hP hS hl K
      have h : f_M_solve_B96 F (f_M_solve_L96 F fu) σ = some out := h
      unfold f_M_solve_B96 at h
      refine lv_aload_n hx hb d_M_solve_96 rfl (lv_at hl 0 rfl) ?_
      refine va_get (D := D) (ci := 5) (v := .int (σ 0 14)) (C := R_M) (T := T_M) (N := 17) hx hb hts l_M hown hK hP 0 rfl rfl 14 (by decide) (hts _ w_453) (fun _ h9 => h9) rfl d_M_solve_97 ?_
      refine lv_if_eq (tgt := 140) hx hb d_M_solve_100 (by decide) (fun c => ?_) (fun c => ?_)
      · have h := ifp c h
        cases h
        exact K _ _ ls hP hS (lv_sub hl [0] rfl)
      have h := ifn c h
      refine lv_aload_n hx hb d_M_solve_103 rfl (lv_at hl 0 rfl) ?_
      refine lv_iconst (v := 0) hx hb d_M_solve_104 (by decide) ?_
      refine va_put (D := D) (ci := 5) (v := .int (0 : Int32)) (ty := .boolean) (C := R_M) (T := T_M) (N := 17) hx hb hts l_M t_M t_M_ok n_M hown hK hP (hD σ) hS 0 rfl rfl 14 (by decide) (hts _ w_453) (fun _ h9 => h9) rfl (by decide +kernel) rfl rfl (Nat.le_of_ble_eq_true rfl) d_M_solve_105 (fun H locs hP _ hS => ?_)
      have hP : va_P D vwCl (wM cI cZ q (su σ 0 14 (0 : Int32)) ++ tl) H := hP
      obtain ⟨s105, es105, h⟩ := lettE h
      rw [← es105] at hP
      refine lv_iconst (v := 0) hx hb d_M_solve_108 (by decide) ?_
      refine lv_istore_n (lv' := [(1, .int (0 : Int32)), (0, .ref (q 0))]) hx hb d_M_solve_109 rfl hl (by decide) rfl (fun ls hl => ?_)
      obtain ⟨u110, hu110, h⟩ := bnd h
      refine L110  F (0 : Int32) s105 _ _ ls u110 hu110 hP hS (lv_sub hl [1, 0] rfl) (fun H locs ls hP hS hl => ?_)
      refine lv_goto (tgt := 96) hx hb d_M_solve_137 (by decide) ?_
      exact ih u110.2 _ _ ls out h hP hS (lv_sub hl [0] rfl) K
  unfold f_M_solve at h
  refine lv_aload_n hx hb d_M_solve_0 rfl (lv_at hl 0 rfl) ?_
  refine va_get (D := D) (ci := 5) (v := .int (σ 0 13)) (C := R_M) (T := T_M) (N := 17) hx hb hts l_M hown hK hP 0 rfl rfl 13 (by decide) (hts _ w_452) (fun _ h9 => h9) rfl d_M_solve_1 ?_
  refine lv_if_ne (tgt := 8) hx hb d_M_solve_4 (by decide) (fun c => ?_) (fun c => ?_)
  · have h := ifn c h
    refine lv_aload_n hx hb d_M_solve_8 rfl (lv_at hl 0 rfl) ?_
    refine lv_iconst (v := 0) hx hb d_M_solve_9 (by decide) ?_
    refine va_put (D := D) (ci := 5) (v := .int (0 : Int32)) (ty := .boolean) (C := R_M) (T := T_M) (N := 17) hx hb hts l_M t_M t_M_ok n_M hown hK hP (hD σ) hS 0 rfl rfl 13 (by decide) (hts _ w_452) (fun _ h9 => h9) rfl (by decide +kernel) rfl rfl (Nat.le_of_ble_eq_true rfl) d_M_solve_10 (fun H locs hP _ hS => ?_)
    have hP : va_P D vwCl (wM cI cZ q (su σ 0 13 (0 : Int32)) ++ tl) H := hP
    obtain ⟨s10, es10, h⟩ := lettE h
    rw [← es10] at hP
    refine lv_iconst (v := 0) hx hb d_M_solve_13 (by decide) ?_
    refine lv_istore_n (lv' := [(1, .int (0 : Int32)), (0, .ref (q 0))]) hx hb d_M_solve_14 rfl hl (by decide) rfl (fun ls hl => ?_)
    obtain ⟨u15, hu15, h⟩ := bnd h
    refine L15  F (0 : Int32) s10 _ _ ls u15 hu15 hP hS (lv_sub hl [1, 0] rfl) (fun H locs ls hP hS hl => ?_)
    refine lv_iconst (v := 0) hx hb d_M_solve_41 (by decide) ?_
    refine lv_istore_n (lv' := [(1, .int (0 : Int32)), (0, .ref (q 0))]) hx hb d_M_solve_42 rfl hl (by decide) rfl (fun ls hl => ?_)
    obtain ⟨u43, hu43, h⟩ := bnd h
    refine L43  F (0 : Int32) u15.2 _ _ ls u43 hu43 hP hS (lv_sub hl [1, 0] rfl) (fun H locs ls hP hS hl => ?_)
    refine lv_iconst (v := 0) hx hb d_M_solve_62 (by decide) ?_
    refine lv_istore_n (lv' := [(1, .int (0 : Int32)), (0, .ref (q 0))]) hx hb d_M_solve_63 rfl hl (by decide) rfl (fun ls hl => ?_)
    obtain ⟨u64, hu64, h⟩ := bnd h
    refine L64  F (0 : Int32) u43.2 _ _ ls u64 hu64 hP hS (lv_sub hl [1, 0] rfl) (fun H locs ls hP hS hl => ?_)
    refine lv_aload_n hx hb d_M_solve_82 rfl (lv_at hl 0 rfl) ?_
    refine lv_aload_n hx hb d_M_solve_83 rfl (lv_at hl 0 rfl) ?_
    refine lv_iconst (v := 1) hx hb d_M_solve_84 (by decide) ?_
    obtain ⟨u85, hu85, h⟩ := bnd h
    refine gcall_i (va_runV (As := [.int (1 : Int32)]) (rest := [.ref (q 0)]) ⟨hx, hb, hml, hown, hts⟩ (c_M_allCalled l D cI cZ tL q tl F u64.2 (1 : Int32) u85 hu85 H.size) (cwV 1 hts (gV w_519 w_520 w_695 w_6 w_521) rfl rfl rfl (by decide +kernel) ⟨Nat.le_of_ble_eq_true rfl, Nat.le_of_ble_eq_true rfl⟩) (gpV (k := 0) (ci := 5) hA hK (hD u64.2) hE hP hS rfl rfl) rfl rfl hl.1 rfl (lv_room (Nat.le_of_ble_eq_true rfl)) d_M_solve_85 ⟨Nat.le_of_ble_eq_true rfl, Nat.le_of_ble_eq_true rfl⟩) hA (hD u64.2) hS (fun H locs hP hS => ?_)
    refine va_put (D := D) (ci := 5) (v := .int u85) (ty := .int) (C := R_M) (T := T_M) (N := 17) hx hb hts l_M t_M t_M_ok n_M hown hK hP (hD u64.2) hS 0 rfl rfl 12 (by decide) (hts _ w_451) (fun _ h9 => h9) rfl (by decide +kernel) rfl rfl (Nat.le_of_ble_eq_true rfl) d_M_solve_88 (fun H locs hP _ hS => ?_)
    have hP : va_P D vwCl (wM cI cZ q (su u64.2 0 12 u85) ++ tl) H := hP
    obtain ⟨s88, es88, h⟩ := lettE h
    rw [← es88] at hP
    refine lv_aload_n hx hb d_M_solve_91 rfl (lv_at hl 0 rfl) ?_
    refine lv_iconst (v := 1) hx hb d_M_solve_92 (by decide) ?_
    refine va_put (D := D) (ci := 5) (v := .int (1 : Int32)) (ty := .boolean) (C := R_M) (T := T_M) (N := 17) hx hb hts l_M t_M t_M_ok n_M hown hK hP (hD s88) hS 0 rfl rfl 14 (by decide) (hts _ w_453) (fun _ h9 => h9) rfl (by decide +kernel) rfl rfl (Nat.le_of_ble_eq_true rfl) d_M_solve_93 (fun H locs hP _ hS => ?_)
    have hP : va_P D vwCl (wM cI cZ q (su s88 0 14 (1 : Int32)) ++ tl) H := hP
    obtain ⟨s93, es93, h⟩ := lettE h
    rw [← es93] at hP
    obtain ⟨u96, hu96, h⟩ := bnd h
    refine L96  F s93 _ _ ls u96 hu96 hP hS (lv_sub hl [0] rfl) (fun H locs ls hP hS hl => ?_)
    cases h
    exact gret_v hx hb hr hlk hP hS d_M_solve_140
  have h := ifp c h
  cases h
  exact gret_v hx hb hr hlk hP hS d_M_solve_7
/-! ===== EscapeOwnersModel.calls(II)I ===== -/
def f_M_calls (F : Nat) (σ : St) (x1 : Int32) (x2 : Int32) : Option (Int32 × St) := Option.bind (f_M_isMethod σ x1) (fun u2 => if u2 = 0 then (some ((-2 : Int32), σ)) else (Option.bind (f_M_isIn x2 (0 : Int32) (2 : Int32)) (fun u11 => if u11 = 0 then (some ((-2 : Int32), σ)) else (Option.bind (f_M_solve F σ) (fun u21 => Option.bind (f_M_has (u21 0 12) x1) (fun u29 => if u29 = 0 then (some ((0 : Int32), u21)) else (if x2 = 0 then (Option.bind (f_M_calledBy F u21 x1) (fun u43 => some (u43, u21))) else (if x2 = (1 : Int32) then (Option.bind (f_M_calledBy F u21 x1) (fun u57 => Option.bind (f_M_allCalled F u21 u57) (fun u60 => some (u60, u21)))) else (Option.bind (f_M_callers F u21 x1) (fun u68 => some ((u68 &&& (u21 0 12)), u21)))))))))))
set_option maxHeartbeats 4000000 in
set_option maxRecDepth 100000 in
theorem c_M_calls (l : Launch) (D : va_G) (cI cZ : ClassId) (tL : Nat) (q : Nat → Nat) (tl : va_W) (F : Nat) (σ : St) (x1 : Int32) (x2 : Int32) (out0 : Int32 × St) (h : f_M_calls F σ x1 x2 = some out0) : gCi l y_M_calls (.code y_M_calls b_M_calls 3 (some .int) :: TB) { frames := 4, cells := 0, slots := 0, locals := 94 } D [(cI, .int), (cZ, .boolean)] tL [.ref (q 0), .int x1, .int x2] (wM cI cZ q σ ++ tl) out0.1 (wM cI cZ q out0.2 ++ tl) := by
  refine gCi_of (cc := b_M_calls) (maxL := 3) (ty := .int) (by decide) rfl (Nat.le_of_ble_eq_true rfl) ?_
  intro p e s m below meth c A ls hf hr hlk hA hK hD0 hE hP hl
  obtain ⟨hx, hb, hml, hown, hts⟩ := id hf
  have hts : ∀ w ∈ TB, w.before _ s = true := fun w h => hts w (List.mem_cons_of_mem _ h)
  have hown : s.vm.findClass R_M = some m.cls := hown
  have hl : lv_has ls 3 [(0, .ref (q 0)), (1, .int x1), (2, .int x2)] := hl
  have hS : va_S A s.heap s.heap [] := va_S.rf
  have hD : ∀ σ' : St, va_D A (wM cI cZ q σ' ++ tl) := fun σ' => va_Dsame hD0 rfl
  unfold f_M_calls at h
  refine lv_aload_n hx hb d_M_calls_0 rfl (lv_at hl 0 rfl) ?_
  refine lv_iload_n hx hb d_M_calls_1 rfl (lv_at hl 1 rfl) ?_
  obtain ⟨u2, hu2, h⟩ := bnd h
  refine gcall_i (va_runV (As := [.int x1]) (rest := []) ⟨hx, hb, hml, hown, hts⟩ (c_M_isMethod l D cI cZ tL q tl σ x1 u2 hu2 s.heap.size) (cwV 1 hts (gV w_483 w_484 w_714 w_6 w_485) rfl rfl rfl (by decide +kernel) ⟨Nat.le_of_ble_eq_true rfl, Nat.le_of_ble_eq_true rfl⟩) (gpV (k := 0) (ci := 5) hA hK (hD σ) hE hP hS rfl rfl) rfl rfl hl.1 rfl (lv_room (Nat.le_of_ble_eq_true rfl)) d_M_calls_2 ⟨Nat.le_of_ble_eq_true rfl, Nat.le_of_ble_eq_true rfl⟩) hA (hD σ) hS (fun H locs hP hS => ?_)
  refine lv_if_eq (tgt := 17) hx hb d_M_calls_5 (by decide) (fun c => ?_) (fun c => ?_)
  · have h := ifp c h
    refine lv_bipush (v := -2) hx hb d_M_calls_17 (by decide) ?_
    cases h
    exact gret_i hx hb hr hlk hP hS d_M_calls_19
  have h := ifn c h
  refine lv_iload_n hx hb d_M_calls_8 rfl (lv_at hl 2 rfl) ?_
  refine lv_iconst (v := 0) hx hb d_M_calls_9 (by decide) ?_
  refine lv_iconst (v := 2) hx hb d_M_calls_10 (by decide) ?_
  obtain ⟨u11, hu11, h⟩ := bnd h
  refine gcall_i (va_runS (As := [.int x2, .int (0 : Int32), .int (2 : Int32)]) (rest := []) ⟨hx, hb, hml, hown, hts⟩ (c_M_isIn l D cI cZ tL (wM cI cZ q σ ++ tl) x2 (0 : Int32) (2 : Int32) u11 hu11 H.size) (va_cwS 3 hts (gS w_486 w_487 w_6 w_488) rfl rfl rfl (by decide +kernel) ⟨Nat.le_of_ble_eq_true rfl, Nat.le_of_ble_eq_true rfl⟩) (gpS hA hK (hD σ) hE hP hS) rfl rfl hl.1 rfl (lv_room (Nat.le_of_ble_eq_true rfl)) d_M_calls_11 ⟨Nat.le_of_ble_eq_true rfl, Nat.le_of_ble_eq_true rfl⟩) hA (hD σ) hS (fun H locs hP hS => ?_)
  refine lv_if_ne (tgt := 20) hx hb d_M_calls_14 (by decide) (fun c => ?_) (fun c => ?_)
  · have h := ifn c h
    refine lv_aload_n hx hb d_M_calls_20 rfl (lv_at hl 0 rfl) ?_
    obtain ⟨u21, hu21, h⟩ := bnd h
    refine gcall_v (va_runV (As := []) (rest := []) ⟨hx, hb, hml, hown, hts⟩ (c_M_solve l D cI cZ tL q tl F σ  u21 hu21 H.size) (cwV 0 hts (gV w_516 w_517 w_730 w_6 w_518) rfl rfl rfl (by decide +kernel) ⟨Nat.le_of_ble_eq_true rfl, Nat.le_of_ble_eq_true rfl⟩) (gpV (k := 0) (ci := 5) hA hK (hD σ) hE hP hS rfl rfl) rfl rfl hl.1 rfl (lv_room (Nat.le_of_ble_eq_true rfl)) d_M_calls_21 ⟨Nat.le_of_ble_eq_true rfl, Nat.le_of_ble_eq_true rfl⟩) hA (hD σ) hS (fun H locs hP hS => ?_)
    refine lv_aload_n hx hb d_M_calls_24 rfl (lv_at hl 0 rfl) ?_
    refine va_get (D := D) (ci := 5) (v := .int (u21 0 12)) (C := R_M) (T := T_M) (N := 17) hx hb hts l_M hown hK hP 0 rfl rfl 12 (by decide) (hts _ w_451) (fun _ h9 => h9) rfl d_M_calls_25 ?_
    refine lv_iload_n hx hb d_M_calls_28 rfl (lv_at hl 1 rfl) ?_
    obtain ⟨u29, hu29, h⟩ := bnd h
    refine gcall_i (va_runS (As := [.int (u21 0 12), .int x1]) (rest := []) ⟨hx, hb, hml, hown, hts⟩ (c_M_has l D cI cZ tL (wM cI cZ q u21 ++ tl) (u21 0 12) x1 u29 hu29 H.size) (va_cwS 2 hts (gS w_522 w_523 w_6 w_524) rfl rfl rfl (by decide +kernel) ⟨Nat.le_of_ble_eq_true rfl, Nat.le_of_ble_eq_true rfl⟩) (gpS hA hK (hD u21) hE hP hS) rfl rfl hl.1 rfl (lv_room (Nat.le_of_ble_eq_true rfl)) d_M_calls_29 ⟨Nat.le_of_ble_eq_true rfl, Nat.le_of_ble_eq_true rfl⟩) hA (hD u21) hS (fun H locs hP hS => ?_)
    refine lv_if_ne (tgt := 37) hx hb d_M_calls_32 (by decide) (fun c => ?_) (fun c => ?_)
    · have h := ifn c h
      refine lv_iload_n hx hb d_M_calls_37 rfl (lv_at hl 2 rfl) ?_
      refine lv_if_ne (tgt := 49) hx hb d_M_calls_38 (by decide) (fun c => ?_) (fun c => ?_)
      · have h := ifn c h
        refine lv_iload_n hx hb d_M_calls_49 rfl (lv_at hl 2 rfl) ?_
        refine lv_iconst (v := 1) hx hb d_M_calls_50 (by decide) ?_
        refine lv_icmp_ne (tgt := 66) hx hb d_M_calls_51 (by decide) (fun c => ?_) (fun c => ?_)
        · have h := ifn c h
          refine lv_aload_n hx hb d_M_calls_66 rfl (lv_at hl 0 rfl) ?_
          refine lv_iload_n hx hb d_M_calls_67 rfl (lv_at hl 1 rfl) ?_
          obtain ⟨u68, hu68, h⟩ := bnd h
          refine gcall_i (va_runV (As := [.int x1]) (rest := []) ⟨hx, hb, hml, hown, hts⟩ (c_M_callers l D cI cZ tL q tl F u21 x1 u68 hu68 H.size) (cwV 1 hts (gV w_552 w_553 w_698 w_6 w_554) rfl rfl rfl (by decide +kernel) ⟨Nat.le_of_ble_eq_true rfl, Nat.le_of_ble_eq_true rfl⟩) (gpV (k := 0) (ci := 5) hA hK (hD u21) hE hP hS rfl rfl) rfl rfl hl.1 rfl (lv_room (Nat.le_of_ble_eq_true rfl)) d_M_calls_68 ⟨Nat.le_of_ble_eq_true rfl, Nat.le_of_ble_eq_true rfl⟩) hA (hD u21) hS (fun H locs hP hS => ?_)
          refine lv_aload_n hx hb d_M_calls_71 rfl (lv_at hl 0 rfl) ?_
          refine va_get (D := D) (ci := 5) (v := .int (u21 0 12)) (C := R_M) (T := T_M) (N := 17) hx hb hts l_M hown hK hP 0 rfl rfl 12 (by decide) (hts _ w_451) (fun _ h9 => h9) rfl d_M_calls_72 ?_
          refine lv_iand hx hb d_M_calls_75 ?_
          cases h
          exact gret_i hx hb hr hlk hP hS d_M_calls_76
        have h := ifp c h
        refine lv_aload_n hx hb d_M_calls_54 rfl (lv_at hl 0 rfl) ?_
        refine lv_aload_n hx hb d_M_calls_55 rfl (lv_at hl 0 rfl) ?_
        refine lv_iload_n hx hb d_M_calls_56 rfl (lv_at hl 1 rfl) ?_
        obtain ⟨u57, hu57, h⟩ := bnd h
        refine gcall_i (va_runV (As := [.int x1]) (rest := [.ref (q 0)]) ⟨hx, hb, hml, hown, hts⟩ (c_M_calledBy l D cI cZ tL q tl F u21 x1 u57 hu57 H.size) (cwV 1 hts (gV w_525 w_526 w_697 w_6 w_527) rfl rfl rfl (by decide +kernel) ⟨Nat.le_of_ble_eq_true rfl, Nat.le_of_ble_eq_true rfl⟩) (gpV (k := 0) (ci := 5) hA hK (hD u21) hE hP hS rfl rfl) rfl rfl hl.1 rfl (lv_room (Nat.le_of_ble_eq_true rfl)) d_M_calls_57 ⟨Nat.le_of_ble_eq_true rfl, Nat.le_of_ble_eq_true rfl⟩) hA (hD u21) hS (fun H locs hP hS => ?_)
        obtain ⟨u60, hu60, h⟩ := bnd h
        refine gcall_i (va_runV (As := [.int u57]) (rest := []) ⟨hx, hb, hml, hown, hts⟩ (c_M_allCalled l D cI cZ tL q tl F u21 u57 u60 hu60 H.size) (cwV 1 hts (gV w_519 w_520 w_695 w_6 w_521) rfl rfl rfl (by decide +kernel) ⟨Nat.le_of_ble_eq_true rfl, Nat.le_of_ble_eq_true rfl⟩) (gpV (k := 0) (ci := 5) hA hK (hD u21) hE hP hS rfl rfl) rfl rfl hl.1 rfl (lv_room (Nat.le_of_ble_eq_true rfl)) d_M_calls_60 ⟨Nat.le_of_ble_eq_true rfl, Nat.le_of_ble_eq_true rfl⟩) hA (hD u21) hS (fun H locs hP hS => ?_)
        refine lv_goto (tgt := 76) hx hb d_M_calls_63 (by decide) ?_
        cases h
        exact gret_i hx hb hr hlk hP hS d_M_calls_76
      have h := ifp c h
      refine lv_aload_n hx hb d_M_calls_41 rfl (lv_at hl 0 rfl) ?_
      refine lv_iload_n hx hb d_M_calls_42 rfl (lv_at hl 1 rfl) ?_
      obtain ⟨u43, hu43, h⟩ := bnd h
      refine gcall_i (va_runV (As := [.int x1]) (rest := []) ⟨hx, hb, hml, hown, hts⟩ (c_M_calledBy l D cI cZ tL q tl F u21 x1 u43 hu43 H.size) (cwV 1 hts (gV w_525 w_526 w_697 w_6 w_527) rfl rfl rfl (by decide +kernel) ⟨Nat.le_of_ble_eq_true rfl, Nat.le_of_ble_eq_true rfl⟩) (gpV (k := 0) (ci := 5) hA hK (hD u21) hE hP hS rfl rfl) rfl rfl hl.1 rfl (lv_room (Nat.le_of_ble_eq_true rfl)) d_M_calls_43 ⟨Nat.le_of_ble_eq_true rfl, Nat.le_of_ble_eq_true rfl⟩) hA (hD u21) hS (fun H locs hP hS => ?_)
      refine lv_goto (tgt := 76) hx hb d_M_calls_46 (by decide) ?_
      cases h
      exact gret_i hx hb hr hlk hP hS d_M_calls_76
    have h := ifp c h
    refine lv_iconst (v := 0) hx hb d_M_calls_35 (by decide) ?_
    cases h
    exact gret_i hx hb hr hlk hP hS d_M_calls_36
  have h := ifp c h
  refine lv_bipush (v := -2) hx hb d_M_calls_17 (by decide) ?_
  cases h
  exact gret_i hx hb hr hlk hP hS d_M_calls_19
/-! ===== EscapeOwnersModel.points(II)I ===== -/
def f_M_points (F : Nat) (σ : St) (x1 : Int32) (x2 : Int32) : Option (Int32 × St) := Option.bind (f_M_isMethod σ x1) (fun u2 => if u2 = 0 then (some ((-2 : Int32), σ)) else (Option.bind (f_M_isName x2) (fun u9 => if u9 = 0 then (some ((-2 : Int32), σ)) else (Option.bind (f_M_solve F σ) (fun u19 => Option.bind (f_M_name u19 x1 x2) (fun u25 => some (u25, u19)))))))
set_option maxHeartbeats 4000000 in
set_option maxRecDepth 100000 in
theorem c_M_points (l : Launch) (D : va_G) (cI cZ : ClassId) (tL : Nat) (q : Nat → Nat) (tl : va_W) (F : Nat) (σ : St) (x1 : Int32) (x2 : Int32) (out0 : Int32 × St) (h : f_M_points F σ x1 x2 = some out0) : gCi l y_M_points (.code y_M_points b_M_points 3 (some .int) :: TB) { frames := 4, cells := 0, slots := 0, locals := 94 } D [(cI, .int), (cZ, .boolean)] tL [.ref (q 0), .int x1, .int x2] (wM cI cZ q σ ++ tl) out0.1 (wM cI cZ q out0.2 ++ tl) := by
  refine gCi_of (cc := b_M_points) (maxL := 3) (ty := .int) (by decide) rfl (Nat.le_of_ble_eq_true rfl) ?_
  intro p e s m below meth c A ls hf hr hlk hA hK hD0 hE hP hl
  obtain ⟨hx, hb, hml, hown, hts⟩ := id hf
  have hts : ∀ w ∈ TB, w.before _ s = true := fun w h => hts w (List.mem_cons_of_mem _ h)
  have hown : s.vm.findClass R_M = some m.cls := hown
  have hl : lv_has ls 3 [(0, .ref (q 0)), (1, .int x1), (2, .int x2)] := hl
  have hS : va_S A s.heap s.heap [] := va_S.rf
  have hD : ∀ σ' : St, va_D A (wM cI cZ q σ' ++ tl) := fun σ' => va_Dsame hD0 rfl
  unfold f_M_points at h
  refine lv_aload_n hx hb d_M_points_0 rfl (lv_at hl 0 rfl) ?_
  refine lv_iload_n hx hb d_M_points_1 rfl (lv_at hl 1 rfl) ?_
  obtain ⟨u2, hu2, h⟩ := bnd h
  refine gcall_i (va_runV (As := [.int x1]) (rest := []) ⟨hx, hb, hml, hown, hts⟩ (c_M_isMethod l D cI cZ tL q tl σ x1 u2 hu2 s.heap.size) (cwV 1 hts (gV w_483 w_484 w_714 w_6 w_485) rfl rfl rfl (by decide +kernel) ⟨Nat.le_of_ble_eq_true rfl, Nat.le_of_ble_eq_true rfl⟩) (gpV (k := 0) (ci := 5) hA hK (hD σ) hE hP hS rfl rfl) rfl rfl hl.1 rfl (lv_room (Nat.le_of_ble_eq_true rfl)) d_M_points_2 ⟨Nat.le_of_ble_eq_true rfl, Nat.le_of_ble_eq_true rfl⟩) hA (hD σ) hS (fun H locs hP hS => ?_)
  refine lv_if_eq (tgt := 15) hx hb d_M_points_5 (by decide) (fun c => ?_) (fun c => ?_)
  · have h := ifp c h
    refine lv_bipush (v := -2) hx hb d_M_points_15 (by decide) ?_
    cases h
    exact gret_i hx hb hr hlk hP hS d_M_points_17
  have h := ifn c h
  refine lv_iload_n hx hb d_M_points_8 rfl (lv_at hl 2 rfl) ?_
  obtain ⟨u9, hu9, h⟩ := bnd h
  refine gcall_i (va_runS (As := [.int x2]) (rest := []) ⟨hx, hb, hml, hown, hts⟩ (c_M_isName l D cI cZ tL (wM cI cZ q σ ++ tl) x2 u9 hu9 H.size) (va_cwS 1 hts (gS w_495 w_496 w_6 w_497) rfl rfl rfl (by decide +kernel) ⟨Nat.le_of_ble_eq_true rfl, Nat.le_of_ble_eq_true rfl⟩) (gpS hA hK (hD σ) hE hP hS) rfl rfl hl.1 rfl (lv_room (Nat.le_of_ble_eq_true rfl)) d_M_points_9 ⟨Nat.le_of_ble_eq_true rfl, Nat.le_of_ble_eq_true rfl⟩) hA (hD σ) hS (fun H locs hP hS => ?_)
  refine lv_if_ne (tgt := 18) hx hb d_M_points_12 (by decide) (fun c => ?_) (fun c => ?_)
  · have h := ifn c h
    refine lv_aload_n hx hb d_M_points_18 rfl (lv_at hl 0 rfl) ?_
    obtain ⟨u19, hu19, h⟩ := bnd h
    refine gcall_v (va_runV (As := []) (rest := []) ⟨hx, hb, hml, hown, hts⟩ (c_M_solve l D cI cZ tL q tl F σ  u19 hu19 H.size) (cwV 0 hts (gV w_516 w_517 w_730 w_6 w_518) rfl rfl rfl (by decide +kernel) ⟨Nat.le_of_ble_eq_true rfl, Nat.le_of_ble_eq_true rfl⟩) (gpV (k := 0) (ci := 5) hA hK (hD σ) hE hP hS rfl rfl) rfl rfl hl.1 rfl (lv_room (Nat.le_of_ble_eq_true rfl)) d_M_points_19 ⟨Nat.le_of_ble_eq_true rfl, Nat.le_of_ble_eq_true rfl⟩) hA (hD σ) hS (fun H locs hP hS => ?_)
    refine lv_aload_n hx hb d_M_points_22 rfl (lv_at hl 0 rfl) ?_
    refine lv_iload_n hx hb d_M_points_23 rfl (lv_at hl 1 rfl) ?_
    refine lv_iload_n hx hb d_M_points_24 rfl (lv_at hl 2 rfl) ?_
    obtain ⟨u25, hu25, h⟩ := bnd h
    refine gcall_i (va_runV (As := [.int x1, .int x2]) (rest := []) ⟨hx, hb, hml, hown, hts⟩ (c_M_name l D cI cZ tL q tl u19 x1 x2 u25 hu25 H.size) (cwV 2 hts (gV w_537 w_538 w_723 w_6 w_539) rfl rfl rfl (by decide +kernel) ⟨Nat.le_of_ble_eq_true rfl, Nat.le_of_ble_eq_true rfl⟩) (gpV (k := 0) (ci := 5) hA hK (hD u19) hE hP hS rfl rfl) rfl rfl hl.1 rfl (lv_room (Nat.le_of_ble_eq_true rfl)) d_M_points_25 ⟨Nat.le_of_ble_eq_true rfl, Nat.le_of_ble_eq_true rfl⟩) hA (hD u19) hS (fun H locs hP hS => ?_)
    cases h
    exact gret_i hx hb hr hlk hP hS d_M_points_28
  have h := ifp c h
  refine lv_bipush (v := -2) hx hb d_M_points_15 (by decide) ?_
  cases h
  exact gret_i hx hb hr hlk hP hS d_M_points_17
/-! ===== EscapeOwnersModel.isSite(I)Z ===== -/
def f_M_isSite (σ : St) (x1 : Int32) : Option (Int32) := Option.bind (f_M_isIn x1 (0 : Int32) ((σ 0 2) - (1 : Int32))) (fun u8 => if u8 = 0 ∨ u8 = 1 then some u8 else none)
set_option maxHeartbeats 4000000 in
set_option maxRecDepth 100000 in
theorem c_M_isSite (l : Launch) (D : va_G) (cI cZ : ClassId) (tL : Nat) (q : Nat → Nat) (tl : va_W) (σ : St) (x1 : Int32) (out0 : Int32) (h : f_M_isSite σ x1 = some out0) : gCi l y_M_isSite (.code y_M_isSite b_M_isSite 2 (some .boolean) :: TB) { frames := 1, cells := 0, slots := 0, locals := 22 } D [(cI, .int), (cZ, .boolean)] tL [.ref (q 0), .int x1] (wM cI cZ q σ ++ tl) out0 (wM cI cZ q σ ++ tl) := by
  refine gCi_of (cc := b_M_isSite) (maxL := 2) (ty := .boolean) (by decide) rfl (Nat.le_of_ble_eq_true rfl) ?_
  intro p e s m below meth c A ls hf hr hlk hA hK hD0 hE hP hl
  obtain ⟨hx, hb, hml, hown, hts⟩ := id hf
  have hts : ∀ w ∈ TB, w.before _ s = true := fun w h => hts w (List.mem_cons_of_mem _ h)
  have hown : s.vm.findClass R_M = some m.cls := hown
  have hl : lv_has ls 2 [(0, .ref (q 0)), (1, .int x1)] := hl
  have hS : va_S A s.heap s.heap [] := va_S.rf
  have hD : ∀ σ' : St, va_D A (wM cI cZ q σ' ++ tl) := fun σ' => va_Dsame hD0 rfl
  unfold f_M_isSite at h
  refine lv_iload_n hx hb d_M_isSite_0 rfl (lv_at hl 1 rfl) ?_
  refine lv_iconst (v := 0) hx hb d_M_isSite_1 (by decide) ?_
  refine lv_aload_n hx hb d_M_isSite_2 rfl (lv_at hl 0 rfl) ?_
  refine va_get (D := D) (ci := 5) (v := .int (σ 0 2)) (C := R_M) (T := T_M) (N := 17) hx hb hts l_M hown hK hP 0 rfl rfl 2 (by decide) (hts _ w_441) (fun _ h9 => h9) rfl d_M_isSite_3 ?_
  refine lv_iconst (v := 1) hx hb d_M_isSite_6 (by decide) ?_
  refine lv_isub hx hb d_M_isSite_7 ?_
  obtain ⟨u8, hu8, h⟩ := bnd h
  refine gcall_i (va_runS (As := [.int x1, .int (0 : Int32), .int ((σ 0 2) - (1 : Int32))]) (rest := []) ⟨hx, hb, hml, hown, hts⟩ (c_M_isIn l D cI cZ tL (wM cI cZ q σ ++ tl) x1 (0 : Int32) ((σ 0 2) - (1 : Int32)) u8 hu8 s.heap.size) (va_cwS 3 hts (gS w_486 w_487 w_6 w_488) rfl rfl rfl (by decide +kernel) ⟨Nat.le_of_ble_eq_true rfl, Nat.le_of_ble_eq_true rfl⟩) (gpS hA hK (hD σ) hE hP hS) rfl rfl hl.1 rfl (lv_room (Nat.le_of_ble_eq_true rfl)) d_M_isSite_8 ⟨Nat.le_of_ble_eq_true rfl, Nat.le_of_ble_eq_true rfl⟩) hA (hD σ) hS (fun H locs hP hS => ?_)
  obtain ⟨c, h⟩ := ifs h
  cases h
  exact gret_z hx hb hr hlk (gz c) hP hS d_M_isSite_11
/-! ===== EscapeOwnersModel.field(II)I ===== -/
def f_M_field (F : Nat) (σ : St) (x1 : Int32) (x2 : Int32) : Option (Int32 × St) := Option.bind (f_M_isSite σ x1) (fun u2 => if u2 = 0 then (some ((-2 : Int32), σ)) else (Option.bind (f_M_isIn x2 (0 : Int32) (3 : Int32)) (fun u11 => if u11 = 0 then (some ((-2 : Int32), σ)) else (Option.bind (f_M_solve F σ) (fun u21 => if ¬ ((((4 : Int32) * x1) + x2) < 0 ∨ 64 ≤ (((4 : Int32) * x1) + x2).toNatClampNeg) then (some (((u21 7) (((4 : Int32) * x1) + x2).toNatClampNeg), u21)) else none)))))
set_option maxHeartbeats 4000000 in
set_option maxRecDepth 100000 in
theorem c_M_field (l : Launch) (D : va_G) (cI cZ : ClassId) (tL : Nat) (q : Nat → Nat) (tl : va_W) (F : Nat) (σ : St) (x1 : Int32) (x2 : Int32) (out0 : Int32 × St) (h : f_M_field F σ x1 x2 = some out0) : gCi l y_M_field (.code y_M_field b_M_field 3 (some .int) :: TB) { frames := 4, cells := 0, slots := 0, locals := 94 } D [(cI, .int), (cZ, .boolean)] tL [.ref (q 0), .int x1, .int x2] (wM cI cZ q σ ++ tl) out0.1 (wM cI cZ q out0.2 ++ tl) := by
  refine gCi_of (cc := b_M_field) (maxL := 3) (ty := .int) (by decide) rfl (Nat.le_of_ble_eq_true rfl) ?_
  intro p e s m below meth c A ls hf hr hlk hA hK hD0 hE hP hl
  obtain ⟨hx, hb, hml, hown, hts⟩ := id hf
  have hts : ∀ w ∈ TB, w.before _ s = true := fun w h => hts w (List.mem_cons_of_mem _ h)
  have hown : s.vm.findClass R_M = some m.cls := hown
  have hl : lv_has ls 3 [(0, .ref (q 0)), (1, .int x1), (2, .int x2)] := hl
  have hS : va_S A s.heap s.heap [] := va_S.rf
  have hD : ∀ σ' : St, va_D A (wM cI cZ q σ' ++ tl) := fun σ' => va_Dsame hD0 rfl
  unfold f_M_field at h
  refine lv_aload_n hx hb d_M_field_0 rfl (lv_at hl 0 rfl) ?_
  refine lv_iload_n hx hb d_M_field_1 rfl (lv_at hl 1 rfl) ?_
  obtain ⟨u2, hu2, h⟩ := bnd h
  refine gcall_i (va_runV (As := [.int x1]) (rest := []) ⟨hx, hb, hml, hown, hts⟩ (c_M_isSite l D cI cZ tL q tl σ x1 u2 hu2 s.heap.size) (cwV 1 hts (gV w_561 w_562 w_717 w_6 w_563) rfl rfl rfl (by decide +kernel) ⟨Nat.le_of_ble_eq_true rfl, Nat.le_of_ble_eq_true rfl⟩) (gpV (k := 0) (ci := 5) hA hK (hD σ) hE hP hS rfl rfl) rfl rfl hl.1 rfl (lv_room (Nat.le_of_ble_eq_true rfl)) d_M_field_2 ⟨Nat.le_of_ble_eq_true rfl, Nat.le_of_ble_eq_true rfl⟩) hA (hD σ) hS (fun H locs hP hS => ?_)
  refine lv_if_eq (tgt := 17) hx hb d_M_field_5 (by decide) (fun c => ?_) (fun c => ?_)
  · have h := ifp c h
    refine lv_bipush (v := -2) hx hb d_M_field_17 (by decide) ?_
    cases h
    exact gret_i hx hb hr hlk hP hS d_M_field_19
  have h := ifn c h
  refine lv_iload_n hx hb d_M_field_8 rfl (lv_at hl 2 rfl) ?_
  refine lv_iconst (v := 0) hx hb d_M_field_9 (by decide) ?_
  refine lv_iconst (v := 3) hx hb d_M_field_10 (by decide) ?_
  obtain ⟨u11, hu11, h⟩ := bnd h
  refine gcall_i (va_runS (As := [.int x2, .int (0 : Int32), .int (3 : Int32)]) (rest := []) ⟨hx, hb, hml, hown, hts⟩ (c_M_isIn l D cI cZ tL (wM cI cZ q σ ++ tl) x2 (0 : Int32) (3 : Int32) u11 hu11 H.size) (va_cwS 3 hts (gS w_486 w_487 w_6 w_488) rfl rfl rfl (by decide +kernel) ⟨Nat.le_of_ble_eq_true rfl, Nat.le_of_ble_eq_true rfl⟩) (gpS hA hK (hD σ) hE hP hS) rfl rfl hl.1 rfl (lv_room (Nat.le_of_ble_eq_true rfl)) d_M_field_11 ⟨Nat.le_of_ble_eq_true rfl, Nat.le_of_ble_eq_true rfl⟩) hA (hD σ) hS (fun H locs hP hS => ?_)
  refine lv_if_ne (tgt := 20) hx hb d_M_field_14 (by decide) (fun c => ?_) (fun c => ?_)
  · have h := ifn c h
    refine lv_aload_n hx hb d_M_field_20 rfl (lv_at hl 0 rfl) ?_
    obtain ⟨u21, hu21, h⟩ := bnd h
    refine gcall_v (va_runV (As := []) (rest := []) ⟨hx, hb, hml, hown, hts⟩ (c_M_solve l D cI cZ tL q tl F σ  u21 hu21 H.size) (cwV 0 hts (gV w_516 w_517 w_730 w_6 w_518) rfl rfl rfl (by decide +kernel) ⟨Nat.le_of_ble_eq_true rfl, Nat.le_of_ble_eq_true rfl⟩) (gpV (k := 0) (ci := 5) hA hK (hD σ) hE hP hS rfl rfl) rfl rfl hl.1 rfl (lv_room (Nat.le_of_ble_eq_true rfl)) d_M_field_21 ⟨Nat.le_of_ble_eq_true rfl, Nat.le_of_ble_eq_true rfl⟩) hA (hD σ) hS (fun H locs hP hS => ?_)
    refine lv_aload_n hx hb d_M_field_24 rfl (lv_at hl 0 rfl) ?_
    refine va_get (D := D) (ci := 5) (v := .ref (q 7)) (C := R_M) (T := T_M) (N := 17) hx hb hts l_M hown hK hP 0 rfl rfl 9 (by decide) (hts _ w_448) (fun _ h9 => h9) rfl d_M_field_25 ?_
    refine lv_iconst (v := 4) hx hb d_M_field_28 (by decide) ?_
    refine lv_iload_n hx hb d_M_field_29 rfl (lv_at hl 1 rfl) ?_
    refine lv_imul hx hb d_M_field_30 ?_
    refine lv_iload_n hx hb d_M_field_31 rfl (lv_at hl 2 rfl) ?_
    refine lv_iadd hx hb d_M_field_32 ?_
    obtain ⟨c, h⟩ := ifs h
    refine va_iald hx hb hK hP 7 0 rfl rfl c d_M_field_33 ?_
    cases h
    exact gret_i hx hb hr hlk hP hS d_M_field_34
  have h := ifp c h
  refine lv_bipush (v := -2) hx hb d_M_field_17 (by decide) ?_
  cases h
  exact gret_i hx hb hr hlk hP hS d_M_field_19
/-! ===== EscapeOwnersModel.place(I)I ===== -/
def f_M_place (F : Nat) (σ : St) (x1 : Int32) : Option (Int32 × St) := Option.bind (f_M_isIn x1 (0 : Int32) (3 : Int32)) (fun u3 => if u3 = 0 then (some ((-2 : Int32), σ)) else (Option.bind (f_M_solve F σ) (fun u13 => if ¬ (x1 < 0 ∨ 4 ≤ x1.toNatClampNeg) then (some (((u13 8) x1.toNatClampNeg), u13)) else none)))
set_option maxHeartbeats 4000000 in
set_option maxRecDepth 100000 in
theorem c_M_place (l : Launch) (D : va_G) (cI cZ : ClassId) (tL : Nat) (q : Nat → Nat) (tl : va_W) (F : Nat) (σ : St) (x1 : Int32) (out0 : Int32 × St) (h : f_M_place F σ x1 = some out0) : gCi l y_M_place (.code y_M_place b_M_place 2 (some .int) :: TB) { frames := 4, cells := 0, slots := 0, locals := 94 } D [(cI, .int), (cZ, .boolean)] tL [.ref (q 0), .int x1] (wM cI cZ q σ ++ tl) out0.1 (wM cI cZ q out0.2 ++ tl) := by
  refine gCi_of (cc := b_M_place) (maxL := 2) (ty := .int) (by decide) rfl (Nat.le_of_ble_eq_true rfl) ?_
  intro p e s m below meth c A ls hf hr hlk hA hK hD0 hE hP hl
  obtain ⟨hx, hb, hml, hown, hts⟩ := id hf
  have hts : ∀ w ∈ TB, w.before _ s = true := fun w h => hts w (List.mem_cons_of_mem _ h)
  have hown : s.vm.findClass R_M = some m.cls := hown
  have hl : lv_has ls 2 [(0, .ref (q 0)), (1, .int x1)] := hl
  have hS : va_S A s.heap s.heap [] := va_S.rf
  have hD : ∀ σ' : St, va_D A (wM cI cZ q σ' ++ tl) := fun σ' => va_Dsame hD0 rfl
  unfold f_M_place at h
  refine lv_iload_n hx hb d_M_place_0 rfl (lv_at hl 1 rfl) ?_
  refine lv_iconst (v := 0) hx hb d_M_place_1 (by decide) ?_
  refine lv_iconst (v := 3) hx hb d_M_place_2 (by decide) ?_
  obtain ⟨u3, hu3, h⟩ := bnd h
  refine gcall_i (va_runS (As := [.int x1, .int (0 : Int32), .int (3 : Int32)]) (rest := []) ⟨hx, hb, hml, hown, hts⟩ (c_M_isIn l D cI cZ tL (wM cI cZ q σ ++ tl) x1 (0 : Int32) (3 : Int32) u3 hu3 s.heap.size) (va_cwS 3 hts (gS w_486 w_487 w_6 w_488) rfl rfl rfl (by decide +kernel) ⟨Nat.le_of_ble_eq_true rfl, Nat.le_of_ble_eq_true rfl⟩) (gpS hA hK (hD σ) hE hP hS) rfl rfl hl.1 rfl (lv_room (Nat.le_of_ble_eq_true rfl)) d_M_place_3 ⟨Nat.le_of_ble_eq_true rfl, Nat.le_of_ble_eq_true rfl⟩) hA (hD σ) hS (fun H locs hP hS => ?_)
  refine lv_if_ne (tgt := 12) hx hb d_M_place_6 (by decide) (fun c => ?_) (fun c => ?_)
  · have h := ifn c h
    refine lv_aload_n hx hb d_M_place_12 rfl (lv_at hl 0 rfl) ?_
    obtain ⟨u13, hu13, h⟩ := bnd h
    refine gcall_v (va_runV (As := []) (rest := []) ⟨hx, hb, hml, hown, hts⟩ (c_M_solve l D cI cZ tL q tl F σ  u13 hu13 H.size) (cwV 0 hts (gV w_516 w_517 w_730 w_6 w_518) rfl rfl rfl (by decide +kernel) ⟨Nat.le_of_ble_eq_true rfl, Nat.le_of_ble_eq_true rfl⟩) (gpV (k := 0) (ci := 5) hA hK (hD σ) hE hP hS rfl rfl) rfl rfl hl.1 rfl (lv_room (Nat.le_of_ble_eq_true rfl)) d_M_place_13 ⟨Nat.le_of_ble_eq_true rfl, Nat.le_of_ble_eq_true rfl⟩) hA (hD σ) hS (fun H locs hP hS => ?_)
    refine lv_aload_n hx hb d_M_place_16 rfl (lv_at hl 0 rfl) ?_
    refine va_get (D := D) (ci := 5) (v := .ref (q 8)) (C := R_M) (T := T_M) (N := 17) hx hb hts l_M hown hK hP 0 rfl rfl 10 (by decide) (hts _ w_449) (fun _ h9 => h9) rfl d_M_place_17 ?_
    refine lv_iload_n hx hb d_M_place_20 rfl (lv_at hl 1 rfl) ?_
    obtain ⟨c, h⟩ := ifs h
    refine va_iald hx hb hK hP 8 0 rfl rfl c d_M_place_21 ?_
    cases h
    exact gret_i hx hb hr hlk hP hS d_M_place_22
  have h := ifp c h
  refine lv_bipush (v := -2) hx hb d_M_place_9 (by decide) ?_
  cases h
  exact gret_i hx hb hr hlk hP hS d_M_place_11
/-! ===== EscapeOwnersModel.result(I)I ===== -/
def f_M_result (F : Nat) (σ : St) (x1 : Int32) : Option (Int32 × St) := Option.bind (f_M_isMethod σ x1) (fun u2 => if u2 = 0 then (some ((-2 : Int32), σ)) else (Option.bind (f_M_solve F σ) (fun u12 => if ¬ (x1 < 0 ∨ 8 ≤ x1.toNatClampNeg) then (some (((u12 9) x1.toNatClampNeg), u12)) else none)))
set_option maxHeartbeats 4000000 in
set_option maxRecDepth 100000 in
theorem c_M_result (l : Launch) (D : va_G) (cI cZ : ClassId) (tL : Nat) (q : Nat → Nat) (tl : va_W) (F : Nat) (σ : St) (x1 : Int32) (out0 : Int32 × St) (h : f_M_result F σ x1 = some out0) : gCi l y_M_result (.code y_M_result b_M_result 2 (some .int) :: TB) { frames := 4, cells := 0, slots := 0, locals := 94 } D [(cI, .int), (cZ, .boolean)] tL [.ref (q 0), .int x1] (wM cI cZ q σ ++ tl) out0.1 (wM cI cZ q out0.2 ++ tl) := by
  refine gCi_of (cc := b_M_result) (maxL := 2) (ty := .int) (by decide) rfl (Nat.le_of_ble_eq_true rfl) ?_
  intro p e s m below meth c A ls hf hr hlk hA hK hD0 hE hP hl
  obtain ⟨hx, hb, hml, hown, hts⟩ := id hf
  have hts : ∀ w ∈ TB, w.before _ s = true := fun w h => hts w (List.mem_cons_of_mem _ h)
  have hown : s.vm.findClass R_M = some m.cls := hown
  have hl : lv_has ls 2 [(0, .ref (q 0)), (1, .int x1)] := hl
  have hS : va_S A s.heap s.heap [] := va_S.rf
  have hD : ∀ σ' : St, va_D A (wM cI cZ q σ' ++ tl) := fun σ' => va_Dsame hD0 rfl
  unfold f_M_result at h
  refine lv_aload_n hx hb d_M_result_0 rfl (lv_at hl 0 rfl) ?_
  refine lv_iload_n hx hb d_M_result_1 rfl (lv_at hl 1 rfl) ?_
  obtain ⟨u2, hu2, h⟩ := bnd h
  refine gcall_i (va_runV (As := [.int x1]) (rest := []) ⟨hx, hb, hml, hown, hts⟩ (c_M_isMethod l D cI cZ tL q tl σ x1 u2 hu2 s.heap.size) (cwV 1 hts (gV w_483 w_484 w_714 w_6 w_485) rfl rfl rfl (by decide +kernel) ⟨Nat.le_of_ble_eq_true rfl, Nat.le_of_ble_eq_true rfl⟩) (gpV (k := 0) (ci := 5) hA hK (hD σ) hE hP hS rfl rfl) rfl rfl hl.1 rfl (lv_room (Nat.le_of_ble_eq_true rfl)) d_M_result_2 ⟨Nat.le_of_ble_eq_true rfl, Nat.le_of_ble_eq_true rfl⟩) hA (hD σ) hS (fun H locs hP hS => ?_)
  refine lv_if_ne (tgt := 11) hx hb d_M_result_5 (by decide) (fun c => ?_) (fun c => ?_)
  · have h := ifn c h
    refine lv_aload_n hx hb d_M_result_11 rfl (lv_at hl 0 rfl) ?_
    obtain ⟨u12, hu12, h⟩ := bnd h
    refine gcall_v (va_runV (As := []) (rest := []) ⟨hx, hb, hml, hown, hts⟩ (c_M_solve l D cI cZ tL q tl F σ  u12 hu12 H.size) (cwV 0 hts (gV w_516 w_517 w_730 w_6 w_518) rfl rfl rfl (by decide +kernel) ⟨Nat.le_of_ble_eq_true rfl, Nat.le_of_ble_eq_true rfl⟩) (gpV (k := 0) (ci := 5) hA hK (hD σ) hE hP hS rfl rfl) rfl rfl hl.1 rfl (lv_room (Nat.le_of_ble_eq_true rfl)) d_M_result_12 ⟨Nat.le_of_ble_eq_true rfl, Nat.le_of_ble_eq_true rfl⟩) hA (hD σ) hS (fun H locs hP hS => ?_)
    refine lv_aload_n hx hb d_M_result_15 rfl (lv_at hl 0 rfl) ?_
    refine va_get (D := D) (ci := 5) (v := .ref (q 9)) (C := R_M) (T := T_M) (N := 17) hx hb hts l_M hown hK hP 0 rfl rfl 11 (by decide) (hts _ w_450) (fun _ h9 => h9) rfl d_M_result_16 ?_
    refine lv_iload_n hx hb d_M_result_19 rfl (lv_at hl 1 rfl) ?_
    obtain ⟨c, h⟩ := ifs h
    refine va_iald hx hb hK hP 9 0 rfl rfl c d_M_result_20 ?_
    cases h
    exact gret_i hx hb hr hlk hP hS d_M_result_21
  have h := ifp c h
  refine lv_bipush (v := -2) hx hb d_M_result_8 (by decide) ?_
  cases h
  exact gret_i hx hb hr hlk hP hS d_M_result_10
/-! ===== EscapeOwnersModel.allFields(I)I ===== -/
def f_M_allFields_B4 (F : Nat) (σ : St) (y1 : Int32) (rec : Int32 → Int32 → Option (Int32 × Int32)) (y2 : Int32) (y3 : Int32) : Option (Int32 × Int32) := if (4 : Int32) ≤ y3 then (some (y2, y3)) else (Option.bind (f_M_fromField F σ y1 y3) (fun u13 => rec (y2 ||| u13) (y3 + (1 : Int32))))
def f_M_allFields_L4 (F : Nat) (σ : St) (y1 : Int32) : Nat → Int32 → Int32 → Option (Int32 × Int32)
  | 0, _, _ => none
  | fu + 1, y2, y3 => f_M_allFields_B4 F σ y1 (f_M_allFields_L4 F σ y1 fu) y2 y3
def f_M_allFields (F : Nat) (σ : St) (x1 : Int32) : Option (Int32) := Option.bind (f_M_allFields_L4 F σ x1 F (0 : Int32) (0 : Int32)) (fun u4 => some u4.1)
set_option maxHeartbeats 4000000 in
set_option maxRecDepth 100000 in
theorem c_M_allFields (l : Launch) (D : va_G) (cI cZ : ClassId) (tL : Nat) (q : Nat → Nat) (tl : va_W) (F : Nat) (σ : St) (x1 : Int32) (out0 : Int32) (h : f_M_allFields F σ x1 = some out0) : gCi l y_M_allFields (.code y_M_allFields b_M_allFields 4 (some .int) :: TB) { frames := 2, cells := 0, slots := 0, locals := 45 } D [(cI, .int), (cZ, .boolean)] tL [.ref (q 0), .int x1] (wM cI cZ q σ ++ tl) out0 (wM cI cZ q σ ++ tl) := by
  refine gCi_of (cc := b_M_allFields) (maxL := 4) (ty := .int) (by decide) rfl (Nat.le_of_ble_eq_true rfl) ?_
  intro p e s m below meth c A ls hf hr hlk hA hK hD0 hE hP hl
  obtain ⟨hx, hb, hml, hown, hts⟩ := id hf
  have hts : ∀ w ∈ TB, w.before _ s = true := fun w h => hts w (List.mem_cons_of_mem _ h)
  have hown : s.vm.findClass R_M = some m.cls := hown
  have hl : lv_has ls 4 [(0, .ref (q 0)), (1, .int x1)] := hl
  have hS : va_S A s.heap s.heap [] := va_S.rf
  have hD : ∀ σ' : St, va_D A (wM cI cZ q σ' ++ tl) := fun σ' => va_Dsame hD0 rfl
  have L4 : ∀ (σ : St) (y1 : Int32) (fu : Nat) (y2 : Int32) (y3 : Int32) (H : Heap) (locs : List Loc) (ls : Array Slot) (out : Int32 × Int32), f_M_allFields_L4 F σ y1 fu y2 y3 = some out → va_P D vwCl (wM cI cZ q σ ++ tl) H → va_S A s.heap H locs → lv_has ls 4 [(0, .ref (q 0)), (1, .int y1), (2, .int y2), (3, .int y3)] → (∀ (H : Heap) (locs : List Loc) (ls : Array Slot), va_P D vwCl (wM cI cZ q σ ++ tl) H → va_S A s.heap H locs → lv_has ls 4 [(0, .ref (q 0)), (1, .int y1), (2, .int out.1), (3, .int out.2)] → W p l e { frames := 2, cells := 0, slots := 0, locals := 45 } s m ([.ref (q 0), .int x1] : List Value).toArray below meth c H locs 0 0 (gQi below D out0 (wM cI cZ q σ ++ tl) A (([.ref (q 0), .int x1] : List Value).toArray) s) (F0 m 24 ls [])) → W p l e { frames := 2, cells := 0, slots := 0, locals := 45 } s m ([.ref (q 0), .int x1] : List Value).toArray below meth c H locs 0 0 (gQi below D out0 (wM cI cZ q σ ++ tl) A (([.ref (q 0), .int x1] : List Value).toArray) s) (F0 m 4 ls []) := by
    intro σ y1 fu
    induction fu with
    | zero => intro y2 y3 H locs ls out h; exact absurd (show (none : Option (Int32 × Int32)) = some out from h) (fun z => by cases z)
    | succ fu ih =>
      intro y2 y3 H locs ls out h hP hS hl K
      have h : f_M_allFields_B4 F σ y1 (f_M_allFields_L4 F σ y1 fu) y2 y3 = some out := h
      unfold f_M_allFields_B4 at h
      refine lv_iload_n hx hb d_M_allFields_4 rfl (lv_at hl 3 rfl) ?_
      refine lv_iconst (v := 4) hx hb d_M_allFields_5 (by decide) ?_
      refine lv_icmp_ge (tgt := 24) hx hb d_M_allFields_6 (by decide) (fun c => ?_) (fun c => ?_)
      · have h := ifp c h
        cases h
        exact K _ _ ls hP hS (lv_sub hl [0, 1, 2, 3] rfl)
      have h := ifn c h
      refine lv_iload_n hx hb d_M_allFields_9 rfl (lv_at hl 2 rfl) ?_
      refine lv_aload_n hx hb d_M_allFields_10 rfl (lv_at hl 0 rfl) ?_
      refine lv_iload_n hx hb d_M_allFields_11 rfl (lv_at hl 1 rfl) ?_
      refine lv_iload_n hx hb d_M_allFields_12 rfl (lv_at hl 3 rfl) ?_
      obtain ⟨u13, hu13, h⟩ := bnd h
      refine gcall_i (va_runV (As := [.int y1, .int y3]) (rest := [.int y2]) ⟨hx, hb, hml, hown, hts⟩ (c_M_fromField l D cI cZ tL q tl F σ y1 y3 u13 hu13 H.size) (cwV 2 hts (gV w_540 w_541 w_703 w_6 w_542) rfl rfl rfl (by decide +kernel) ⟨Nat.le_of_ble_eq_true rfl, Nat.le_of_ble_eq_true rfl⟩) (gpV (k := 0) (ci := 5) hA hK (hD σ) hE hP hS rfl rfl) rfl rfl hl.1 rfl (lv_room (Nat.le_of_ble_eq_true rfl)) d_M_allFields_13 ⟨Nat.le_of_ble_eq_true rfl, Nat.le_of_ble_eq_true rfl⟩) hA (hD σ) hS (fun H locs hP hS => ?_)
      refine lv_ior hx hb d_M_allFields_16 ?_
      refine lv_istore_n (lv' := [(2, .int (y2 ||| u13)), (0, .ref (q 0)), (1, .int y1), (3, .int y3)]) hx hb d_M_allFields_17 rfl hl (by decide) rfl (fun ls hl => ?_)
      refine lv_iinc (v := (y3 + (1 : Int32))) (lv' := [(3, .int (y3 + (1 : Int32))), (2, .int (y2 ||| u13)), (0, .ref (q 0)), (1, .int y1)]) hx hb d_M_allFields_18 hl (k := 3) rfl rfl (by decide) rfl (fun ls hl => ?_)
      refine lv_goto (tgt := 4) hx hb d_M_allFields_21 (by decide) ?_
      exact ih (y2 ||| u13) (y3 + (1 : Int32)) _ _ ls out h hP hS (lv_sub hl [2, 3, 1, 0] rfl) K
  unfold f_M_allFields at h
  refine lv_iconst (v := 0) hx hb d_M_allFields_0 (by decide) ?_
  refine lv_istore_n (lv' := [(2, .int (0 : Int32)), (0, .ref (q 0)), (1, .int x1)]) hx hb d_M_allFields_1 rfl hl (by decide) rfl (fun ls hl => ?_)
  refine lv_iconst (v := 0) hx hb d_M_allFields_2 (by decide) ?_
  refine lv_istore_n (lv' := [(3, .int (0 : Int32)), (2, .int (0 : Int32)), (0, .ref (q 0)), (1, .int x1)]) hx hb d_M_allFields_3 rfl hl (by decide) rfl (fun ls hl => ?_)
  obtain ⟨u4, hu4, h⟩ := bnd h
  refine L4 σ x1 F (0 : Int32) (0 : Int32) _ _ ls u4 hu4 hP hS (lv_sub hl [2, 3, 1, 0] rfl) (fun H locs ls hP hS hl => ?_)
  refine lv_iload_n hx hb d_M_allFields_24 rfl (lv_at hl 2 rfl) ?_
  cases h
  exact gret_i hx hb hr hlk hP hS d_M_allFields_25
/-! ===== EscapeOwnersModel.closed(I)I ===== -/
def f_M_closed_B4 (F : Nat) (σ : St) (rec : Int32 → Int32 → Option (Int32 × Int32)) (y2 : Int32) (y3 : Int32) : Option (Int32 × Int32) := if y2 = y3 then (some (y2, y3)) else (Option.bind (f_M_allFields F σ y2) (fun u14 => rec (y2 ||| u14) y2))
def f_M_closed_L4 (F : Nat) (σ : St) : Nat → Int32 → Int32 → Option (Int32 × Int32)
  | 0, _, _ => none
  | fu + 1, y2, y3 => f_M_closed_B4 F σ (f_M_closed_L4 F σ fu) y2 y3
def f_M_closed (F : Nat) (σ : St) (x1 : Int32) : Option (Int32) := Option.bind (f_M_closed_L4 F σ F x1 (0 : Int32)) (fun u4 => some u4.1)
set_option maxHeartbeats 4000000 in
set_option maxRecDepth 100000 in
theorem c_M_closed (l : Launch) (D : va_G) (cI cZ : ClassId) (tL : Nat) (q : Nat → Nat) (tl : va_W) (F : Nat) (σ : St) (x1 : Int32) (out0 : Int32) (h : f_M_closed F σ x1 = some out0) : gCi l y_M_closed (.code y_M_closed b_M_closed 4 (some .int) :: TB) { frames := 3, cells := 0, slots := 0, locals := 68 } D [(cI, .int), (cZ, .boolean)] tL [.ref (q 0), .int x1] (wM cI cZ q σ ++ tl) out0 (wM cI cZ q σ ++ tl) := by
  refine gCi_of (cc := b_M_closed) (maxL := 4) (ty := .int) (by decide) rfl (Nat.le_of_ble_eq_true rfl) ?_
  intro p e s m below meth c A ls hf hr hlk hA hK hD0 hE hP hl
  obtain ⟨hx, hb, hml, hown, hts⟩ := id hf
  have hts : ∀ w ∈ TB, w.before _ s = true := fun w h => hts w (List.mem_cons_of_mem _ h)
  have hown : s.vm.findClass R_M = some m.cls := hown
  have hl : lv_has ls 4 [(0, .ref (q 0)), (1, .int x1)] := hl
  have hS : va_S A s.heap s.heap [] := va_S.rf
  have hD : ∀ σ' : St, va_D A (wM cI cZ q σ' ++ tl) := fun σ' => va_Dsame hD0 rfl
  have L4 : ∀ (σ : St) (fu : Nat) (y2 : Int32) (y3 : Int32) (H : Heap) (locs : List Loc) (ls : Array Slot) (out : Int32 × Int32), f_M_closed_L4 F σ fu y2 y3 = some out → va_P D vwCl (wM cI cZ q σ ++ tl) H → va_S A s.heap H locs → lv_has ls 4 [(0, .ref (q 0)), (2, .int y2), (3, .int y3)] → (∀ (H : Heap) (locs : List Loc) (ls : Array Slot), va_P D vwCl (wM cI cZ q σ ++ tl) H → va_S A s.heap H locs → lv_has ls 4 [(0, .ref (q 0)), (2, .int out.1), (3, .int out.2)] → W p l e { frames := 3, cells := 0, slots := 0, locals := 68 } s m ([.ref (q 0), .int x1] : List Value).toArray below meth c H locs 0 0 (gQi below D out0 (wM cI cZ q σ ++ tl) A (([.ref (q 0), .int x1] : List Value).toArray) s) (F0 m 22 ls [])) → W p l e { frames := 3, cells := 0, slots := 0, locals := 68 } s m ([.ref (q 0), .int x1] : List Value).toArray below meth c H locs 0 0 (gQi below D out0 (wM cI cZ q σ ++ tl) A (([.ref (q 0), .int x1] : List Value).toArray) s) (F0 m 4 ls []) := by
    intro σ fu
    induction fu with
    | zero => intro y2 y3 H locs ls out h; exact absurd (show (none : Option (Int32 × Int32)) = some out from h) (fun z => by cases z)
    | succ fu ih =>
      intro y2 y3 H locs ls out h hP hS hl K
      have h : f_M_closed_B4 F σ (f_M_closed_L4 F σ fu) y2 y3 = some out := h
      unfold f_M_closed_B4 at h
      refine lv_iload_n hx hb d_M_closed_4 rfl (lv_at hl 1 rfl) ?_
      refine lv_iload_n hx hb d_M_closed_5 rfl (lv_at hl 2 rfl) ?_
      refine lv_icmp_eq (tgt := 22) hx hb d_M_closed_6 (by decide) (fun c => ?_) (fun c => ?_)
      · have h := ifp c h
        cases h
        exact K _ _ ls hP hS (lv_sub hl [0, 1, 2] rfl)
      have h := ifn c h
      refine lv_iload_n hx hb d_M_closed_9 rfl (lv_at hl 1 rfl) ?_
      refine lv_istore_n (lv' := [(3, .int y2), (0, .ref (q 0)), (2, .int y2)]) hx hb d_M_closed_10 rfl hl (by decide) rfl (fun ls hl => ?_)
      refine lv_iload_n hx hb d_M_closed_11 rfl (lv_at hl 2 rfl) ?_
      refine lv_aload_n hx hb d_M_closed_12 rfl (lv_at hl 1 rfl) ?_
      refine lv_iload_n hx hb d_M_closed_13 rfl (lv_at hl 2 rfl) ?_
      obtain ⟨u14, hu14, h⟩ := bnd h
      refine gcall_i (va_runV (As := [.int y2]) (rest := [.int y2]) ⟨hx, hb, hml, hown, hts⟩ (c_M_allFields l D cI cZ tL q tl F σ y2 u14 hu14 H.size) (cwV 1 hts (gV w_585 w_586 w_696 w_6 w_587) rfl rfl rfl (by decide +kernel) ⟨Nat.le_of_ble_eq_true rfl, Nat.le_of_ble_eq_true rfl⟩) (gpV (k := 0) (ci := 5) hA hK (hD σ) hE hP hS rfl rfl) rfl rfl hl.1 rfl (lv_room (Nat.le_of_ble_eq_true rfl)) d_M_closed_14 ⟨Nat.le_of_ble_eq_true rfl, Nat.le_of_ble_eq_true rfl⟩) hA (hD σ) hS (fun H locs hP hS => ?_)
      refine lv_ior hx hb d_M_closed_17 ?_
      refine lv_istore_n (lv' := [(2, .int (y2 ||| u14)), (3, .int y2), (0, .ref (q 0))]) hx hb d_M_closed_18 rfl hl (by decide) rfl (fun ls hl => ?_)
      refine lv_goto (tgt := 4) hx hb d_M_closed_19 (by decide) ?_
      exact ih (y2 ||| u14) y2 _ _ ls out h hP hS (lv_sub hl [2, 0, 1] rfl) K
  unfold f_M_closed at h
  refine lv_iload_n hx hb d_M_closed_0 rfl (lv_at hl 1 rfl) ?_
  refine lv_istore_n (lv' := [(2, .int x1), (0, .ref (q 0)), (1, .int x1)]) hx hb d_M_closed_1 rfl hl (by decide) rfl (fun ls hl => ?_)
  refine lv_iconst (v := 0) hx hb d_M_closed_2 (by decide) ?_
  refine lv_istore_n (lv' := [(3, .int (0 : Int32)), (2, .int x1), (0, .ref (q 0)), (1, .int x1)]) hx hb d_M_closed_3 rfl hl (by decide) rfl (fun ls hl => ?_)
  obtain ⟨u4, hu4, h⟩ := bnd h
  refine L4 σ F x1 (0 : Int32) _ _ ls u4 hu4 hP hS (lv_sub hl [2, 1, 0] rfl) (fun H locs ls hP hS hl => ?_)
  refine lv_iload_n hx hb d_M_closed_22 rfl (lv_at hl 1 rfl) ?_
  cases h
  exact gret_i hx hb hr hlk hP hS d_M_closed_23
/-! ===== EscapeOwnersModel.placed()I ===== -/
def f_M_placed (σ : St) : Option (Int32) := if ¬ ((0 : Int32) < 0 ∨ 4 ≤ (0 : Int32).toNatClampNeg) then (if ¬ ((1 : Int32) < 0 ∨ 4 ≤ (1 : Int32).toNatClampNeg) then (if ¬ ((2 : Int32) < 0 ∨ 4 ≤ (2 : Int32).toNatClampNeg) then (if ¬ ((3 : Int32) < 0 ∨ 4 ≤ (3 : Int32).toNatClampNeg) then (some (((((σ 8) (0 : Int32).toNatClampNeg) ||| ((σ 8) (1 : Int32).toNatClampNeg)) ||| ((σ 8) (2 : Int32).toNatClampNeg)) ||| ((σ 8) (3 : Int32).toNatClampNeg))) else none) else none) else none) else none
set_option maxHeartbeats 4000000 in
set_option maxRecDepth 100000 in
theorem c_M_placed (l : Launch) (D : va_G) (cI cZ : ClassId) (tL : Nat) (q : Nat → Nat) (tl : va_W) (σ : St) (out0 : Int32) (h : f_M_placed σ = some out0) : gCi l y_M_placed (.code y_M_placed b_M_placed 1 (some .int) :: TB) { frames := 0, cells := 0, slots := 0, locals := 0 } D [(cI, .int), (cZ, .boolean)] tL [.ref (q 0)] (wM cI cZ q σ ++ tl) out0 (wM cI cZ q σ ++ tl) := by
  refine gCi_of (cc := b_M_placed) (maxL := 1) (ty := .int) (by decide) rfl (Nat.le_of_ble_eq_true rfl) ?_
  intro p e s m below meth c A ls hf hr hlk hA hK hD0 hE hP hl
  obtain ⟨hx, hb, hml, hown, hts⟩ := id hf
  have hts : ∀ w ∈ TB, w.before _ s = true := fun w h => hts w (List.mem_cons_of_mem _ h)
  have hown : s.vm.findClass R_M = some m.cls := hown
  have hl : lv_has ls 1 [(0, .ref (q 0))] := hl
  have hS : va_S A s.heap s.heap [] := va_S.rf
  have hD : ∀ σ' : St, va_D A (wM cI cZ q σ' ++ tl) := fun σ' => va_Dsame hD0 rfl
  unfold f_M_placed at h
  refine lv_aload_n hx hb d_M_placed_0 rfl (lv_at hl 0 rfl) ?_
  refine va_get (D := D) (ci := 5) (v := .ref (q 8)) (C := R_M) (T := T_M) (N := 17) hx hb hts l_M hown hK hP 0 rfl rfl 10 (by decide) (hts _ w_449) (fun _ h9 => h9) rfl d_M_placed_1 ?_
  refine lv_iconst (v := 0) hx hb d_M_placed_4 (by decide) ?_
  obtain ⟨c, h⟩ := ifs h
  refine va_iald hx hb hK hP 8 0 rfl rfl c d_M_placed_5 ?_
  refine lv_aload_n hx hb d_M_placed_6 rfl (lv_at hl 0 rfl) ?_
  refine va_get (D := D) (ci := 5) (v := .ref (q 8)) (C := R_M) (T := T_M) (N := 17) hx hb hts l_M hown hK hP 0 rfl rfl 10 (by decide) (hts _ w_449) (fun _ h9 => h9) rfl d_M_placed_7 ?_
  refine lv_iconst (v := 1) hx hb d_M_placed_10 (by decide) ?_
  obtain ⟨c, h⟩ := ifs h
  refine va_iald hx hb hK hP 8 0 rfl rfl c d_M_placed_11 ?_
  refine lv_ior hx hb d_M_placed_12 ?_
  refine lv_aload_n hx hb d_M_placed_13 rfl (lv_at hl 0 rfl) ?_
  refine va_get (D := D) (ci := 5) (v := .ref (q 8)) (C := R_M) (T := T_M) (N := 17) hx hb hts l_M hown hK hP 0 rfl rfl 10 (by decide) (hts _ w_449) (fun _ h9 => h9) rfl d_M_placed_14 ?_
  refine lv_iconst (v := 2) hx hb d_M_placed_17 (by decide) ?_
  obtain ⟨c, h⟩ := ifs h
  refine va_iald hx hb hK hP 8 0 rfl rfl c d_M_placed_18 ?_
  refine lv_ior hx hb d_M_placed_19 ?_
  refine lv_aload_n hx hb d_M_placed_20 rfl (lv_at hl 0 rfl) ?_
  refine va_get (D := D) (ci := 5) (v := .ref (q 8)) (C := R_M) (T := T_M) (N := 17) hx hb hts l_M hown hK hP 0 rfl rfl 10 (by decide) (hts _ w_449) (fun _ h9 => h9) rfl d_M_placed_21 ?_
  refine lv_iconst (v := 3) hx hb d_M_placed_24 (by decide) ?_
  obtain ⟨c, h⟩ := ifs h
  refine va_iald hx hb hK hP 8 0 rfl rfl c d_M_placed_25 ?_
  refine lv_ior hx hb d_M_placed_26 ?_
  cases h
  exact gret_i hx hb hr hlk hP hS d_M_placed_27
/-! ===== EscapeOwnersModel.firstShared()I ===== -/
def f_M_firstShared_B7 (F : Nat) (σ : St) (rec : Int32 → Int32 → Option (Int32 × Int32)) (y1 : Int32) (y2 : Int32) : Option (Int32 × Int32) := if (σ 0 1) ≤ y2 then (some (y1, y2)) else (Option.bind (f_M_isLive σ y2) (fun u17 => if u17 = 0 then (if (0 : Int32) = 0 then (rec y1 (y2 + (1 : Int32))) else (if ¬ (y2 < 0 ∨ 64 ≤ y2.toNatClampNeg) then (if ¬ (((5 : Int32) * y2) < 0 ∨ 320 ≤ ((5 : Int32) * y2).toNatClampNeg) then (Option.bind (f_M_name σ ((σ 1) y2.toNatClampNeg) ((σ 4) ((5 : Int32) * y2).toNatClampNeg)) (fun u71 => rec (y1 ||| u71) (y2 + (1 : Int32)))) else none) else none)) else (if ¬ (y2 < 0 ∨ 64 ≤ y2.toNatClampNeg) then (if ((σ 2) y2.toNatClampNeg) = (8 : Int32) then (if (1 : Int32) = 0 then (rec y1 (y2 + (1 : Int32))) else (if ¬ (y2 < 0 ∨ 64 ≤ y2.toNatClampNeg) then (if ¬ (((5 : Int32) * y2) < 0 ∨ 320 ≤ ((5 : Int32) * y2).toNatClampNeg) then (Option.bind (f_M_name σ ((σ 1) y2.toNatClampNeg) ((σ 4) ((5 : Int32) * y2).toNatClampNeg)) (fun u71 => rec (y1 ||| u71) (y2 + (1 : Int32)))) else none) else none)) else (if ¬ (y2 < 0 ∨ 64 ≤ y2.toNatClampNeg) then (if ((σ 2) y2.toNatClampNeg) = (9 : Int32) then (if (1 : Int32) = 0 then (rec y1 (y2 + (1 : Int32))) else (if ¬ (y2 < 0 ∨ 64 ≤ y2.toNatClampNeg) then (if ¬ (((5 : Int32) * y2) < 0 ∨ 320 ≤ ((5 : Int32) * y2).toNatClampNeg) then (Option.bind (f_M_name σ ((σ 1) y2.toNatClampNeg) ((σ 4) ((5 : Int32) * y2).toNatClampNeg)) (fun u71 => rec (y1 ||| u71) (y2 + (1 : Int32)))) else none) else none)) else (if (0 : Int32) = 0 then (rec y1 (y2 + (1 : Int32))) else (if ¬ (y2 < 0 ∨ 64 ≤ y2.toNatClampNeg) then (if ¬ (((5 : Int32) * y2) < 0 ∨ 320 ≤ ((5 : Int32) * y2).toNatClampNeg) then (Option.bind (f_M_name σ ((σ 1) y2.toNatClampNeg) ((σ 4) ((5 : Int32) * y2).toNatClampNeg)) (fun u71 => rec (y1 ||| u71) (y2 + (1 : Int32)))) else none) else none))) else none)) else none)))
def f_M_firstShared_L7 (F : Nat) (σ : St) : Nat → Int32 → Int32 → Option (Int32 × Int32)
  | 0, _, _ => none
  | fu + 1, y1, y2 => f_M_firstShared_B7 F σ (f_M_firstShared_L7 F σ fu) y1 y2
def f_M_firstShared (F : Nat) (σ : St) : Option (Int32) := Option.bind (f_M_placed σ) (fun u1 => Option.bind (f_M_firstShared_L7 F σ F u1 (0 : Int32)) (fun u7 => some u7.1))
set_option maxHeartbeats 4000000 in
set_option maxRecDepth 100000 in
theorem c_M_firstShared (l : Launch) (D : va_G) (cI cZ : ClassId) (tL : Nat) (q : Nat → Nat) (tl : va_W) (F : Nat) (σ : St) (out0 : Int32) (h : f_M_firstShared F σ = some out0) : gCi l y_M_firstShared (.code y_M_firstShared b_M_firstShared 4 (some .int) :: TB) { frames := 2, cells := 0, slots := 0, locals := 42 } D [(cI, .int), (cZ, .boolean)] tL [.ref (q 0)] (wM cI cZ q σ ++ tl) out0 (wM cI cZ q σ ++ tl) := by
  refine gCi_of (cc := b_M_firstShared) (maxL := 4) (ty := .int) (by decide) rfl (Nat.le_of_ble_eq_true rfl) ?_
  intro p e s m below meth c A ls hf hr hlk hA hK hD0 hE hP hl
  obtain ⟨hx, hb, hml, hown, hts⟩ := id hf
  have hts : ∀ w ∈ TB, w.before _ s = true := fun w h => hts w (List.mem_cons_of_mem _ h)
  have hown : s.vm.findClass R_M = some m.cls := hown
  have hl : lv_has ls 4 [(0, .ref (q 0))] := hl
  have hS : va_S A s.heap s.heap [] := va_S.rf
  have hD : ∀ σ' : St, va_D A (wM cI cZ q σ' ++ tl) := fun σ' => va_Dsame hD0 rfl
  have L7 : ∀ (σ : St) (fu : Nat) (y1 : Int32) (y2 : Int32) (H : Heap) (locs : List Loc) (ls : Array Slot) (out : Int32 × Int32), f_M_firstShared_L7 F σ fu y1 y2 = some out → va_P D vwCl (wM cI cZ q σ ++ tl) H → va_S A s.heap H locs → lv_has ls 4 [(0, .ref (q 0)), (1, .int y1), (2, .int y2)] → (∀ (H : Heap) (locs : List Loc) (ls : Array Slot), va_P D vwCl (wM cI cZ q σ ++ tl) H → va_S A s.heap H locs → lv_has ls 4 [(0, .ref (q 0)), (1, .int out.1), (2, .int out.2)] → W p l e { frames := 2, cells := 0, slots := 0, locals := 42 } s m ([.ref (q 0)] : List Value).toArray below meth c H locs 0 0 (gQi below D out0 (wM cI cZ q σ ++ tl) A (([.ref (q 0)] : List Value).toArray) s) (F0 m 86 ls [])) → W p l e { frames := 2, cells := 0, slots := 0, locals := 42 } s m ([.ref (q 0)] : List Value).toArray below meth c H locs 0 0 (gQi below D out0 (wM cI cZ q σ ++ tl) A (([.ref (q 0)] : List Value).toArray) s) (F0 m 7 ls []) := by
    intro σ fu
    induction fu with
    | zero => intro y1 y2 H locs ls out h; exact absurd (show (none : Option (Int32 × Int32)) = some out from h) (fun z => by cases z)
    | succ fu ih =>
      intro y1 y2 H locs ls out h hP hS hl K
      have h : f_M_firstShared_B7 F σ (f_M_firstShared_L7 F σ fu) y1 y2 = some out := h
      unfold f_M_firstShared_B7 at h
      refine lv_iload_n hx hb d_M_firstShared_7 rfl (lv_at hl 2 rfl) ?_
      refine lv_aload_n hx hb d_M_firstShared_8 rfl (lv_at hl 0 rfl) ?_
      refine va_get (D := D) (ci := 5) (v := .int (σ 0 1)) (C := R_M) (T := T_M) (N := 17) hx hb hts l_M hown hK hP 0 rfl rfl 1 (by decide) (hts _ w_440) (fun _ h9 => h9) rfl d_M_firstShared_9 ?_
      refine lv_icmp_ge (tgt := 86) hx hb d_M_firstShared_12 (by decide) (fun c => ?_) (fun c => ?_)
      · have h := ifp c h
        cases h
        exact K _ _ ls hP hS (lv_sub hl [0, 1, 2] rfl)
      have h := ifn c h
      refine lv_aload_n hx hb d_M_firstShared_15 rfl (lv_at hl 0 rfl) ?_
      refine lv_iload_n hx hb d_M_firstShared_16 rfl (lv_at hl 2 rfl) ?_
      obtain ⟨u17, hu17, h⟩ := bnd h
      refine gcall_i (va_runV (As := [.int y2]) (rest := []) ⟨hx, hb, hml, hown, hts⟩ (c_M_isLive l D cI cZ tL q tl σ y2 u17 hu17 H.size) (cwV 1 hts (gV w_528 w_529 w_711 w_6 w_530) rfl rfl rfl (by decide +kernel) ⟨Nat.le_of_ble_eq_true rfl, Nat.le_of_ble_eq_true rfl⟩) (gpV (k := 0) (ci := 5) hA hK (hD σ) hE hP hS rfl rfl) rfl rfl hl.1 rfl (lv_room (Nat.le_of_ble_eq_true rfl)) d_M_firstShared_17 ⟨Nat.le_of_ble_eq_true rfl, Nat.le_of_ble_eq_true rfl⟩) hA (hD σ) hS (fun H locs hP hS => ?_)
      refine lv_if_eq (tgt := 49) hx hb d_M_firstShared_20 (by decide) (fun c => ?_) (fun c => ?_)
      · have h := ifp c h
        refine lv_iconst (v := 0) hx hb d_M_firstShared_49 (by decide) ?_
        refine lv_istore_n (lv' := [(3, .int (0 : Int32)), (0, .ref (q 0)), (1, .int y1), (2, .int y2)]) hx hb d_M_firstShared_50 rfl hl (by decide) rfl (fun ls hl => ?_)
        refine lv_iload_n hx hb d_M_firstShared_51 rfl (lv_at hl 0 rfl) ?_
        refine lv_if_eq (tgt := 78) hx hb d_M_firstShared_52 (by decide) (fun c => ?_) (fun c => ?_)
        · have h := ifp c h
          refine lv_iload_n hx hb d_M_firstShared_78 rfl (lv_at hl 2 rfl) ?_
          refine lv_istore_n (lv' := [(1, .int y1), (3, .int (0 : Int32)), (0, .ref (q 0)), (2, .int y2)]) hx hb d_M_firstShared_79 rfl hl (by decide) rfl (fun ls hl => ?_)
          refine lv_iinc (v := (y2 + (1 : Int32))) (lv' := [(2, .int (y2 + (1 : Int32))), (1, .int y1), (3, .int (0 : Int32)), (0, .ref (q 0))]) hx hb d_M_firstShared_80 hl (k := 3) rfl rfl (by decide) rfl (fun ls hl => ?_)
          refine lv_goto (tgt := 7) hx hb d_M_firstShared_83 (by decide) ?_
          exact ih y1 (y2 + (1 : Int32)) _ _ ls out h hP hS (lv_sub hl [3, 1, 0] rfl) K
        have h := ifn c h
        refine lv_iload_n hx hb d_M_firstShared_55 rfl (lv_at hl 2 rfl) ?_
        refine lv_aload_n hx hb d_M_firstShared_56 rfl (lv_at hl 1 rfl) ?_
        refine lv_aload_n hx hb d_M_firstShared_57 rfl (lv_at hl 1 rfl) ?_
        refine va_get (D := D) (ci := 5) (v := .ref (q 1)) (C := R_M) (T := T_M) (N := 17) hx hb hts l_M hown hK hP 0 rfl rfl 3 (by decide) (hts _ w_442) (fun _ h9 => h9) rfl d_M_firstShared_58 ?_
        refine lv_iload_n hx hb d_M_firstShared_61 rfl (lv_at hl 3 rfl) ?_
        obtain ⟨c, h⟩ := ifs h
        refine va_iald hx hb hK hP 1 0 rfl rfl c d_M_firstShared_62 ?_
        refine lv_aload_n hx hb d_M_firstShared_63 rfl (lv_at hl 1 rfl) ?_
        refine va_get (D := D) (ci := 5) (v := .ref (q 4)) (C := R_M) (T := T_M) (N := 17) hx hb hts l_M hown hK hP 0 rfl rfl 6 (by decide) (hts _ w_445) (fun _ h9 => h9) rfl d_M_firstShared_64 ?_
        refine lv_iconst (v := 5) hx hb d_M_firstShared_67 (by decide) ?_
        refine lv_iload_n hx hb d_M_firstShared_68 rfl (lv_at hl 3 rfl) ?_
        refine lv_imul hx hb d_M_firstShared_69 ?_
        obtain ⟨c, h⟩ := ifs h
        refine va_iald hx hb hK hP 4 0 rfl rfl c d_M_firstShared_70 ?_
        obtain ⟨u71, hu71, h⟩ := bnd h
        refine gcall_i (va_runV (As := [.int ((σ 1) y2.toNatClampNeg), .int ((σ 4) ((5 : Int32) * y2).toNatClampNeg)]) (rest := [.int y1]) ⟨hx, hb, hml, hown, hts⟩ (c_M_name l D cI cZ tL q tl σ ((σ 1) y2.toNatClampNeg) ((σ 4) ((5 : Int32) * y2).toNatClampNeg) u71 hu71 H.size) (cwV 2 hts (gV w_537 w_538 w_723 w_6 w_539) rfl rfl rfl (by decide +kernel) ⟨Nat.le_of_ble_eq_true rfl, Nat.le_of_ble_eq_true rfl⟩) (gpV (k := 0) (ci := 5) hA hK (hD σ) hE hP hS rfl rfl) rfl rfl hl.1 rfl (lv_room (Nat.le_of_ble_eq_true rfl)) d_M_firstShared_71 ⟨Nat.le_of_ble_eq_true rfl, Nat.le_of_ble_eq_true rfl⟩) hA (hD σ) hS (fun H locs hP hS => ?_)
        refine lv_ior hx hb d_M_firstShared_74 ?_
        refine lv_goto (tgt := 79) hx hb d_M_firstShared_75 (by decide) ?_
        refine lv_istore_n (lv' := [(1, .int (y1 ||| u71)), (3, .int (0 : Int32)), (0, .ref (q 0)), (2, .int y2)]) hx hb d_M_firstShared_79 rfl hl (by decide) rfl (fun ls hl => ?_)
        refine lv_iinc (v := (y2 + (1 : Int32))) (lv' := [(2, .int (y2 + (1 : Int32))), (1, .int (y1 ||| u71)), (3, .int (0 : Int32)), (0, .ref (q 0))]) hx hb d_M_firstShared_80 hl (k := 3) rfl rfl (by decide) rfl (fun ls hl => ?_)
        refine lv_goto (tgt := 7) hx hb d_M_firstShared_83 (by decide) ?_
        exact ih (y1 ||| u71) (y2 + (1 : Int32)) _ _ ls out h hP hS (lv_sub hl [3, 1, 0] rfl) K
      have h := ifn c h
      refine lv_aload_n hx hb d_M_firstShared_23 rfl (lv_at hl 0 rfl) ?_
      refine va_get (D := D) (ci := 5) (v := .ref (q 2)) (C := R_M) (T := T_M) (N := 17) hx hb hts l_M hown hK hP 0 rfl rfl 4 (by decide) (hts _ w_443) (fun _ h9 => h9) rfl d_M_firstShared_24 ?_
      refine lv_iload_n hx hb d_M_firstShared_27 rfl (lv_at hl 2 rfl) ?_
      obtain ⟨c, h⟩ := ifs h
      refine va_iald hx hb hK hP 2 0 rfl rfl c d_M_firstShared_28 ?_
      refine lv_bipush (v := 8) hx hb d_M_firstShared_29 (by decide) ?_
      refine lv_icmp_eq (tgt := 45) hx hb d_M_firstShared_31 (by decide) (fun c => ?_) (fun c => ?_)
      · have h := ifp c h
        refine lv_iconst (v := 1) hx hb d_M_firstShared_45 (by decide) ?_
        refine lv_goto (tgt := 50) hx hb d_M_firstShared_46 (by decide) ?_
        refine lv_istore_n (lv' := [(3, .int (1 : Int32)), (0, .ref (q 0)), (1, .int y1), (2, .int y2)]) hx hb d_M_firstShared_50 rfl hl (by decide) rfl (fun ls hl => ?_)
        refine lv_iload_n hx hb d_M_firstShared_51 rfl (lv_at hl 0 rfl) ?_
        refine lv_if_eq (tgt := 78) hx hb d_M_firstShared_52 (by decide) (fun c => ?_) (fun c => ?_)
        · have h := ifp c h
          refine lv_iload_n hx hb d_M_firstShared_78 rfl (lv_at hl 2 rfl) ?_
          refine lv_istore_n (lv' := [(1, .int y1), (3, .int (1 : Int32)), (0, .ref (q 0)), (2, .int y2)]) hx hb d_M_firstShared_79 rfl hl (by decide) rfl (fun ls hl => ?_)
          refine lv_iinc (v := (y2 + (1 : Int32))) (lv' := [(2, .int (y2 + (1 : Int32))), (1, .int y1), (3, .int (1 : Int32)), (0, .ref (q 0))]) hx hb d_M_firstShared_80 hl (k := 3) rfl rfl (by decide) rfl (fun ls hl => ?_)
          refine lv_goto (tgt := 7) hx hb d_M_firstShared_83 (by decide) ?_
          exact ih y1 (y2 + (1 : Int32)) _ _ ls out h hP hS (lv_sub hl [3, 1, 0] rfl) K
        have h := ifn c h
        refine lv_iload_n hx hb d_M_firstShared_55 rfl (lv_at hl 2 rfl) ?_
        refine lv_aload_n hx hb d_M_firstShared_56 rfl (lv_at hl 1 rfl) ?_
        refine lv_aload_n hx hb d_M_firstShared_57 rfl (lv_at hl 1 rfl) ?_
        refine va_get (D := D) (ci := 5) (v := .ref (q 1)) (C := R_M) (T := T_M) (N := 17) hx hb hts l_M hown hK hP 0 rfl rfl 3 (by decide) (hts _ w_442) (fun _ h9 => h9) rfl d_M_firstShared_58 ?_
        refine lv_iload_n hx hb d_M_firstShared_61 rfl (lv_at hl 3 rfl) ?_
        obtain ⟨c, h⟩ := ifs h
        refine va_iald hx hb hK hP 1 0 rfl rfl c d_M_firstShared_62 ?_
        refine lv_aload_n hx hb d_M_firstShared_63 rfl (lv_at hl 1 rfl) ?_
        refine va_get (D := D) (ci := 5) (v := .ref (q 4)) (C := R_M) (T := T_M) (N := 17) hx hb hts l_M hown hK hP 0 rfl rfl 6 (by decide) (hts _ w_445) (fun _ h9 => h9) rfl d_M_firstShared_64 ?_
        refine lv_iconst (v := 5) hx hb d_M_firstShared_67 (by decide) ?_
        refine lv_iload_n hx hb d_M_firstShared_68 rfl (lv_at hl 3 rfl) ?_
        refine lv_imul hx hb d_M_firstShared_69 ?_
        obtain ⟨c, h⟩ := ifs h
        refine va_iald hx hb hK hP 4 0 rfl rfl c d_M_firstShared_70 ?_
        obtain ⟨u71, hu71, h⟩ := bnd h
        refine gcall_i (va_runV (As := [.int ((σ 1) y2.toNatClampNeg), .int ((σ 4) ((5 : Int32) * y2).toNatClampNeg)]) (rest := [.int y1]) ⟨hx, hb, hml, hown, hts⟩ (c_M_name l D cI cZ tL q tl σ ((σ 1) y2.toNatClampNeg) ((σ 4) ((5 : Int32) * y2).toNatClampNeg) u71 hu71 H.size) (cwV 2 hts (gV w_537 w_538 w_723 w_6 w_539) rfl rfl rfl (by decide +kernel) ⟨Nat.le_of_ble_eq_true rfl, Nat.le_of_ble_eq_true rfl⟩) (gpV (k := 0) (ci := 5) hA hK (hD σ) hE hP hS rfl rfl) rfl rfl hl.1 rfl (lv_room (Nat.le_of_ble_eq_true rfl)) d_M_firstShared_71 ⟨Nat.le_of_ble_eq_true rfl, Nat.le_of_ble_eq_true rfl⟩) hA (hD σ) hS (fun H locs hP hS => ?_)
        refine lv_ior hx hb d_M_firstShared_74 ?_
        refine lv_goto (tgt := 79) hx hb d_M_firstShared_75 (by decide) ?_
        refine lv_istore_n (lv' := [(1, .int (y1 ||| u71)), (3, .int (1 : Int32)), (0, .ref (q 0)), (2, .int y2)]) hx hb d_M_firstShared_79 rfl hl (by decide) rfl (fun ls hl => ?_)
        refine lv_iinc (v := (y2 + (1 : Int32))) (lv' := [(2, .int (y2 + (1 : Int32))), (1, .int (y1 ||| u71)), (3, .int (1 : Int32)), (0, .ref (q 0))]) hx hb d_M_firstShared_80 hl (k := 3) rfl rfl (by decide) rfl (fun ls hl => ?_)
        refine lv_goto (tgt := 7) hx hb d_M_firstShared_83 (by decide) ?_
        exact ih (y1 ||| u71) (y2 + (1 : Int32)) _ _ ls out h hP hS (lv_sub hl [3, 1, 0] rfl) K
      have h := ifn c h
      refine lv_aload_n hx hb d_M_firstShared_34 rfl (lv_at hl 0 rfl) ?_
      refine va_get (D := D) (ci := 5) (v := .ref (q 2)) (C := R_M) (T := T_M) (N := 17) hx hb hts l_M hown hK hP 0 rfl rfl 4 (by decide) (hts _ w_443) (fun _ h9 => h9) rfl d_M_firstShared_35 ?_
      refine lv_iload_n hx hb d_M_firstShared_38 rfl (lv_at hl 2 rfl) ?_
      obtain ⟨c, h⟩ := ifs h
      refine va_iald hx hb hK hP 2 0 rfl rfl c d_M_firstShared_39 ?_
      refine lv_bipush (v := 9) hx hb d_M_firstShared_40 (by decide) ?_
      refine lv_icmp_ne (tgt := 49) hx hb d_M_firstShared_42 (by decide) (fun c => ?_) (fun c => ?_)
      · have h := ifn c h
        refine lv_iconst (v := 0) hx hb d_M_firstShared_49 (by decide) ?_
        refine lv_istore_n (lv' := [(3, .int (0 : Int32)), (0, .ref (q 0)), (1, .int y1), (2, .int y2)]) hx hb d_M_firstShared_50 rfl hl (by decide) rfl (fun ls hl => ?_)
        refine lv_iload_n hx hb d_M_firstShared_51 rfl (lv_at hl 0 rfl) ?_
        refine lv_if_eq (tgt := 78) hx hb d_M_firstShared_52 (by decide) (fun c => ?_) (fun c => ?_)
        · have h := ifp c h
          refine lv_iload_n hx hb d_M_firstShared_78 rfl (lv_at hl 2 rfl) ?_
          refine lv_istore_n (lv' := [(1, .int y1), (3, .int (0 : Int32)), (0, .ref (q 0)), (2, .int y2)]) hx hb d_M_firstShared_79 rfl hl (by decide) rfl (fun ls hl => ?_)
          refine lv_iinc (v := (y2 + (1 : Int32))) (lv' := [(2, .int (y2 + (1 : Int32))), (1, .int y1), (3, .int (0 : Int32)), (0, .ref (q 0))]) hx hb d_M_firstShared_80 hl (k := 3) rfl rfl (by decide) rfl (fun ls hl => ?_)
          refine lv_goto (tgt := 7) hx hb d_M_firstShared_83 (by decide) ?_
          exact ih y1 (y2 + (1 : Int32)) _ _ ls out h hP hS (lv_sub hl [3, 1, 0] rfl) K
        have h := ifn c h
        refine lv_iload_n hx hb d_M_firstShared_55 rfl (lv_at hl 2 rfl) ?_
        refine lv_aload_n hx hb d_M_firstShared_56 rfl (lv_at hl 1 rfl) ?_
        refine lv_aload_n hx hb d_M_firstShared_57 rfl (lv_at hl 1 rfl) ?_
        refine va_get (D := D) (ci := 5) (v := .ref (q 1)) (C := R_M) (T := T_M) (N := 17) hx hb hts l_M hown hK hP 0 rfl rfl 3 (by decide) (hts _ w_442) (fun _ h9 => h9) rfl d_M_firstShared_58 ?_
        refine lv_iload_n hx hb d_M_firstShared_61 rfl (lv_at hl 3 rfl) ?_
        obtain ⟨c, h⟩ := ifs h
        refine va_iald hx hb hK hP 1 0 rfl rfl c d_M_firstShared_62 ?_
        refine lv_aload_n hx hb d_M_firstShared_63 rfl (lv_at hl 1 rfl) ?_
        refine va_get (D := D) (ci := 5) (v := .ref (q 4)) (C := R_M) (T := T_M) (N := 17) hx hb hts l_M hown hK hP 0 rfl rfl 6 (by decide) (hts _ w_445) (fun _ h9 => h9) rfl d_M_firstShared_64 ?_
        refine lv_iconst (v := 5) hx hb d_M_firstShared_67 (by decide) ?_
        refine lv_iload_n hx hb d_M_firstShared_68 rfl (lv_at hl 3 rfl) ?_
        refine lv_imul hx hb d_M_firstShared_69 ?_
        obtain ⟨c, h⟩ := ifs h
        refine va_iald hx hb hK hP 4 0 rfl rfl c d_M_firstShared_70 ?_
        obtain ⟨u71, hu71, h⟩ := bnd h
        refine gcall_i (va_runV (As := [.int ((σ 1) y2.toNatClampNeg), .int ((σ 4) ((5 : Int32) * y2).toNatClampNeg)]) (rest := [.int y1]) ⟨hx, hb, hml, hown, hts⟩ (c_M_name l D cI cZ tL q tl σ ((σ 1) y2.toNatClampNeg) ((σ 4) ((5 : Int32) * y2).toNatClampNeg) u71 hu71 H.size) (cwV 2 hts (gV w_537 w_538 w_723 w_6 w_539) rfl rfl rfl (by decide +kernel) ⟨Nat.le_of_ble_eq_true rfl, Nat.le_of_ble_eq_true rfl⟩) (gpV (k := 0) (ci := 5) hA hK (hD σ) hE hP hS rfl rfl) rfl rfl hl.1 rfl (lv_room (Nat.le_of_ble_eq_true rfl)) d_M_firstShared_71 ⟨Nat.le_of_ble_eq_true rfl, Nat.le_of_ble_eq_true rfl⟩) hA (hD σ) hS (fun H locs hP hS => ?_)
        refine lv_ior hx hb d_M_firstShared_74 ?_
        refine lv_goto (tgt := 79) hx hb d_M_firstShared_75 (by decide) ?_
        refine lv_istore_n (lv' := [(1, .int (y1 ||| u71)), (3, .int (0 : Int32)), (0, .ref (q 0)), (2, .int y2)]) hx hb d_M_firstShared_79 rfl hl (by decide) rfl (fun ls hl => ?_)
        refine lv_iinc (v := (y2 + (1 : Int32))) (lv' := [(2, .int (y2 + (1 : Int32))), (1, .int (y1 ||| u71)), (3, .int (0 : Int32)), (0, .ref (q 0))]) hx hb d_M_firstShared_80 hl (k := 3) rfl rfl (by decide) rfl (fun ls hl => ?_)
        refine lv_goto (tgt := 7) hx hb d_M_firstShared_83 (by decide) ?_
        exact ih (y1 ||| u71) (y2 + (1 : Int32)) _ _ ls out h hP hS (lv_sub hl [3, 1, 0] rfl) K
      have h := ifp c h
      refine lv_iconst (v := 1) hx hb d_M_firstShared_45 (by decide) ?_
      refine lv_goto (tgt := 50) hx hb d_M_firstShared_46 (by decide) ?_
      refine lv_istore_n (lv' := [(3, .int (1 : Int32)), (0, .ref (q 0)), (1, .int y1), (2, .int y2)]) hx hb d_M_firstShared_50 rfl hl (by decide) rfl (fun ls hl => ?_)
      refine lv_iload_n hx hb d_M_firstShared_51 rfl (lv_at hl 0 rfl) ?_
      refine lv_if_eq (tgt := 78) hx hb d_M_firstShared_52 (by decide) (fun c => ?_) (fun c => ?_)
      · have h := ifp c h
        refine lv_iload_n hx hb d_M_firstShared_78 rfl (lv_at hl 2 rfl) ?_
        refine lv_istore_n (lv' := [(1, .int y1), (3, .int (1 : Int32)), (0, .ref (q 0)), (2, .int y2)]) hx hb d_M_firstShared_79 rfl hl (by decide) rfl (fun ls hl => ?_)
        refine lv_iinc (v := (y2 + (1 : Int32))) (lv' := [(2, .int (y2 + (1 : Int32))), (1, .int y1), (3, .int (1 : Int32)), (0, .ref (q 0))]) hx hb d_M_firstShared_80 hl (k := 3) rfl rfl (by decide) rfl (fun ls hl => ?_)
        refine lv_goto (tgt := 7) hx hb d_M_firstShared_83 (by decide) ?_
        exact ih y1 (y2 + (1 : Int32)) _ _ ls out h hP hS (lv_sub hl [3, 1, 0] rfl) K
      have h := ifn c h
      refine lv_iload_n hx hb d_M_firstShared_55 rfl (lv_at hl 2 rfl) ?_
      refine lv_aload_n hx hb d_M_firstShared_56 rfl (lv_at hl 1 rfl) ?_
      refine lv_aload_n hx hb d_M_firstShared_57 rfl (lv_at hl 1 rfl) ?_
      refine va_get (D := D) (ci := 5) (v := .ref (q 1)) (C := R_M) (T := T_M) (N := 17) hx hb hts l_M hown hK hP 0 rfl rfl 3 (by decide) (hts _ w_442) (fun _ h9 => h9) rfl d_M_firstShared_58 ?_
      refine lv_iload_n hx hb d_M_firstShared_61 rfl (lv_at hl 3 rfl) ?_
      obtain ⟨c, h⟩ := ifs h
      refine va_iald hx hb hK hP 1 0 rfl rfl c d_M_firstShared_62 ?_
      refine lv_aload_n hx hb d_M_firstShared_63 rfl (lv_at hl 1 rfl) ?_
      refine va_get (D := D) (ci := 5) (v := .ref (q 4)) (C := R_M) (T := T_M) (N := 17) hx hb hts l_M hown hK hP 0 rfl rfl 6 (by decide) (hts _ w_445) (fun _ h9 => h9) rfl d_M_firstShared_64 ?_
      refine lv_iconst (v := 5) hx hb d_M_firstShared_67 (by decide) ?_
      refine lv_iload_n hx hb d_M_firstShared_68 rfl (lv_at hl 3 rfl) ?_
      refine lv_imul hx hb d_M_firstShared_69 ?_
      obtain ⟨c, h⟩ := ifs h
      refine va_iald hx hb hK hP 4 0 rfl rfl c d_M_firstShared_70 ?_
      obtain ⟨u71, hu71, h⟩ := bnd h
      refine gcall_i (va_runV (As := [.int ((σ 1) y2.toNatClampNeg), .int ((σ 4) ((5 : Int32) * y2).toNatClampNeg)]) (rest := [.int y1]) ⟨hx, hb, hml, hown, hts⟩ (c_M_name l D cI cZ tL q tl σ ((σ 1) y2.toNatClampNeg) ((σ 4) ((5 : Int32) * y2).toNatClampNeg) u71 hu71 H.size) (cwV 2 hts (gV w_537 w_538 w_723 w_6 w_539) rfl rfl rfl (by decide +kernel) ⟨Nat.le_of_ble_eq_true rfl, Nat.le_of_ble_eq_true rfl⟩) (gpV (k := 0) (ci := 5) hA hK (hD σ) hE hP hS rfl rfl) rfl rfl hl.1 rfl (lv_room (Nat.le_of_ble_eq_true rfl)) d_M_firstShared_71 ⟨Nat.le_of_ble_eq_true rfl, Nat.le_of_ble_eq_true rfl⟩) hA (hD σ) hS (fun H locs hP hS => ?_)
      refine lv_ior hx hb d_M_firstShared_74 ?_
      refine lv_goto (tgt := 79) hx hb d_M_firstShared_75 (by decide) ?_
      refine lv_istore_n (lv' := [(1, .int (y1 ||| u71)), (3, .int (1 : Int32)), (0, .ref (q 0)), (2, .int y2)]) hx hb d_M_firstShared_79 rfl hl (by decide) rfl (fun ls hl => ?_)
      refine lv_iinc (v := (y2 + (1 : Int32))) (lv' := [(2, .int (y2 + (1 : Int32))), (1, .int (y1 ||| u71)), (3, .int (1 : Int32)), (0, .ref (q 0))]) hx hb d_M_firstShared_80 hl (k := 3) rfl rfl (by decide) rfl (fun ls hl => ?_)
      refine lv_goto (tgt := 7) hx hb d_M_firstShared_83 (by decide) ?_
      exact ih (y1 ||| u71) (y2 + (1 : Int32)) _ _ ls out h hP hS (lv_sub hl [3, 1, 0] rfl) K
  unfold f_M_firstShared at h
  refine lv_aload_n hx hb d_M_firstShared_0 rfl (lv_at hl 0 rfl) ?_
  obtain ⟨u1, hu1, h⟩ := bnd h
  refine gcall_i (va_runV (As := []) (rest := []) ⟨hx, hb, hml, hown, hts⟩ (c_M_placed l D cI cZ tL q tl σ  u1 hu1 s.heap.size) (cwV 0 hts (gV w_582 w_583 w_727 w_6 w_584) rfl rfl rfl (by decide +kernel) ⟨Nat.le_of_ble_eq_true rfl, Nat.le_of_ble_eq_true rfl⟩) (gpV (k := 0) (ci := 5) hA hK (hD σ) hE hP hS rfl rfl) rfl rfl hl.1 rfl (lv_room (Nat.le_of_ble_eq_true rfl)) d_M_firstShared_1 ⟨Nat.le_of_ble_eq_true rfl, Nat.le_of_ble_eq_true rfl⟩) hA (hD σ) hS (fun H locs hP hS => ?_)
  refine lv_istore_n (lv' := [(1, .int u1), (0, .ref (q 0))]) hx hb d_M_firstShared_4 rfl hl (by decide) rfl (fun ls hl => ?_)
  refine lv_iconst (v := 0) hx hb d_M_firstShared_5 (by decide) ?_
  refine lv_istore_n (lv' := [(2, .int (0 : Int32)), (1, .int u1), (0, .ref (q 0))]) hx hb d_M_firstShared_6 rfl hl (by decide) rfl (fun ls hl => ?_)
  obtain ⟨u7, hu7, h⟩ := bnd h
  refine L7 σ F u1 (0 : Int32) _ _ ls u7 hu7 hP hS (lv_sub hl [2, 1, 0] rfl) (fun H locs ls hP hS hl => ?_)
  refine lv_iload_n hx hb d_M_firstShared_86 rfl (lv_at hl 1 rfl) ?_
  cases h
  exact gret_i hx hb hr hlk hP hS d_M_firstShared_87
/-! ===== EscapeOwnersModel.shared()I ===== -/
def f_M_shared (F : Nat) (σ : St) : Option (Int32) := Option.bind (f_M_firstShared F σ) (fun u2 => Option.bind (f_M_closed F σ u2) (fun u5 => some u5))
set_option maxHeartbeats 4000000 in
set_option maxRecDepth 100000 in
theorem c_M_shared (l : Launch) (D : va_G) (cI cZ : ClassId) (tL : Nat) (q : Nat → Nat) (tl : va_W) (F : Nat) (σ : St) (out0 : Int32) (h : f_M_shared F σ = some out0) : gCi l y_M_shared (.code y_M_shared b_M_shared 1 (some .int) :: TB) { frames := 4, cells := 0, slots := 0, locals := 91 } D [(cI, .int), (cZ, .boolean)] tL [.ref (q 0)] (wM cI cZ q σ ++ tl) out0 (wM cI cZ q σ ++ tl) := by
  refine gCi_of (cc := b_M_shared) (maxL := 1) (ty := .int) (by decide) rfl (Nat.le_of_ble_eq_true rfl) ?_
  intro p e s m below meth c A ls hf hr hlk hA hK hD0 hE hP hl
  obtain ⟨hx, hb, hml, hown, hts⟩ := id hf
  have hts : ∀ w ∈ TB, w.before _ s = true := fun w h => hts w (List.mem_cons_of_mem _ h)
  have hown : s.vm.findClass R_M = some m.cls := hown
  have hl : lv_has ls 1 [(0, .ref (q 0))] := hl
  have hS : va_S A s.heap s.heap [] := va_S.rf
  have hD : ∀ σ' : St, va_D A (wM cI cZ q σ' ++ tl) := fun σ' => va_Dsame hD0 rfl
  unfold f_M_shared at h
  refine lv_aload_n hx hb d_M_shared_0 rfl (lv_at hl 0 rfl) ?_
  refine lv_aload_n hx hb d_M_shared_1 rfl (lv_at hl 0 rfl) ?_
  obtain ⟨u2, hu2, h⟩ := bnd h
  refine gcall_i (va_runV (As := []) (rest := [.ref (q 0)]) ⟨hx, hb, hml, hown, hts⟩ (c_M_firstShared l D cI cZ tL q tl F σ  u2 hu2 s.heap.size) (cwV 0 hts (gV w_579 w_580 w_702 w_6 w_581) rfl rfl rfl (by decide +kernel) ⟨Nat.le_of_ble_eq_true rfl, Nat.le_of_ble_eq_true rfl⟩) (gpV (k := 0) (ci := 5) hA hK (hD σ) hE hP hS rfl rfl) rfl rfl hl.1 rfl (lv_room (Nat.le_of_ble_eq_true rfl)) d_M_shared_2 ⟨Nat.le_of_ble_eq_true rfl, Nat.le_of_ble_eq_true rfl⟩) hA (hD σ) hS (fun H locs hP hS => ?_)
  obtain ⟨u5, hu5, h⟩ := bnd h
  refine gcall_i (va_runV (As := [.int u2]) (rest := []) ⟨hx, hb, hml, hown, hts⟩ (c_M_closed l D cI cZ tL q tl F σ u2 u5 hu5 H.size) (cwV 1 hts (gV w_609 w_610 w_699 w_6 w_611) rfl rfl rfl (by decide +kernel) ⟨Nat.le_of_ble_eq_true rfl, Nat.le_of_ble_eq_true rfl⟩) (gpV (k := 0) (ci := 5) hA hK (hD σ) hE hP hS rfl rfl) rfl rfl hl.1 rfl (lv_room (Nat.le_of_ble_eq_true rfl)) d_M_shared_5 ⟨Nat.le_of_ble_eq_true rfl, Nat.le_of_ble_eq_true rfl⟩) hA (hD σ) hS (fun H locs hP hS => ?_)
  cases h
  exact gret_i hx hb hr hlk hP hS d_M_shared_8
/-! ===== EscapeOwnersModel.levelOf(I)I ===== -/
def f_M_levelOf_B10 (F : Nat) (σ : St) (y1 : Int32) (rec : Int32 → Int32 → Int32 → Option (Int32 × Int32 × Int32)) (y2 : Int32) (y3 : Int32) (y4 : Int32) : Option (Int32 × Int32 × Int32) := Option.bind (f_M_has y2 y1) (fun u12 => if u12 = 0 then (if y2 = y4 then (some (y2, y3, y4)) else (Option.bind (f_M_allFields F σ y2) (fun u30 => rec (y2 ||| u30) (y3 + (1 : Int32)) y2))) else (some (y2, y3, y4)))
def f_M_levelOf_L10 (F : Nat) (σ : St) (y1 : Int32) : Nat → Int32 → Int32 → Int32 → Option (Int32 × Int32 × Int32)
  | 0, _, _, _ => none
  | fu + 1, y2, y3, y4 => f_M_levelOf_B10 F σ y1 (f_M_levelOf_L10 F σ y1 fu) y2 y3 y4
def f_M_levelOf (F : Nat) (σ : St) (x1 : Int32) : Option (Int32) := Option.bind (f_M_firstShared F σ) (fun u1 => Option.bind (f_M_levelOf_L10 F σ x1 F u1 (0 : Int32) (0 : Int32)) (fun u10 => Option.bind (f_M_has u10.1 x1) (fun u43 => if u43 = 0 then (some (-1 : Int32)) else (some u10.2.1))))
set_option maxHeartbeats 4000000 in
set_option maxRecDepth 100000 in
theorem c_M_levelOf (l : Launch) (D : va_G) (cI cZ : ClassId) (tL : Nat) (q : Nat → Nat) (tl : va_W) (F : Nat) (σ : St) (x1 : Int32) (out0 : Int32) (h : f_M_levelOf F σ x1 = some out0) : gCi l y_M_levelOf (.code y_M_levelOf b_M_levelOf 5 (some .int) :: TB) { frames := 3, cells := 0, slots := 0, locals := 68 } D [(cI, .int), (cZ, .boolean)] tL [.ref (q 0), .int x1] (wM cI cZ q σ ++ tl) out0 (wM cI cZ q σ ++ tl) := by
  refine gCi_of (cc := b_M_levelOf) (maxL := 5) (ty := .int) (by decide) rfl (Nat.le_of_ble_eq_true rfl) ?_
  intro p e s m below meth c A ls hf hr hlk hA hK hD0 hE hP hl
  obtain ⟨hx, hb, hml, hown, hts⟩ := id hf
  have hts : ∀ w ∈ TB, w.before _ s = true := fun w h => hts w (List.mem_cons_of_mem _ h)
  have hown : s.vm.findClass R_M = some m.cls := hown
  have hl : lv_has ls 5 [(0, .ref (q 0)), (1, .int x1)] := hl
  have hS : va_S A s.heap s.heap [] := va_S.rf
  have hD : ∀ σ' : St, va_D A (wM cI cZ q σ' ++ tl) := fun σ' => va_Dsame hD0 rfl
  have L10 : ∀ (σ : St) (y1 : Int32) (fu : Nat) (y2 : Int32) (y3 : Int32) (y4 : Int32) (H : Heap) (locs : List Loc) (ls : Array Slot) (out : Int32 × Int32 × Int32), f_M_levelOf_L10 F σ y1 fu y2 y3 y4 = some out → va_P D vwCl (wM cI cZ q σ ++ tl) H → va_S A s.heap H locs → lv_has ls 5 [(0, .ref (q 0)), (1, .int y1), (2, .int y2), (3, .int y3), (4, .int y4)] → (∀ (H : Heap) (locs : List Loc) (ls : Array Slot), va_P D vwCl (wM cI cZ q σ ++ tl) H → va_S A s.heap H locs → lv_has ls 5 [(0, .ref (q 0)), (1, .int y1), (2, .int out.1), (3, .int out.2.1), (4, .int out.2.2)] → W p l e { frames := 3, cells := 0, slots := 0, locals := 68 } s m ([.ref (q 0), .int x1] : List Value).toArray below meth c H locs 0 0 (gQi below D out0 (wM cI cZ q σ ++ tl) A (([.ref (q 0), .int x1] : List Value).toArray) s) (F0 m 41 ls [])) → W p l e { frames := 3, cells := 0, slots := 0, locals := 68 } s m ([.ref (q 0), .int x1] : List Value).toArray below meth c H locs 0 0 (gQi below D out0 (wM cI cZ q σ ++ tl) A (([.ref (q 0), .int x1] : List Value).toArray) s) (F0 m 10 ls []) := by
    intro σ y1 fu
    induction fu with
    | zero => intro y2 y3 y4 H locs ls out h; exact absurd (show (none : Option (Int32 × Int32 × Int32)) = some out from h) (fun z => by cases z)
    | succ fu ih =>
      intro y2 y3 y4 H locs ls out h hP hS hl K
      have h : f_M_levelOf_B10 F σ y1 (f_M_levelOf_L10 F σ y1 fu) y2 y3 y4 = some out := h
      unfold f_M_levelOf_B10 at h
      refine lv_iload_n hx hb d_M_levelOf_10 rfl (lv_at hl 2 rfl) ?_
      refine lv_iload_n hx hb d_M_levelOf_11 rfl (lv_at hl 1 rfl) ?_
      obtain ⟨u12, hu12, h⟩ := bnd h
      refine gcall_i (va_runS (As := [.int y2, .int y1]) (rest := []) ⟨hx, hb, hml, hown, hts⟩ (c_M_has l D cI cZ tL (wM cI cZ q σ ++ tl) y2 y1 u12 hu12 H.size) (va_cwS 2 hts (gS w_522 w_523 w_6 w_524) rfl rfl rfl (by decide +kernel) ⟨Nat.le_of_ble_eq_true rfl, Nat.le_of_ble_eq_true rfl⟩) (gpS hA hK (hD σ) hE hP hS) rfl rfl hl.1 rfl (lv_room (Nat.le_of_ble_eq_true rfl)) d_M_levelOf_12 ⟨Nat.le_of_ble_eq_true rfl, Nat.le_of_ble_eq_true rfl⟩) hA (hD σ) hS (fun H locs hP hS => ?_)
      refine lv_if_ne (tgt := 41) hx hb d_M_levelOf_15 (by decide) (fun c => ?_) (fun c => ?_)
      · have h := ifn c h
        cases h
        exact K _ _ ls hP hS (lv_sub hl [0, 1, 2, 3, 4] rfl)
      have h := ifp c h
      refine lv_iload_n hx hb d_M_levelOf_18 rfl (lv_at hl 2 rfl) ?_
      refine lv_iload hx hb d_M_levelOf_19 (lv_at hl 4 rfl) ?_
      refine lv_icmp_eq (tgt := 41) hx hb d_M_levelOf_21 (by decide) (fun c => ?_) (fun c => ?_)
      · have h := ifp c h
        cases h
        exact K _ _ ls hP hS (lv_sub hl [0, 1, 2, 3, 4] rfl)
      have h := ifn c h
      refine lv_iload_n hx hb d_M_levelOf_24 rfl (lv_at hl 2 rfl) ?_
      refine lv_istore (lv' := [(4, .int y2), (0, .ref (q 0)), (1, .int y1), (2, .int y2), (3, .int y3)]) hx hb d_M_levelOf_25 hl (by decide) rfl (fun ls hl => ?_)
      refine lv_iload_n hx hb d_M_levelOf_27 rfl (lv_at hl 3 rfl) ?_
      refine lv_aload_n hx hb d_M_levelOf_28 rfl (lv_at hl 1 rfl) ?_
      refine lv_iload_n hx hb d_M_levelOf_29 rfl (lv_at hl 3 rfl) ?_
      obtain ⟨u30, hu30, h⟩ := bnd h
      refine gcall_i (va_runV (As := [.int y2]) (rest := [.int y2]) ⟨hx, hb, hml, hown, hts⟩ (c_M_allFields l D cI cZ tL q tl F σ y2 u30 hu30 H.size) (cwV 1 hts (gV w_585 w_586 w_696 w_6 w_587) rfl rfl rfl (by decide +kernel) ⟨Nat.le_of_ble_eq_true rfl, Nat.le_of_ble_eq_true rfl⟩) (gpV (k := 0) (ci := 5) hA hK (hD σ) hE hP hS rfl rfl) rfl rfl hl.1 rfl (lv_room (Nat.le_of_ble_eq_true rfl)) d_M_levelOf_30 ⟨Nat.le_of_ble_eq_true rfl, Nat.le_of_ble_eq_true rfl⟩) hA (hD σ) hS (fun H locs hP hS => ?_)
      refine lv_ior hx hb d_M_levelOf_33 ?_
      refine lv_istore_n (lv' := [(2, .int (y2 ||| u30)), (4, .int y2), (0, .ref (q 0)), (1, .int y1), (3, .int y3)]) hx hb d_M_levelOf_34 rfl hl (by decide) rfl (fun ls hl => ?_)
      refine lv_iinc (v := (y3 + (1 : Int32))) (lv' := [(3, .int (y3 + (1 : Int32))), (2, .int (y2 ||| u30)), (4, .int y2), (0, .ref (q 0)), (1, .int y1)]) hx hb d_M_levelOf_35 hl (k := 4) rfl rfl (by decide) rfl (fun ls hl => ?_)
      refine lv_goto (tgt := 10) hx hb d_M_levelOf_38 (by decide) ?_
      exact ih (y2 ||| u30) (y3 + (1 : Int32)) y2 _ _ ls out h hP hS (lv_sub hl [3, 4, 1, 0, 2] rfl) K
  unfold f_M_levelOf at h
  refine lv_aload_n hx hb d_M_levelOf_0 rfl (lv_at hl 0 rfl) ?_
  obtain ⟨u1, hu1, h⟩ := bnd h
  refine gcall_i (va_runV (As := []) (rest := []) ⟨hx, hb, hml, hown, hts⟩ (c_M_firstShared l D cI cZ tL q tl F σ  u1 hu1 s.heap.size) (cwV 0 hts (gV w_579 w_580 w_702 w_6 w_581) rfl rfl rfl (by decide +kernel) ⟨Nat.le_of_ble_eq_true rfl, Nat.le_of_ble_eq_true rfl⟩) (gpV (k := 0) (ci := 5) hA hK (hD σ) hE hP hS rfl rfl) rfl rfl hl.1 rfl (lv_room (Nat.le_of_ble_eq_true rfl)) d_M_levelOf_1 ⟨Nat.le_of_ble_eq_true rfl, Nat.le_of_ble_eq_true rfl⟩) hA (hD σ) hS (fun H locs hP hS => ?_)
  refine lv_istore_n (lv' := [(2, .int u1), (0, .ref (q 0)), (1, .int x1)]) hx hb d_M_levelOf_4 rfl hl (by decide) rfl (fun ls hl => ?_)
  refine lv_iconst (v := 0) hx hb d_M_levelOf_5 (by decide) ?_
  refine lv_istore_n (lv' := [(3, .int (0 : Int32)), (2, .int u1), (0, .ref (q 0)), (1, .int x1)]) hx hb d_M_levelOf_6 rfl hl (by decide) rfl (fun ls hl => ?_)
  refine lv_iconst (v := 0) hx hb d_M_levelOf_7 (by decide) ?_
  refine lv_istore (lv' := [(4, .int (0 : Int32)), (3, .int (0 : Int32)), (2, .int u1), (0, .ref (q 0)), (1, .int x1)]) hx hb d_M_levelOf_8 hl (by decide) rfl (fun ls hl => ?_)
  obtain ⟨u10, hu10, h⟩ := bnd h
  refine L10 σ x1 F u1 (0 : Int32) (0 : Int32) _ _ ls u10 hu10 hP hS (lv_sub hl [3, 4, 2, 1, 0] rfl) (fun H locs ls hP hS hl => ?_)
  refine lv_iload_n hx hb d_M_levelOf_41 rfl (lv_at hl 2 rfl) ?_
  refine lv_iload_n hx hb d_M_levelOf_42 rfl (lv_at hl 1 rfl) ?_
  obtain ⟨u43, hu43, h⟩ := bnd h
  refine gcall_i (va_runS (As := [.int u10.1, .int x1]) (rest := []) ⟨hx, hb, hml, hown, hts⟩ (c_M_has l D cI cZ tL (wM cI cZ q σ ++ tl) u10.1 x1 u43 hu43 H.size) (va_cwS 2 hts (gS w_522 w_523 w_6 w_524) rfl rfl rfl (by decide +kernel) ⟨Nat.le_of_ble_eq_true rfl, Nat.le_of_ble_eq_true rfl⟩) (gpS hA hK (hD σ) hE hP hS) rfl rfl hl.1 rfl (lv_room (Nat.le_of_ble_eq_true rfl)) d_M_levelOf_43 ⟨Nat.le_of_ble_eq_true rfl, Nat.le_of_ble_eq_true rfl⟩) hA (hD σ) hS (fun H locs hP hS => ?_)
  refine lv_if_eq (tgt := 53) hx hb d_M_levelOf_46 (by decide) (fun c => ?_) (fun c => ?_)
  · have h := ifp c h
    refine lv_iconst (v := -1) hx hb d_M_levelOf_53 (by decide) ?_
    cases h
    exact gret_i hx hb hr hlk hP hS d_M_levelOf_54
  have h := ifn c h
  refine lv_iload_n hx hb d_M_levelOf_49 rfl (lv_at hl 3 rfl) ?_
  refine lv_goto (tgt := 54) hx hb d_M_levelOf_50 (by decide) ?_
  cases h
  exact gret_i hx hb hr hlk hP hS d_M_levelOf_54
/-! ===== EscapeOwnersModel.owner(I)I ===== -/
def f_M_owner (σ : St) (x1 : Int32) : Option (Int32) := if ¬ (x1 < 0 ∨ 16 ≤ x1.toNatClampNeg) then (if ¬ (((σ 5) x1.toNatClampNeg) < 0 ∨ 64 ≤ ((σ 5) x1.toNatClampNeg).toNatClampNeg) then (some ((σ 1) ((σ 5) x1.toNatClampNeg).toNatClampNeg)) else none) else none
set_option maxHeartbeats 4000000 in
set_option maxRecDepth 100000 in
theorem c_M_owner (l : Launch) (D : va_G) (cI cZ : ClassId) (tL : Nat) (q : Nat → Nat) (tl : va_W) (σ : St) (x1 : Int32) (out0 : Int32) (h : f_M_owner σ x1 = some out0) : gCi l y_M_owner (.code y_M_owner b_M_owner 2 (some .int) :: TB) { frames := 0, cells := 0, slots := 0, locals := 0 } D [(cI, .int), (cZ, .boolean)] tL [.ref (q 0), .int x1] (wM cI cZ q σ ++ tl) out0 (wM cI cZ q σ ++ tl) := by
  refine gCi_of (cc := b_M_owner) (maxL := 2) (ty := .int) (by decide) rfl (Nat.le_of_ble_eq_true rfl) ?_
  intro p e s m below meth c A ls hf hr hlk hA hK hD0 hE hP hl
  obtain ⟨hx, hb, hml, hown, hts⟩ := id hf
  have hts : ∀ w ∈ TB, w.before _ s = true := fun w h => hts w (List.mem_cons_of_mem _ h)
  have hown : s.vm.findClass R_M = some m.cls := hown
  have hl : lv_has ls 2 [(0, .ref (q 0)), (1, .int x1)] := hl
  have hS : va_S A s.heap s.heap [] := va_S.rf
  have hD : ∀ σ' : St, va_D A (wM cI cZ q σ' ++ tl) := fun σ' => va_Dsame hD0 rfl
  unfold f_M_owner at h
  refine lv_aload_n hx hb d_M_owner_0 rfl (lv_at hl 0 rfl) ?_
  refine va_get (D := D) (ci := 5) (v := .ref (q 1)) (C := R_M) (T := T_M) (N := 17) hx hb hts l_M hown hK hP 0 rfl rfl 3 (by decide) (hts _ w_442) (fun _ h9 => h9) rfl d_M_owner_1 ?_
  refine lv_aload_n hx hb d_M_owner_4 rfl (lv_at hl 0 rfl) ?_
  refine va_get (D := D) (ci := 5) (v := .ref (q 5)) (C := R_M) (T := T_M) (N := 17) hx hb hts l_M hown hK hP 0 rfl rfl 7 (by decide) (hts _ w_446) (fun _ h9 => h9) rfl d_M_owner_5 ?_
  refine lv_iload_n hx hb d_M_owner_8 rfl (lv_at hl 1 rfl) ?_
  obtain ⟨c, h⟩ := ifs h
  refine va_iald hx hb hK hP 5 0 rfl rfl c d_M_owner_9 ?_
  obtain ⟨c, h⟩ := ifs h
  refine va_iald hx hb hK hP 1 0 rfl rfl c d_M_owner_10 ?_
  cases h
  exact gret_i hx hb hr hlk hP hS d_M_owner_11
/-! ===== EscapeOwnersModel.parametersOf(I)I ===== -/
def f_M_parametersOf (σ : St) (x1 : Int32) : Option (Int32) := Option.bind (f_M_name σ x1 (0 : Int32)) (fun u3 => Option.bind (f_M_name σ x1 (1 : Int32)) (fun u9 => Option.bind (f_M_name σ x1 (2 : Int32)) (fun u16 => some ((u3 ||| u9) ||| u16))))
set_option maxHeartbeats 4000000 in
set_option maxRecDepth 100000 in
theorem c_M_parametersOf (l : Launch) (D : va_G) (cI cZ : ClassId) (tL : Nat) (q : Nat → Nat) (tl : va_W) (σ : St) (x1 : Int32) (out0 : Int32) (h : f_M_parametersOf σ x1 = some out0) : gCi l y_M_parametersOf (.code y_M_parametersOf b_M_parametersOf 2 (some .int) :: TB) { frames := 1, cells := 0, slots := 0, locals := 22 } D [(cI, .int), (cZ, .boolean)] tL [.ref (q 0), .int x1] (wM cI cZ q σ ++ tl) out0 (wM cI cZ q σ ++ tl) := by
  refine gCi_of (cc := b_M_parametersOf) (maxL := 2) (ty := .int) (by decide) rfl (Nat.le_of_ble_eq_true rfl) ?_
  intro p e s m below meth c A ls hf hr hlk hA hK hD0 hE hP hl
  obtain ⟨hx, hb, hml, hown, hts⟩ := id hf
  have hts : ∀ w ∈ TB, w.before _ s = true := fun w h => hts w (List.mem_cons_of_mem _ h)
  have hown : s.vm.findClass R_M = some m.cls := hown
  have hl : lv_has ls 2 [(0, .ref (q 0)), (1, .int x1)] := hl
  have hS : va_S A s.heap s.heap [] := va_S.rf
  have hD : ∀ σ' : St, va_D A (wM cI cZ q σ' ++ tl) := fun σ' => va_Dsame hD0 rfl
  unfold f_M_parametersOf at h
  refine lv_aload_n hx hb d_M_parametersOf_0 rfl (lv_at hl 0 rfl) ?_
  refine lv_iload_n hx hb d_M_parametersOf_1 rfl (lv_at hl 1 rfl) ?_
  refine lv_iconst (v := 0) hx hb d_M_parametersOf_2 (by decide) ?_
  obtain ⟨u3, hu3, h⟩ := bnd h
  refine gcall_i (va_runV (As := [.int x1, .int (0 : Int32)]) (rest := []) ⟨hx, hb, hml, hown, hts⟩ (c_M_name l D cI cZ tL q tl σ x1 (0 : Int32) u3 hu3 s.heap.size) (cwV 2 hts (gV w_537 w_538 w_723 w_6 w_539) rfl rfl rfl (by decide +kernel) ⟨Nat.le_of_ble_eq_true rfl, Nat.le_of_ble_eq_true rfl⟩) (gpV (k := 0) (ci := 5) hA hK (hD σ) hE hP hS rfl rfl) rfl rfl hl.1 rfl (lv_room (Nat.le_of_ble_eq_true rfl)) d_M_parametersOf_3 ⟨Nat.le_of_ble_eq_true rfl, Nat.le_of_ble_eq_true rfl⟩) hA (hD σ) hS (fun H locs hP hS => ?_)
  refine lv_aload_n hx hb d_M_parametersOf_6 rfl (lv_at hl 0 rfl) ?_
  refine lv_iload_n hx hb d_M_parametersOf_7 rfl (lv_at hl 1 rfl) ?_
  refine lv_iconst (v := 1) hx hb d_M_parametersOf_8 (by decide) ?_
  obtain ⟨u9, hu9, h⟩ := bnd h
  refine gcall_i (va_runV (As := [.int x1, .int (1 : Int32)]) (rest := [.int u3]) ⟨hx, hb, hml, hown, hts⟩ (c_M_name l D cI cZ tL q tl σ x1 (1 : Int32) u9 hu9 H.size) (cwV 2 hts (gV w_537 w_538 w_723 w_6 w_539) rfl rfl rfl (by decide +kernel) ⟨Nat.le_of_ble_eq_true rfl, Nat.le_of_ble_eq_true rfl⟩) (gpV (k := 0) (ci := 5) hA hK (hD σ) hE hP hS rfl rfl) rfl rfl hl.1 rfl (lv_room (Nat.le_of_ble_eq_true rfl)) d_M_parametersOf_9 ⟨Nat.le_of_ble_eq_true rfl, Nat.le_of_ble_eq_true rfl⟩) hA (hD σ) hS (fun H locs hP hS => ?_)
  refine lv_ior hx hb d_M_parametersOf_12 ?_
  refine lv_aload_n hx hb d_M_parametersOf_13 rfl (lv_at hl 0 rfl) ?_
  refine lv_iload_n hx hb d_M_parametersOf_14 rfl (lv_at hl 1 rfl) ?_
  refine lv_iconst (v := 2) hx hb d_M_parametersOf_15 (by decide) ?_
  obtain ⟨u16, hu16, h⟩ := bnd h
  refine gcall_i (va_runV (As := [.int x1, .int (2 : Int32)]) (rest := [.int (u3 ||| u9)]) ⟨hx, hb, hml, hown, hts⟩ (c_M_name l D cI cZ tL q tl σ x1 (2 : Int32) u16 hu16 H.size) (cwV 2 hts (gV w_537 w_538 w_723 w_6 w_539) rfl rfl rfl (by decide +kernel) ⟨Nat.le_of_ble_eq_true rfl, Nat.le_of_ble_eq_true rfl⟩) (gpV (k := 0) (ci := 5) hA hK (hD σ) hE hP hS rfl rfl) rfl rfl hl.1 rfl (lv_room (Nat.le_of_ble_eq_true rfl)) d_M_parametersOf_16 ⟨Nat.le_of_ble_eq_true rfl, Nat.le_of_ble_eq_true rfl⟩) hA (hD σ) hS (fun H locs hP hS => ?_)
  refine lv_ior hx hb d_M_parametersOf_19 ?_
  cases h
  exact gret_i hx hb hr hlk hP hS d_M_parametersOf_20
/-! ===== EscapeOwnersModel.isOut(I)Z ===== -/
def f_M_isOut (F : Nat) (σ : St) (x1 : Int32) : Option (Int32) := Option.bind (f_M_owner σ x1) (fun u2 => Option.bind (f_M_shared F σ) (fun u7 => Option.bind (f_M_has u7 x1) (fun u11 => if u11 = 0 then (if ¬ (u2 < 0 ∨ 8 ≤ u2.toNatClampNeg) then (Option.bind (f_M_parametersOf σ u2) (fun u26 => Option.bind (f_M_closed F σ (((σ 9) u2.toNatClampNeg) ||| u26)) (fun u30 => Option.bind (f_M_has u30 x1) (fun u34 => if u34 = 0 then (some (0 : Int32)) else (some (1 : Int32)))))) else none) else (some (1 : Int32)))))
set_option maxHeartbeats 4000000 in
set_option maxRecDepth 100000 in
theorem c_M_isOut (l : Launch) (D : va_G) (cI cZ : ClassId) (tL : Nat) (q : Nat → Nat) (tl : va_W) (F : Nat) (σ : St) (x1 : Int32) (out0 : Int32) (h : f_M_isOut F σ x1 = some out0) : gCi l y_M_isOut (.code y_M_isOut b_M_isOut 3 (some .boolean) :: TB) { frames := 5, cells := 0, slots := 0, locals := 111 } D [(cI, .int), (cZ, .boolean)] tL [.ref (q 0), .int x1] (wM cI cZ q σ ++ tl) out0 (wM cI cZ q σ ++ tl) := by
  refine gCi_of (cc := b_M_isOut) (maxL := 3) (ty := .boolean) (by decide) rfl (Nat.le_of_ble_eq_true rfl) ?_
  intro p e s m below meth c A ls hf hr hlk hA hK hD0 hE hP hl
  obtain ⟨hx, hb, hml, hown, hts⟩ := id hf
  have hts : ∀ w ∈ TB, w.before _ s = true := fun w h => hts w (List.mem_cons_of_mem _ h)
  have hown : s.vm.findClass R_M = some m.cls := hown
  have hl : lv_has ls 3 [(0, .ref (q 0)), (1, .int x1)] := hl
  have hS : va_S A s.heap s.heap [] := va_S.rf
  have hD : ∀ σ' : St, va_D A (wM cI cZ q σ' ++ tl) := fun σ' => va_Dsame hD0 rfl
  unfold f_M_isOut at h
  refine lv_aload_n hx hb d_M_isOut_0 rfl (lv_at hl 0 rfl) ?_
  refine lv_iload_n hx hb d_M_isOut_1 rfl (lv_at hl 1 rfl) ?_
  obtain ⟨u2, hu2, h⟩ := bnd h
  refine gcall_i (va_runV (As := [.int x1]) (rest := []) ⟨hx, hb, hml, hown, hts⟩ (c_M_owner l D cI cZ tL q tl σ x1 u2 hu2 s.heap.size) (cwV 1 hts (gV w_573 w_574 w_725 w_6 w_575) rfl rfl rfl (by decide +kernel) ⟨Nat.le_of_ble_eq_true rfl, Nat.le_of_ble_eq_true rfl⟩) (gpV (k := 0) (ci := 5) hA hK (hD σ) hE hP hS rfl rfl) rfl rfl hl.1 rfl (lv_room (Nat.le_of_ble_eq_true rfl)) d_M_isOut_2 ⟨Nat.le_of_ble_eq_true rfl, Nat.le_of_ble_eq_true rfl⟩) hA (hD σ) hS (fun H locs hP hS => ?_)
  refine lv_istore_n (lv' := [(2, .int u2), (0, .ref (q 0)), (1, .int x1)]) hx hb d_M_isOut_5 rfl hl (by decide) rfl (fun ls hl => ?_)
  refine lv_aload_n hx hb d_M_isOut_6 rfl (lv_at hl 1 rfl) ?_
  obtain ⟨u7, hu7, h⟩ := bnd h
  refine gcall_i (va_runV (As := []) (rest := []) ⟨hx, hb, hml, hown, hts⟩ (c_M_shared l D cI cZ tL q tl F σ  u7 hu7 H.size) (cwV 0 hts (gV w_606 w_607 w_728 w_6 w_608) rfl rfl rfl (by decide +kernel) ⟨Nat.le_of_ble_eq_true rfl, Nat.le_of_ble_eq_true rfl⟩) (gpV (k := 0) (ci := 5) hA hK (hD σ) hE hP hS rfl rfl) rfl rfl hl.1 rfl (lv_room (Nat.le_of_ble_eq_true rfl)) d_M_isOut_7 ⟨Nat.le_of_ble_eq_true rfl, Nat.le_of_ble_eq_true rfl⟩) hA (hD σ) hS (fun H locs hP hS => ?_)
  refine lv_iload_n hx hb d_M_isOut_10 rfl (lv_at hl 2 rfl) ?_
  obtain ⟨u11, hu11, h⟩ := bnd h
  refine gcall_i (va_runS (As := [.int u7, .int x1]) (rest := []) ⟨hx, hb, hml, hown, hts⟩ (c_M_has l D cI cZ tL (wM cI cZ q σ ++ tl) u7 x1 u11 hu11 H.size) (va_cwS 2 hts (gS w_522 w_523 w_6 w_524) rfl rfl rfl (by decide +kernel) ⟨Nat.le_of_ble_eq_true rfl, Nat.le_of_ble_eq_true rfl⟩) (gpS hA hK (hD σ) hE hP hS) rfl rfl hl.1 rfl (lv_room (Nat.le_of_ble_eq_true rfl)) d_M_isOut_11 ⟨Nat.le_of_ble_eq_true rfl, Nat.le_of_ble_eq_true rfl⟩) hA (hD σ) hS (fun H locs hP hS => ?_)
  refine lv_if_ne (tgt := 40) hx hb d_M_isOut_14 (by decide) (fun c => ?_) (fun c => ?_)
  · have h := ifn c h
    refine lv_iconst (v := 1) hx hb d_M_isOut_40 (by decide) ?_
    refine lv_goto (tgt := 45) hx hb d_M_isOut_41 (by decide) ?_
    cases h
    exact gret_z hx hb hr hlk (gz (Or.inr rfl)) hP hS d_M_isOut_45
  have h := ifp c h
  refine lv_aload_n hx hb d_M_isOut_17 rfl (lv_at hl 1 rfl) ?_
  refine lv_aload_n hx hb d_M_isOut_18 rfl (lv_at hl 1 rfl) ?_
  refine va_get (D := D) (ci := 5) (v := .ref (q 9)) (C := R_M) (T := T_M) (N := 17) hx hb hts l_M hown hK hP 0 rfl rfl 11 (by decide) (hts _ w_450) (fun _ h9 => h9) rfl d_M_isOut_19 ?_
  refine lv_iload_n hx hb d_M_isOut_22 rfl (lv_at hl 0 rfl) ?_
  obtain ⟨c, h⟩ := ifs h
  refine va_iald hx hb hK hP 9 0 rfl rfl c d_M_isOut_23 ?_
  refine lv_aload_n hx hb d_M_isOut_24 rfl (lv_at hl 1 rfl) ?_
  refine lv_iload_n hx hb d_M_isOut_25 rfl (lv_at hl 0 rfl) ?_
  obtain ⟨u26, hu26, h⟩ := bnd h
  refine gcall_i (va_runV (As := [.int u2]) (rest := [.int ((σ 9) u2.toNatClampNeg), .ref (q 0)]) ⟨hx, hb, hml, hown, hts⟩ (c_M_parametersOf l D cI cZ tL q tl σ u2 u26 hu26 H.size) (cwV 1 hts (gV w_627 w_628 w_726 w_6 w_629) rfl rfl rfl (by decide +kernel) ⟨Nat.le_of_ble_eq_true rfl, Nat.le_of_ble_eq_true rfl⟩) (gpV (k := 0) (ci := 5) hA hK (hD σ) hE hP hS rfl rfl) rfl rfl hl.1 rfl (lv_room (Nat.le_of_ble_eq_true rfl)) d_M_isOut_26 ⟨Nat.le_of_ble_eq_true rfl, Nat.le_of_ble_eq_true rfl⟩) hA (hD σ) hS (fun H locs hP hS => ?_)
  refine lv_ior hx hb d_M_isOut_29 ?_
  obtain ⟨u30, hu30, h⟩ := bnd h
  refine gcall_i (va_runV (As := [.int (((σ 9) u2.toNatClampNeg) ||| u26)]) (rest := []) ⟨hx, hb, hml, hown, hts⟩ (c_M_closed l D cI cZ tL q tl F σ (((σ 9) u2.toNatClampNeg) ||| u26) u30 hu30 H.size) (cwV 1 hts (gV w_609 w_610 w_699 w_6 w_611) rfl rfl rfl (by decide +kernel) ⟨Nat.le_of_ble_eq_true rfl, Nat.le_of_ble_eq_true rfl⟩) (gpV (k := 0) (ci := 5) hA hK (hD σ) hE hP hS rfl rfl) rfl rfl hl.1 rfl (lv_room (Nat.le_of_ble_eq_true rfl)) d_M_isOut_30 ⟨Nat.le_of_ble_eq_true rfl, Nat.le_of_ble_eq_true rfl⟩) hA (hD σ) hS (fun H locs hP hS => ?_)
  refine lv_iload_n hx hb d_M_isOut_33 rfl (lv_at hl 2 rfl) ?_
  obtain ⟨u34, hu34, h⟩ := bnd h
  refine gcall_i (va_runS (As := [.int u30, .int x1]) (rest := []) ⟨hx, hb, hml, hown, hts⟩ (c_M_has l D cI cZ tL (wM cI cZ q σ ++ tl) u30 x1 u34 hu34 H.size) (va_cwS 2 hts (gS w_522 w_523 w_6 w_524) rfl rfl rfl (by decide +kernel) ⟨Nat.le_of_ble_eq_true rfl, Nat.le_of_ble_eq_true rfl⟩) (gpS hA hK (hD σ) hE hP hS) rfl rfl hl.1 rfl (lv_room (Nat.le_of_ble_eq_true rfl)) d_M_isOut_34 ⟨Nat.le_of_ble_eq_true rfl, Nat.le_of_ble_eq_true rfl⟩) hA (hD σ) hS (fun H locs hP hS => ?_)
  refine lv_if_eq (tgt := 44) hx hb d_M_isOut_37 (by decide) (fun c => ?_) (fun c => ?_)
  · have h := ifp c h
    refine lv_iconst (v := 0) hx hb d_M_isOut_44 (by decide) ?_
    cases h
    exact gret_z hx hb hr hlk (gz (Or.inl rfl)) hP hS d_M_isOut_45
  have h := ifn c h
  refine lv_iconst (v := 1) hx hb d_M_isOut_40 (by decide) ?_
  refine lv_goto (tgt := 45) hx hb d_M_isOut_41 (by decide) ?_
  cases h
  exact gret_z hx hb hr hlk (gz (Or.inr rfl)) hP hS d_M_isOut_45
/-! ===== EscapeOwnersModel.holders(I)I ===== -/
def f_M_holders_B4 (F : Nat) (σ : St) (y1 : Int32) (rec : Int32 → Int32 → Option (Int32 × Int32)) (y2 : Int32) (y3 : Int32) : Option (Int32 × Int32) := if ((4 : Int32) * (σ 0 2)) ≤ y3 then (some (y2, y3)) else (if ¬ (y3 < 0 ∨ 64 ≤ y3.toNatClampNeg) then (Option.bind (f_M_has ((σ 7) y3.toNatClampNeg) y1) (fun u21 => if u21 = 0 then (rec y2 (y3 + (1 : Int32))) else (rec (y2 + (1 : Int32)) (y3 + (1 : Int32))))) else none)
def f_M_holders_L4 (F : Nat) (σ : St) (y1 : Int32) : Nat → Int32 → Int32 → Option (Int32 × Int32)
  | 0, _, _ => none
  | fu + 1, y2, y3 => f_M_holders_B4 F σ y1 (f_M_holders_L4 F σ y1 fu) y2 y3
def f_M_holders (F : Nat) (σ : St) (x1 : Int32) : Option (Int32) := Option.bind (f_M_holders_L4 F σ x1 F (0 : Int32) (0 : Int32)) (fun u4 => some u4.1)
set_option maxHeartbeats 4000000 in
set_option maxRecDepth 100000 in
theorem c_M_holders (l : Launch) (D : va_G) (cI cZ : ClassId) (tL : Nat) (q : Nat → Nat) (tl : va_W) (F : Nat) (σ : St) (x1 : Int32) (out0 : Int32) (h : f_M_holders F σ x1 = some out0) : gCi l y_M_holders (.code y_M_holders b_M_holders 4 (some .int) :: TB) { frames := 1, cells := 0, slots := 0, locals := 21 } D [(cI, .int), (cZ, .boolean)] tL [.ref (q 0), .int x1] (wM cI cZ q σ ++ tl) out0 (wM cI cZ q σ ++ tl) := by
  refine gCi_of (cc := b_M_holders) (maxL := 4) (ty := .int) (by decide) rfl (Nat.le_of_ble_eq_true rfl) ?_
  intro p e s m below meth c A ls hf hr hlk hA hK hD0 hE hP hl
  obtain ⟨hx, hb, hml, hown, hts⟩ := id hf
  have hts : ∀ w ∈ TB, w.before _ s = true := fun w h => hts w (List.mem_cons_of_mem _ h)
  have hown : s.vm.findClass R_M = some m.cls := hown
  have hl : lv_has ls 4 [(0, .ref (q 0)), (1, .int x1)] := hl
  have hS : va_S A s.heap s.heap [] := va_S.rf
  have hD : ∀ σ' : St, va_D A (wM cI cZ q σ' ++ tl) := fun σ' => va_Dsame hD0 rfl
  have L4 : ∀ (σ : St) (y1 : Int32) (fu : Nat) (y2 : Int32) (y3 : Int32) (H : Heap) (locs : List Loc) (ls : Array Slot) (out : Int32 × Int32), f_M_holders_L4 F σ y1 fu y2 y3 = some out → va_P D vwCl (wM cI cZ q σ ++ tl) H → va_S A s.heap H locs → lv_has ls 4 [(0, .ref (q 0)), (1, .int y1), (2, .int y2), (3, .int y3)] → (∀ (H : Heap) (locs : List Loc) (ls : Array Slot), va_P D vwCl (wM cI cZ q σ ++ tl) H → va_S A s.heap H locs → lv_has ls 4 [(0, .ref (q 0)), (1, .int y1), (2, .int out.1), (3, .int out.2)] → W p l e { frames := 1, cells := 0, slots := 0, locals := 21 } s m ([.ref (q 0), .int x1] : List Value).toArray below meth c H locs 0 0 (gQi below D out0 (wM cI cZ q σ ++ tl) A (([.ref (q 0), .int x1] : List Value).toArray) s) (F0 m 41 ls [])) → W p l e { frames := 1, cells := 0, slots := 0, locals := 21 } s m ([.ref (q 0), .int x1] : List Value).toArray below meth c H locs 0 0 (gQi below D out0 (wM cI cZ q σ ++ tl) A (([.ref (q 0), .int x1] : List Value).toArray) s) (F0 m 4 ls []) := by
    intro σ y1 fu
    induction fu with
    | zero => intro y2 y3 H locs ls out h; exact absurd (show (none : Option (Int32 × Int32)) = some out from h) (fun z => by cases z)
    | succ fu ih =>
      intro y2 y3 H locs ls out h hP hS hl K
      have h : f_M_holders_B4 F σ y1 (f_M_holders_L4 F σ y1 fu) y2 y3 = some out := h
      unfold f_M_holders_B4 at h
      refine lv_iload_n hx hb d_M_holders_4 rfl (lv_at hl 3 rfl) ?_
      refine lv_iconst (v := 4) hx hb d_M_holders_5 (by decide) ?_
      refine lv_aload_n hx hb d_M_holders_6 rfl (lv_at hl 0 rfl) ?_
      refine va_get (D := D) (ci := 5) (v := .int (σ 0 2)) (C := R_M) (T := T_M) (N := 17) hx hb hts l_M hown hK hP 0 rfl rfl 2 (by decide) (hts _ w_441) (fun _ h9 => h9) rfl d_M_holders_7 ?_
      refine lv_imul hx hb d_M_holders_10 ?_
      refine lv_icmp_ge (tgt := 41) hx hb d_M_holders_11 (by decide) (fun c => ?_) (fun c => ?_)
      · have h := ifp c h
        cases h
        exact K _ _ ls hP hS (lv_sub hl [0, 1, 2, 3] rfl)
      have h := ifn c h
      refine lv_aload_n hx hb d_M_holders_14 rfl (lv_at hl 0 rfl) ?_
      refine va_get (D := D) (ci := 5) (v := .ref (q 7)) (C := R_M) (T := T_M) (N := 17) hx hb hts l_M hown hK hP 0 rfl rfl 9 (by decide) (hts _ w_448) (fun _ h9 => h9) rfl d_M_holders_15 ?_
      refine lv_iload_n hx hb d_M_holders_18 rfl (lv_at hl 3 rfl) ?_
      obtain ⟨c, h⟩ := ifs h
      refine va_iald hx hb hK hP 7 0 rfl rfl c d_M_holders_19 ?_
      refine lv_iload_n hx hb d_M_holders_20 rfl (lv_at hl 1 rfl) ?_
      obtain ⟨u21, hu21, h⟩ := bnd h
      refine gcall_i (va_runS (As := [.int ((σ 7) y3.toNatClampNeg), .int y1]) (rest := []) ⟨hx, hb, hml, hown, hts⟩ (c_M_has l D cI cZ tL (wM cI cZ q σ ++ tl) ((σ 7) y3.toNatClampNeg) y1 u21 hu21 H.size) (va_cwS 2 hts (gS w_522 w_523 w_6 w_524) rfl rfl rfl (by decide +kernel) ⟨Nat.le_of_ble_eq_true rfl, Nat.le_of_ble_eq_true rfl⟩) (gpS hA hK (hD σ) hE hP hS) rfl rfl hl.1 rfl (lv_room (Nat.le_of_ble_eq_true rfl)) d_M_holders_21 ⟨Nat.le_of_ble_eq_true rfl, Nat.le_of_ble_eq_true rfl⟩) hA (hD σ) hS (fun H locs hP hS => ?_)
      refine lv_if_eq (tgt := 33) hx hb d_M_holders_24 (by decide) (fun c => ?_) (fun c => ?_)
      · have h := ifp c h
        refine lv_iload_n hx hb d_M_holders_33 rfl (lv_at hl 2 rfl) ?_
        refine lv_istore_n (lv' := [(2, .int y2), (0, .ref (q 0)), (1, .int y1), (3, .int y3)]) hx hb d_M_holders_34 rfl hl (by decide) rfl (fun ls hl => ?_)
        refine lv_iinc (v := (y3 + (1 : Int32))) (lv' := [(3, .int (y3 + (1 : Int32))), (2, .int y2), (0, .ref (q 0)), (1, .int y1)]) hx hb d_M_holders_35 hl (k := 3) rfl rfl (by decide) rfl (fun ls hl => ?_)
        refine lv_goto (tgt := 4) hx hb d_M_holders_38 (by decide) ?_
        exact ih y2 (y3 + (1 : Int32)) _ _ ls out h hP hS (lv_sub hl [2, 3, 1, 0] rfl) K
      have h := ifn c h
      refine lv_iload_n hx hb d_M_holders_27 rfl (lv_at hl 2 rfl) ?_
      refine lv_iconst (v := 1) hx hb d_M_holders_28 (by decide) ?_
      refine lv_iadd hx hb d_M_holders_29 ?_
      refine lv_goto (tgt := 34) hx hb d_M_holders_30 (by decide) ?_
      refine lv_istore_n (lv' := [(2, .int (y2 + (1 : Int32))), (0, .ref (q 0)), (1, .int y1), (3, .int y3)]) hx hb d_M_holders_34 rfl hl (by decide) rfl (fun ls hl => ?_)
      refine lv_iinc (v := (y3 + (1 : Int32))) (lv' := [(3, .int (y3 + (1 : Int32))), (2, .int (y2 + (1 : Int32))), (0, .ref (q 0)), (1, .int y1)]) hx hb d_M_holders_35 hl (k := 3) rfl rfl (by decide) rfl (fun ls hl => ?_)
      refine lv_goto (tgt := 4) hx hb d_M_holders_38 (by decide) ?_
      exact ih (y2 + (1 : Int32)) (y3 + (1 : Int32)) _ _ ls out h hP hS (lv_sub hl [2, 3, 1, 0] rfl) K
  unfold f_M_holders at h
  refine lv_iconst (v := 0) hx hb d_M_holders_0 (by decide) ?_
  refine lv_istore_n (lv' := [(2, .int (0 : Int32)), (0, .ref (q 0)), (1, .int x1)]) hx hb d_M_holders_1 rfl hl (by decide) rfl (fun ls hl => ?_)
  refine lv_iconst (v := 0) hx hb d_M_holders_2 (by decide) ?_
  refine lv_istore_n (lv' := [(3, .int (0 : Int32)), (2, .int (0 : Int32)), (0, .ref (q 0)), (1, .int x1)]) hx hb d_M_holders_3 rfl hl (by decide) rfl (fun ls hl => ?_)
  obtain ⟨u4, hu4, h⟩ := bnd h
  refine L4 σ x1 F (0 : Int32) (0 : Int32) _ _ ls u4 hu4 hP hS (lv_sub hl [2, 3, 1, 0] rfl) (fun H locs ls hP hS hl => ?_)
  refine lv_iload_n hx hb d_M_holders_41 rfl (lv_at hl 2 rfl) ?_
  cases h
  exact gret_i hx hb hr hlk hP hS d_M_holders_42
/-! ===== EscapeOwnersModel.holderSites(I)I ===== -/
def f_M_holderSites_B4 (F : Nat) (σ : St) (y1 : Int32) (rec : Int32 → Int32 → Option (Int32 × Int32)) (y2 : Int32) (y3 : Int32) : Option (Int32 × Int32) := if ((4 : Int32) * (σ 0 2)) ≤ y3 then (some (y2, y3)) else (if ¬ (y3 < 0 ∨ 64 ≤ y3.toNatClampNeg) then (Option.bind (f_M_has ((σ 7) y3.toNatClampNeg) y1) (fun u21 => if u21 = 0 then (rec y2 (y3 + (1 : Int32))) else (rec (y2 ||| ((1 : Int32) <<< ((y3 / (4 : Int32)) &&& 31))) (y3 + (1 : Int32))))) else none)
def f_M_holderSites_L4 (F : Nat) (σ : St) (y1 : Int32) : Nat → Int32 → Int32 → Option (Int32 × Int32)
  | 0, _, _ => none
  | fu + 1, y2, y3 => f_M_holderSites_B4 F σ y1 (f_M_holderSites_L4 F σ y1 fu) y2 y3
def f_M_holderSites (F : Nat) (σ : St) (x1 : Int32) : Option (Int32) := Option.bind (f_M_holderSites_L4 F σ x1 F (0 : Int32) (0 : Int32)) (fun u4 => some u4.1)
set_option maxHeartbeats 4000000 in
set_option maxRecDepth 100000 in
theorem c_M_holderSites (l : Launch) (D : va_G) (cI cZ : ClassId) (tL : Nat) (q : Nat → Nat) (tl : va_W) (F : Nat) (σ : St) (x1 : Int32) (out0 : Int32) (h : f_M_holderSites F σ x1 = some out0) : gCi l y_M_holderSites (.code y_M_holderSites b_M_holderSites 4 (some .int) :: TB) { frames := 1, cells := 0, slots := 0, locals := 21 } D [(cI, .int), (cZ, .boolean)] tL [.ref (q 0), .int x1] (wM cI cZ q σ ++ tl) out0 (wM cI cZ q σ ++ tl) := by
  refine gCi_of (cc := b_M_holderSites) (maxL := 4) (ty := .int) (by decide) rfl (Nat.le_of_ble_eq_true rfl) ?_
  intro p e s m below meth c A ls hf hr hlk hA hK hD0 hE hP hl
  obtain ⟨hx, hb, hml, hown, hts⟩ := id hf
  have hts : ∀ w ∈ TB, w.before _ s = true := fun w h => hts w (List.mem_cons_of_mem _ h)
  have hown : s.vm.findClass R_M = some m.cls := hown
  have hl : lv_has ls 4 [(0, .ref (q 0)), (1, .int x1)] := hl
  have hS : va_S A s.heap s.heap [] := va_S.rf
  have hD : ∀ σ' : St, va_D A (wM cI cZ q σ' ++ tl) := fun σ' => va_Dsame hD0 rfl
  have L4 : ∀ (σ : St) (y1 : Int32) (fu : Nat) (y2 : Int32) (y3 : Int32) (H : Heap) (locs : List Loc) (ls : Array Slot) (out : Int32 × Int32), f_M_holderSites_L4 F σ y1 fu y2 y3 = some out → va_P D vwCl (wM cI cZ q σ ++ tl) H → va_S A s.heap H locs → lv_has ls 4 [(0, .ref (q 0)), (1, .int y1), (2, .int y2), (3, .int y3)] → (∀ (H : Heap) (locs : List Loc) (ls : Array Slot), va_P D vwCl (wM cI cZ q σ ++ tl) H → va_S A s.heap H locs → lv_has ls 4 [(0, .ref (q 0)), (1, .int y1), (2, .int out.1), (3, .int out.2)] → W p l e { frames := 1, cells := 0, slots := 0, locals := 21 } s m ([.ref (q 0), .int x1] : List Value).toArray below meth c H locs 0 0 (gQi below D out0 (wM cI cZ q σ ++ tl) A (([.ref (q 0), .int x1] : List Value).toArray) s) (F0 m 45 ls [])) → W p l e { frames := 1, cells := 0, slots := 0, locals := 21 } s m ([.ref (q 0), .int x1] : List Value).toArray below meth c H locs 0 0 (gQi below D out0 (wM cI cZ q σ ++ tl) A (([.ref (q 0), .int x1] : List Value).toArray) s) (F0 m 4 ls []) := by
    intro σ y1 fu
    induction fu with
    | zero => intro y2 y3 H locs ls out h; exact absurd (show (none : Option (Int32 × Int32)) = some out from h) (fun z => by cases z)
    | succ fu ih =>
      intro y2 y3 H locs ls out h hP hS hl K
      have h : f_M_holderSites_B4 F σ y1 (f_M_holderSites_L4 F σ y1 fu) y2 y3 = some out := h
      unfold f_M_holderSites_B4 at h
      refine lv_iload_n hx hb d_M_holderSites_4 rfl (lv_at hl 3 rfl) ?_
      refine lv_iconst (v := 4) hx hb d_M_holderSites_5 (by decide) ?_
      refine lv_aload_n hx hb d_M_holderSites_6 rfl (lv_at hl 0 rfl) ?_
      refine va_get (D := D) (ci := 5) (v := .int (σ 0 2)) (C := R_M) (T := T_M) (N := 17) hx hb hts l_M hown hK hP 0 rfl rfl 2 (by decide) (hts _ w_441) (fun _ h9 => h9) rfl d_M_holderSites_7 ?_
      refine lv_imul hx hb d_M_holderSites_10 ?_
      refine lv_icmp_ge (tgt := 45) hx hb d_M_holderSites_11 (by decide) (fun c => ?_) (fun c => ?_)
      · have h := ifp c h
        cases h
        exact K _ _ ls hP hS (lv_sub hl [0, 1, 2, 3] rfl)
      have h := ifn c h
      refine lv_aload_n hx hb d_M_holderSites_14 rfl (lv_at hl 0 rfl) ?_
      refine va_get (D := D) (ci := 5) (v := .ref (q 7)) (C := R_M) (T := T_M) (N := 17) hx hb hts l_M hown hK hP 0 rfl rfl 9 (by decide) (hts _ w_448) (fun _ h9 => h9) rfl d_M_holderSites_15 ?_
      refine lv_iload_n hx hb d_M_holderSites_18 rfl (lv_at hl 3 rfl) ?_
      obtain ⟨c, h⟩ := ifs h
      refine va_iald hx hb hK hP 7 0 rfl rfl c d_M_holderSites_19 ?_
      refine lv_iload_n hx hb d_M_holderSites_20 rfl (lv_at hl 1 rfl) ?_
      obtain ⟨u21, hu21, h⟩ := bnd h
      refine gcall_i (va_runS (As := [.int ((σ 7) y3.toNatClampNeg), .int y1]) (rest := []) ⟨hx, hb, hml, hown, hts⟩ (c_M_has l D cI cZ tL (wM cI cZ q σ ++ tl) ((σ 7) y3.toNatClampNeg) y1 u21 hu21 H.size) (va_cwS 2 hts (gS w_522 w_523 w_6 w_524) rfl rfl rfl (by decide +kernel) ⟨Nat.le_of_ble_eq_true rfl, Nat.le_of_ble_eq_true rfl⟩) (gpS hA hK (hD σ) hE hP hS) rfl rfl hl.1 rfl (lv_room (Nat.le_of_ble_eq_true rfl)) d_M_holderSites_21 ⟨Nat.le_of_ble_eq_true rfl, Nat.le_of_ble_eq_true rfl⟩) hA (hD σ) hS (fun H locs hP hS => ?_)
      refine lv_if_eq (tgt := 37) hx hb d_M_holderSites_24 (by decide) (fun c => ?_) (fun c => ?_)
      · have h := ifp c h
        refine lv_iload_n hx hb d_M_holderSites_37 rfl (lv_at hl 2 rfl) ?_
        refine lv_istore_n (lv' := [(2, .int y2), (0, .ref (q 0)), (1, .int y1), (3, .int y3)]) hx hb d_M_holderSites_38 rfl hl (by decide) rfl (fun ls hl => ?_)
        refine lv_iinc (v := (y3 + (1 : Int32))) (lv' := [(3, .int (y3 + (1 : Int32))), (2, .int y2), (0, .ref (q 0)), (1, .int y1)]) hx hb d_M_holderSites_39 hl (k := 3) rfl rfl (by decide) rfl (fun ls hl => ?_)
        refine lv_goto (tgt := 4) hx hb d_M_holderSites_42 (by decide) ?_
        exact ih y2 (y3 + (1 : Int32)) _ _ ls out h hP hS (lv_sub hl [2, 3, 1, 0] rfl) K
      have h := ifn c h
      refine lv_iload_n hx hb d_M_holderSites_27 rfl (lv_at hl 2 rfl) ?_
      refine lv_iconst (v := 1) hx hb d_M_holderSites_28 (by decide) ?_
      refine lv_iload_n hx hb d_M_holderSites_29 rfl (lv_at hl 3 rfl) ?_
      refine lv_iconst (v := 4) hx hb d_M_holderSites_30 (by decide) ?_
      refine lv_idiv hx hb d_M_holderSites_31 (by decide) ?_
      refine lv_ishl hx hb d_M_holderSites_32 ?_
      refine lv_ior hx hb d_M_holderSites_33 ?_
      refine lv_goto (tgt := 38) hx hb d_M_holderSites_34 (by decide) ?_
      refine lv_istore_n (lv' := [(2, .int (y2 ||| ((1 : Int32) <<< ((y3 / (4 : Int32)) &&& 31)))), (0, .ref (q 0)), (1, .int y1), (3, .int y3)]) hx hb d_M_holderSites_38 rfl hl (by decide) rfl (fun ls hl => ?_)
      refine lv_iinc (v := (y3 + (1 : Int32))) (lv' := [(3, .int (y3 + (1 : Int32))), (2, .int (y2 ||| ((1 : Int32) <<< ((y3 / (4 : Int32)) &&& 31)))), (0, .ref (q 0)), (1, .int y1)]) hx hb d_M_holderSites_39 hl (k := 3) rfl rfl (by decide) rfl (fun ls hl => ?_)
      refine lv_goto (tgt := 4) hx hb d_M_holderSites_42 (by decide) ?_
      exact ih (y2 ||| ((1 : Int32) <<< ((y3 / (4 : Int32)) &&& 31))) (y3 + (1 : Int32)) _ _ ls out h hP hS (lv_sub hl [2, 3, 1, 0] rfl) K
  unfold f_M_holderSites at h
  refine lv_iconst (v := 0) hx hb d_M_holderSites_0 (by decide) ?_
  refine lv_istore_n (lv' := [(2, .int (0 : Int32)), (0, .ref (q 0)), (1, .int x1)]) hx hb d_M_holderSites_1 rfl hl (by decide) rfl (fun ls hl => ?_)
  refine lv_iconst (v := 0) hx hb d_M_holderSites_2 (by decide) ?_
  refine lv_istore_n (lv' := [(3, .int (0 : Int32)), (2, .int (0 : Int32)), (0, .ref (q 0)), (1, .int x1)]) hx hb d_M_holderSites_3 rfl hl (by decide) rfl (fun ls hl => ?_)
  obtain ⟨u4, hu4, h⟩ := bnd h
  refine L4 σ x1 F (0 : Int32) (0 : Int32) _ _ ls u4 hu4 hP hS (lv_sub hl [2, 3, 1, 0] rfl) (fun H locs ls hP hS hl => ?_)
  refine lv_iload_n hx hb d_M_holderSites_45 rfl (lv_at hl 2 rfl) ?_
  cases h
  exact gret_i hx hb hr hlk hP hS d_M_holderSites_46
/-! ===== EscapeOwnersModel.storers(I)I ===== -/
def f_M_storers_B4 (F : Nat) (σ : St) (y1 : Int32) (rec : Int32 → Int32 → Option (Int32 × Int32)) (y2 : Int32) (y3 : Int32) : Option (Int32 × Int32) := if (σ 0 1) ≤ y3 then (some (y2, y3)) else (Option.bind (f_M_isLive σ y3) (fun u14 => if u14 = 0 then (if (0 : Int32) = 0 then (rec y2 (y3 + (1 : Int32))) else (if ¬ (y3 < 0 ∨ 64 ≤ y3.toNatClampNeg) then (rec (y2 ||| ((1 : Int32) <<< (((σ 1) y3.toNatClampNeg) &&& 31))) (y3 + (1 : Int32))) else none)) else (if ¬ (y3 < 0 ∨ 64 ≤ y3.toNatClampNeg) then (if ((σ 2) y3.toNatClampNeg) = (3 : Int32) then (if ¬ (y3 < 0 ∨ 64 ≤ y3.toNatClampNeg) then (if ¬ (((5 : Int32) * y3) < 0 ∨ 320 ≤ ((5 : Int32) * y3).toNatClampNeg) then (Option.bind (f_M_name σ ((σ 1) y3.toNatClampNeg) ((σ 4) ((5 : Int32) * y3).toNatClampNeg)) (fun u45 => Option.bind (f_M_has u45 y1) (fun u49 => if u49 = 0 then (if (0 : Int32) = 0 then (rec y2 (y3 + (1 : Int32))) else (if ¬ (y3 < 0 ∨ 64 ≤ y3.toNatClampNeg) then (rec (y2 ||| ((1 : Int32) <<< (((σ 1) y3.toNatClampNeg) &&& 31))) (y3 + (1 : Int32))) else none)) else (if (1 : Int32) = 0 then (rec y2 (y3 + (1 : Int32))) else (if ¬ (y3 < 0 ∨ 64 ≤ y3.toNatClampNeg) then (rec (y2 ||| ((1 : Int32) <<< (((σ 1) y3.toNatClampNeg) &&& 31))) (y3 + (1 : Int32))) else none))))) else none) else none) else (if (0 : Int32) = 0 then (rec y2 (y3 + (1 : Int32))) else (if ¬ (y3 < 0 ∨ 64 ≤ y3.toNatClampNeg) then (rec (y2 ||| ((1 : Int32) <<< (((σ 1) y3.toNatClampNeg) &&& 31))) (y3 + (1 : Int32))) else none))) else none)))
def f_M_storers_L4 (F : Nat) (σ : St) (y1 : Int32) : Nat → Int32 → Int32 → Option (Int32 × Int32)
  | 0, _, _ => none
  | fu + 1, y2, y3 => f_M_storers_B4 F σ y1 (f_M_storers_L4 F σ y1 fu) y2 y3
def f_M_storers (F : Nat) (σ : St) (x1 : Int32) : Option (Int32) := Option.bind (f_M_storers_L4 F σ x1 F (0 : Int32) (0 : Int32)) (fun u4 => some u4.1)
set_option maxHeartbeats 4000000 in
set_option maxRecDepth 100000 in
theorem c_M_storers (l : Launch) (D : va_G) (cI cZ : ClassId) (tL : Nat) (q : Nat → Nat) (tl : va_W) (F : Nat) (σ : St) (x1 : Int32) (out0 : Int32) (h : f_M_storers F σ x1 = some out0) : gCi l y_M_storers (.code y_M_storers b_M_storers 5 (some .int) :: TB) { frames := 2, cells := 0, slots := 0, locals := 42 } D [(cI, .int), (cZ, .boolean)] tL [.ref (q 0), .int x1] (wM cI cZ q σ ++ tl) out0 (wM cI cZ q σ ++ tl) := by
  refine gCi_of (cc := b_M_storers) (maxL := 5) (ty := .int) (by decide) rfl (Nat.le_of_ble_eq_true rfl) ?_
  intro p e s m below meth c A ls hf hr hlk hA hK hD0 hE hP hl
  obtain ⟨hx, hb, hml, hown, hts⟩ := id hf
  have hts : ∀ w ∈ TB, w.before _ s = true := fun w h => hts w (List.mem_cons_of_mem _ h)
  have hown : s.vm.findClass R_M = some m.cls := hown
  have hl : lv_has ls 5 [(0, .ref (q 0)), (1, .int x1)] := hl
  have hS : va_S A s.heap s.heap [] := va_S.rf
  have hD : ∀ σ' : St, va_D A (wM cI cZ q σ' ++ tl) := fun σ' => va_Dsame hD0 rfl
  have L4 : ∀ (σ : St) (y1 : Int32) (fu : Nat) (y2 : Int32) (y3 : Int32) (H : Heap) (locs : List Loc) (ls : Array Slot) (out : Int32 × Int32), f_M_storers_L4 F σ y1 fu y2 y3 = some out → va_P D vwCl (wM cI cZ q σ ++ tl) H → va_S A s.heap H locs → lv_has ls 5 [(0, .ref (q 0)), (1, .int y1), (2, .int y2), (3, .int y3)] → (∀ (H : Heap) (locs : List Loc) (ls : Array Slot), va_P D vwCl (wM cI cZ q σ ++ tl) H → va_S A s.heap H locs → lv_has ls 5 [(0, .ref (q 0)), (1, .int y1), (2, .int out.1), (3, .int out.2)] → W p l e { frames := 2, cells := 0, slots := 0, locals := 42 } s m ([.ref (q 0), .int x1] : List Value).toArray below meth c H locs 0 0 (gQi below D out0 (wM cI cZ q σ ++ tl) A (([.ref (q 0), .int x1] : List Value).toArray) s) (F0 m 88 ls [])) → W p l e { frames := 2, cells := 0, slots := 0, locals := 42 } s m ([.ref (q 0), .int x1] : List Value).toArray below meth c H locs 0 0 (gQi below D out0 (wM cI cZ q σ ++ tl) A (([.ref (q 0), .int x1] : List Value).toArray) s) (F0 m 4 ls []) := by
    intro σ y1 fu
    induction fu with
    | zero => intro y2 y3 H locs ls out h; exact absurd (show (none : Option (Int32 × Int32)) = some out from h) (fun z => by cases z)
    | succ fu ih =>
      intro y2 y3 H locs ls out h hP hS hl K
      have h : f_M_storers_B4 F σ y1 (f_M_storers_L4 F σ y1 fu) y2 y3 = some out := h
      unfold f_M_storers_B4 at h
      refine lv_iload_n hx hb d_M_storers_4 rfl (lv_at hl 3 rfl) ?_
      refine lv_aload_n hx hb d_M_storers_5 rfl (lv_at hl 0 rfl) ?_
      refine va_get (D := D) (ci := 5) (v := .int (σ 0 1)) (C := R_M) (T := T_M) (N := 17) hx hb hts l_M hown hK hP 0 rfl rfl 1 (by decide) (hts _ w_440) (fun _ h9 => h9) rfl d_M_storers_6 ?_
      refine lv_icmp_ge (tgt := 88) hx hb d_M_storers_9 (by decide) (fun c => ?_) (fun c => ?_)
      · have h := ifp c h
        cases h
        exact K _ _ ls hP hS (lv_sub hl [0, 1, 2, 3] rfl)
      have h := ifn c h
      refine lv_aload_n hx hb d_M_storers_12 rfl (lv_at hl 0 rfl) ?_
      refine lv_iload_n hx hb d_M_storers_13 rfl (lv_at hl 3 rfl) ?_
      obtain ⟨u14, hu14, h⟩ := bnd h
      refine gcall_i (va_runV (As := [.int y3]) (rest := []) ⟨hx, hb, hml, hown, hts⟩ (c_M_isLive l D cI cZ tL q tl σ y3 u14 hu14 H.size) (cwV 1 hts (gV w_528 w_529 w_711 w_6 w_530) rfl rfl rfl (by decide +kernel) ⟨Nat.le_of_ble_eq_true rfl, Nat.le_of_ble_eq_true rfl⟩) (gpV (k := 0) (ci := 5) hA hK (hD σ) hE hP hS rfl rfl) rfl rfl hl.1 rfl (lv_room (Nat.le_of_ble_eq_true rfl)) d_M_storers_14 ⟨Nat.le_of_ble_eq_true rfl, Nat.le_of_ble_eq_true rfl⟩) hA (hD σ) hS (fun H locs hP hS => ?_)
      refine lv_if_eq (tgt := 59) hx hb d_M_storers_17 (by decide) (fun c => ?_) (fun c => ?_)
      · have h := ifp c h
        refine lv_iconst (v := 0) hx hb d_M_storers_59 (by decide) ?_
        refine lv_istore (lv' := [(4, .int (0 : Int32)), (0, .ref (q 0)), (1, .int y1), (2, .int y2), (3, .int y3)]) hx hb d_M_storers_60 hl (by decide) rfl (fun ls hl => ?_)
        refine lv_iload hx hb d_M_storers_62 (lv_at hl 0 rfl) ?_
        refine lv_if_eq (tgt := 80) hx hb d_M_storers_64 (by decide) (fun c => ?_) (fun c => ?_)
        · have h := ifp c h
          refine lv_iload_n hx hb d_M_storers_80 rfl (lv_at hl 3 rfl) ?_
          refine lv_istore_n (lv' := [(2, .int y2), (4, .int (0 : Int32)), (0, .ref (q 0)), (1, .int y1), (3, .int y3)]) hx hb d_M_storers_81 rfl hl (by decide) rfl (fun ls hl => ?_)
          refine lv_iinc (v := (y3 + (1 : Int32))) (lv' := [(3, .int (y3 + (1 : Int32))), (2, .int y2), (4, .int (0 : Int32)), (0, .ref (q 0)), (1, .int y1)]) hx hb d_M_storers_82 hl (k := 4) rfl rfl (by decide) rfl (fun ls hl => ?_)
          refine lv_goto (tgt := 4) hx hb d_M_storers_85 (by decide) ?_
          exact ih y2 (y3 + (1 : Int32)) _ _ ls out h hP hS (lv_sub hl [3, 4, 1, 0] rfl) K
        have h := ifn c h
        refine lv_iload_n hx hb d_M_storers_67 rfl (lv_at hl 3 rfl) ?_
        refine lv_iconst (v := 1) hx hb d_M_storers_68 (by decide) ?_
        refine lv_aload_n hx hb d_M_storers_69 rfl (lv_at hl 1 rfl) ?_
        refine va_get (D := D) (ci := 5) (v := .ref (q 1)) (C := R_M) (T := T_M) (N := 17) hx hb hts l_M hown hK hP 0 rfl rfl 3 (by decide) (hts _ w_442) (fun _ h9 => h9) rfl d_M_storers_70 ?_
        refine lv_iload_n hx hb d_M_storers_73 rfl (lv_at hl 4 rfl) ?_
        obtain ⟨c, h⟩ := ifs h
        refine va_iald hx hb hK hP 1 0 rfl rfl c d_M_storers_74 ?_
        refine lv_ishl hx hb d_M_storers_75 ?_
        refine lv_ior hx hb d_M_storers_76 ?_
        refine lv_goto (tgt := 81) hx hb d_M_storers_77 (by decide) ?_
        refine lv_istore_n (lv' := [(2, .int (y2 ||| ((1 : Int32) <<< (((σ 1) y3.toNatClampNeg) &&& 31)))), (4, .int (0 : Int32)), (0, .ref (q 0)), (1, .int y1), (3, .int y3)]) hx hb d_M_storers_81 rfl hl (by decide) rfl (fun ls hl => ?_)
        refine lv_iinc (v := (y3 + (1 : Int32))) (lv' := [(3, .int (y3 + (1 : Int32))), (2, .int (y2 ||| ((1 : Int32) <<< (((σ 1) y3.toNatClampNeg) &&& 31)))), (4, .int (0 : Int32)), (0, .ref (q 0)), (1, .int y1)]) hx hb d_M_storers_82 hl (k := 4) rfl rfl (by decide) rfl (fun ls hl => ?_)
        refine lv_goto (tgt := 4) hx hb d_M_storers_85 (by decide) ?_
        exact ih (y2 ||| ((1 : Int32) <<< (((σ 1) y3.toNatClampNeg) &&& 31))) (y3 + (1 : Int32)) _ _ ls out h hP hS (lv_sub hl [3, 4, 1, 0] rfl) K
      have h := ifn c h
      refine lv_aload_n hx hb d_M_storers_20 rfl (lv_at hl 0 rfl) ?_
      refine va_get (D := D) (ci := 5) (v := .ref (q 2)) (C := R_M) (T := T_M) (N := 17) hx hb hts l_M hown hK hP 0 rfl rfl 4 (by decide) (hts _ w_443) (fun _ h9 => h9) rfl d_M_storers_21 ?_
      refine lv_iload_n hx hb d_M_storers_24 rfl (lv_at hl 3 rfl) ?_
      obtain ⟨c, h⟩ := ifs h
      refine va_iald hx hb hK hP 2 0 rfl rfl c d_M_storers_25 ?_
      refine lv_iconst (v := 3) hx hb d_M_storers_26 (by decide) ?_
      refine lv_icmp_ne (tgt := 59) hx hb d_M_storers_27 (by decide) (fun c => ?_) (fun c => ?_)
      · have h := ifn c h
        refine lv_iconst (v := 0) hx hb d_M_storers_59 (by decide) ?_
        refine lv_istore (lv' := [(4, .int (0 : Int32)), (0, .ref (q 0)), (1, .int y1), (2, .int y2), (3, .int y3)]) hx hb d_M_storers_60 hl (by decide) rfl (fun ls hl => ?_)
        refine lv_iload hx hb d_M_storers_62 (lv_at hl 0 rfl) ?_
        refine lv_if_eq (tgt := 80) hx hb d_M_storers_64 (by decide) (fun c => ?_) (fun c => ?_)
        · have h := ifp c h
          refine lv_iload_n hx hb d_M_storers_80 rfl (lv_at hl 3 rfl) ?_
          refine lv_istore_n (lv' := [(2, .int y2), (4, .int (0 : Int32)), (0, .ref (q 0)), (1, .int y1), (3, .int y3)]) hx hb d_M_storers_81 rfl hl (by decide) rfl (fun ls hl => ?_)
          refine lv_iinc (v := (y3 + (1 : Int32))) (lv' := [(3, .int (y3 + (1 : Int32))), (2, .int y2), (4, .int (0 : Int32)), (0, .ref (q 0)), (1, .int y1)]) hx hb d_M_storers_82 hl (k := 4) rfl rfl (by decide) rfl (fun ls hl => ?_)
          refine lv_goto (tgt := 4) hx hb d_M_storers_85 (by decide) ?_
          exact ih y2 (y3 + (1 : Int32)) _ _ ls out h hP hS (lv_sub hl [3, 4, 1, 0] rfl) K
        have h := ifn c h
        refine lv_iload_n hx hb d_M_storers_67 rfl (lv_at hl 3 rfl) ?_
        refine lv_iconst (v := 1) hx hb d_M_storers_68 (by decide) ?_
        refine lv_aload_n hx hb d_M_storers_69 rfl (lv_at hl 1 rfl) ?_
        refine va_get (D := D) (ci := 5) (v := .ref (q 1)) (C := R_M) (T := T_M) (N := 17) hx hb hts l_M hown hK hP 0 rfl rfl 3 (by decide) (hts _ w_442) (fun _ h9 => h9) rfl d_M_storers_70 ?_
        refine lv_iload_n hx hb d_M_storers_73 rfl (lv_at hl 4 rfl) ?_
        obtain ⟨c, h⟩ := ifs h
        refine va_iald hx hb hK hP 1 0 rfl rfl c d_M_storers_74 ?_
        refine lv_ishl hx hb d_M_storers_75 ?_
        refine lv_ior hx hb d_M_storers_76 ?_
        refine lv_goto (tgt := 81) hx hb d_M_storers_77 (by decide) ?_
        refine lv_istore_n (lv' := [(2, .int (y2 ||| ((1 : Int32) <<< (((σ 1) y3.toNatClampNeg) &&& 31)))), (4, .int (0 : Int32)), (0, .ref (q 0)), (1, .int y1), (3, .int y3)]) hx hb d_M_storers_81 rfl hl (by decide) rfl (fun ls hl => ?_)
        refine lv_iinc (v := (y3 + (1 : Int32))) (lv' := [(3, .int (y3 + (1 : Int32))), (2, .int (y2 ||| ((1 : Int32) <<< (((σ 1) y3.toNatClampNeg) &&& 31)))), (4, .int (0 : Int32)), (0, .ref (q 0)), (1, .int y1)]) hx hb d_M_storers_82 hl (k := 4) rfl rfl (by decide) rfl (fun ls hl => ?_)
        refine lv_goto (tgt := 4) hx hb d_M_storers_85 (by decide) ?_
        exact ih (y2 ||| ((1 : Int32) <<< (((σ 1) y3.toNatClampNeg) &&& 31))) (y3 + (1 : Int32)) _ _ ls out h hP hS (lv_sub hl [3, 4, 1, 0] rfl) K
      have h := ifp c h
      refine lv_aload_n hx hb d_M_storers_30 rfl (lv_at hl 0 rfl) ?_
      refine lv_aload_n hx hb d_M_storers_31 rfl (lv_at hl 0 rfl) ?_
      refine va_get (D := D) (ci := 5) (v := .ref (q 1)) (C := R_M) (T := T_M) (N := 17) hx hb hts l_M hown hK hP 0 rfl rfl 3 (by decide) (hts _ w_442) (fun _ h9 => h9) rfl d_M_storers_32 ?_
      refine lv_iload_n hx hb d_M_storers_35 rfl (lv_at hl 3 rfl) ?_
      obtain ⟨c, h⟩ := ifs h
      refine va_iald hx hb hK hP 1 0 rfl rfl c d_M_storers_36 ?_
      refine lv_aload_n hx hb d_M_storers_37 rfl (lv_at hl 0 rfl) ?_
      refine va_get (D := D) (ci := 5) (v := .ref (q 4)) (C := R_M) (T := T_M) (N := 17) hx hb hts l_M hown hK hP 0 rfl rfl 6 (by decide) (hts _ w_445) (fun _ h9 => h9) rfl d_M_storers_38 ?_
      refine lv_iconst (v := 5) hx hb d_M_storers_41 (by decide) ?_
      refine lv_iload_n hx hb d_M_storers_42 rfl (lv_at hl 3 rfl) ?_
      refine lv_imul hx hb d_M_storers_43 ?_
      obtain ⟨c, h⟩ := ifs h
      refine va_iald hx hb hK hP 4 0 rfl rfl c d_M_storers_44 ?_
      obtain ⟨u45, hu45, h⟩ := bnd h
      refine gcall_i (va_runV (As := [.int ((σ 1) y3.toNatClampNeg), .int ((σ 4) ((5 : Int32) * y3).toNatClampNeg)]) (rest := []) ⟨hx, hb, hml, hown, hts⟩ (c_M_name l D cI cZ tL q tl σ ((σ 1) y3.toNatClampNeg) ((σ 4) ((5 : Int32) * y3).toNatClampNeg) u45 hu45 H.size) (cwV 2 hts (gV w_537 w_538 w_723 w_6 w_539) rfl rfl rfl (by decide +kernel) ⟨Nat.le_of_ble_eq_true rfl, Nat.le_of_ble_eq_true rfl⟩) (gpV (k := 0) (ci := 5) hA hK (hD σ) hE hP hS rfl rfl) rfl rfl hl.1 rfl (lv_room (Nat.le_of_ble_eq_true rfl)) d_M_storers_45 ⟨Nat.le_of_ble_eq_true rfl, Nat.le_of_ble_eq_true rfl⟩) hA (hD σ) hS (fun H locs hP hS => ?_)
      refine lv_iload_n hx hb d_M_storers_48 rfl (lv_at hl 1 rfl) ?_
      obtain ⟨u49, hu49, h⟩ := bnd h
      refine gcall_i (va_runS (As := [.int u45, .int y1]) (rest := []) ⟨hx, hb, hml, hown, hts⟩ (c_M_has l D cI cZ tL (wM cI cZ q σ ++ tl) u45 y1 u49 hu49 H.size) (va_cwS 2 hts (gS w_522 w_523 w_6 w_524) rfl rfl rfl (by decide +kernel) ⟨Nat.le_of_ble_eq_true rfl, Nat.le_of_ble_eq_true rfl⟩) (gpS hA hK (hD σ) hE hP hS) rfl rfl hl.1 rfl (lv_room (Nat.le_of_ble_eq_true rfl)) d_M_storers_49 ⟨Nat.le_of_ble_eq_true rfl, Nat.le_of_ble_eq_true rfl⟩) hA (hD σ) hS (fun H locs hP hS => ?_)
      refine lv_if_eq (tgt := 59) hx hb d_M_storers_52 (by decide) (fun c => ?_) (fun c => ?_)
      · have h := ifp c h
        refine lv_iconst (v := 0) hx hb d_M_storers_59 (by decide) ?_
        refine lv_istore (lv' := [(4, .int (0 : Int32)), (0, .ref (q 0)), (1, .int y1), (2, .int y2), (3, .int y3)]) hx hb d_M_storers_60 hl (by decide) rfl (fun ls hl => ?_)
        refine lv_iload hx hb d_M_storers_62 (lv_at hl 0 rfl) ?_
        refine lv_if_eq (tgt := 80) hx hb d_M_storers_64 (by decide) (fun c => ?_) (fun c => ?_)
        · have h := ifp c h
          refine lv_iload_n hx hb d_M_storers_80 rfl (lv_at hl 3 rfl) ?_
          refine lv_istore_n (lv' := [(2, .int y2), (4, .int (0 : Int32)), (0, .ref (q 0)), (1, .int y1), (3, .int y3)]) hx hb d_M_storers_81 rfl hl (by decide) rfl (fun ls hl => ?_)
          refine lv_iinc (v := (y3 + (1 : Int32))) (lv' := [(3, .int (y3 + (1 : Int32))), (2, .int y2), (4, .int (0 : Int32)), (0, .ref (q 0)), (1, .int y1)]) hx hb d_M_storers_82 hl (k := 4) rfl rfl (by decide) rfl (fun ls hl => ?_)
          refine lv_goto (tgt := 4) hx hb d_M_storers_85 (by decide) ?_
          exact ih y2 (y3 + (1 : Int32)) _ _ ls out h hP hS (lv_sub hl [3, 4, 1, 0] rfl) K
        have h := ifn c h
        refine lv_iload_n hx hb d_M_storers_67 rfl (lv_at hl 3 rfl) ?_
        refine lv_iconst (v := 1) hx hb d_M_storers_68 (by decide) ?_
        refine lv_aload_n hx hb d_M_storers_69 rfl (lv_at hl 1 rfl) ?_
        refine va_get (D := D) (ci := 5) (v := .ref (q 1)) (C := R_M) (T := T_M) (N := 17) hx hb hts l_M hown hK hP 0 rfl rfl 3 (by decide) (hts _ w_442) (fun _ h9 => h9) rfl d_M_storers_70 ?_
        refine lv_iload_n hx hb d_M_storers_73 rfl (lv_at hl 4 rfl) ?_
        obtain ⟨c, h⟩ := ifs h
        refine va_iald hx hb hK hP 1 0 rfl rfl c d_M_storers_74 ?_
        refine lv_ishl hx hb d_M_storers_75 ?_
        refine lv_ior hx hb d_M_storers_76 ?_
        refine lv_goto (tgt := 81) hx hb d_M_storers_77 (by decide) ?_
        refine lv_istore_n (lv' := [(2, .int (y2 ||| ((1 : Int32) <<< (((σ 1) y3.toNatClampNeg) &&& 31)))), (4, .int (0 : Int32)), (0, .ref (q 0)), (1, .int y1), (3, .int y3)]) hx hb d_M_storers_81 rfl hl (by decide) rfl (fun ls hl => ?_)
        refine lv_iinc (v := (y3 + (1 : Int32))) (lv' := [(3, .int (y3 + (1 : Int32))), (2, .int (y2 ||| ((1 : Int32) <<< (((σ 1) y3.toNatClampNeg) &&& 31)))), (4, .int (0 : Int32)), (0, .ref (q 0)), (1, .int y1)]) hx hb d_M_storers_82 hl (k := 4) rfl rfl (by decide) rfl (fun ls hl => ?_)
        refine lv_goto (tgt := 4) hx hb d_M_storers_85 (by decide) ?_
        exact ih (y2 ||| ((1 : Int32) <<< (((σ 1) y3.toNatClampNeg) &&& 31))) (y3 + (1 : Int32)) _ _ ls out h hP hS (lv_sub hl [3, 4, 1, 0] rfl) K
      have h := ifn c h
      refine lv_iconst (v := 1) hx hb d_M_storers_55 (by decide) ?_
      refine lv_goto (tgt := 60) hx hb d_M_storers_56 (by decide) ?_
      refine lv_istore (lv' := [(4, .int (1 : Int32)), (0, .ref (q 0)), (1, .int y1), (2, .int y2), (3, .int y3)]) hx hb d_M_storers_60 hl (by decide) rfl (fun ls hl => ?_)
      refine lv_iload hx hb d_M_storers_62 (lv_at hl 0 rfl) ?_
      refine lv_if_eq (tgt := 80) hx hb d_M_storers_64 (by decide) (fun c => ?_) (fun c => ?_)
      · have h := ifp c h
        refine lv_iload_n hx hb d_M_storers_80 rfl (lv_at hl 3 rfl) ?_
        refine lv_istore_n (lv' := [(2, .int y2), (4, .int (1 : Int32)), (0, .ref (q 0)), (1, .int y1), (3, .int y3)]) hx hb d_M_storers_81 rfl hl (by decide) rfl (fun ls hl => ?_)
        refine lv_iinc (v := (y3 + (1 : Int32))) (lv' := [(3, .int (y3 + (1 : Int32))), (2, .int y2), (4, .int (1 : Int32)), (0, .ref (q 0)), (1, .int y1)]) hx hb d_M_storers_82 hl (k := 4) rfl rfl (by decide) rfl (fun ls hl => ?_)
        refine lv_goto (tgt := 4) hx hb d_M_storers_85 (by decide) ?_
        exact ih y2 (y3 + (1 : Int32)) _ _ ls out h hP hS (lv_sub hl [3, 4, 1, 0] rfl) K
      have h := ifn c h
      refine lv_iload_n hx hb d_M_storers_67 rfl (lv_at hl 3 rfl) ?_
      refine lv_iconst (v := 1) hx hb d_M_storers_68 (by decide) ?_
      refine lv_aload_n hx hb d_M_storers_69 rfl (lv_at hl 1 rfl) ?_
      refine va_get (D := D) (ci := 5) (v := .ref (q 1)) (C := R_M) (T := T_M) (N := 17) hx hb hts l_M hown hK hP 0 rfl rfl 3 (by decide) (hts _ w_442) (fun _ h9 => h9) rfl d_M_storers_70 ?_
      refine lv_iload_n hx hb d_M_storers_73 rfl (lv_at hl 4 rfl) ?_
      obtain ⟨c, h⟩ := ifs h
      refine va_iald hx hb hK hP 1 0 rfl rfl c d_M_storers_74 ?_
      refine lv_ishl hx hb d_M_storers_75 ?_
      refine lv_ior hx hb d_M_storers_76 ?_
      refine lv_goto (tgt := 81) hx hb d_M_storers_77 (by decide) ?_
      refine lv_istore_n (lv' := [(2, .int (y2 ||| ((1 : Int32) <<< (((σ 1) y3.toNatClampNeg) &&& 31)))), (4, .int (1 : Int32)), (0, .ref (q 0)), (1, .int y1), (3, .int y3)]) hx hb d_M_storers_81 rfl hl (by decide) rfl (fun ls hl => ?_)
      refine lv_iinc (v := (y3 + (1 : Int32))) (lv' := [(3, .int (y3 + (1 : Int32))), (2, .int (y2 ||| ((1 : Int32) <<< (((σ 1) y3.toNatClampNeg) &&& 31)))), (4, .int (1 : Int32)), (0, .ref (q 0)), (1, .int y1)]) hx hb d_M_storers_82 hl (k := 4) rfl rfl (by decide) rfl (fun ls hl => ?_)
      refine lv_goto (tgt := 4) hx hb d_M_storers_85 (by decide) ?_
      exact ih (y2 ||| ((1 : Int32) <<< (((σ 1) y3.toNatClampNeg) &&& 31))) (y3 + (1 : Int32)) _ _ ls out h hP hS (lv_sub hl [3, 4, 1, 0] rfl) K
  unfold f_M_storers at h
  refine lv_iconst (v := 0) hx hb d_M_storers_0 (by decide) ?_
  refine lv_istore_n (lv' := [(2, .int (0 : Int32)), (0, .ref (q 0)), (1, .int x1)]) hx hb d_M_storers_1 rfl hl (by decide) rfl (fun ls hl => ?_)
  refine lv_iconst (v := 0) hx hb d_M_storers_2 (by decide) ?_
  refine lv_istore_n (lv' := [(3, .int (0 : Int32)), (2, .int (0 : Int32)), (0, .ref (q 0)), (1, .int x1)]) hx hb d_M_storers_3 rfl hl (by decide) rfl (fun ls hl => ?_)
  obtain ⟨u4, hu4, h⟩ := bnd h
  refine L4 σ x1 F (0 : Int32) (0 : Int32) _ _ ls u4 hu4 hP hS (lv_sub hl [2, 3, 1, 0] rfl) (fun H locs ls hP hS hl => ?_)
  refine lv_iload_n hx hb d_M_storers_88 rfl (lv_at hl 2 rfl) ?_
  cases h
  exact gret_i hx hb hr hlk hP hS d_M_storers_89
/-! ===== EscapeOwnersModel.namers(I)I ===== -/
def f_M_namers_B4 (F : Nat) (σ : St) (y1 : Int32) (rec : Int32 → Int32 → Option (Int32 × Int32)) (y2 : Int32) (y3 : Int32) : Option (Int32 × Int32) := if (64 : Int32) ≤ y3 then (some (y2, y3)) else (if ¬ (y3 < 0 ∨ 64 ≤ y3.toNatClampNeg) then (Option.bind (f_M_has ((σ 6) y3.toNatClampNeg) y1) (fun u17 => if u17 = 0 then (rec y2 (y3 + (1 : Int32))) else (rec (y2 ||| ((1 : Int32) <<< ((y3 / (8 : Int32)) &&& 31))) (y3 + (1 : Int32))))) else none)
def f_M_namers_L4 (F : Nat) (σ : St) (y1 : Int32) : Nat → Int32 → Int32 → Option (Int32 × Int32)
  | 0, _, _ => none
  | fu + 1, y2, y3 => f_M_namers_B4 F σ y1 (f_M_namers_L4 F σ y1 fu) y2 y3
def f_M_namers (F : Nat) (σ : St) (x1 : Int32) : Option (Int32) := Option.bind (f_M_namers_L4 F σ x1 F (0 : Int32) (0 : Int32)) (fun u4 => some u4.1)
set_option maxHeartbeats 4000000 in
set_option maxRecDepth 100000 in
theorem c_M_namers (l : Launch) (D : va_G) (cI cZ : ClassId) (tL : Nat) (q : Nat → Nat) (tl : va_W) (F : Nat) (σ : St) (x1 : Int32) (out0 : Int32) (h : f_M_namers F σ x1 = some out0) : gCi l y_M_namers (.code y_M_namers b_M_namers 4 (some .int) :: TB) { frames := 1, cells := 0, slots := 0, locals := 21 } D [(cI, .int), (cZ, .boolean)] tL [.ref (q 0), .int x1] (wM cI cZ q σ ++ tl) out0 (wM cI cZ q σ ++ tl) := by
  refine gCi_of (cc := b_M_namers) (maxL := 4) (ty := .int) (by decide) rfl (Nat.le_of_ble_eq_true rfl) ?_
  intro p e s m below meth c A ls hf hr hlk hA hK hD0 hE hP hl
  obtain ⟨hx, hb, hml, hown, hts⟩ := id hf
  have hts : ∀ w ∈ TB, w.before _ s = true := fun w h => hts w (List.mem_cons_of_mem _ h)
  have hown : s.vm.findClass R_M = some m.cls := hown
  have hl : lv_has ls 4 [(0, .ref (q 0)), (1, .int x1)] := hl
  have hS : va_S A s.heap s.heap [] := va_S.rf
  have hD : ∀ σ' : St, va_D A (wM cI cZ q σ' ++ tl) := fun σ' => va_Dsame hD0 rfl
  have L4 : ∀ (σ : St) (y1 : Int32) (fu : Nat) (y2 : Int32) (y3 : Int32) (H : Heap) (locs : List Loc) (ls : Array Slot) (out : Int32 × Int32), f_M_namers_L4 F σ y1 fu y2 y3 = some out → va_P D vwCl (wM cI cZ q σ ++ tl) H → va_S A s.heap H locs → lv_has ls 4 [(0, .ref (q 0)), (1, .int y1), (2, .int y2), (3, .int y3)] → (∀ (H : Heap) (locs : List Loc) (ls : Array Slot), va_P D vwCl (wM cI cZ q σ ++ tl) H → va_S A s.heap H locs → lv_has ls 4 [(0, .ref (q 0)), (1, .int y1), (2, .int out.1), (3, .int out.2)] → W p l e { frames := 1, cells := 0, slots := 0, locals := 21 } s m ([.ref (q 0), .int x1] : List Value).toArray below meth c H locs 0 0 (gQi below D out0 (wM cI cZ q σ ++ tl) A (([.ref (q 0), .int x1] : List Value).toArray) s) (F0 m 42 ls [])) → W p l e { frames := 1, cells := 0, slots := 0, locals := 21 } s m ([.ref (q 0), .int x1] : List Value).toArray below meth c H locs 0 0 (gQi below D out0 (wM cI cZ q σ ++ tl) A (([.ref (q 0), .int x1] : List Value).toArray) s) (F0 m 4 ls []) := by
    intro σ y1 fu
    induction fu with
    | zero => intro y2 y3 H locs ls out h; exact absurd (show (none : Option (Int32 × Int32)) = some out from h) (fun z => by cases z)
    | succ fu ih =>
      intro y2 y3 H locs ls out h hP hS hl K
      have h : f_M_namers_B4 F σ y1 (f_M_namers_L4 F σ y1 fu) y2 y3 = some out := h
      unfold f_M_namers_B4 at h
      refine lv_iload_n hx hb d_M_namers_4 rfl (lv_at hl 3 rfl) ?_
      refine lv_bipush (v := 64) hx hb d_M_namers_5 (by decide) ?_
      refine lv_icmp_ge (tgt := 42) hx hb d_M_namers_7 (by decide) (fun c => ?_) (fun c => ?_)
      · have h := ifp c h
        cases h
        exact K _ _ ls hP hS (lv_sub hl [0, 1, 2, 3] rfl)
      have h := ifn c h
      refine lv_aload_n hx hb d_M_namers_10 rfl (lv_at hl 0 rfl) ?_
      refine va_get (D := D) (ci := 5) (v := .ref (q 6)) (C := R_M) (T := T_M) (N := 17) hx hb hts l_M hown hK hP 0 rfl rfl 8 (by decide) (hts _ w_447) (fun _ h9 => h9) rfl d_M_namers_11 ?_
      refine lv_iload_n hx hb d_M_namers_14 rfl (lv_at hl 3 rfl) ?_
      obtain ⟨c, h⟩ := ifs h
      refine va_iald hx hb hK hP 6 0 rfl rfl c d_M_namers_15 ?_
      refine lv_iload_n hx hb d_M_namers_16 rfl (lv_at hl 1 rfl) ?_
      obtain ⟨u17, hu17, h⟩ := bnd h
      refine gcall_i (va_runS (As := [.int ((σ 6) y3.toNatClampNeg), .int y1]) (rest := []) ⟨hx, hb, hml, hown, hts⟩ (c_M_has l D cI cZ tL (wM cI cZ q σ ++ tl) ((σ 6) y3.toNatClampNeg) y1 u17 hu17 H.size) (va_cwS 2 hts (gS w_522 w_523 w_6 w_524) rfl rfl rfl (by decide +kernel) ⟨Nat.le_of_ble_eq_true rfl, Nat.le_of_ble_eq_true rfl⟩) (gpS hA hK (hD σ) hE hP hS) rfl rfl hl.1 rfl (lv_room (Nat.le_of_ble_eq_true rfl)) d_M_namers_17 ⟨Nat.le_of_ble_eq_true rfl, Nat.le_of_ble_eq_true rfl⟩) hA (hD σ) hS (fun H locs hP hS => ?_)
      refine lv_if_eq (tgt := 34) hx hb d_M_namers_20 (by decide) (fun c => ?_) (fun c => ?_)
      · have h := ifp c h
        refine lv_iload_n hx hb d_M_namers_34 rfl (lv_at hl 2 rfl) ?_
        refine lv_istore_n (lv' := [(2, .int y2), (0, .ref (q 0)), (1, .int y1), (3, .int y3)]) hx hb d_M_namers_35 rfl hl (by decide) rfl (fun ls hl => ?_)
        refine lv_iinc (v := (y3 + (1 : Int32))) (lv' := [(3, .int (y3 + (1 : Int32))), (2, .int y2), (0, .ref (q 0)), (1, .int y1)]) hx hb d_M_namers_36 hl (k := 3) rfl rfl (by decide) rfl (fun ls hl => ?_)
        refine lv_goto (tgt := 4) hx hb d_M_namers_39 (by decide) ?_
        exact ih y2 (y3 + (1 : Int32)) _ _ ls out h hP hS (lv_sub hl [2, 3, 1, 0] rfl) K
      have h := ifn c h
      refine lv_iload_n hx hb d_M_namers_23 rfl (lv_at hl 2 rfl) ?_
      refine lv_iconst (v := 1) hx hb d_M_namers_24 (by decide) ?_
      refine lv_iload_n hx hb d_M_namers_25 rfl (lv_at hl 3 rfl) ?_
      refine lv_bipush (v := 8) hx hb d_M_namers_26 (by decide) ?_
      refine lv_idiv hx hb d_M_namers_28 (by decide) ?_
      refine lv_ishl hx hb d_M_namers_29 ?_
      refine lv_ior hx hb d_M_namers_30 ?_
      refine lv_goto (tgt := 35) hx hb d_M_namers_31 (by decide) ?_
      refine lv_istore_n (lv' := [(2, .int (y2 ||| ((1 : Int32) <<< ((y3 / (8 : Int32)) &&& 31)))), (0, .ref (q 0)), (1, .int y1), (3, .int y3)]) hx hb d_M_namers_35 rfl hl (by decide) rfl (fun ls hl => ?_)
      refine lv_iinc (v := (y3 + (1 : Int32))) (lv' := [(3, .int (y3 + (1 : Int32))), (2, .int (y2 ||| ((1 : Int32) <<< ((y3 / (8 : Int32)) &&& 31)))), (0, .ref (q 0)), (1, .int y1)]) hx hb d_M_namers_36 hl (k := 3) rfl rfl (by decide) rfl (fun ls hl => ?_)
      refine lv_goto (tgt := 4) hx hb d_M_namers_39 (by decide) ?_
      exact ih (y2 ||| ((1 : Int32) <<< ((y3 / (8 : Int32)) &&& 31))) (y3 + (1 : Int32)) _ _ ls out h hP hS (lv_sub hl [2, 3, 1, 0] rfl) K
  unfold f_M_namers at h
  refine lv_iconst (v := 0) hx hb d_M_namers_0 (by decide) ?_
  refine lv_istore_n (lv' := [(2, .int (0 : Int32)), (0, .ref (q 0)), (1, .int x1)]) hx hb d_M_namers_1 rfl hl (by decide) rfl (fun ls hl => ?_)
  refine lv_iconst (v := 0) hx hb d_M_namers_2 (by decide) ?_
  refine lv_istore_n (lv' := [(3, .int (0 : Int32)), (2, .int (0 : Int32)), (0, .ref (q 0)), (1, .int x1)]) hx hb d_M_namers_3 rfl hl (by decide) rfl (fun ls hl => ?_)
  obtain ⟨u4, hu4, h⟩ := bnd h
  refine L4 σ x1 F (0 : Int32) (0 : Int32) _ _ ls u4 hu4 hP hS (lv_sub hl [2, 3, 1, 0] rfl) (fun H locs ls hP hS hl => ?_)
  refine lv_iload_n hx hb d_M_namers_42 rfl (lv_at hl 2 rfl) ?_
  cases h
  exact gret_i hx hb hr hlk hP hS d_M_namers_43
/-! ===== EscapeOwnersModel.isLiveSite(I)Z ===== -/
def f_M_isLiveSite (σ : St) (x1 : Int32) : Option (Int32) := Option.bind (f_M_owner σ x1) (fun u6 => Option.bind (f_M_has (σ 0 12) u6) (fun u9 => if u9 = 0 ∨ u9 = 1 then some u9 else none))
set_option maxHeartbeats 4000000 in
set_option maxRecDepth 100000 in
theorem c_M_isLiveSite (l : Launch) (D : va_G) (cI cZ : ClassId) (tL : Nat) (q : Nat → Nat) (tl : va_W) (σ : St) (x1 : Int32) (out0 : Int32) (h : f_M_isLiveSite σ x1 = some out0) : gCi l y_M_isLiveSite (.code y_M_isLiveSite b_M_isLiveSite 2 (some .boolean) :: TB) { frames := 1, cells := 0, slots := 0, locals := 21 } D [(cI, .int), (cZ, .boolean)] tL [.ref (q 0), .int x1] (wM cI cZ q σ ++ tl) out0 (wM cI cZ q σ ++ tl) := by
  refine gCi_of (cc := b_M_isLiveSite) (maxL := 2) (ty := .boolean) (by decide) rfl (Nat.le_of_ble_eq_true rfl) ?_
  intro p e s m below meth c A ls hf hr hlk hA hK hD0 hE hP hl
  obtain ⟨hx, hb, hml, hown, hts⟩ := id hf
  have hts : ∀ w ∈ TB, w.before _ s = true := fun w h => hts w (List.mem_cons_of_mem _ h)
  have hown : s.vm.findClass R_M = some m.cls := hown
  have hl : lv_has ls 2 [(0, .ref (q 0)), (1, .int x1)] := hl
  have hS : va_S A s.heap s.heap [] := va_S.rf
  have hD : ∀ σ' : St, va_D A (wM cI cZ q σ' ++ tl) := fun σ' => va_Dsame hD0 rfl
  unfold f_M_isLiveSite at h
  refine lv_aload_n hx hb d_M_isLiveSite_0 rfl (lv_at hl 0 rfl) ?_
  refine va_get (D := D) (ci := 5) (v := .int (σ 0 12)) (C := R_M) (T := T_M) (N := 17) hx hb hts l_M hown hK hP 0 rfl rfl 12 (by decide) (hts _ w_451) (fun _ h9 => h9) rfl d_M_isLiveSite_1 ?_
  refine lv_aload_n hx hb d_M_isLiveSite_4 rfl (lv_at hl 0 rfl) ?_
  refine lv_iload_n hx hb d_M_isLiveSite_5 rfl (lv_at hl 1 rfl) ?_
  obtain ⟨u6, hu6, h⟩ := bnd h
  refine gcall_i (va_runV (As := [.int x1]) (rest := [.int (σ 0 12)]) ⟨hx, hb, hml, hown, hts⟩ (c_M_owner l D cI cZ tL q tl σ x1 u6 hu6 s.heap.size) (cwV 1 hts (gV w_573 w_574 w_725 w_6 w_575) rfl rfl rfl (by decide +kernel) ⟨Nat.le_of_ble_eq_true rfl, Nat.le_of_ble_eq_true rfl⟩) (gpV (k := 0) (ci := 5) hA hK (hD σ) hE hP hS rfl rfl) rfl rfl hl.1 rfl (lv_room (Nat.le_of_ble_eq_true rfl)) d_M_isLiveSite_6 ⟨Nat.le_of_ble_eq_true rfl, Nat.le_of_ble_eq_true rfl⟩) hA (hD σ) hS (fun H locs hP hS => ?_)
  obtain ⟨u9, hu9, h⟩ := bnd h
  refine gcall_i (va_runS (As := [.int (σ 0 12), .int u6]) (rest := []) ⟨hx, hb, hml, hown, hts⟩ (c_M_has l D cI cZ tL (wM cI cZ q σ ++ tl) (σ 0 12) u6 u9 hu9 H.size) (va_cwS 2 hts (gS w_522 w_523 w_6 w_524) rfl rfl rfl (by decide +kernel) ⟨Nat.le_of_ble_eq_true rfl, Nat.le_of_ble_eq_true rfl⟩) (gpS hA hK (hD σ) hE hP hS) rfl rfl hl.1 rfl (lv_room (Nat.le_of_ble_eq_true rfl)) d_M_isLiveSite_9 ⟨Nat.le_of_ble_eq_true rfl, Nat.le_of_ble_eq_true rfl⟩) hA (hD σ) hS (fun H locs hP hS => ?_)
  obtain ⟨c, h⟩ := ifs h
  cases h
  exact gret_z hx hb hr hlk (gz c) hP hS d_M_isLiveSite_12
/-! ===== EscapeOwnersModel.of(II)I ===== -/
def f_M_of (F : Nat) (σ : St) (x1 : Int32) (x2 : Int32) : Option (Int32 × St) := Option.bind (f_M_isSite σ x1) (fun u2 => if u2 = 0 then (some ((-2 : Int32), σ)) else (Option.bind (f_M_isIn x2 (0 : Int32) (6 : Int32)) (fun u12 => if u12 = 0 then (some ((-2 : Int32), σ)) else (Option.bind (f_M_solve F σ) (fun u22 => if x2 = 0 then (Option.bind (f_M_owner u22 x1) (fun u66 => some (u66, u22))) else if x2 = 1 then (if ¬ (x1 < 0 ∨ 16 ≤ x1.toNatClampNeg) then (some (((u22 5) x1.toNatClampNeg), u22)) else none) else if x2 = 2 then (Option.bind (f_M_levelOf F u22 x1) (fun u79 => some (u79, u22))) else if x2 = 3 then (Option.bind (f_M_holders F u22 x1) (fun u85 => some (u85, u22))) else if x2 = 4 then (Option.bind (f_M_holderSites F u22 x1) (fun u91 => some (u91, u22))) else if x2 = 5 then (Option.bind (f_M_namers F u22 x1) (fun u97 => some (u97, u22))) else (Option.bind (f_M_storers F u22 x1) (fun u103 => some (u103, u22))))))))
set_option maxHeartbeats 4000000 in
set_option maxRecDepth 100000 in
theorem c_M_of (l : Launch) (D : va_G) (cI cZ : ClassId) (tL : Nat) (q : Nat → Nat) (tl : va_W) (F : Nat) (σ : St) (x1 : Int32) (x2 : Int32) (out0 : Int32 × St) (h : f_M_of F σ x1 x2 = some out0) : gCi l y_M_of (.code y_M_of b_M_of 3 (some .int) :: TB) { frames := 4, cells := 0, slots := 0, locals := 94 } D [(cI, .int), (cZ, .boolean)] tL [.ref (q 0), .int x1, .int x2] (wM cI cZ q σ ++ tl) out0.1 (wM cI cZ q out0.2 ++ tl) := by
  refine gCi_of (cc := b_M_of) (maxL := 3) (ty := .int) (by decide) rfl (Nat.le_of_ble_eq_true rfl) ?_
  intro p e s m below meth c A ls hf hr hlk hA hK hD0 hE hP hl
  obtain ⟨hx, hb, hml, hown, hts⟩ := id hf
  have hts : ∀ w ∈ TB, w.before _ s = true := fun w h => hts w (List.mem_cons_of_mem _ h)
  have hown : s.vm.findClass R_M = some m.cls := hown
  have hl : lv_has ls 3 [(0, .ref (q 0)), (1, .int x1), (2, .int x2)] := hl
  have hS : va_S A s.heap s.heap [] := va_S.rf
  have hD : ∀ σ' : St, va_D A (wM cI cZ q σ' ++ tl) := fun σ' => va_Dsame hD0 rfl
  unfold f_M_of at h
  refine lv_aload_n hx hb d_M_of_0 rfl (lv_at hl 0 rfl) ?_
  refine lv_iload_n hx hb d_M_of_1 rfl (lv_at hl 1 rfl) ?_
  obtain ⟨u2, hu2, h⟩ := bnd h
  refine gcall_i (va_runV (As := [.int x1]) (rest := []) ⟨hx, hb, hml, hown, hts⟩ (c_M_isSite l D cI cZ tL q tl σ x1 u2 hu2 s.heap.size) (cwV 1 hts (gV w_561 w_562 w_717 w_6 w_563) rfl rfl rfl (by decide +kernel) ⟨Nat.le_of_ble_eq_true rfl, Nat.le_of_ble_eq_true rfl⟩) (gpV (k := 0) (ci := 5) hA hK (hD σ) hE hP hS rfl rfl) rfl rfl hl.1 rfl (lv_room (Nat.le_of_ble_eq_true rfl)) d_M_of_2 ⟨Nat.le_of_ble_eq_true rfl, Nat.le_of_ble_eq_true rfl⟩) hA (hD σ) hS (fun H locs hP hS => ?_)
  refine lv_if_eq (tgt := 18) hx hb d_M_of_5 (by decide) (fun c => ?_) (fun c => ?_)
  · have h := ifp c h
    refine lv_bipush (v := -2) hx hb d_M_of_18 (by decide) ?_
    cases h
    exact gret_i hx hb hr hlk hP hS d_M_of_20
  have h := ifn c h
  refine lv_iload_n hx hb d_M_of_8 rfl (lv_at hl 2 rfl) ?_
  refine lv_iconst (v := 0) hx hb d_M_of_9 (by decide) ?_
  refine lv_bipush (v := 6) hx hb d_M_of_10 (by decide) ?_
  obtain ⟨u12, hu12, h⟩ := bnd h
  refine gcall_i (va_runS (As := [.int x2, .int (0 : Int32), .int (6 : Int32)]) (rest := []) ⟨hx, hb, hml, hown, hts⟩ (c_M_isIn l D cI cZ tL (wM cI cZ q σ ++ tl) x2 (0 : Int32) (6 : Int32) u12 hu12 H.size) (va_cwS 3 hts (gS w_486 w_487 w_6 w_488) rfl rfl rfl (by decide +kernel) ⟨Nat.le_of_ble_eq_true rfl, Nat.le_of_ble_eq_true rfl⟩) (gpS hA hK (hD σ) hE hP hS) rfl rfl hl.1 rfl (lv_room (Nat.le_of_ble_eq_true rfl)) d_M_of_12 ⟨Nat.le_of_ble_eq_true rfl, Nat.le_of_ble_eq_true rfl⟩) hA (hD σ) hS (fun H locs hP hS => ?_)
  refine lv_if_ne (tgt := 21) hx hb d_M_of_15 (by decide) (fun c => ?_) (fun c => ?_)
  · have h := ifn c h
    refine lv_aload_n hx hb d_M_of_21 rfl (lv_at hl 0 rfl) ?_
    obtain ⟨u22, hu22, h⟩ := bnd h
    refine gcall_v (va_runV (As := []) (rest := []) ⟨hx, hb, hml, hown, hts⟩ (c_M_solve l D cI cZ tL q tl F σ  u22 hu22 H.size) (cwV 0 hts (gV w_516 w_517 w_730 w_6 w_518) rfl rfl rfl (by decide +kernel) ⟨Nat.le_of_ble_eq_true rfl, Nat.le_of_ble_eq_true rfl⟩) (gpV (k := 0) (ci := 5) hA hK (hD σ) hE hP hS rfl rfl) rfl rfl hl.1 rfl (lv_room (Nat.le_of_ble_eq_true rfl)) d_M_of_22 ⟨Nat.le_of_ble_eq_true rfl, Nat.le_of_ble_eq_true rfl⟩) hA (hD σ) hS (fun H locs hP hS => ?_)
    refine lv_iload_n hx hb d_M_of_25 rfl (lv_at hl 2 rfl) ?_
    by_cases c0 : x2 = 0
    · refine lv_tableIn (tgt := 64) hx hb d_M_of_26 (by rw [c0]; decide) (by rw [c0]; decide) (by rw [c0]; rfl) (by decide) ?_
      have h := ifp c0 h
      refine lv_aload_n hx hb d_M_of_64 rfl (lv_at hl 0 rfl) ?_
      refine lv_iload_n hx hb d_M_of_65 rfl (lv_at hl 1 rfl) ?_
      obtain ⟨u66, hu66, h⟩ := bnd h
      refine gcall_i (va_runV (As := [.int x1]) (rest := []) ⟨hx, hb, hml, hown, hts⟩ (c_M_owner l D cI cZ tL q tl u22 x1 u66 hu66 H.size) (cwV 1 hts (gV w_573 w_574 w_725 w_6 w_575) rfl rfl rfl (by decide +kernel) ⟨Nat.le_of_ble_eq_true rfl, Nat.le_of_ble_eq_true rfl⟩) (gpV (k := 0) (ci := 5) hA hK (hD u22) hE hP hS rfl rfl) rfl rfl hl.1 rfl (lv_room (Nat.le_of_ble_eq_true rfl)) d_M_of_66 ⟨Nat.le_of_ble_eq_true rfl, Nat.le_of_ble_eq_true rfl⟩) hA (hD u22) hS (fun H locs hP hS => ?_)
      cases h
      exact gret_i hx hb hr hlk hP hS d_M_of_69
    have h := ifn c0 h
    by_cases c1 : x2 = 1
    · refine lv_tableIn (tgt := 70) hx hb d_M_of_26 (by rw [c1]; decide) (by rw [c1]; decide) (by rw [c1]; rfl) (by decide) ?_
      have h := ifp c1 h
      refine lv_aload_n hx hb d_M_of_70 rfl (lv_at hl 0 rfl) ?_
      refine va_get (D := D) (ci := 5) (v := .ref (q 5)) (C := R_M) (T := T_M) (N := 17) hx hb hts l_M hown hK hP 0 rfl rfl 7 (by decide) (hts _ w_446) (fun _ h9 => h9) rfl d_M_of_71 ?_
      refine lv_iload_n hx hb d_M_of_74 rfl (lv_at hl 1 rfl) ?_
      obtain ⟨c, h⟩ := ifs h
      refine va_iald hx hb hK hP 5 0 rfl rfl c d_M_of_75 ?_
      cases h
      exact gret_i hx hb hr hlk hP hS d_M_of_76
    have h := ifn c1 h
    by_cases c2 : x2 = 2
    · refine lv_tableIn (tgt := 77) hx hb d_M_of_26 (by rw [c2]; decide) (by rw [c2]; decide) (by rw [c2]; rfl) (by decide) ?_
      have h := ifp c2 h
      refine lv_aload_n hx hb d_M_of_77 rfl (lv_at hl 0 rfl) ?_
      refine lv_iload_n hx hb d_M_of_78 rfl (lv_at hl 1 rfl) ?_
      obtain ⟨u79, hu79, h⟩ := bnd h
      refine gcall_i (va_runV (As := [.int x1]) (rest := []) ⟨hx, hb, hml, hown, hts⟩ (c_M_levelOf l D cI cZ tL q tl F u22 x1 u79 hu79 H.size) (cwV 1 hts (gV w_576 w_577 w_718 w_6 w_578) rfl rfl rfl (by decide +kernel) ⟨Nat.le_of_ble_eq_true rfl, Nat.le_of_ble_eq_true rfl⟩) (gpV (k := 0) (ci := 5) hA hK (hD u22) hE hP hS rfl rfl) rfl rfl hl.1 rfl (lv_room (Nat.le_of_ble_eq_true rfl)) d_M_of_79 ⟨Nat.le_of_ble_eq_true rfl, Nat.le_of_ble_eq_true rfl⟩) hA (hD u22) hS (fun H locs hP hS => ?_)
      cases h
      exact gret_i hx hb hr hlk hP hS d_M_of_82
    have h := ifn c2 h
    by_cases c3 : x2 = 3
    · refine lv_tableIn (tgt := 83) hx hb d_M_of_26 (by rw [c3]; decide) (by rw [c3]; decide) (by rw [c3]; rfl) (by decide) ?_
      have h := ifp c3 h
      refine lv_aload_n hx hb d_M_of_83 rfl (lv_at hl 0 rfl) ?_
      refine lv_iload_n hx hb d_M_of_84 rfl (lv_at hl 1 rfl) ?_
      obtain ⟨u85, hu85, h⟩ := bnd h
      refine gcall_i (va_runV (As := [.int x1]) (rest := []) ⟨hx, hb, hml, hown, hts⟩ (c_M_holders l D cI cZ tL q tl F u22 x1 u85 hu85 H.size) (cwV 1 hts (gV w_588 w_589 w_706 w_6 w_590) rfl rfl rfl (by decide +kernel) ⟨Nat.le_of_ble_eq_true rfl, Nat.le_of_ble_eq_true rfl⟩) (gpV (k := 0) (ci := 5) hA hK (hD u22) hE hP hS rfl rfl) rfl rfl hl.1 rfl (lv_room (Nat.le_of_ble_eq_true rfl)) d_M_of_85 ⟨Nat.le_of_ble_eq_true rfl, Nat.le_of_ble_eq_true rfl⟩) hA (hD u22) hS (fun H locs hP hS => ?_)
      cases h
      exact gret_i hx hb hr hlk hP hS d_M_of_88
    have h := ifn c3 h
    by_cases c4 : x2 = 4
    · refine lv_tableIn (tgt := 89) hx hb d_M_of_26 (by rw [c4]; decide) (by rw [c4]; decide) (by rw [c4]; rfl) (by decide) ?_
      have h := ifp c4 h
      refine lv_aload_n hx hb d_M_of_89 rfl (lv_at hl 0 rfl) ?_
      refine lv_iload_n hx hb d_M_of_90 rfl (lv_at hl 1 rfl) ?_
      obtain ⟨u91, hu91, h⟩ := bnd h
      refine gcall_i (va_runV (As := [.int x1]) (rest := []) ⟨hx, hb, hml, hown, hts⟩ (c_M_holderSites l D cI cZ tL q tl F u22 x1 u91 hu91 H.size) (cwV 1 hts (gV w_591 w_592 w_705 w_6 w_593) rfl rfl rfl (by decide +kernel) ⟨Nat.le_of_ble_eq_true rfl, Nat.le_of_ble_eq_true rfl⟩) (gpV (k := 0) (ci := 5) hA hK (hD u22) hE hP hS rfl rfl) rfl rfl hl.1 rfl (lv_room (Nat.le_of_ble_eq_true rfl)) d_M_of_91 ⟨Nat.le_of_ble_eq_true rfl, Nat.le_of_ble_eq_true rfl⟩) hA (hD u22) hS (fun H locs hP hS => ?_)
      cases h
      exact gret_i hx hb hr hlk hP hS d_M_of_94
    have h := ifn c4 h
    by_cases c5 : x2 = 5
    · refine lv_tableIn (tgt := 95) hx hb d_M_of_26 (by rw [c5]; decide) (by rw [c5]; decide) (by rw [c5]; rfl) (by decide) ?_
      have h := ifp c5 h
      refine lv_aload_n hx hb d_M_of_95 rfl (lv_at hl 0 rfl) ?_
      refine lv_iload_n hx hb d_M_of_96 rfl (lv_at hl 1 rfl) ?_
      obtain ⟨u97, hu97, h⟩ := bnd h
      refine gcall_i (va_runV (As := [.int x1]) (rest := []) ⟨hx, hb, hml, hown, hts⟩ (c_M_namers l D cI cZ tL q tl F u22 x1 u97 hu97 H.size) (cwV 1 hts (gV w_594 w_595 w_724 w_6 w_596) rfl rfl rfl (by decide +kernel) ⟨Nat.le_of_ble_eq_true rfl, Nat.le_of_ble_eq_true rfl⟩) (gpV (k := 0) (ci := 5) hA hK (hD u22) hE hP hS rfl rfl) rfl rfl hl.1 rfl (lv_room (Nat.le_of_ble_eq_true rfl)) d_M_of_97 ⟨Nat.le_of_ble_eq_true rfl, Nat.le_of_ble_eq_true rfl⟩) hA (hD u22) hS (fun H locs hP hS => ?_)
      cases h
      exact gret_i hx hb hr hlk hP hS d_M_of_100
    have h := ifn c5 h
    refine lv_tableOut (tgt := 101) hx hb d_M_of_26 (by have e0 := lv_neT (a := 0) c0 (by decide); have e1 := lv_neT (a := 1) c1 (by decide); have e2 := lv_neT (a := 2) c2 (by decide); have e3 := lv_neT (a := 3) c3 (by decide); have e4 := lv_neT (a := 4) c4 (by decide); have e5 := lv_neT (a := 5) c5 (by decide); omega) (by decide) ?_
    refine lv_aload_n hx hb d_M_of_101 rfl (lv_at hl 0 rfl) ?_
    refine lv_iload_n hx hb d_M_of_102 rfl (lv_at hl 1 rfl) ?_
    obtain ⟨u103, hu103, h⟩ := bnd h
    refine gcall_i (va_runV (As := [.int x1]) (rest := []) ⟨hx, hb, hml, hown, hts⟩ (c_M_storers l D cI cZ tL q tl F u22 x1 u103 hu103 H.size) (cwV 1 hts (gV w_597 w_598 w_731 w_6 w_599) rfl rfl rfl (by decide +kernel) ⟨Nat.le_of_ble_eq_true rfl, Nat.le_of_ble_eq_true rfl⟩) (gpV (k := 0) (ci := 5) hA hK (hD u22) hE hP hS rfl rfl) rfl rfl hl.1 rfl (lv_room (Nat.le_of_ble_eq_true rfl)) d_M_of_103 ⟨Nat.le_of_ble_eq_true rfl, Nat.le_of_ble_eq_true rfl⟩) hA (hD u22) hS (fun H locs hP hS => ?_)
    cases h
    exact gret_i hx hb hr hlk hP hS d_M_of_106
  have h := ifp c h
  refine lv_bipush (v := -2) hx hb d_M_of_18 (by decide) ?_
  cases h
  exact gret_i hx hb hr hlk hP hS d_M_of_20
/-! ===== EscapeOwnersModel.isKind(II)Z ===== -/
def f_M_isKind (F : Nat) (σ : St) (x1 : Int32) (x2 : Int32) : Option (Int32) := if x1 = 4 then (some (1 : Int32)) else if x1 = 5 then (Option.bind (f_M_shared F σ) (fun u35 => Option.bind (f_M_has u35 x2) (fun u39 => if u39 = 0 ∨ u39 = 1 then some u39 else none))) else if x1 = 6 then (Option.bind (f_M_isOut F σ x2) (fun u45 => if u45 = 0 ∨ u45 = 1 then some u45 else none)) else if x1 = 7 then (Option.bind (f_M_holders F σ x2) (fun u51 => if u51 = (1 : Int32) then (Option.bind (f_M_placed σ) (fun u59 => Option.bind (f_M_has u59 x2) (fun u63 => if u63 = 0 then (some (1 : Int32)) else (some (0 : Int32))))) else (some (0 : Int32)))) else (Option.bind (f_M_storers F σ x2) (fun u77 => Option.bind (f_M_owner σ x2) (fun u83 => if (u77 &&& (((1 : Int32) <<< (u83 &&& 31)) ^^^ (-1 : Int32))) = 0 then (some (1 : Int32)) else (some (0 : Int32)))))
set_option maxHeartbeats 4000000 in
set_option maxRecDepth 100000 in
theorem c_M_isKind (l : Launch) (D : va_G) (cI cZ : ClassId) (tL : Nat) (q : Nat → Nat) (tl : va_W) (F : Nat) (σ : St) (x1 : Int32) (x2 : Int32) (out0 : Int32) (h : f_M_isKind F σ x1 x2 = some out0) : gCi l y_M_isKind (.code y_M_isKind b_M_isKind 3 (some .boolean) :: TB) { frames := 6, cells := 0, slots := 0, locals := 133 } D [(cI, .int), (cZ, .boolean)] tL [.ref (q 0), .int x1, .int x2] (wM cI cZ q σ ++ tl) out0 (wM cI cZ q σ ++ tl) := by
  refine gCi_of (cc := b_M_isKind) (maxL := 3) (ty := .boolean) (by decide) rfl (Nat.le_of_ble_eq_true rfl) ?_
  intro p e s m below meth c A ls hf hr hlk hA hK hD0 hE hP hl
  obtain ⟨hx, hb, hml, hown, hts⟩ := id hf
  have hts : ∀ w ∈ TB, w.before _ s = true := fun w h => hts w (List.mem_cons_of_mem _ h)
  have hown : s.vm.findClass R_M = some m.cls := hown
  have hl : lv_has ls 3 [(0, .ref (q 0)), (1, .int x1), (2, .int x2)] := hl
  have hS : va_S A s.heap s.heap [] := va_S.rf
  have hD : ∀ σ' : St, va_D A (wM cI cZ q σ' ++ tl) := fun σ' => va_Dsame hD0 rfl
  unfold f_M_isKind at h
  refine lv_iload_n hx hb d_M_isKind_0 rfl (lv_at hl 1 rfl) ?_
  by_cases c0 : x1 = 4
  · refine lv_tableIn (tgt := 32) hx hb d_M_isKind_1 (by rw [c0]; decide) (by rw [c0]; decide) (by rw [c0]; rfl) (by decide) ?_
    have h := ifp c0 h
    refine lv_iconst (v := 1) hx hb d_M_isKind_32 (by decide) ?_
    cases h
    exact gret_z hx hb hr hlk (gz (Or.inr rfl)) hP hS d_M_isKind_33
  have h := ifn c0 h
  by_cases c1 : x1 = 5
  · refine lv_tableIn (tgt := 34) hx hb d_M_isKind_1 (by rw [c1]; decide) (by rw [c1]; decide) (by rw [c1]; rfl) (by decide) ?_
    have h := ifp c1 h
    refine lv_aload_n hx hb d_M_isKind_34 rfl (lv_at hl 0 rfl) ?_
    obtain ⟨u35, hu35, h⟩ := bnd h
    refine gcall_i (va_runV (As := []) (rest := []) ⟨hx, hb, hml, hown, hts⟩ (c_M_shared l D cI cZ tL q tl F σ  u35 hu35 s.heap.size) (cwV 0 hts (gV w_606 w_607 w_728 w_6 w_608) rfl rfl rfl (by decide +kernel) ⟨Nat.le_of_ble_eq_true rfl, Nat.le_of_ble_eq_true rfl⟩) (gpV (k := 0) (ci := 5) hA hK (hD σ) hE hP hS rfl rfl) rfl rfl hl.1 rfl (lv_room (Nat.le_of_ble_eq_true rfl)) d_M_isKind_35 ⟨Nat.le_of_ble_eq_true rfl, Nat.le_of_ble_eq_true rfl⟩) hA (hD σ) hS (fun H locs hP hS => ?_)
    refine lv_iload_n hx hb d_M_isKind_38 rfl (lv_at hl 2 rfl) ?_
    obtain ⟨u39, hu39, h⟩ := bnd h
    refine gcall_i (va_runS (As := [.int u35, .int x2]) (rest := []) ⟨hx, hb, hml, hown, hts⟩ (c_M_has l D cI cZ tL (wM cI cZ q σ ++ tl) u35 x2 u39 hu39 H.size) (va_cwS 2 hts (gS w_522 w_523 w_6 w_524) rfl rfl rfl (by decide +kernel) ⟨Nat.le_of_ble_eq_true rfl, Nat.le_of_ble_eq_true rfl⟩) (gpS hA hK (hD σ) hE hP hS) rfl rfl hl.1 rfl (lv_room (Nat.le_of_ble_eq_true rfl)) d_M_isKind_39 ⟨Nat.le_of_ble_eq_true rfl, Nat.le_of_ble_eq_true rfl⟩) hA (hD σ) hS (fun H locs hP hS => ?_)
    obtain ⟨c, h⟩ := ifs h
    cases h
    exact gret_z hx hb hr hlk (gz c) hP hS d_M_isKind_42
  have h := ifn c1 h
  by_cases c2 : x1 = 6
  · refine lv_tableIn (tgt := 43) hx hb d_M_isKind_1 (by rw [c2]; decide) (by rw [c2]; decide) (by rw [c2]; rfl) (by decide) ?_
    have h := ifp c2 h
    refine lv_aload_n hx hb d_M_isKind_43 rfl (lv_at hl 0 rfl) ?_
    refine lv_iload_n hx hb d_M_isKind_44 rfl (lv_at hl 2 rfl) ?_
    obtain ⟨u45, hu45, h⟩ := bnd h
    refine gcall_i (va_runV (As := [.int x2]) (rest := []) ⟨hx, hb, hml, hown, hts⟩ (c_M_isOut l D cI cZ tL q tl F σ x2 u45 hu45 s.heap.size) (cwV 1 hts (gV w_639 w_640 w_715 w_6 w_641) rfl rfl rfl (by decide +kernel) ⟨Nat.le_of_ble_eq_true rfl, Nat.le_of_ble_eq_true rfl⟩) (gpV (k := 0) (ci := 5) hA hK (hD σ) hE hP hS rfl rfl) rfl rfl hl.1 rfl (lv_room (Nat.le_of_ble_eq_true rfl)) d_M_isKind_45 ⟨Nat.le_of_ble_eq_true rfl, Nat.le_of_ble_eq_true rfl⟩) hA (hD σ) hS (fun H locs hP hS => ?_)
    obtain ⟨c, h⟩ := ifs h
    cases h
    exact gret_z hx hb hr hlk (gz c) hP hS d_M_isKind_48
  have h := ifn c2 h
  by_cases c3 : x1 = 7
  · refine lv_tableIn (tgt := 49) hx hb d_M_isKind_1 (by rw [c3]; decide) (by rw [c3]; decide) (by rw [c3]; rfl) (by decide) ?_
    have h := ifp c3 h
    refine lv_aload_n hx hb d_M_isKind_49 rfl (lv_at hl 0 rfl) ?_
    refine lv_iload_n hx hb d_M_isKind_50 rfl (lv_at hl 2 rfl) ?_
    obtain ⟨u51, hu51, h⟩ := bnd h
    refine gcall_i (va_runV (As := [.int x2]) (rest := []) ⟨hx, hb, hml, hown, hts⟩ (c_M_holders l D cI cZ tL q tl F σ x2 u51 hu51 s.heap.size) (cwV 1 hts (gV w_588 w_589 w_706 w_6 w_590) rfl rfl rfl (by decide +kernel) ⟨Nat.le_of_ble_eq_true rfl, Nat.le_of_ble_eq_true rfl⟩) (gpV (k := 0) (ci := 5) hA hK (hD σ) hE hP hS rfl rfl) rfl rfl hl.1 rfl (lv_room (Nat.le_of_ble_eq_true rfl)) d_M_isKind_51 ⟨Nat.le_of_ble_eq_true rfl, Nat.le_of_ble_eq_true rfl⟩) hA (hD σ) hS (fun H locs hP hS => ?_)
    refine lv_iconst (v := 1) hx hb d_M_isKind_54 (by decide) ?_
    refine lv_icmp_ne (tgt := 73) hx hb d_M_isKind_55 (by decide) (fun c => ?_) (fun c => ?_)
    · have h := ifn c h
      refine lv_iconst (v := 0) hx hb d_M_isKind_73 (by decide) ?_
      cases h
      exact gret_z hx hb hr hlk (gz (Or.inl rfl)) hP hS d_M_isKind_74
    have h := ifp c h
    refine lv_aload_n hx hb d_M_isKind_58 rfl (lv_at hl 0 rfl) ?_
    obtain ⟨u59, hu59, h⟩ := bnd h
    refine gcall_i (va_runV (As := []) (rest := []) ⟨hx, hb, hml, hown, hts⟩ (c_M_placed l D cI cZ tL q tl σ  u59 hu59 H.size) (cwV 0 hts (gV w_582 w_583 w_727 w_6 w_584) rfl rfl rfl (by decide +kernel) ⟨Nat.le_of_ble_eq_true rfl, Nat.le_of_ble_eq_true rfl⟩) (gpV (k := 0) (ci := 5) hA hK (hD σ) hE hP hS rfl rfl) rfl rfl hl.1 rfl (lv_room (Nat.le_of_ble_eq_true rfl)) d_M_isKind_59 ⟨Nat.le_of_ble_eq_true rfl, Nat.le_of_ble_eq_true rfl⟩) hA (hD σ) hS (fun H locs hP hS => ?_)
    refine lv_iload_n hx hb d_M_isKind_62 rfl (lv_at hl 2 rfl) ?_
    obtain ⟨u63, hu63, h⟩ := bnd h
    refine gcall_i (va_runS (As := [.int u59, .int x2]) (rest := []) ⟨hx, hb, hml, hown, hts⟩ (c_M_has l D cI cZ tL (wM cI cZ q σ ++ tl) u59 x2 u63 hu63 H.size) (va_cwS 2 hts (gS w_522 w_523 w_6 w_524) rfl rfl rfl (by decide +kernel) ⟨Nat.le_of_ble_eq_true rfl, Nat.le_of_ble_eq_true rfl⟩) (gpS hA hK (hD σ) hE hP hS) rfl rfl hl.1 rfl (lv_room (Nat.le_of_ble_eq_true rfl)) d_M_isKind_63 ⟨Nat.le_of_ble_eq_true rfl, Nat.le_of_ble_eq_true rfl⟩) hA (hD σ) hS (fun H locs hP hS => ?_)
    refine lv_if_ne (tgt := 73) hx hb d_M_isKind_66 (by decide) (fun c => ?_) (fun c => ?_)
    · have h := ifn c h
      refine lv_iconst (v := 0) hx hb d_M_isKind_73 (by decide) ?_
      cases h
      exact gret_z hx hb hr hlk (gz (Or.inl rfl)) hP hS d_M_isKind_74
    have h := ifp c h
    refine lv_iconst (v := 1) hx hb d_M_isKind_69 (by decide) ?_
    refine lv_goto (tgt := 74) hx hb d_M_isKind_70 (by decide) ?_
    cases h
    exact gret_z hx hb hr hlk (gz (Or.inr rfl)) hP hS d_M_isKind_74
  have h := ifn c3 h
  refine lv_tableOut (tgt := 75) hx hb d_M_isKind_1 (by have e0 := lv_neT (a := 4) c0 (by decide); have e1 := lv_neT (a := 5) c1 (by decide); have e2 := lv_neT (a := 6) c2 (by decide); have e3 := lv_neT (a := 7) c3 (by decide); omega) (by decide) ?_
  refine lv_aload_n hx hb d_M_isKind_75 rfl (lv_at hl 0 rfl) ?_
  refine lv_iload_n hx hb d_M_isKind_76 rfl (lv_at hl 2 rfl) ?_
  obtain ⟨u77, hu77, h⟩ := bnd h
  refine gcall_i (va_runV (As := [.int x2]) (rest := []) ⟨hx, hb, hml, hown, hts⟩ (c_M_storers l D cI cZ tL q tl F σ x2 u77 hu77 s.heap.size) (cwV 1 hts (gV w_597 w_598 w_731 w_6 w_599) rfl rfl rfl (by decide +kernel) ⟨Nat.le_of_ble_eq_true rfl, Nat.le_of_ble_eq_true rfl⟩) (gpV (k := 0) (ci := 5) hA hK (hD σ) hE hP hS rfl rfl) rfl rfl hl.1 rfl (lv_room (Nat.le_of_ble_eq_true rfl)) d_M_isKind_77 ⟨Nat.le_of_ble_eq_true rfl, Nat.le_of_ble_eq_true rfl⟩) hA (hD σ) hS (fun H locs hP hS => ?_)
  refine lv_iconst (v := 1) hx hb d_M_isKind_80 (by decide) ?_
  refine lv_aload_n hx hb d_M_isKind_81 rfl (lv_at hl 0 rfl) ?_
  refine lv_iload_n hx hb d_M_isKind_82 rfl (lv_at hl 2 rfl) ?_
  obtain ⟨u83, hu83, h⟩ := bnd h
  refine gcall_i (va_runV (As := [.int x2]) (rest := [.int (1 : Int32), .int u77]) ⟨hx, hb, hml, hown, hts⟩ (c_M_owner l D cI cZ tL q tl σ x2 u83 hu83 H.size) (cwV 1 hts (gV w_573 w_574 w_725 w_6 w_575) rfl rfl rfl (by decide +kernel) ⟨Nat.le_of_ble_eq_true rfl, Nat.le_of_ble_eq_true rfl⟩) (gpV (k := 0) (ci := 5) hA hK (hD σ) hE hP hS rfl rfl) rfl rfl hl.1 rfl (lv_room (Nat.le_of_ble_eq_true rfl)) d_M_isKind_83 ⟨Nat.le_of_ble_eq_true rfl, Nat.le_of_ble_eq_true rfl⟩) hA (hD σ) hS (fun H locs hP hS => ?_)
  refine lv_ishl hx hb d_M_isKind_86 ?_
  refine lv_iconst (v := -1) hx hb d_M_isKind_87 (by decide) ?_
  refine lv_ixor hx hb d_M_isKind_88 ?_
  refine lv_iand hx hb d_M_isKind_89 ?_
  refine lv_if_ne (tgt := 97) hx hb d_M_isKind_90 (by decide) (fun c => ?_) (fun c => ?_)
  · have h := ifn c h
    refine lv_iconst (v := 0) hx hb d_M_isKind_97 (by decide) ?_
    cases h
    exact gret_z hx hb hr hlk (gz (Or.inl rfl)) hP hS d_M_isKind_98
  have h := ifp c h
  refine lv_iconst (v := 1) hx hb d_M_isKind_93 (by decide) ?_
  refine lv_goto (tgt := 98) hx hb d_M_isKind_94 (by decide) ?_
  cases h
  exact gret_z hx hb hr hlk (gz (Or.inr rfl)) hP hS d_M_isKind_98
/-! ===== EscapeOwnersModel.sitesOf(I)I ===== -/
def f_M_sitesOf_B4 (F : Nat) (σ : St) (y1 : Int32) (rec : Int32 → Int32 → Option (Int32 × Int32)) (y2 : Int32) (y3 : Int32) : Option (Int32 × Int32) := if (σ 0 2) ≤ y3 then (some (y2, y3)) else (Option.bind (f_M_isLiveSite σ y3) (fun u14 => if u14 = 0 then (rec y2 (y3 + (1 : Int32))) else (Option.bind (f_M_isKind F σ y1 y3) (fun u23 => if u23 = 0 then (rec y2 (y3 + (1 : Int32))) else (rec (y2 ||| ((1 : Int32) <<< (y3 &&& 31))) (y3 + (1 : Int32)))))))
def f_M_sitesOf_L4 (F : Nat) (σ : St) (y1 : Int32) : Nat → Int32 → Int32 → Option (Int32 × Int32)
  | 0, _, _ => none
  | fu + 1, y2, y3 => f_M_sitesOf_B4 F σ y1 (f_M_sitesOf_L4 F σ y1 fu) y2 y3
def f_M_sitesOf (F : Nat) (σ : St) (x1 : Int32) : Option (Int32) := Option.bind (f_M_sitesOf_L4 F σ x1 F (0 : Int32) (0 : Int32)) (fun u4 => some u4.1)
set_option maxHeartbeats 4000000 in
set_option maxRecDepth 100000 in
theorem c_M_sitesOf (l : Launch) (D : va_G) (cI cZ : ClassId) (tL : Nat) (q : Nat → Nat) (tl : va_W) (F : Nat) (σ : St) (x1 : Int32) (out0 : Int32) (h : f_M_sitesOf F σ x1 = some out0) : gCi l y_M_sitesOf (.code y_M_sitesOf b_M_sitesOf 4 (some .int) :: TB) { frames := 7, cells := 0, slots := 0, locals := 155 } D [(cI, .int), (cZ, .boolean)] tL [.ref (q 0), .int x1] (wM cI cZ q σ ++ tl) out0 (wM cI cZ q σ ++ tl) := by
  refine gCi_of (cc := b_M_sitesOf) (maxL := 4) (ty := .int) (by decide) rfl (Nat.le_of_ble_eq_true rfl) ?_
  intro p e s m below meth c A ls hf hr hlk hA hK hD0 hE hP hl
  obtain ⟨hx, hb, hml, hown, hts⟩ := id hf
  have hts : ∀ w ∈ TB, w.before _ s = true := fun w h => hts w (List.mem_cons_of_mem _ h)
  have hown : s.vm.findClass R_M = some m.cls := hown
  have hl : lv_has ls 4 [(0, .ref (q 0)), (1, .int x1)] := hl
  have hS : va_S A s.heap s.heap [] := va_S.rf
  have hD : ∀ σ' : St, va_D A (wM cI cZ q σ' ++ tl) := fun σ' => va_Dsame hD0 rfl
  have L4 : ∀ (σ : St) (y1 : Int32) (fu : Nat) (y2 : Int32) (y3 : Int32) (H : Heap) (locs : List Loc) (ls : Array Slot) (out : Int32 × Int32), f_M_sitesOf_L4 F σ y1 fu y2 y3 = some out → va_P D vwCl (wM cI cZ q σ ++ tl) H → va_S A s.heap H locs → lv_has ls 4 [(0, .ref (q 0)), (1, .int y1), (2, .int y2), (3, .int y3)] → (∀ (H : Heap) (locs : List Loc) (ls : Array Slot), va_P D vwCl (wM cI cZ q σ ++ tl) H → va_S A s.heap H locs → lv_has ls 4 [(0, .ref (q 0)), (1, .int y1), (2, .int out.1), (3, .int out.2)] → W p l e { frames := 7, cells := 0, slots := 0, locals := 155 } s m ([.ref (q 0), .int x1] : List Value).toArray below meth c H locs 0 0 (gQi below D out0 (wM cI cZ q σ ++ tl) A (([.ref (q 0), .int x1] : List Value).toArray) s) (F0 m 45 ls [])) → W p l e { frames := 7, cells := 0, slots := 0, locals := 155 } s m ([.ref (q 0), .int x1] : List Value).toArray below meth c H locs 0 0 (gQi below D out0 (wM cI cZ q σ ++ tl) A (([.ref (q 0), .int x1] : List Value).toArray) s) (F0 m 4 ls []) := by
    intro σ y1 fu
    induction fu with
    | zero => intro y2 y3 H locs ls out h; exact absurd (show (none : Option (Int32 × Int32)) = some out from h) (fun z => by cases z)
    | succ fu ih =>
      intro y2 y3 H locs ls out h hP hS hl K
      have h : f_M_sitesOf_B4 F σ y1 (f_M_sitesOf_L4 F σ y1 fu) y2 y3 = some out := h
      unfold f_M_sitesOf_B4 at h
      refine lv_iload_n hx hb d_M_sitesOf_4 rfl (lv_at hl 3 rfl) ?_
      refine lv_aload_n hx hb d_M_sitesOf_5 rfl (lv_at hl 0 rfl) ?_
      refine va_get (D := D) (ci := 5) (v := .int (σ 0 2)) (C := R_M) (T := T_M) (N := 17) hx hb hts l_M hown hK hP 0 rfl rfl 2 (by decide) (hts _ w_441) (fun _ h9 => h9) rfl d_M_sitesOf_6 ?_
      refine lv_icmp_ge (tgt := 45) hx hb d_M_sitesOf_9 (by decide) (fun c => ?_) (fun c => ?_)
      · have h := ifp c h
        cases h
        exact K _ _ ls hP hS (lv_sub hl [0, 1, 2, 3] rfl)
      have h := ifn c h
      refine lv_aload_n hx hb d_M_sitesOf_12 rfl (lv_at hl 0 rfl) ?_
      refine lv_iload_n hx hb d_M_sitesOf_13 rfl (lv_at hl 3 rfl) ?_
      obtain ⟨u14, hu14, h⟩ := bnd h
      refine gcall_i (va_runV (As := [.int y3]) (rest := []) ⟨hx, hb, hml, hown, hts⟩ (c_M_isLiveSite l D cI cZ tL q tl σ y3 u14 hu14 H.size) (cwV 1 hts (gV w_633 w_634 w_712 w_6 w_635) rfl rfl rfl (by decide +kernel) ⟨Nat.le_of_ble_eq_true rfl, Nat.le_of_ble_eq_true rfl⟩) (gpV (k := 0) (ci := 5) hA hK (hD σ) hE hP hS rfl rfl) rfl rfl hl.1 rfl (lv_room (Nat.le_of_ble_eq_true rfl)) d_M_sitesOf_14 ⟨Nat.le_of_ble_eq_true rfl, Nat.le_of_ble_eq_true rfl⟩) hA (hD σ) hS (fun H locs hP hS => ?_)
      refine lv_if_eq (tgt := 37) hx hb d_M_sitesOf_17 (by decide) (fun c => ?_) (fun c => ?_)
      · have h := ifp c h
        refine lv_iload_n hx hb d_M_sitesOf_37 rfl (lv_at hl 2 rfl) ?_
        refine lv_istore_n (lv' := [(2, .int y2), (0, .ref (q 0)), (1, .int y1), (3, .int y3)]) hx hb d_M_sitesOf_38 rfl hl (by decide) rfl (fun ls hl => ?_)
        refine lv_iinc (v := (y3 + (1 : Int32))) (lv' := [(3, .int (y3 + (1 : Int32))), (2, .int y2), (0, .ref (q 0)), (1, .int y1)]) hx hb d_M_sitesOf_39 hl (k := 3) rfl rfl (by decide) rfl (fun ls hl => ?_)
        refine lv_goto (tgt := 4) hx hb d_M_sitesOf_42 (by decide) ?_
        exact ih y2 (y3 + (1 : Int32)) _ _ ls out h hP hS (lv_sub hl [2, 3, 1, 0] rfl) K
      have h := ifn c h
      refine lv_aload_n hx hb d_M_sitesOf_20 rfl (lv_at hl 0 rfl) ?_
      refine lv_iload_n hx hb d_M_sitesOf_21 rfl (lv_at hl 1 rfl) ?_
      refine lv_iload_n hx hb d_M_sitesOf_22 rfl (lv_at hl 3 rfl) ?_
      obtain ⟨u23, hu23, h⟩ := bnd h
      refine gcall_i (va_runV (As := [.int y1, .int y3]) (rest := []) ⟨hx, hb, hml, hown, hts⟩ (c_M_isKind l D cI cZ tL q tl F σ y1 y3 u23 hu23 H.size) (cwV 2 hts (gV w_636 w_637 w_710 w_6 w_638) rfl rfl rfl (by decide +kernel) ⟨Nat.le_of_ble_eq_true rfl, Nat.le_of_ble_eq_true rfl⟩) (gpV (k := 0) (ci := 5) hA hK (hD σ) hE hP hS rfl rfl) rfl rfl hl.1 rfl (lv_room (Nat.le_of_ble_eq_true rfl)) d_M_sitesOf_23 ⟨Nat.le_of_ble_eq_true rfl, Nat.le_of_ble_eq_true rfl⟩) hA (hD σ) hS (fun H locs hP hS => ?_)
      refine lv_if_eq (tgt := 37) hx hb d_M_sitesOf_26 (by decide) (fun c => ?_) (fun c => ?_)
      · have h := ifp c h
        refine lv_iload_n hx hb d_M_sitesOf_37 rfl (lv_at hl 2 rfl) ?_
        refine lv_istore_n (lv' := [(2, .int y2), (0, .ref (q 0)), (1, .int y1), (3, .int y3)]) hx hb d_M_sitesOf_38 rfl hl (by decide) rfl (fun ls hl => ?_)
        refine lv_iinc (v := (y3 + (1 : Int32))) (lv' := [(3, .int (y3 + (1 : Int32))), (2, .int y2), (0, .ref (q 0)), (1, .int y1)]) hx hb d_M_sitesOf_39 hl (k := 3) rfl rfl (by decide) rfl (fun ls hl => ?_)
        refine lv_goto (tgt := 4) hx hb d_M_sitesOf_42 (by decide) ?_
        exact ih y2 (y3 + (1 : Int32)) _ _ ls out h hP hS (lv_sub hl [2, 3, 1, 0] rfl) K
      have h := ifn c h
      refine lv_iload_n hx hb d_M_sitesOf_29 rfl (lv_at hl 2 rfl) ?_
      refine lv_iconst (v := 1) hx hb d_M_sitesOf_30 (by decide) ?_
      refine lv_iload_n hx hb d_M_sitesOf_31 rfl (lv_at hl 3 rfl) ?_
      refine lv_ishl hx hb d_M_sitesOf_32 ?_
      refine lv_ior hx hb d_M_sitesOf_33 ?_
      refine lv_goto (tgt := 38) hx hb d_M_sitesOf_34 (by decide) ?_
      refine lv_istore_n (lv' := [(2, .int (y2 ||| ((1 : Int32) <<< (y3 &&& 31)))), (0, .ref (q 0)), (1, .int y1), (3, .int y3)]) hx hb d_M_sitesOf_38 rfl hl (by decide) rfl (fun ls hl => ?_)
      refine lv_iinc (v := (y3 + (1 : Int32))) (lv' := [(3, .int (y3 + (1 : Int32))), (2, .int (y2 ||| ((1 : Int32) <<< (y3 &&& 31)))), (0, .ref (q 0)), (1, .int y1)]) hx hb d_M_sitesOf_39 hl (k := 3) rfl rfl (by decide) rfl (fun ls hl => ?_)
      refine lv_goto (tgt := 4) hx hb d_M_sitesOf_42 (by decide) ?_
      exact ih (y2 ||| ((1 : Int32) <<< (y3 &&& 31))) (y3 + (1 : Int32)) _ _ ls out h hP hS (lv_sub hl [2, 3, 1, 0] rfl) K
  unfold f_M_sitesOf at h
  refine lv_iconst (v := 0) hx hb d_M_sitesOf_0 (by decide) ?_
  refine lv_istore_n (lv' := [(2, .int (0 : Int32)), (0, .ref (q 0)), (1, .int x1)]) hx hb d_M_sitesOf_1 rfl hl (by decide) rfl (fun ls hl => ?_)
  refine lv_iconst (v := 0) hx hb d_M_sitesOf_2 (by decide) ?_
  refine lv_istore_n (lv' := [(3, .int (0 : Int32)), (2, .int (0 : Int32)), (0, .ref (q 0)), (1, .int x1)]) hx hb d_M_sitesOf_3 rfl hl (by decide) rfl (fun ls hl => ?_)
  obtain ⟨u4, hu4, h⟩ := bnd h
  refine L4 σ x1 F (0 : Int32) (0 : Int32) _ _ ls u4 hu4 hP hS (lv_sub hl [2, 3, 1, 0] rfl) (fun H locs ls hP hS hl => ?_)
  refine lv_iload_n hx hb d_M_sitesOf_45 rfl (lv_at hl 2 rfl) ?_
  cases h
  exact gret_i hx hb hr hlk hP hS d_M_sitesOf_46
/-! ===== EscapeOwnersModel.isFresh(I)Z ===== -/
def f_M_isFresh_B35 (F : Nat) (σ : St) (y1 : Int32) (y2 : Int32) (rec : Int32 → Int32 → Option (Int32 × Int32)) (y3 : Int32) (y4 : Int32) : Option (Int32 × Int32) := if (σ 0 2) ≤ y4 then (some (y3, y4)) else (if y3 = 0 then (rec (0 : Int32) (y4 + (1 : Int32))) else (Option.bind (f_M_has y2 y4) (fun u51 => if u51 = 0 then (rec (1 : Int32) (y4 + (1 : Int32))) else (Option.bind (f_M_owner σ y4) (fun u60 => if u60 = y1 then (Option.bind (f_M_holders F σ y4) (fun u70 => if u70 = 0 then (rec (1 : Int32) (y4 + (1 : Int32))) else (rec (0 : Int32) (y4 + (1 : Int32))))) else (rec (0 : Int32) (y4 + (1 : Int32))))))))
def f_M_isFresh_L35 (F : Nat) (σ : St) (y1 : Int32) (y2 : Int32) : Nat → Int32 → Int32 → Option (Int32 × Int32)
  | 0, _, _ => none
  | fu + 1, y3, y4 => f_M_isFresh_B35 F σ y1 y2 (f_M_isFresh_L35 F σ y1 y2 fu) y3 y4
def f_M_isFresh (F : Nat) (σ : St) (x1 : Int32) : Option (Int32) := if ¬ (x1 < 0 ∨ 8 ≤ x1.toNatClampNeg) then (if ((σ 9) x1.toNatClampNeg) = 0 then (Option.bind (f_M_isFresh_L35 F σ x1 ((σ 9) x1.toNatClampNeg) F (0 : Int32) (0 : Int32)) (fun u35 => if u35.1 = 0 ∨ u35.1 = 1 then some u35.1 else none)) else (Option.bind (f_M_shared F σ) (fun u13 => Option.bind (f_M_parametersOf σ x1) (fun u18 => if (((σ 9) x1.toNatClampNeg) &&& (u13 ||| u18)) = 0 then (Option.bind (f_M_isFresh_L35 F σ x1 ((σ 9) x1.toNatClampNeg) F (1 : Int32) (0 : Int32)) (fun u35 => if u35.1 = 0 ∨ u35.1 = 1 then some u35.1 else none)) else (Option.bind (f_M_isFresh_L35 F σ x1 ((σ 9) x1.toNatClampNeg) F (0 : Int32) (0 : Int32)) (fun u35 => if u35.1 = 0 ∨ u35.1 = 1 then some u35.1 else none)))))) else none
set_option maxHeartbeats 4000000 in
set_option maxRecDepth 100000 in
theorem c_M_isFresh (l : Launch) (D : va_G) (cI cZ : ClassId) (tL : Nat) (q : Nat → Nat) (tl : va_W) (F : Nat) (σ : St) (x1 : Int32) (out0 : Int32) (h : f_M_isFresh F σ x1 = some out0) : gCi l y_M_isFresh (.code y_M_isFresh b_M_isFresh 5 (some .boolean) :: TB) { frames := 5, cells := 0, slots := 0, locals := 111 } D [(cI, .int), (cZ, .boolean)] tL [.ref (q 0), .int x1] (wM cI cZ q σ ++ tl) out0 (wM cI cZ q σ ++ tl) := by
  refine gCi_of (cc := b_M_isFresh) (maxL := 5) (ty := .boolean) (by decide) rfl (Nat.le_of_ble_eq_true rfl) ?_
  intro p e s m below meth c A ls hf hr hlk hA hK hD0 hE hP hl
  obtain ⟨hx, hb, hml, hown, hts⟩ := id hf
  have hts : ∀ w ∈ TB, w.before _ s = true := fun w h => hts w (List.mem_cons_of_mem _ h)
  have hown : s.vm.findClass R_M = some m.cls := hown
  have hl : lv_has ls 5 [(0, .ref (q 0)), (1, .int x1)] := hl
  have hS : va_S A s.heap s.heap [] := va_S.rf
  have hD : ∀ σ' : St, va_D A (wM cI cZ q σ' ++ tl) := fun σ' => va_Dsame hD0 rfl
  have L35 : ∀ (σ : St) (y1 : Int32) (y2 : Int32) (fu : Nat) (y3 : Int32) (y4 : Int32) (H : Heap) (locs : List Loc) (ls : Array Slot) (out : Int32 × Int32), f_M_isFresh_L35 F σ y1 y2 fu y3 y4 = some out → va_P D vwCl (wM cI cZ q σ ++ tl) H → va_S A s.heap H locs → lv_has ls 5 [(0, .ref (q 0)), (1, .int y1), (2, .int y2), (3, .int y3), (4, .int y4)] → (∀ (H : Heap) (locs : List Loc) (ls : Array Slot), va_P D vwCl (wM cI cZ q σ ++ tl) H → va_S A s.heap H locs → lv_has ls 5 [(0, .ref (q 0)), (1, .int y1), (2, .int y2), (3, .int out.1), (4, .int out.2)] → W p l e { frames := 5, cells := 0, slots := 0, locals := 111 } s m ([.ref (q 0), .int x1] : List Value).toArray below meth c H locs 0 0 (gQi below D out0 (wM cI cZ q σ ++ tl) A (([.ref (q 0), .int x1] : List Value).toArray) s) (F0 m 88 ls [])) → W p l e { frames := 5, cells := 0, slots := 0, locals := 111 } s m ([.ref (q 0), .int x1] : List Value).toArray below meth c H locs 0 0 (gQi below D out0 (wM cI cZ q σ ++ tl) A (([.ref (q 0), .int x1] : List Value).toArray) s) (F0 m 35 ls []) := by
    intro σ y1 y2 fu
    induction fu with
    | zero => intro y3 y4 H locs ls out h; exact absurd (show (none : Option (Int32 × Int32)) = some out from h) (fun z => by cases z)
    | succ fu ih =>
      intro y3 y4 H locs ls out h hP hS hl K
      have h : f_M_isFresh_B35 F σ y1 y2 (f_M_isFresh_L35 F σ y1 y2 fu) y3 y4 = some out := h
      unfold f_M_isFresh_B35 at h
      refine lv_iload hx hb d_M_isFresh_35 (lv_at hl 4 rfl) ?_
      refine lv_aload_n hx hb d_M_isFresh_37 rfl (lv_at hl 0 rfl) ?_
      refine va_get (D := D) (ci := 5) (v := .int (σ 0 2)) (C := R_M) (T := T_M) (N := 17) hx hb hts l_M hown hK hP 0 rfl rfl 2 (by decide) (hts _ w_441) (fun _ h9 => h9) rfl d_M_isFresh_38 ?_
      refine lv_icmp_ge (tgt := 88) hx hb d_M_isFresh_41 (by decide) (fun c => ?_) (fun c => ?_)
      · have h := ifp c h
        cases h
        exact K _ _ ls hP hS (lv_sub hl [0, 1, 2, 3, 4] rfl)
      have h := ifn c h
      refine lv_iload_n hx hb d_M_isFresh_44 rfl (lv_at hl 3 rfl) ?_
      refine lv_if_eq (tgt := 80) hx hb d_M_isFresh_45 (by decide) (fun c => ?_) (fun c => ?_)
      · have h := ifp c h
        refine lv_iconst (v := 0) hx hb d_M_isFresh_80 (by decide) ?_
        refine lv_istore_n (lv' := [(3, .int (0 : Int32)), (0, .ref (q 0)), (1, .int y1), (2, .int y2), (4, .int y4)]) hx hb d_M_isFresh_81 rfl hl (by decide) rfl (fun ls hl => ?_)
        refine lv_iinc (v := (y4 + (1 : Int32))) (lv' := [(4, .int (y4 + (1 : Int32))), (3, .int (0 : Int32)), (0, .ref (q 0)), (1, .int y1), (2, .int y2)]) hx hb d_M_isFresh_82 hl (k := 4) rfl rfl (by decide) rfl (fun ls hl => ?_)
        refine lv_goto (tgt := 35) hx hb d_M_isFresh_85 (by decide) ?_
        exact ih (0 : Int32) (y4 + (1 : Int32)) _ _ ls out h hP hS (lv_sub hl [2, 3, 4, 1, 0] rfl) K
      have h := ifn c h
      refine lv_iload_n hx hb d_M_isFresh_48 rfl (lv_at hl 2 rfl) ?_
      refine lv_iload hx hb d_M_isFresh_49 (lv_at hl 4 rfl) ?_
      obtain ⟨u51, hu51, h⟩ := bnd h
      refine gcall_i (va_runS (As := [.int y2, .int y4]) (rest := []) ⟨hx, hb, hml, hown, hts⟩ (c_M_has l D cI cZ tL (wM cI cZ q σ ++ tl) y2 y4 u51 hu51 H.size) (va_cwS 2 hts (gS w_522 w_523 w_6 w_524) rfl rfl rfl (by decide +kernel) ⟨Nat.le_of_ble_eq_true rfl, Nat.le_of_ble_eq_true rfl⟩) (gpS hA hK (hD σ) hE hP hS) rfl rfl hl.1 rfl (lv_room (Nat.le_of_ble_eq_true rfl)) d_M_isFresh_51 ⟨Nat.le_of_ble_eq_true rfl, Nat.le_of_ble_eq_true rfl⟩) hA (hD σ) hS (fun H locs hP hS => ?_)
      refine lv_if_eq (tgt := 76) hx hb d_M_isFresh_54 (by decide) (fun c => ?_) (fun c => ?_)
      · have h := ifp c h
        refine lv_iconst (v := 1) hx hb d_M_isFresh_76 (by decide) ?_
        refine lv_goto (tgt := 81) hx hb d_M_isFresh_77 (by decide) ?_
        refine lv_istore_n (lv' := [(3, .int (1 : Int32)), (0, .ref (q 0)), (1, .int y1), (2, .int y2), (4, .int y4)]) hx hb d_M_isFresh_81 rfl hl (by decide) rfl (fun ls hl => ?_)
        refine lv_iinc (v := (y4 + (1 : Int32))) (lv' := [(4, .int (y4 + (1 : Int32))), (3, .int (1 : Int32)), (0, .ref (q 0)), (1, .int y1), (2, .int y2)]) hx hb d_M_isFresh_82 hl (k := 4) rfl rfl (by decide) rfl (fun ls hl => ?_)
        refine lv_goto (tgt := 35) hx hb d_M_isFresh_85 (by decide) ?_
        exact ih (1 : Int32) (y4 + (1 : Int32)) _ _ ls out h hP hS (lv_sub hl [2, 3, 4, 1, 0] rfl) K
      have h := ifn c h
      refine lv_aload_n hx hb d_M_isFresh_57 rfl (lv_at hl 0 rfl) ?_
      refine lv_iload hx hb d_M_isFresh_58 (lv_at hl 4 rfl) ?_
      obtain ⟨u60, hu60, h⟩ := bnd h
      refine gcall_i (va_runV (As := [.int y4]) (rest := []) ⟨hx, hb, hml, hown, hts⟩ (c_M_owner l D cI cZ tL q tl σ y4 u60 hu60 H.size) (cwV 1 hts (gV w_573 w_574 w_725 w_6 w_575) rfl rfl rfl (by decide +kernel) ⟨Nat.le_of_ble_eq_true rfl, Nat.le_of_ble_eq_true rfl⟩) (gpV (k := 0) (ci := 5) hA hK (hD σ) hE hP hS rfl rfl) rfl rfl hl.1 rfl (lv_room (Nat.le_of_ble_eq_true rfl)) d_M_isFresh_60 ⟨Nat.le_of_ble_eq_true rfl, Nat.le_of_ble_eq_true rfl⟩) hA (hD σ) hS (fun H locs hP hS => ?_)
      refine lv_iload_n hx hb d_M_isFresh_63 rfl (lv_at hl 1 rfl) ?_
      refine lv_icmp_ne (tgt := 80) hx hb d_M_isFresh_64 (by decide) (fun c => ?_) (fun c => ?_)
      · have h := ifn c h
        refine lv_iconst (v := 0) hx hb d_M_isFresh_80 (by decide) ?_
        refine lv_istore_n (lv' := [(3, .int (0 : Int32)), (0, .ref (q 0)), (1, .int y1), (2, .int y2), (4, .int y4)]) hx hb d_M_isFresh_81 rfl hl (by decide) rfl (fun ls hl => ?_)
        refine lv_iinc (v := (y4 + (1 : Int32))) (lv' := [(4, .int (y4 + (1 : Int32))), (3, .int (0 : Int32)), (0, .ref (q 0)), (1, .int y1), (2, .int y2)]) hx hb d_M_isFresh_82 hl (k := 4) rfl rfl (by decide) rfl (fun ls hl => ?_)
        refine lv_goto (tgt := 35) hx hb d_M_isFresh_85 (by decide) ?_
        exact ih (0 : Int32) (y4 + (1 : Int32)) _ _ ls out h hP hS (lv_sub hl [2, 3, 4, 1, 0] rfl) K
      have h := ifp c h
      refine lv_aload_n hx hb d_M_isFresh_67 rfl (lv_at hl 0 rfl) ?_
      refine lv_iload hx hb d_M_isFresh_68 (lv_at hl 4 rfl) ?_
      obtain ⟨u70, hu70, h⟩ := bnd h
      refine gcall_i (va_runV (As := [.int y4]) (rest := []) ⟨hx, hb, hml, hown, hts⟩ (c_M_holders l D cI cZ tL q tl F σ y4 u70 hu70 H.size) (cwV 1 hts (gV w_588 w_589 w_706 w_6 w_590) rfl rfl rfl (by decide +kernel) ⟨Nat.le_of_ble_eq_true rfl, Nat.le_of_ble_eq_true rfl⟩) (gpV (k := 0) (ci := 5) hA hK (hD σ) hE hP hS rfl rfl) rfl rfl hl.1 rfl (lv_room (Nat.le_of_ble_eq_true rfl)) d_M_isFresh_70 ⟨Nat.le_of_ble_eq_true rfl, Nat.le_of_ble_eq_true rfl⟩) hA (hD σ) hS (fun H locs hP hS => ?_)
      refine lv_if_ne (tgt := 80) hx hb d_M_isFresh_73 (by decide) (fun c => ?_) (fun c => ?_)
      · have h := ifn c h
        refine lv_iconst (v := 0) hx hb d_M_isFresh_80 (by decide) ?_
        refine lv_istore_n (lv' := [(3, .int (0 : Int32)), (0, .ref (q 0)), (1, .int y1), (2, .int y2), (4, .int y4)]) hx hb d_M_isFresh_81 rfl hl (by decide) rfl (fun ls hl => ?_)
        refine lv_iinc (v := (y4 + (1 : Int32))) (lv' := [(4, .int (y4 + (1 : Int32))), (3, .int (0 : Int32)), (0, .ref (q 0)), (1, .int y1), (2, .int y2)]) hx hb d_M_isFresh_82 hl (k := 4) rfl rfl (by decide) rfl (fun ls hl => ?_)
        refine lv_goto (tgt := 35) hx hb d_M_isFresh_85 (by decide) ?_
        exact ih (0 : Int32) (y4 + (1 : Int32)) _ _ ls out h hP hS (lv_sub hl [2, 3, 4, 1, 0] rfl) K
      have h := ifp c h
      refine lv_iconst (v := 1) hx hb d_M_isFresh_76 (by decide) ?_
      refine lv_goto (tgt := 81) hx hb d_M_isFresh_77 (by decide) ?_
      refine lv_istore_n (lv' := [(3, .int (1 : Int32)), (0, .ref (q 0)), (1, .int y1), (2, .int y2), (4, .int y4)]) hx hb d_M_isFresh_81 rfl hl (by decide) rfl (fun ls hl => ?_)
      refine lv_iinc (v := (y4 + (1 : Int32))) (lv' := [(4, .int (y4 + (1 : Int32))), (3, .int (1 : Int32)), (0, .ref (q 0)), (1, .int y1), (2, .int y2)]) hx hb d_M_isFresh_82 hl (k := 4) rfl rfl (by decide) rfl (fun ls hl => ?_)
      refine lv_goto (tgt := 35) hx hb d_M_isFresh_85 (by decide) ?_
      exact ih (1 : Int32) (y4 + (1 : Int32)) _ _ ls out h hP hS (lv_sub hl [2, 3, 4, 1, 0] rfl) K
  unfold f_M_isFresh at h
  refine lv_aload_n hx hb d_M_isFresh_0 rfl (lv_at hl 0 rfl) ?_
  refine va_get (D := D) (ci := 5) (v := .ref (q 9)) (C := R_M) (T := T_M) (N := 17) hx hb hts l_M hown hK hP 0 rfl rfl 11 (by decide) (hts _ w_450) (fun _ h9 => h9) rfl d_M_isFresh_1 ?_
  refine lv_iload_n hx hb d_M_isFresh_4 rfl (lv_at hl 1 rfl) ?_
  obtain ⟨c, h⟩ := ifs h
  refine va_iald hx hb hK hP 9 0 rfl rfl c d_M_isFresh_5 ?_
  refine lv_istore_n (lv' := [(2, .int ((σ 9) x1.toNatClampNeg)), (0, .ref (q 0)), (1, .int x1)]) hx hb d_M_isFresh_6 rfl hl (by decide) rfl (fun ls hl => ?_)
  refine lv_iload_n hx hb d_M_isFresh_7 rfl (lv_at hl 0 rfl) ?_
  refine lv_if_eq (tgt := 30) hx hb d_M_isFresh_8 (by decide) (fun c => ?_) (fun c => ?_)
  · have h := ifp c h
    refine lv_iconst (v := 0) hx hb d_M_isFresh_30 (by decide) ?_
    refine lv_istore_n (lv' := [(3, .int (0 : Int32)), (2, .int ((σ 9) x1.toNatClampNeg)), (0, .ref (q 0)), (1, .int x1)]) hx hb d_M_isFresh_31 rfl hl (by decide) rfl (fun ls hl => ?_)
    refine lv_iconst (v := 0) hx hb d_M_isFresh_32 (by decide) ?_
    refine lv_istore (lv' := [(4, .int (0 : Int32)), (3, .int (0 : Int32)), (2, .int ((σ 9) x1.toNatClampNeg)), (0, .ref (q 0)), (1, .int x1)]) hx hb d_M_isFresh_33 hl (by decide) rfl (fun ls hl => ?_)
    obtain ⟨u35, hu35, h⟩ := bnd h
    refine L35 σ x1 ((σ 9) x1.toNatClampNeg) F (0 : Int32) (0 : Int32) _ _ ls u35 hu35 hP hS (lv_sub hl [3, 4, 2, 1, 0] rfl) (fun H locs ls hP hS hl => ?_)
    refine lv_iload_n hx hb d_M_isFresh_88 rfl (lv_at hl 3 rfl) ?_
    obtain ⟨c, h⟩ := ifs h
    cases h
    exact gret_z hx hb hr hlk (gz c) hP hS d_M_isFresh_89
  have h := ifn c h
  refine lv_iload_n hx hb d_M_isFresh_11 rfl (lv_at hl 0 rfl) ?_
  refine lv_aload_n hx hb d_M_isFresh_12 rfl (lv_at hl 1 rfl) ?_
  obtain ⟨u13, hu13, h⟩ := bnd h
  refine gcall_i (va_runV (As := []) (rest := [.int ((σ 9) x1.toNatClampNeg)]) ⟨hx, hb, hml, hown, hts⟩ (c_M_shared l D cI cZ tL q tl F σ  u13 hu13 s.heap.size) (cwV 0 hts (gV w_606 w_607 w_728 w_6 w_608) rfl rfl rfl (by decide +kernel) ⟨Nat.le_of_ble_eq_true rfl, Nat.le_of_ble_eq_true rfl⟩) (gpV (k := 0) (ci := 5) hA hK (hD σ) hE hP hS rfl rfl) rfl rfl hl.1 rfl (lv_room (Nat.le_of_ble_eq_true rfl)) d_M_isFresh_13 ⟨Nat.le_of_ble_eq_true rfl, Nat.le_of_ble_eq_true rfl⟩) hA (hD σ) hS (fun H locs hP hS => ?_)
  refine lv_aload_n hx hb d_M_isFresh_16 rfl (lv_at hl 1 rfl) ?_
  refine lv_iload_n hx hb d_M_isFresh_17 rfl (lv_at hl 2 rfl) ?_
  obtain ⟨u18, hu18, h⟩ := bnd h
  refine gcall_i (va_runV (As := [.int x1]) (rest := [.int u13, .int ((σ 9) x1.toNatClampNeg)]) ⟨hx, hb, hml, hown, hts⟩ (c_M_parametersOf l D cI cZ tL q tl σ x1 u18 hu18 H.size) (cwV 1 hts (gV w_627 w_628 w_726 w_6 w_629) rfl rfl rfl (by decide +kernel) ⟨Nat.le_of_ble_eq_true rfl, Nat.le_of_ble_eq_true rfl⟩) (gpV (k := 0) (ci := 5) hA hK (hD σ) hE hP hS rfl rfl) rfl rfl hl.1 rfl (lv_room (Nat.le_of_ble_eq_true rfl)) d_M_isFresh_18 ⟨Nat.le_of_ble_eq_true rfl, Nat.le_of_ble_eq_true rfl⟩) hA (hD σ) hS (fun H locs hP hS => ?_)
  refine lv_ior hx hb d_M_isFresh_21 ?_
  refine lv_iand hx hb d_M_isFresh_22 ?_
  refine lv_if_ne (tgt := 30) hx hb d_M_isFresh_23 (by decide) (fun c => ?_) (fun c => ?_)
  · have h := ifn c h
    refine lv_iconst (v := 0) hx hb d_M_isFresh_30 (by decide) ?_
    refine lv_istore_n (lv' := [(3, .int (0 : Int32)), (2, .int ((σ 9) x1.toNatClampNeg)), (0, .ref (q 0)), (1, .int x1)]) hx hb d_M_isFresh_31 rfl hl (by decide) rfl (fun ls hl => ?_)
    refine lv_iconst (v := 0) hx hb d_M_isFresh_32 (by decide) ?_
    refine lv_istore (lv' := [(4, .int (0 : Int32)), (3, .int (0 : Int32)), (2, .int ((σ 9) x1.toNatClampNeg)), (0, .ref (q 0)), (1, .int x1)]) hx hb d_M_isFresh_33 hl (by decide) rfl (fun ls hl => ?_)
    obtain ⟨u35, hu35, h⟩ := bnd h
    refine L35 σ x1 ((σ 9) x1.toNatClampNeg) F (0 : Int32) (0 : Int32) _ _ ls u35 hu35 hP hS (lv_sub hl [3, 4, 2, 1, 0] rfl) (fun H locs ls hP hS hl => ?_)
    refine lv_iload_n hx hb d_M_isFresh_88 rfl (lv_at hl 3 rfl) ?_
    obtain ⟨c, h⟩ := ifs h
    cases h
    exact gret_z hx hb hr hlk (gz c) hP hS d_M_isFresh_89
  have h := ifp c h
  refine lv_iconst (v := 1) hx hb d_M_isFresh_26 (by decide) ?_
  refine lv_goto (tgt := 31) hx hb d_M_isFresh_27 (by decide) ?_
  refine lv_istore_n (lv' := [(3, .int (1 : Int32)), (2, .int ((σ 9) x1.toNatClampNeg)), (0, .ref (q 0)), (1, .int x1)]) hx hb d_M_isFresh_31 rfl hl (by decide) rfl (fun ls hl => ?_)
  refine lv_iconst (v := 0) hx hb d_M_isFresh_32 (by decide) ?_
  refine lv_istore (lv' := [(4, .int (0 : Int32)), (3, .int (1 : Int32)), (2, .int ((σ 9) x1.toNatClampNeg)), (0, .ref (q 0)), (1, .int x1)]) hx hb d_M_isFresh_33 hl (by decide) rfl (fun ls hl => ?_)
  obtain ⟨u35, hu35, h⟩ := bnd h
  refine L35 σ x1 ((σ 9) x1.toNatClampNeg) F (1 : Int32) (0 : Int32) _ _ ls u35 hu35 hP hS (lv_sub hl [3, 4, 2, 1, 0] rfl) (fun H locs ls hP hS hl => ?_)
  refine lv_iload_n hx hb d_M_isFresh_88 rfl (lv_at hl 3 rfl) ?_
  obtain ⟨c, h⟩ := ifs h
  cases h
  exact gret_z hx hb hr hlk (gz c) hP hS d_M_isFresh_89
/-! ===== EscapeOwnersModel.madeBy(I)I ===== -/
def f_M_madeBy_B4 (F : Nat) (σ : St) (y1 : Int32) (rec : Int32 → Int32 → Option (Int32 × Int32)) (y2 : Int32) (y3 : Int32) : Option (Int32 × Int32) := if (σ 0 2) ≤ y3 then (some (y2, y3)) else (Option.bind (f_M_owner σ y3) (fun u15 => Option.bind (f_M_has y1 u15) (fun u18 => if u18 = 0 then (rec y2 (y3 + (1 : Int32))) else (rec (y2 ||| ((1 : Int32) <<< (y3 &&& 31))) (y3 + (1 : Int32))))))
def f_M_madeBy_L4 (F : Nat) (σ : St) (y1 : Int32) : Nat → Int32 → Int32 → Option (Int32 × Int32)
  | 0, _, _ => none
  | fu + 1, y2, y3 => f_M_madeBy_B4 F σ y1 (f_M_madeBy_L4 F σ y1 fu) y2 y3
def f_M_madeBy (F : Nat) (σ : St) (x1 : Int32) : Option (Int32) := Option.bind (f_M_madeBy_L4 F σ x1 F (0 : Int32) (0 : Int32)) (fun u4 => some u4.1)
set_option maxHeartbeats 4000000 in
set_option maxRecDepth 100000 in
theorem c_M_madeBy (l : Launch) (D : va_G) (cI cZ : ClassId) (tL : Nat) (q : Nat → Nat) (tl : va_W) (F : Nat) (σ : St) (x1 : Int32) (out0 : Int32) (h : f_M_madeBy F σ x1 = some out0) : gCi l y_M_madeBy (.code y_M_madeBy b_M_madeBy 4 (some .int) :: TB) { frames := 1, cells := 0, slots := 0, locals := 21 } D [(cI, .int), (cZ, .boolean)] tL [.ref (q 0), .int x1] (wM cI cZ q σ ++ tl) out0 (wM cI cZ q σ ++ tl) := by
  refine gCi_of (cc := b_M_madeBy) (maxL := 4) (ty := .int) (by decide) rfl (Nat.le_of_ble_eq_true rfl) ?_
  intro p e s m below meth c A ls hf hr hlk hA hK hD0 hE hP hl
  obtain ⟨hx, hb, hml, hown, hts⟩ := id hf
  have hts : ∀ w ∈ TB, w.before _ s = true := fun w h => hts w (List.mem_cons_of_mem _ h)
  have hown : s.vm.findClass R_M = some m.cls := hown
  have hl : lv_has ls 4 [(0, .ref (q 0)), (1, .int x1)] := hl
  have hS : va_S A s.heap s.heap [] := va_S.rf
  have hD : ∀ σ' : St, va_D A (wM cI cZ q σ' ++ tl) := fun σ' => va_Dsame hD0 rfl
  have L4 : ∀ (σ : St) (y1 : Int32) (fu : Nat) (y2 : Int32) (y3 : Int32) (H : Heap) (locs : List Loc) (ls : Array Slot) (out : Int32 × Int32), f_M_madeBy_L4 F σ y1 fu y2 y3 = some out → va_P D vwCl (wM cI cZ q σ ++ tl) H → va_S A s.heap H locs → lv_has ls 4 [(0, .ref (q 0)), (1, .int y1), (2, .int y2), (3, .int y3)] → (∀ (H : Heap) (locs : List Loc) (ls : Array Slot), va_P D vwCl (wM cI cZ q σ ++ tl) H → va_S A s.heap H locs → lv_has ls 4 [(0, .ref (q 0)), (1, .int y1), (2, .int out.1), (3, .int out.2)] → W p l e { frames := 1, cells := 0, slots := 0, locals := 21 } s m ([.ref (q 0), .int x1] : List Value).toArray below meth c H locs 0 0 (gQi below D out0 (wM cI cZ q σ ++ tl) A (([.ref (q 0), .int x1] : List Value).toArray) s) (F0 m 40 ls [])) → W p l e { frames := 1, cells := 0, slots := 0, locals := 21 } s m ([.ref (q 0), .int x1] : List Value).toArray below meth c H locs 0 0 (gQi below D out0 (wM cI cZ q σ ++ tl) A (([.ref (q 0), .int x1] : List Value).toArray) s) (F0 m 4 ls []) := by
    intro σ y1 fu
    induction fu with
    | zero => intro y2 y3 H locs ls out h; exact absurd (show (none : Option (Int32 × Int32)) = some out from h) (fun z => by cases z)
    | succ fu ih =>
      intro y2 y3 H locs ls out h hP hS hl K
      have h : f_M_madeBy_B4 F σ y1 (f_M_madeBy_L4 F σ y1 fu) y2 y3 = some out := h
      unfold f_M_madeBy_B4 at h
      refine lv_iload_n hx hb d_M_madeBy_4 rfl (lv_at hl 3 rfl) ?_
      refine lv_aload_n hx hb d_M_madeBy_5 rfl (lv_at hl 0 rfl) ?_
      refine va_get (D := D) (ci := 5) (v := .int (σ 0 2)) (C := R_M) (T := T_M) (N := 17) hx hb hts l_M hown hK hP 0 rfl rfl 2 (by decide) (hts _ w_441) (fun _ h9 => h9) rfl d_M_madeBy_6 ?_
      refine lv_icmp_ge (tgt := 40) hx hb d_M_madeBy_9 (by decide) (fun c => ?_) (fun c => ?_)
      · have h := ifp c h
        cases h
        exact K _ _ ls hP hS (lv_sub hl [0, 1, 2, 3] rfl)
      have h := ifn c h
      refine lv_iload_n hx hb d_M_madeBy_12 rfl (lv_at hl 1 rfl) ?_
      refine lv_aload_n hx hb d_M_madeBy_13 rfl (lv_at hl 0 rfl) ?_
      refine lv_iload_n hx hb d_M_madeBy_14 rfl (lv_at hl 3 rfl) ?_
      obtain ⟨u15, hu15, h⟩ := bnd h
      refine gcall_i (va_runV (As := [.int y3]) (rest := [.int y1]) ⟨hx, hb, hml, hown, hts⟩ (c_M_owner l D cI cZ tL q tl σ y3 u15 hu15 H.size) (cwV 1 hts (gV w_573 w_574 w_725 w_6 w_575) rfl rfl rfl (by decide +kernel) ⟨Nat.le_of_ble_eq_true rfl, Nat.le_of_ble_eq_true rfl⟩) (gpV (k := 0) (ci := 5) hA hK (hD σ) hE hP hS rfl rfl) rfl rfl hl.1 rfl (lv_room (Nat.le_of_ble_eq_true rfl)) d_M_madeBy_15 ⟨Nat.le_of_ble_eq_true rfl, Nat.le_of_ble_eq_true rfl⟩) hA (hD σ) hS (fun H locs hP hS => ?_)
      obtain ⟨u18, hu18, h⟩ := bnd h
      refine gcall_i (va_runS (As := [.int y1, .int u15]) (rest := []) ⟨hx, hb, hml, hown, hts⟩ (c_M_has l D cI cZ tL (wM cI cZ q σ ++ tl) y1 u15 u18 hu18 H.size) (va_cwS 2 hts (gS w_522 w_523 w_6 w_524) rfl rfl rfl (by decide +kernel) ⟨Nat.le_of_ble_eq_true rfl, Nat.le_of_ble_eq_true rfl⟩) (gpS hA hK (hD σ) hE hP hS) rfl rfl hl.1 rfl (lv_room (Nat.le_of_ble_eq_true rfl)) d_M_madeBy_18 ⟨Nat.le_of_ble_eq_true rfl, Nat.le_of_ble_eq_true rfl⟩) hA (hD σ) hS (fun H locs hP hS => ?_)
      refine lv_if_eq (tgt := 32) hx hb d_M_madeBy_21 (by decide) (fun c => ?_) (fun c => ?_)
      · have h := ifp c h
        refine lv_iload_n hx hb d_M_madeBy_32 rfl (lv_at hl 2 rfl) ?_
        refine lv_istore_n (lv' := [(2, .int y2), (0, .ref (q 0)), (1, .int y1), (3, .int y3)]) hx hb d_M_madeBy_33 rfl hl (by decide) rfl (fun ls hl => ?_)
        refine lv_iinc (v := (y3 + (1 : Int32))) (lv' := [(3, .int (y3 + (1 : Int32))), (2, .int y2), (0, .ref (q 0)), (1, .int y1)]) hx hb d_M_madeBy_34 hl (k := 3) rfl rfl (by decide) rfl (fun ls hl => ?_)
        refine lv_goto (tgt := 4) hx hb d_M_madeBy_37 (by decide) ?_
        exact ih y2 (y3 + (1 : Int32)) _ _ ls out h hP hS (lv_sub hl [2, 3, 1, 0] rfl) K
      have h := ifn c h
      refine lv_iload_n hx hb d_M_madeBy_24 rfl (lv_at hl 2 rfl) ?_
      refine lv_iconst (v := 1) hx hb d_M_madeBy_25 (by decide) ?_
      refine lv_iload_n hx hb d_M_madeBy_26 rfl (lv_at hl 3 rfl) ?_
      refine lv_ishl hx hb d_M_madeBy_27 ?_
      refine lv_ior hx hb d_M_madeBy_28 ?_
      refine lv_goto (tgt := 33) hx hb d_M_madeBy_29 (by decide) ?_
      refine lv_istore_n (lv' := [(2, .int (y2 ||| ((1 : Int32) <<< (y3 &&& 31)))), (0, .ref (q 0)), (1, .int y1), (3, .int y3)]) hx hb d_M_madeBy_33 rfl hl (by decide) rfl (fun ls hl => ?_)
      refine lv_iinc (v := (y3 + (1 : Int32))) (lv' := [(3, .int (y3 + (1 : Int32))), (2, .int (y2 ||| ((1 : Int32) <<< (y3 &&& 31)))), (0, .ref (q 0)), (1, .int y1)]) hx hb d_M_madeBy_34 hl (k := 3) rfl rfl (by decide) rfl (fun ls hl => ?_)
      refine lv_goto (tgt := 4) hx hb d_M_madeBy_37 (by decide) ?_
      exact ih (y2 ||| ((1 : Int32) <<< (y3 &&& 31))) (y3 + (1 : Int32)) _ _ ls out h hP hS (lv_sub hl [2, 3, 1, 0] rfl) K
  unfold f_M_madeBy at h
  refine lv_iconst (v := 0) hx hb d_M_madeBy_0 (by decide) ?_
  refine lv_istore_n (lv' := [(2, .int (0 : Int32)), (0, .ref (q 0)), (1, .int x1)]) hx hb d_M_madeBy_1 rfl hl (by decide) rfl (fun ls hl => ?_)
  refine lv_iconst (v := 0) hx hb d_M_madeBy_2 (by decide) ?_
  refine lv_istore_n (lv' := [(3, .int (0 : Int32)), (2, .int (0 : Int32)), (0, .ref (q 0)), (1, .int x1)]) hx hb d_M_madeBy_3 rfl hl (by decide) rfl (fun ls hl => ?_)
  obtain ⟨u4, hu4, h⟩ := bnd h
  refine L4 σ x1 F (0 : Int32) (0 : Int32) _ _ ls u4 hu4 hP hS (lv_sub hl [2, 3, 1, 0] rfl) (fun H locs ls hP hS hl => ?_)
  refine lv_iload_n hx hb d_M_madeBy_40 rfl (lv_at hl 2 rfl) ?_
  cases h
  exact gret_i hx hb hr hlk hP hS d_M_madeBy_41
/-! ===== EscapeOwnersModel.isPure(I)Z ===== -/
def f_M_isPure_B20 (F : Nat) (σ : St) (y2 : Int32) (y3 : Int32) (rec : Int32 → Int32 → Option (Int32 × Int32)) (y4 : Int32) (y5 : Int32) : Option (Int32 × Int32) := if (σ 0 1) ≤ y5 then (some (y4, y5)) else (if ¬ (y5 < 0 ∨ 64 ≤ y5.toNatClampNeg) then (if ((σ 2) y5.toNatClampNeg) = (5 : Int32) then (if y4 = 0 then (rec (0 : Int32) (y5 + (1 : Int32))) else (if ¬ (y5 < 0 ∨ 64 ≤ y5.toNatClampNeg) then (Option.bind (f_M_has y2 ((σ 1) y5.toNatClampNeg)) (fun u111 => if u111 = 0 then (rec (1 : Int32) (y5 + (1 : Int32))) else (if (1 : Int32) = 0 then (rec (1 : Int32) (y5 + (1 : Int32))) else (rec (0 : Int32) (y5 + (1 : Int32)))))) else none)) else (if ((σ 2) y5.toNatClampNeg) = (8 : Int32) then (if y4 = 0 then (rec (0 : Int32) (y5 + (1 : Int32))) else (if ¬ (y5 < 0 ∨ 64 ≤ y5.toNatClampNeg) then (Option.bind (f_M_has y2 ((σ 1) y5.toNatClampNeg)) (fun u111 => if u111 = 0 then (rec (1 : Int32) (y5 + (1 : Int32))) else (if (1 : Int32) = 0 then (rec (1 : Int32) (y5 + (1 : Int32))) else (rec (0 : Int32) (y5 + (1 : Int32)))))) else none)) else (if ((σ 2) y5.toNatClampNeg) = (9 : Int32) then (if y4 = 0 then (rec (0 : Int32) (y5 + (1 : Int32))) else (if ¬ (y5 < 0 ∨ 64 ≤ y5.toNatClampNeg) then (Option.bind (f_M_has y2 ((σ 1) y5.toNatClampNeg)) (fun u111 => if u111 = 0 then (rec (1 : Int32) (y5 + (1 : Int32))) else (if (1 : Int32) = 0 then (rec (1 : Int32) (y5 + (1 : Int32))) else (rec (0 : Int32) (y5 + (1 : Int32)))))) else none)) else (if ((σ 2) y5.toNatClampNeg) = (3 : Int32) then (if ¬ (y5 < 0 ∨ 64 ≤ y5.toNatClampNeg) then (if ¬ (((5 : Int32) * y5) < 0 ∨ 320 ≤ ((5 : Int32) * y5).toNatClampNeg) then (Option.bind (f_M_name σ ((σ 1) y5.toNatClampNeg) ((σ 4) ((5 : Int32) * y5).toNatClampNeg)) (fun u81 => if (u81 &&& (y3 ^^^ (-1 : Int32))) = 0 then (if y4 = 0 then (rec (0 : Int32) (y5 + (1 : Int32))) else (if ¬ (y5 < 0 ∨ 64 ≤ y5.toNatClampNeg) then (Option.bind (f_M_has y2 ((σ 1) y5.toNatClampNeg)) (fun u111 => if u111 = 0 then (rec (1 : Int32) (y5 + (1 : Int32))) else (if (0 : Int32) = 0 then (rec (1 : Int32) (y5 + (1 : Int32))) else (rec (0 : Int32) (y5 + (1 : Int32)))))) else none)) else (if y4 = 0 then (rec (0 : Int32) (y5 + (1 : Int32))) else (if ¬ (y5 < 0 ∨ 64 ≤ y5.toNatClampNeg) then (Option.bind (f_M_has y2 ((σ 1) y5.toNatClampNeg)) (fun u111 => if u111 = 0 then (rec (1 : Int32) (y5 + (1 : Int32))) else (if (1 : Int32) = 0 then (rec (1 : Int32) (y5 + (1 : Int32))) else (rec (0 : Int32) (y5 + (1 : Int32)))))) else none)))) else none) else none) else (if y4 = 0 then (rec (0 : Int32) (y5 + (1 : Int32))) else (if ¬ (y5 < 0 ∨ 64 ≤ y5.toNatClampNeg) then (Option.bind (f_M_has y2 ((σ 1) y5.toNatClampNeg)) (fun u111 => if u111 = 0 then (rec (1 : Int32) (y5 + (1 : Int32))) else (if (0 : Int32) = 0 then (rec (1 : Int32) (y5 + (1 : Int32))) else (rec (0 : Int32) (y5 + (1 : Int32)))))) else none)))))) else none)
def f_M_isPure_L20 (F : Nat) (σ : St) (y2 : Int32) (y3 : Int32) : Nat → Int32 → Int32 → Option (Int32 × Int32)
  | 0, _, _ => none
  | fu + 1, y4, y5 => f_M_isPure_B20 F σ y2 y3 (f_M_isPure_L20 F σ y2 y3 fu) y4 y5
def f_M_isPure (F : Nat) (σ : St) (x1 : Int32) : Option (Int32) := Option.bind (f_M_allCalled F σ ((1 : Int32) <<< (x1 &&& 31))) (fun u4 => Option.bind (f_M_madeBy F σ u4) (fun u10 => Option.bind (f_M_isPure_L20 F σ u4 u10 F (1 : Int32) (0 : Int32)) (fun u20 => if u20.1 = 0 ∨ u20.1 = 1 then some u20.1 else none)))
set_option maxHeartbeats 4000000 in
set_option maxRecDepth 100000 in
theorem c_M_isPure (l : Launch) (D : va_G) (cI cZ : ClassId) (tL : Nat) (q : Nat → Nat) (tl : va_W) (F : Nat) (σ : St) (x1 : Int32) (out0 : Int32) (h : f_M_isPure F σ x1 = some out0) : gCi l y_M_isPure (.code y_M_isPure b_M_isPure 8 (some .boolean) :: TB) { frames := 2, cells := 0, slots := 0, locals := 47 } D [(cI, .int), (cZ, .boolean)] tL [.ref (q 0), .int x1] (wM cI cZ q σ ++ tl) out0 (wM cI cZ q σ ++ tl) := by
  refine gCi_of (cc := b_M_isPure) (maxL := 8) (ty := .boolean) (by decide) rfl (Nat.le_of_ble_eq_true rfl) ?_
  intro p e s m below meth c A ls hf hr hlk hA hK hD0 hE hP hl
  obtain ⟨hx, hb, hml, hown, hts⟩ := id hf
  have hts : ∀ w ∈ TB, w.before _ s = true := fun w h => hts w (List.mem_cons_of_mem _ h)
  have hown : s.vm.findClass R_M = some m.cls := hown
  have hl : lv_has ls 8 [(0, .ref (q 0)), (1, .int x1)] := hl
  have hS : va_S A s.heap s.heap [] := va_S.rf
  have hD : ∀ σ' : St, va_D A (wM cI cZ q σ' ++ tl) := fun σ' => va_Dsame hD0 rfl
  have L20 : ∀ (σ : St) (y2 : Int32) (y3 : Int32) (fu : Nat) (y4 : Int32) (y5 : Int32) (H : Heap) (locs : List Loc) (ls : Array Slot) (out : Int32 × Int32), f_M_isPure_L20 F σ y2 y3 fu y4 y5 = some out → va_P D vwCl (wM cI cZ q σ ++ tl) H → va_S A s.heap H locs → lv_has ls 8 [(0, .ref (q 0)), (2, .int y2), (3, .int y3), (4, .int y4), (5, .int y5)] → (∀ (H : Heap) (locs : List Loc) (ls : Array Slot), va_P D vwCl (wM cI cZ q σ ++ tl) H → va_S A s.heap H locs → lv_has ls 8 [(0, .ref (q 0)), (2, .int y2), (3, .int y3), (4, .int out.1), (5, .int out.2)] → W p l e { frames := 2, cells := 0, slots := 0, locals := 47 } s m ([.ref (q 0), .int x1] : List Value).toArray below meth c H locs 0 0 (gQi below D out0 (wM cI cZ q σ ++ tl) A (([.ref (q 0), .int x1] : List Value).toArray) s) (F0 m 135 ls [])) → W p l e { frames := 2, cells := 0, slots := 0, locals := 47 } s m ([.ref (q 0), .int x1] : List Value).toArray below meth c H locs 0 0 (gQi below D out0 (wM cI cZ q σ ++ tl) A (([.ref (q 0), .int x1] : List Value).toArray) s) (F0 m 20 ls []) := by
    intro σ y2 y3 fu
    induction fu with
    | zero => intro y4 y5 H locs ls out h; exact absurd (show (none : Option (Int32 × Int32)) = some out from h) (fun z => by cases z)
    | succ fu ih =>
      intro y4 y5 H locs ls out h hP hS hl K
      have h : f_M_isPure_B20 F σ y2 y3 (f_M_isPure_L20 F σ y2 y3 fu) y4 y5 = some out := h
      unfold f_M_isPure_B20 at h
      refine lv_iload hx hb d_M_isPure_20 (lv_at hl 4 rfl) ?_
      refine lv_aload_n hx hb d_M_isPure_22 rfl (lv_at hl 0 rfl) ?_
      refine va_get (D := D) (ci := 5) (v := .int (σ 0 1)) (C := R_M) (T := T_M) (N := 17) hx hb hts l_M hown hK hP 0 rfl rfl 1 (by decide) (hts _ w_440) (fun _ h9 => h9) rfl d_M_isPure_23 ?_
      refine lv_icmp_ge (tgt := 135) hx hb d_M_isPure_26 (by decide) (fun c => ?_) (fun c => ?_)
      · have h := ifp c h
        cases h
        exact K _ _ ls hP hS (lv_sub hl [0, 1, 2, 3, 4] rfl)
      have h := ifn c h
      refine lv_aload_n hx hb d_M_isPure_29 rfl (lv_at hl 0 rfl) ?_
      refine va_get (D := D) (ci := 5) (v := .ref (q 2)) (C := R_M) (T := T_M) (N := 17) hx hb hts l_M hown hK hP 0 rfl rfl 4 (by decide) (hts _ w_443) (fun _ h9 => h9) rfl d_M_isPure_30 ?_
      refine lv_iload hx hb d_M_isPure_33 (lv_at hl 4 rfl) ?_
      obtain ⟨c, h⟩ := ifs h
      refine va_iald hx hb hK hP 2 0 rfl rfl c d_M_isPure_35 ?_
      refine lv_istore (lv' := [(6, .int ((σ 2) y5.toNatClampNeg)), (0, .ref (q 0)), (2, .int y2), (3, .int y3), (4, .int y4), (5, .int y5)]) hx hb d_M_isPure_36 hl (by decide) rfl (fun ls hl => ?_)
      refine lv_iload hx hb d_M_isPure_38 (lv_at hl 0 rfl) ?_
      refine lv_iconst (v := 5) hx hb d_M_isPure_40 (by decide) ?_
      refine lv_icmp_eq (tgt := 91) hx hb d_M_isPure_41 (by decide) (fun c => ?_) (fun c => ?_)
      · have h := ifp c h
        refine lv_iconst (v := 1) hx hb d_M_isPure_91 (by decide) ?_
        refine lv_goto (tgt := 96) hx hb d_M_isPure_92 (by decide) ?_
        refine lv_istore (lv' := [(7, .int (1 : Int32)), (6, .int ((σ 2) y5.toNatClampNeg)), (0, .ref (q 0)), (2, .int y2), (3, .int y3), (4, .int y4), (5, .int y5)]) hx hb d_M_isPure_96 hl (by decide) rfl (fun ls hl => ?_)
        refine lv_iload hx hb d_M_isPure_98 (lv_at hl 5 rfl) ?_
        refine lv_if_eq (tgt := 126) hx hb d_M_isPure_100 (by decide) (fun c => ?_) (fun c => ?_)
        · have h := ifp c h
          refine lv_iconst (v := 0) hx hb d_M_isPure_126 (by decide) ?_
          refine lv_istore (lv' := [(4, .int (0 : Int32)), (7, .int (1 : Int32)), (6, .int ((σ 2) y5.toNatClampNeg)), (0, .ref (q 0)), (2, .int y2), (3, .int y3), (5, .int y5)]) hx hb d_M_isPure_127 hl (by decide) rfl (fun ls hl => ?_)
          refine lv_iinc (v := (y5 + (1 : Int32))) (lv' := [(5, .int (y5 + (1 : Int32))), (4, .int (0 : Int32)), (7, .int (1 : Int32)), (6, .int ((σ 2) y5.toNatClampNeg)), (0, .ref (q 0)), (2, .int y2), (3, .int y3)]) hx hb d_M_isPure_129 hl (k := 6) rfl rfl (by decide) rfl (fun ls hl => ?_)
          refine lv_goto (tgt := 20) hx hb d_M_isPure_132 (by decide) ?_
          exact ih (0 : Int32) (y5 + (1 : Int32)) _ _ ls out h hP hS (lv_sub hl [4, 5, 6, 1, 0] rfl) K
        have h := ifn c h
        refine lv_iload_n hx hb d_M_isPure_103 rfl (lv_at hl 3 rfl) ?_
        refine lv_aload_n hx hb d_M_isPure_104 rfl (lv_at hl 2 rfl) ?_
        refine va_get (D := D) (ci := 5) (v := .ref (q 1)) (C := R_M) (T := T_M) (N := 17) hx hb hts l_M hown hK hP 0 rfl rfl 3 (by decide) (hts _ w_442) (fun _ h9 => h9) rfl d_M_isPure_105 ?_
        refine lv_iload hx hb d_M_isPure_108 (lv_at hl 6 rfl) ?_
        obtain ⟨c, h⟩ := ifs h
        refine va_iald hx hb hK hP 1 0 rfl rfl c d_M_isPure_110 ?_
        obtain ⟨u111, hu111, h⟩ := bnd h
        refine gcall_i (va_runS (As := [.int y2, .int ((σ 1) y5.toNatClampNeg)]) (rest := []) ⟨hx, hb, hml, hown, hts⟩ (c_M_has l D cI cZ tL (wM cI cZ q σ ++ tl) y2 ((σ 1) y5.toNatClampNeg) u111 hu111 H.size) (va_cwS 2 hts (gS w_522 w_523 w_6 w_524) rfl rfl rfl (by decide +kernel) ⟨Nat.le_of_ble_eq_true rfl, Nat.le_of_ble_eq_true rfl⟩) (gpS hA hK (hD σ) hE hP hS) rfl rfl hl.1 rfl (lv_room (Nat.le_of_ble_eq_true rfl)) d_M_isPure_111 ⟨Nat.le_of_ble_eq_true rfl, Nat.le_of_ble_eq_true rfl⟩) hA (hD σ) hS (fun H locs hP hS => ?_)
        refine lv_if_eq (tgt := 122) hx hb d_M_isPure_114 (by decide) (fun c => ?_) (fun c => ?_)
        · have h := ifp c h
          refine lv_iconst (v := 1) hx hb d_M_isPure_122 (by decide) ?_
          refine lv_goto (tgt := 127) hx hb d_M_isPure_123 (by decide) ?_
          refine lv_istore (lv' := [(4, .int (1 : Int32)), (7, .int (1 : Int32)), (6, .int ((σ 2) y5.toNatClampNeg)), (0, .ref (q 0)), (2, .int y2), (3, .int y3), (5, .int y5)]) hx hb d_M_isPure_127 hl (by decide) rfl (fun ls hl => ?_)
          refine lv_iinc (v := (y5 + (1 : Int32))) (lv' := [(5, .int (y5 + (1 : Int32))), (4, .int (1 : Int32)), (7, .int (1 : Int32)), (6, .int ((σ 2) y5.toNatClampNeg)), (0, .ref (q 0)), (2, .int y2), (3, .int y3)]) hx hb d_M_isPure_129 hl (k := 6) rfl rfl (by decide) rfl (fun ls hl => ?_)
          refine lv_goto (tgt := 20) hx hb d_M_isPure_132 (by decide) ?_
          exact ih (1 : Int32) (y5 + (1 : Int32)) _ _ ls out h hP hS (lv_sub hl [4, 5, 6, 1, 0] rfl) K
        have h := ifn c h
        refine lv_iload hx hb d_M_isPure_117 (lv_at hl 0 rfl) ?_
        refine lv_if_ne (tgt := 126) hx hb d_M_isPure_119 (by decide) (fun c => ?_) (fun c => ?_)
        · have h := ifn c h
          refine lv_iconst (v := 0) hx hb d_M_isPure_126 (by decide) ?_
          refine lv_istore (lv' := [(4, .int (0 : Int32)), (7, .int (1 : Int32)), (6, .int ((σ 2) y5.toNatClampNeg)), (0, .ref (q 0)), (2, .int y2), (3, .int y3), (5, .int y5)]) hx hb d_M_isPure_127 hl (by decide) rfl (fun ls hl => ?_)
          refine lv_iinc (v := (y5 + (1 : Int32))) (lv' := [(5, .int (y5 + (1 : Int32))), (4, .int (0 : Int32)), (7, .int (1 : Int32)), (6, .int ((σ 2) y5.toNatClampNeg)), (0, .ref (q 0)), (2, .int y2), (3, .int y3)]) hx hb d_M_isPure_129 hl (k := 6) rfl rfl (by decide) rfl (fun ls hl => ?_)
          refine lv_goto (tgt := 20) hx hb d_M_isPure_132 (by decide) ?_
          exact ih (0 : Int32) (y5 + (1 : Int32)) _ _ ls out h hP hS (lv_sub hl [4, 5, 6, 1, 0] rfl) K
        have h := ifp c h
        refine lv_iconst (v := 1) hx hb d_M_isPure_122 (by decide) ?_
        refine lv_goto (tgt := 127) hx hb d_M_isPure_123 (by decide) ?_
        refine lv_istore (lv' := [(4, .int (1 : Int32)), (7, .int (1 : Int32)), (6, .int ((σ 2) y5.toNatClampNeg)), (0, .ref (q 0)), (2, .int y2), (3, .int y3), (5, .int y5)]) hx hb d_M_isPure_127 hl (by decide) rfl (fun ls hl => ?_)
        refine lv_iinc (v := (y5 + (1 : Int32))) (lv' := [(5, .int (y5 + (1 : Int32))), (4, .int (1 : Int32)), (7, .int (1 : Int32)), (6, .int ((σ 2) y5.toNatClampNeg)), (0, .ref (q 0)), (2, .int y2), (3, .int y3)]) hx hb d_M_isPure_129 hl (k := 6) rfl rfl (by decide) rfl (fun ls hl => ?_)
        refine lv_goto (tgt := 20) hx hb d_M_isPure_132 (by decide) ?_
        exact ih (1 : Int32) (y5 + (1 : Int32)) _ _ ls out h hP hS (lv_sub hl [4, 5, 6, 1, 0] rfl) K
      have h := ifn c h
      refine lv_iload hx hb d_M_isPure_44 (lv_at hl 0 rfl) ?_
      refine lv_bipush (v := 8) hx hb d_M_isPure_46 (by decide) ?_
      refine lv_icmp_eq (tgt := 91) hx hb d_M_isPure_48 (by decide) (fun c => ?_) (fun c => ?_)
      · have h := ifp c h
        refine lv_iconst (v := 1) hx hb d_M_isPure_91 (by decide) ?_
        refine lv_goto (tgt := 96) hx hb d_M_isPure_92 (by decide) ?_
        refine lv_istore (lv' := [(7, .int (1 : Int32)), (6, .int ((σ 2) y5.toNatClampNeg)), (0, .ref (q 0)), (2, .int y2), (3, .int y3), (4, .int y4), (5, .int y5)]) hx hb d_M_isPure_96 hl (by decide) rfl (fun ls hl => ?_)
        refine lv_iload hx hb d_M_isPure_98 (lv_at hl 5 rfl) ?_
        refine lv_if_eq (tgt := 126) hx hb d_M_isPure_100 (by decide) (fun c => ?_) (fun c => ?_)
        · have h := ifp c h
          refine lv_iconst (v := 0) hx hb d_M_isPure_126 (by decide) ?_
          refine lv_istore (lv' := [(4, .int (0 : Int32)), (7, .int (1 : Int32)), (6, .int ((σ 2) y5.toNatClampNeg)), (0, .ref (q 0)), (2, .int y2), (3, .int y3), (5, .int y5)]) hx hb d_M_isPure_127 hl (by decide) rfl (fun ls hl => ?_)
          refine lv_iinc (v := (y5 + (1 : Int32))) (lv' := [(5, .int (y5 + (1 : Int32))), (4, .int (0 : Int32)), (7, .int (1 : Int32)), (6, .int ((σ 2) y5.toNatClampNeg)), (0, .ref (q 0)), (2, .int y2), (3, .int y3)]) hx hb d_M_isPure_129 hl (k := 6) rfl rfl (by decide) rfl (fun ls hl => ?_)
          refine lv_goto (tgt := 20) hx hb d_M_isPure_132 (by decide) ?_
          exact ih (0 : Int32) (y5 + (1 : Int32)) _ _ ls out h hP hS (lv_sub hl [4, 5, 6, 1, 0] rfl) K
        have h := ifn c h
        refine lv_iload_n hx hb d_M_isPure_103 rfl (lv_at hl 3 rfl) ?_
        refine lv_aload_n hx hb d_M_isPure_104 rfl (lv_at hl 2 rfl) ?_
        refine va_get (D := D) (ci := 5) (v := .ref (q 1)) (C := R_M) (T := T_M) (N := 17) hx hb hts l_M hown hK hP 0 rfl rfl 3 (by decide) (hts _ w_442) (fun _ h9 => h9) rfl d_M_isPure_105 ?_
        refine lv_iload hx hb d_M_isPure_108 (lv_at hl 6 rfl) ?_
        obtain ⟨c, h⟩ := ifs h
        refine va_iald hx hb hK hP 1 0 rfl rfl c d_M_isPure_110 ?_
        obtain ⟨u111, hu111, h⟩ := bnd h
        refine gcall_i (va_runS (As := [.int y2, .int ((σ 1) y5.toNatClampNeg)]) (rest := []) ⟨hx, hb, hml, hown, hts⟩ (c_M_has l D cI cZ tL (wM cI cZ q σ ++ tl) y2 ((σ 1) y5.toNatClampNeg) u111 hu111 H.size) (va_cwS 2 hts (gS w_522 w_523 w_6 w_524) rfl rfl rfl (by decide +kernel) ⟨Nat.le_of_ble_eq_true rfl, Nat.le_of_ble_eq_true rfl⟩) (gpS hA hK (hD σ) hE hP hS) rfl rfl hl.1 rfl (lv_room (Nat.le_of_ble_eq_true rfl)) d_M_isPure_111 ⟨Nat.le_of_ble_eq_true rfl, Nat.le_of_ble_eq_true rfl⟩) hA (hD σ) hS (fun H locs hP hS => ?_)
        refine lv_if_eq (tgt := 122) hx hb d_M_isPure_114 (by decide) (fun c => ?_) (fun c => ?_)
        · have h := ifp c h
          refine lv_iconst (v := 1) hx hb d_M_isPure_122 (by decide) ?_
          refine lv_goto (tgt := 127) hx hb d_M_isPure_123 (by decide) ?_
          refine lv_istore (lv' := [(4, .int (1 : Int32)), (7, .int (1 : Int32)), (6, .int ((σ 2) y5.toNatClampNeg)), (0, .ref (q 0)), (2, .int y2), (3, .int y3), (5, .int y5)]) hx hb d_M_isPure_127 hl (by decide) rfl (fun ls hl => ?_)
          refine lv_iinc (v := (y5 + (1 : Int32))) (lv' := [(5, .int (y5 + (1 : Int32))), (4, .int (1 : Int32)), (7, .int (1 : Int32)), (6, .int ((σ 2) y5.toNatClampNeg)), (0, .ref (q 0)), (2, .int y2), (3, .int y3)]) hx hb d_M_isPure_129 hl (k := 6) rfl rfl (by decide) rfl (fun ls hl => ?_)
          refine lv_goto (tgt := 20) hx hb d_M_isPure_132 (by decide) ?_
          exact ih (1 : Int32) (y5 + (1 : Int32)) _ _ ls out h hP hS (lv_sub hl [4, 5, 6, 1, 0] rfl) K
        have h := ifn c h
        refine lv_iload hx hb d_M_isPure_117 (lv_at hl 0 rfl) ?_
        refine lv_if_ne (tgt := 126) hx hb d_M_isPure_119 (by decide) (fun c => ?_) (fun c => ?_)
        · have h := ifn c h
          refine lv_iconst (v := 0) hx hb d_M_isPure_126 (by decide) ?_
          refine lv_istore (lv' := [(4, .int (0 : Int32)), (7, .int (1 : Int32)), (6, .int ((σ 2) y5.toNatClampNeg)), (0, .ref (q 0)), (2, .int y2), (3, .int y3), (5, .int y5)]) hx hb d_M_isPure_127 hl (by decide) rfl (fun ls hl => ?_)
          refine lv_iinc (v := (y5 + (1 : Int32))) (lv' := [(5, .int (y5 + (1 : Int32))), (4, .int (0 : Int32)), (7, .int (1 : Int32)), (6, .int ((σ 2) y5.toNatClampNeg)), (0, .ref (q 0)), (2, .int y2), (3, .int y3)]) hx hb d_M_isPure_129 hl (k := 6) rfl rfl (by decide) rfl (fun ls hl => ?_)
          refine lv_goto (tgt := 20) hx hb d_M_isPure_132 (by decide) ?_
          exact ih (0 : Int32) (y5 + (1 : Int32)) _ _ ls out h hP hS (lv_sub hl [4, 5, 6, 1, 0] rfl) K
        have h := ifp c h
        refine lv_iconst (v := 1) hx hb d_M_isPure_122 (by decide) ?_
        refine lv_goto (tgt := 127) hx hb d_M_isPure_123 (by decide) ?_
        refine lv_istore (lv' := [(4, .int (1 : Int32)), (7, .int (1 : Int32)), (6, .int ((σ 2) y5.toNatClampNeg)), (0, .ref (q 0)), (2, .int y2), (3, .int y3), (5, .int y5)]) hx hb d_M_isPure_127 hl (by decide) rfl (fun ls hl => ?_)
        refine lv_iinc (v := (y5 + (1 : Int32))) (lv' := [(5, .int (y5 + (1 : Int32))), (4, .int (1 : Int32)), (7, .int (1 : Int32)), (6, .int ((σ 2) y5.toNatClampNeg)), (0, .ref (q 0)), (2, .int y2), (3, .int y3)]) hx hb d_M_isPure_129 hl (k := 6) rfl rfl (by decide) rfl (fun ls hl => ?_)
        refine lv_goto (tgt := 20) hx hb d_M_isPure_132 (by decide) ?_
        exact ih (1 : Int32) (y5 + (1 : Int32)) _ _ ls out h hP hS (lv_sub hl [4, 5, 6, 1, 0] rfl) K
      have h := ifn c h
      refine lv_iload hx hb d_M_isPure_51 (lv_at hl 0 rfl) ?_
      refine lv_bipush (v := 9) hx hb d_M_isPure_53 (by decide) ?_
      refine lv_icmp_eq (tgt := 91) hx hb d_M_isPure_55 (by decide) (fun c => ?_) (fun c => ?_)
      · have h := ifp c h
        refine lv_iconst (v := 1) hx hb d_M_isPure_91 (by decide) ?_
        refine lv_goto (tgt := 96) hx hb d_M_isPure_92 (by decide) ?_
        refine lv_istore (lv' := [(7, .int (1 : Int32)), (6, .int ((σ 2) y5.toNatClampNeg)), (0, .ref (q 0)), (2, .int y2), (3, .int y3), (4, .int y4), (5, .int y5)]) hx hb d_M_isPure_96 hl (by decide) rfl (fun ls hl => ?_)
        refine lv_iload hx hb d_M_isPure_98 (lv_at hl 5 rfl) ?_
        refine lv_if_eq (tgt := 126) hx hb d_M_isPure_100 (by decide) (fun c => ?_) (fun c => ?_)
        · have h := ifp c h
          refine lv_iconst (v := 0) hx hb d_M_isPure_126 (by decide) ?_
          refine lv_istore (lv' := [(4, .int (0 : Int32)), (7, .int (1 : Int32)), (6, .int ((σ 2) y5.toNatClampNeg)), (0, .ref (q 0)), (2, .int y2), (3, .int y3), (5, .int y5)]) hx hb d_M_isPure_127 hl (by decide) rfl (fun ls hl => ?_)
          refine lv_iinc (v := (y5 + (1 : Int32))) (lv' := [(5, .int (y5 + (1 : Int32))), (4, .int (0 : Int32)), (7, .int (1 : Int32)), (6, .int ((σ 2) y5.toNatClampNeg)), (0, .ref (q 0)), (2, .int y2), (3, .int y3)]) hx hb d_M_isPure_129 hl (k := 6) rfl rfl (by decide) rfl (fun ls hl => ?_)
          refine lv_goto (tgt := 20) hx hb d_M_isPure_132 (by decide) ?_
          exact ih (0 : Int32) (y5 + (1 : Int32)) _ _ ls out h hP hS (lv_sub hl [4, 5, 6, 1, 0] rfl) K
        have h := ifn c h
        refine lv_iload_n hx hb d_M_isPure_103 rfl (lv_at hl 3 rfl) ?_
        refine lv_aload_n hx hb d_M_isPure_104 rfl (lv_at hl 2 rfl) ?_
        refine va_get (D := D) (ci := 5) (v := .ref (q 1)) (C := R_M) (T := T_M) (N := 17) hx hb hts l_M hown hK hP 0 rfl rfl 3 (by decide) (hts _ w_442) (fun _ h9 => h9) rfl d_M_isPure_105 ?_
        refine lv_iload hx hb d_M_isPure_108 (lv_at hl 6 rfl) ?_
        obtain ⟨c, h⟩ := ifs h
        refine va_iald hx hb hK hP 1 0 rfl rfl c d_M_isPure_110 ?_
        obtain ⟨u111, hu111, h⟩ := bnd h
        refine gcall_i (va_runS (As := [.int y2, .int ((σ 1) y5.toNatClampNeg)]) (rest := []) ⟨hx, hb, hml, hown, hts⟩ (c_M_has l D cI cZ tL (wM cI cZ q σ ++ tl) y2 ((σ 1) y5.toNatClampNeg) u111 hu111 H.size) (va_cwS 2 hts (gS w_522 w_523 w_6 w_524) rfl rfl rfl (by decide +kernel) ⟨Nat.le_of_ble_eq_true rfl, Nat.le_of_ble_eq_true rfl⟩) (gpS hA hK (hD σ) hE hP hS) rfl rfl hl.1 rfl (lv_room (Nat.le_of_ble_eq_true rfl)) d_M_isPure_111 ⟨Nat.le_of_ble_eq_true rfl, Nat.le_of_ble_eq_true rfl⟩) hA (hD σ) hS (fun H locs hP hS => ?_)
        refine lv_if_eq (tgt := 122) hx hb d_M_isPure_114 (by decide) (fun c => ?_) (fun c => ?_)
        · have h := ifp c h
          refine lv_iconst (v := 1) hx hb d_M_isPure_122 (by decide) ?_
          refine lv_goto (tgt := 127) hx hb d_M_isPure_123 (by decide) ?_
          refine lv_istore (lv' := [(4, .int (1 : Int32)), (7, .int (1 : Int32)), (6, .int ((σ 2) y5.toNatClampNeg)), (0, .ref (q 0)), (2, .int y2), (3, .int y3), (5, .int y5)]) hx hb d_M_isPure_127 hl (by decide) rfl (fun ls hl => ?_)
          refine lv_iinc (v := (y5 + (1 : Int32))) (lv' := [(5, .int (y5 + (1 : Int32))), (4, .int (1 : Int32)), (7, .int (1 : Int32)), (6, .int ((σ 2) y5.toNatClampNeg)), (0, .ref (q 0)), (2, .int y2), (3, .int y3)]) hx hb d_M_isPure_129 hl (k := 6) rfl rfl (by decide) rfl (fun ls hl => ?_)
          refine lv_goto (tgt := 20) hx hb d_M_isPure_132 (by decide) ?_
          exact ih (1 : Int32) (y5 + (1 : Int32)) _ _ ls out h hP hS (lv_sub hl [4, 5, 6, 1, 0] rfl) K
        have h := ifn c h
        refine lv_iload hx hb d_M_isPure_117 (lv_at hl 0 rfl) ?_
        refine lv_if_ne (tgt := 126) hx hb d_M_isPure_119 (by decide) (fun c => ?_) (fun c => ?_)
        · have h := ifn c h
          refine lv_iconst (v := 0) hx hb d_M_isPure_126 (by decide) ?_
          refine lv_istore (lv' := [(4, .int (0 : Int32)), (7, .int (1 : Int32)), (6, .int ((σ 2) y5.toNatClampNeg)), (0, .ref (q 0)), (2, .int y2), (3, .int y3), (5, .int y5)]) hx hb d_M_isPure_127 hl (by decide) rfl (fun ls hl => ?_)
          refine lv_iinc (v := (y5 + (1 : Int32))) (lv' := [(5, .int (y5 + (1 : Int32))), (4, .int (0 : Int32)), (7, .int (1 : Int32)), (6, .int ((σ 2) y5.toNatClampNeg)), (0, .ref (q 0)), (2, .int y2), (3, .int y3)]) hx hb d_M_isPure_129 hl (k := 6) rfl rfl (by decide) rfl (fun ls hl => ?_)
          refine lv_goto (tgt := 20) hx hb d_M_isPure_132 (by decide) ?_
          exact ih (0 : Int32) (y5 + (1 : Int32)) _ _ ls out h hP hS (lv_sub hl [4, 5, 6, 1, 0] rfl) K
        have h := ifp c h
        refine lv_iconst (v := 1) hx hb d_M_isPure_122 (by decide) ?_
        refine lv_goto (tgt := 127) hx hb d_M_isPure_123 (by decide) ?_
        refine lv_istore (lv' := [(4, .int (1 : Int32)), (7, .int (1 : Int32)), (6, .int ((σ 2) y5.toNatClampNeg)), (0, .ref (q 0)), (2, .int y2), (3, .int y3), (5, .int y5)]) hx hb d_M_isPure_127 hl (by decide) rfl (fun ls hl => ?_)
        refine lv_iinc (v := (y5 + (1 : Int32))) (lv' := [(5, .int (y5 + (1 : Int32))), (4, .int (1 : Int32)), (7, .int (1 : Int32)), (6, .int ((σ 2) y5.toNatClampNeg)), (0, .ref (q 0)), (2, .int y2), (3, .int y3)]) hx hb d_M_isPure_129 hl (k := 6) rfl rfl (by decide) rfl (fun ls hl => ?_)
        refine lv_goto (tgt := 20) hx hb d_M_isPure_132 (by decide) ?_
        exact ih (1 : Int32) (y5 + (1 : Int32)) _ _ ls out h hP hS (lv_sub hl [4, 5, 6, 1, 0] rfl) K
      have h := ifn c h
      refine lv_iload hx hb d_M_isPure_58 (lv_at hl 0 rfl) ?_
      refine lv_iconst (v := 3) hx hb d_M_isPure_60 (by decide) ?_
      refine lv_icmp_ne (tgt := 95) hx hb d_M_isPure_61 (by decide) (fun c => ?_) (fun c => ?_)
      · have h := ifn c h
        refine lv_iconst (v := 0) hx hb d_M_isPure_95 (by decide) ?_
        refine lv_istore (lv' := [(7, .int (0 : Int32)), (6, .int ((σ 2) y5.toNatClampNeg)), (0, .ref (q 0)), (2, .int y2), (3, .int y3), (4, .int y4), (5, .int y5)]) hx hb d_M_isPure_96 hl (by decide) rfl (fun ls hl => ?_)
        refine lv_iload hx hb d_M_isPure_98 (lv_at hl 5 rfl) ?_
        refine lv_if_eq (tgt := 126) hx hb d_M_isPure_100 (by decide) (fun c => ?_) (fun c => ?_)
        · have h := ifp c h
          refine lv_iconst (v := 0) hx hb d_M_isPure_126 (by decide) ?_
          refine lv_istore (lv' := [(4, .int (0 : Int32)), (7, .int (0 : Int32)), (6, .int ((σ 2) y5.toNatClampNeg)), (0, .ref (q 0)), (2, .int y2), (3, .int y3), (5, .int y5)]) hx hb d_M_isPure_127 hl (by decide) rfl (fun ls hl => ?_)
          refine lv_iinc (v := (y5 + (1 : Int32))) (lv' := [(5, .int (y5 + (1 : Int32))), (4, .int (0 : Int32)), (7, .int (0 : Int32)), (6, .int ((σ 2) y5.toNatClampNeg)), (0, .ref (q 0)), (2, .int y2), (3, .int y3)]) hx hb d_M_isPure_129 hl (k := 6) rfl rfl (by decide) rfl (fun ls hl => ?_)
          refine lv_goto (tgt := 20) hx hb d_M_isPure_132 (by decide) ?_
          exact ih (0 : Int32) (y5 + (1 : Int32)) _ _ ls out h hP hS (lv_sub hl [4, 5, 6, 1, 0] rfl) K
        have h := ifn c h
        refine lv_iload_n hx hb d_M_isPure_103 rfl (lv_at hl 3 rfl) ?_
        refine lv_aload_n hx hb d_M_isPure_104 rfl (lv_at hl 2 rfl) ?_
        refine va_get (D := D) (ci := 5) (v := .ref (q 1)) (C := R_M) (T := T_M) (N := 17) hx hb hts l_M hown hK hP 0 rfl rfl 3 (by decide) (hts _ w_442) (fun _ h9 => h9) rfl d_M_isPure_105 ?_
        refine lv_iload hx hb d_M_isPure_108 (lv_at hl 6 rfl) ?_
        obtain ⟨c, h⟩ := ifs h
        refine va_iald hx hb hK hP 1 0 rfl rfl c d_M_isPure_110 ?_
        obtain ⟨u111, hu111, h⟩ := bnd h
        refine gcall_i (va_runS (As := [.int y2, .int ((σ 1) y5.toNatClampNeg)]) (rest := []) ⟨hx, hb, hml, hown, hts⟩ (c_M_has l D cI cZ tL (wM cI cZ q σ ++ tl) y2 ((σ 1) y5.toNatClampNeg) u111 hu111 H.size) (va_cwS 2 hts (gS w_522 w_523 w_6 w_524) rfl rfl rfl (by decide +kernel) ⟨Nat.le_of_ble_eq_true rfl, Nat.le_of_ble_eq_true rfl⟩) (gpS hA hK (hD σ) hE hP hS) rfl rfl hl.1 rfl (lv_room (Nat.le_of_ble_eq_true rfl)) d_M_isPure_111 ⟨Nat.le_of_ble_eq_true rfl, Nat.le_of_ble_eq_true rfl⟩) hA (hD σ) hS (fun H locs hP hS => ?_)
        refine lv_if_eq (tgt := 122) hx hb d_M_isPure_114 (by decide) (fun c => ?_) (fun c => ?_)
        · have h := ifp c h
          refine lv_iconst (v := 1) hx hb d_M_isPure_122 (by decide) ?_
          refine lv_goto (tgt := 127) hx hb d_M_isPure_123 (by decide) ?_
          refine lv_istore (lv' := [(4, .int (1 : Int32)), (7, .int (0 : Int32)), (6, .int ((σ 2) y5.toNatClampNeg)), (0, .ref (q 0)), (2, .int y2), (3, .int y3), (5, .int y5)]) hx hb d_M_isPure_127 hl (by decide) rfl (fun ls hl => ?_)
          refine lv_iinc (v := (y5 + (1 : Int32))) (lv' := [(5, .int (y5 + (1 : Int32))), (4, .int (1 : Int32)), (7, .int (0 : Int32)), (6, .int ((σ 2) y5.toNatClampNeg)), (0, .ref (q 0)), (2, .int y2), (3, .int y3)]) hx hb d_M_isPure_129 hl (k := 6) rfl rfl (by decide) rfl (fun ls hl => ?_)
          refine lv_goto (tgt := 20) hx hb d_M_isPure_132 (by decide) ?_
          exact ih (1 : Int32) (y5 + (1 : Int32)) _ _ ls out h hP hS (lv_sub hl [4, 5, 6, 1, 0] rfl) K
        have h := ifn c h
        refine lv_iload hx hb d_M_isPure_117 (lv_at hl 0 rfl) ?_
        refine lv_if_ne (tgt := 126) hx hb d_M_isPure_119 (by decide) (fun c => ?_) (fun c => ?_)
        · have h := ifn c h
          refine lv_iconst (v := 0) hx hb d_M_isPure_126 (by decide) ?_
          refine lv_istore (lv' := [(4, .int (0 : Int32)), (7, .int (0 : Int32)), (6, .int ((σ 2) y5.toNatClampNeg)), (0, .ref (q 0)), (2, .int y2), (3, .int y3), (5, .int y5)]) hx hb d_M_isPure_127 hl (by decide) rfl (fun ls hl => ?_)
          refine lv_iinc (v := (y5 + (1 : Int32))) (lv' := [(5, .int (y5 + (1 : Int32))), (4, .int (0 : Int32)), (7, .int (0 : Int32)), (6, .int ((σ 2) y5.toNatClampNeg)), (0, .ref (q 0)), (2, .int y2), (3, .int y3)]) hx hb d_M_isPure_129 hl (k := 6) rfl rfl (by decide) rfl (fun ls hl => ?_)
          refine lv_goto (tgt := 20) hx hb d_M_isPure_132 (by decide) ?_
          exact ih (0 : Int32) (y5 + (1 : Int32)) _ _ ls out h hP hS (lv_sub hl [4, 5, 6, 1, 0] rfl) K
        have h := ifp c h
        refine lv_iconst (v := 1) hx hb d_M_isPure_122 (by decide) ?_
        refine lv_goto (tgt := 127) hx hb d_M_isPure_123 (by decide) ?_
        refine lv_istore (lv' := [(4, .int (1 : Int32)), (7, .int (0 : Int32)), (6, .int ((σ 2) y5.toNatClampNeg)), (0, .ref (q 0)), (2, .int y2), (3, .int y3), (5, .int y5)]) hx hb d_M_isPure_127 hl (by decide) rfl (fun ls hl => ?_)
        refine lv_iinc (v := (y5 + (1 : Int32))) (lv' := [(5, .int (y5 + (1 : Int32))), (4, .int (1 : Int32)), (7, .int (0 : Int32)), (6, .int ((σ 2) y5.toNatClampNeg)), (0, .ref (q 0)), (2, .int y2), (3, .int y3)]) hx hb d_M_isPure_129 hl (k := 6) rfl rfl (by decide) rfl (fun ls hl => ?_)
        refine lv_goto (tgt := 20) hx hb d_M_isPure_132 (by decide) ?_
        exact ih (1 : Int32) (y5 + (1 : Int32)) _ _ ls out h hP hS (lv_sub hl [4, 5, 6, 1, 0] rfl) K
      have h := ifp c h
      refine lv_aload_n hx hb d_M_isPure_64 rfl (lv_at hl 1 rfl) ?_
      refine lv_aload_n hx hb d_M_isPure_65 rfl (lv_at hl 1 rfl) ?_
      refine va_get (D := D) (ci := 5) (v := .ref (q 1)) (C := R_M) (T := T_M) (N := 17) hx hb hts l_M hown hK hP 0 rfl rfl 3 (by decide) (hts _ w_442) (fun _ h9 => h9) rfl d_M_isPure_66 ?_
      refine lv_iload hx hb d_M_isPure_69 (lv_at hl 5 rfl) ?_
      obtain ⟨c, h⟩ := ifs h
      refine va_iald hx hb hK hP 1 0 rfl rfl c d_M_isPure_71 ?_
      refine lv_aload_n hx hb d_M_isPure_72 rfl (lv_at hl 1 rfl) ?_
      refine va_get (D := D) (ci := 5) (v := .ref (q 4)) (C := R_M) (T := T_M) (N := 17) hx hb hts l_M hown hK hP 0 rfl rfl 6 (by decide) (hts _ w_445) (fun _ h9 => h9) rfl d_M_isPure_73 ?_
      refine lv_iconst (v := 5) hx hb d_M_isPure_76 (by decide) ?_
      refine lv_iload hx hb d_M_isPure_77 (lv_at hl 5 rfl) ?_
      refine lv_imul hx hb d_M_isPure_79 ?_
      obtain ⟨c, h⟩ := ifs h
      refine va_iald hx hb hK hP 4 0 rfl rfl c d_M_isPure_80 ?_
      obtain ⟨u81, hu81, h⟩ := bnd h
      refine gcall_i (va_runV (As := [.int ((σ 1) y5.toNatClampNeg), .int ((σ 4) ((5 : Int32) * y5).toNatClampNeg)]) (rest := []) ⟨hx, hb, hml, hown, hts⟩ (c_M_name l D cI cZ tL q tl σ ((σ 1) y5.toNatClampNeg) ((σ 4) ((5 : Int32) * y5).toNatClampNeg) u81 hu81 H.size) (cwV 2 hts (gV w_537 w_538 w_723 w_6 w_539) rfl rfl rfl (by decide +kernel) ⟨Nat.le_of_ble_eq_true rfl, Nat.le_of_ble_eq_true rfl⟩) (gpV (k := 0) (ci := 5) hA hK (hD σ) hE hP hS rfl rfl) rfl rfl hl.1 rfl (lv_room (Nat.le_of_ble_eq_true rfl)) d_M_isPure_81 ⟨Nat.le_of_ble_eq_true rfl, Nat.le_of_ble_eq_true rfl⟩) hA (hD σ) hS (fun H locs hP hS => ?_)
      refine lv_iload_n hx hb d_M_isPure_84 rfl (lv_at hl 3 rfl) ?_
      refine lv_iconst (v := -1) hx hb d_M_isPure_85 (by decide) ?_
      refine lv_ixor hx hb d_M_isPure_86 ?_
      refine lv_iand hx hb d_M_isPure_87 ?_
      refine lv_if_eq (tgt := 95) hx hb d_M_isPure_88 (by decide) (fun c => ?_) (fun c => ?_)
      · have h := ifp c h
        refine lv_iconst (v := 0) hx hb d_M_isPure_95 (by decide) ?_
        refine lv_istore (lv' := [(7, .int (0 : Int32)), (6, .int ((σ 2) y5.toNatClampNeg)), (0, .ref (q 0)), (2, .int y2), (3, .int y3), (4, .int y4), (5, .int y5)]) hx hb d_M_isPure_96 hl (by decide) rfl (fun ls hl => ?_)
        refine lv_iload hx hb d_M_isPure_98 (lv_at hl 5 rfl) ?_
        refine lv_if_eq (tgt := 126) hx hb d_M_isPure_100 (by decide) (fun c => ?_) (fun c => ?_)
        · have h := ifp c h
          refine lv_iconst (v := 0) hx hb d_M_isPure_126 (by decide) ?_
          refine lv_istore (lv' := [(4, .int (0 : Int32)), (7, .int (0 : Int32)), (6, .int ((σ 2) y5.toNatClampNeg)), (0, .ref (q 0)), (2, .int y2), (3, .int y3), (5, .int y5)]) hx hb d_M_isPure_127 hl (by decide) rfl (fun ls hl => ?_)
          refine lv_iinc (v := (y5 + (1 : Int32))) (lv' := [(5, .int (y5 + (1 : Int32))), (4, .int (0 : Int32)), (7, .int (0 : Int32)), (6, .int ((σ 2) y5.toNatClampNeg)), (0, .ref (q 0)), (2, .int y2), (3, .int y3)]) hx hb d_M_isPure_129 hl (k := 6) rfl rfl (by decide) rfl (fun ls hl => ?_)
          refine lv_goto (tgt := 20) hx hb d_M_isPure_132 (by decide) ?_
          exact ih (0 : Int32) (y5 + (1 : Int32)) _ _ ls out h hP hS (lv_sub hl [4, 5, 6, 1, 0] rfl) K
        have h := ifn c h
        refine lv_iload_n hx hb d_M_isPure_103 rfl (lv_at hl 3 rfl) ?_
        refine lv_aload_n hx hb d_M_isPure_104 rfl (lv_at hl 2 rfl) ?_
        refine va_get (D := D) (ci := 5) (v := .ref (q 1)) (C := R_M) (T := T_M) (N := 17) hx hb hts l_M hown hK hP 0 rfl rfl 3 (by decide) (hts _ w_442) (fun _ h9 => h9) rfl d_M_isPure_105 ?_
        refine lv_iload hx hb d_M_isPure_108 (lv_at hl 6 rfl) ?_
        obtain ⟨c, h⟩ := ifs h
        refine va_iald hx hb hK hP 1 0 rfl rfl c d_M_isPure_110 ?_
        obtain ⟨u111, hu111, h⟩ := bnd h
        refine gcall_i (va_runS (As := [.int y2, .int ((σ 1) y5.toNatClampNeg)]) (rest := []) ⟨hx, hb, hml, hown, hts⟩ (c_M_has l D cI cZ tL (wM cI cZ q σ ++ tl) y2 ((σ 1) y5.toNatClampNeg) u111 hu111 H.size) (va_cwS 2 hts (gS w_522 w_523 w_6 w_524) rfl rfl rfl (by decide +kernel) ⟨Nat.le_of_ble_eq_true rfl, Nat.le_of_ble_eq_true rfl⟩) (gpS hA hK (hD σ) hE hP hS) rfl rfl hl.1 rfl (lv_room (Nat.le_of_ble_eq_true rfl)) d_M_isPure_111 ⟨Nat.le_of_ble_eq_true rfl, Nat.le_of_ble_eq_true rfl⟩) hA (hD σ) hS (fun H locs hP hS => ?_)
        refine lv_if_eq (tgt := 122) hx hb d_M_isPure_114 (by decide) (fun c => ?_) (fun c => ?_)
        · have h := ifp c h
          refine lv_iconst (v := 1) hx hb d_M_isPure_122 (by decide) ?_
          refine lv_goto (tgt := 127) hx hb d_M_isPure_123 (by decide) ?_
          refine lv_istore (lv' := [(4, .int (1 : Int32)), (7, .int (0 : Int32)), (6, .int ((σ 2) y5.toNatClampNeg)), (0, .ref (q 0)), (2, .int y2), (3, .int y3), (5, .int y5)]) hx hb d_M_isPure_127 hl (by decide) rfl (fun ls hl => ?_)
          refine lv_iinc (v := (y5 + (1 : Int32))) (lv' := [(5, .int (y5 + (1 : Int32))), (4, .int (1 : Int32)), (7, .int (0 : Int32)), (6, .int ((σ 2) y5.toNatClampNeg)), (0, .ref (q 0)), (2, .int y2), (3, .int y3)]) hx hb d_M_isPure_129 hl (k := 6) rfl rfl (by decide) rfl (fun ls hl => ?_)
          refine lv_goto (tgt := 20) hx hb d_M_isPure_132 (by decide) ?_
          exact ih (1 : Int32) (y5 + (1 : Int32)) _ _ ls out h hP hS (lv_sub hl [4, 5, 6, 1, 0] rfl) K
        have h := ifn c h
        refine lv_iload hx hb d_M_isPure_117 (lv_at hl 0 rfl) ?_
        refine lv_if_ne (tgt := 126) hx hb d_M_isPure_119 (by decide) (fun c => ?_) (fun c => ?_)
        · have h := ifn c h
          refine lv_iconst (v := 0) hx hb d_M_isPure_126 (by decide) ?_
          refine lv_istore (lv' := [(4, .int (0 : Int32)), (7, .int (0 : Int32)), (6, .int ((σ 2) y5.toNatClampNeg)), (0, .ref (q 0)), (2, .int y2), (3, .int y3), (5, .int y5)]) hx hb d_M_isPure_127 hl (by decide) rfl (fun ls hl => ?_)
          refine lv_iinc (v := (y5 + (1 : Int32))) (lv' := [(5, .int (y5 + (1 : Int32))), (4, .int (0 : Int32)), (7, .int (0 : Int32)), (6, .int ((σ 2) y5.toNatClampNeg)), (0, .ref (q 0)), (2, .int y2), (3, .int y3)]) hx hb d_M_isPure_129 hl (k := 6) rfl rfl (by decide) rfl (fun ls hl => ?_)
          refine lv_goto (tgt := 20) hx hb d_M_isPure_132 (by decide) ?_
          exact ih (0 : Int32) (y5 + (1 : Int32)) _ _ ls out h hP hS (lv_sub hl [4, 5, 6, 1, 0] rfl) K
        have h := ifp c h
        refine lv_iconst (v := 1) hx hb d_M_isPure_122 (by decide) ?_
        refine lv_goto (tgt := 127) hx hb d_M_isPure_123 (by decide) ?_
        refine lv_istore (lv' := [(4, .int (1 : Int32)), (7, .int (0 : Int32)), (6, .int ((σ 2) y5.toNatClampNeg)), (0, .ref (q 0)), (2, .int y2), (3, .int y3), (5, .int y5)]) hx hb d_M_isPure_127 hl (by decide) rfl (fun ls hl => ?_)
        refine lv_iinc (v := (y5 + (1 : Int32))) (lv' := [(5, .int (y5 + (1 : Int32))), (4, .int (1 : Int32)), (7, .int (0 : Int32)), (6, .int ((σ 2) y5.toNatClampNeg)), (0, .ref (q 0)), (2, .int y2), (3, .int y3)]) hx hb d_M_isPure_129 hl (k := 6) rfl rfl (by decide) rfl (fun ls hl => ?_)
        refine lv_goto (tgt := 20) hx hb d_M_isPure_132 (by decide) ?_
        exact ih (1 : Int32) (y5 + (1 : Int32)) _ _ ls out h hP hS (lv_sub hl [4, 5, 6, 1, 0] rfl) K
      have h := ifn c h
      refine lv_iconst (v := 1) hx hb d_M_isPure_91 (by decide) ?_
      refine lv_goto (tgt := 96) hx hb d_M_isPure_92 (by decide) ?_
      refine lv_istore (lv' := [(7, .int (1 : Int32)), (6, .int ((σ 2) y5.toNatClampNeg)), (0, .ref (q 0)), (2, .int y2), (3, .int y3), (4, .int y4), (5, .int y5)]) hx hb d_M_isPure_96 hl (by decide) rfl (fun ls hl => ?_)
      refine lv_iload hx hb d_M_isPure_98 (lv_at hl 5 rfl) ?_
      refine lv_if_eq (tgt := 126) hx hb d_M_isPure_100 (by decide) (fun c => ?_) (fun c => ?_)
      · have h := ifp c h
        refine lv_iconst (v := 0) hx hb d_M_isPure_126 (by decide) ?_
        refine lv_istore (lv' := [(4, .int (0 : Int32)), (7, .int (1 : Int32)), (6, .int ((σ 2) y5.toNatClampNeg)), (0, .ref (q 0)), (2, .int y2), (3, .int y3), (5, .int y5)]) hx hb d_M_isPure_127 hl (by decide) rfl (fun ls hl => ?_)
        refine lv_iinc (v := (y5 + (1 : Int32))) (lv' := [(5, .int (y5 + (1 : Int32))), (4, .int (0 : Int32)), (7, .int (1 : Int32)), (6, .int ((σ 2) y5.toNatClampNeg)), (0, .ref (q 0)), (2, .int y2), (3, .int y3)]) hx hb d_M_isPure_129 hl (k := 6) rfl rfl (by decide) rfl (fun ls hl => ?_)
        refine lv_goto (tgt := 20) hx hb d_M_isPure_132 (by decide) ?_
        exact ih (0 : Int32) (y5 + (1 : Int32)) _ _ ls out h hP hS (lv_sub hl [4, 5, 6, 1, 0] rfl) K
      have h := ifn c h
      refine lv_iload_n hx hb d_M_isPure_103 rfl (lv_at hl 3 rfl) ?_
      refine lv_aload_n hx hb d_M_isPure_104 rfl (lv_at hl 2 rfl) ?_
      refine va_get (D := D) (ci := 5) (v := .ref (q 1)) (C := R_M) (T := T_M) (N := 17) hx hb hts l_M hown hK hP 0 rfl rfl 3 (by decide) (hts _ w_442) (fun _ h9 => h9) rfl d_M_isPure_105 ?_
      refine lv_iload hx hb d_M_isPure_108 (lv_at hl 6 rfl) ?_
      obtain ⟨c, h⟩ := ifs h
      refine va_iald hx hb hK hP 1 0 rfl rfl c d_M_isPure_110 ?_
      obtain ⟨u111, hu111, h⟩ := bnd h
      refine gcall_i (va_runS (As := [.int y2, .int ((σ 1) y5.toNatClampNeg)]) (rest := []) ⟨hx, hb, hml, hown, hts⟩ (c_M_has l D cI cZ tL (wM cI cZ q σ ++ tl) y2 ((σ 1) y5.toNatClampNeg) u111 hu111 H.size) (va_cwS 2 hts (gS w_522 w_523 w_6 w_524) rfl rfl rfl (by decide +kernel) ⟨Nat.le_of_ble_eq_true rfl, Nat.le_of_ble_eq_true rfl⟩) (gpS hA hK (hD σ) hE hP hS) rfl rfl hl.1 rfl (lv_room (Nat.le_of_ble_eq_true rfl)) d_M_isPure_111 ⟨Nat.le_of_ble_eq_true rfl, Nat.le_of_ble_eq_true rfl⟩) hA (hD σ) hS (fun H locs hP hS => ?_)
      refine lv_if_eq (tgt := 122) hx hb d_M_isPure_114 (by decide) (fun c => ?_) (fun c => ?_)
      · have h := ifp c h
        refine lv_iconst (v := 1) hx hb d_M_isPure_122 (by decide) ?_
        refine lv_goto (tgt := 127) hx hb d_M_isPure_123 (by decide) ?_
        refine lv_istore (lv' := [(4, .int (1 : Int32)), (7, .int (1 : Int32)), (6, .int ((σ 2) y5.toNatClampNeg)), (0, .ref (q 0)), (2, .int y2), (3, .int y3), (5, .int y5)]) hx hb d_M_isPure_127 hl (by decide) rfl (fun ls hl => ?_)
        refine lv_iinc (v := (y5 + (1 : Int32))) (lv' := [(5, .int (y5 + (1 : Int32))), (4, .int (1 : Int32)), (7, .int (1 : Int32)), (6, .int ((σ 2) y5.toNatClampNeg)), (0, .ref (q 0)), (2, .int y2), (3, .int y3)]) hx hb d_M_isPure_129 hl (k := 6) rfl rfl (by decide) rfl (fun ls hl => ?_)
        refine lv_goto (tgt := 20) hx hb d_M_isPure_132 (by decide) ?_
        exact ih (1 : Int32) (y5 + (1 : Int32)) _ _ ls out h hP hS (lv_sub hl [4, 5, 6, 1, 0] rfl) K
      have h := ifn c h
      refine lv_iload hx hb d_M_isPure_117 (lv_at hl 0 rfl) ?_
      refine lv_if_ne (tgt := 126) hx hb d_M_isPure_119 (by decide) (fun c => ?_) (fun c => ?_)
      · have h := ifn c h
        refine lv_iconst (v := 0) hx hb d_M_isPure_126 (by decide) ?_
        refine lv_istore (lv' := [(4, .int (0 : Int32)), (7, .int (1 : Int32)), (6, .int ((σ 2) y5.toNatClampNeg)), (0, .ref (q 0)), (2, .int y2), (3, .int y3), (5, .int y5)]) hx hb d_M_isPure_127 hl (by decide) rfl (fun ls hl => ?_)
        refine lv_iinc (v := (y5 + (1 : Int32))) (lv' := [(5, .int (y5 + (1 : Int32))), (4, .int (0 : Int32)), (7, .int (1 : Int32)), (6, .int ((σ 2) y5.toNatClampNeg)), (0, .ref (q 0)), (2, .int y2), (3, .int y3)]) hx hb d_M_isPure_129 hl (k := 6) rfl rfl (by decide) rfl (fun ls hl => ?_)
        refine lv_goto (tgt := 20) hx hb d_M_isPure_132 (by decide) ?_
        exact ih (0 : Int32) (y5 + (1 : Int32)) _ _ ls out h hP hS (lv_sub hl [4, 5, 6, 1, 0] rfl) K
      have h := ifp c h
      refine lv_iconst (v := 1) hx hb d_M_isPure_122 (by decide) ?_
      refine lv_goto (tgt := 127) hx hb d_M_isPure_123 (by decide) ?_
      refine lv_istore (lv' := [(4, .int (1 : Int32)), (7, .int (1 : Int32)), (6, .int ((σ 2) y5.toNatClampNeg)), (0, .ref (q 0)), (2, .int y2), (3, .int y3), (5, .int y5)]) hx hb d_M_isPure_127 hl (by decide) rfl (fun ls hl => ?_)
      refine lv_iinc (v := (y5 + (1 : Int32))) (lv' := [(5, .int (y5 + (1 : Int32))), (4, .int (1 : Int32)), (7, .int (1 : Int32)), (6, .int ((σ 2) y5.toNatClampNeg)), (0, .ref (q 0)), (2, .int y2), (3, .int y3)]) hx hb d_M_isPure_129 hl (k := 6) rfl rfl (by decide) rfl (fun ls hl => ?_)
      refine lv_goto (tgt := 20) hx hb d_M_isPure_132 (by decide) ?_
      exact ih (1 : Int32) (y5 + (1 : Int32)) _ _ ls out h hP hS (lv_sub hl [4, 5, 6, 1, 0] rfl) K
  unfold f_M_isPure at h
  refine lv_aload_n hx hb d_M_isPure_0 rfl (lv_at hl 0 rfl) ?_
  refine lv_iconst (v := 1) hx hb d_M_isPure_1 (by decide) ?_
  refine lv_iload_n hx hb d_M_isPure_2 rfl (lv_at hl 1 rfl) ?_
  refine lv_ishl hx hb d_M_isPure_3 ?_
  obtain ⟨u4, hu4, h⟩ := bnd h
  refine gcall_i (va_runV (As := [.int ((1 : Int32) <<< (x1 &&& 31))]) (rest := []) ⟨hx, hb, hml, hown, hts⟩ (c_M_allCalled l D cI cZ tL q tl F σ ((1 : Int32) <<< (x1 &&& 31)) u4 hu4 s.heap.size) (cwV 1 hts (gV w_519 w_520 w_695 w_6 w_521) rfl rfl rfl (by decide +kernel) ⟨Nat.le_of_ble_eq_true rfl, Nat.le_of_ble_eq_true rfl⟩) (gpV (k := 0) (ci := 5) hA hK (hD σ) hE hP hS rfl rfl) rfl rfl hl.1 rfl (lv_room (Nat.le_of_ble_eq_true rfl)) d_M_isPure_4 ⟨Nat.le_of_ble_eq_true rfl, Nat.le_of_ble_eq_true rfl⟩) hA (hD σ) hS (fun H locs hP hS => ?_)
  refine lv_istore_n (lv' := [(2, .int u4), (0, .ref (q 0)), (1, .int x1)]) hx hb d_M_isPure_7 rfl hl (by decide) rfl (fun ls hl => ?_)
  refine lv_aload_n hx hb d_M_isPure_8 rfl (lv_at hl 1 rfl) ?_
  refine lv_iload_n hx hb d_M_isPure_9 rfl (lv_at hl 0 rfl) ?_
  obtain ⟨u10, hu10, h⟩ := bnd h
  refine gcall_i (va_runV (As := [.int u4]) (rest := []) ⟨hx, hb, hml, hown, hts⟩ (c_M_madeBy l D cI cZ tL q tl F σ u4 u10 hu10 H.size) (cwV 1 hts (gV w_621 w_622 w_719 w_6 w_623) rfl rfl rfl (by decide +kernel) ⟨Nat.le_of_ble_eq_true rfl, Nat.le_of_ble_eq_true rfl⟩) (gpV (k := 0) (ci := 5) hA hK (hD σ) hE hP hS rfl rfl) rfl rfl hl.1 rfl (lv_room (Nat.le_of_ble_eq_true rfl)) d_M_isPure_10 ⟨Nat.le_of_ble_eq_true rfl, Nat.le_of_ble_eq_true rfl⟩) hA (hD σ) hS (fun H locs hP hS => ?_)
  refine lv_istore_n (lv' := [(3, .int u10), (2, .int u4), (0, .ref (q 0)), (1, .int x1)]) hx hb d_M_isPure_13 rfl hl (by decide) rfl (fun ls hl => ?_)
  refine lv_iconst (v := 1) hx hb d_M_isPure_14 (by decide) ?_
  refine lv_istore (lv' := [(4, .int (1 : Int32)), (3, .int u10), (2, .int u4), (0, .ref (q 0)), (1, .int x1)]) hx hb d_M_isPure_15 hl (by decide) rfl (fun ls hl => ?_)
  refine lv_iconst (v := 0) hx hb d_M_isPure_17 (by decide) ?_
  refine lv_istore (lv' := [(5, .int (0 : Int32)), (4, .int (1 : Int32)), (3, .int u10), (2, .int u4), (0, .ref (q 0)), (1, .int x1)]) hx hb d_M_isPure_18 hl (by decide) rfl (fun ls hl => ?_)
  obtain ⟨u20, hu20, h⟩ := bnd h
  refine L20 σ u4 u10 F (1 : Int32) (0 : Int32) _ _ ls u20 hu20 hP hS (lv_sub hl [4, 3, 2, 1, 0] rfl) (fun H locs ls hP hS hl => ?_)
  refine lv_iload hx hb d_M_isPure_135 (lv_at hl 3 rfl) ?_
  obtain ⟨c, h⟩ := ifs h
  cases h
  exact gret_z hx hb hr hlk (gz c) hP hS d_M_isPure_137
/-! ===== EscapeOwnersModel.methodsOf(Z)I ===== -/
def f_M_methodsOf_B4 (F : Nat) (σ : St) (y1 : Int32) (rec : Int32 → Int32 → Option (Int32 × Int32)) (y2 : Int32) (y3 : Int32) : Option (Int32 × Int32) := if (σ 0 0) ≤ y3 then (some (y2, y3)) else (Option.bind (f_M_has (σ 0 12) y3) (fun u17 => if u17 = 0 then (rec y2 (y3 + (1 : Int32))) else (if y1 = 0 then (Option.bind (f_M_isFresh F σ y3) (fun u40 => if u40 = 0 then (rec y2 (y3 + (1 : Int32))) else (rec (y2 ||| ((1 : Int32) <<< (y3 &&& 31))) (y3 + (1 : Int32))))) else (Option.bind (f_M_isPure F σ y3) (fun u29 => if u29 = 0 then (rec y2 (y3 + (1 : Int32))) else (rec (y2 ||| ((1 : Int32) <<< (y3 &&& 31))) (y3 + (1 : Int32))))))))
def f_M_methodsOf_L4 (F : Nat) (σ : St) (y1 : Int32) : Nat → Int32 → Int32 → Option (Int32 × Int32)
  | 0, _, _ => none
  | fu + 1, y2, y3 => f_M_methodsOf_B4 F σ y1 (f_M_methodsOf_L4 F σ y1 fu) y2 y3
def f_M_methodsOf (F : Nat) (σ : St) (x1 : Int32) : Option (Int32) := Option.bind (f_M_methodsOf_L4 F σ x1 F (0 : Int32) (0 : Int32)) (fun u4 => some u4.1)
set_option maxHeartbeats 4000000 in
set_option maxRecDepth 100000 in
theorem c_M_methodsOf (l : Launch) (D : va_G) (cI cZ : ClassId) (tL : Nat) (q : Nat → Nat) (tl : va_W) (F : Nat) (σ : St) (x1 : Int32) (out0 : Int32) (h : f_M_methodsOf F σ x1 = some out0) : gCi l y_M_methodsOf (.code y_M_methodsOf b_M_methodsOf 4 (some .int) :: TB) { frames := 6, cells := 0, slots := 0, locals := 135 } D [(cI, .int), (cZ, .boolean)] tL [.ref (q 0), .int x1] (wM cI cZ q σ ++ tl) out0 (wM cI cZ q σ ++ tl) := by
  refine gCi_of (cc := b_M_methodsOf) (maxL := 4) (ty := .int) (by decide) rfl (Nat.le_of_ble_eq_true rfl) ?_
  intro p e s m below meth c A ls hf hr hlk hA hK hD0 hE hP hl
  obtain ⟨hx, hb, hml, hown, hts⟩ := id hf
  have hts : ∀ w ∈ TB, w.before _ s = true := fun w h => hts w (List.mem_cons_of_mem _ h)
  have hown : s.vm.findClass R_M = some m.cls := hown
  have hl : lv_has ls 4 [(0, .ref (q 0)), (1, .int x1)] := hl
  have hS : va_S A s.heap s.heap [] := va_S.rf
  have hD : ∀ σ' : St, va_D A (wM cI cZ q σ' ++ tl) := fun σ' => va_Dsame hD0 rfl
  have L4 : ∀ (σ : St) (y1 : Int32) (fu : Nat) (y2 : Int32) (y3 : Int32) (H : Heap) (locs : List Loc) (ls : Array Slot) (out : Int32 × Int32), f_M_methodsOf_L4 F σ y1 fu y2 y3 = some out → va_P D vwCl (wM cI cZ q σ ++ tl) H → va_S A s.heap H locs → lv_has ls 4 [(0, .ref (q 0)), (1, .int y1), (2, .int y2), (3, .int y3)] → (∀ (H : Heap) (locs : List Loc) (ls : Array Slot), va_P D vwCl (wM cI cZ q σ ++ tl) H → va_S A s.heap H locs → lv_has ls 4 [(0, .ref (q 0)), (1, .int y1), (2, .int out.1), (3, .int out.2)] → W p l e { frames := 6, cells := 0, slots := 0, locals := 135 } s m ([.ref (q 0), .int x1] : List Value).toArray below meth c H locs 0 0 (gQi below D out0 (wM cI cZ q σ ++ tl) A (([.ref (q 0), .int x1] : List Value).toArray) s) (F0 m 62 ls [])) → W p l e { frames := 6, cells := 0, slots := 0, locals := 135 } s m ([.ref (q 0), .int x1] : List Value).toArray below meth c H locs 0 0 (gQi below D out0 (wM cI cZ q σ ++ tl) A (([.ref (q 0), .int x1] : List Value).toArray) s) (F0 m 4 ls []) := by
    intro σ y1 fu
    induction fu with
    | zero => intro y2 y3 H locs ls out h; exact absurd (show (none : Option (Int32 × Int32)) = some out from h) (fun z => by cases z)
    | succ fu ih =>
      intro y2 y3 H locs ls out h hP hS hl K
      have h : f_M_methodsOf_B4 F σ y1 (f_M_methodsOf_L4 F σ y1 fu) y2 y3 = some out := h
      unfold f_M_methodsOf_B4 at h
      refine lv_iload_n hx hb d_M_methodsOf_4 rfl (lv_at hl 3 rfl) ?_
      refine lv_aload_n hx hb d_M_methodsOf_5 rfl (lv_at hl 0 rfl) ?_
      refine va_get (D := D) (ci := 5) (v := .int (σ 0 0)) (C := R_M) (T := T_M) (N := 17) hx hb hts l_M hown hK hP 0 rfl rfl 0 (by decide) (hts _ w_439) (fun _ h9 => h9) rfl d_M_methodsOf_6 ?_
      refine lv_icmp_ge (tgt := 62) hx hb d_M_methodsOf_9 (by decide) (fun c => ?_) (fun c => ?_)
      · have h := ifp c h
        cases h
        exact K _ _ ls hP hS (lv_sub hl [0, 1, 2, 3] rfl)
      have h := ifn c h
      refine lv_aload_n hx hb d_M_methodsOf_12 rfl (lv_at hl 0 rfl) ?_
      refine va_get (D := D) (ci := 5) (v := .int (σ 0 12)) (C := R_M) (T := T_M) (N := 17) hx hb hts l_M hown hK hP 0 rfl rfl 12 (by decide) (hts _ w_451) (fun _ h9 => h9) rfl d_M_methodsOf_13 ?_
      refine lv_iload_n hx hb d_M_methodsOf_16 rfl (lv_at hl 3 rfl) ?_
      obtain ⟨u17, hu17, h⟩ := bnd h
      refine gcall_i (va_runS (As := [.int (σ 0 12), .int y3]) (rest := []) ⟨hx, hb, hml, hown, hts⟩ (c_M_has l D cI cZ tL (wM cI cZ q σ ++ tl) (σ 0 12) y3 u17 hu17 H.size) (va_cwS 2 hts (gS w_522 w_523 w_6 w_524) rfl rfl rfl (by decide +kernel) ⟨Nat.le_of_ble_eq_true rfl, Nat.le_of_ble_eq_true rfl⟩) (gpS hA hK (hD σ) hE hP hS) rfl rfl hl.1 rfl (lv_room (Nat.le_of_ble_eq_true rfl)) d_M_methodsOf_17 ⟨Nat.le_of_ble_eq_true rfl, Nat.le_of_ble_eq_true rfl⟩) hA (hD σ) hS (fun H locs hP hS => ?_)
      refine lv_if_eq (tgt := 54) hx hb d_M_methodsOf_20 (by decide) (fun c => ?_) (fun c => ?_)
      · have h := ifp c h
        refine lv_iload_n hx hb d_M_methodsOf_54 rfl (lv_at hl 2 rfl) ?_
        refine lv_istore_n (lv' := [(2, .int y2), (0, .ref (q 0)), (1, .int y1), (3, .int y3)]) hx hb d_M_methodsOf_55 rfl hl (by decide) rfl (fun ls hl => ?_)
        refine lv_iinc (v := (y3 + (1 : Int32))) (lv' := [(3, .int (y3 + (1 : Int32))), (2, .int y2), (0, .ref (q 0)), (1, .int y1)]) hx hb d_M_methodsOf_56 hl (k := 3) rfl rfl (by decide) rfl (fun ls hl => ?_)
        refine lv_goto (tgt := 4) hx hb d_M_methodsOf_59 (by decide) ?_
        exact ih y2 (y3 + (1 : Int32)) _ _ ls out h hP hS (lv_sub hl [2, 3, 1, 0] rfl) K
      have h := ifn c h
      refine lv_iload_n hx hb d_M_methodsOf_23 rfl (lv_at hl 1 rfl) ?_
      refine lv_if_eq (tgt := 38) hx hb d_M_methodsOf_24 (by decide) (fun c => ?_) (fun c => ?_)
      · have h := ifp c h
        refine lv_aload_n hx hb d_M_methodsOf_38 rfl (lv_at hl 0 rfl) ?_
        refine lv_iload_n hx hb d_M_methodsOf_39 rfl (lv_at hl 3 rfl) ?_
        obtain ⟨u40, hu40, h⟩ := bnd h
        refine gcall_i (va_runV (As := [.int y3]) (rest := []) ⟨hx, hb, hml, hown, hts⟩ (c_M_isFresh l D cI cZ tL q tl F σ y3 u40 hu40 H.size) (cwV 1 hts (gV w_624 w_625 w_707 w_6 w_626) rfl rfl rfl (by decide +kernel) ⟨Nat.le_of_ble_eq_true rfl, Nat.le_of_ble_eq_true rfl⟩) (gpV (k := 0) (ci := 5) hA hK (hD σ) hE hP hS rfl rfl) rfl rfl hl.1 rfl (lv_room (Nat.le_of_ble_eq_true rfl)) d_M_methodsOf_40 ⟨Nat.le_of_ble_eq_true rfl, Nat.le_of_ble_eq_true rfl⟩) hA (hD σ) hS (fun H locs hP hS => ?_)
        refine lv_if_eq (tgt := 54) hx hb d_M_methodsOf_43 (by decide) (fun c => ?_) (fun c => ?_)
        · have h := ifp c h
          refine lv_iload_n hx hb d_M_methodsOf_54 rfl (lv_at hl 2 rfl) ?_
          refine lv_istore_n (lv' := [(2, .int y2), (0, .ref (q 0)), (1, .int y1), (3, .int y3)]) hx hb d_M_methodsOf_55 rfl hl (by decide) rfl (fun ls hl => ?_)
          refine lv_iinc (v := (y3 + (1 : Int32))) (lv' := [(3, .int (y3 + (1 : Int32))), (2, .int y2), (0, .ref (q 0)), (1, .int y1)]) hx hb d_M_methodsOf_56 hl (k := 3) rfl rfl (by decide) rfl (fun ls hl => ?_)
          refine lv_goto (tgt := 4) hx hb d_M_methodsOf_59 (by decide) ?_
          exact ih y2 (y3 + (1 : Int32)) _ _ ls out h hP hS (lv_sub hl [2, 3, 1, 0] rfl) K
        have h := ifn c h
        refine lv_iload_n hx hb d_M_methodsOf_46 rfl (lv_at hl 2 rfl) ?_
        refine lv_iconst (v := 1) hx hb d_M_methodsOf_47 (by decide) ?_
        refine lv_iload_n hx hb d_M_methodsOf_48 rfl (lv_at hl 3 rfl) ?_
        refine lv_ishl hx hb d_M_methodsOf_49 ?_
        refine lv_ior hx hb d_M_methodsOf_50 ?_
        refine lv_goto (tgt := 55) hx hb d_M_methodsOf_51 (by decide) ?_
        refine lv_istore_n (lv' := [(2, .int (y2 ||| ((1 : Int32) <<< (y3 &&& 31)))), (0, .ref (q 0)), (1, .int y1), (3, .int y3)]) hx hb d_M_methodsOf_55 rfl hl (by decide) rfl (fun ls hl => ?_)
        refine lv_iinc (v := (y3 + (1 : Int32))) (lv' := [(3, .int (y3 + (1 : Int32))), (2, .int (y2 ||| ((1 : Int32) <<< (y3 &&& 31)))), (0, .ref (q 0)), (1, .int y1)]) hx hb d_M_methodsOf_56 hl (k := 3) rfl rfl (by decide) rfl (fun ls hl => ?_)
        refine lv_goto (tgt := 4) hx hb d_M_methodsOf_59 (by decide) ?_
        exact ih (y2 ||| ((1 : Int32) <<< (y3 &&& 31))) (y3 + (1 : Int32)) _ _ ls out h hP hS (lv_sub hl [2, 3, 1, 0] rfl) K
      have h := ifn c h
      refine lv_aload_n hx hb d_M_methodsOf_27 rfl (lv_at hl 0 rfl) ?_
      refine lv_iload_n hx hb d_M_methodsOf_28 rfl (lv_at hl 3 rfl) ?_
      obtain ⟨u29, hu29, h⟩ := bnd h
      refine gcall_i (va_runV (As := [.int y3]) (rest := []) ⟨hx, hb, hml, hown, hts⟩ (c_M_isPure l D cI cZ tL q tl F σ y3 u29 hu29 H.size) (cwV 1 hts (gV w_618 w_619 w_716 w_6 w_620) rfl rfl rfl (by decide +kernel) ⟨Nat.le_of_ble_eq_true rfl, Nat.le_of_ble_eq_true rfl⟩) (gpV (k := 0) (ci := 5) hA hK (hD σ) hE hP hS rfl rfl) rfl rfl hl.1 rfl (lv_room (Nat.le_of_ble_eq_true rfl)) d_M_methodsOf_29 ⟨Nat.le_of_ble_eq_true rfl, Nat.le_of_ble_eq_true rfl⟩) hA (hD σ) hS (fun H locs hP hS => ?_)
      refine lv_if_eq (tgt := 54) hx hb d_M_methodsOf_32 (by decide) (fun c => ?_) (fun c => ?_)
      · have h := ifp c h
        refine lv_iload_n hx hb d_M_methodsOf_54 rfl (lv_at hl 2 rfl) ?_
        refine lv_istore_n (lv' := [(2, .int y2), (0, .ref (q 0)), (1, .int y1), (3, .int y3)]) hx hb d_M_methodsOf_55 rfl hl (by decide) rfl (fun ls hl => ?_)
        refine lv_iinc (v := (y3 + (1 : Int32))) (lv' := [(3, .int (y3 + (1 : Int32))), (2, .int y2), (0, .ref (q 0)), (1, .int y1)]) hx hb d_M_methodsOf_56 hl (k := 3) rfl rfl (by decide) rfl (fun ls hl => ?_)
        refine lv_goto (tgt := 4) hx hb d_M_methodsOf_59 (by decide) ?_
        exact ih y2 (y3 + (1 : Int32)) _ _ ls out h hP hS (lv_sub hl [2, 3, 1, 0] rfl) K
      have h := ifn c h
      refine lv_goto (tgt := 46) hx hb d_M_methodsOf_35 (by decide) ?_
      refine lv_iload_n hx hb d_M_methodsOf_46 rfl (lv_at hl 2 rfl) ?_
      refine lv_iconst (v := 1) hx hb d_M_methodsOf_47 (by decide) ?_
      refine lv_iload_n hx hb d_M_methodsOf_48 rfl (lv_at hl 3 rfl) ?_
      refine lv_ishl hx hb d_M_methodsOf_49 ?_
      refine lv_ior hx hb d_M_methodsOf_50 ?_
      refine lv_goto (tgt := 55) hx hb d_M_methodsOf_51 (by decide) ?_
      refine lv_istore_n (lv' := [(2, .int (y2 ||| ((1 : Int32) <<< (y3 &&& 31)))), (0, .ref (q 0)), (1, .int y1), (3, .int y3)]) hx hb d_M_methodsOf_55 rfl hl (by decide) rfl (fun ls hl => ?_)
      refine lv_iinc (v := (y3 + (1 : Int32))) (lv' := [(3, .int (y3 + (1 : Int32))), (2, .int (y2 ||| ((1 : Int32) <<< (y3 &&& 31)))), (0, .ref (q 0)), (1, .int y1)]) hx hb d_M_methodsOf_56 hl (k := 3) rfl rfl (by decide) rfl (fun ls hl => ?_)
      refine lv_goto (tgt := 4) hx hb d_M_methodsOf_59 (by decide) ?_
      exact ih (y2 ||| ((1 : Int32) <<< (y3 &&& 31))) (y3 + (1 : Int32)) _ _ ls out h hP hS (lv_sub hl [2, 3, 1, 0] rfl) K
  unfold f_M_methodsOf at h
  refine lv_iconst (v := 0) hx hb d_M_methodsOf_0 (by decide) ?_
  refine lv_istore_n (lv' := [(2, .int (0 : Int32)), (0, .ref (q 0)), (1, .int x1)]) hx hb d_M_methodsOf_1 rfl hl (by decide) rfl (fun ls hl => ?_)
  refine lv_iconst (v := 0) hx hb d_M_methodsOf_2 (by decide) ?_
  refine lv_istore_n (lv' := [(3, .int (0 : Int32)), (2, .int (0 : Int32)), (0, .ref (q 0)), (1, .int x1)]) hx hb d_M_methodsOf_3 rfl hl (by decide) rfl (fun ls hl => ?_)
  obtain ⟨u4, hu4, h⟩ := bnd h
  refine L4 σ x1 F (0 : Int32) (0 : Int32) _ _ ls u4 hu4 hP hS (lv_sub hl [2, 3, 1, 0] rfl) (fun H locs ls hP hS hl => ?_)
  refine lv_iload_n hx hb d_M_methodsOf_62 rfl (lv_at hl 2 rfl) ?_
  cases h
  exact gret_i hx hb hr hlk hP hS d_M_methodsOf_63
/-! ===== EscapeOwnersModel.isIdle(I)Z ===== -/
def f_M_isIdle (F : Nat) (σ : St) (x1 : Int32) : Option (Int32) := if ¬ (x1 < 0 ∨ 64 ≤ x1.toNatClampNeg) then (if ¬ (((5 : Int32) * x1) < 0 ∨ 320 ≤ ((5 : Int32) * x1).toNatClampNeg) then (Option.bind (f_M_name σ ((σ 1) x1.toNatClampNeg) ((σ 4) ((5 : Int32) * x1).toNatClampNeg)) (fun u15 => if u15 = 0 then (some (0 : Int32)) else (Option.bind (f_M_shared F σ) (fun u25 => if (u15 &&& u25) = 0 then (some (1 : Int32)) else (some (0 : Int32)))))) else none) else none
set_option maxHeartbeats 4000000 in
set_option maxRecDepth 100000 in
theorem c_M_isIdle (l : Launch) (D : va_G) (cI cZ : ClassId) (tL : Nat) (q : Nat → Nat) (tl : va_W) (F : Nat) (σ : St) (x1 : Int32) (out0 : Int32) (h : f_M_isIdle F σ x1 = some out0) : gCi l y_M_isIdle (.code y_M_isIdle b_M_isIdle 3 (some .boolean) :: TB) { frames := 5, cells := 0, slots := 0, locals := 111 } D [(cI, .int), (cZ, .boolean)] tL [.ref (q 0), .int x1] (wM cI cZ q σ ++ tl) out0 (wM cI cZ q σ ++ tl) := by
  refine gCi_of (cc := b_M_isIdle) (maxL := 3) (ty := .boolean) (by decide) rfl (Nat.le_of_ble_eq_true rfl) ?_
  intro p e s m below meth c A ls hf hr hlk hA hK hD0 hE hP hl
  obtain ⟨hx, hb, hml, hown, hts⟩ := id hf
  have hts : ∀ w ∈ TB, w.before _ s = true := fun w h => hts w (List.mem_cons_of_mem _ h)
  have hown : s.vm.findClass R_M = some m.cls := hown
  have hl : lv_has ls 3 [(0, .ref (q 0)), (1, .int x1)] := hl
  have hS : va_S A s.heap s.heap [] := va_S.rf
  have hD : ∀ σ' : St, va_D A (wM cI cZ q σ' ++ tl) := fun σ' => va_Dsame hD0 rfl
  unfold f_M_isIdle at h
  refine lv_aload_n hx hb d_M_isIdle_0 rfl (lv_at hl 0 rfl) ?_
  refine lv_aload_n hx hb d_M_isIdle_1 rfl (lv_at hl 0 rfl) ?_
  refine va_get (D := D) (ci := 5) (v := .ref (q 1)) (C := R_M) (T := T_M) (N := 17) hx hb hts l_M hown hK hP 0 rfl rfl 3 (by decide) (hts _ w_442) (fun _ h9 => h9) rfl d_M_isIdle_2 ?_
  refine lv_iload_n hx hb d_M_isIdle_5 rfl (lv_at hl 1 rfl) ?_
  obtain ⟨c, h⟩ := ifs h
  refine va_iald hx hb hK hP 1 0 rfl rfl c d_M_isIdle_6 ?_
  refine lv_aload_n hx hb d_M_isIdle_7 rfl (lv_at hl 0 rfl) ?_
  refine va_get (D := D) (ci := 5) (v := .ref (q 4)) (C := R_M) (T := T_M) (N := 17) hx hb hts l_M hown hK hP 0 rfl rfl 6 (by decide) (hts _ w_445) (fun _ h9 => h9) rfl d_M_isIdle_8 ?_
  refine lv_iconst (v := 5) hx hb d_M_isIdle_11 (by decide) ?_
  refine lv_iload_n hx hb d_M_isIdle_12 rfl (lv_at hl 1 rfl) ?_
  refine lv_imul hx hb d_M_isIdle_13 ?_
  obtain ⟨c, h⟩ := ifs h
  refine va_iald hx hb hK hP 4 0 rfl rfl c d_M_isIdle_14 ?_
  obtain ⟨u15, hu15, h⟩ := bnd h
  refine gcall_i (va_runV (As := [.int ((σ 1) x1.toNatClampNeg), .int ((σ 4) ((5 : Int32) * x1).toNatClampNeg)]) (rest := []) ⟨hx, hb, hml, hown, hts⟩ (c_M_name l D cI cZ tL q tl σ ((σ 1) x1.toNatClampNeg) ((σ 4) ((5 : Int32) * x1).toNatClampNeg) u15 hu15 s.heap.size) (cwV 2 hts (gV w_537 w_538 w_723 w_6 w_539) rfl rfl rfl (by decide +kernel) ⟨Nat.le_of_ble_eq_true rfl, Nat.le_of_ble_eq_true rfl⟩) (gpV (k := 0) (ci := 5) hA hK (hD σ) hE hP hS rfl rfl) rfl rfl hl.1 rfl (lv_room (Nat.le_of_ble_eq_true rfl)) d_M_isIdle_15 ⟨Nat.le_of_ble_eq_true rfl, Nat.le_of_ble_eq_true rfl⟩) hA (hD σ) hS (fun H locs hP hS => ?_)
  refine lv_istore_n (lv' := [(2, .int u15), (0, .ref (q 0)), (1, .int x1)]) hx hb d_M_isIdle_18 rfl hl (by decide) rfl (fun ls hl => ?_)
  refine lv_iload_n hx hb d_M_isIdle_19 rfl (lv_at hl 0 rfl) ?_
  refine lv_if_eq (tgt := 36) hx hb d_M_isIdle_20 (by decide) (fun c => ?_) (fun c => ?_)
  · have h := ifp c h
    refine lv_iconst (v := 0) hx hb d_M_isIdle_36 (by decide) ?_
    cases h
    exact gret_z hx hb hr hlk (gz (Or.inl rfl)) hP hS d_M_isIdle_37
  have h := ifn c h
  refine lv_iload_n hx hb d_M_isIdle_23 rfl (lv_at hl 0 rfl) ?_
  refine lv_aload_n hx hb d_M_isIdle_24 rfl (lv_at hl 1 rfl) ?_
  obtain ⟨u25, hu25, h⟩ := bnd h
  refine gcall_i (va_runV (As := []) (rest := [.int u15]) ⟨hx, hb, hml, hown, hts⟩ (c_M_shared l D cI cZ tL q tl F σ  u25 hu25 H.size) (cwV 0 hts (gV w_606 w_607 w_728 w_6 w_608) rfl rfl rfl (by decide +kernel) ⟨Nat.le_of_ble_eq_true rfl, Nat.le_of_ble_eq_true rfl⟩) (gpV (k := 0) (ci := 5) hA hK (hD σ) hE hP hS rfl rfl) rfl rfl hl.1 rfl (lv_room (Nat.le_of_ble_eq_true rfl)) d_M_isIdle_25 ⟨Nat.le_of_ble_eq_true rfl, Nat.le_of_ble_eq_true rfl⟩) hA (hD σ) hS (fun H locs hP hS => ?_)
  refine lv_iand hx hb d_M_isIdle_28 ?_
  refine lv_if_ne (tgt := 36) hx hb d_M_isIdle_29 (by decide) (fun c => ?_) (fun c => ?_)
  · have h := ifn c h
    refine lv_iconst (v := 0) hx hb d_M_isIdle_36 (by decide) ?_
    cases h
    exact gret_z hx hb hr hlk (gz (Or.inl rfl)) hP hS d_M_isIdle_37
  have h := ifp c h
  refine lv_iconst (v := 1) hx hb d_M_isIdle_32 (by decide) ?_
  refine lv_goto (tgt := 37) hx hb d_M_isIdle_33 (by decide) ?_
  cases h
  exact gret_z hx hb hr hlk (gz (Or.inr rfl)) hP hS d_M_isIdle_37
/-! ===== EscapeOwnersModel.idle(I)I ===== -/
def f_M_idle (F : Nat) (σ : St) (x1 : Int32) : Option (Int32 × St) := Option.bind (f_M_isIn x1 (0 : Int32) ((σ 0 1) - (1 : Int32))) (fun u8 => if u8 = 0 then (some ((-2 : Int32), σ)) else (if ¬ (x1 < 0 ∨ 64 ≤ x1.toNatClampNeg) then (if ((σ 2) x1.toNatClampNeg) = (10 : Int32) then (Option.bind (f_M_solve F σ) (fun u29 => Option.bind (f_M_isLive u29 x1) (fun u34 => if u34 = 0 then (some ((-1 : Int32), u29)) else (Option.bind (f_M_isIdle F u29 x1) (fun u46 => if u46 = 0 then (some ((0 : Int32), u29)) else (some ((1 : Int32), u29))))))) else (some ((-2 : Int32), σ))) else none))
set_option maxHeartbeats 4000000 in
set_option maxRecDepth 100000 in
theorem c_M_idle (l : Launch) (D : va_G) (cI cZ : ClassId) (tL : Nat) (q : Nat → Nat) (tl : va_W) (F : Nat) (σ : St) (x1 : Int32) (out0 : Int32 × St) (h : f_M_idle F σ x1 = some out0) : gCi l y_M_idle (.code y_M_idle b_M_idle 2 (some .int) :: TB) { frames := 6, cells := 0, slots := 0, locals := 133 } D [(cI, .int), (cZ, .boolean)] tL [.ref (q 0), .int x1] (wM cI cZ q σ ++ tl) out0.1 (wM cI cZ q out0.2 ++ tl) := by
  refine gCi_of (cc := b_M_idle) (maxL := 2) (ty := .int) (by decide) rfl (Nat.le_of_ble_eq_true rfl) ?_
  intro p e s m below meth c A ls hf hr hlk hA hK hD0 hE hP hl
  obtain ⟨hx, hb, hml, hown, hts⟩ := id hf
  have hts : ∀ w ∈ TB, w.before _ s = true := fun w h => hts w (List.mem_cons_of_mem _ h)
  have hown : s.vm.findClass R_M = some m.cls := hown
  have hl : lv_has ls 2 [(0, .ref (q 0)), (1, .int x1)] := hl
  have hS : va_S A s.heap s.heap [] := va_S.rf
  have hD : ∀ σ' : St, va_D A (wM cI cZ q σ' ++ tl) := fun σ' => va_Dsame hD0 rfl
  unfold f_M_idle at h
  refine lv_iload_n hx hb d_M_idle_0 rfl (lv_at hl 1 rfl) ?_
  refine lv_iconst (v := 0) hx hb d_M_idle_1 (by decide) ?_
  refine lv_aload_n hx hb d_M_idle_2 rfl (lv_at hl 0 rfl) ?_
  refine va_get (D := D) (ci := 5) (v := .int (σ 0 1)) (C := R_M) (T := T_M) (N := 17) hx hb hts l_M hown hK hP 0 rfl rfl 1 (by decide) (hts _ w_440) (fun _ h9 => h9) rfl d_M_idle_3 ?_
  refine lv_iconst (v := 1) hx hb d_M_idle_6 (by decide) ?_
  refine lv_isub hx hb d_M_idle_7 ?_
  obtain ⟨u8, hu8, h⟩ := bnd h
  refine gcall_i (va_runS (As := [.int x1, .int (0 : Int32), .int ((σ 0 1) - (1 : Int32))]) (rest := []) ⟨hx, hb, hml, hown, hts⟩ (c_M_isIn l D cI cZ tL (wM cI cZ q σ ++ tl) x1 (0 : Int32) ((σ 0 1) - (1 : Int32)) u8 hu8 s.heap.size) (va_cwS 3 hts (gS w_486 w_487 w_6 w_488) rfl rfl rfl (by decide +kernel) ⟨Nat.le_of_ble_eq_true rfl, Nat.le_of_ble_eq_true rfl⟩) (gpS hA hK (hD σ) hE hP hS) rfl rfl hl.1 rfl (lv_room (Nat.le_of_ble_eq_true rfl)) d_M_idle_8 ⟨Nat.le_of_ble_eq_true rfl, Nat.le_of_ble_eq_true rfl⟩) hA (hD σ) hS (fun H locs hP hS => ?_)
  refine lv_if_eq (tgt := 25) hx hb d_M_idle_11 (by decide) (fun c => ?_) (fun c => ?_)
  · have h := ifp c h
    refine lv_bipush (v := -2) hx hb d_M_idle_25 (by decide) ?_
    cases h
    exact gret_i hx hb hr hlk hP hS d_M_idle_27
  have h := ifn c h
  refine lv_aload_n hx hb d_M_idle_14 rfl (lv_at hl 0 rfl) ?_
  refine va_get (D := D) (ci := 5) (v := .ref (q 2)) (C := R_M) (T := T_M) (N := 17) hx hb hts l_M hown hK hP 0 rfl rfl 4 (by decide) (hts _ w_443) (fun _ h9 => h9) rfl d_M_idle_15 ?_
  refine lv_iload_n hx hb d_M_idle_18 rfl (lv_at hl 1 rfl) ?_
  obtain ⟨c, h⟩ := ifs h
  refine va_iald hx hb hK hP 2 0 rfl rfl c d_M_idle_19 ?_
  refine lv_bipush (v := 10) hx hb d_M_idle_20 (by decide) ?_
  refine lv_icmp_eq (tgt := 28) hx hb d_M_idle_22 (by decide) (fun c => ?_) (fun c => ?_)
  · have h := ifp c h
    refine lv_aload_n hx hb d_M_idle_28 rfl (lv_at hl 0 rfl) ?_
    obtain ⟨u29, hu29, h⟩ := bnd h
    refine gcall_v (va_runV (As := []) (rest := []) ⟨hx, hb, hml, hown, hts⟩ (c_M_solve l D cI cZ tL q tl F σ  u29 hu29 H.size) (cwV 0 hts (gV w_516 w_517 w_730 w_6 w_518) rfl rfl rfl (by decide +kernel) ⟨Nat.le_of_ble_eq_true rfl, Nat.le_of_ble_eq_true rfl⟩) (gpV (k := 0) (ci := 5) hA hK (hD σ) hE hP hS rfl rfl) rfl rfl hl.1 rfl (lv_room (Nat.le_of_ble_eq_true rfl)) d_M_idle_29 ⟨Nat.le_of_ble_eq_true rfl, Nat.le_of_ble_eq_true rfl⟩) hA (hD σ) hS (fun H locs hP hS => ?_)
    refine lv_aload_n hx hb d_M_idle_32 rfl (lv_at hl 0 rfl) ?_
    refine lv_iload_n hx hb d_M_idle_33 rfl (lv_at hl 1 rfl) ?_
    obtain ⟨u34, hu34, h⟩ := bnd h
    refine gcall_i (va_runV (As := [.int x1]) (rest := []) ⟨hx, hb, hml, hown, hts⟩ (c_M_isLive l D cI cZ tL q tl u29 x1 u34 hu34 H.size) (cwV 1 hts (gV w_528 w_529 w_711 w_6 w_530) rfl rfl rfl (by decide +kernel) ⟨Nat.le_of_ble_eq_true rfl, Nat.le_of_ble_eq_true rfl⟩) (gpV (k := 0) (ci := 5) hA hK (hD u29) hE hP hS rfl rfl) rfl rfl hl.1 rfl (lv_room (Nat.le_of_ble_eq_true rfl)) d_M_idle_34 ⟨Nat.le_of_ble_eq_true rfl, Nat.le_of_ble_eq_true rfl⟩) hA (hD u29) hS (fun H locs hP hS => ?_)
    refine lv_if_ne (tgt := 44) hx hb d_M_idle_37 (by decide) (fun c => ?_) (fun c => ?_)
    · have h := ifn c h
      refine lv_aload_n hx hb d_M_idle_44 rfl (lv_at hl 0 rfl) ?_
      refine lv_iload_n hx hb d_M_idle_45 rfl (lv_at hl 1 rfl) ?_
      obtain ⟨u46, hu46, h⟩ := bnd h
      refine gcall_i (va_runV (As := [.int x1]) (rest := []) ⟨hx, hb, hml, hown, hts⟩ (c_M_isIdle l D cI cZ tL q tl F u29 x1 u46 hu46 H.size) (cwV 1 hts (gV w_603 w_604 w_708 w_6 w_605) rfl rfl rfl (by decide +kernel) ⟨Nat.le_of_ble_eq_true rfl, Nat.le_of_ble_eq_true rfl⟩) (gpV (k := 0) (ci := 5) hA hK (hD u29) hE hP hS rfl rfl) rfl rfl hl.1 rfl (lv_room (Nat.le_of_ble_eq_true rfl)) d_M_idle_46 ⟨Nat.le_of_ble_eq_true rfl, Nat.le_of_ble_eq_true rfl⟩) hA (hD u29) hS (fun H locs hP hS => ?_)
      refine lv_if_eq (tgt := 56) hx hb d_M_idle_49 (by decide) (fun c => ?_) (fun c => ?_)
      · have h := ifp c h
        refine lv_iconst (v := 0) hx hb d_M_idle_56 (by decide) ?_
        cases h
        exact gret_i hx hb hr hlk hP hS d_M_idle_57
      have h := ifn c h
      refine lv_iconst (v := 1) hx hb d_M_idle_52 (by decide) ?_
      refine lv_goto (tgt := 57) hx hb d_M_idle_53 (by decide) ?_
      cases h
      exact gret_i hx hb hr hlk hP hS d_M_idle_57
    have h := ifp c h
    refine lv_iconst (v := -1) hx hb d_M_idle_40 (by decide) ?_
    refine lv_goto (tgt := 57) hx hb d_M_idle_41 (by decide) ?_
    cases h
    exact gret_i hx hb hr hlk hP hS d_M_idle_57
  have h := ifn c h
  refine lv_bipush (v := -2) hx hb d_M_idle_25 (by decide) ?_
  cases h
  exact gret_i hx hb hr hlk hP hS d_M_idle_27
/-! ===== EscapeOwnersModel.all(I)I ===== -/
def f_M_all_B122 (F : Nat) (σ : St) (rec : Int32 → Int32 → Option (Int32 × Int32)) (y2 : Int32) (y3 : Int32) : Option (Int32 × Int32) := if (σ 0 1) ≤ y3 then (some (y2, y3)) else (Option.bind (f_M_isLive σ y3) (fun u132 => if u132 = 0 then (rec y2 (y3 + (1 : Int32))) else (if ¬ (y3 < 0 ∨ 64 ≤ y3.toNatClampNeg) then (if ((σ 2) y3.toNatClampNeg) = (10 : Int32) then (Option.bind (f_M_isIdle F σ y3) (fun u151 => if u151 = 0 then (rec y2 (y3 + (1 : Int32))) else (rec (y2 + (1 : Int32)) (y3 + (1 : Int32))))) else (rec y2 (y3 + (1 : Int32)))) else none)))
def f_M_all_L122 (F : Nat) (σ : St) : Nat → Int32 → Int32 → Option (Int32 × Int32)
  | 0, _, _ => none
  | fu + 1, y2, y3 => f_M_all_B122 F σ (f_M_all_L122 F σ fu) y2 y3
def f_M_all_B177 (F : Nat) (σ : St) (rec : Int32 → Int32 → Option (Int32 × Int32)) (y2 : Int32) (y3 : Int32) : Option (Int32 × Int32) := if (σ 0 2) ≤ y3 then (some (y2, y3)) else (Option.bind (f_M_levelOf F σ y3) (fun u187 => if u187 ≤ y2 then (rec y2 (y3 + (1 : Int32))) else (Option.bind (f_M_levelOf F σ y3) (fun u196 => rec u196 (y3 + (1 : Int32))))))
def f_M_all_L177 (F : Nat) (σ : St) : Nat → Int32 → Int32 → Option (Int32 × Int32)
  | 0, _, _ => none
  | fu + 1, y2, y3 => f_M_all_B177 F σ (f_M_all_L177 F σ fu) y2 y3
def f_M_all (F : Nat) (σ : St) (x1 : Int32) : Option (Int32 × St) := Option.bind (f_M_isIn x1 (0 : Int32) (12 : Int32)) (fun u4 => if u4 = 0 then (some ((-2 : Int32), σ)) else (Option.bind (f_M_solve F σ) (fun u14 => if x1 = 0 then (some ((u14 0 0), u14)) else if x1 = 1 then (some ((u14 0 1), u14)) else if x1 = 2 then (some ((u14 0 2), u14)) else if x1 = 3 then (some ((u14 0 12), u14)) else if x1 = 4 then (Option.bind (f_M_sitesOf F u14 x1) (fun u214 => some (u214, u14))) else if x1 = 5 then (Option.bind (f_M_sitesOf F u14 x1) (fun u214 => some (u214, u14))) else if x1 = 6 then (Option.bind (f_M_sitesOf F u14 x1) (fun u214 => some (u214, u14))) else if x1 = 7 then (Option.bind (f_M_sitesOf F u14 x1) (fun u214 => some (u214, u14))) else if x1 = 8 then (Option.bind (f_M_sitesOf F u14 x1) (fun u214 => some (u214, u14))) else if x1 = 9 then (Option.bind (f_M_methodsOf F u14 (1 : Int32)) (fun u110 => some (u110, u14))) else if x1 = 10 then (Option.bind (f_M_methodsOf F u14 (0 : Int32)) (fun u116 => some (u116, u14))) else if x1 = 11 then (Option.bind (f_M_all_L122 F u14 F (0 : Int32) (0 : Int32)) (fun u122 => some (u122.1, u14))) else if x1 = 12 then (Option.bind (f_M_all_L177 F u14 F (-1 : Int32) (0 : Int32)) (fun u177 => some (u177.1, u14))) else (Option.bind (f_M_sitesOf F u14 x1) (fun u214 => some (u214, u14))))))
set_option maxHeartbeats 4000000 in
set_option maxRecDepth 100000 in
theorem c_M_all (l : Launch) (D : va_G) (cI cZ : ClassId) (tL : Nat) (q : Nat → Nat) (tl : va_W) (F : Nat) (σ : St) (x1 : Int32) (out0 : Int32 × St) (h : f_M_all F σ x1 = some out0) : gCi l y_M_all (.code y_M_all b_M_all 4 (some .int) :: TB) { frames := 8, cells := 0, slots := 0, locals := 178 } D [(cI, .int), (cZ, .boolean)] tL [.ref (q 0), .int x1] (wM cI cZ q σ ++ tl) out0.1 (wM cI cZ q out0.2 ++ tl) := by
  refine gCi_of (cc := b_M_all) (maxL := 4) (ty := .int) (by decide) rfl (Nat.le_of_ble_eq_true rfl) ?_
  intro p e s m below meth c A ls hf hr hlk hA hK hD0 hE hP hl
  obtain ⟨hx, hb, hml, hown, hts⟩ := id hf
  have hts : ∀ w ∈ TB, w.before _ s = true := fun w h => hts w (List.mem_cons_of_mem _ h)
  have hown : s.vm.findClass R_M = some m.cls := hown
  have hl : lv_has ls 4 [(0, .ref (q 0)), (1, .int x1)] := hl
  have hS : va_S A s.heap s.heap [] := va_S.rf
  have hD : ∀ σ' : St, va_D A (wM cI cZ q σ' ++ tl) := fun σ' => va_Dsame hD0 rfl
  have L122 : ∀ (σ : St) (fu : Nat) (y2 : Int32) (y3 : Int32) (H : Heap) (locs : List Loc) (ls : Array Slot) (out : Int32 × Int32), f_M_all_L122 F σ fu y2 y3 = some out → va_P D vwCl (wM cI cZ q σ ++ tl) H → va_S A s.heap H locs → lv_has ls 4 [(0, .ref (q 0)), (2, .int y2), (3, .int y3)] → (∀ (H : Heap) (locs : List Loc) (ls : Array Slot), va_P D vwCl (wM cI cZ q σ ++ tl) H → va_S A s.heap H locs → lv_has ls 4 [(0, .ref (q 0)), (2, .int out.1), (3, .int out.2)] → W p l e { frames := 8, cells := 0, slots := 0, locals := 178 } s m ([.ref (q 0), .int x1] : List Value).toArray below meth c H locs 0 0 (gQi below D out0.1 (wM cI cZ q out0.2 ++ tl) A (([.ref (q 0), .int x1] : List Value).toArray) s) (F0 m 171 ls [])) → W p l e { frames := 8, cells := 0, slots := 0, locals := 178 } s m ([.ref (q 0), .int x1] : List Value).toArray below meth c H locs 0 0 (gQi below D out0.1 (wM cI cZ q out0.2 ++ tl) A (([.ref (q 0), .int x1] : List Value).toArray) s) (F0 m 122 ls []) := by
    intro σ fu
    induction fu with
    | zero => intro y2 y3 H locs ls out h; exact absurd (show (none : Option (Int32 × Int32)) = some out from h) (fun z => by cases z)
    | succ fu ih =>
      intro y2 y3 H locs ls out h hP hS hl K
      have h : f_M_all_B122 F σ (f_M_all_L122 F σ fu) y2 y3 = some out := h
      unfold f_M_all_B122 at h
      refine lv_iload_n hx hb d_M_all_122 rfl (lv_at hl 2 rfl) ?_
      refine lv_aload_n hx hb d_M_all_123 rfl (lv_at hl 0 rfl) ?_
      refine va_get (D := D) (ci := 5) (v := .int (σ 0 1)) (C := R_M) (T := T_M) (N := 17) hx hb hts l_M hown hK hP 0 rfl rfl 1 (by decide) (hts _ w_440) (fun _ h9 => h9) rfl d_M_all_124 ?_
      refine lv_icmp_ge (tgt := 171) hx hb d_M_all_127 (by decide) (fun c => ?_) (fun c => ?_)
      · have h := ifp c h
        cases h
        exact K _ _ ls hP hS (lv_sub hl [0, 1, 2] rfl)
      have h := ifn c h
      refine lv_aload_n hx hb d_M_all_130 rfl (lv_at hl 0 rfl) ?_
      refine lv_iload_n hx hb d_M_all_131 rfl (lv_at hl 2 rfl) ?_
      obtain ⟨u132, hu132, h⟩ := bnd h
      refine gcall_i (va_runV (As := [.int y3]) (rest := []) ⟨hx, hb, hml, hown, hts⟩ (c_M_isLive l D cI cZ tL q tl σ y3 u132 hu132 H.size) (cwV 1 hts (gV w_528 w_529 w_711 w_6 w_530) rfl rfl rfl (by decide +kernel) ⟨Nat.le_of_ble_eq_true rfl, Nat.le_of_ble_eq_true rfl⟩) (gpV (k := 0) (ci := 5) hA hK (hD σ) hE hP hS rfl rfl) rfl rfl hl.1 rfl (lv_room (Nat.le_of_ble_eq_true rfl)) d_M_all_132 ⟨Nat.le_of_ble_eq_true rfl, Nat.le_of_ble_eq_true rfl⟩) hA (hD σ) hS (fun H locs hP hS => ?_)
      refine lv_if_eq (tgt := 163) hx hb d_M_all_135 (by decide) (fun c => ?_) (fun c => ?_)
      · have h := ifp c h
        refine lv_iload_n hx hb d_M_all_163 rfl (lv_at hl 1 rfl) ?_
        refine lv_istore_n (lv' := [(2, .int y2), (0, .ref (q 0)), (3, .int y3)]) hx hb d_M_all_164 rfl hl (by decide) rfl (fun ls hl => ?_)
        refine lv_iinc (v := (y3 + (1 : Int32))) (lv' := [(3, .int (y3 + (1 : Int32))), (2, .int y2), (0, .ref (q 0))]) hx hb d_M_all_165 hl (k := 2) rfl rfl (by decide) rfl (fun ls hl => ?_)
        refine lv_goto (tgt := 122) hx hb d_M_all_168 (by decide) ?_
        exact ih y2 (y3 + (1 : Int32)) _ _ ls out h hP hS (lv_sub hl [2, 1, 0] rfl) K
      have h := ifn c h
      refine lv_aload_n hx hb d_M_all_138 rfl (lv_at hl 0 rfl) ?_
      refine va_get (D := D) (ci := 5) (v := .ref (q 2)) (C := R_M) (T := T_M) (N := 17) hx hb hts l_M hown hK hP 0 rfl rfl 4 (by decide) (hts _ w_443) (fun _ h9 => h9) rfl d_M_all_139 ?_
      refine lv_iload_n hx hb d_M_all_142 rfl (lv_at hl 2 rfl) ?_
      obtain ⟨c, h⟩ := ifs h
      refine va_iald hx hb hK hP 2 0 rfl rfl c d_M_all_143 ?_
      refine lv_bipush (v := 10) hx hb d_M_all_144 (by decide) ?_
      refine lv_icmp_ne (tgt := 163) hx hb d_M_all_146 (by decide) (fun c => ?_) (fun c => ?_)
      · have h := ifn c h
        refine lv_iload_n hx hb d_M_all_163 rfl (lv_at hl 1 rfl) ?_
        refine lv_istore_n (lv' := [(2, .int y2), (0, .ref (q 0)), (3, .int y3)]) hx hb d_M_all_164 rfl hl (by decide) rfl (fun ls hl => ?_)
        refine lv_iinc (v := (y3 + (1 : Int32))) (lv' := [(3, .int (y3 + (1 : Int32))), (2, .int y2), (0, .ref (q 0))]) hx hb d_M_all_165 hl (k := 2) rfl rfl (by decide) rfl (fun ls hl => ?_)
        refine lv_goto (tgt := 122) hx hb d_M_all_168 (by decide) ?_
        exact ih y2 (y3 + (1 : Int32)) _ _ ls out h hP hS (lv_sub hl [2, 1, 0] rfl) K
      have h := ifp c h
      refine lv_aload_n hx hb d_M_all_149 rfl (lv_at hl 0 rfl) ?_
      refine lv_iload_n hx hb d_M_all_150 rfl (lv_at hl 2 rfl) ?_
      obtain ⟨u151, hu151, h⟩ := bnd h
      refine gcall_i (va_runV (As := [.int y3]) (rest := []) ⟨hx, hb, hml, hown, hts⟩ (c_M_isIdle l D cI cZ tL q tl F σ y3 u151 hu151 H.size) (cwV 1 hts (gV w_603 w_604 w_708 w_6 w_605) rfl rfl rfl (by decide +kernel) ⟨Nat.le_of_ble_eq_true rfl, Nat.le_of_ble_eq_true rfl⟩) (gpV (k := 0) (ci := 5) hA hK (hD σ) hE hP hS rfl rfl) rfl rfl hl.1 rfl (lv_room (Nat.le_of_ble_eq_true rfl)) d_M_all_151 ⟨Nat.le_of_ble_eq_true rfl, Nat.le_of_ble_eq_true rfl⟩) hA (hD σ) hS (fun H locs hP hS => ?_)
      refine lv_if_eq (tgt := 163) hx hb d_M_all_154 (by decide) (fun c => ?_) (fun c => ?_)
      · have h := ifp c h
        refine lv_iload_n hx hb d_M_all_163 rfl (lv_at hl 1 rfl) ?_
        refine lv_istore_n (lv' := [(2, .int y2), (0, .ref (q 0)), (3, .int y3)]) hx hb d_M_all_164 rfl hl (by decide) rfl (fun ls hl => ?_)
        refine lv_iinc (v := (y3 + (1 : Int32))) (lv' := [(3, .int (y3 + (1 : Int32))), (2, .int y2), (0, .ref (q 0))]) hx hb d_M_all_165 hl (k := 2) rfl rfl (by decide) rfl (fun ls hl => ?_)
        refine lv_goto (tgt := 122) hx hb d_M_all_168 (by decide) ?_
        exact ih y2 (y3 + (1 : Int32)) _ _ ls out h hP hS (lv_sub hl [2, 1, 0] rfl) K
      have h := ifn c h
      refine lv_iload_n hx hb d_M_all_157 rfl (lv_at hl 1 rfl) ?_
      refine lv_iconst (v := 1) hx hb d_M_all_158 (by decide) ?_
      refine lv_iadd hx hb d_M_all_159 ?_
      refine lv_goto (tgt := 164) hx hb d_M_all_160 (by decide) ?_
      refine lv_istore_n (lv' := [(2, .int (y2 + (1 : Int32))), (0, .ref (q 0)), (3, .int y3)]) hx hb d_M_all_164 rfl hl (by decide) rfl (fun ls hl => ?_)
      refine lv_iinc (v := (y3 + (1 : Int32))) (lv' := [(3, .int (y3 + (1 : Int32))), (2, .int (y2 + (1 : Int32))), (0, .ref (q 0))]) hx hb d_M_all_165 hl (k := 2) rfl rfl (by decide) rfl (fun ls hl => ?_)
      refine lv_goto (tgt := 122) hx hb d_M_all_168 (by decide) ?_
      exact ih (y2 + (1 : Int32)) (y3 + (1 : Int32)) _ _ ls out h hP hS (lv_sub hl [2, 1, 0] rfl) K
  have L177 : ∀ (σ : St) (fu : Nat) (y2 : Int32) (y3 : Int32) (H : Heap) (locs : List Loc) (ls : Array Slot) (out : Int32 × Int32), f_M_all_L177 F σ fu y2 y3 = some out → va_P D vwCl (wM cI cZ q σ ++ tl) H → va_S A s.heap H locs → lv_has ls 4 [(0, .ref (q 0)), (2, .int y2), (3, .int y3)] → (∀ (H : Heap) (locs : List Loc) (ls : Array Slot), va_P D vwCl (wM cI cZ q σ ++ tl) H → va_S A s.heap H locs → lv_has ls 4 [(0, .ref (q 0)), (2, .int out.1), (3, .int out.2)] → W p l e { frames := 8, cells := 0, slots := 0, locals := 178 } s m ([.ref (q 0), .int x1] : List Value).toArray below meth c H locs 0 0 (gQi below D out0.1 (wM cI cZ q out0.2 ++ tl) A (([.ref (q 0), .int x1] : List Value).toArray) s) (F0 m 210 ls [])) → W p l e { frames := 8, cells := 0, slots := 0, locals := 178 } s m ([.ref (q 0), .int x1] : List Value).toArray below meth c H locs 0 0 (gQi below D out0.1 (wM cI cZ q out0.2 ++ tl) A (([.ref (q 0), .int x1] : List Value).toArray) s) (F0 m 177 ls []) := by
    intro σ fu
    induction fu with
    | zero => intro y2 y3 H locs ls out h; exact absurd (show (none : Option (Int32 × Int32)) = some out from h) (fun z => by cases z)
    | succ fu ih =>
      intro y2 y3 H locs ls out h hP hS hl K
      have h : f_M_all_B177 F σ (f_M_all_L177 F σ fu) y2 y3 = some out := h
      unfold f_M_all_B177 at h
      refine lv_iload_n hx hb d_M_all_177 rfl (lv_at hl 2 rfl) ?_
      refine lv_aload_n hx hb d_M_all_178 rfl (lv_at hl 0 rfl) ?_
      refine va_get (D := D) (ci := 5) (v := .int (σ 0 2)) (C := R_M) (T := T_M) (N := 17) hx hb hts l_M hown hK hP 0 rfl rfl 2 (by decide) (hts _ w_441) (fun _ h9 => h9) rfl d_M_all_179 ?_
      refine lv_icmp_ge (tgt := 210) hx hb d_M_all_182 (by decide) (fun c => ?_) (fun c => ?_)
      · have h := ifp c h
        cases h
        exact K _ _ ls hP hS (lv_sub hl [0, 1, 2] rfl)
      have h := ifn c h
      refine lv_aload_n hx hb d_M_all_185 rfl (lv_at hl 0 rfl) ?_
      refine lv_iload_n hx hb d_M_all_186 rfl (lv_at hl 2 rfl) ?_
      obtain ⟨u187, hu187, h⟩ := bnd h
      refine gcall_i (va_runV (As := [.int y3]) (rest := []) ⟨hx, hb, hml, hown, hts⟩ (c_M_levelOf l D cI cZ tL q tl F σ y3 u187 hu187 H.size) (cwV 1 hts (gV w_576 w_577 w_718 w_6 w_578) rfl rfl rfl (by decide +kernel) ⟨Nat.le_of_ble_eq_true rfl, Nat.le_of_ble_eq_true rfl⟩) (gpV (k := 0) (ci := 5) hA hK (hD σ) hE hP hS rfl rfl) rfl rfl hl.1 rfl (lv_room (Nat.le_of_ble_eq_true rfl)) d_M_all_187 ⟨Nat.le_of_ble_eq_true rfl, Nat.le_of_ble_eq_true rfl⟩) hA (hD σ) hS (fun H locs hP hS => ?_)
      refine lv_iload_n hx hb d_M_all_190 rfl (lv_at hl 1 rfl) ?_
      refine lv_icmp_le (tgt := 202) hx hb d_M_all_191 (by decide) (fun c => ?_) (fun c => ?_)
      · have h := ifp c h
        refine lv_iload_n hx hb d_M_all_202 rfl (lv_at hl 1 rfl) ?_
        refine lv_istore_n (lv' := [(2, .int y2), (0, .ref (q 0)), (3, .int y3)]) hx hb d_M_all_203 rfl hl (by decide) rfl (fun ls hl => ?_)
        refine lv_iinc (v := (y3 + (1 : Int32))) (lv' := [(3, .int (y3 + (1 : Int32))), (2, .int y2), (0, .ref (q 0))]) hx hb d_M_all_204 hl (k := 2) rfl rfl (by decide) rfl (fun ls hl => ?_)
        refine lv_goto (tgt := 177) hx hb d_M_all_207 (by decide) ?_
        exact ih y2 (y3 + (1 : Int32)) _ _ ls out h hP hS (lv_sub hl [2, 1, 0] rfl) K
      have h := ifn c h
      refine lv_aload_n hx hb d_M_all_194 rfl (lv_at hl 0 rfl) ?_
      refine lv_iload_n hx hb d_M_all_195 rfl (lv_at hl 2 rfl) ?_
      obtain ⟨u196, hu196, h⟩ := bnd h
      refine gcall_i (va_runV (As := [.int y3]) (rest := []) ⟨hx, hb, hml, hown, hts⟩ (c_M_levelOf l D cI cZ tL q tl F σ y3 u196 hu196 H.size) (cwV 1 hts (gV w_576 w_577 w_718 w_6 w_578) rfl rfl rfl (by decide +kernel) ⟨Nat.le_of_ble_eq_true rfl, Nat.le_of_ble_eq_true rfl⟩) (gpV (k := 0) (ci := 5) hA hK (hD σ) hE hP hS rfl rfl) rfl rfl hl.1 rfl (lv_room (Nat.le_of_ble_eq_true rfl)) d_M_all_196 ⟨Nat.le_of_ble_eq_true rfl, Nat.le_of_ble_eq_true rfl⟩) hA (hD σ) hS (fun H locs hP hS => ?_)
      refine lv_goto (tgt := 203) hx hb d_M_all_199 (by decide) ?_
      refine lv_istore_n (lv' := [(2, .int u196), (0, .ref (q 0)), (3, .int y3)]) hx hb d_M_all_203 rfl hl (by decide) rfl (fun ls hl => ?_)
      refine lv_iinc (v := (y3 + (1 : Int32))) (lv' := [(3, .int (y3 + (1 : Int32))), (2, .int u196), (0, .ref (q 0))]) hx hb d_M_all_204 hl (k := 2) rfl rfl (by decide) rfl (fun ls hl => ?_)
      refine lv_goto (tgt := 177) hx hb d_M_all_207 (by decide) ?_
      exact ih u196 (y3 + (1 : Int32)) _ _ ls out h hP hS (lv_sub hl [2, 1, 0] rfl) K
  unfold f_M_all at h
  refine lv_iload_n hx hb d_M_all_0 rfl (lv_at hl 1 rfl) ?_
  refine lv_iconst (v := 0) hx hb d_M_all_1 (by decide) ?_
  refine lv_bipush (v := 12) hx hb d_M_all_2 (by decide) ?_
  obtain ⟨u4, hu4, h⟩ := bnd h
  refine gcall_i (va_runS (As := [.int x1, .int (0 : Int32), .int (12 : Int32)]) (rest := []) ⟨hx, hb, hml, hown, hts⟩ (c_M_isIn l D cI cZ tL (wM cI cZ q σ ++ tl) x1 (0 : Int32) (12 : Int32) u4 hu4 s.heap.size) (va_cwS 3 hts (gS w_486 w_487 w_6 w_488) rfl rfl rfl (by decide +kernel) ⟨Nat.le_of_ble_eq_true rfl, Nat.le_of_ble_eq_true rfl⟩) (gpS hA hK (hD σ) hE hP hS) rfl rfl hl.1 rfl (lv_room (Nat.le_of_ble_eq_true rfl)) d_M_all_4 ⟨Nat.le_of_ble_eq_true rfl, Nat.le_of_ble_eq_true rfl⟩) hA (hD σ) hS (fun H locs hP hS => ?_)
  refine lv_if_ne (tgt := 13) hx hb d_M_all_7 (by decide) (fun c => ?_) (fun c => ?_)
  · have h := ifn c h
    refine lv_aload_n hx hb d_M_all_13 rfl (lv_at hl 0 rfl) ?_
    obtain ⟨u14, hu14, h⟩ := bnd h
    refine gcall_v (va_runV (As := []) (rest := []) ⟨hx, hb, hml, hown, hts⟩ (c_M_solve l D cI cZ tL q tl F σ  u14 hu14 H.size) (cwV 0 hts (gV w_516 w_517 w_730 w_6 w_518) rfl rfl rfl (by decide +kernel) ⟨Nat.le_of_ble_eq_true rfl, Nat.le_of_ble_eq_true rfl⟩) (gpV (k := 0) (ci := 5) hA hK (hD σ) hE hP hS rfl rfl) rfl rfl hl.1 rfl (lv_room (Nat.le_of_ble_eq_true rfl)) d_M_all_14 ⟨Nat.le_of_ble_eq_true rfl, Nat.le_of_ble_eq_true rfl⟩) hA (hD σ) hS (fun H locs hP hS => ?_)
    refine lv_iconst (v := 0) hx hb d_M_all_17 (by decide) ?_
    refine lv_istore_n (lv' := [(2, .int (0 : Int32)), (0, .ref (q 0)), (1, .int x1)]) hx hb d_M_all_18 rfl hl (by decide) rfl (fun ls hl => ?_)
    refine lv_iload_n hx hb d_M_all_19 rfl (lv_at hl 2 rfl) ?_
    by_cases c0 : x1 = 0
    · refine lv_tableIn (tgt := 88) hx hb d_M_all_20 (by rw [c0]; decide) (by rw [c0]; decide) (by rw [c0]; rfl) (by decide) ?_
      have h := ifp c0 h
      refine lv_aload_n hx hb d_M_all_88 rfl (lv_at hl 1 rfl) ?_
      refine va_get (D := D) (ci := 5) (v := .int (u14 0 0)) (C := R_M) (T := T_M) (N := 17) hx hb hts l_M hown hK hP 0 rfl rfl 0 (by decide) (hts _ w_439) (fun _ h9 => h9) rfl d_M_all_89 ?_
      cases h
      exact gret_i hx hb hr hlk hP hS d_M_all_92
    have h := ifn c0 h
    by_cases c1 : x1 = 1
    · refine lv_tableIn (tgt := 93) hx hb d_M_all_20 (by rw [c1]; decide) (by rw [c1]; decide) (by rw [c1]; rfl) (by decide) ?_
      have h := ifp c1 h
      refine lv_aload_n hx hb d_M_all_93 rfl (lv_at hl 1 rfl) ?_
      refine va_get (D := D) (ci := 5) (v := .int (u14 0 1)) (C := R_M) (T := T_M) (N := 17) hx hb hts l_M hown hK hP 0 rfl rfl 1 (by decide) (hts _ w_440) (fun _ h9 => h9) rfl d_M_all_94 ?_
      cases h
      exact gret_i hx hb hr hlk hP hS d_M_all_97
    have h := ifn c1 h
    by_cases c2 : x1 = 2
    · refine lv_tableIn (tgt := 98) hx hb d_M_all_20 (by rw [c2]; decide) (by rw [c2]; decide) (by rw [c2]; rfl) (by decide) ?_
      have h := ifp c2 h
      refine lv_aload_n hx hb d_M_all_98 rfl (lv_at hl 1 rfl) ?_
      refine va_get (D := D) (ci := 5) (v := .int (u14 0 2)) (C := R_M) (T := T_M) (N := 17) hx hb hts l_M hown hK hP 0 rfl rfl 2 (by decide) (hts _ w_441) (fun _ h9 => h9) rfl d_M_all_99 ?_
      cases h
      exact gret_i hx hb hr hlk hP hS d_M_all_102
    have h := ifn c2 h
    by_cases c3 : x1 = 3
    · refine lv_tableIn (tgt := 103) hx hb d_M_all_20 (by rw [c3]; decide) (by rw [c3]; decide) (by rw [c3]; rfl) (by decide) ?_
      have h := ifp c3 h
      refine lv_aload_n hx hb d_M_all_103 rfl (lv_at hl 1 rfl) ?_
      refine va_get (D := D) (ci := 5) (v := .int (u14 0 12)) (C := R_M) (T := T_M) (N := 17) hx hb hts l_M hown hK hP 0 rfl rfl 12 (by decide) (hts _ w_451) (fun _ h9 => h9) rfl d_M_all_104 ?_
      cases h
      exact gret_i hx hb hr hlk hP hS d_M_all_107
    have h := ifn c3 h
    by_cases c4 : x1 = 4
    · refine lv_tableIn (tgt := 212) hx hb d_M_all_20 (by rw [c4]; decide) (by rw [c4]; decide) (by rw [c4]; rfl) (by decide) ?_
      have h := ifp c4 h
      refine lv_aload_n hx hb d_M_all_212 rfl (lv_at hl 1 rfl) ?_
      refine lv_iload_n hx hb d_M_all_213 rfl (lv_at hl 2 rfl) ?_
      obtain ⟨u214, hu214, h⟩ := bnd h
      refine gcall_i (va_runV (As := [.int x1]) (rest := []) ⟨hx, hb, hml, hown, hts⟩ (c_M_sitesOf l D cI cZ tL q tl F u14 x1 u214 hu214 H.size) (cwV 1 hts (gV w_630 w_631 w_729 w_6 w_632) rfl rfl rfl (by decide +kernel) ⟨Nat.le_of_ble_eq_true rfl, Nat.le_of_ble_eq_true rfl⟩) (gpV (k := 0) (ci := 5) hA hK (hD u14) hE hP hS rfl rfl) rfl rfl hl.1 rfl (lv_room (Nat.le_of_ble_eq_true rfl)) d_M_all_214 ⟨Nat.le_of_ble_eq_true rfl, Nat.le_of_ble_eq_true rfl⟩) hA (hD u14) hS (fun H locs hP hS => ?_)
      cases h
      exact gret_i hx hb hr hlk hP hS d_M_all_217
    have h := ifn c4 h
    by_cases c5 : x1 = 5
    · refine lv_tableIn (tgt := 212) hx hb d_M_all_20 (by rw [c5]; decide) (by rw [c5]; decide) (by rw [c5]; rfl) (by decide) ?_
      have h := ifp c5 h
      refine lv_aload_n hx hb d_M_all_212 rfl (lv_at hl 1 rfl) ?_
      refine lv_iload_n hx hb d_M_all_213 rfl (lv_at hl 2 rfl) ?_
      obtain ⟨u214, hu214, h⟩ := bnd h
      refine gcall_i (va_runV (As := [.int x1]) (rest := []) ⟨hx, hb, hml, hown, hts⟩ (c_M_sitesOf l D cI cZ tL q tl F u14 x1 u214 hu214 H.size) (cwV 1 hts (gV w_630 w_631 w_729 w_6 w_632) rfl rfl rfl (by decide +kernel) ⟨Nat.le_of_ble_eq_true rfl, Nat.le_of_ble_eq_true rfl⟩) (gpV (k := 0) (ci := 5) hA hK (hD u14) hE hP hS rfl rfl) rfl rfl hl.1 rfl (lv_room (Nat.le_of_ble_eq_true rfl)) d_M_all_214 ⟨Nat.le_of_ble_eq_true rfl, Nat.le_of_ble_eq_true rfl⟩) hA (hD u14) hS (fun H locs hP hS => ?_)
      cases h
      exact gret_i hx hb hr hlk hP hS d_M_all_217
    have h := ifn c5 h
    by_cases c6 : x1 = 6
    · refine lv_tableIn (tgt := 212) hx hb d_M_all_20 (by rw [c6]; decide) (by rw [c6]; decide) (by rw [c6]; rfl) (by decide) ?_
      have h := ifp c6 h
      refine lv_aload_n hx hb d_M_all_212 rfl (lv_at hl 1 rfl) ?_
      refine lv_iload_n hx hb d_M_all_213 rfl (lv_at hl 2 rfl) ?_
      obtain ⟨u214, hu214, h⟩ := bnd h
      refine gcall_i (va_runV (As := [.int x1]) (rest := []) ⟨hx, hb, hml, hown, hts⟩ (c_M_sitesOf l D cI cZ tL q tl F u14 x1 u214 hu214 H.size) (cwV 1 hts (gV w_630 w_631 w_729 w_6 w_632) rfl rfl rfl (by decide +kernel) ⟨Nat.le_of_ble_eq_true rfl, Nat.le_of_ble_eq_true rfl⟩) (gpV (k := 0) (ci := 5) hA hK (hD u14) hE hP hS rfl rfl) rfl rfl hl.1 rfl (lv_room (Nat.le_of_ble_eq_true rfl)) d_M_all_214 ⟨Nat.le_of_ble_eq_true rfl, Nat.le_of_ble_eq_true rfl⟩) hA (hD u14) hS (fun H locs hP hS => ?_)
      cases h
      exact gret_i hx hb hr hlk hP hS d_M_all_217
    have h := ifn c6 h
    by_cases c7 : x1 = 7
    · refine lv_tableIn (tgt := 212) hx hb d_M_all_20 (by rw [c7]; decide) (by rw [c7]; decide) (by rw [c7]; rfl) (by decide) ?_
      have h := ifp c7 h
      refine lv_aload_n hx hb d_M_all_212 rfl (lv_at hl 1 rfl) ?_
      refine lv_iload_n hx hb d_M_all_213 rfl (lv_at hl 2 rfl) ?_
      obtain ⟨u214, hu214, h⟩ := bnd h
      refine gcall_i (va_runV (As := [.int x1]) (rest := []) ⟨hx, hb, hml, hown, hts⟩ (c_M_sitesOf l D cI cZ tL q tl F u14 x1 u214 hu214 H.size) (cwV 1 hts (gV w_630 w_631 w_729 w_6 w_632) rfl rfl rfl (by decide +kernel) ⟨Nat.le_of_ble_eq_true rfl, Nat.le_of_ble_eq_true rfl⟩) (gpV (k := 0) (ci := 5) hA hK (hD u14) hE hP hS rfl rfl) rfl rfl hl.1 rfl (lv_room (Nat.le_of_ble_eq_true rfl)) d_M_all_214 ⟨Nat.le_of_ble_eq_true rfl, Nat.le_of_ble_eq_true rfl⟩) hA (hD u14) hS (fun H locs hP hS => ?_)
      cases h
      exact gret_i hx hb hr hlk hP hS d_M_all_217
    have h := ifn c7 h
    by_cases c8 : x1 = 8
    · refine lv_tableIn (tgt := 212) hx hb d_M_all_20 (by rw [c8]; decide) (by rw [c8]; decide) (by rw [c8]; rfl) (by decide) ?_
      have h := ifp c8 h
      refine lv_aload_n hx hb d_M_all_212 rfl (lv_at hl 1 rfl) ?_
      refine lv_iload_n hx hb d_M_all_213 rfl (lv_at hl 2 rfl) ?_
      obtain ⟨u214, hu214, h⟩ := bnd h
      refine gcall_i (va_runV (As := [.int x1]) (rest := []) ⟨hx, hb, hml, hown, hts⟩ (c_M_sitesOf l D cI cZ tL q tl F u14 x1 u214 hu214 H.size) (cwV 1 hts (gV w_630 w_631 w_729 w_6 w_632) rfl rfl rfl (by decide +kernel) ⟨Nat.le_of_ble_eq_true rfl, Nat.le_of_ble_eq_true rfl⟩) (gpV (k := 0) (ci := 5) hA hK (hD u14) hE hP hS rfl rfl) rfl rfl hl.1 rfl (lv_room (Nat.le_of_ble_eq_true rfl)) d_M_all_214 ⟨Nat.le_of_ble_eq_true rfl, Nat.le_of_ble_eq_true rfl⟩) hA (hD u14) hS (fun H locs hP hS => ?_)
      cases h
      exact gret_i hx hb hr hlk hP hS d_M_all_217
    have h := ifn c8 h
    by_cases c9 : x1 = 9
    · refine lv_tableIn (tgt := 108) hx hb d_M_all_20 (by rw [c9]; decide) (by rw [c9]; decide) (by rw [c9]; rfl) (by decide) ?_
      have h := ifp c9 h
      refine lv_aload_n hx hb d_M_all_108 rfl (lv_at hl 1 rfl) ?_
      refine lv_iconst (v := 1) hx hb d_M_all_109 (by decide) ?_
      obtain ⟨u110, hu110, h⟩ := bnd h
      refine gcall_i (va_runV (As := [.int (1 : Int32)]) (rest := []) ⟨hx, hb, hml, hown, hts⟩ (c_M_methodsOf l D cI cZ tL q tl F u14 (1 : Int32) u110 hu110 H.size) (cwV 1 hts (gV w_615 w_616 w_722 w_6 w_617) rfl rfl rfl (by decide +kernel) ⟨Nat.le_of_ble_eq_true rfl, Nat.le_of_ble_eq_true rfl⟩) (gpV (k := 0) (ci := 5) hA hK (hD u14) hE hP hS rfl rfl) rfl rfl hl.1 rfl (lv_room (Nat.le_of_ble_eq_true rfl)) d_M_all_110 ⟨Nat.le_of_ble_eq_true rfl, Nat.le_of_ble_eq_true rfl⟩) hA (hD u14) hS (fun H locs hP hS => ?_)
      cases h
      exact gret_i hx hb hr hlk hP hS d_M_all_113
    have h := ifn c9 h
    by_cases c10 : x1 = 10
    · refine lv_tableIn (tgt := 114) hx hb d_M_all_20 (by rw [c10]; decide) (by rw [c10]; decide) (by rw [c10]; rfl) (by decide) ?_
      have h := ifp c10 h
      refine lv_aload_n hx hb d_M_all_114 rfl (lv_at hl 1 rfl) ?_
      refine lv_iconst (v := 0) hx hb d_M_all_115 (by decide) ?_
      obtain ⟨u116, hu116, h⟩ := bnd h
      refine gcall_i (va_runV (As := [.int (0 : Int32)]) (rest := []) ⟨hx, hb, hml, hown, hts⟩ (c_M_methodsOf l D cI cZ tL q tl F u14 (0 : Int32) u116 hu116 H.size) (cwV 1 hts (gV w_615 w_616 w_722 w_6 w_617) rfl rfl rfl (by decide +kernel) ⟨Nat.le_of_ble_eq_true rfl, Nat.le_of_ble_eq_true rfl⟩) (gpV (k := 0) (ci := 5) hA hK (hD u14) hE hP hS rfl rfl) rfl rfl hl.1 rfl (lv_room (Nat.le_of_ble_eq_true rfl)) d_M_all_116 ⟨Nat.le_of_ble_eq_true rfl, Nat.le_of_ble_eq_true rfl⟩) hA (hD u14) hS (fun H locs hP hS => ?_)
      cases h
      exact gret_i hx hb hr hlk hP hS d_M_all_119
    have h := ifn c10 h
    by_cases c11 : x1 = 11
    · refine lv_tableIn (tgt := 120) hx hb d_M_all_20 (by rw [c11]; decide) (by rw [c11]; decide) (by rw [c11]; rfl) (by decide) ?_
      have h := ifp c11 h
      refine lv_iconst (v := 0) hx hb d_M_all_120 (by decide) ?_
      refine lv_istore_n (lv' := [(3, .int (0 : Int32)), (2, .int (0 : Int32)), (0, .ref (q 0)), (1, .int x1)]) hx hb d_M_all_121 rfl hl (by decide) rfl (fun ls hl => ?_)
      obtain ⟨u122, hu122, h⟩ := bnd h
      refine L122 u14 F (0 : Int32) (0 : Int32) _ _ ls u122 hu122 hP hS (lv_sub hl [2, 1, 0] rfl) (fun H locs ls hP hS hl => ?_)
      refine lv_iload_n hx hb d_M_all_171 rfl (lv_at hl 1 rfl) ?_
      cases h
      exact gret_i hx hb hr hlk hP hS d_M_all_172
    have h := ifn c11 h
    by_cases c12 : x1 = 12
    · refine lv_tableIn (tgt := 173) hx hb d_M_all_20 (by rw [c12]; decide) (by rw [c12]; decide) (by rw [c12]; rfl) (by decide) ?_
      have h := ifp c12 h
      refine lv_iconst (v := -1) hx hb d_M_all_173 (by decide) ?_
      refine lv_istore_n (lv' := [(2, .int (-1 : Int32)), (0, .ref (q 0)), (1, .int x1)]) hx hb d_M_all_174 rfl hl (by decide) rfl (fun ls hl => ?_)
      refine lv_iconst (v := 0) hx hb d_M_all_175 (by decide) ?_
      refine lv_istore_n (lv' := [(3, .int (0 : Int32)), (2, .int (-1 : Int32)), (0, .ref (q 0)), (1, .int x1)]) hx hb d_M_all_176 rfl hl (by decide) rfl (fun ls hl => ?_)
      obtain ⟨u177, hu177, h⟩ := bnd h
      refine L177 u14 F (-1 : Int32) (0 : Int32) _ _ ls u177 hu177 hP hS (lv_sub hl [2, 1, 0] rfl) (fun H locs ls hP hS hl => ?_)
      refine lv_iload_n hx hb d_M_all_210 rfl (lv_at hl 1 rfl) ?_
      cases h
      exact gret_i hx hb hr hlk hP hS d_M_all_211
    have h := ifn c12 h
    refine lv_tableOut (tgt := 212) hx hb d_M_all_20 (by have e0 := lv_neT (a := 0) c0 (by decide); have e1 := lv_neT (a := 1) c1 (by decide); have e2 := lv_neT (a := 2) c2 (by decide); have e3 := lv_neT (a := 3) c3 (by decide); have e4 := lv_neT (a := 4) c4 (by decide); have e5 := lv_neT (a := 5) c5 (by decide); have e6 := lv_neT (a := 6) c6 (by decide); have e7 := lv_neT (a := 7) c7 (by decide); have e8 := lv_neT (a := 8) c8 (by decide); have e9 := lv_neT (a := 9) c9 (by decide); have e10 := lv_neT (a := 10) c10 (by decide); have e11 := lv_neT (a := 11) c11 (by decide); have e12 := lv_neT (a := 12) c12 (by decide); omega) (by decide) ?_
    refine lv_aload_n hx hb d_M_all_212 rfl (lv_at hl 1 rfl) ?_
    refine lv_iload_n hx hb d_M_all_213 rfl (lv_at hl 2 rfl) ?_
    obtain ⟨u214, hu214, h⟩ := bnd h
    refine gcall_i (va_runV (As := [.int x1]) (rest := []) ⟨hx, hb, hml, hown, hts⟩ (c_M_sitesOf l D cI cZ tL q tl F u14 x1 u214 hu214 H.size) (cwV 1 hts (gV w_630 w_631 w_729 w_6 w_632) rfl rfl rfl (by decide +kernel) ⟨Nat.le_of_ble_eq_true rfl, Nat.le_of_ble_eq_true rfl⟩) (gpV (k := 0) (ci := 5) hA hK (hD u14) hE hP hS rfl rfl) rfl rfl hl.1 rfl (lv_room (Nat.le_of_ble_eq_true rfl)) d_M_all_214 ⟨Nat.le_of_ble_eq_true rfl, Nat.le_of_ble_eq_true rfl⟩) hA (hD u14) hS (fun H locs hP hS => ?_)
    cases h
    exact gret_i hx hb hr hlk hP hS d_M_all_217
  have h := ifp c h
  refine lv_bipush (v := -2) hx hb d_M_all_10 (by decide) ?_
  cases h
  exact gret_i hx hb hr hlk hP hS d_M_all_12
/-! ===== EscapeOwnersModel.meet(IIII)I ===== -/
def f_M_meet (F : Nat) (σ : St) (x1 : Int32) (x2 : Int32) (x3 : Int32) (x4 : Int32) : Option (Int32 × St) := Option.bind (f_M_isMethod σ x1) (fun u2 => if u2 = 0 then (some ((-2 : Int32), σ)) else (Option.bind (f_M_isName x2) (fun u9 => if u9 = 0 then (some ((-2 : Int32), σ)) else (Option.bind (f_M_isMethod σ x3) (fun u17 => if u17 = 0 then (some ((-2 : Int32), σ)) else (Option.bind (f_M_isName x4) (fun u25 => if u25 = 0 then (some ((-2 : Int32), σ)) else (Option.bind (f_M_solve F σ) (fun u35 => Option.bind (f_M_name u35 x1 x2) (fun u41 => Option.bind (f_M_name u35 x3 x4) (fun u48 => if (u41 &&& u48) = 0 then (some ((0 : Int32), u35)) else (some ((1 : Int32), u35)))))))))))))
set_option maxHeartbeats 4000000 in
set_option maxRecDepth 100000 in
theorem c_M_meet (l : Launch) (D : va_G) (cI cZ : ClassId) (tL : Nat) (q : Nat → Nat) (tl : va_W) (F : Nat) (σ : St) (x1 : Int32) (x2 : Int32) (x3 : Int32) (x4 : Int32) (out0 : Int32 × St) (h : f_M_meet F σ x1 x2 x3 x4 = some out0) : gCi l y_M_meet (.code y_M_meet b_M_meet 5 (some .int) :: TB) { frames := 4, cells := 0, slots := 0, locals := 94 } D [(cI, .int), (cZ, .boolean)] tL [.ref (q 0), .int x1, .int x2, .int x3, .int x4] (wM cI cZ q σ ++ tl) out0.1 (wM cI cZ q out0.2 ++ tl) := by
  refine gCi_of (cc := b_M_meet) (maxL := 5) (ty := .int) (by decide) rfl (Nat.le_of_ble_eq_true rfl) ?_
  intro p e s m below meth c A ls hf hr hlk hA hK hD0 hE hP hl
  obtain ⟨hx, hb, hml, hown, hts⟩ := id hf
  have hts : ∀ w ∈ TB, w.before _ s = true := fun w h => hts w (List.mem_cons_of_mem _ h)
  have hown : s.vm.findClass R_M = some m.cls := hown
  have hl : lv_has ls 5 [(0, .ref (q 0)), (1, .int x1), (2, .int x2), (3, .int x3), (4, .int x4)] := hl
  have hS : va_S A s.heap s.heap [] := va_S.rf
  have hD : ∀ σ' : St, va_D A (wM cI cZ q σ' ++ tl) := fun σ' => va_Dsame hD0 rfl
  unfold f_M_meet at h
  refine lv_aload_n hx hb d_M_meet_0 rfl (lv_at hl 0 rfl) ?_
  refine lv_iload_n hx hb d_M_meet_1 rfl (lv_at hl 1 rfl) ?_
  obtain ⟨u2, hu2, h⟩ := bnd h
  refine gcall_i (va_runV (As := [.int x1]) (rest := []) ⟨hx, hb, hml, hown, hts⟩ (c_M_isMethod l D cI cZ tL q tl σ x1 u2 hu2 s.heap.size) (cwV 1 hts (gV w_483 w_484 w_714 w_6 w_485) rfl rfl rfl (by decide +kernel) ⟨Nat.le_of_ble_eq_true rfl, Nat.le_of_ble_eq_true rfl⟩) (gpV (k := 0) (ci := 5) hA hK (hD σ) hE hP hS rfl rfl) rfl rfl hl.1 rfl (lv_room (Nat.le_of_ble_eq_true rfl)) d_M_meet_2 ⟨Nat.le_of_ble_eq_true rfl, Nat.le_of_ble_eq_true rfl⟩) hA (hD σ) hS (fun H locs hP hS => ?_)
  refine lv_if_eq (tgt := 31) hx hb d_M_meet_5 (by decide) (fun c => ?_) (fun c => ?_)
  · have h := ifp c h
    refine lv_bipush (v := -2) hx hb d_M_meet_31 (by decide) ?_
    cases h
    exact gret_i hx hb hr hlk hP hS d_M_meet_33
  have h := ifn c h
  refine lv_iload_n hx hb d_M_meet_8 rfl (lv_at hl 2 rfl) ?_
  obtain ⟨u9, hu9, h⟩ := bnd h
  refine gcall_i (va_runS (As := [.int x2]) (rest := []) ⟨hx, hb, hml, hown, hts⟩ (c_M_isName l D cI cZ tL (wM cI cZ q σ ++ tl) x2 u9 hu9 H.size) (va_cwS 1 hts (gS w_495 w_496 w_6 w_497) rfl rfl rfl (by decide +kernel) ⟨Nat.le_of_ble_eq_true rfl, Nat.le_of_ble_eq_true rfl⟩) (gpS hA hK (hD σ) hE hP hS) rfl rfl hl.1 rfl (lv_room (Nat.le_of_ble_eq_true rfl)) d_M_meet_9 ⟨Nat.le_of_ble_eq_true rfl, Nat.le_of_ble_eq_true rfl⟩) hA (hD σ) hS (fun H locs hP hS => ?_)
  refine lv_if_eq (tgt := 31) hx hb d_M_meet_12 (by decide) (fun c => ?_) (fun c => ?_)
  · have h := ifp c h
    refine lv_bipush (v := -2) hx hb d_M_meet_31 (by decide) ?_
    cases h
    exact gret_i hx hb hr hlk hP hS d_M_meet_33
  have h := ifn c h
  refine lv_aload_n hx hb d_M_meet_15 rfl (lv_at hl 0 rfl) ?_
  refine lv_iload_n hx hb d_M_meet_16 rfl (lv_at hl 3 rfl) ?_
  obtain ⟨u17, hu17, h⟩ := bnd h
  refine gcall_i (va_runV (As := [.int x3]) (rest := []) ⟨hx, hb, hml, hown, hts⟩ (c_M_isMethod l D cI cZ tL q tl σ x3 u17 hu17 H.size) (cwV 1 hts (gV w_483 w_484 w_714 w_6 w_485) rfl rfl rfl (by decide +kernel) ⟨Nat.le_of_ble_eq_true rfl, Nat.le_of_ble_eq_true rfl⟩) (gpV (k := 0) (ci := 5) hA hK (hD σ) hE hP hS rfl rfl) rfl rfl hl.1 rfl (lv_room (Nat.le_of_ble_eq_true rfl)) d_M_meet_17 ⟨Nat.le_of_ble_eq_true rfl, Nat.le_of_ble_eq_true rfl⟩) hA (hD σ) hS (fun H locs hP hS => ?_)
  refine lv_if_eq (tgt := 31) hx hb d_M_meet_20 (by decide) (fun c => ?_) (fun c => ?_)
  · have h := ifp c h
    refine lv_bipush (v := -2) hx hb d_M_meet_31 (by decide) ?_
    cases h
    exact gret_i hx hb hr hlk hP hS d_M_meet_33
  have h := ifn c h
  refine lv_iload hx hb d_M_meet_23 (lv_at hl 4 rfl) ?_
  obtain ⟨u25, hu25, h⟩ := bnd h
  refine gcall_i (va_runS (As := [.int x4]) (rest := []) ⟨hx, hb, hml, hown, hts⟩ (c_M_isName l D cI cZ tL (wM cI cZ q σ ++ tl) x4 u25 hu25 H.size) (va_cwS 1 hts (gS w_495 w_496 w_6 w_497) rfl rfl rfl (by decide +kernel) ⟨Nat.le_of_ble_eq_true rfl, Nat.le_of_ble_eq_true rfl⟩) (gpS hA hK (hD σ) hE hP hS) rfl rfl hl.1 rfl (lv_room (Nat.le_of_ble_eq_true rfl)) d_M_meet_25 ⟨Nat.le_of_ble_eq_true rfl, Nat.le_of_ble_eq_true rfl⟩) hA (hD σ) hS (fun H locs hP hS => ?_)
  refine lv_if_ne (tgt := 34) hx hb d_M_meet_28 (by decide) (fun c => ?_) (fun c => ?_)
  · have h := ifn c h
    refine lv_aload_n hx hb d_M_meet_34 rfl (lv_at hl 0 rfl) ?_
    obtain ⟨u35, hu35, h⟩ := bnd h
    refine gcall_v (va_runV (As := []) (rest := []) ⟨hx, hb, hml, hown, hts⟩ (c_M_solve l D cI cZ tL q tl F σ  u35 hu35 H.size) (cwV 0 hts (gV w_516 w_517 w_730 w_6 w_518) rfl rfl rfl (by decide +kernel) ⟨Nat.le_of_ble_eq_true rfl, Nat.le_of_ble_eq_true rfl⟩) (gpV (k := 0) (ci := 5) hA hK (hD σ) hE hP hS rfl rfl) rfl rfl hl.1 rfl (lv_room (Nat.le_of_ble_eq_true rfl)) d_M_meet_35 ⟨Nat.le_of_ble_eq_true rfl, Nat.le_of_ble_eq_true rfl⟩) hA (hD σ) hS (fun H locs hP hS => ?_)
    refine lv_aload_n hx hb d_M_meet_38 rfl (lv_at hl 0 rfl) ?_
    refine lv_iload_n hx hb d_M_meet_39 rfl (lv_at hl 1 rfl) ?_
    refine lv_iload_n hx hb d_M_meet_40 rfl (lv_at hl 2 rfl) ?_
    obtain ⟨u41, hu41, h⟩ := bnd h
    refine gcall_i (va_runV (As := [.int x1, .int x2]) (rest := []) ⟨hx, hb, hml, hown, hts⟩ (c_M_name l D cI cZ tL q tl u35 x1 x2 u41 hu41 H.size) (cwV 2 hts (gV w_537 w_538 w_723 w_6 w_539) rfl rfl rfl (by decide +kernel) ⟨Nat.le_of_ble_eq_true rfl, Nat.le_of_ble_eq_true rfl⟩) (gpV (k := 0) (ci := 5) hA hK (hD u35) hE hP hS rfl rfl) rfl rfl hl.1 rfl (lv_room (Nat.le_of_ble_eq_true rfl)) d_M_meet_41 ⟨Nat.le_of_ble_eq_true rfl, Nat.le_of_ble_eq_true rfl⟩) hA (hD u35) hS (fun H locs hP hS => ?_)
    refine lv_aload_n hx hb d_M_meet_44 rfl (lv_at hl 0 rfl) ?_
    refine lv_iload_n hx hb d_M_meet_45 rfl (lv_at hl 3 rfl) ?_
    refine lv_iload hx hb d_M_meet_46 (lv_at hl 4 rfl) ?_
    obtain ⟨u48, hu48, h⟩ := bnd h
    refine gcall_i (va_runV (As := [.int x3, .int x4]) (rest := [.int u41]) ⟨hx, hb, hml, hown, hts⟩ (c_M_name l D cI cZ tL q tl u35 x3 x4 u48 hu48 H.size) (cwV 2 hts (gV w_537 w_538 w_723 w_6 w_539) rfl rfl rfl (by decide +kernel) ⟨Nat.le_of_ble_eq_true rfl, Nat.le_of_ble_eq_true rfl⟩) (gpV (k := 0) (ci := 5) hA hK (hD u35) hE hP hS rfl rfl) rfl rfl hl.1 rfl (lv_room (Nat.le_of_ble_eq_true rfl)) d_M_meet_48 ⟨Nat.le_of_ble_eq_true rfl, Nat.le_of_ble_eq_true rfl⟩) hA (hD u35) hS (fun H locs hP hS => ?_)
    refine lv_iand hx hb d_M_meet_51 ?_
    refine lv_if_eq (tgt := 59) hx hb d_M_meet_52 (by decide) (fun c => ?_) (fun c => ?_)
    · have h := ifp c h
      refine lv_iconst (v := 0) hx hb d_M_meet_59 (by decide) ?_
      cases h
      exact gret_i hx hb hr hlk hP hS d_M_meet_60
    have h := ifn c h
    refine lv_iconst (v := 1) hx hb d_M_meet_55 (by decide) ?_
    refine lv_goto (tgt := 60) hx hb d_M_meet_56 (by decide) ?_
    cases h
    exact gret_i hx hb hr hlk hP hS d_M_meet_60
  have h := ifp c h
  refine lv_bipush (v := -2) hx hb d_M_meet_31 (by decide) ?_
  cases h
  exact gret_i hx hb hr hlk hP hS d_M_meet_33
/-! ===== EscapeOwnersModel.reach(II)I ===== -/
def f_M_reach (F : Nat) (σ : St) (x1 : Int32) (x2 : Int32) : Option (Int32 × St) := Option.bind (f_M_isMethod σ x1) (fun u2 => if u2 = 0 then (some ((-2 : Int32), σ)) else (Option.bind (f_M_isName x2) (fun u9 => if u9 = 0 then (some ((-2 : Int32), σ)) else (Option.bind (f_M_solve F σ) (fun u19 => Option.bind (f_M_name u19 x1 x2) (fun u26 => Option.bind (f_M_closed F u19 u26) (fun u29 => some (u29, u19))))))))
set_option maxHeartbeats 4000000 in
set_option maxRecDepth 100000 in
theorem c_M_reach (l : Launch) (D : va_G) (cI cZ : ClassId) (tL : Nat) (q : Nat → Nat) (tl : va_W) (F : Nat) (σ : St) (x1 : Int32) (x2 : Int32) (out0 : Int32 × St) (h : f_M_reach F σ x1 x2 = some out0) : gCi l y_M_reach (.code y_M_reach b_M_reach 3 (some .int) :: TB) { frames := 4, cells := 0, slots := 0, locals := 94 } D [(cI, .int), (cZ, .boolean)] tL [.ref (q 0), .int x1, .int x2] (wM cI cZ q σ ++ tl) out0.1 (wM cI cZ q out0.2 ++ tl) := by
  refine gCi_of (cc := b_M_reach) (maxL := 3) (ty := .int) (by decide) rfl (Nat.le_of_ble_eq_true rfl) ?_
  intro p e s m below meth c A ls hf hr hlk hA hK hD0 hE hP hl
  obtain ⟨hx, hb, hml, hown, hts⟩ := id hf
  have hts : ∀ w ∈ TB, w.before _ s = true := fun w h => hts w (List.mem_cons_of_mem _ h)
  have hown : s.vm.findClass R_M = some m.cls := hown
  have hl : lv_has ls 3 [(0, .ref (q 0)), (1, .int x1), (2, .int x2)] := hl
  have hS : va_S A s.heap s.heap [] := va_S.rf
  have hD : ∀ σ' : St, va_D A (wM cI cZ q σ' ++ tl) := fun σ' => va_Dsame hD0 rfl
  unfold f_M_reach at h
  refine lv_aload_n hx hb d_M_reach_0 rfl (lv_at hl 0 rfl) ?_
  refine lv_iload_n hx hb d_M_reach_1 rfl (lv_at hl 1 rfl) ?_
  obtain ⟨u2, hu2, h⟩ := bnd h
  refine gcall_i (va_runV (As := [.int x1]) (rest := []) ⟨hx, hb, hml, hown, hts⟩ (c_M_isMethod l D cI cZ tL q tl σ x1 u2 hu2 s.heap.size) (cwV 1 hts (gV w_483 w_484 w_714 w_6 w_485) rfl rfl rfl (by decide +kernel) ⟨Nat.le_of_ble_eq_true rfl, Nat.le_of_ble_eq_true rfl⟩) (gpV (k := 0) (ci := 5) hA hK (hD σ) hE hP hS rfl rfl) rfl rfl hl.1 rfl (lv_room (Nat.le_of_ble_eq_true rfl)) d_M_reach_2 ⟨Nat.le_of_ble_eq_true rfl, Nat.le_of_ble_eq_true rfl⟩) hA (hD σ) hS (fun H locs hP hS => ?_)
  refine lv_if_eq (tgt := 15) hx hb d_M_reach_5 (by decide) (fun c => ?_) (fun c => ?_)
  · have h := ifp c h
    refine lv_bipush (v := -2) hx hb d_M_reach_15 (by decide) ?_
    cases h
    exact gret_i hx hb hr hlk hP hS d_M_reach_17
  have h := ifn c h
  refine lv_iload_n hx hb d_M_reach_8 rfl (lv_at hl 2 rfl) ?_
  obtain ⟨u9, hu9, h⟩ := bnd h
  refine gcall_i (va_runS (As := [.int x2]) (rest := []) ⟨hx, hb, hml, hown, hts⟩ (c_M_isName l D cI cZ tL (wM cI cZ q σ ++ tl) x2 u9 hu9 H.size) (va_cwS 1 hts (gS w_495 w_496 w_6 w_497) rfl rfl rfl (by decide +kernel) ⟨Nat.le_of_ble_eq_true rfl, Nat.le_of_ble_eq_true rfl⟩) (gpS hA hK (hD σ) hE hP hS) rfl rfl hl.1 rfl (lv_room (Nat.le_of_ble_eq_true rfl)) d_M_reach_9 ⟨Nat.le_of_ble_eq_true rfl, Nat.le_of_ble_eq_true rfl⟩) hA (hD σ) hS (fun H locs hP hS => ?_)
  refine lv_if_ne (tgt := 18) hx hb d_M_reach_12 (by decide) (fun c => ?_) (fun c => ?_)
  · have h := ifn c h
    refine lv_aload_n hx hb d_M_reach_18 rfl (lv_at hl 0 rfl) ?_
    obtain ⟨u19, hu19, h⟩ := bnd h
    refine gcall_v (va_runV (As := []) (rest := []) ⟨hx, hb, hml, hown, hts⟩ (c_M_solve l D cI cZ tL q tl F σ  u19 hu19 H.size) (cwV 0 hts (gV w_516 w_517 w_730 w_6 w_518) rfl rfl rfl (by decide +kernel) ⟨Nat.le_of_ble_eq_true rfl, Nat.le_of_ble_eq_true rfl⟩) (gpV (k := 0) (ci := 5) hA hK (hD σ) hE hP hS rfl rfl) rfl rfl hl.1 rfl (lv_room (Nat.le_of_ble_eq_true rfl)) d_M_reach_19 ⟨Nat.le_of_ble_eq_true rfl, Nat.le_of_ble_eq_true rfl⟩) hA (hD σ) hS (fun H locs hP hS => ?_)
    refine lv_aload_n hx hb d_M_reach_22 rfl (lv_at hl 0 rfl) ?_
    refine lv_aload_n hx hb d_M_reach_23 rfl (lv_at hl 0 rfl) ?_
    refine lv_iload_n hx hb d_M_reach_24 rfl (lv_at hl 1 rfl) ?_
    refine lv_iload_n hx hb d_M_reach_25 rfl (lv_at hl 2 rfl) ?_
    obtain ⟨u26, hu26, h⟩ := bnd h
    refine gcall_i (va_runV (As := [.int x1, .int x2]) (rest := [.ref (q 0)]) ⟨hx, hb, hml, hown, hts⟩ (c_M_name l D cI cZ tL q tl u19 x1 x2 u26 hu26 H.size) (cwV 2 hts (gV w_537 w_538 w_723 w_6 w_539) rfl rfl rfl (by decide +kernel) ⟨Nat.le_of_ble_eq_true rfl, Nat.le_of_ble_eq_true rfl⟩) (gpV (k := 0) (ci := 5) hA hK (hD u19) hE hP hS rfl rfl) rfl rfl hl.1 rfl (lv_room (Nat.le_of_ble_eq_true rfl)) d_M_reach_26 ⟨Nat.le_of_ble_eq_true rfl, Nat.le_of_ble_eq_true rfl⟩) hA (hD u19) hS (fun H locs hP hS => ?_)
    obtain ⟨u29, hu29, h⟩ := bnd h
    refine gcall_i (va_runV (As := [.int u26]) (rest := []) ⟨hx, hb, hml, hown, hts⟩ (c_M_closed l D cI cZ tL q tl F u19 u26 u29 hu29 H.size) (cwV 1 hts (gV w_609 w_610 w_699 w_6 w_611) rfl rfl rfl (by decide +kernel) ⟨Nat.le_of_ble_eq_true rfl, Nat.le_of_ble_eq_true rfl⟩) (gpV (k := 0) (ci := 5) hA hK (hD u19) hE hP hS rfl rfl) rfl rfl hl.1 rfl (lv_room (Nat.le_of_ble_eq_true rfl)) d_M_reach_29 ⟨Nat.le_of_ble_eq_true rfl, Nat.le_of_ble_eq_true rfl⟩) hA (hD u19) hS (fun H locs hP hS => ?_)
    cases h
    exact gret_i hx hb hr hlk hP hS d_M_reach_32
  have h := ifp c h
  refine lv_bipush (v := -2) hx hb d_M_reach_15 (by decide) ?_
  cases h
  exact gret_i hx hb hr hlk hP hS d_M_reach_17
/-! ===== EscapeOwnersModel.mark(II)V ===== -/
def f_M_mark (σ : St) (x1 : Int32) (x2 : Int32) : Option (St) := if (σ 0 16) = 0 then (if ¬ ((((8 : Int32) * x1) + x2) < 0 ∨ 64 ≤ (((8 : Int32) * x1) + x2).toNatClampNeg) then (if ((σ 10) (((8 : Int32) * x1) + x2).toNatClampNeg) = 0 then (lett (su σ 0 16 (1 : Int32)) (fun s27 => if ¬ ((((8 : Int32) * x1) + x2) < 0 ∨ 64 ≤ (((8 : Int32) * x1) + x2).toNatClampNeg) then (lett (sr s27 10 (upd (s27 10) (((8 : Int32) * x1) + x2).toNatClampNeg (1 : Int32))) (fun s41 => some s41)) else none)) else (lett (su σ 0 16 (0 : Int32)) (fun s27 => if ¬ ((((8 : Int32) * x1) + x2) < 0 ∨ 64 ≤ (((8 : Int32) * x1) + x2).toNatClampNeg) then (lett (sr s27 10 (upd (s27 10) (((8 : Int32) * x1) + x2).toNatClampNeg (1 : Int32))) (fun s41 => some s41)) else none))) else none) else (lett (su σ 0 16 (1 : Int32)) (fun s27 => if ¬ ((((8 : Int32) * x1) + x2) < 0 ∨ 64 ≤ (((8 : Int32) * x1) + x2).toNatClampNeg) then (lett (sr s27 10 (upd (s27 10) (((8 : Int32) * x1) + x2).toNatClampNeg (1 : Int32))) (fun s41 => some s41)) else none))
set_option maxHeartbeats 4000000 in
set_option maxRecDepth 100000 in
theorem c_M_mark (l : Launch) (D : va_G) (cI cZ : ClassId) (tL : Nat) (q : Nat → Nat) (tl : va_W) (σ : St) (x1 : Int32) (x2 : Int32) (out0 : St) (h : f_M_mark σ x1 x2 = some out0) : gCv l y_M_mark (.code y_M_mark b_M_mark 3 none :: TB) { frames := 0, cells := 0, slots := 0, locals := 0 } D [(cI, .int), (cZ, .boolean)] tL [.ref (q 0), .int x1, .int x2] (wM cI cZ q σ ++ tl) (wM cI cZ q out0 ++ tl) := by
  refine gCv_of (cc := b_M_mark) (maxL := 3)  (by decide) rfl (Nat.le_of_ble_eq_true rfl) ?_
  intro p e s m below meth c A ls hf hr hlk hA hK hD0 hE hP hl
  obtain ⟨hx, hb, hml, hown, hts⟩ := id hf
  have hts : ∀ w ∈ TB, w.before _ s = true := fun w h => hts w (List.mem_cons_of_mem _ h)
  have hown : s.vm.findClass R_M = some m.cls := hown
  have hl : lv_has ls 3 [(0, .ref (q 0)), (1, .int x1), (2, .int x2)] := hl
  have hS : va_S A s.heap s.heap [] := va_S.rf
  have hD : ∀ σ' : St, va_D A (wM cI cZ q σ' ++ tl) := fun σ' => va_Dsame hD0 rfl
  unfold f_M_mark at h
  refine lv_aload_n hx hb d_M_mark_0 rfl (lv_at hl 0 rfl) ?_
  refine lv_aload_n hx hb d_M_mark_1 rfl (lv_at hl 0 rfl) ?_
  refine va_get (D := D) (ci := 5) (v := .int (σ 0 16)) (C := R_M) (T := T_M) (N := 17) hx hb hts l_M hown hK hP 0 rfl rfl 16 (by decide) (hts _ w_455) (fun _ h9 => h9) rfl d_M_mark_2 ?_
  refine lv_if_ne (tgt := 22) hx hb d_M_mark_5 (by decide) (fun c => ?_) (fun c => ?_)
  · have h := ifn c h
    refine lv_iconst (v := 1) hx hb d_M_mark_22 (by decide) ?_
    refine lv_goto (tgt := 27) hx hb d_M_mark_23 (by decide) ?_
    refine va_put (D := D) (ci := 5) (v := .int (1 : Int32)) (ty := .boolean) (C := R_M) (T := T_M) (N := 17) hx hb hts l_M t_M t_M_ok n_M hown hK hP (hD σ) hS 0 rfl rfl 16 (by decide) (hts _ w_455) (fun _ h9 => h9) rfl (by decide +kernel) rfl rfl (Nat.le_of_ble_eq_true rfl) d_M_mark_27 (fun H locs hP _ hS => ?_)
    have hP : va_P D vwCl (wM cI cZ q (su σ 0 16 (1 : Int32)) ++ tl) H := hP
    obtain ⟨s27, es27, h⟩ := lettE h
    rw [← es27] at hP
    refine lv_aload_n hx hb d_M_mark_30 rfl (lv_at hl 0 rfl) ?_
    refine va_get (D := D) (ci := 5) (v := .ref (q 10)) (C := R_M) (T := T_M) (N := 17) hx hb hts l_M hown hK hP 0 rfl rfl 15 (by decide) (hts _ w_454) (fun _ h9 => h9) rfl d_M_mark_31 ?_
    refine lv_bipush (v := 8) hx hb d_M_mark_34 (by decide) ?_
    refine lv_iload_n hx hb d_M_mark_36 rfl (lv_at hl 1 rfl) ?_
    refine lv_imul hx hb d_M_mark_37 ?_
    refine lv_iload_n hx hb d_M_mark_38 rfl (lv_at hl 2 rfl) ?_
    refine lv_iadd hx hb d_M_mark_39 ?_
    refine lv_iconst (v := 1) hx hb d_M_mark_40 (by decide) ?_
    obtain ⟨c, h⟩ := ifs h
    refine va_zast hx hb hK hP (hD s27) hS 10 1 rfl rfl c d_M_mark_41 (fun H locs hP _ hS => ?_)
    have hP : va_P D vwCl (wM cI cZ q (sr s27 10 (upd (s27 10) (((8 : Int32) * x1) + x2).toNatClampNeg (1 : Int32))) ++ tl) H := hP
    obtain ⟨s41, es41, h⟩ := lettE h
    rw [← es41] at hP
    cases h
    exact gret_v hx hb hr hlk hP hS d_M_mark_42
  have h := ifp c h
  refine lv_aload_n hx hb d_M_mark_8 rfl (lv_at hl 0 rfl) ?_
  refine va_get (D := D) (ci := 5) (v := .ref (q 10)) (C := R_M) (T := T_M) (N := 17) hx hb hts l_M hown hK hP 0 rfl rfl 15 (by decide) (hts _ w_454) (fun _ h9 => h9) rfl d_M_mark_9 ?_
  refine lv_bipush (v := 8) hx hb d_M_mark_12 (by decide) ?_
  refine lv_iload_n hx hb d_M_mark_14 rfl (lv_at hl 1 rfl) ?_
  refine lv_imul hx hb d_M_mark_15 ?_
  refine lv_iload_n hx hb d_M_mark_16 rfl (lv_at hl 2 rfl) ?_
  refine lv_iadd hx hb d_M_mark_17 ?_
  obtain ⟨c, h⟩ := ifs h
  refine va_zald hx hb hK hP 10 1 rfl rfl c d_M_mark_18 ?_
  refine lv_if_ne (tgt := 26) hx hb d_M_mark_19 (by decide) (fun c => ?_) (fun c => ?_)
  · have h := ifn c h
    refine lv_iconst (v := 0) hx hb d_M_mark_26 (by decide) ?_
    refine va_put (D := D) (ci := 5) (v := .int (0 : Int32)) (ty := .boolean) (C := R_M) (T := T_M) (N := 17) hx hb hts l_M t_M t_M_ok n_M hown hK hP (hD σ) hS 0 rfl rfl 16 (by decide) (hts _ w_455) (fun _ h9 => h9) rfl (by decide +kernel) rfl rfl (Nat.le_of_ble_eq_true rfl) d_M_mark_27 (fun H locs hP _ hS => ?_)
    have hP : va_P D vwCl (wM cI cZ q (su σ 0 16 (0 : Int32)) ++ tl) H := hP
    obtain ⟨s27, es27, h⟩ := lettE h
    rw [← es27] at hP
    refine lv_aload_n hx hb d_M_mark_30 rfl (lv_at hl 0 rfl) ?_
    refine va_get (D := D) (ci := 5) (v := .ref (q 10)) (C := R_M) (T := T_M) (N := 17) hx hb hts l_M hown hK hP 0 rfl rfl 15 (by decide) (hts _ w_454) (fun _ h9 => h9) rfl d_M_mark_31 ?_
    refine lv_bipush (v := 8) hx hb d_M_mark_34 (by decide) ?_
    refine lv_iload_n hx hb d_M_mark_36 rfl (lv_at hl 1 rfl) ?_
    refine lv_imul hx hb d_M_mark_37 ?_
    refine lv_iload_n hx hb d_M_mark_38 rfl (lv_at hl 2 rfl) ?_
    refine lv_iadd hx hb d_M_mark_39 ?_
    refine lv_iconst (v := 1) hx hb d_M_mark_40 (by decide) ?_
    obtain ⟨c, h⟩ := ifs h
    refine va_zast hx hb hK hP (hD s27) hS 10 1 rfl rfl c d_M_mark_41 (fun H locs hP _ hS => ?_)
    have hP : va_P D vwCl (wM cI cZ q (sr s27 10 (upd (s27 10) (((8 : Int32) * x1) + x2).toNatClampNeg (1 : Int32))) ++ tl) H := hP
    obtain ⟨s41, es41, h⟩ := lettE h
    rw [← es41] at hP
    cases h
    exact gret_v hx hb hr hlk hP hS d_M_mark_42
  have h := ifp c h
  refine lv_iconst (v := 1) hx hb d_M_mark_22 (by decide) ?_
  refine lv_goto (tgt := 27) hx hb d_M_mark_23 (by decide) ?_
  refine va_put (D := D) (ci := 5) (v := .int (1 : Int32)) (ty := .boolean) (C := R_M) (T := T_M) (N := 17) hx hb hts l_M t_M t_M_ok n_M hown hK hP (hD σ) hS 0 rfl rfl 16 (by decide) (hts _ w_455) (fun _ h9 => h9) rfl (by decide +kernel) rfl rfl (Nat.le_of_ble_eq_true rfl) d_M_mark_27 (fun H locs hP _ hS => ?_)
  have hP : va_P D vwCl (wM cI cZ q (su σ 0 16 (1 : Int32)) ++ tl) H := hP
  obtain ⟨s27, es27, h⟩ := lettE h
  rw [← es27] at hP
  refine lv_aload_n hx hb d_M_mark_30 rfl (lv_at hl 0 rfl) ?_
  refine va_get (D := D) (ci := 5) (v := .ref (q 10)) (C := R_M) (T := T_M) (N := 17) hx hb hts l_M hown hK hP 0 rfl rfl 15 (by decide) (hts _ w_454) (fun _ h9 => h9) rfl d_M_mark_31 ?_
  refine lv_bipush (v := 8) hx hb d_M_mark_34 (by decide) ?_
  refine lv_iload_n hx hb d_M_mark_36 rfl (lv_at hl 1 rfl) ?_
  refine lv_imul hx hb d_M_mark_37 ?_
  refine lv_iload_n hx hb d_M_mark_38 rfl (lv_at hl 2 rfl) ?_
  refine lv_iadd hx hb d_M_mark_39 ?_
  refine lv_iconst (v := 1) hx hb d_M_mark_40 (by decide) ?_
  obtain ⟨c, h⟩ := ifs h
  refine va_zast hx hb hK hP (hD s27) hS 10 1 rfl rfl c d_M_mark_41 (fun H locs hP _ hS => ?_)
  have hP : va_P D vwCl (wM cI cZ q (sr s27 10 (upd (s27 10) (((8 : Int32) * x1) + x2).toNatClampNeg (1 : Int32))) ++ tl) H := hP
  obtain ⟨s41, es41, h⟩ := lettE h
  rw [← es41] at hP
  cases h
  exact gret_v hx hb hr hlk hP hS d_M_mark_42
/-! ===== EscapeOwnersModel.isMarked(II)Z ===== -/
def f_M_isMarked (σ : St) (x1 : Int32) (x2 : Int32) : Option (Int32) := if x2 = (-1 : Int32) then (some (0 : Int32)) else (if ¬ ((((8 : Int32) * x1) + x2) < 0 ∨ 64 ≤ (((8 : Int32) * x1) + x2).toNatClampNeg) then (if ((σ 10) (((8 : Int32) * x1) + x2).toNatClampNeg) = 0 then (some (0 : Int32)) else (some (1 : Int32))) else none)
set_option maxHeartbeats 4000000 in
set_option maxRecDepth 100000 in
theorem c_M_isMarked (l : Launch) (D : va_G) (cI cZ : ClassId) (tL : Nat) (q : Nat → Nat) (tl : va_W) (σ : St) (x1 : Int32) (x2 : Int32) (out0 : Int32) (h : f_M_isMarked σ x1 x2 = some out0) : gCi l y_M_isMarked (.code y_M_isMarked b_M_isMarked 3 (some .boolean) :: TB) { frames := 0, cells := 0, slots := 0, locals := 0 } D [(cI, .int), (cZ, .boolean)] tL [.ref (q 0), .int x1, .int x2] (wM cI cZ q σ ++ tl) out0 (wM cI cZ q σ ++ tl) := by
  refine gCi_of (cc := b_M_isMarked) (maxL := 3) (ty := .boolean) (by decide) rfl (Nat.le_of_ble_eq_true rfl) ?_
  intro p e s m below meth c A ls hf hr hlk hA hK hD0 hE hP hl
  obtain ⟨hx, hb, hml, hown, hts⟩ := id hf
  have hts : ∀ w ∈ TB, w.before _ s = true := fun w h => hts w (List.mem_cons_of_mem _ h)
  have hown : s.vm.findClass R_M = some m.cls := hown
  have hl : lv_has ls 3 [(0, .ref (q 0)), (1, .int x1), (2, .int x2)] := hl
  have hS : va_S A s.heap s.heap [] := va_S.rf
  have hD : ∀ σ' : St, va_D A (wM cI cZ q σ' ++ tl) := fun σ' => va_Dsame hD0 rfl
  unfold f_M_isMarked at h
  refine lv_iload_n hx hb d_M_isMarked_0 rfl (lv_at hl 2 rfl) ?_
  refine lv_iconst (v := -1) hx hb d_M_isMarked_1 (by decide) ?_
  refine lv_icmp_eq (tgt := 23) hx hb d_M_isMarked_2 (by decide) (fun c => ?_) (fun c => ?_)
  · have h := ifp c h
    refine lv_iconst (v := 0) hx hb d_M_isMarked_23 (by decide) ?_
    cases h
    exact gret_z hx hb hr hlk (gz (Or.inl rfl)) hP hS d_M_isMarked_24
  have h := ifn c h
  refine lv_aload_n hx hb d_M_isMarked_5 rfl (lv_at hl 0 rfl) ?_
  refine va_get (D := D) (ci := 5) (v := .ref (q 10)) (C := R_M) (T := T_M) (N := 17) hx hb hts l_M hown hK hP 0 rfl rfl 15 (by decide) (hts _ w_454) (fun _ h9 => h9) rfl d_M_isMarked_6 ?_
  refine lv_bipush (v := 8) hx hb d_M_isMarked_9 (by decide) ?_
  refine lv_iload_n hx hb d_M_isMarked_11 rfl (lv_at hl 1 rfl) ?_
  refine lv_imul hx hb d_M_isMarked_12 ?_
  refine lv_iload_n hx hb d_M_isMarked_13 rfl (lv_at hl 2 rfl) ?_
  refine lv_iadd hx hb d_M_isMarked_14 ?_
  obtain ⟨c, h⟩ := ifs h
  refine va_zald hx hb hK hP 10 1 rfl rfl c d_M_isMarked_15 ?_
  refine lv_if_eq (tgt := 23) hx hb d_M_isMarked_16 (by decide) (fun c => ?_) (fun c => ?_)
  · have h := ifp c h
    refine lv_iconst (v := 0) hx hb d_M_isMarked_23 (by decide) ?_
    cases h
    exact gret_z hx hb hr hlk (gz (Or.inl rfl)) hP hS d_M_isMarked_24
  have h := ifn c h
  refine lv_iconst (v := 1) hx hb d_M_isMarked_19 (by decide) ?_
  refine lv_goto (tgt := 24) hx hb d_M_isMarked_20 (by decide) ?_
  cases h
  exact gret_z hx hb hr hlk (gz (Or.inr rfl)) hP hS d_M_isMarked_24
/-! ===== EscapeOwnersModel.givesMarked(I)Z ===== -/
def f_M_givesMarked_B4 (F : Nat) (σ : St) (y1 : Int32) (rec : Int32 → Int32 → Option (Int32 × Int32)) (y2 : Int32) (y3 : Int32) : Option (Int32 × Int32) := if (σ 0 1) ≤ y3 then (some (y2, y3)) else (if y2 = 0 then (Option.bind (f_M_isLive σ y3) (fun u18 => if u18 = 0 then (rec (0 : Int32) (y3 + (1 : Int32))) else (if ¬ (y3 < 0 ∨ 64 ≤ y3.toNatClampNeg) then (if ((σ 2) y3.toNatClampNeg) = (7 : Int32) then (if ¬ (y3 < 0 ∨ 64 ≤ y3.toNatClampNeg) then (if ((σ 1) y3.toNatClampNeg) = y1 then (if ¬ (((5 : Int32) * y3) < 0 ∨ 320 ≤ ((5 : Int32) * y3).toNatClampNeg) then (Option.bind (f_M_isMarked σ y1 ((σ 4) ((5 : Int32) * y3).toNatClampNeg)) (fun u55 => if u55 = 0 then (rec (0 : Int32) (y3 + (1 : Int32))) else (rec (1 : Int32) (y3 + (1 : Int32))))) else none) else (rec (0 : Int32) (y3 + (1 : Int32)))) else none) else (rec (0 : Int32) (y3 + (1 : Int32)))) else none))) else (rec (1 : Int32) (y3 + (1 : Int32))))
def f_M_givesMarked_L4 (F : Nat) (σ : St) (y1 : Int32) : Nat → Int32 → Int32 → Option (Int32 × Int32)
  | 0, _, _ => none
  | fu + 1, y2, y3 => f_M_givesMarked_B4 F σ y1 (f_M_givesMarked_L4 F σ y1 fu) y2 y3
def f_M_givesMarked (F : Nat) (σ : St) (x1 : Int32) : Option (Int32) := Option.bind (f_M_givesMarked_L4 F σ x1 F (0 : Int32) (0 : Int32)) (fun u4 => if u4.1 = 0 ∨ u4.1 = 1 then some u4.1 else none)
set_option maxHeartbeats 4000000 in
set_option maxRecDepth 100000 in
theorem c_M_givesMarked (l : Launch) (D : va_G) (cI cZ : ClassId) (tL : Nat) (q : Nat → Nat) (tl : va_W) (F : Nat) (σ : St) (x1 : Int32) (out0 : Int32) (h : f_M_givesMarked F σ x1 = some out0) : gCi l y_M_givesMarked (.code y_M_givesMarked b_M_givesMarked 4 (some .boolean) :: TB) { frames := 2, cells := 0, slots := 0, locals := 42 } D [(cI, .int), (cZ, .boolean)] tL [.ref (q 0), .int x1] (wM cI cZ q σ ++ tl) out0 (wM cI cZ q σ ++ tl) := by
  refine gCi_of (cc := b_M_givesMarked) (maxL := 4) (ty := .boolean) (by decide) rfl (Nat.le_of_ble_eq_true rfl) ?_
  intro p e s m below meth c A ls hf hr hlk hA hK hD0 hE hP hl
  obtain ⟨hx, hb, hml, hown, hts⟩ := id hf
  have hts : ∀ w ∈ TB, w.before _ s = true := fun w h => hts w (List.mem_cons_of_mem _ h)
  have hown : s.vm.findClass R_M = some m.cls := hown
  have hl : lv_has ls 4 [(0, .ref (q 0)), (1, .int x1)] := hl
  have hS : va_S A s.heap s.heap [] := va_S.rf
  have hD : ∀ σ' : St, va_D A (wM cI cZ q σ' ++ tl) := fun σ' => va_Dsame hD0 rfl
  have L4 : ∀ (σ : St) (y1 : Int32) (fu : Nat) (y2 : Int32) (y3 : Int32) (H : Heap) (locs : List Loc) (ls : Array Slot) (out : Int32 × Int32), f_M_givesMarked_L4 F σ y1 fu y2 y3 = some out → va_P D vwCl (wM cI cZ q σ ++ tl) H → va_S A s.heap H locs → lv_has ls 4 [(0, .ref (q 0)), (1, .int y1), (2, .int y2), (3, .int y3)] → (∀ (H : Heap) (locs : List Loc) (ls : Array Slot), va_P D vwCl (wM cI cZ q σ ++ tl) H → va_S A s.heap H locs → lv_has ls 4 [(0, .ref (q 0)), (1, .int y1), (2, .int out.1), (3, .int out.2)] → W p l e { frames := 2, cells := 0, slots := 0, locals := 42 } s m ([.ref (q 0), .int x1] : List Value).toArray below meth c H locs 0 0 (gQi below D out0 (wM cI cZ q σ ++ tl) A (([.ref (q 0), .int x1] : List Value).toArray) s) (F0 m 73 ls [])) → W p l e { frames := 2, cells := 0, slots := 0, locals := 42 } s m ([.ref (q 0), .int x1] : List Value).toArray below meth c H locs 0 0 (gQi below D out0 (wM cI cZ q σ ++ tl) A (([.ref (q 0), .int x1] : List Value).toArray) s) (F0 m 4 ls []) := by
    intro σ y1 fu
    induction fu with
    | zero => intro y2 y3 H locs ls out h; exact absurd (show (none : Option (Int32 × Int32)) = some out from h) (fun z => by cases z)
    | succ fu ih =>
      intro y2 y3 H locs ls out h hP hS hl K
      have h : f_M_givesMarked_B4 F σ y1 (f_M_givesMarked_L4 F σ y1 fu) y2 y3 = some out := h
      unfold f_M_givesMarked_B4 at h
      refine lv_iload_n hx hb d_M_givesMarked_4 rfl (lv_at hl 3 rfl) ?_
      refine lv_aload_n hx hb d_M_givesMarked_5 rfl (lv_at hl 0 rfl) ?_
      refine va_get (D := D) (ci := 5) (v := .int (σ 0 1)) (C := R_M) (T := T_M) (N := 17) hx hb hts l_M hown hK hP 0 rfl rfl 1 (by decide) (hts _ w_440) (fun _ h9 => h9) rfl d_M_givesMarked_6 ?_
      refine lv_icmp_ge (tgt := 73) hx hb d_M_givesMarked_9 (by decide) (fun c => ?_) (fun c => ?_)
      · have h := ifp c h
        cases h
        exact K _ _ ls hP hS (lv_sub hl [0, 1, 2, 3] rfl)
      have h := ifn c h
      refine lv_iload_n hx hb d_M_givesMarked_12 rfl (lv_at hl 2 rfl) ?_
      refine lv_if_ne (tgt := 61) hx hb d_M_givesMarked_13 (by decide) (fun c => ?_) (fun c => ?_)
      · have h := ifn c h
        refine lv_iconst (v := 1) hx hb d_M_givesMarked_61 (by decide) ?_
        refine lv_goto (tgt := 66) hx hb d_M_givesMarked_62 (by decide) ?_
        refine lv_istore_n (lv' := [(2, .int (1 : Int32)), (0, .ref (q 0)), (1, .int y1), (3, .int y3)]) hx hb d_M_givesMarked_66 rfl hl (by decide) rfl (fun ls hl => ?_)
        refine lv_iinc (v := (y3 + (1 : Int32))) (lv' := [(3, .int (y3 + (1 : Int32))), (2, .int (1 : Int32)), (0, .ref (q 0)), (1, .int y1)]) hx hb d_M_givesMarked_67 hl (k := 3) rfl rfl (by decide) rfl (fun ls hl => ?_)
        refine lv_goto (tgt := 4) hx hb d_M_givesMarked_70 (by decide) ?_
        exact ih (1 : Int32) (y3 + (1 : Int32)) _ _ ls out h hP hS (lv_sub hl [2, 3, 1, 0] rfl) K
      have h := ifp c h
      refine lv_aload_n hx hb d_M_givesMarked_16 rfl (lv_at hl 0 rfl) ?_
      refine lv_iload_n hx hb d_M_givesMarked_17 rfl (lv_at hl 3 rfl) ?_
      obtain ⟨u18, hu18, h⟩ := bnd h
      refine gcall_i (va_runV (As := [.int y3]) (rest := []) ⟨hx, hb, hml, hown, hts⟩ (c_M_isLive l D cI cZ tL q tl σ y3 u18 hu18 H.size) (cwV 1 hts (gV w_528 w_529 w_711 w_6 w_530) rfl rfl rfl (by decide +kernel) ⟨Nat.le_of_ble_eq_true rfl, Nat.le_of_ble_eq_true rfl⟩) (gpV (k := 0) (ci := 5) hA hK (hD σ) hE hP hS rfl rfl) rfl rfl hl.1 rfl (lv_room (Nat.le_of_ble_eq_true rfl)) d_M_givesMarked_18 ⟨Nat.le_of_ble_eq_true rfl, Nat.le_of_ble_eq_true rfl⟩) hA (hD σ) hS (fun H locs hP hS => ?_)
      refine lv_if_eq (tgt := 65) hx hb d_M_givesMarked_21 (by decide) (fun c => ?_) (fun c => ?_)
      · have h := ifp c h
        refine lv_iconst (v := 0) hx hb d_M_givesMarked_65 (by decide) ?_
        refine lv_istore_n (lv' := [(2, .int (0 : Int32)), (0, .ref (q 0)), (1, .int y1), (3, .int y3)]) hx hb d_M_givesMarked_66 rfl hl (by decide) rfl (fun ls hl => ?_)
        refine lv_iinc (v := (y3 + (1 : Int32))) (lv' := [(3, .int (y3 + (1 : Int32))), (2, .int (0 : Int32)), (0, .ref (q 0)), (1, .int y1)]) hx hb d_M_givesMarked_67 hl (k := 3) rfl rfl (by decide) rfl (fun ls hl => ?_)
        refine lv_goto (tgt := 4) hx hb d_M_givesMarked_70 (by decide) ?_
        exact ih (0 : Int32) (y3 + (1 : Int32)) _ _ ls out h hP hS (lv_sub hl [2, 3, 1, 0] rfl) K
      have h := ifn c h
      refine lv_aload_n hx hb d_M_givesMarked_24 rfl (lv_at hl 0 rfl) ?_
      refine va_get (D := D) (ci := 5) (v := .ref (q 2)) (C := R_M) (T := T_M) (N := 17) hx hb hts l_M hown hK hP 0 rfl rfl 4 (by decide) (hts _ w_443) (fun _ h9 => h9) rfl d_M_givesMarked_25 ?_
      refine lv_iload_n hx hb d_M_givesMarked_28 rfl (lv_at hl 3 rfl) ?_
      obtain ⟨c, h⟩ := ifs h
      refine va_iald hx hb hK hP 2 0 rfl rfl c d_M_givesMarked_29 ?_
      refine lv_bipush (v := 7) hx hb d_M_givesMarked_30 (by decide) ?_
      refine lv_icmp_ne (tgt := 65) hx hb d_M_givesMarked_32 (by decide) (fun c => ?_) (fun c => ?_)
      · have h := ifn c h
        refine lv_iconst (v := 0) hx hb d_M_givesMarked_65 (by decide) ?_
        refine lv_istore_n (lv' := [(2, .int (0 : Int32)), (0, .ref (q 0)), (1, .int y1), (3, .int y3)]) hx hb d_M_givesMarked_66 rfl hl (by decide) rfl (fun ls hl => ?_)
        refine lv_iinc (v := (y3 + (1 : Int32))) (lv' := [(3, .int (y3 + (1 : Int32))), (2, .int (0 : Int32)), (0, .ref (q 0)), (1, .int y1)]) hx hb d_M_givesMarked_67 hl (k := 3) rfl rfl (by decide) rfl (fun ls hl => ?_)
        refine lv_goto (tgt := 4) hx hb d_M_givesMarked_70 (by decide) ?_
        exact ih (0 : Int32) (y3 + (1 : Int32)) _ _ ls out h hP hS (lv_sub hl [2, 3, 1, 0] rfl) K
      have h := ifp c h
      refine lv_aload_n hx hb d_M_givesMarked_35 rfl (lv_at hl 0 rfl) ?_
      refine va_get (D := D) (ci := 5) (v := .ref (q 1)) (C := R_M) (T := T_M) (N := 17) hx hb hts l_M hown hK hP 0 rfl rfl 3 (by decide) (hts _ w_442) (fun _ h9 => h9) rfl d_M_givesMarked_36 ?_
      refine lv_iload_n hx hb d_M_givesMarked_39 rfl (lv_at hl 3 rfl) ?_
      obtain ⟨c, h⟩ := ifs h
      refine va_iald hx hb hK hP 1 0 rfl rfl c d_M_givesMarked_40 ?_
      refine lv_iload_n hx hb d_M_givesMarked_41 rfl (lv_at hl 1 rfl) ?_
      refine lv_icmp_ne (tgt := 65) hx hb d_M_givesMarked_42 (by decide) (fun c => ?_) (fun c => ?_)
      · have h := ifn c h
        refine lv_iconst (v := 0) hx hb d_M_givesMarked_65 (by decide) ?_
        refine lv_istore_n (lv' := [(2, .int (0 : Int32)), (0, .ref (q 0)), (1, .int y1), (3, .int y3)]) hx hb d_M_givesMarked_66 rfl hl (by decide) rfl (fun ls hl => ?_)
        refine lv_iinc (v := (y3 + (1 : Int32))) (lv' := [(3, .int (y3 + (1 : Int32))), (2, .int (0 : Int32)), (0, .ref (q 0)), (1, .int y1)]) hx hb d_M_givesMarked_67 hl (k := 3) rfl rfl (by decide) rfl (fun ls hl => ?_)
        refine lv_goto (tgt := 4) hx hb d_M_givesMarked_70 (by decide) ?_
        exact ih (0 : Int32) (y3 + (1 : Int32)) _ _ ls out h hP hS (lv_sub hl [2, 3, 1, 0] rfl) K
      have h := ifp c h
      refine lv_aload_n hx hb d_M_givesMarked_45 rfl (lv_at hl 0 rfl) ?_
      refine lv_iload_n hx hb d_M_givesMarked_46 rfl (lv_at hl 1 rfl) ?_
      refine lv_aload_n hx hb d_M_givesMarked_47 rfl (lv_at hl 0 rfl) ?_
      refine va_get (D := D) (ci := 5) (v := .ref (q 4)) (C := R_M) (T := T_M) (N := 17) hx hb hts l_M hown hK hP 0 rfl rfl 6 (by decide) (hts _ w_445) (fun _ h9 => h9) rfl d_M_givesMarked_48 ?_
      refine lv_iconst (v := 5) hx hb d_M_givesMarked_51 (by decide) ?_
      refine lv_iload_n hx hb d_M_givesMarked_52 rfl (lv_at hl 3 rfl) ?_
      refine lv_imul hx hb d_M_givesMarked_53 ?_
      obtain ⟨c, h⟩ := ifs h
      refine va_iald hx hb hK hP 4 0 rfl rfl c d_M_givesMarked_54 ?_
      obtain ⟨u55, hu55, h⟩ := bnd h
      refine gcall_i (va_runV (As := [.int y1, .int ((σ 4) ((5 : Int32) * y3).toNatClampNeg)]) (rest := []) ⟨hx, hb, hml, hown, hts⟩ (c_M_isMarked l D cI cZ tL q tl σ y1 ((σ 4) ((5 : Int32) * y3).toNatClampNeg) u55 hu55 H.size) (cwV 2 hts (gV w_660 w_661 w_713 w_6 w_662) rfl rfl rfl (by decide +kernel) ⟨Nat.le_of_ble_eq_true rfl, Nat.le_of_ble_eq_true rfl⟩) (gpV (k := 0) (ci := 5) hA hK (hD σ) hE hP hS rfl rfl) rfl rfl hl.1 rfl (lv_room (Nat.le_of_ble_eq_true rfl)) d_M_givesMarked_55 ⟨Nat.le_of_ble_eq_true rfl, Nat.le_of_ble_eq_true rfl⟩) hA (hD σ) hS (fun H locs hP hS => ?_)
      refine lv_if_eq (tgt := 65) hx hb d_M_givesMarked_58 (by decide) (fun c => ?_) (fun c => ?_)
      · have h := ifp c h
        refine lv_iconst (v := 0) hx hb d_M_givesMarked_65 (by decide) ?_
        refine lv_istore_n (lv' := [(2, .int (0 : Int32)), (0, .ref (q 0)), (1, .int y1), (3, .int y3)]) hx hb d_M_givesMarked_66 rfl hl (by decide) rfl (fun ls hl => ?_)
        refine lv_iinc (v := (y3 + (1 : Int32))) (lv' := [(3, .int (y3 + (1 : Int32))), (2, .int (0 : Int32)), (0, .ref (q 0)), (1, .int y1)]) hx hb d_M_givesMarked_67 hl (k := 3) rfl rfl (by decide) rfl (fun ls hl => ?_)
        refine lv_goto (tgt := 4) hx hb d_M_givesMarked_70 (by decide) ?_
        exact ih (0 : Int32) (y3 + (1 : Int32)) _ _ ls out h hP hS (lv_sub hl [2, 3, 1, 0] rfl) K
      have h := ifn c h
      refine lv_iconst (v := 1) hx hb d_M_givesMarked_61 (by decide) ?_
      refine lv_goto (tgt := 66) hx hb d_M_givesMarked_62 (by decide) ?_
      refine lv_istore_n (lv' := [(2, .int (1 : Int32)), (0, .ref (q 0)), (1, .int y1), (3, .int y3)]) hx hb d_M_givesMarked_66 rfl hl (by decide) rfl (fun ls hl => ?_)
      refine lv_iinc (v := (y3 + (1 : Int32))) (lv' := [(3, .int (y3 + (1 : Int32))), (2, .int (1 : Int32)), (0, .ref (q 0)), (1, .int y1)]) hx hb d_M_givesMarked_67 hl (k := 3) rfl rfl (by decide) rfl (fun ls hl => ?_)
      refine lv_goto (tgt := 4) hx hb d_M_givesMarked_70 (by decide) ?_
      exact ih (1 : Int32) (y3 + (1 : Int32)) _ _ ls out h hP hS (lv_sub hl [2, 3, 1, 0] rfl) K
  unfold f_M_givesMarked at h
  refine lv_iconst (v := 0) hx hb d_M_givesMarked_0 (by decide) ?_
  refine lv_istore_n (lv' := [(2, .int (0 : Int32)), (0, .ref (q 0)), (1, .int x1)]) hx hb d_M_givesMarked_1 rfl hl (by decide) rfl (fun ls hl => ?_)
  refine lv_iconst (v := 0) hx hb d_M_givesMarked_2 (by decide) ?_
  refine lv_istore_n (lv' := [(3, .int (0 : Int32)), (2, .int (0 : Int32)), (0, .ref (q 0)), (1, .int x1)]) hx hb d_M_givesMarked_3 rfl hl (by decide) rfl (fun ls hl => ?_)
  obtain ⟨u4, hu4, h⟩ := bnd h
  refine L4 σ x1 F (0 : Int32) (0 : Int32) _ _ ls u4 hu4 hP hS (lv_sub hl [2, 3, 1, 0] rfl) (fun H locs ls hP hS hl => ?_)
  refine lv_iload_n hx hb d_M_givesMarked_73 rfl (lv_at hl 2 rfl) ?_
  obtain ⟨c, h⟩ := ifs h
  cases h
  exact gret_z hx hb hr hlk (gz c) hP hS d_M_givesMarked_74
/-! ===== EscapeOwnersModel.markBy(I)V ===== -/
def f_M_markBy_B72 (F : Nat) (y1 : Int32) (y2 : Int32) (y3 : Int32) (rec : Int32 → St → Option (Int32 × St)) (y4 : Int32) (σ : St) : Option (Int32 × St) := if (3 : Int32) ≤ y4 then (some (y4, σ)) else (if ¬ (((((5 : Int32) * y1) + (1 : Int32)) + y4) < 0 ∨ 320 ≤ ((((5 : Int32) * y1) + (1 : Int32)) + y4).toNatClampNeg) then (Option.bind (f_M_isMarked σ y2 ((σ 4) ((((5 : Int32) * y1) + (1 : Int32)) + y4).toNatClampNeg)) (fun u93 => if u93 = 0 then (rec (y4 + (1 : Int32)) σ) else (Option.bind (f_M_mark σ y3 y4) (fun u103 => rec (y4 + (1 : Int32)) u103)))) else none)
def f_M_markBy_L72 (F : Nat) (y1 : Int32) (y2 : Int32) (y3 : Int32) : Nat → Int32 → St → Option (Int32 × St)
  | 0, _, _ => none
  | fu + 1, y4, σ => f_M_markBy_B72 F y1 y2 y3 (f_M_markBy_L72 F y1 y2 y3 fu) y4 σ
def f_M_markBy (F : Nat) (σ : St) (x1 : Int32) : Option (St) := if ¬ (x1 < 0 ∨ 64 ≤ x1.toNatClampNeg) then (if ¬ (x1 < 0 ∨ 64 ≤ x1.toNatClampNeg) then (if ((σ 2) x1.toNatClampNeg) = (1 : Int32) then (if ¬ ((((5 : Int32) * x1) + (1 : Int32)) < 0 ∨ 320 ≤ (((5 : Int32) * x1) + (1 : Int32)).toNatClampNeg) then (Option.bind (f_M_isMarked σ ((σ 1) x1.toNatClampNeg) ((σ 4) (((5 : Int32) * x1) + (1 : Int32)).toNatClampNeg)) (fun u29 => if u29 = 0 then (if ¬ (x1 < 0 ∨ 64 ≤ x1.toNatClampNeg) then (if ((σ 2) x1.toNatClampNeg) = (6 : Int32) then (if ¬ (((5 : Int32) * x1) < 0 ∨ 320 ≤ ((5 : Int32) * x1).toNatClampNeg) then (Option.bind (f_M_markBy_L72 F x1 ((σ 1) x1.toNatClampNeg) ((σ 4) ((5 : Int32) * x1).toNatClampNeg) F (0 : Int32) σ) (fun u72 => if ¬ ((((5 : Int32) * x1) + (4 : Int32)) < 0 ∨ 320 ≤ (((5 : Int32) * x1) + (4 : Int32)).toNatClampNeg) then (if ((u72.2 4) (((5 : Int32) * x1) + (4 : Int32)).toNatClampNeg) = (-1 : Int32) then (some u72.2) else (Option.bind (f_M_givesMarked F u72.2 ((σ 4) ((5 : Int32) * x1).toNatClampNeg)) (fun u128 => if u128 = 0 then (some u72.2) else (if ¬ ((((5 : Int32) * x1) + (4 : Int32)) < 0 ∨ 320 ≤ (((5 : Int32) * x1) + (4 : Int32)).toNatClampNeg) then (Option.bind (f_M_mark u72.2 ((σ 1) x1.toNatClampNeg) ((u72.2 4) (((5 : Int32) * x1) + (4 : Int32)).toNatClampNeg)) (fun u146 => some u146)) else none)))) else none)) else none) else (some σ)) else none) else (if ¬ (((5 : Int32) * x1) < 0 ∨ 320 ≤ ((5 : Int32) * x1).toNatClampNeg) then (Option.bind (f_M_mark σ ((σ 1) x1.toNatClampNeg) ((σ 4) ((5 : Int32) * x1).toNatClampNeg)) (fun u45 => if ¬ (x1 < 0 ∨ 64 ≤ x1.toNatClampNeg) then (if ((u45 2) x1.toNatClampNeg) = (6 : Int32) then (if ¬ (((5 : Int32) * x1) < 0 ∨ 320 ≤ ((5 : Int32) * x1).toNatClampNeg) then (Option.bind (f_M_markBy_L72 F x1 ((σ 1) x1.toNatClampNeg) ((u45 4) ((5 : Int32) * x1).toNatClampNeg) F (0 : Int32) u45) (fun u72 => if ¬ ((((5 : Int32) * x1) + (4 : Int32)) < 0 ∨ 320 ≤ (((5 : Int32) * x1) + (4 : Int32)).toNatClampNeg) then (if ((u72.2 4) (((5 : Int32) * x1) + (4 : Int32)).toNatClampNeg) = (-1 : Int32) then (some u72.2) else (Option.bind (f_M_givesMarked F u72.2 ((u45 4) ((5 : Int32) * x1).toNatClampNeg)) (fun u128 => if u128 = 0 then (some u72.2) else (if ¬ ((((5 : Int32) * x1) + (4 : Int32)) < 0 ∨ 320 ≤ (((5 : Int32) * x1) + (4 : Int32)).toNatClampNeg) then (Option.bind (f_M_mark u72.2 ((σ 1) x1.toNatClampNeg) ((u72.2 4) (((5 : Int32) * x1) + (4 : Int32)).toNatClampNeg)) (fun u146 => some u146)) else none)))) else none)) else none) else (some u45)) else none)) else none))) else none) else (if ¬ (x1 < 0 ∨ 64 ≤ x1.toNatClampNeg) then (if ((σ 2) x1.toNatClampNeg) = (6 : Int32) then (if ¬ (((5 : Int32) * x1) < 0 ∨ 320 ≤ ((5 : Int32) * x1).toNatClampNeg) then (Option.bind (f_M_markBy_L72 F x1 ((σ 1) x1.toNatClampNeg) ((σ 4) ((5 : Int32) * x1).toNatClampNeg) F (0 : Int32) σ) (fun u72 => if ¬ ((((5 : Int32) * x1) + (4 : Int32)) < 0 ∨ 320 ≤ (((5 : Int32) * x1) + (4 : Int32)).toNatClampNeg) then (if ((u72.2 4) (((5 : Int32) * x1) + (4 : Int32)).toNatClampNeg) = (-1 : Int32) then (some u72.2) else (Option.bind (f_M_givesMarked F u72.2 ((σ 4) ((5 : Int32) * x1).toNatClampNeg)) (fun u128 => if u128 = 0 then (some u72.2) else (if ¬ ((((5 : Int32) * x1) + (4 : Int32)) < 0 ∨ 320 ≤ (((5 : Int32) * x1) + (4 : Int32)).toNatClampNeg) then (Option.bind (f_M_mark u72.2 ((σ 1) x1.toNatClampNeg) ((u72.2 4) (((5 : Int32) * x1) + (4 : Int32)).toNatClampNeg)) (fun u146 => some u146)) else none)))) else none)) else none) else (some σ)) else none)) else none) else none
set_option maxHeartbeats 4000000 in
set_option maxRecDepth 100000 in
theorem c_M_markBy (l : Launch) (D : va_G) (cI cZ : ClassId) (tL : Nat) (q : Nat → Nat) (tl : va_W) (F : Nat) (σ : St) (x1 : Int32) (out0 : St) (h : f_M_markBy F σ x1 = some out0) : gCv l y_M_markBy (.code y_M_markBy b_M_markBy 5 none :: TB) { frames := 3, cells := 0, slots := 0, locals := 65 } D [(cI, .int), (cZ, .boolean)] tL [.ref (q 0), .int x1] (wM cI cZ q σ ++ tl) (wM cI cZ q out0 ++ tl) := by
  refine gCv_of (cc := b_M_markBy) (maxL := 5)  (by decide) rfl (Nat.le_of_ble_eq_true rfl) ?_
  intro p e s m below meth c A ls hf hr hlk hA hK hD0 hE hP hl
  obtain ⟨hx, hb, hml, hown, hts⟩ := id hf
  have hts : ∀ w ∈ TB, w.before _ s = true := fun w h => hts w (List.mem_cons_of_mem _ h)
  have hown : s.vm.findClass R_M = some m.cls := hown
  have hl : lv_has ls 5 [(0, .ref (q 0)), (1, .int x1)] := hl
  have hS : va_S A s.heap s.heap [] := va_S.rf
  have hD : ∀ σ' : St, va_D A (wM cI cZ q σ' ++ tl) := fun σ' => va_Dsame hD0 rfl
  have L72 : ∀ (y1 : Int32) (y2 : Int32) (y3 : Int32) (fu : Nat) (y4 : Int32) (σ : St) (H : Heap) (locs : List Loc) (ls : Array Slot) (out : Int32 × St), f_M_markBy_L72 F y1 y2 y3 fu y4 σ = some out → va_P D vwCl (wM cI cZ q σ ++ tl) H → va_S A s.heap H locs → lv_has ls 5 [(0, .ref (q 0)), (1, .int y1), (2, .int y2), (3, .int y3), (4, .int y4)] → (∀ (H : Heap) (locs : List Loc) (ls : Array Slot), va_P D vwCl (wM cI cZ q out.2 ++ tl) H → va_S A s.heap H locs → lv_has ls 5 [(0, .ref (q 0)), (1, .int y1), (2, .int y2), (3, .int y3), (4, .int out.1)] → W p l e { frames := 3, cells := 0, slots := 0, locals := 65 } s m ([.ref (q 0), .int x1] : List Value).toArray below meth c H locs 0 0 (gQv below D (wM cI cZ q out0 ++ tl) A (([.ref (q 0), .int x1] : List Value).toArray) s) (F0 m 112 ls [])) → W p l e { frames := 3, cells := 0, slots := 0, locals := 65 } s m ([.ref (q 0), .int x1] : List Value).toArray below meth c H locs 0 0 (gQv below D (wM cI cZ q out0 ++ tl) A (([.ref (q 0), .int x1] : List Value).toArray) s) (F0 m 72 ls []) := by
    intro y1 y2 y3 fu
    induction fu with
    | zero => intro y4 σ H locs ls out h; exact absurd (show (none : Option (Int32 × St)) = some out from h) (fun z => by cases z)
    | succ fu ih =>
      intro y4 σ H locs ls out h hP hS hl K
      have h : f_M_markBy_B72 F y1 y2 y3 (f_M_markBy_L72 F y1 y2 y3 fu) y4 σ = some out := h
      unfold f_M_markBy_B72 at h
      refine lv_iload hx hb d_M_markBy_72 (lv_at hl 4 rfl) ?_
      refine lv_iconst (v := 3) hx hb d_M_markBy_74 (by decide) ?_
      refine lv_icmp_ge (tgt := 112) hx hb d_M_markBy_75 (by decide) (fun c => ?_) (fun c => ?_)
      · have h := ifp c h
        cases h
        exact K _ _ ls hP hS (lv_sub hl [0, 1, 2, 3, 4] rfl)
      have h := ifn c h
      refine lv_aload_n hx hb d_M_markBy_78 rfl (lv_at hl 0 rfl) ?_
      refine lv_iload_n hx hb d_M_markBy_79 rfl (lv_at hl 2 rfl) ?_
      refine lv_aload_n hx hb d_M_markBy_80 rfl (lv_at hl 0 rfl) ?_
      refine va_get (D := D) (ci := 5) (v := .ref (q 4)) (C := R_M) (T := T_M) (N := 17) hx hb hts l_M hown hK hP 0 rfl rfl 6 (by decide) (hts _ w_445) (fun _ h9 => h9) rfl d_M_markBy_81 ?_
      refine lv_iconst (v := 5) hx hb d_M_markBy_84 (by decide) ?_
      refine lv_iload_n hx hb d_M_markBy_85 rfl (lv_at hl 1 rfl) ?_
      refine lv_imul hx hb d_M_markBy_86 ?_
      refine lv_iconst (v := 1) hx hb d_M_markBy_87 (by decide) ?_
      refine lv_iadd hx hb d_M_markBy_88 ?_
      refine lv_iload hx hb d_M_markBy_89 (lv_at hl 4 rfl) ?_
      refine lv_iadd hx hb d_M_markBy_91 ?_
      obtain ⟨c, h⟩ := ifs h
      refine va_iald hx hb hK hP 4 0 rfl rfl c d_M_markBy_92 ?_
      obtain ⟨u93, hu93, h⟩ := bnd h
      refine gcall_i (va_runV (As := [.int y2, .int ((σ 4) ((((5 : Int32) * y1) + (1 : Int32)) + y4).toNatClampNeg)]) (rest := []) ⟨hx, hb, hml, hown, hts⟩ (c_M_isMarked l D cI cZ tL q tl σ y2 ((σ 4) ((((5 : Int32) * y1) + (1 : Int32)) + y4).toNatClampNeg) u93 hu93 H.size) (cwV 2 hts (gV w_660 w_661 w_713 w_6 w_662) rfl rfl rfl (by decide +kernel) ⟨Nat.le_of_ble_eq_true rfl, Nat.le_of_ble_eq_true rfl⟩) (gpV (k := 0) (ci := 5) hA hK (hD σ) hE hP hS rfl rfl) rfl rfl hl.1 rfl (lv_room (Nat.le_of_ble_eq_true rfl)) d_M_markBy_93 ⟨Nat.le_of_ble_eq_true rfl, Nat.le_of_ble_eq_true rfl⟩) hA (hD σ) hS (fun H locs hP hS => ?_)
      refine lv_if_eq (tgt := 106) hx hb d_M_markBy_96 (by decide) (fun c => ?_) (fun c => ?_)
      · have h := ifp c h
        refine lv_iinc (v := (y4 + (1 : Int32))) (lv' := [(4, .int (y4 + (1 : Int32))), (0, .ref (q 0)), (1, .int y1), (2, .int y2), (3, .int y3)]) hx hb d_M_markBy_106 hl (k := 4) rfl rfl (by decide) rfl (fun ls hl => ?_)
        refine lv_goto (tgt := 72) hx hb d_M_markBy_109 (by decide) ?_
        exact ih (y4 + (1 : Int32)) σ _ _ ls out h hP hS (lv_sub hl [1, 2, 3, 4, 0] rfl) K
      have h := ifn c h
      refine lv_aload_n hx hb d_M_markBy_99 rfl (lv_at hl 0 rfl) ?_
      refine lv_iload_n hx hb d_M_markBy_100 rfl (lv_at hl 3 rfl) ?_
      refine lv_iload hx hb d_M_markBy_101 (lv_at hl 4 rfl) ?_
      obtain ⟨u103, hu103, h⟩ := bnd h
      refine gcall_v (va_runV (As := [.int y3, .int y4]) (rest := []) ⟨hx, hb, hml, hown, hts⟩ (c_M_mark l D cI cZ tL q tl σ y3 y4 u103 hu103 H.size) (cwV 2 hts (gV w_654 w_655 w_720 w_6 w_656) rfl rfl rfl (by decide +kernel) ⟨Nat.le_of_ble_eq_true rfl, Nat.le_of_ble_eq_true rfl⟩) (gpV (k := 0) (ci := 5) hA hK (hD σ) hE hP hS rfl rfl) rfl rfl hl.1 rfl (lv_room (Nat.le_of_ble_eq_true rfl)) d_M_markBy_103 ⟨Nat.le_of_ble_eq_true rfl, Nat.le_of_ble_eq_true rfl⟩) hA (hD σ) hS (fun H locs hP hS => ?_)
      refine lv_iinc (v := (y4 + (1 : Int32))) (lv' := [(4, .int (y4 + (1 : Int32))), (0, .ref (q 0)), (1, .int y1), (2, .int y2), (3, .int y3)]) hx hb d_M_markBy_106 hl (k := 4) rfl rfl (by decide) rfl (fun ls hl => ?_)
      refine lv_goto (tgt := 72) hx hb d_M_markBy_109 (by decide) ?_
      exact ih (y4 + (1 : Int32)) u103 _ _ ls out h hP hS (lv_sub hl [1, 2, 3, 4, 0] rfl) K
  unfold f_M_markBy at h
  refine lv_aload_n hx hb d_M_markBy_0 rfl (lv_at hl 0 rfl) ?_
  refine va_get (D := D) (ci := 5) (v := .ref (q 1)) (C := R_M) (T := T_M) (N := 17) hx hb hts l_M hown hK hP 0 rfl rfl 3 (by decide) (hts _ w_442) (fun _ h9 => h9) rfl d_M_markBy_1 ?_
  refine lv_iload_n hx hb d_M_markBy_4 rfl (lv_at hl 1 rfl) ?_
  obtain ⟨c, h⟩ := ifs h
  refine va_iald hx hb hK hP 1 0 rfl rfl c d_M_markBy_5 ?_
  refine lv_istore_n (lv' := [(2, .int ((σ 1) x1.toNatClampNeg)), (0, .ref (q 0)), (1, .int x1)]) hx hb d_M_markBy_6 rfl hl (by decide) rfl (fun ls hl => ?_)
  refine lv_aload_n hx hb d_M_markBy_7 rfl (lv_at hl 1 rfl) ?_
  refine va_get (D := D) (ci := 5) (v := .ref (q 2)) (C := R_M) (T := T_M) (N := 17) hx hb hts l_M hown hK hP 0 rfl rfl 4 (by decide) (hts _ w_443) (fun _ h9 => h9) rfl d_M_markBy_8 ?_
  refine lv_iload_n hx hb d_M_markBy_11 rfl (lv_at hl 2 rfl) ?_
  obtain ⟨c, h⟩ := ifs h
  refine va_iald hx hb hK hP 2 0 rfl rfl c d_M_markBy_12 ?_
  refine lv_iconst (v := 1) hx hb d_M_markBy_13 (by decide) ?_
  refine lv_icmp_ne (tgt := 48) hx hb d_M_markBy_14 (by decide) (fun c => ?_) (fun c => ?_)
  · have h := ifn c h
    refine lv_aload_n hx hb d_M_markBy_48 rfl (lv_at hl 1 rfl) ?_
    refine va_get (D := D) (ci := 5) (v := .ref (q 2)) (C := R_M) (T := T_M) (N := 17) hx hb hts l_M hown hK hP 0 rfl rfl 4 (by decide) (hts _ w_443) (fun _ h9 => h9) rfl d_M_markBy_49 ?_
    refine lv_iload_n hx hb d_M_markBy_52 rfl (lv_at hl 2 rfl) ?_
    obtain ⟨c, h⟩ := ifs h
    refine va_iald hx hb hK hP 2 0 rfl rfl c d_M_markBy_53 ?_
    refine lv_bipush (v := 6) hx hb d_M_markBy_54 (by decide) ?_
    refine lv_icmp_eq (tgt := 60) hx hb d_M_markBy_56 (by decide) (fun c => ?_) (fun c => ?_)
    · have h := ifp c h
      refine lv_aload_n hx hb d_M_markBy_60 rfl (lv_at hl 1 rfl) ?_
      refine va_get (D := D) (ci := 5) (v := .ref (q 4)) (C := R_M) (T := T_M) (N := 17) hx hb hts l_M hown hK hP 0 rfl rfl 6 (by decide) (hts _ w_445) (fun _ h9 => h9) rfl d_M_markBy_61 ?_
      refine lv_iconst (v := 5) hx hb d_M_markBy_64 (by decide) ?_
      refine lv_iload_n hx hb d_M_markBy_65 rfl (lv_at hl 2 rfl) ?_
      refine lv_imul hx hb d_M_markBy_66 ?_
      obtain ⟨c, h⟩ := ifs h
      refine va_iald hx hb hK hP 4 0 rfl rfl c d_M_markBy_67 ?_
      refine lv_istore_n (lv' := [(3, .int ((σ 4) ((5 : Int32) * x1).toNatClampNeg)), (2, .int ((σ 1) x1.toNatClampNeg)), (0, .ref (q 0)), (1, .int x1)]) hx hb d_M_markBy_68 rfl hl (by decide) rfl (fun ls hl => ?_)
      refine lv_iconst (v := 0) hx hb d_M_markBy_69 (by decide) ?_
      refine lv_istore (lv' := [(4, .int (0 : Int32)), (3, .int ((σ 4) ((5 : Int32) * x1).toNatClampNeg)), (2, .int ((σ 1) x1.toNatClampNeg)), (0, .ref (q 0)), (1, .int x1)]) hx hb d_M_markBy_70 hl (by decide) rfl (fun ls hl => ?_)
      obtain ⟨u72, hu72, h⟩ := bnd h
      refine L72 x1 ((σ 1) x1.toNatClampNeg) ((σ 4) ((5 : Int32) * x1).toNatClampNeg) F (0 : Int32) σ _ _ ls u72 hu72 hP hS (lv_sub hl [3, 4, 2, 1, 0] rfl) (fun H locs ls hP hS hl => ?_)
      refine lv_aload_n hx hb d_M_markBy_112 rfl (lv_at hl 0 rfl) ?_
      refine va_get (D := D) (ci := 5) (v := .ref (q 4)) (C := R_M) (T := T_M) (N := 17) hx hb hts l_M hown hK hP 0 rfl rfl 6 (by decide) (hts _ w_445) (fun _ h9 => h9) rfl d_M_markBy_113 ?_
      refine lv_iconst (v := 5) hx hb d_M_markBy_116 (by decide) ?_
      refine lv_iload_n hx hb d_M_markBy_117 rfl (lv_at hl 1 rfl) ?_
      refine lv_imul hx hb d_M_markBy_118 ?_
      refine lv_iconst (v := 4) hx hb d_M_markBy_119 (by decide) ?_
      refine lv_iadd hx hb d_M_markBy_120 ?_
      obtain ⟨c, h⟩ := ifs h
      refine va_iald hx hb hK hP 4 0 rfl rfl c d_M_markBy_121 ?_
      refine lv_iconst (v := -1) hx hb d_M_markBy_122 (by decide) ?_
      refine lv_icmp_eq (tgt := 149) hx hb d_M_markBy_123 (by decide) (fun c => ?_) (fun c => ?_)
      · have h := ifp c h
        cases h
        exact gret_v hx hb hr hlk hP hS d_M_markBy_149
      have h := ifn c h
      refine lv_aload_n hx hb d_M_markBy_126 rfl (lv_at hl 0 rfl) ?_
      refine lv_iload_n hx hb d_M_markBy_127 rfl (lv_at hl 3 rfl) ?_
      obtain ⟨u128, hu128, h⟩ := bnd h
      refine gcall_i (va_runV (As := [.int ((σ 4) ((5 : Int32) * x1).toNatClampNeg)]) (rest := []) ⟨hx, hb, hml, hown, hts⟩ (c_M_givesMarked l D cI cZ tL q tl F u72.2 ((σ 4) ((5 : Int32) * x1).toNatClampNeg) u128 hu128 H.size) (cwV 1 hts (gV w_663 w_664 w_704 w_6 w_665) rfl rfl rfl (by decide +kernel) ⟨Nat.le_of_ble_eq_true rfl, Nat.le_of_ble_eq_true rfl⟩) (gpV (k := 0) (ci := 5) hA hK (hD u72.2) hE hP hS rfl rfl) rfl rfl hl.1 rfl (lv_room (Nat.le_of_ble_eq_true rfl)) d_M_markBy_128 ⟨Nat.le_of_ble_eq_true rfl, Nat.le_of_ble_eq_true rfl⟩) hA (hD u72.2) hS (fun H locs hP hS => ?_)
      refine lv_if_eq (tgt := 149) hx hb d_M_markBy_131 (by decide) (fun c => ?_) (fun c => ?_)
      · have h := ifp c h
        cases h
        exact gret_v hx hb hr hlk hP hS d_M_markBy_149
      have h := ifn c h
      refine lv_aload_n hx hb d_M_markBy_134 rfl (lv_at hl 0 rfl) ?_
      refine lv_iload_n hx hb d_M_markBy_135 rfl (lv_at hl 2 rfl) ?_
      refine lv_aload_n hx hb d_M_markBy_136 rfl (lv_at hl 0 rfl) ?_
      refine va_get (D := D) (ci := 5) (v := .ref (q 4)) (C := R_M) (T := T_M) (N := 17) hx hb hts l_M hown hK hP 0 rfl rfl 6 (by decide) (hts _ w_445) (fun _ h9 => h9) rfl d_M_markBy_137 ?_
      refine lv_iconst (v := 5) hx hb d_M_markBy_140 (by decide) ?_
      refine lv_iload_n hx hb d_M_markBy_141 rfl (lv_at hl 1 rfl) ?_
      refine lv_imul hx hb d_M_markBy_142 ?_
      refine lv_iconst (v := 4) hx hb d_M_markBy_143 (by decide) ?_
      refine lv_iadd hx hb d_M_markBy_144 ?_
      obtain ⟨c, h⟩ := ifs h
      refine va_iald hx hb hK hP 4 0 rfl rfl c d_M_markBy_145 ?_
      obtain ⟨u146, hu146, h⟩ := bnd h
      refine gcall_v (va_runV (As := [.int ((σ 1) x1.toNatClampNeg), .int ((u72.2 4) (((5 : Int32) * x1) + (4 : Int32)).toNatClampNeg)]) (rest := []) ⟨hx, hb, hml, hown, hts⟩ (c_M_mark l D cI cZ tL q tl u72.2 ((σ 1) x1.toNatClampNeg) ((u72.2 4) (((5 : Int32) * x1) + (4 : Int32)).toNatClampNeg) u146 hu146 H.size) (cwV 2 hts (gV w_654 w_655 w_720 w_6 w_656) rfl rfl rfl (by decide +kernel) ⟨Nat.le_of_ble_eq_true rfl, Nat.le_of_ble_eq_true rfl⟩) (gpV (k := 0) (ci := 5) hA hK (hD u72.2) hE hP hS rfl rfl) rfl rfl hl.1 rfl (lv_room (Nat.le_of_ble_eq_true rfl)) d_M_markBy_146 ⟨Nat.le_of_ble_eq_true rfl, Nat.le_of_ble_eq_true rfl⟩) hA (hD u72.2) hS (fun H locs hP hS => ?_)
      cases h
      exact gret_v hx hb hr hlk hP hS d_M_markBy_149
    have h := ifn c h
    cases h
    exact gret_v hx hb hr hlk hP hS d_M_markBy_59
  have h := ifp c h
  refine lv_aload_n hx hb d_M_markBy_17 rfl (lv_at hl 1 rfl) ?_
  refine lv_iload_n hx hb d_M_markBy_18 rfl (lv_at hl 0 rfl) ?_
  refine lv_aload_n hx hb d_M_markBy_19 rfl (lv_at hl 1 rfl) ?_
  refine va_get (D := D) (ci := 5) (v := .ref (q 4)) (C := R_M) (T := T_M) (N := 17) hx hb hts l_M hown hK hP 0 rfl rfl 6 (by decide) (hts _ w_445) (fun _ h9 => h9) rfl d_M_markBy_20 ?_
  refine lv_iconst (v := 5) hx hb d_M_markBy_23 (by decide) ?_
  refine lv_iload_n hx hb d_M_markBy_24 rfl (lv_at hl 2 rfl) ?_
  refine lv_imul hx hb d_M_markBy_25 ?_
  refine lv_iconst (v := 1) hx hb d_M_markBy_26 (by decide) ?_
  refine lv_iadd hx hb d_M_markBy_27 ?_
  obtain ⟨c, h⟩ := ifs h
  refine va_iald hx hb hK hP 4 0 rfl rfl c d_M_markBy_28 ?_
  obtain ⟨u29, hu29, h⟩ := bnd h
  refine gcall_i (va_runV (As := [.int ((σ 1) x1.toNatClampNeg), .int ((σ 4) (((5 : Int32) * x1) + (1 : Int32)).toNatClampNeg)]) (rest := []) ⟨hx, hb, hml, hown, hts⟩ (c_M_isMarked l D cI cZ tL q tl σ ((σ 1) x1.toNatClampNeg) ((σ 4) (((5 : Int32) * x1) + (1 : Int32)).toNatClampNeg) u29 hu29 s.heap.size) (cwV 2 hts (gV w_660 w_661 w_713 w_6 w_662) rfl rfl rfl (by decide +kernel) ⟨Nat.le_of_ble_eq_true rfl, Nat.le_of_ble_eq_true rfl⟩) (gpV (k := 0) (ci := 5) hA hK (hD σ) hE hP hS rfl rfl) rfl rfl hl.1 rfl (lv_room (Nat.le_of_ble_eq_true rfl)) d_M_markBy_29 ⟨Nat.le_of_ble_eq_true rfl, Nat.le_of_ble_eq_true rfl⟩) hA (hD σ) hS (fun H locs hP hS => ?_)
  refine lv_if_eq (tgt := 48) hx hb d_M_markBy_32 (by decide) (fun c => ?_) (fun c => ?_)
  · have h := ifp c h
    refine lv_aload_n hx hb d_M_markBy_48 rfl (lv_at hl 1 rfl) ?_
    refine va_get (D := D) (ci := 5) (v := .ref (q 2)) (C := R_M) (T := T_M) (N := 17) hx hb hts l_M hown hK hP 0 rfl rfl 4 (by decide) (hts _ w_443) (fun _ h9 => h9) rfl d_M_markBy_49 ?_
    refine lv_iload_n hx hb d_M_markBy_52 rfl (lv_at hl 2 rfl) ?_
    obtain ⟨c, h⟩ := ifs h
    refine va_iald hx hb hK hP 2 0 rfl rfl c d_M_markBy_53 ?_
    refine lv_bipush (v := 6) hx hb d_M_markBy_54 (by decide) ?_
    refine lv_icmp_eq (tgt := 60) hx hb d_M_markBy_56 (by decide) (fun c => ?_) (fun c => ?_)
    · have h := ifp c h
      refine lv_aload_n hx hb d_M_markBy_60 rfl (lv_at hl 1 rfl) ?_
      refine va_get (D := D) (ci := 5) (v := .ref (q 4)) (C := R_M) (T := T_M) (N := 17) hx hb hts l_M hown hK hP 0 rfl rfl 6 (by decide) (hts _ w_445) (fun _ h9 => h9) rfl d_M_markBy_61 ?_
      refine lv_iconst (v := 5) hx hb d_M_markBy_64 (by decide) ?_
      refine lv_iload_n hx hb d_M_markBy_65 rfl (lv_at hl 2 rfl) ?_
      refine lv_imul hx hb d_M_markBy_66 ?_
      obtain ⟨c, h⟩ := ifs h
      refine va_iald hx hb hK hP 4 0 rfl rfl c d_M_markBy_67 ?_
      refine lv_istore_n (lv' := [(3, .int ((σ 4) ((5 : Int32) * x1).toNatClampNeg)), (2, .int ((σ 1) x1.toNatClampNeg)), (0, .ref (q 0)), (1, .int x1)]) hx hb d_M_markBy_68 rfl hl (by decide) rfl (fun ls hl => ?_)
      refine lv_iconst (v := 0) hx hb d_M_markBy_69 (by decide) ?_
      refine lv_istore (lv' := [(4, .int (0 : Int32)), (3, .int ((σ 4) ((5 : Int32) * x1).toNatClampNeg)), (2, .int ((σ 1) x1.toNatClampNeg)), (0, .ref (q 0)), (1, .int x1)]) hx hb d_M_markBy_70 hl (by decide) rfl (fun ls hl => ?_)
      obtain ⟨u72, hu72, h⟩ := bnd h
      refine L72 x1 ((σ 1) x1.toNatClampNeg) ((σ 4) ((5 : Int32) * x1).toNatClampNeg) F (0 : Int32) σ _ _ ls u72 hu72 hP hS (lv_sub hl [3, 4, 2, 1, 0] rfl) (fun H locs ls hP hS hl => ?_)
      refine lv_aload_n hx hb d_M_markBy_112 rfl (lv_at hl 0 rfl) ?_
      refine va_get (D := D) (ci := 5) (v := .ref (q 4)) (C := R_M) (T := T_M) (N := 17) hx hb hts l_M hown hK hP 0 rfl rfl 6 (by decide) (hts _ w_445) (fun _ h9 => h9) rfl d_M_markBy_113 ?_
      refine lv_iconst (v := 5) hx hb d_M_markBy_116 (by decide) ?_
      refine lv_iload_n hx hb d_M_markBy_117 rfl (lv_at hl 1 rfl) ?_
      refine lv_imul hx hb d_M_markBy_118 ?_
      refine lv_iconst (v := 4) hx hb d_M_markBy_119 (by decide) ?_
      refine lv_iadd hx hb d_M_markBy_120 ?_
      obtain ⟨c, h⟩ := ifs h
      refine va_iald hx hb hK hP 4 0 rfl rfl c d_M_markBy_121 ?_
      refine lv_iconst (v := -1) hx hb d_M_markBy_122 (by decide) ?_
      refine lv_icmp_eq (tgt := 149) hx hb d_M_markBy_123 (by decide) (fun c => ?_) (fun c => ?_)
      · have h := ifp c h
        cases h
        exact gret_v hx hb hr hlk hP hS d_M_markBy_149
      have h := ifn c h
      refine lv_aload_n hx hb d_M_markBy_126 rfl (lv_at hl 0 rfl) ?_
      refine lv_iload_n hx hb d_M_markBy_127 rfl (lv_at hl 3 rfl) ?_
      obtain ⟨u128, hu128, h⟩ := bnd h
      refine gcall_i (va_runV (As := [.int ((σ 4) ((5 : Int32) * x1).toNatClampNeg)]) (rest := []) ⟨hx, hb, hml, hown, hts⟩ (c_M_givesMarked l D cI cZ tL q tl F u72.2 ((σ 4) ((5 : Int32) * x1).toNatClampNeg) u128 hu128 H.size) (cwV 1 hts (gV w_663 w_664 w_704 w_6 w_665) rfl rfl rfl (by decide +kernel) ⟨Nat.le_of_ble_eq_true rfl, Nat.le_of_ble_eq_true rfl⟩) (gpV (k := 0) (ci := 5) hA hK (hD u72.2) hE hP hS rfl rfl) rfl rfl hl.1 rfl (lv_room (Nat.le_of_ble_eq_true rfl)) d_M_markBy_128 ⟨Nat.le_of_ble_eq_true rfl, Nat.le_of_ble_eq_true rfl⟩) hA (hD u72.2) hS (fun H locs hP hS => ?_)
      refine lv_if_eq (tgt := 149) hx hb d_M_markBy_131 (by decide) (fun c => ?_) (fun c => ?_)
      · have h := ifp c h
        cases h
        exact gret_v hx hb hr hlk hP hS d_M_markBy_149
      have h := ifn c h
      refine lv_aload_n hx hb d_M_markBy_134 rfl (lv_at hl 0 rfl) ?_
      refine lv_iload_n hx hb d_M_markBy_135 rfl (lv_at hl 2 rfl) ?_
      refine lv_aload_n hx hb d_M_markBy_136 rfl (lv_at hl 0 rfl) ?_
      refine va_get (D := D) (ci := 5) (v := .ref (q 4)) (C := R_M) (T := T_M) (N := 17) hx hb hts l_M hown hK hP 0 rfl rfl 6 (by decide) (hts _ w_445) (fun _ h9 => h9) rfl d_M_markBy_137 ?_
      refine lv_iconst (v := 5) hx hb d_M_markBy_140 (by decide) ?_
      refine lv_iload_n hx hb d_M_markBy_141 rfl (lv_at hl 1 rfl) ?_
      refine lv_imul hx hb d_M_markBy_142 ?_
      refine lv_iconst (v := 4) hx hb d_M_markBy_143 (by decide) ?_
      refine lv_iadd hx hb d_M_markBy_144 ?_
      obtain ⟨c, h⟩ := ifs h
      refine va_iald hx hb hK hP 4 0 rfl rfl c d_M_markBy_145 ?_
      obtain ⟨u146, hu146, h⟩ := bnd h
      refine gcall_v (va_runV (As := [.int ((σ 1) x1.toNatClampNeg), .int ((u72.2 4) (((5 : Int32) * x1) + (4 : Int32)).toNatClampNeg)]) (rest := []) ⟨hx, hb, hml, hown, hts⟩ (c_M_mark l D cI cZ tL q tl u72.2 ((σ 1) x1.toNatClampNeg) ((u72.2 4) (((5 : Int32) * x1) + (4 : Int32)).toNatClampNeg) u146 hu146 H.size) (cwV 2 hts (gV w_654 w_655 w_720 w_6 w_656) rfl rfl rfl (by decide +kernel) ⟨Nat.le_of_ble_eq_true rfl, Nat.le_of_ble_eq_true rfl⟩) (gpV (k := 0) (ci := 5) hA hK (hD u72.2) hE hP hS rfl rfl) rfl rfl hl.1 rfl (lv_room (Nat.le_of_ble_eq_true rfl)) d_M_markBy_146 ⟨Nat.le_of_ble_eq_true rfl, Nat.le_of_ble_eq_true rfl⟩) hA (hD u72.2) hS (fun H locs hP hS => ?_)
      cases h
      exact gret_v hx hb hr hlk hP hS d_M_markBy_149
    have h := ifn c h
    cases h
    exact gret_v hx hb hr hlk hP hS d_M_markBy_59
  have h := ifn c h
  refine lv_aload_n hx hb d_M_markBy_35 rfl (lv_at hl 1 rfl) ?_
  refine lv_iload_n hx hb d_M_markBy_36 rfl (lv_at hl 0 rfl) ?_
  refine lv_aload_n hx hb d_M_markBy_37 rfl (lv_at hl 1 rfl) ?_
  refine va_get (D := D) (ci := 5) (v := .ref (q 4)) (C := R_M) (T := T_M) (N := 17) hx hb hts l_M hown hK hP 0 rfl rfl 6 (by decide) (hts _ w_445) (fun _ h9 => h9) rfl d_M_markBy_38 ?_
  refine lv_iconst (v := 5) hx hb d_M_markBy_41 (by decide) ?_
  refine lv_iload_n hx hb d_M_markBy_42 rfl (lv_at hl 2 rfl) ?_
  refine lv_imul hx hb d_M_markBy_43 ?_
  obtain ⟨c, h⟩ := ifs h
  refine va_iald hx hb hK hP 4 0 rfl rfl c d_M_markBy_44 ?_
  obtain ⟨u45, hu45, h⟩ := bnd h
  refine gcall_v (va_runV (As := [.int ((σ 1) x1.toNatClampNeg), .int ((σ 4) ((5 : Int32) * x1).toNatClampNeg)]) (rest := []) ⟨hx, hb, hml, hown, hts⟩ (c_M_mark l D cI cZ tL q tl σ ((σ 1) x1.toNatClampNeg) ((σ 4) ((5 : Int32) * x1).toNatClampNeg) u45 hu45 H.size) (cwV 2 hts (gV w_654 w_655 w_720 w_6 w_656) rfl rfl rfl (by decide +kernel) ⟨Nat.le_of_ble_eq_true rfl, Nat.le_of_ble_eq_true rfl⟩) (gpV (k := 0) (ci := 5) hA hK (hD σ) hE hP hS rfl rfl) rfl rfl hl.1 rfl (lv_room (Nat.le_of_ble_eq_true rfl)) d_M_markBy_45 ⟨Nat.le_of_ble_eq_true rfl, Nat.le_of_ble_eq_true rfl⟩) hA (hD σ) hS (fun H locs hP hS => ?_)
  refine lv_aload_n hx hb d_M_markBy_48 rfl (lv_at hl 1 rfl) ?_
  refine va_get (D := D) (ci := 5) (v := .ref (q 2)) (C := R_M) (T := T_M) (N := 17) hx hb hts l_M hown hK hP 0 rfl rfl 4 (by decide) (hts _ w_443) (fun _ h9 => h9) rfl d_M_markBy_49 ?_
  refine lv_iload_n hx hb d_M_markBy_52 rfl (lv_at hl 2 rfl) ?_
  obtain ⟨c, h⟩ := ifs h
  refine va_iald hx hb hK hP 2 0 rfl rfl c d_M_markBy_53 ?_
  refine lv_bipush (v := 6) hx hb d_M_markBy_54 (by decide) ?_
  refine lv_icmp_eq (tgt := 60) hx hb d_M_markBy_56 (by decide) (fun c => ?_) (fun c => ?_)
  · have h := ifp c h
    refine lv_aload_n hx hb d_M_markBy_60 rfl (lv_at hl 1 rfl) ?_
    refine va_get (D := D) (ci := 5) (v := .ref (q 4)) (C := R_M) (T := T_M) (N := 17) hx hb hts l_M hown hK hP 0 rfl rfl 6 (by decide) (hts _ w_445) (fun _ h9 => h9) rfl d_M_markBy_61 ?_
    refine lv_iconst (v := 5) hx hb d_M_markBy_64 (by decide) ?_
    refine lv_iload_n hx hb d_M_markBy_65 rfl (lv_at hl 2 rfl) ?_
    refine lv_imul hx hb d_M_markBy_66 ?_
    obtain ⟨c, h⟩ := ifs h
    refine va_iald hx hb hK hP 4 0 rfl rfl c d_M_markBy_67 ?_
    refine lv_istore_n (lv' := [(3, .int ((u45 4) ((5 : Int32) * x1).toNatClampNeg)), (2, .int ((σ 1) x1.toNatClampNeg)), (0, .ref (q 0)), (1, .int x1)]) hx hb d_M_markBy_68 rfl hl (by decide) rfl (fun ls hl => ?_)
    refine lv_iconst (v := 0) hx hb d_M_markBy_69 (by decide) ?_
    refine lv_istore (lv' := [(4, .int (0 : Int32)), (3, .int ((u45 4) ((5 : Int32) * x1).toNatClampNeg)), (2, .int ((σ 1) x1.toNatClampNeg)), (0, .ref (q 0)), (1, .int x1)]) hx hb d_M_markBy_70 hl (by decide) rfl (fun ls hl => ?_)
    obtain ⟨u72, hu72, h⟩ := bnd h
    refine L72 x1 ((σ 1) x1.toNatClampNeg) ((u45 4) ((5 : Int32) * x1).toNatClampNeg) F (0 : Int32) u45 _ _ ls u72 hu72 hP hS (lv_sub hl [3, 4, 2, 1, 0] rfl) (fun H locs ls hP hS hl => ?_)
    refine lv_aload_n hx hb d_M_markBy_112 rfl (lv_at hl 0 rfl) ?_
    refine va_get (D := D) (ci := 5) (v := .ref (q 4)) (C := R_M) (T := T_M) (N := 17) hx hb hts l_M hown hK hP 0 rfl rfl 6 (by decide) (hts _ w_445) (fun _ h9 => h9) rfl d_M_markBy_113 ?_
    refine lv_iconst (v := 5) hx hb d_M_markBy_116 (by decide) ?_
    refine lv_iload_n hx hb d_M_markBy_117 rfl (lv_at hl 1 rfl) ?_
    refine lv_imul hx hb d_M_markBy_118 ?_
    refine lv_iconst (v := 4) hx hb d_M_markBy_119 (by decide) ?_
    refine lv_iadd hx hb d_M_markBy_120 ?_
    obtain ⟨c, h⟩ := ifs h
    refine va_iald hx hb hK hP 4 0 rfl rfl c d_M_markBy_121 ?_
    refine lv_iconst (v := -1) hx hb d_M_markBy_122 (by decide) ?_
    refine lv_icmp_eq (tgt := 149) hx hb d_M_markBy_123 (by decide) (fun c => ?_) (fun c => ?_)
    · have h := ifp c h
      cases h
      exact gret_v hx hb hr hlk hP hS d_M_markBy_149
    have h := ifn c h
    refine lv_aload_n hx hb d_M_markBy_126 rfl (lv_at hl 0 rfl) ?_
    refine lv_iload_n hx hb d_M_markBy_127 rfl (lv_at hl 3 rfl) ?_
    obtain ⟨u128, hu128, h⟩ := bnd h
    refine gcall_i (va_runV (As := [.int ((u45 4) ((5 : Int32) * x1).toNatClampNeg)]) (rest := []) ⟨hx, hb, hml, hown, hts⟩ (c_M_givesMarked l D cI cZ tL q tl F u72.2 ((u45 4) ((5 : Int32) * x1).toNatClampNeg) u128 hu128 H.size) (cwV 1 hts (gV w_663 w_664 w_704 w_6 w_665) rfl rfl rfl (by decide +kernel) ⟨Nat.le_of_ble_eq_true rfl, Nat.le_of_ble_eq_true rfl⟩) (gpV (k := 0) (ci := 5) hA hK (hD u72.2) hE hP hS rfl rfl) rfl rfl hl.1 rfl (lv_room (Nat.le_of_ble_eq_true rfl)) d_M_markBy_128 ⟨Nat.le_of_ble_eq_true rfl, Nat.le_of_ble_eq_true rfl⟩) hA (hD u72.2) hS (fun H locs hP hS => ?_)
    refine lv_if_eq (tgt := 149) hx hb d_M_markBy_131 (by decide) (fun c => ?_) (fun c => ?_)
    · have h := ifp c h
      cases h
      exact gret_v hx hb hr hlk hP hS d_M_markBy_149
    have h := ifn c h
    refine lv_aload_n hx hb d_M_markBy_134 rfl (lv_at hl 0 rfl) ?_
    refine lv_iload_n hx hb d_M_markBy_135 rfl (lv_at hl 2 rfl) ?_
    refine lv_aload_n hx hb d_M_markBy_136 rfl (lv_at hl 0 rfl) ?_
    refine va_get (D := D) (ci := 5) (v := .ref (q 4)) (C := R_M) (T := T_M) (N := 17) hx hb hts l_M hown hK hP 0 rfl rfl 6 (by decide) (hts _ w_445) (fun _ h9 => h9) rfl d_M_markBy_137 ?_
    refine lv_iconst (v := 5) hx hb d_M_markBy_140 (by decide) ?_
    refine lv_iload_n hx hb d_M_markBy_141 rfl (lv_at hl 1 rfl) ?_
    refine lv_imul hx hb d_M_markBy_142 ?_
    refine lv_iconst (v := 4) hx hb d_M_markBy_143 (by decide) ?_
    refine lv_iadd hx hb d_M_markBy_144 ?_
    obtain ⟨c, h⟩ := ifs h
    refine va_iald hx hb hK hP 4 0 rfl rfl c d_M_markBy_145 ?_
    obtain ⟨u146, hu146, h⟩ := bnd h
    refine gcall_v (va_runV (As := [.int ((σ 1) x1.toNatClampNeg), .int ((u72.2 4) (((5 : Int32) * x1) + (4 : Int32)).toNatClampNeg)]) (rest := []) ⟨hx, hb, hml, hown, hts⟩ (c_M_mark l D cI cZ tL q tl u72.2 ((σ 1) x1.toNatClampNeg) ((u72.2 4) (((5 : Int32) * x1) + (4 : Int32)).toNatClampNeg) u146 hu146 H.size) (cwV 2 hts (gV w_654 w_655 w_720 w_6 w_656) rfl rfl rfl (by decide +kernel) ⟨Nat.le_of_ble_eq_true rfl, Nat.le_of_ble_eq_true rfl⟩) (gpV (k := 0) (ci := 5) hA hK (hD u72.2) hE hP hS rfl rfl) rfl rfl hl.1 rfl (lv_room (Nat.le_of_ble_eq_true rfl)) d_M_markBy_146 ⟨Nat.le_of_ble_eq_true rfl, Nat.le_of_ble_eq_true rfl⟩) hA (hD u72.2) hS (fun H locs hP hS => ?_)
    cases h
    exact gret_v hx hb hr hlk hP hS d_M_markBy_149
  have h := ifn c h
  cases h
  exact gret_v hx hb hr hlk hP hS d_M_markBy_59
/-! ===== EscapeOwnersModel.findMarked(II)V ===== -/
def f_M_findMarked_B2 (F : Nat) (y1 : Int32) (y2 : Int32) (rec : Int32 → St → Option (Int32 × St)) (y3 : Int32) (σ : St) : Option (Int32 × St) := if (64 : Int32) ≤ y3 then (some (y3, σ)) else (if ¬ (y3 < 0 ∨ 64 ≤ y3.toNatClampNeg) then (lett (sr σ 10 (upd (σ 10) y3.toNatClampNeg (0 : Int32))) (fun s14 => rec (y3 + (1 : Int32)) s14)) else none)
def f_M_findMarked_L2 (F : Nat) (y1 : Int32) (y2 : Int32) : Nat → Int32 → St → Option (Int32 × St)
  | 0, _, _ => none
  | fu + 1, y3, σ => f_M_findMarked_B2 F y1 y2 (f_M_findMarked_L2 F y1 y2 fu) y3 σ
def f_M_findMarked_B46 (F : Nat) (rec : Int32 → St → Option (Int32 × St)) (y3 : Int32) (σ : St) : Option (Int32 × St) := if (σ 0 1) ≤ y3 then (some (y3, σ)) else (Option.bind (f_M_isLive σ y3) (fun u56 => if u56 = 0 then (rec (y3 + (1 : Int32)) σ) else (Option.bind (f_M_markBy F σ y3) (fun u64 => rec (y3 + (1 : Int32)) u64))))
def f_M_findMarked_L46 (F : Nat) : Nat → Int32 → St → Option (Int32 × St)
  | 0, _, _ => none
  | fu + 1, y3, σ => f_M_findMarked_B46 F (f_M_findMarked_L46 F fu) y3 σ
def f_M_findMarked_B32 (F : Nat) (rec : St → Option (St)) (σ : St) : Option (St) := if (σ 0 16) = 0 then (some σ) else (lett (su σ 0 16 (0 : Int32)) (fun s41 => Option.bind (f_M_findMarked_L46 F F (0 : Int32) s41) (fun u46 => rec u46.2)))
def f_M_findMarked_L32 (F : Nat) : Nat → St → Option (St)
  | 0, _ => none
  | fu + 1, σ => f_M_findMarked_B32 F (f_M_findMarked_L32 F fu) σ
def f_M_findMarked (F : Nat) (σ : St) (x1 : Int32) (x2 : Int32) : Option (St) := Option.bind (f_M_findMarked_L2 F x1 x2 F (0 : Int32) σ) (fun u2 => Option.bind (f_M_mark u2.2 x1 x2) (fun u24 => lett (su u24 0 16 (1 : Int32)) (fun s29 => Option.bind (f_M_findMarked_L32 F F s29) (fun u32 => some u32))))
set_option maxHeartbeats 4000000 in
set_option maxRecDepth 100000 in
theorem c_M_findMarked (l : Launch) (D : va_G) (cI cZ : ClassId) (tL : Nat) (q : Nat → Nat) (tl : va_W) (F : Nat) (σ : St) (x1 : Int32) (x2 : Int32) (out0 : St) (h : f_M_findMarked F σ x1 x2 = some out0) : gCv l y_M_findMarked (.code y_M_findMarked b_M_findMarked 4 none :: TB) { frames := 4, cells := 0, slots := 0, locals := 89 } D [(cI, .int), (cZ, .boolean)] tL [.ref (q 0), .int x1, .int x2] (wM cI cZ q σ ++ tl) (wM cI cZ q out0 ++ tl) := by
  refine gCv_of (cc := b_M_findMarked) (maxL := 4)  (by decide) rfl (Nat.le_of_ble_eq_true rfl) ?_
  intro p e s m below meth c A ls hf hr hlk hA hK hD0 hE hP hl
  obtain ⟨hx, hb, hml, hown, hts⟩ := id hf
  have hts : ∀ w ∈ TB, w.before _ s = true := fun w h => hts w (List.mem_cons_of_mem _ h)
  have hown : s.vm.findClass R_M = some m.cls := hown
  have hl : lv_has ls 4 [(0, .ref (q 0)), (1, .int x1), (2, .int x2)] := hl
  have hS : va_S A s.heap s.heap [] := va_S.rf
  have hD : ∀ σ' : St, va_D A (wM cI cZ q σ' ++ tl) := fun σ' => va_Dsame hD0 rfl
  have L2 : ∀ (y1 : Int32) (y2 : Int32) (fu : Nat) (y3 : Int32) (σ : St) (H : Heap) (locs : List Loc) (ls : Array Slot) (out : Int32 × St), f_M_findMarked_L2 F y1 y2 fu y3 σ = some out → va_P D vwCl (wM cI cZ q σ ++ tl) H → va_S A s.heap H locs → lv_has ls 4 [(0, .ref (q 0)), (1, .int y1), (2, .int y2), (3, .int y3)] → (∀ (H : Heap) (locs : List Loc) (ls : Array Slot), va_P D vwCl (wM cI cZ q out.2 ++ tl) H → va_S A s.heap H locs → lv_has ls 4 [(0, .ref (q 0)), (1, .int y1), (2, .int y2), (3, .int out.1)] → W p l e { frames := 4, cells := 0, slots := 0, locals := 89 } s m ([.ref (q 0), .int x1, .int x2] : List Value).toArray below meth c H locs 0 0 (gQv below D (wM cI cZ q out0 ++ tl) A (([.ref (q 0), .int x1, .int x2] : List Value).toArray) s) (F0 m 21 ls [])) → W p l e { frames := 4, cells := 0, slots := 0, locals := 89 } s m ([.ref (q 0), .int x1, .int x2] : List Value).toArray below meth c H locs 0 0 (gQv below D (wM cI cZ q out0 ++ tl) A (([.ref (q 0), .int x1, .int x2] : List Value).toArray) s) (F0 m 2 ls []) := by
    intro y1 y2 fu
    induction fu with
    | zero => intro y3 σ H locs ls out h; exact absurd (show (none : Option (Int32 × St)) = some out from h) (fun z => by cases z)
    | succ fu ih =>
      intro y3 σ H locs ls out h hP hS hl K
      have h : f_M_findMarked_B2 F y1 y2 (f_M_findMarked_L2 F y1 y2 fu) y3 σ = some out := h
      unfold f_M_findMarked_B2 at h
      refine lv_iload_n hx hb d_M_findMarked_2 rfl (lv_at hl 3 rfl) ?_
      refine lv_bipush (v := 64) hx hb d_M_findMarked_3 (by decide) ?_
      refine lv_icmp_ge (tgt := 21) hx hb d_M_findMarked_5 (by decide) (fun c => ?_) (fun c => ?_)
      · have h := ifp c h
        cases h
        exact K _ _ ls hP hS (lv_sub hl [0, 1, 2, 3] rfl)
      have h := ifn c h
      refine lv_aload_n hx hb d_M_findMarked_8 rfl (lv_at hl 0 rfl) ?_
      refine va_get (D := D) (ci := 5) (v := .ref (q 10)) (C := R_M) (T := T_M) (N := 17) hx hb hts l_M hown hK hP 0 rfl rfl 15 (by decide) (hts _ w_454) (fun _ h9 => h9) rfl d_M_findMarked_9 ?_
      refine lv_iload_n hx hb d_M_findMarked_12 rfl (lv_at hl 3 rfl) ?_
      refine lv_iconst (v := 0) hx hb d_M_findMarked_13 (by decide) ?_
      obtain ⟨c, h⟩ := ifs h
      refine va_zast hx hb hK hP (hD σ) hS 10 1 rfl rfl c d_M_findMarked_14 (fun H locs hP _ hS => ?_)
      have hP : va_P D vwCl (wM cI cZ q (sr σ 10 (upd (σ 10) y3.toNatClampNeg (0 : Int32))) ++ tl) H := hP
      obtain ⟨s14, es14, h⟩ := lettE h
      rw [← es14] at hP
      refine lv_iinc (v := (y3 + (1 : Int32))) (lv' := [(3, .int (y3 + (1 : Int32))), (0, .ref (q 0)), (1, .int y1), (2, .int y2)]) hx hb d_M_findMarked_15 hl (k := 3) rfl rfl (by decide) rfl (fun ls hl => ?_)
      refine lv_goto (tgt := 2) hx hb d_M_findMarked_18 (by decide) ?_
      exact ih (y3 + (1 : Int32)) s14 _ _ ls out h hP hS (lv_sub hl [1, 2, 3, 0] rfl) K
  have L46 : ∀  (fu : Nat) (y3 : Int32) (σ : St) (H : Heap) (locs : List Loc) (ls : Array Slot) (out : Int32 × St), f_M_findMarked_L46 F fu y3 σ = some out → va_P D vwCl (wM cI cZ q σ ++ tl) H → va_S A s.heap H locs → lv_has ls 4 [(0, .ref (q 0)), (3, .int y3)] → (∀ (H : Heap) (locs : List Loc) (ls : Array Slot), va_P D vwCl (wM cI cZ q out.2 ++ tl) H → va_S A s.heap H locs → lv_has ls 4 [(0, .ref (q 0)), (3, .int out.1)] → W p l e { frames := 4, cells := 0, slots := 0, locals := 89 } s m ([.ref (q 0), .int x1, .int x2] : List Value).toArray below meth c H locs 0 0 (gQv below D (wM cI cZ q out0 ++ tl) A (([.ref (q 0), .int x1, .int x2] : List Value).toArray) s) (F0 m 73 ls [])) → W p l e { frames := 4, cells := 0, slots := 0, locals := 89 } s m ([.ref (q 0), .int x1, .int x2] : List Value).toArray below meth c H locs 0 0 (gQv below D (wM cI cZ q out0 ++ tl) A (([.ref (q 0), .int x1, .int x2] : List Value).toArray) s) (F0 m 46 ls []) := by
    intro  fu
    induction fu with
    | zero => intro y3 σ H locs ls out h; exact absurd (show (none : Option (Int32 × St)) = some out from h) (fun z => by cases z)
    | succ fu ih =>
      intro y3 σ H locs ls out h hP hS hl K
      have h : f_M_findMarked_B46 F (f_M_findMarked_L46 F fu) y3 σ = some out := h
      unfold f_M_findMarked_B46 at h
      refine lv_iload_n hx hb d_M_findMarked_46 rfl (lv_at hl 1 rfl) ?_
      refine lv_aload_n hx hb d_M_findMarked_47 rfl (lv_at hl 0 rfl) ?_
      refine va_get (D := D) (ci := 5) (v := .int (σ 0 1)) (C := R_M) (T := T_M) (N := 17) hx hb hts l_M hown hK hP 0 rfl rfl 1 (by decide) (hts _ w_440) (fun _ h9 => h9) rfl d_M_findMarked_48 ?_
      refine lv_icmp_ge (tgt := 73) hx hb d_M_findMarked_51 (by decide) (fun c => ?_) (fun c => ?_)
      · have h := ifp c h
        cases h
        exact K _ _ ls hP hS (lv_sub hl [0, 1] rfl)
      have h := ifn c h
      refine lv_aload_n hx hb d_M_findMarked_54 rfl (lv_at hl 0 rfl) ?_
      refine lv_iload_n hx hb d_M_findMarked_55 rfl (lv_at hl 1 rfl) ?_
      obtain ⟨u56, hu56, h⟩ := bnd h
      refine gcall_i (va_runV (As := [.int y3]) (rest := []) ⟨hx, hb, hml, hown, hts⟩ (c_M_isLive l D cI cZ tL q tl σ y3 u56 hu56 H.size) (cwV 1 hts (gV w_528 w_529 w_711 w_6 w_530) rfl rfl rfl (by decide +kernel) ⟨Nat.le_of_ble_eq_true rfl, Nat.le_of_ble_eq_true rfl⟩) (gpV (k := 0) (ci := 5) hA hK (hD σ) hE hP hS rfl rfl) rfl rfl hl.1 rfl (lv_room (Nat.le_of_ble_eq_true rfl)) d_M_findMarked_56 ⟨Nat.le_of_ble_eq_true rfl, Nat.le_of_ble_eq_true rfl⟩) hA (hD σ) hS (fun H locs hP hS => ?_)
      refine lv_if_eq (tgt := 67) hx hb d_M_findMarked_59 (by decide) (fun c => ?_) (fun c => ?_)
      · have h := ifp c h
        refine lv_iinc (v := (y3 + (1 : Int32))) (lv' := [(3, .int (y3 + (1 : Int32))), (0, .ref (q 0))]) hx hb d_M_findMarked_67 hl (k := 1) rfl rfl (by decide) rfl (fun ls hl => ?_)
        refine lv_goto (tgt := 46) hx hb d_M_findMarked_70 (by decide) ?_
        exact ih (y3 + (1 : Int32)) σ _ _ ls out h hP hS (lv_sub hl [1, 0] rfl) K
      have h := ifn c h
      refine lv_aload_n hx hb d_M_findMarked_62 rfl (lv_at hl 0 rfl) ?_
      refine lv_iload_n hx hb d_M_findMarked_63 rfl (lv_at hl 1 rfl) ?_
      obtain ⟨u64, hu64, h⟩ := bnd h
      refine gcall_v (va_runV (As := [.int y3]) (rest := []) ⟨hx, hb, hml, hown, hts⟩ (c_M_markBy l D cI cZ tL q tl F σ y3 u64 hu64 H.size) (cwV 1 hts (gV w_657 w_658 w_721 w_6 w_659) rfl rfl rfl (by decide +kernel) ⟨Nat.le_of_ble_eq_true rfl, Nat.le_of_ble_eq_true rfl⟩) (gpV (k := 0) (ci := 5) hA hK (hD σ) hE hP hS rfl rfl) rfl rfl hl.1 rfl (lv_room (Nat.le_of_ble_eq_true rfl)) d_M_findMarked_64 ⟨Nat.le_of_ble_eq_true rfl, Nat.le_of_ble_eq_true rfl⟩) hA (hD σ) hS (fun H locs hP hS => ?_)
      refine lv_iinc (v := (y3 + (1 : Int32))) (lv' := [(3, .int (y3 + (1 : Int32))), (0, .ref (q 0))]) hx hb d_M_findMarked_67 hl (k := 1) rfl rfl (by decide) rfl (fun ls hl => ?_)
      refine lv_goto (tgt := 46) hx hb d_M_findMarked_70 (by decide) ?_
      exact ih (y3 + (1 : Int32)) u64 _ _ ls out h hP hS (lv_sub hl [1, 0] rfl) K
  have L32 : ∀  (fu : Nat) (σ : St) (H : Heap) (locs : List Loc) (ls : Array Slot) (out : St), f_M_findMarked_L32 F fu σ = some out → va_P D vwCl (wM cI cZ q σ ++ tl) H → va_S A s.heap H locs → lv_has ls 4 [(0, .ref (q 0))] → (∀ (H : Heap) (locs : List Loc) (ls : Array Slot), va_P D vwCl (wM cI cZ q out ++ tl) H → va_S A s.heap H locs → lv_has ls 4 [(0, .ref (q 0))] → W p l e { frames := 4, cells := 0, slots := 0, locals := 89 } s m ([.ref (q 0), .int x1, .int x2] : List Value).toArray below meth c H locs 0 0 (gQv below D (wM cI cZ q out0 ++ tl) A (([.ref (q 0), .int x1, .int x2] : List Value).toArray) s) (F0 m 76 ls [])) → W p l e { frames := 4, cells := 0, slots := 0, locals := 89 } s m ([.ref (q 0), .int x1, .int x2] : List Value).toArray below meth c H locs 0 0 (gQv below D (wM cI cZ q out0 ++ tl) A (([.ref (q 0), .int x1, .int x2] : List Value).toArray) s) (F0 m 32 ls []) := by
    intro  fu
    induction fu with
    | zero => intro σ H locs ls out h; exact absurd (show (none : Option (St)) = some out from h) (fun z => by cases z)
    | succ fu ih =>
      intro σ H locs ls out h hP hS hl K
      have h : f_M_findMarked_B32 F (f_M_findMarked_L32 F fu) σ = some out := h
      unfold f_M_findMarked_B32 at h
      refine lv_aload_n hx hb d_M_findMarked_32 rfl (lv_at hl 0 rfl) ?_
      refine va_get (D := D) (ci := 5) (v := .int (σ 0 16)) (C := R_M) (T := T_M) (N := 17) hx hb hts l_M hown hK hP 0 rfl rfl 16 (by decide) (hts _ w_455) (fun _ h9 => h9) rfl d_M_findMarked_33 ?_
      refine lv_if_eq (tgt := 76) hx hb d_M_findMarked_36 (by decide) (fun c => ?_) (fun c => ?_)
      · have h := ifp c h
        cases h
        exact K _ _ ls hP hS (lv_sub hl [0] rfl)
      have h := ifn c h
      refine lv_aload_n hx hb d_M_findMarked_39 rfl (lv_at hl 0 rfl) ?_
      refine lv_iconst (v := 0) hx hb d_M_findMarked_40 (by decide) ?_
      refine va_put (D := D) (ci := 5) (v := .int (0 : Int32)) (ty := .boolean) (C := R_M) (T := T_M) (N := 17) hx hb hts l_M t_M t_M_ok n_M hown hK hP (hD σ) hS 0 rfl rfl 16 (by decide) (hts _ w_455) (fun _ h9 => h9) rfl (by decide +kernel) rfl rfl (Nat.le_of_ble_eq_true rfl) d_M_findMarked_41 (fun H locs hP _ hS => ?_)
      have hP : va_P D vwCl (wM cI cZ q (su σ 0 16 (0 : Int32)) ++ tl) H := hP
      obtain ⟨s41, es41, h⟩ := lettE h
      rw [← es41] at hP
      refine lv_iconst (v := 0) hx hb d_M_findMarked_44 (by decide) ?_
      refine lv_istore_n (lv' := [(3, .int (0 : Int32)), (0, .ref (q 0))]) hx hb d_M_findMarked_45 rfl hl (by decide) rfl (fun ls hl => ?_)
      obtain ⟨u46, hu46, h⟩ := bnd h
      refine L46  F (0 : Int32) s41 _ _ ls u46 hu46 hP hS (lv_sub hl [1, 0] rfl) (fun H locs ls hP hS hl => ?_)
      refine lv_goto (tgt := 32) hx hb d_M_findMarked_73 (by decide) ?_
      exact ih u46.2 _ _ ls out h hP hS (lv_sub hl [0] rfl) K
  unfold f_M_findMarked at h
  refine lv_iconst (v := 0) hx hb d_M_findMarked_0 (by decide) ?_
  refine lv_istore_n (lv' := [(3, .int (0 : Int32)), (0, .ref (q 0)), (1, .int x1), (2, .int x2)]) hx hb d_M_findMarked_1 rfl hl (by decide) rfl (fun ls hl => ?_)
  obtain ⟨u2, hu2, h⟩ := bnd h
  refine L2 x1 x2 F (0 : Int32) σ _ _ ls u2 hu2 hP hS (lv_sub hl [1, 2, 3, 0] rfl) (fun H locs ls hP hS hl => ?_)
  refine lv_aload_n hx hb d_M_findMarked_21 rfl (lv_at hl 0 rfl) ?_
  refine lv_iload_n hx hb d_M_findMarked_22 rfl (lv_at hl 1 rfl) ?_
  refine lv_iload_n hx hb d_M_findMarked_23 rfl (lv_at hl 2 rfl) ?_
  obtain ⟨u24, hu24, h⟩ := bnd h
  refine gcall_v (va_runV (As := [.int x1, .int x2]) (rest := []) ⟨hx, hb, hml, hown, hts⟩ (c_M_mark l D cI cZ tL q tl u2.2 x1 x2 u24 hu24 H.size) (cwV 2 hts (gV w_654 w_655 w_720 w_6 w_656) rfl rfl rfl (by decide +kernel) ⟨Nat.le_of_ble_eq_true rfl, Nat.le_of_ble_eq_true rfl⟩) (gpV (k := 0) (ci := 5) hA hK (hD u2.2) hE hP hS rfl rfl) rfl rfl hl.1 rfl (lv_room (Nat.le_of_ble_eq_true rfl)) d_M_findMarked_24 ⟨Nat.le_of_ble_eq_true rfl, Nat.le_of_ble_eq_true rfl⟩) hA (hD u2.2) hS (fun H locs hP hS => ?_)
  refine lv_aload_n hx hb d_M_findMarked_27 rfl (lv_at hl 0 rfl) ?_
  refine lv_iconst (v := 1) hx hb d_M_findMarked_28 (by decide) ?_
  refine va_put (D := D) (ci := 5) (v := .int (1 : Int32)) (ty := .boolean) (C := R_M) (T := T_M) (N := 17) hx hb hts l_M t_M t_M_ok n_M hown hK hP (hD u24) hS 0 rfl rfl 16 (by decide) (hts _ w_455) (fun _ h9 => h9) rfl (by decide +kernel) rfl rfl (Nat.le_of_ble_eq_true rfl) d_M_findMarked_29 (fun H locs hP _ hS => ?_)
  have hP : va_P D vwCl (wM cI cZ q (su u24 0 16 (1 : Int32)) ++ tl) H := hP
  obtain ⟨s29, es29, h⟩ := lettE h
  rw [← es29] at hP
  obtain ⟨u32, hu32, h⟩ := bnd h
  refine L32  F s29 _ _ ls u32 hu32 hP hS (lv_sub hl [0] rfl) (fun H locs ls hP hS hl => ?_)
  cases h
  exact gret_v hx hb hr hlk hP hS d_M_findMarked_76
/-! ===== EscapeOwnersModel.isKept()Z ===== -/
def f_M_isKept_B4 (F : Nat) (σ : St) (rec : Int32 → Int32 → Option (Int32 × Int32)) (y1 : Int32) (y2 : Int32) : Option (Int32 × Int32) := if (σ 0 1) ≤ y2 then (some (y1, y2)) else (if ¬ (y2 < 0 ∨ 64 ≤ y2.toNatClampNeg) then (if ((σ 2) y2.toNatClampNeg) = (3 : Int32) then (if ¬ ((((5 : Int32) * y2) + (2 : Int32)) < 0 ∨ 320 ≤ (((5 : Int32) * y2) + (2 : Int32)).toNatClampNeg) then (if y1 = 0 then (Option.bind (f_M_isLive σ y2) (fun u87 => if u87 = 0 then (rec (0 : Int32) (y2 + (1 : Int32))) else (if ¬ (y2 < 0 ∨ 64 ≤ y2.toNatClampNeg) then (Option.bind (f_M_isMarked σ ((σ 1) y2.toNatClampNeg) ((σ 4) (((5 : Int32) * y2) + (2 : Int32)).toNatClampNeg)) (fun u102 => if u102 = 0 then (rec (0 : Int32) (y2 + (1 : Int32))) else (rec (1 : Int32) (y2 + (1 : Int32))))) else none))) else (rec (1 : Int32) (y2 + (1 : Int32)))) else none) else (if ((σ 2) y2.toNatClampNeg) = (5 : Int32) then (if ¬ ((((5 : Int32) * y2) + (1 : Int32)) < 0 ∨ 320 ≤ (((5 : Int32) * y2) + (1 : Int32)).toNatClampNeg) then (if y1 = 0 then (Option.bind (f_M_isLive σ y2) (fun u87 => if u87 = 0 then (rec (0 : Int32) (y2 + (1 : Int32))) else (if ¬ (y2 < 0 ∨ 64 ≤ y2.toNatClampNeg) then (Option.bind (f_M_isMarked σ ((σ 1) y2.toNatClampNeg) ((σ 4) (((5 : Int32) * y2) + (1 : Int32)).toNatClampNeg)) (fun u102 => if u102 = 0 then (rec (0 : Int32) (y2 + (1 : Int32))) else (rec (1 : Int32) (y2 + (1 : Int32))))) else none))) else (rec (1 : Int32) (y2 + (1 : Int32)))) else none) else (if ((σ 2) y2.toNatClampNeg) = (8 : Int32) then (if ¬ (((5 : Int32) * y2) < 0 ∨ 320 ≤ ((5 : Int32) * y2).toNatClampNeg) then (if y1 = 0 then (Option.bind (f_M_isLive σ y2) (fun u87 => if u87 = 0 then (rec (0 : Int32) (y2 + (1 : Int32))) else (if ¬ (y2 < 0 ∨ 64 ≤ y2.toNatClampNeg) then (Option.bind (f_M_isMarked σ ((σ 1) y2.toNatClampNeg) ((σ 4) ((5 : Int32) * y2).toNatClampNeg)) (fun u102 => if u102 = 0 then (rec (0 : Int32) (y2 + (1 : Int32))) else (rec (1 : Int32) (y2 + (1 : Int32))))) else none))) else (rec (1 : Int32) (y2 + (1 : Int32)))) else none) else (if ((σ 2) y2.toNatClampNeg) = (9 : Int32) then (if ¬ (((5 : Int32) * y2) < 0 ∨ 320 ≤ ((5 : Int32) * y2).toNatClampNeg) then (if y1 = 0 then (Option.bind (f_M_isLive σ y2) (fun u87 => if u87 = 0 then (rec (0 : Int32) (y2 + (1 : Int32))) else (if ¬ (y2 < 0 ∨ 64 ≤ y2.toNatClampNeg) then (Option.bind (f_M_isMarked σ ((σ 1) y2.toNatClampNeg) ((σ 4) ((5 : Int32) * y2).toNatClampNeg)) (fun u102 => if u102 = 0 then (rec (0 : Int32) (y2 + (1 : Int32))) else (rec (1 : Int32) (y2 + (1 : Int32))))) else none))) else (rec (1 : Int32) (y2 + (1 : Int32)))) else none) else (if y1 = 0 then (Option.bind (f_M_isLive σ y2) (fun u87 => if u87 = 0 then (rec (0 : Int32) (y2 + (1 : Int32))) else (if ¬ (y2 < 0 ∨ 64 ≤ y2.toNatClampNeg) then (Option.bind (f_M_isMarked σ ((σ 1) y2.toNatClampNeg) (-1 : Int32)) (fun u102 => if u102 = 0 then (rec (0 : Int32) (y2 + (1 : Int32))) else (rec (1 : Int32) (y2 + (1 : Int32))))) else none))) else (rec (1 : Int32) (y2 + (1 : Int32)))))))) else none)
def f_M_isKept_L4 (F : Nat) (σ : St) : Nat → Int32 → Int32 → Option (Int32 × Int32)
  | 0, _, _ => none
  | fu + 1, y1, y2 => f_M_isKept_B4 F σ (f_M_isKept_L4 F σ fu) y1 y2
def f_M_isKept (F : Nat) (σ : St) : Option (Int32) := Option.bind (f_M_isKept_L4 F σ F (0 : Int32) (0 : Int32)) (fun u4 => if u4.1 = 0 ∨ u4.1 = 1 then some u4.1 else none)
set_option maxHeartbeats 4000000 in
set_option maxRecDepth 100000 in
theorem c_M_isKept (l : Launch) (D : va_G) (cI cZ : ClassId) (tL : Nat) (q : Nat → Nat) (tl : va_W) (F : Nat) (σ : St) (out0 : Int32) (h : f_M_isKept F σ = some out0) : gCi l y_M_isKept (.code y_M_isKept b_M_isKept 5 (some .boolean) :: TB) { frames := 2, cells := 0, slots := 0, locals := 42 } D [(cI, .int), (cZ, .boolean)] tL [.ref (q 0)] (wM cI cZ q σ ++ tl) out0 (wM cI cZ q σ ++ tl) := by
  refine gCi_of (cc := b_M_isKept) (maxL := 5) (ty := .boolean) (by decide) rfl (Nat.le_of_ble_eq_true rfl) ?_
  intro p e s m below meth c A ls hf hr hlk hA hK hD0 hE hP hl
  obtain ⟨hx, hb, hml, hown, hts⟩ := id hf
  have hts : ∀ w ∈ TB, w.before _ s = true := fun w h => hts w (List.mem_cons_of_mem _ h)
  have hown : s.vm.findClass R_M = some m.cls := hown
  have hl : lv_has ls 5 [(0, .ref (q 0))] := hl
  have hS : va_S A s.heap s.heap [] := va_S.rf
  have hD : ∀ σ' : St, va_D A (wM cI cZ q σ' ++ tl) := fun σ' => va_Dsame hD0 rfl
  have L4 : ∀ (σ : St) (fu : Nat) (y1 : Int32) (y2 : Int32) (H : Heap) (locs : List Loc) (ls : Array Slot) (out : Int32 × Int32), f_M_isKept_L4 F σ fu y1 y2 = some out → va_P D vwCl (wM cI cZ q σ ++ tl) H → va_S A s.heap H locs → lv_has ls 5 [(0, .ref (q 0)), (1, .int y1), (2, .int y2)] → (∀ (H : Heap) (locs : List Loc) (ls : Array Slot), va_P D vwCl (wM cI cZ q σ ++ tl) H → va_S A s.heap H locs → lv_has ls 5 [(0, .ref (q 0)), (1, .int out.1), (2, .int out.2)] → W p l e { frames := 2, cells := 0, slots := 0, locals := 42 } s m ([.ref (q 0)] : List Value).toArray below meth c H locs 0 0 (gQi below D out0 (wM cI cZ q σ ++ tl) A (([.ref (q 0)] : List Value).toArray) s) (F0 m 120 ls [])) → W p l e { frames := 2, cells := 0, slots := 0, locals := 42 } s m ([.ref (q 0)] : List Value).toArray below meth c H locs 0 0 (gQi below D out0 (wM cI cZ q σ ++ tl) A (([.ref (q 0)] : List Value).toArray) s) (F0 m 4 ls []) := by
    intro σ fu
    induction fu with
    | zero => intro y1 y2 H locs ls out h; exact absurd (show (none : Option (Int32 × Int32)) = some out from h) (fun z => by cases z)
    | succ fu ih =>
      intro y1 y2 H locs ls out h hP hS hl K
      have h : f_M_isKept_B4 F σ (f_M_isKept_L4 F σ fu) y1 y2 = some out := h
      unfold f_M_isKept_B4 at h
      refine lv_iload_n hx hb d_M_isKept_4 rfl (lv_at hl 2 rfl) ?_
      refine lv_aload_n hx hb d_M_isKept_5 rfl (lv_at hl 0 rfl) ?_
      refine va_get (D := D) (ci := 5) (v := .int (σ 0 1)) (C := R_M) (T := T_M) (N := 17) hx hb hts l_M hown hK hP 0 rfl rfl 1 (by decide) (hts _ w_440) (fun _ h9 => h9) rfl d_M_isKept_6 ?_
      refine lv_icmp_ge (tgt := 120) hx hb d_M_isKept_9 (by decide) (fun c => ?_) (fun c => ?_)
      · have h := ifp c h
        cases h
        exact K _ _ ls hP hS (lv_sub hl [0, 1, 2] rfl)
      have h := ifn c h
      refine lv_aload_n hx hb d_M_isKept_12 rfl (lv_at hl 0 rfl) ?_
      refine va_get (D := D) (ci := 5) (v := .ref (q 2)) (C := R_M) (T := T_M) (N := 17) hx hb hts l_M hown hK hP 0 rfl rfl 4 (by decide) (hts _ w_443) (fun _ h9 => h9) rfl d_M_isKept_13 ?_
      refine lv_iload_n hx hb d_M_isKept_16 rfl (lv_at hl 2 rfl) ?_
      obtain ⟨c, h⟩ := ifs h
      refine va_iald hx hb hK hP 2 0 rfl rfl c d_M_isKept_17 ?_
      refine lv_istore_n (lv' := [(3, .int ((σ 2) y2.toNatClampNeg)), (0, .ref (q 0)), (1, .int y1), (2, .int y2)]) hx hb d_M_isKept_18 rfl hl (by decide) rfl (fun ls hl => ?_)
      refine lv_iload_n hx hb d_M_isKept_19 rfl (lv_at hl 0 rfl) ?_
      refine lv_iconst (v := 3) hx hb d_M_isKept_20 (by decide) ?_
      refine lv_icmp_ne (tgt := 37) hx hb d_M_isKept_21 (by decide) (fun c => ?_) (fun c => ?_)
      · have h := ifn c h
        refine lv_iload_n hx hb d_M_isKept_37 rfl (lv_at hl 0 rfl) ?_
        refine lv_iconst (v := 5) hx hb d_M_isKept_38 (by decide) ?_
        refine lv_icmp_ne (tgt := 55) hx hb d_M_isKept_39 (by decide) (fun c => ?_) (fun c => ?_)
        · have h := ifn c h
          refine lv_iload_n hx hb d_M_isKept_55 rfl (lv_at hl 0 rfl) ?_
          refine lv_bipush (v := 8) hx hb d_M_isKept_56 (by decide) ?_
          refine lv_icmp_eq (tgt := 67) hx hb d_M_isKept_58 (by decide) (fun c => ?_) (fun c => ?_)
          · have h := ifp c h
            refine lv_aload_n hx hb d_M_isKept_67 rfl (lv_at hl 1 rfl) ?_
            refine va_get (D := D) (ci := 5) (v := .ref (q 4)) (C := R_M) (T := T_M) (N := 17) hx hb hts l_M hown hK hP 0 rfl rfl 6 (by decide) (hts _ w_445) (fun _ h9 => h9) rfl d_M_isKept_68 ?_
            refine lv_iconst (v := 5) hx hb d_M_isKept_71 (by decide) ?_
            refine lv_iload_n hx hb d_M_isKept_72 rfl (lv_at hl 3 rfl) ?_
            refine lv_imul hx hb d_M_isKept_73 ?_
            obtain ⟨c, h⟩ := ifs h
            refine va_iald hx hb hK hP 4 0 rfl rfl c d_M_isKept_74 ?_
            refine lv_goto (tgt := 79) hx hb d_M_isKept_75 (by decide) ?_
            refine lv_istore (lv' := [(4, .int ((σ 4) ((5 : Int32) * y2).toNatClampNeg)), (3, .int ((σ 2) y2.toNatClampNeg)), (0, .ref (q 0)), (1, .int y1), (2, .int y2)]) hx hb d_M_isKept_79 hl (by decide) rfl (fun ls hl => ?_)
            refine lv_iload_n hx hb d_M_isKept_81 rfl (lv_at hl 3 rfl) ?_
            refine lv_if_ne (tgt := 108) hx hb d_M_isKept_82 (by decide) (fun c => ?_) (fun c => ?_)
            · have h := ifn c h
              refine lv_iconst (v := 1) hx hb d_M_isKept_108 (by decide) ?_
              refine lv_goto (tgt := 113) hx hb d_M_isKept_109 (by decide) ?_
              refine lv_istore_n (lv' := [(1, .int (1 : Int32)), (4, .int ((σ 4) ((5 : Int32) * y2).toNatClampNeg)), (3, .int ((σ 2) y2.toNatClampNeg)), (0, .ref (q 0)), (2, .int y2)]) hx hb d_M_isKept_113 rfl hl (by decide) rfl (fun ls hl => ?_)
              refine lv_iinc (v := (y2 + (1 : Int32))) (lv' := [(2, .int (y2 + (1 : Int32))), (1, .int (1 : Int32)), (4, .int ((σ 4) ((5 : Int32) * y2).toNatClampNeg)), (3, .int ((σ 2) y2.toNatClampNeg)), (0, .ref (q 0))]) hx hb d_M_isKept_114 hl (k := 4) rfl rfl (by decide) rfl (fun ls hl => ?_)
              refine lv_goto (tgt := 4) hx hb d_M_isKept_117 (by decide) ?_
              exact ih (1 : Int32) (y2 + (1 : Int32)) _ _ ls out h hP hS (lv_sub hl [4, 1, 0] rfl) K
            have h := ifp c h
            refine lv_aload_n hx hb d_M_isKept_85 rfl (lv_at hl 2 rfl) ?_
            refine lv_iload_n hx hb d_M_isKept_86 rfl (lv_at hl 4 rfl) ?_
            obtain ⟨u87, hu87, h⟩ := bnd h
            refine gcall_i (va_runV (As := [.int y2]) (rest := []) ⟨hx, hb, hml, hown, hts⟩ (c_M_isLive l D cI cZ tL q tl σ y2 u87 hu87 H.size) (cwV 1 hts (gV w_528 w_529 w_711 w_6 w_530) rfl rfl rfl (by decide +kernel) ⟨Nat.le_of_ble_eq_true rfl, Nat.le_of_ble_eq_true rfl⟩) (gpV (k := 0) (ci := 5) hA hK (hD σ) hE hP hS rfl rfl) rfl rfl hl.1 rfl (lv_room (Nat.le_of_ble_eq_true rfl)) d_M_isKept_87 ⟨Nat.le_of_ble_eq_true rfl, Nat.le_of_ble_eq_true rfl⟩) hA (hD σ) hS (fun H locs hP hS => ?_)
            refine lv_if_eq (tgt := 112) hx hb d_M_isKept_90 (by decide) (fun c => ?_) (fun c => ?_)
            · have h := ifp c h
              refine lv_iconst (v := 0) hx hb d_M_isKept_112 (by decide) ?_
              refine lv_istore_n (lv' := [(1, .int (0 : Int32)), (4, .int ((σ 4) ((5 : Int32) * y2).toNatClampNeg)), (3, .int ((σ 2) y2.toNatClampNeg)), (0, .ref (q 0)), (2, .int y2)]) hx hb d_M_isKept_113 rfl hl (by decide) rfl (fun ls hl => ?_)
              refine lv_iinc (v := (y2 + (1 : Int32))) (lv' := [(2, .int (y2 + (1 : Int32))), (1, .int (0 : Int32)), (4, .int ((σ 4) ((5 : Int32) * y2).toNatClampNeg)), (3, .int ((σ 2) y2.toNatClampNeg)), (0, .ref (q 0))]) hx hb d_M_isKept_114 hl (k := 4) rfl rfl (by decide) rfl (fun ls hl => ?_)
              refine lv_goto (tgt := 4) hx hb d_M_isKept_117 (by decide) ?_
              exact ih (0 : Int32) (y2 + (1 : Int32)) _ _ ls out h hP hS (lv_sub hl [4, 1, 0] rfl) K
            have h := ifn c h
            refine lv_aload_n hx hb d_M_isKept_93 rfl (lv_at hl 2 rfl) ?_
            refine lv_aload_n hx hb d_M_isKept_94 rfl (lv_at hl 2 rfl) ?_
            refine va_get (D := D) (ci := 5) (v := .ref (q 1)) (C := R_M) (T := T_M) (N := 17) hx hb hts l_M hown hK hP 0 rfl rfl 3 (by decide) (hts _ w_442) (fun _ h9 => h9) rfl d_M_isKept_95 ?_
            refine lv_iload_n hx hb d_M_isKept_98 rfl (lv_at hl 4 rfl) ?_
            obtain ⟨c, h⟩ := ifs h
            refine va_iald hx hb hK hP 1 0 rfl rfl c d_M_isKept_99 ?_
            refine lv_iload hx hb d_M_isKept_100 (lv_at hl 0 rfl) ?_
            obtain ⟨u102, hu102, h⟩ := bnd h
            refine gcall_i (va_runV (As := [.int ((σ 1) y2.toNatClampNeg), .int ((σ 4) ((5 : Int32) * y2).toNatClampNeg)]) (rest := []) ⟨hx, hb, hml, hown, hts⟩ (c_M_isMarked l D cI cZ tL q tl σ ((σ 1) y2.toNatClampNeg) ((σ 4) ((5 : Int32) * y2).toNatClampNeg) u102 hu102 H.size) (cwV 2 hts (gV w_660 w_661 w_713 w_6 w_662) rfl rfl rfl (by decide +kernel) ⟨Nat.le_of_ble_eq_true rfl, Nat.le_of_ble_eq_true rfl⟩) (gpV (k := 0) (ci := 5) hA hK (hD σ) hE hP hS rfl rfl) rfl rfl hl.1 rfl (lv_room (Nat.le_of_ble_eq_true rfl)) d_M_isKept_102 ⟨Nat.le_of_ble_eq_true rfl, Nat.le_of_ble_eq_true rfl⟩) hA (hD σ) hS (fun H locs hP hS => ?_)
            refine lv_if_eq (tgt := 112) hx hb d_M_isKept_105 (by decide) (fun c => ?_) (fun c => ?_)
            · have h := ifp c h
              refine lv_iconst (v := 0) hx hb d_M_isKept_112 (by decide) ?_
              refine lv_istore_n (lv' := [(1, .int (0 : Int32)), (4, .int ((σ 4) ((5 : Int32) * y2).toNatClampNeg)), (3, .int ((σ 2) y2.toNatClampNeg)), (0, .ref (q 0)), (2, .int y2)]) hx hb d_M_isKept_113 rfl hl (by decide) rfl (fun ls hl => ?_)
              refine lv_iinc (v := (y2 + (1 : Int32))) (lv' := [(2, .int (y2 + (1 : Int32))), (1, .int (0 : Int32)), (4, .int ((σ 4) ((5 : Int32) * y2).toNatClampNeg)), (3, .int ((σ 2) y2.toNatClampNeg)), (0, .ref (q 0))]) hx hb d_M_isKept_114 hl (k := 4) rfl rfl (by decide) rfl (fun ls hl => ?_)
              refine lv_goto (tgt := 4) hx hb d_M_isKept_117 (by decide) ?_
              exact ih (0 : Int32) (y2 + (1 : Int32)) _ _ ls out h hP hS (lv_sub hl [4, 1, 0] rfl) K
            have h := ifn c h
            refine lv_iconst (v := 1) hx hb d_M_isKept_108 (by decide) ?_
            refine lv_goto (tgt := 113) hx hb d_M_isKept_109 (by decide) ?_
            refine lv_istore_n (lv' := [(1, .int (1 : Int32)), (4, .int ((σ 4) ((5 : Int32) * y2).toNatClampNeg)), (3, .int ((σ 2) y2.toNatClampNeg)), (0, .ref (q 0)), (2, .int y2)]) hx hb d_M_isKept_113 rfl hl (by decide) rfl (fun ls hl => ?_)
            refine lv_iinc (v := (y2 + (1 : Int32))) (lv' := [(2, .int (y2 + (1 : Int32))), (1, .int (1 : Int32)), (4, .int ((σ 4) ((5 : Int32) * y2).toNatClampNeg)), (3, .int ((σ 2) y2.toNatClampNeg)), (0, .ref (q 0))]) hx hb d_M_isKept_114 hl (k := 4) rfl rfl (by decide) rfl (fun ls hl => ?_)
            refine lv_goto (tgt := 4) hx hb d_M_isKept_117 (by decide) ?_
            exact ih (1 : Int32) (y2 + (1 : Int32)) _ _ ls out h hP hS (lv_sub hl [4, 1, 0] rfl) K
          have h := ifn c h
          refine lv_iload_n hx hb d_M_isKept_61 rfl (lv_at hl 0 rfl) ?_
          refine lv_bipush (v := 9) hx hb d_M_isKept_62 (by decide) ?_
          refine lv_icmp_ne (tgt := 78) hx hb d_M_isKept_64 (by decide) (fun c => ?_) (fun c => ?_)
          · have h := ifn c h
            refine lv_iconst (v := -1) hx hb d_M_isKept_78 (by decide) ?_
            refine lv_istore (lv' := [(4, .int (-1 : Int32)), (3, .int ((σ 2) y2.toNatClampNeg)), (0, .ref (q 0)), (1, .int y1), (2, .int y2)]) hx hb d_M_isKept_79 hl (by decide) rfl (fun ls hl => ?_)
            refine lv_iload_n hx hb d_M_isKept_81 rfl (lv_at hl 3 rfl) ?_
            refine lv_if_ne (tgt := 108) hx hb d_M_isKept_82 (by decide) (fun c => ?_) (fun c => ?_)
            · have h := ifn c h
              refine lv_iconst (v := 1) hx hb d_M_isKept_108 (by decide) ?_
              refine lv_goto (tgt := 113) hx hb d_M_isKept_109 (by decide) ?_
              refine lv_istore_n (lv' := [(1, .int (1 : Int32)), (4, .int (-1 : Int32)), (3, .int ((σ 2) y2.toNatClampNeg)), (0, .ref (q 0)), (2, .int y2)]) hx hb d_M_isKept_113 rfl hl (by decide) rfl (fun ls hl => ?_)
              refine lv_iinc (v := (y2 + (1 : Int32))) (lv' := [(2, .int (y2 + (1 : Int32))), (1, .int (1 : Int32)), (4, .int (-1 : Int32)), (3, .int ((σ 2) y2.toNatClampNeg)), (0, .ref (q 0))]) hx hb d_M_isKept_114 hl (k := 4) rfl rfl (by decide) rfl (fun ls hl => ?_)
              refine lv_goto (tgt := 4) hx hb d_M_isKept_117 (by decide) ?_
              exact ih (1 : Int32) (y2 + (1 : Int32)) _ _ ls out h hP hS (lv_sub hl [4, 1, 0] rfl) K
            have h := ifp c h
            refine lv_aload_n hx hb d_M_isKept_85 rfl (lv_at hl 2 rfl) ?_
            refine lv_iload_n hx hb d_M_isKept_86 rfl (lv_at hl 4 rfl) ?_
            obtain ⟨u87, hu87, h⟩ := bnd h
            refine gcall_i (va_runV (As := [.int y2]) (rest := []) ⟨hx, hb, hml, hown, hts⟩ (c_M_isLive l D cI cZ tL q tl σ y2 u87 hu87 H.size) (cwV 1 hts (gV w_528 w_529 w_711 w_6 w_530) rfl rfl rfl (by decide +kernel) ⟨Nat.le_of_ble_eq_true rfl, Nat.le_of_ble_eq_true rfl⟩) (gpV (k := 0) (ci := 5) hA hK (hD σ) hE hP hS rfl rfl) rfl rfl hl.1 rfl (lv_room (Nat.le_of_ble_eq_true rfl)) d_M_isKept_87 ⟨Nat.le_of_ble_eq_true rfl, Nat.le_of_ble_eq_true rfl⟩) hA (hD σ) hS (fun H locs hP hS => ?_)
            refine lv_if_eq (tgt := 112) hx hb d_M_isKept_90 (by decide) (fun c => ?_) (fun c => ?_)
            · have h := ifp c h
              refine lv_iconst (v := 0) hx hb d_M_isKept_112 (by decide) ?_
              refine lv_istore_n (lv' := [(1, .int (0 : Int32)), (4, .int (-1 : Int32)), (3, .int ((σ 2) y2.toNatClampNeg)), (0, .ref (q 0)), (2, .int y2)]) hx hb d_M_isKept_113 rfl hl (by decide) rfl (fun ls hl => ?_)
              refine lv_iinc (v := (y2 + (1 : Int32))) (lv' := [(2, .int (y2 + (1 : Int32))), (1, .int (0 : Int32)), (4, .int (-1 : Int32)), (3, .int ((σ 2) y2.toNatClampNeg)), (0, .ref (q 0))]) hx hb d_M_isKept_114 hl (k := 4) rfl rfl (by decide) rfl (fun ls hl => ?_)
              refine lv_goto (tgt := 4) hx hb d_M_isKept_117 (by decide) ?_
              exact ih (0 : Int32) (y2 + (1 : Int32)) _ _ ls out h hP hS (lv_sub hl [4, 1, 0] rfl) K
            have h := ifn c h
            refine lv_aload_n hx hb d_M_isKept_93 rfl (lv_at hl 2 rfl) ?_
            refine lv_aload_n hx hb d_M_isKept_94 rfl (lv_at hl 2 rfl) ?_
            refine va_get (D := D) (ci := 5) (v := .ref (q 1)) (C := R_M) (T := T_M) (N := 17) hx hb hts l_M hown hK hP 0 rfl rfl 3 (by decide) (hts _ w_442) (fun _ h9 => h9) rfl d_M_isKept_95 ?_
            refine lv_iload_n hx hb d_M_isKept_98 rfl (lv_at hl 4 rfl) ?_
            obtain ⟨c, h⟩ := ifs h
            refine va_iald hx hb hK hP 1 0 rfl rfl c d_M_isKept_99 ?_
            refine lv_iload hx hb d_M_isKept_100 (lv_at hl 0 rfl) ?_
            obtain ⟨u102, hu102, h⟩ := bnd h
            refine gcall_i (va_runV (As := [.int ((σ 1) y2.toNatClampNeg), .int (-1 : Int32)]) (rest := []) ⟨hx, hb, hml, hown, hts⟩ (c_M_isMarked l D cI cZ tL q tl σ ((σ 1) y2.toNatClampNeg) (-1 : Int32) u102 hu102 H.size) (cwV 2 hts (gV w_660 w_661 w_713 w_6 w_662) rfl rfl rfl (by decide +kernel) ⟨Nat.le_of_ble_eq_true rfl, Nat.le_of_ble_eq_true rfl⟩) (gpV (k := 0) (ci := 5) hA hK (hD σ) hE hP hS rfl rfl) rfl rfl hl.1 rfl (lv_room (Nat.le_of_ble_eq_true rfl)) d_M_isKept_102 ⟨Nat.le_of_ble_eq_true rfl, Nat.le_of_ble_eq_true rfl⟩) hA (hD σ) hS (fun H locs hP hS => ?_)
            refine lv_if_eq (tgt := 112) hx hb d_M_isKept_105 (by decide) (fun c => ?_) (fun c => ?_)
            · have h := ifp c h
              refine lv_iconst (v := 0) hx hb d_M_isKept_112 (by decide) ?_
              refine lv_istore_n (lv' := [(1, .int (0 : Int32)), (4, .int (-1 : Int32)), (3, .int ((σ 2) y2.toNatClampNeg)), (0, .ref (q 0)), (2, .int y2)]) hx hb d_M_isKept_113 rfl hl (by decide) rfl (fun ls hl => ?_)
              refine lv_iinc (v := (y2 + (1 : Int32))) (lv' := [(2, .int (y2 + (1 : Int32))), (1, .int (0 : Int32)), (4, .int (-1 : Int32)), (3, .int ((σ 2) y2.toNatClampNeg)), (0, .ref (q 0))]) hx hb d_M_isKept_114 hl (k := 4) rfl rfl (by decide) rfl (fun ls hl => ?_)
              refine lv_goto (tgt := 4) hx hb d_M_isKept_117 (by decide) ?_
              exact ih (0 : Int32) (y2 + (1 : Int32)) _ _ ls out h hP hS (lv_sub hl [4, 1, 0] rfl) K
            have h := ifn c h
            refine lv_iconst (v := 1) hx hb d_M_isKept_108 (by decide) ?_
            refine lv_goto (tgt := 113) hx hb d_M_isKept_109 (by decide) ?_
            refine lv_istore_n (lv' := [(1, .int (1 : Int32)), (4, .int (-1 : Int32)), (3, .int ((σ 2) y2.toNatClampNeg)), (0, .ref (q 0)), (2, .int y2)]) hx hb d_M_isKept_113 rfl hl (by decide) rfl (fun ls hl => ?_)
            refine lv_iinc (v := (y2 + (1 : Int32))) (lv' := [(2, .int (y2 + (1 : Int32))), (1, .int (1 : Int32)), (4, .int (-1 : Int32)), (3, .int ((σ 2) y2.toNatClampNeg)), (0, .ref (q 0))]) hx hb d_M_isKept_114 hl (k := 4) rfl rfl (by decide) rfl (fun ls hl => ?_)
            refine lv_goto (tgt := 4) hx hb d_M_isKept_117 (by decide) ?_
            exact ih (1 : Int32) (y2 + (1 : Int32)) _ _ ls out h hP hS (lv_sub hl [4, 1, 0] rfl) K
          have h := ifp c h
          refine lv_aload_n hx hb d_M_isKept_67 rfl (lv_at hl 1 rfl) ?_
          refine va_get (D := D) (ci := 5) (v := .ref (q 4)) (C := R_M) (T := T_M) (N := 17) hx hb hts l_M hown hK hP 0 rfl rfl 6 (by decide) (hts _ w_445) (fun _ h9 => h9) rfl d_M_isKept_68 ?_
          refine lv_iconst (v := 5) hx hb d_M_isKept_71 (by decide) ?_
          refine lv_iload_n hx hb d_M_isKept_72 rfl (lv_at hl 3 rfl) ?_
          refine lv_imul hx hb d_M_isKept_73 ?_
          obtain ⟨c, h⟩ := ifs h
          refine va_iald hx hb hK hP 4 0 rfl rfl c d_M_isKept_74 ?_
          refine lv_goto (tgt := 79) hx hb d_M_isKept_75 (by decide) ?_
          refine lv_istore (lv' := [(4, .int ((σ 4) ((5 : Int32) * y2).toNatClampNeg)), (3, .int ((σ 2) y2.toNatClampNeg)), (0, .ref (q 0)), (1, .int y1), (2, .int y2)]) hx hb d_M_isKept_79 hl (by decide) rfl (fun ls hl => ?_)
          refine lv_iload_n hx hb d_M_isKept_81 rfl (lv_at hl 3 rfl) ?_
          refine lv_if_ne (tgt := 108) hx hb d_M_isKept_82 (by decide) (fun c => ?_) (fun c => ?_)
          · have h := ifn c h
            refine lv_iconst (v := 1) hx hb d_M_isKept_108 (by decide) ?_
            refine lv_goto (tgt := 113) hx hb d_M_isKept_109 (by decide) ?_
            refine lv_istore_n (lv' := [(1, .int (1 : Int32)), (4, .int ((σ 4) ((5 : Int32) * y2).toNatClampNeg)), (3, .int ((σ 2) y2.toNatClampNeg)), (0, .ref (q 0)), (2, .int y2)]) hx hb d_M_isKept_113 rfl hl (by decide) rfl (fun ls hl => ?_)
            refine lv_iinc (v := (y2 + (1 : Int32))) (lv' := [(2, .int (y2 + (1 : Int32))), (1, .int (1 : Int32)), (4, .int ((σ 4) ((5 : Int32) * y2).toNatClampNeg)), (3, .int ((σ 2) y2.toNatClampNeg)), (0, .ref (q 0))]) hx hb d_M_isKept_114 hl (k := 4) rfl rfl (by decide) rfl (fun ls hl => ?_)
            refine lv_goto (tgt := 4) hx hb d_M_isKept_117 (by decide) ?_
            exact ih (1 : Int32) (y2 + (1 : Int32)) _ _ ls out h hP hS (lv_sub hl [4, 1, 0] rfl) K
          have h := ifp c h
          refine lv_aload_n hx hb d_M_isKept_85 rfl (lv_at hl 2 rfl) ?_
          refine lv_iload_n hx hb d_M_isKept_86 rfl (lv_at hl 4 rfl) ?_
          obtain ⟨u87, hu87, h⟩ := bnd h
          refine gcall_i (va_runV (As := [.int y2]) (rest := []) ⟨hx, hb, hml, hown, hts⟩ (c_M_isLive l D cI cZ tL q tl σ y2 u87 hu87 H.size) (cwV 1 hts (gV w_528 w_529 w_711 w_6 w_530) rfl rfl rfl (by decide +kernel) ⟨Nat.le_of_ble_eq_true rfl, Nat.le_of_ble_eq_true rfl⟩) (gpV (k := 0) (ci := 5) hA hK (hD σ) hE hP hS rfl rfl) rfl rfl hl.1 rfl (lv_room (Nat.le_of_ble_eq_true rfl)) d_M_isKept_87 ⟨Nat.le_of_ble_eq_true rfl, Nat.le_of_ble_eq_true rfl⟩) hA (hD σ) hS (fun H locs hP hS => ?_)
          refine lv_if_eq (tgt := 112) hx hb d_M_isKept_90 (by decide) (fun c => ?_) (fun c => ?_)
          · have h := ifp c h
            refine lv_iconst (v := 0) hx hb d_M_isKept_112 (by decide) ?_
            refine lv_istore_n (lv' := [(1, .int (0 : Int32)), (4, .int ((σ 4) ((5 : Int32) * y2).toNatClampNeg)), (3, .int ((σ 2) y2.toNatClampNeg)), (0, .ref (q 0)), (2, .int y2)]) hx hb d_M_isKept_113 rfl hl (by decide) rfl (fun ls hl => ?_)
            refine lv_iinc (v := (y2 + (1 : Int32))) (lv' := [(2, .int (y2 + (1 : Int32))), (1, .int (0 : Int32)), (4, .int ((σ 4) ((5 : Int32) * y2).toNatClampNeg)), (3, .int ((σ 2) y2.toNatClampNeg)), (0, .ref (q 0))]) hx hb d_M_isKept_114 hl (k := 4) rfl rfl (by decide) rfl (fun ls hl => ?_)
            refine lv_goto (tgt := 4) hx hb d_M_isKept_117 (by decide) ?_
            exact ih (0 : Int32) (y2 + (1 : Int32)) _ _ ls out h hP hS (lv_sub hl [4, 1, 0] rfl) K
          have h := ifn c h
          refine lv_aload_n hx hb d_M_isKept_93 rfl (lv_at hl 2 rfl) ?_
          refine lv_aload_n hx hb d_M_isKept_94 rfl (lv_at hl 2 rfl) ?_
          refine va_get (D := D) (ci := 5) (v := .ref (q 1)) (C := R_M) (T := T_M) (N := 17) hx hb hts l_M hown hK hP 0 rfl rfl 3 (by decide) (hts _ w_442) (fun _ h9 => h9) rfl d_M_isKept_95 ?_
          refine lv_iload_n hx hb d_M_isKept_98 rfl (lv_at hl 4 rfl) ?_
          obtain ⟨c, h⟩ := ifs h
          refine va_iald hx hb hK hP 1 0 rfl rfl c d_M_isKept_99 ?_
          refine lv_iload hx hb d_M_isKept_100 (lv_at hl 0 rfl) ?_
          obtain ⟨u102, hu102, h⟩ := bnd h
          refine gcall_i (va_runV (As := [.int ((σ 1) y2.toNatClampNeg), .int ((σ 4) ((5 : Int32) * y2).toNatClampNeg)]) (rest := []) ⟨hx, hb, hml, hown, hts⟩ (c_M_isMarked l D cI cZ tL q tl σ ((σ 1) y2.toNatClampNeg) ((σ 4) ((5 : Int32) * y2).toNatClampNeg) u102 hu102 H.size) (cwV 2 hts (gV w_660 w_661 w_713 w_6 w_662) rfl rfl rfl (by decide +kernel) ⟨Nat.le_of_ble_eq_true rfl, Nat.le_of_ble_eq_true rfl⟩) (gpV (k := 0) (ci := 5) hA hK (hD σ) hE hP hS rfl rfl) rfl rfl hl.1 rfl (lv_room (Nat.le_of_ble_eq_true rfl)) d_M_isKept_102 ⟨Nat.le_of_ble_eq_true rfl, Nat.le_of_ble_eq_true rfl⟩) hA (hD σ) hS (fun H locs hP hS => ?_)
          refine lv_if_eq (tgt := 112) hx hb d_M_isKept_105 (by decide) (fun c => ?_) (fun c => ?_)
          · have h := ifp c h
            refine lv_iconst (v := 0) hx hb d_M_isKept_112 (by decide) ?_
            refine lv_istore_n (lv' := [(1, .int (0 : Int32)), (4, .int ((σ 4) ((5 : Int32) * y2).toNatClampNeg)), (3, .int ((σ 2) y2.toNatClampNeg)), (0, .ref (q 0)), (2, .int y2)]) hx hb d_M_isKept_113 rfl hl (by decide) rfl (fun ls hl => ?_)
            refine lv_iinc (v := (y2 + (1 : Int32))) (lv' := [(2, .int (y2 + (1 : Int32))), (1, .int (0 : Int32)), (4, .int ((σ 4) ((5 : Int32) * y2).toNatClampNeg)), (3, .int ((σ 2) y2.toNatClampNeg)), (0, .ref (q 0))]) hx hb d_M_isKept_114 hl (k := 4) rfl rfl (by decide) rfl (fun ls hl => ?_)
            refine lv_goto (tgt := 4) hx hb d_M_isKept_117 (by decide) ?_
            exact ih (0 : Int32) (y2 + (1 : Int32)) _ _ ls out h hP hS (lv_sub hl [4, 1, 0] rfl) K
          have h := ifn c h
          refine lv_iconst (v := 1) hx hb d_M_isKept_108 (by decide) ?_
          refine lv_goto (tgt := 113) hx hb d_M_isKept_109 (by decide) ?_
          refine lv_istore_n (lv' := [(1, .int (1 : Int32)), (4, .int ((σ 4) ((5 : Int32) * y2).toNatClampNeg)), (3, .int ((σ 2) y2.toNatClampNeg)), (0, .ref (q 0)), (2, .int y2)]) hx hb d_M_isKept_113 rfl hl (by decide) rfl (fun ls hl => ?_)
          refine lv_iinc (v := (y2 + (1 : Int32))) (lv' := [(2, .int (y2 + (1 : Int32))), (1, .int (1 : Int32)), (4, .int ((σ 4) ((5 : Int32) * y2).toNatClampNeg)), (3, .int ((σ 2) y2.toNatClampNeg)), (0, .ref (q 0))]) hx hb d_M_isKept_114 hl (k := 4) rfl rfl (by decide) rfl (fun ls hl => ?_)
          refine lv_goto (tgt := 4) hx hb d_M_isKept_117 (by decide) ?_
          exact ih (1 : Int32) (y2 + (1 : Int32)) _ _ ls out h hP hS (lv_sub hl [4, 1, 0] rfl) K
        have h := ifp c h
        refine lv_aload_n hx hb d_M_isKept_42 rfl (lv_at hl 1 rfl) ?_
        refine va_get (D := D) (ci := 5) (v := .ref (q 4)) (C := R_M) (T := T_M) (N := 17) hx hb hts l_M hown hK hP 0 rfl rfl 6 (by decide) (hts _ w_445) (fun _ h9 => h9) rfl d_M_isKept_43 ?_
        refine lv_iconst (v := 5) hx hb d_M_isKept_46 (by decide) ?_
        refine lv_iload_n hx hb d_M_isKept_47 rfl (lv_at hl 3 rfl) ?_
        refine lv_imul hx hb d_M_isKept_48 ?_
        refine lv_iconst (v := 1) hx hb d_M_isKept_49 (by decide) ?_
        refine lv_iadd hx hb d_M_isKept_50 ?_
        obtain ⟨c, h⟩ := ifs h
        refine va_iald hx hb hK hP 4 0 rfl rfl c d_M_isKept_51 ?_
        refine lv_goto (tgt := 79) hx hb d_M_isKept_52 (by decide) ?_
        refine lv_istore (lv' := [(4, .int ((σ 4) (((5 : Int32) * y2) + (1 : Int32)).toNatClampNeg)), (3, .int ((σ 2) y2.toNatClampNeg)), (0, .ref (q 0)), (1, .int y1), (2, .int y2)]) hx hb d_M_isKept_79 hl (by decide) rfl (fun ls hl => ?_)
        refine lv_iload_n hx hb d_M_isKept_81 rfl (lv_at hl 3 rfl) ?_
        refine lv_if_ne (tgt := 108) hx hb d_M_isKept_82 (by decide) (fun c => ?_) (fun c => ?_)
        · have h := ifn c h
          refine lv_iconst (v := 1) hx hb d_M_isKept_108 (by decide) ?_
          refine lv_goto (tgt := 113) hx hb d_M_isKept_109 (by decide) ?_
          refine lv_istore_n (lv' := [(1, .int (1 : Int32)), (4, .int ((σ 4) (((5 : Int32) * y2) + (1 : Int32)).toNatClampNeg)), (3, .int ((σ 2) y2.toNatClampNeg)), (0, .ref (q 0)), (2, .int y2)]) hx hb d_M_isKept_113 rfl hl (by decide) rfl (fun ls hl => ?_)
          refine lv_iinc (v := (y2 + (1 : Int32))) (lv' := [(2, .int (y2 + (1 : Int32))), (1, .int (1 : Int32)), (4, .int ((σ 4) (((5 : Int32) * y2) + (1 : Int32)).toNatClampNeg)), (3, .int ((σ 2) y2.toNatClampNeg)), (0, .ref (q 0))]) hx hb d_M_isKept_114 hl (k := 4) rfl rfl (by decide) rfl (fun ls hl => ?_)
          refine lv_goto (tgt := 4) hx hb d_M_isKept_117 (by decide) ?_
          exact ih (1 : Int32) (y2 + (1 : Int32)) _ _ ls out h hP hS (lv_sub hl [4, 1, 0] rfl) K
        have h := ifp c h
        refine lv_aload_n hx hb d_M_isKept_85 rfl (lv_at hl 2 rfl) ?_
        refine lv_iload_n hx hb d_M_isKept_86 rfl (lv_at hl 4 rfl) ?_
        obtain ⟨u87, hu87, h⟩ := bnd h
        refine gcall_i (va_runV (As := [.int y2]) (rest := []) ⟨hx, hb, hml, hown, hts⟩ (c_M_isLive l D cI cZ tL q tl σ y2 u87 hu87 H.size) (cwV 1 hts (gV w_528 w_529 w_711 w_6 w_530) rfl rfl rfl (by decide +kernel) ⟨Nat.le_of_ble_eq_true rfl, Nat.le_of_ble_eq_true rfl⟩) (gpV (k := 0) (ci := 5) hA hK (hD σ) hE hP hS rfl rfl) rfl rfl hl.1 rfl (lv_room (Nat.le_of_ble_eq_true rfl)) d_M_isKept_87 ⟨Nat.le_of_ble_eq_true rfl, Nat.le_of_ble_eq_true rfl⟩) hA (hD σ) hS (fun H locs hP hS => ?_)
        refine lv_if_eq (tgt := 112) hx hb d_M_isKept_90 (by decide) (fun c => ?_) (fun c => ?_)
        · have h := ifp c h
          refine lv_iconst (v := 0) hx hb d_M_isKept_112 (by decide) ?_
          refine lv_istore_n (lv' := [(1, .int (0 : Int32)), (4, .int ((σ 4) (((5 : Int32) * y2) + (1 : Int32)).toNatClampNeg)), (3, .int ((σ 2) y2.toNatClampNeg)), (0, .ref (q 0)), (2, .int y2)]) hx hb d_M_isKept_113 rfl hl (by decide) rfl (fun ls hl => ?_)
          refine lv_iinc (v := (y2 + (1 : Int32))) (lv' := [(2, .int (y2 + (1 : Int32))), (1, .int (0 : Int32)), (4, .int ((σ 4) (((5 : Int32) * y2) + (1 : Int32)).toNatClampNeg)), (3, .int ((σ 2) y2.toNatClampNeg)), (0, .ref (q 0))]) hx hb d_M_isKept_114 hl (k := 4) rfl rfl (by decide) rfl (fun ls hl => ?_)
          refine lv_goto (tgt := 4) hx hb d_M_isKept_117 (by decide) ?_
          exact ih (0 : Int32) (y2 + (1 : Int32)) _ _ ls out h hP hS (lv_sub hl [4, 1, 0] rfl) K
        have h := ifn c h
        refine lv_aload_n hx hb d_M_isKept_93 rfl (lv_at hl 2 rfl) ?_
        refine lv_aload_n hx hb d_M_isKept_94 rfl (lv_at hl 2 rfl) ?_
        refine va_get (D := D) (ci := 5) (v := .ref (q 1)) (C := R_M) (T := T_M) (N := 17) hx hb hts l_M hown hK hP 0 rfl rfl 3 (by decide) (hts _ w_442) (fun _ h9 => h9) rfl d_M_isKept_95 ?_
        refine lv_iload_n hx hb d_M_isKept_98 rfl (lv_at hl 4 rfl) ?_
        obtain ⟨c, h⟩ := ifs h
        refine va_iald hx hb hK hP 1 0 rfl rfl c d_M_isKept_99 ?_
        refine lv_iload hx hb d_M_isKept_100 (lv_at hl 0 rfl) ?_
        obtain ⟨u102, hu102, h⟩ := bnd h
        refine gcall_i (va_runV (As := [.int ((σ 1) y2.toNatClampNeg), .int ((σ 4) (((5 : Int32) * y2) + (1 : Int32)).toNatClampNeg)]) (rest := []) ⟨hx, hb, hml, hown, hts⟩ (c_M_isMarked l D cI cZ tL q tl σ ((σ 1) y2.toNatClampNeg) ((σ 4) (((5 : Int32) * y2) + (1 : Int32)).toNatClampNeg) u102 hu102 H.size) (cwV 2 hts (gV w_660 w_661 w_713 w_6 w_662) rfl rfl rfl (by decide +kernel) ⟨Nat.le_of_ble_eq_true rfl, Nat.le_of_ble_eq_true rfl⟩) (gpV (k := 0) (ci := 5) hA hK (hD σ) hE hP hS rfl rfl) rfl rfl hl.1 rfl (lv_room (Nat.le_of_ble_eq_true rfl)) d_M_isKept_102 ⟨Nat.le_of_ble_eq_true rfl, Nat.le_of_ble_eq_true rfl⟩) hA (hD σ) hS (fun H locs hP hS => ?_)
        refine lv_if_eq (tgt := 112) hx hb d_M_isKept_105 (by decide) (fun c => ?_) (fun c => ?_)
        · have h := ifp c h
          refine lv_iconst (v := 0) hx hb d_M_isKept_112 (by decide) ?_
          refine lv_istore_n (lv' := [(1, .int (0 : Int32)), (4, .int ((σ 4) (((5 : Int32) * y2) + (1 : Int32)).toNatClampNeg)), (3, .int ((σ 2) y2.toNatClampNeg)), (0, .ref (q 0)), (2, .int y2)]) hx hb d_M_isKept_113 rfl hl (by decide) rfl (fun ls hl => ?_)
          refine lv_iinc (v := (y2 + (1 : Int32))) (lv' := [(2, .int (y2 + (1 : Int32))), (1, .int (0 : Int32)), (4, .int ((σ 4) (((5 : Int32) * y2) + (1 : Int32)).toNatClampNeg)), (3, .int ((σ 2) y2.toNatClampNeg)), (0, .ref (q 0))]) hx hb d_M_isKept_114 hl (k := 4) rfl rfl (by decide) rfl (fun ls hl => ?_)
          refine lv_goto (tgt := 4) hx hb d_M_isKept_117 (by decide) ?_
          exact ih (0 : Int32) (y2 + (1 : Int32)) _ _ ls out h hP hS (lv_sub hl [4, 1, 0] rfl) K
        have h := ifn c h
        refine lv_iconst (v := 1) hx hb d_M_isKept_108 (by decide) ?_
        refine lv_goto (tgt := 113) hx hb d_M_isKept_109 (by decide) ?_
        refine lv_istore_n (lv' := [(1, .int (1 : Int32)), (4, .int ((σ 4) (((5 : Int32) * y2) + (1 : Int32)).toNatClampNeg)), (3, .int ((σ 2) y2.toNatClampNeg)), (0, .ref (q 0)), (2, .int y2)]) hx hb d_M_isKept_113 rfl hl (by decide) rfl (fun ls hl => ?_)
        refine lv_iinc (v := (y2 + (1 : Int32))) (lv' := [(2, .int (y2 + (1 : Int32))), (1, .int (1 : Int32)), (4, .int ((σ 4) (((5 : Int32) * y2) + (1 : Int32)).toNatClampNeg)), (3, .int ((σ 2) y2.toNatClampNeg)), (0, .ref (q 0))]) hx hb d_M_isKept_114 hl (k := 4) rfl rfl (by decide) rfl (fun ls hl => ?_)
        refine lv_goto (tgt := 4) hx hb d_M_isKept_117 (by decide) ?_
        exact ih (1 : Int32) (y2 + (1 : Int32)) _ _ ls out h hP hS (lv_sub hl [4, 1, 0] rfl) K
      have h := ifp c h
      refine lv_aload_n hx hb d_M_isKept_24 rfl (lv_at hl 1 rfl) ?_
      refine va_get (D := D) (ci := 5) (v := .ref (q 4)) (C := R_M) (T := T_M) (N := 17) hx hb hts l_M hown hK hP 0 rfl rfl 6 (by decide) (hts _ w_445) (fun _ h9 => h9) rfl d_M_isKept_25 ?_
      refine lv_iconst (v := 5) hx hb d_M_isKept_28 (by decide) ?_
      refine lv_iload_n hx hb d_M_isKept_29 rfl (lv_at hl 3 rfl) ?_
      refine lv_imul hx hb d_M_isKept_30 ?_
      refine lv_iconst (v := 2) hx hb d_M_isKept_31 (by decide) ?_
      refine lv_iadd hx hb d_M_isKept_32 ?_
      obtain ⟨c, h⟩ := ifs h
      refine va_iald hx hb hK hP 4 0 rfl rfl c d_M_isKept_33 ?_
      refine lv_goto (tgt := 79) hx hb d_M_isKept_34 (by decide) ?_
      refine lv_istore (lv' := [(4, .int ((σ 4) (((5 : Int32) * y2) + (2 : Int32)).toNatClampNeg)), (3, .int ((σ 2) y2.toNatClampNeg)), (0, .ref (q 0)), (1, .int y1), (2, .int y2)]) hx hb d_M_isKept_79 hl (by decide) rfl (fun ls hl => ?_)
      refine lv_iload_n hx hb d_M_isKept_81 rfl (lv_at hl 3 rfl) ?_
      refine lv_if_ne (tgt := 108) hx hb d_M_isKept_82 (by decide) (fun c => ?_) (fun c => ?_)
      · have h := ifn c h
        refine lv_iconst (v := 1) hx hb d_M_isKept_108 (by decide) ?_
        refine lv_goto (tgt := 113) hx hb d_M_isKept_109 (by decide) ?_
        refine lv_istore_n (lv' := [(1, .int (1 : Int32)), (4, .int ((σ 4) (((5 : Int32) * y2) + (2 : Int32)).toNatClampNeg)), (3, .int ((σ 2) y2.toNatClampNeg)), (0, .ref (q 0)), (2, .int y2)]) hx hb d_M_isKept_113 rfl hl (by decide) rfl (fun ls hl => ?_)
        refine lv_iinc (v := (y2 + (1 : Int32))) (lv' := [(2, .int (y2 + (1 : Int32))), (1, .int (1 : Int32)), (4, .int ((σ 4) (((5 : Int32) * y2) + (2 : Int32)).toNatClampNeg)), (3, .int ((σ 2) y2.toNatClampNeg)), (0, .ref (q 0))]) hx hb d_M_isKept_114 hl (k := 4) rfl rfl (by decide) rfl (fun ls hl => ?_)
        refine lv_goto (tgt := 4) hx hb d_M_isKept_117 (by decide) ?_
        exact ih (1 : Int32) (y2 + (1 : Int32)) _ _ ls out h hP hS (lv_sub hl [4, 1, 0] rfl) K
      have h := ifp c h
      refine lv_aload_n hx hb d_M_isKept_85 rfl (lv_at hl 2 rfl) ?_
      refine lv_iload_n hx hb d_M_isKept_86 rfl (lv_at hl 4 rfl) ?_
      obtain ⟨u87, hu87, h⟩ := bnd h
      refine gcall_i (va_runV (As := [.int y2]) (rest := []) ⟨hx, hb, hml, hown, hts⟩ (c_M_isLive l D cI cZ tL q tl σ y2 u87 hu87 H.size) (cwV 1 hts (gV w_528 w_529 w_711 w_6 w_530) rfl rfl rfl (by decide +kernel) ⟨Nat.le_of_ble_eq_true rfl, Nat.le_of_ble_eq_true rfl⟩) (gpV (k := 0) (ci := 5) hA hK (hD σ) hE hP hS rfl rfl) rfl rfl hl.1 rfl (lv_room (Nat.le_of_ble_eq_true rfl)) d_M_isKept_87 ⟨Nat.le_of_ble_eq_true rfl, Nat.le_of_ble_eq_true rfl⟩) hA (hD σ) hS (fun H locs hP hS => ?_)
      refine lv_if_eq (tgt := 112) hx hb d_M_isKept_90 (by decide) (fun c => ?_) (fun c => ?_)
      · have h := ifp c h
        refine lv_iconst (v := 0) hx hb d_M_isKept_112 (by decide) ?_
        refine lv_istore_n (lv' := [(1, .int (0 : Int32)), (4, .int ((σ 4) (((5 : Int32) * y2) + (2 : Int32)).toNatClampNeg)), (3, .int ((σ 2) y2.toNatClampNeg)), (0, .ref (q 0)), (2, .int y2)]) hx hb d_M_isKept_113 rfl hl (by decide) rfl (fun ls hl => ?_)
        refine lv_iinc (v := (y2 + (1 : Int32))) (lv' := [(2, .int (y2 + (1 : Int32))), (1, .int (0 : Int32)), (4, .int ((σ 4) (((5 : Int32) * y2) + (2 : Int32)).toNatClampNeg)), (3, .int ((σ 2) y2.toNatClampNeg)), (0, .ref (q 0))]) hx hb d_M_isKept_114 hl (k := 4) rfl rfl (by decide) rfl (fun ls hl => ?_)
        refine lv_goto (tgt := 4) hx hb d_M_isKept_117 (by decide) ?_
        exact ih (0 : Int32) (y2 + (1 : Int32)) _ _ ls out h hP hS (lv_sub hl [4, 1, 0] rfl) K
      have h := ifn c h
      refine lv_aload_n hx hb d_M_isKept_93 rfl (lv_at hl 2 rfl) ?_
      refine lv_aload_n hx hb d_M_isKept_94 rfl (lv_at hl 2 rfl) ?_
      refine va_get (D := D) (ci := 5) (v := .ref (q 1)) (C := R_M) (T := T_M) (N := 17) hx hb hts l_M hown hK hP 0 rfl rfl 3 (by decide) (hts _ w_442) (fun _ h9 => h9) rfl d_M_isKept_95 ?_
      refine lv_iload_n hx hb d_M_isKept_98 rfl (lv_at hl 4 rfl) ?_
      obtain ⟨c, h⟩ := ifs h
      refine va_iald hx hb hK hP 1 0 rfl rfl c d_M_isKept_99 ?_
      refine lv_iload hx hb d_M_isKept_100 (lv_at hl 0 rfl) ?_
      obtain ⟨u102, hu102, h⟩ := bnd h
      refine gcall_i (va_runV (As := [.int ((σ 1) y2.toNatClampNeg), .int ((σ 4) (((5 : Int32) * y2) + (2 : Int32)).toNatClampNeg)]) (rest := []) ⟨hx, hb, hml, hown, hts⟩ (c_M_isMarked l D cI cZ tL q tl σ ((σ 1) y2.toNatClampNeg) ((σ 4) (((5 : Int32) * y2) + (2 : Int32)).toNatClampNeg) u102 hu102 H.size) (cwV 2 hts (gV w_660 w_661 w_713 w_6 w_662) rfl rfl rfl (by decide +kernel) ⟨Nat.le_of_ble_eq_true rfl, Nat.le_of_ble_eq_true rfl⟩) (gpV (k := 0) (ci := 5) hA hK (hD σ) hE hP hS rfl rfl) rfl rfl hl.1 rfl (lv_room (Nat.le_of_ble_eq_true rfl)) d_M_isKept_102 ⟨Nat.le_of_ble_eq_true rfl, Nat.le_of_ble_eq_true rfl⟩) hA (hD σ) hS (fun H locs hP hS => ?_)
      refine lv_if_eq (tgt := 112) hx hb d_M_isKept_105 (by decide) (fun c => ?_) (fun c => ?_)
      · have h := ifp c h
        refine lv_iconst (v := 0) hx hb d_M_isKept_112 (by decide) ?_
        refine lv_istore_n (lv' := [(1, .int (0 : Int32)), (4, .int ((σ 4) (((5 : Int32) * y2) + (2 : Int32)).toNatClampNeg)), (3, .int ((σ 2) y2.toNatClampNeg)), (0, .ref (q 0)), (2, .int y2)]) hx hb d_M_isKept_113 rfl hl (by decide) rfl (fun ls hl => ?_)
        refine lv_iinc (v := (y2 + (1 : Int32))) (lv' := [(2, .int (y2 + (1 : Int32))), (1, .int (0 : Int32)), (4, .int ((σ 4) (((5 : Int32) * y2) + (2 : Int32)).toNatClampNeg)), (3, .int ((σ 2) y2.toNatClampNeg)), (0, .ref (q 0))]) hx hb d_M_isKept_114 hl (k := 4) rfl rfl (by decide) rfl (fun ls hl => ?_)
        refine lv_goto (tgt := 4) hx hb d_M_isKept_117 (by decide) ?_
        exact ih (0 : Int32) (y2 + (1 : Int32)) _ _ ls out h hP hS (lv_sub hl [4, 1, 0] rfl) K
      have h := ifn c h
      refine lv_iconst (v := 1) hx hb d_M_isKept_108 (by decide) ?_
      refine lv_goto (tgt := 113) hx hb d_M_isKept_109 (by decide) ?_
      refine lv_istore_n (lv' := [(1, .int (1 : Int32)), (4, .int ((σ 4) (((5 : Int32) * y2) + (2 : Int32)).toNatClampNeg)), (3, .int ((σ 2) y2.toNatClampNeg)), (0, .ref (q 0)), (2, .int y2)]) hx hb d_M_isKept_113 rfl hl (by decide) rfl (fun ls hl => ?_)
      refine lv_iinc (v := (y2 + (1 : Int32))) (lv' := [(2, .int (y2 + (1 : Int32))), (1, .int (1 : Int32)), (4, .int ((σ 4) (((5 : Int32) * y2) + (2 : Int32)).toNatClampNeg)), (3, .int ((σ 2) y2.toNatClampNeg)), (0, .ref (q 0))]) hx hb d_M_isKept_114 hl (k := 4) rfl rfl (by decide) rfl (fun ls hl => ?_)
      refine lv_goto (tgt := 4) hx hb d_M_isKept_117 (by decide) ?_
      exact ih (1 : Int32) (y2 + (1 : Int32)) _ _ ls out h hP hS (lv_sub hl [4, 1, 0] rfl) K
  unfold f_M_isKept at h
  refine lv_iconst (v := 0) hx hb d_M_isKept_0 (by decide) ?_
  refine lv_istore_n (lv' := [(1, .int (0 : Int32)), (0, .ref (q 0))]) hx hb d_M_isKept_1 rfl hl (by decide) rfl (fun ls hl => ?_)
  refine lv_iconst (v := 0) hx hb d_M_isKept_2 (by decide) ?_
  refine lv_istore_n (lv' := [(2, .int (0 : Int32)), (1, .int (0 : Int32)), (0, .ref (q 0))]) hx hb d_M_isKept_3 rfl hl (by decide) rfl (fun ls hl => ?_)
  obtain ⟨u4, hu4, h⟩ := bnd h
  refine L4 σ F (0 : Int32) (0 : Int32) _ _ ls u4 hu4 hP hS (lv_sub hl [2, 1, 0] rfl) (fun H locs ls hP hS hl => ?_)
  refine lv_iload_n hx hb d_M_isKept_120 rfl (lv_at hl 1 rfl) ?_
  obtain ⟨c, h⟩ := ifs h
  cases h
  exact gret_z hx hb hr hlk (gz c) hP hS d_M_isKept_121
/-! ===== EscapeOwnersModel.parameter(III)I ===== -/
def f_M_parameter_B94 (F : Nat) (σ : St) (rec : Int32 → Int32 → Option (Int32 × Int32)) (y4 : Int32) (y5 : Int32) : Option (Int32 × Int32) := if (64 : Int32) ≤ y5 then (some (y4, y5)) else (if ¬ (y5 < 0 ∨ 64 ≤ y5.toNatClampNeg) then (if ((σ 10) y5.toNatClampNeg) = 0 then (rec y4 (y5 + (1 : Int32))) else (rec (y4 + (1 : Int32)) (y5 + (1 : Int32)))) else none)
def f_M_parameter_L94 (F : Nat) (σ : St) : Nat → Int32 → Int32 → Option (Int32 × Int32)
  | 0, _, _ => none
  | fu + 1, y4, y5 => f_M_parameter_B94 F σ (f_M_parameter_L94 F σ fu) y4 y5
def f_M_parameter (F : Nat) (σ : St) (x1 : Int32) (x2 : Int32) (x3 : Int32) : Option (Int32 × St) := Option.bind (f_M_isMethod σ x1) (fun u2 => if u2 = 0 then (some ((-2 : Int32), σ)) else (Option.bind (f_M_isIn x2 (0 : Int32) (2 : Int32)) (fun u11 => if u11 = 0 then (some ((-2 : Int32), σ)) else (Option.bind (f_M_isIn x3 (0 : Int32) (2 : Int32)) (fun u20 => if u20 = 0 then (some ((-2 : Int32), σ)) else (Option.bind (f_M_solve F σ) (fun u30 => Option.bind (f_M_has (u30 0 12) x1) (fun u38 => if u38 = 0 then (some ((-1 : Int32), u30)) else (Option.bind (f_M_findMarked F u30 x1 x2) (fun u49 => if x3 = 0 then (Option.bind (f_M_isKept F u49) (fun u57 => if u57 = 0 then (some ((0 : Int32), u49)) else (some ((1 : Int32), u49)))) else (if x3 = (1 : Int32) then (Option.bind (f_M_givesMarked F u49 x1) (fun u76 => if u76 = 0 then (some ((0 : Int32), u49)) else (some ((1 : Int32), u49)))) else (Option.bind (f_M_parameter_L94 F u49 F (0 : Int32) (0 : Int32)) (fun u94 => some (u94.1, u49))))))))))))))
set_option maxHeartbeats 4000000 in
set_option maxRecDepth 100000 in
theorem c_M_parameter (l : Launch) (D : va_G) (cI cZ : ClassId) (tL : Nat) (q : Nat → Nat) (tl : va_W) (F : Nat) (σ : St) (x1 : Int32) (x2 : Int32) (x3 : Int32) (out0 : Int32 × St) (h : f_M_parameter F σ x1 x2 x3 = some out0) : gCi l y_M_parameter (.code y_M_parameter b_M_parameter 6 (some .int) :: TB) { frames := 5, cells := 0, slots := 0, locals := 112 } D [(cI, .int), (cZ, .boolean)] tL [.ref (q 0), .int x1, .int x2, .int x3] (wM cI cZ q σ ++ tl) out0.1 (wM cI cZ q out0.2 ++ tl) := by
  refine gCi_of (cc := b_M_parameter) (maxL := 6) (ty := .int) (by decide) rfl (Nat.le_of_ble_eq_true rfl) ?_
  intro p e s m below meth c A ls hf hr hlk hA hK hD0 hE hP hl
  obtain ⟨hx, hb, hml, hown, hts⟩ := id hf
  have hts : ∀ w ∈ TB, w.before _ s = true := fun w h => hts w (List.mem_cons_of_mem _ h)
  have hown : s.vm.findClass R_M = some m.cls := hown
  have hl : lv_has ls 6 [(0, .ref (q 0)), (1, .int x1), (2, .int x2), (3, .int x3)] := hl
  have hS : va_S A s.heap s.heap [] := va_S.rf
  have hD : ∀ σ' : St, va_D A (wM cI cZ q σ' ++ tl) := fun σ' => va_Dsame hD0 rfl
  have L94 : ∀ (σ : St) (fu : Nat) (y4 : Int32) (y5 : Int32) (H : Heap) (locs : List Loc) (ls : Array Slot) (out : Int32 × Int32), f_M_parameter_L94 F σ fu y4 y5 = some out → va_P D vwCl (wM cI cZ q σ ++ tl) H → va_S A s.heap H locs → lv_has ls 6 [(0, .ref (q 0)), (4, .int y4), (5, .int y5)] → (∀ (H : Heap) (locs : List Loc) (ls : Array Slot), va_P D vwCl (wM cI cZ q σ ++ tl) H → va_S A s.heap H locs → lv_has ls 6 [(0, .ref (q 0)), (4, .int out.1), (5, .int out.2)] → W p l e { frames := 5, cells := 0, slots := 0, locals := 112 } s m ([.ref (q 0), .int x1, .int x2, .int x3] : List Value).toArray below meth c H locs 0 0 (gQi below D out0.1 (wM cI cZ q out0.2 ++ tl) A (([.ref (q 0), .int x1, .int x2, .int x3] : List Value).toArray) s) (F0 m 128 ls [])) → W p l e { frames := 5, cells := 0, slots := 0, locals := 112 } s m ([.ref (q 0), .int x1, .int x2, .int x3] : List Value).toArray below meth c H locs 0 0 (gQi below D out0.1 (wM cI cZ q out0.2 ++ tl) A (([.ref (q 0), .int x1, .int x2, .int x3] : List Value).toArray) s) (F0 m 94 ls []) := by
    intro σ fu
    induction fu with
    | zero => intro y4 y5 H locs ls out h; exact absurd (show (none : Option (Int32 × Int32)) = some out from h) (fun z => by cases z)
    | succ fu ih =>
      intro y4 y5 H locs ls out h hP hS hl K
      have h : f_M_parameter_B94 F σ (f_M_parameter_L94 F σ fu) y4 y5 = some out := h
      unfold f_M_parameter_B94 at h
      refine lv_iload hx hb d_M_parameter_94 (lv_at hl 2 rfl) ?_
      refine lv_bipush (v := 64) hx hb d_M_parameter_96 (by decide) ?_
      refine lv_icmp_ge (tgt := 128) hx hb d_M_parameter_98 (by decide) (fun c => ?_) (fun c => ?_)
      · have h := ifp c h
        cases h
        exact K _ _ ls hP hS (lv_sub hl [0, 1, 2] rfl)
      have h := ifn c h
      refine lv_aload_n hx hb d_M_parameter_101 rfl (lv_at hl 0 rfl) ?_
      refine va_get (D := D) (ci := 5) (v := .ref (q 10)) (C := R_M) (T := T_M) (N := 17) hx hb hts l_M hown hK hP 0 rfl rfl 15 (by decide) (hts _ w_454) (fun _ h9 => h9) rfl d_M_parameter_102 ?_
      refine lv_iload hx hb d_M_parameter_105 (lv_at hl 2 rfl) ?_
      obtain ⟨c, h⟩ := ifs h
      refine va_zald hx hb hK hP 10 1 rfl rfl c d_M_parameter_107 ?_
      refine lv_if_eq (tgt := 118) hx hb d_M_parameter_108 (by decide) (fun c => ?_) (fun c => ?_)
      · have h := ifp c h
        refine lv_iload hx hb d_M_parameter_118 (lv_at hl 1 rfl) ?_
        refine lv_istore (lv' := [(4, .int y4), (0, .ref (q 0)), (5, .int y5)]) hx hb d_M_parameter_120 hl (by decide) rfl (fun ls hl => ?_)
        refine lv_iinc (v := (y5 + (1 : Int32))) (lv' := [(5, .int (y5 + (1 : Int32))), (4, .int y4), (0, .ref (q 0))]) hx hb d_M_parameter_122 hl (k := 2) rfl rfl (by decide) rfl (fun ls hl => ?_)
        refine lv_goto (tgt := 94) hx hb d_M_parameter_125 (by decide) ?_
        exact ih y4 (y5 + (1 : Int32)) _ _ ls out h hP hS (lv_sub hl [2, 1, 0] rfl) K
      have h := ifn c h
      refine lv_iload hx hb d_M_parameter_111 (lv_at hl 1 rfl) ?_
      refine lv_iconst (v := 1) hx hb d_M_parameter_113 (by decide) ?_
      refine lv_iadd hx hb d_M_parameter_114 ?_
      refine lv_goto (tgt := 120) hx hb d_M_parameter_115 (by decide) ?_
      refine lv_istore (lv' := [(4, .int (y4 + (1 : Int32))), (0, .ref (q 0)), (5, .int y5)]) hx hb d_M_parameter_120 hl (by decide) rfl (fun ls hl => ?_)
      refine lv_iinc (v := (y5 + (1 : Int32))) (lv' := [(5, .int (y5 + (1 : Int32))), (4, .int (y4 + (1 : Int32))), (0, .ref (q 0))]) hx hb d_M_parameter_122 hl (k := 2) rfl rfl (by decide) rfl (fun ls hl => ?_)
      refine lv_goto (tgt := 94) hx hb d_M_parameter_125 (by decide) ?_
      exact ih (y4 + (1 : Int32)) (y5 + (1 : Int32)) _ _ ls out h hP hS (lv_sub hl [2, 1, 0] rfl) K
  unfold f_M_parameter at h
  refine lv_aload_n hx hb d_M_parameter_0 rfl (lv_at hl 0 rfl) ?_
  refine lv_iload_n hx hb d_M_parameter_1 rfl (lv_at hl 1 rfl) ?_
  obtain ⟨u2, hu2, h⟩ := bnd h
  refine gcall_i (va_runV (As := [.int x1]) (rest := []) ⟨hx, hb, hml, hown, hts⟩ (c_M_isMethod l D cI cZ tL q tl σ x1 u2 hu2 s.heap.size) (cwV 1 hts (gV w_483 w_484 w_714 w_6 w_485) rfl rfl rfl (by decide +kernel) ⟨Nat.le_of_ble_eq_true rfl, Nat.le_of_ble_eq_true rfl⟩) (gpV (k := 0) (ci := 5) hA hK (hD σ) hE hP hS rfl rfl) rfl rfl hl.1 rfl (lv_room (Nat.le_of_ble_eq_true rfl)) d_M_parameter_2 ⟨Nat.le_of_ble_eq_true rfl, Nat.le_of_ble_eq_true rfl⟩) hA (hD σ) hS (fun H locs hP hS => ?_)
  refine lv_if_eq (tgt := 26) hx hb d_M_parameter_5 (by decide) (fun c => ?_) (fun c => ?_)
  · have h := ifp c h
    refine lv_bipush (v := -2) hx hb d_M_parameter_26 (by decide) ?_
    cases h
    exact gret_i hx hb hr hlk hP hS d_M_parameter_28
  have h := ifn c h
  refine lv_iload_n hx hb d_M_parameter_8 rfl (lv_at hl 2 rfl) ?_
  refine lv_iconst (v := 0) hx hb d_M_parameter_9 (by decide) ?_
  refine lv_iconst (v := 2) hx hb d_M_parameter_10 (by decide) ?_
  obtain ⟨u11, hu11, h⟩ := bnd h
  refine gcall_i (va_runS (As := [.int x2, .int (0 : Int32), .int (2 : Int32)]) (rest := []) ⟨hx, hb, hml, hown, hts⟩ (c_M_isIn l D cI cZ tL (wM cI cZ q σ ++ tl) x2 (0 : Int32) (2 : Int32) u11 hu11 H.size) (va_cwS 3 hts (gS w_486 w_487 w_6 w_488) rfl rfl rfl (by decide +kernel) ⟨Nat.le_of_ble_eq_true rfl, Nat.le_of_ble_eq_true rfl⟩) (gpS hA hK (hD σ) hE hP hS) rfl rfl hl.1 rfl (lv_room (Nat.le_of_ble_eq_true rfl)) d_M_parameter_11 ⟨Nat.le_of_ble_eq_true rfl, Nat.le_of_ble_eq_true rfl⟩) hA (hD σ) hS (fun H locs hP hS => ?_)
  refine lv_if_eq (tgt := 26) hx hb d_M_parameter_14 (by decide) (fun c => ?_) (fun c => ?_)
  · have h := ifp c h
    refine lv_bipush (v := -2) hx hb d_M_parameter_26 (by decide) ?_
    cases h
    exact gret_i hx hb hr hlk hP hS d_M_parameter_28
  have h := ifn c h
  refine lv_iload_n hx hb d_M_parameter_17 rfl (lv_at hl 3 rfl) ?_
  refine lv_iconst (v := 0) hx hb d_M_parameter_18 (by decide) ?_
  refine lv_iconst (v := 2) hx hb d_M_parameter_19 (by decide) ?_
  obtain ⟨u20, hu20, h⟩ := bnd h
  refine gcall_i (va_runS (As := [.int x3, .int (0 : Int32), .int (2 : Int32)]) (rest := []) ⟨hx, hb, hml, hown, hts⟩ (c_M_isIn l D cI cZ tL (wM cI cZ q σ ++ tl) x3 (0 : Int32) (2 : Int32) u20 hu20 H.size) (va_cwS 3 hts (gS w_486 w_487 w_6 w_488) rfl rfl rfl (by decide +kernel) ⟨Nat.le_of_ble_eq_true rfl, Nat.le_of_ble_eq_true rfl⟩) (gpS hA hK (hD σ) hE hP hS) rfl rfl hl.1 rfl (lv_room (Nat.le_of_ble_eq_true rfl)) d_M_parameter_20 ⟨Nat.le_of_ble_eq_true rfl, Nat.le_of_ble_eq_true rfl⟩) hA (hD σ) hS (fun H locs hP hS => ?_)
  refine lv_if_ne (tgt := 29) hx hb d_M_parameter_23 (by decide) (fun c => ?_) (fun c => ?_)
  · have h := ifn c h
    refine lv_aload_n hx hb d_M_parameter_29 rfl (lv_at hl 0 rfl) ?_
    obtain ⟨u30, hu30, h⟩ := bnd h
    refine gcall_v (va_runV (As := []) (rest := []) ⟨hx, hb, hml, hown, hts⟩ (c_M_solve l D cI cZ tL q tl F σ  u30 hu30 H.size) (cwV 0 hts (gV w_516 w_517 w_730 w_6 w_518) rfl rfl rfl (by decide +kernel) ⟨Nat.le_of_ble_eq_true rfl, Nat.le_of_ble_eq_true rfl⟩) (gpV (k := 0) (ci := 5) hA hK (hD σ) hE hP hS rfl rfl) rfl rfl hl.1 rfl (lv_room (Nat.le_of_ble_eq_true rfl)) d_M_parameter_30 ⟨Nat.le_of_ble_eq_true rfl, Nat.le_of_ble_eq_true rfl⟩) hA (hD σ) hS (fun H locs hP hS => ?_)
    refine lv_aload_n hx hb d_M_parameter_33 rfl (lv_at hl 0 rfl) ?_
    refine va_get (D := D) (ci := 5) (v := .int (u30 0 12)) (C := R_M) (T := T_M) (N := 17) hx hb hts l_M hown hK hP 0 rfl rfl 12 (by decide) (hts _ w_451) (fun _ h9 => h9) rfl d_M_parameter_34 ?_
    refine lv_iload_n hx hb d_M_parameter_37 rfl (lv_at hl 1 rfl) ?_
    obtain ⟨u38, hu38, h⟩ := bnd h
    refine gcall_i (va_runS (As := [.int (u30 0 12), .int x1]) (rest := []) ⟨hx, hb, hml, hown, hts⟩ (c_M_has l D cI cZ tL (wM cI cZ q u30 ++ tl) (u30 0 12) x1 u38 hu38 H.size) (va_cwS 2 hts (gS w_522 w_523 w_6 w_524) rfl rfl rfl (by decide +kernel) ⟨Nat.le_of_ble_eq_true rfl, Nat.le_of_ble_eq_true rfl⟩) (gpS hA hK (hD u30) hE hP hS) rfl rfl hl.1 rfl (lv_room (Nat.le_of_ble_eq_true rfl)) d_M_parameter_38 ⟨Nat.le_of_ble_eq_true rfl, Nat.le_of_ble_eq_true rfl⟩) hA (hD u30) hS (fun H locs hP hS => ?_)
    refine lv_if_ne (tgt := 46) hx hb d_M_parameter_41 (by decide) (fun c => ?_) (fun c => ?_)
    · have h := ifn c h
      refine lv_aload_n hx hb d_M_parameter_46 rfl (lv_at hl 0 rfl) ?_
      refine lv_iload_n hx hb d_M_parameter_47 rfl (lv_at hl 1 rfl) ?_
      refine lv_iload_n hx hb d_M_parameter_48 rfl (lv_at hl 2 rfl) ?_
      obtain ⟨u49, hu49, h⟩ := bnd h
      refine gcall_v (va_runV (As := [.int x1, .int x2]) (rest := []) ⟨hx, hb, hml, hown, hts⟩ (c_M_findMarked l D cI cZ tL q tl F u30 x1 x2 u49 hu49 H.size) (cwV 2 hts (gV w_651 w_652 w_701 w_6 w_653) rfl rfl rfl (by decide +kernel) ⟨Nat.le_of_ble_eq_true rfl, Nat.le_of_ble_eq_true rfl⟩) (gpV (k := 0) (ci := 5) hA hK (hD u30) hE hP hS rfl rfl) rfl rfl hl.1 rfl (lv_room (Nat.le_of_ble_eq_true rfl)) d_M_parameter_49 ⟨Nat.le_of_ble_eq_true rfl, Nat.le_of_ble_eq_true rfl⟩) hA (hD u30) hS (fun H locs hP hS => ?_)
      refine lv_iload_n hx hb d_M_parameter_52 rfl (lv_at hl 3 rfl) ?_
      refine lv_if_ne (tgt := 69) hx hb d_M_parameter_53 (by decide) (fun c => ?_) (fun c => ?_)
      · have h := ifn c h
        refine lv_iload_n hx hb d_M_parameter_69 rfl (lv_at hl 3 rfl) ?_
        refine lv_iconst (v := 1) hx hb d_M_parameter_70 (by decide) ?_
        refine lv_icmp_ne (tgt := 88) hx hb d_M_parameter_71 (by decide) (fun c => ?_) (fun c => ?_)
        · have h := ifn c h
          refine lv_iconst (v := 0) hx hb d_M_parameter_88 (by decide) ?_
          refine lv_istore (lv' := [(4, .int (0 : Int32)), (0, .ref (q 0)), (1, .int x1), (2, .int x2), (3, .int x3)]) hx hb d_M_parameter_89 hl (by decide) rfl (fun ls hl => ?_)
          refine lv_iconst (v := 0) hx hb d_M_parameter_91 (by decide) ?_
          refine lv_istore (lv' := [(5, .int (0 : Int32)), (4, .int (0 : Int32)), (0, .ref (q 0)), (1, .int x1), (2, .int x2), (3, .int x3)]) hx hb d_M_parameter_92 hl (by decide) rfl (fun ls hl => ?_)
          obtain ⟨u94, hu94, h⟩ := bnd h
          refine L94 u49 F (0 : Int32) (0 : Int32) _ _ ls u94 hu94 hP hS (lv_sub hl [2, 1, 0] rfl) (fun H locs ls hP hS hl => ?_)
          refine lv_iload hx hb d_M_parameter_128 (lv_at hl 1 rfl) ?_
          cases h
          exact gret_i hx hb hr hlk hP hS d_M_parameter_130
        have h := ifp c h
        refine lv_aload_n hx hb d_M_parameter_74 rfl (lv_at hl 0 rfl) ?_
        refine lv_iload_n hx hb d_M_parameter_75 rfl (lv_at hl 1 rfl) ?_
        obtain ⟨u76, hu76, h⟩ := bnd h
        refine gcall_i (va_runV (As := [.int x1]) (rest := []) ⟨hx, hb, hml, hown, hts⟩ (c_M_givesMarked l D cI cZ tL q tl F u49 x1 u76 hu76 H.size) (cwV 1 hts (gV w_663 w_664 w_704 w_6 w_665) rfl rfl rfl (by decide +kernel) ⟨Nat.le_of_ble_eq_true rfl, Nat.le_of_ble_eq_true rfl⟩) (gpV (k := 0) (ci := 5) hA hK (hD u49) hE hP hS rfl rfl) rfl rfl hl.1 rfl (lv_room (Nat.le_of_ble_eq_true rfl)) d_M_parameter_76 ⟨Nat.le_of_ble_eq_true rfl, Nat.le_of_ble_eq_true rfl⟩) hA (hD u49) hS (fun H locs hP hS => ?_)
        refine lv_if_eq (tgt := 86) hx hb d_M_parameter_79 (by decide) (fun c => ?_) (fun c => ?_)
        · have h := ifp c h
          refine lv_iconst (v := 0) hx hb d_M_parameter_86 (by decide) ?_
          cases h
          exact gret_i hx hb hr hlk hP hS d_M_parameter_87
        have h := ifn c h
        refine lv_iconst (v := 1) hx hb d_M_parameter_82 (by decide) ?_
        refine lv_goto (tgt := 87) hx hb d_M_parameter_83 (by decide) ?_
        cases h
        exact gret_i hx hb hr hlk hP hS d_M_parameter_87
      have h := ifp c h
      refine lv_aload_n hx hb d_M_parameter_56 rfl (lv_at hl 0 rfl) ?_
      obtain ⟨u57, hu57, h⟩ := bnd h
      refine gcall_i (va_runV (As := []) (rest := []) ⟨hx, hb, hml, hown, hts⟩ (c_M_isKept l D cI cZ tL q tl F u49  u57 hu57 H.size) (cwV 0 hts (gV w_666 w_667 w_709 w_6 w_668) rfl rfl rfl (by decide +kernel) ⟨Nat.le_of_ble_eq_true rfl, Nat.le_of_ble_eq_true rfl⟩) (gpV (k := 0) (ci := 5) hA hK (hD u49) hE hP hS rfl rfl) rfl rfl hl.1 rfl (lv_room (Nat.le_of_ble_eq_true rfl)) d_M_parameter_57 ⟨Nat.le_of_ble_eq_true rfl, Nat.le_of_ble_eq_true rfl⟩) hA (hD u49) hS (fun H locs hP hS => ?_)
      refine lv_if_eq (tgt := 67) hx hb d_M_parameter_60 (by decide) (fun c => ?_) (fun c => ?_)
      · have h := ifp c h
        refine lv_iconst (v := 0) hx hb d_M_parameter_67 (by decide) ?_
        cases h
        exact gret_i hx hb hr hlk hP hS d_M_parameter_68
      have h := ifn c h
      refine lv_iconst (v := 1) hx hb d_M_parameter_63 (by decide) ?_
      refine lv_goto (tgt := 68) hx hb d_M_parameter_64 (by decide) ?_
      cases h
      exact gret_i hx hb hr hlk hP hS d_M_parameter_68
    have h := ifp c h
    refine lv_iconst (v := -1) hx hb d_M_parameter_44 (by decide) ?_
    cases h
    exact gret_i hx hb hr hlk hP hS d_M_parameter_45
  have h := ifp c h
  refine lv_bipush (v := -2) hx hb d_M_parameter_26 (by decide) ?_
  cases h
  exact gret_i hx hb hr hlk hP hS d_M_parameter_28
