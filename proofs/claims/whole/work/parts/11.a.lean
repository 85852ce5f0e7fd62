/-! ===== EscapeOwners.isBelow(II)Z ===== -/
def f_E_isBelow (x0 : Int32) (x1 : Int32) : Option (Int32) := if x0 < 0 then (some (0 : Int32)) else (if x1 ≤ x0 then (some (0 : Int32)) else (some (1 : Int32)))
set_option maxHeartbeats 4000000 in
set_option maxRecDepth 100000 in
theorem c_E_isBelow (l : Launch) (D : va_G) (cI cZ : ClassId) (tL : Nat) (ws : va_W) (x0 : Int32) (x1 : Int32) (out0 : Int32) (h : f_E_isBelow x0 x1 = some out0) : gCi l y_E_isBelow (.code y_E_isBelow b_E_isBelow 2 (some .boolean) :: TB) { frames := 0, cells := 0, slots := 0, locals := 0 } D [(cI, .int), (cZ, .boolean)] tL [.int x0, .int x1] ws out0 ws := by
  refine gCi_of (cc := b_E_isBelow) (maxL := 2) (ty := .boolean) (by decide) rfl (Nat.le_of_ble_eq_true rfl) ?_
  intro p e s m below meth c A ls hf hr hlk hA hK hD0 hE hP hl
  obtain ⟨hx, hb, hml, hown, hts⟩ := id hf
  have hts : ∀ w ∈ TB, w.before _ s = true := fun w h => hts w (List.mem_cons_of_mem _ h)
  have hown : s.vm.findClass R_E = some m.cls := hown
  have hl : lv_has ls 2 [(0, .int x0), (1, .int x1)] := hl
  have hS : va_S A s.heap s.heap [] := va_S.rf
  have hD := hD0
  unfold f_E_isBelow at h
  refine lv_iload_n hx hb d_E_isBelow_0 rfl (lv_at hl 0 rfl) ?_
  refine lv_if_lt (tgt := 13) hx hb d_E_isBelow_1 (by decide) (fun c => ?_) (fun c => ?_)
  · have h := ifp c h
    refine lv_iconst (v := 0) hx hb d_E_isBelow_13 (by decide) ?_
    cases h
    exact gret_z hx hb hr hlk (gz (Or.inl rfl)) hP hS d_E_isBelow_14
  have h := ifn c h
  refine lv_iload_n hx hb d_E_isBelow_4 rfl (lv_at hl 0 rfl) ?_
  refine lv_iload_n hx hb d_E_isBelow_5 rfl (lv_at hl 1 rfl) ?_
  refine lv_icmp_ge (tgt := 13) hx hb d_E_isBelow_6 (by decide) (fun c => ?_) (fun c => ?_)
  · have h := ifp c h
    refine lv_iconst (v := 0) hx hb d_E_isBelow_13 (by decide) ?_
    cases h
    exact gret_z hx hb hr hlk (gz (Or.inl rfl)) hP hS d_E_isBelow_14
  have h := ifn c h
  refine lv_iconst (v := 1) hx hb d_E_isBelow_9 (by decide) ?_
  refine lv_goto (tgt := 14) hx hb d_E_isBelow_10 (by decide) ?_
  cases h
  exact gret_z hx hb hr hlk (gz (Or.inr rfl)) hP hS d_E_isBelow_14
/-! ===== EscapeOwners.at([II)I ===== -/
def f_E_at (n : Nat) (f : (Nat → Int32)) (x1 : Int32) : Option (Int32) := if x1 < 0 then (some (0 : Int32)) else (if (nI n) ≤ x1 then (some (0 : Int32)) else (if ¬ (x1 < 0 ∨ n ≤ x1.toNatClampNeg) then (some (f x1.toNatClampNeg)) else none))
set_option maxHeartbeats 4000000 in
set_option maxRecDepth 100000 in
theorem c_E_at (l : Launch) (D : va_G) (cI cZ : ClassId) (tL : Nat) (ws : va_W) (k a n : Nat) (hk : k < ws.length) (f : (Nat → Int32)) (x1 : Int32) (out0 : Int32) (h : f_E_at n f x1 = some out0) : gCi l y_E_at (.code y_E_at b_E_at 2 (some .int) :: TB) { frames := 0, cells := 0, slots := 0, locals := 0 } D [(cI, .int), (cZ, .boolean)] tL [.ref a, .int x1] (wA ws k a cI n f) out0 (wA ws k a cI n f) := by
  refine gCi_of (cc := b_E_at) (maxL := 2) (ty := .int) (by decide) rfl (Nat.le_of_ble_eq_true rfl) ?_
  intro p e s m below meth c A ls hf hr hlk hA hK hD0 hE hP hl
  obtain ⟨hx, hb, hml, hown, hts⟩ := id hf
  have hts : ∀ w ∈ TB, w.before _ s = true := fun w h => hts w (List.mem_cons_of_mem _ h)
  have hown : s.vm.findClass R_E = some m.cls := hown
  have hl : lv_has ls 2 [(0, .ref a), (1, .int x1)] := hl
  have hS : va_S A s.heap s.heap [] := va_S.rf
  have hD : ∀ f' : Nat → Int32, va_D A (wA ws k a cI n f') := fun f' => va_Dsame hD0 (wA_fst _ _)
  unfold f_E_at at h
  refine lv_iload_n hx hb d_E_at_0 rfl (lv_at hl 1 rfl) ?_
  refine lv_if_lt (tgt := 16) hx hb d_E_at_1 (by decide) (fun c => ?_) (fun c => ?_)
  · have h := ifp c h
    refine lv_iconst (v := 0) hx hb d_E_at_16 (by decide) ?_
    cases h
    exact gret_i hx hb hr hlk hP hS d_E_at_17
  have h := ifn c h
  refine lv_iload_n hx hb d_E_at_4 rfl (lv_at hl 1 rfl) ?_
  refine lv_aload_n hx hb d_E_at_5 rfl (lv_at hl 0 rfl) ?_
  refine va_alen hx hb hK hP k 0 (wA_get hk) rfl (v := nI n) rfl d_E_at_6 ?_
  refine lv_icmp_ge (tgt := 16) hx hb d_E_at_7 (by decide) (fun c => ?_) (fun c => ?_)
  · have h := ifp c h
    refine lv_iconst (v := 0) hx hb d_E_at_16 (by decide) ?_
    cases h
    exact gret_i hx hb hr hlk hP hS d_E_at_17
  have h := ifn c h
  refine lv_aload_n hx hb d_E_at_10 rfl (lv_at hl 0 rfl) ?_
  refine lv_iload_n hx hb d_E_at_11 rfl (lv_at hl 1 rfl) ?_
  obtain ⟨c, h⟩ := ifs h
  refine va_iald hx hb hK hP k 0 (wA_get hk) rfl c d_E_at_12 ?_
  refine lv_goto (tgt := 17) hx hb d_E_at_13 (by decide) ?_
  cases h
  exact gret_i hx hb hr hlk hP hS d_E_at_17
theorem c_E_at_u (l : Launch) (D : va_G) (cI cZ : ClassId) (tL : Nat) (ws : va_W) (k a n : Nat)  (f : (Nat → Int32)) (hw : ws[k]? = some (a, .inl (cI, n, .inl f))) (x1 : Int32) (out0 : Int32) (h : f_E_at n f x1 = some out0) : gCi l y_E_at (.code y_E_at b_E_at 2 (some .int) :: TB) { frames := 0, cells := 0, slots := 0, locals := 0 } D [(cI, .int), (cZ, .boolean)] tL [.ref a, .int x1] ws out0 ws := by
  have z := c_E_at l D cI cZ tL ws k a n (List.getElem?_eq_some_iff.mp hw).1 f x1 out0 h
  rw [wA_self hw] at z
  exact z
set_option maxHeartbeats 4000000 in
set_option maxRecDepth 100000 in
theorem c_E_atT (l : Launch) (D : va_G) (cI cZ : ClassId) (tL : Nat) (ws : va_W) (x1 : Int32) (out0 : Int32) (h : f_E_at 33 limV x1 = some out0) : gCi l y_E_at (.code y_E_at b_E_at 2 (some .int) :: TB) { frames := 0, cells := 0, slots := 0, locals := 0 } D [(cI, .int), (cZ, .boolean)] tL [.ref tL, .int x1] ws out0 ws := by
  refine gCi_of (cc := b_E_at) (maxL := 2) (ty := .int) (by decide) rfl (Nat.le_of_ble_eq_true rfl) ?_
  intro p e s m below meth c A ls hf hr hlk hA hK hD0 hE hP hl
  obtain ⟨hx, hb, hml, hown, hts⟩ := id hf
  have hts : ∀ w ∈ TB, w.before _ s = true := fun w h => hts w (List.mem_cons_of_mem _ h)
  have hown : s.vm.findClass R_E = some m.cls := hown
  have hl : lv_has ls 2 [(0, .ref tL), (1, .int x1)] := hl
  have hS : va_S A s.heap s.heap [] := va_S.rf
  have hD := hD0
  unfold f_E_at at h
  refine lv_iload_n hx hb d_E_at_0 rfl (lv_at hl 1 rfl) ?_
  refine lv_if_lt (tgt := 16) hx hb d_E_at_1 (by decide) (fun c => ?_) (fun c => ?_)
  · have h := ifp c h
    refine lv_iconst (v := 0) hx hb d_E_at_16 (by decide) ?_
    cases h
    exact gret_i hx hb hr hlk hP hS d_E_at_17
  have h := ifn c h
  refine lv_iload_n hx hb d_E_at_4 rfl (lv_at hl 1 rfl) ?_
  refine lv_aload_n hx hb d_E_at_5 rfl (lv_at hl 0 rfl) ?_
  refine va_tlen hx hb hE.2.2.2 hS (v := nI 33) rfl d_E_at_6 ?_
  refine lv_icmp_ge (tgt := 16) hx hb d_E_at_7 (by decide) (fun c => ?_) (fun c => ?_)
  · have h := ifp c h
    refine lv_iconst (v := 0) hx hb d_E_at_16 (by decide) ?_
    cases h
    exact gret_i hx hb hr hlk hP hS d_E_at_17
  have h := ifn c h
  refine lv_aload_n hx hb d_E_at_10 rfl (lv_at hl 0 rfl) ?_
  refine lv_iload_n hx hb d_E_at_11 rfl (lv_at hl 1 rfl) ?_
  obtain ⟨c, h⟩ := ifs h
  refine va_ti hx hb hE.2.2.2 hS c (v := .int (limV x1.toNatClampNeg)) rfl d_E_at_12 ?_
  refine lv_goto (tgt := 17) hx hb d_E_at_13 (by decide) ?_
  cases h
  exact gret_i hx hb hr hlk hP hS d_E_at_17
/-! ===== EscapeOwners.limitOf(II)I ===== -/
def f_E_limitOf (x0 : Int32) (x1 : Int32) : Option (Int32) := Option.bind (f_E_at 33 limV ((x0 * (3 : Int32)) + x1)) (fun u8 => some u8)
set_option maxHeartbeats 4000000 in
set_option maxRecDepth 100000 in
theorem c_E_limitOf (l : Launch) (D : va_G) (cI cZ : ClassId) (tL : Nat) (ws : va_W) (x0 : Int32) (x1 : Int32) (out0 : Int32) (h : f_E_limitOf x0 x1 = some out0) : gCi l y_E_limitOf (.code y_E_limitOf b_E_limitOf 2 (some .int) :: TB) { frames := 1, cells := 0, slots := 0, locals := 21 } D [(cI, .int), (cZ, .boolean)] tL [.int x0, .int x1] ws out0 ws := by
  refine gCi_of (cc := b_E_limitOf) (maxL := 2) (ty := .int) (by decide) rfl (Nat.le_of_ble_eq_true rfl) ?_
  intro p e s m below meth c A ls hf hr hlk hA hK hD0 hE hP hl
  obtain ⟨hx, hb, hml, hown, hts⟩ := id hf
  have hts : ∀ w ∈ TB, w.before _ s = true := fun w h => hts w (List.mem_cons_of_mem _ h)
  have hown : s.vm.findClass R_E = some m.cls := hown
  have hl : lv_has ls 2 [(0, .int x0), (1, .int x1)] := hl
  have hS : va_S A s.heap s.heap [] := va_S.rf
  have hD := hD0
  unfold f_E_limitOf at h
  refine va_gets hx hb hE.2.2.1 hS hown (hts _ w_130) (fun _ h9 => h9) d_E_limitOf_0 ?_
  refine lv_iload_n hx hb d_E_limitOf_3 rfl (lv_at hl 0 rfl) ?_
  refine lv_iconst (v := 3) hx hb d_E_limitOf_4 (by decide) ?_
  refine lv_imul hx hb d_E_limitOf_5 ?_
  refine lv_iload_n hx hb d_E_limitOf_6 rfl (lv_at hl 1 rfl) ?_
  refine lv_iadd hx hb d_E_limitOf_7 ?_
  obtain ⟨u8, hu8, h⟩ := bnd h
  refine gcall_i (va_runS (As := [.ref tL, .int ((x0 * (3 : Int32)) + x1)]) (rest := []) ⟨hx, hb, hml, hown, hts⟩ (c_E_atT l D cI cZ tL ws ((x0 * (3 : Int32)) + x1) u8 hu8 s.heap.size) (va_cwS 2 hts (gS w_131 w_132 w_1 w_133) rfl rfl rfl (by decide +kernel) ⟨Nat.le_of_ble_eq_true rfl, Nat.le_of_ble_eq_true rfl⟩) (gpS hA hK hD hE hP hS) rfl rfl hl.1 rfl (lv_room (Nat.le_of_ble_eq_true rfl)) d_E_limitOf_8 ⟨Nat.le_of_ble_eq_true rfl, Nat.le_of_ble_eq_true rfl⟩) hA hD hS (fun H locs hP hS => ?_)
  cases h
  exact gret_i hx hb hr hlk hP hS d_E_limitOf_11
/-! ===== EscapeOwners.fits(III)Z ===== -/
def f_E_fits (x0 : Int32) (x1 : Int32) (x2 : Int32) : Option (Int32) := Option.bind (f_E_limitOf x0 x1) (fun u2 => if u2 = 0 then (some (1 : Int32)) else (Option.bind (f_E_isBelow x2 u2) (fun u12 => if u12 = 0 then (some (0 : Int32)) else (some (1 : Int32)))))
set_option maxHeartbeats 4000000 in
set_option maxRecDepth 100000 in
theorem c_E_fits (l : Launch) (D : va_G) (cI cZ : ClassId) (tL : Nat) (ws : va_W) (x0 : Int32) (x1 : Int32) (x2 : Int32) (out0 : Int32) (h : f_E_fits x0 x1 x2 = some out0) : gCi l y_E_fits (.code y_E_fits b_E_fits 4 (some .boolean) :: TB) { frames := 2, cells := 0, slots := 0, locals := 42 } D [(cI, .int), (cZ, .boolean)] tL [.int x0, .int x1, .int x2] ws out0 ws := by
  refine gCi_of (cc := b_E_fits) (maxL := 4) (ty := .boolean) (by decide) rfl (Nat.le_of_ble_eq_true rfl) ?_
  intro p e s m below meth c A ls hf hr hlk hA hK hD0 hE hP hl
  obtain ⟨hx, hb, hml, hown, hts⟩ := id hf
  have hts : ∀ w ∈ TB, w.before _ s = true := fun w h => hts w (List.mem_cons_of_mem _ h)
  have hown : s.vm.findClass R_E = some m.cls := hown
  have hl : lv_has ls 4 [(0, .int x0), (1, .int x1), (2, .int x2)] := hl
  have hS : va_S A s.heap s.heap [] := va_S.rf
  have hD := hD0
  unfold f_E_fits at h
  refine lv_iload_n hx hb d_E_fits_0 rfl (lv_at hl 0 rfl) ?_
  refine lv_iload_n hx hb d_E_fits_1 rfl (lv_at hl 1 rfl) ?_
  obtain ⟨u2, hu2, h⟩ := bnd h
  refine gcall_i (va_runS (As := [.int x0, .int x1]) (rest := []) ⟨hx, hb, hml, hown, hts⟩ (c_E_limitOf l D cI cZ tL ws x0 x1 u2 hu2 s.heap.size) (va_cwS 2 hts (gS w_127 w_128 w_1 w_129) rfl rfl rfl (by decide +kernel) ⟨Nat.le_of_ble_eq_true rfl, Nat.le_of_ble_eq_true rfl⟩) (gpS hA hK hD hE hP hS) rfl rfl hl.1 rfl (lv_room (Nat.le_of_ble_eq_true rfl)) d_E_fits_2 ⟨Nat.le_of_ble_eq_true rfl, Nat.le_of_ble_eq_true rfl⟩) hA hD hS (fun H locs hP hS => ?_)
  refine lv_istore_n (lv' := [(3, .int u2), (0, .int x0), (1, .int x1), (2, .int x2)]) hx hb d_E_fits_5 rfl hl (by decide) rfl (fun ls hl => ?_)
  refine lv_iload_n hx hb d_E_fits_6 rfl (lv_at hl 0 rfl) ?_
  refine lv_if_eq (tgt := 18) hx hb d_E_fits_7 (by decide) (fun c => ?_) (fun c => ?_)
  · have h := ifp c h
    refine lv_iconst (v := 1) hx hb d_E_fits_18 (by decide) ?_
    refine lv_goto (tgt := 23) hx hb d_E_fits_19 (by decide) ?_
    cases h
    exact gret_z hx hb hr hlk (gz (Or.inr rfl)) hP hS d_E_fits_23
  have h := ifn c h
  refine lv_iload_n hx hb d_E_fits_10 rfl (lv_at hl 3 rfl) ?_
  refine lv_iload_n hx hb d_E_fits_11 rfl (lv_at hl 0 rfl) ?_
  obtain ⟨u12, hu12, h⟩ := bnd h
  refine gcall_i (va_runS (As := [.int x2, .int u2]) (rest := []) ⟨hx, hb, hml, hown, hts⟩ (c_E_isBelow l D cI cZ tL ws x2 u2 u12 hu12 H.size) (va_cwS 2 hts (gS w_121 w_122 w_1 w_123) rfl rfl rfl (by decide +kernel) ⟨Nat.le_of_ble_eq_true rfl, Nat.le_of_ble_eq_true rfl⟩) (gpS hA hK hD hE hP hS) rfl rfl hl.1 rfl (lv_room (Nat.le_of_ble_eq_true rfl)) d_E_fits_12 ⟨Nat.le_of_ble_eq_true rfl, Nat.le_of_ble_eq_true rfl⟩) hA hD hS (fun H locs hP hS => ?_)
  refine lv_if_eq (tgt := 22) hx hb d_E_fits_15 (by decide) (fun c => ?_) (fun c => ?_)
  · have h := ifp c h
    refine lv_iconst (v := 0) hx hb d_E_fits_22 (by decide) ?_
    cases h
    exact gret_z hx hb hr hlk (gz (Or.inl rfl)) hP hS d_E_fits_23
  have h := ifn c h
  refine lv_iconst (v := 1) hx hb d_E_fits_18 (by decide) ?_
  refine lv_goto (tgt := 23) hx hb d_E_fits_19 (by decide) ?_
  cases h
  exact gret_z hx hb hr hlk (gz (Or.inr rfl)) hP hS d_E_fits_23
/-! ===== EscapeOwners.put([III)V ===== -/
def f_E_put (n : Nat) (f : (Nat → Int32)) (x1 : Int32) (x2 : Int32) : Option ((Nat → Int32)) := if x1 < 0 then (some f) else (if (nI n) ≤ x1 then (some f) else (if ¬ (x1 < 0 ∨ n ≤ x1.toNatClampNeg) then (some (upd f x1.toNatClampNeg x2)) else none))
set_option maxHeartbeats 4000000 in
set_option maxRecDepth 100000 in
theorem c_E_put (l : Launch) (D : va_G) (cI cZ : ClassId) (tL : Nat) (ws : va_W) (k a n : Nat) (hk : k < ws.length) (f : (Nat → Int32)) (x1 : Int32) (x2 : Int32) (out0 : (Nat → Int32)) (h : f_E_put n f x1 x2 = some out0) : gCv l y_E_put (.code y_E_put b_E_put 3 none :: TB) { frames := 0, cells := 0, slots := 0, locals := 0 } D [(cI, .int), (cZ, .boolean)] tL [.ref a, .int x1, .int x2] (wA ws k a cI n f) (wA ws k a cI n out0) := by
  refine gCv_of (cc := b_E_put) (maxL := 3)  (by decide) rfl (Nat.le_of_ble_eq_true rfl) ?_
  intro p e s m below meth c A ls hf hr hlk hA hK hD0 hE hP hl
  obtain ⟨hx, hb, hml, hown, hts⟩ := id hf
  have hts : ∀ w ∈ TB, w.before _ s = true := fun w h => hts w (List.mem_cons_of_mem _ h)
  have hown : s.vm.findClass R_E = some m.cls := hown
  have hl : lv_has ls 3 [(0, .ref a), (1, .int x1), (2, .int x2)] := hl
  have hS : va_S A s.heap s.heap [] := va_S.rf
  have hD : ∀ f' : Nat → Int32, va_D A (wA ws k a cI n f') := fun f' => va_Dsame hD0 (wA_fst _ _)
  unfold f_E_put at h
  refine lv_iload_n hx hb d_E_put_0 rfl (lv_at hl 1 rfl) ?_
  refine lv_if_lt (tgt := 14) hx hb d_E_put_1 (by decide) (fun c => ?_) (fun c => ?_)
  · have h := ifp c h
    cases h
    exact gret_v hx hb hr hlk hP hS d_E_put_14
  have h := ifn c h
  refine lv_iload_n hx hb d_E_put_4 rfl (lv_at hl 1 rfl) ?_
  refine lv_aload_n hx hb d_E_put_5 rfl (lv_at hl 0 rfl) ?_
  refine va_alen hx hb hK hP k 0 (wA_get hk) rfl (v := nI n) rfl d_E_put_6 ?_
  refine lv_icmp_ge (tgt := 14) hx hb d_E_put_7 (by decide) (fun c => ?_) (fun c => ?_)
  · have h := ifp c h
    cases h
    exact gret_v hx hb hr hlk hP hS d_E_put_14
  have h := ifn c h
  refine lv_aload_n hx hb d_E_put_10 rfl (lv_at hl 0 rfl) ?_
  refine lv_iload_n hx hb d_E_put_11 rfl (lv_at hl 1 rfl) ?_
  refine lv_iload_n hx hb d_E_put_12 rfl (lv_at hl 2 rfl) ?_
  obtain ⟨c, h⟩ := ifs h
  refine va_iast hx hb hK hP (hD f) hS k 0 (wA_get hk) rfl c d_E_put_13 (fun H locs hP _ hS => ?_)
  rw [wA_set] at hP
  cases h
  exact gret_v hx hb hr hlk hP hS d_E_put_14
theorem c_E_put_u (l : Launch) (D : va_G) (cI cZ : ClassId) (tL : Nat) (ws : va_W) (k a n : Nat)  (f : (Nat → Int32)) (hw : ws[k]? = some (a, .inl (cI, n, .inl f))) (x1 : Int32) (x2 : Int32) (out0 : (Nat → Int32)) (h : f_E_put n f x1 x2 = some out0) : gCv l y_E_put (.code y_E_put b_E_put 3 none :: TB) { frames := 0, cells := 0, slots := 0, locals := 0 } D [(cI, .int), (cZ, .boolean)] tL [.ref a, .int x1, .int x2] ws (wA ws k a cI n out0) := by
  have z := c_E_put l D cI cZ tL ws k a n (List.getElem?_eq_some_iff.mp hw).1 f x1 x2 out0 h
  rw [wA_self hw] at z
  exact z
/-! ===== EscapeOwners.needed(III)I ===== -/
def f_E_needed (x0 : Int32) (x1 : Int32) (x2 : Int32) : Option (Int32) := Option.bind (f_E_limitOf x0 x1) (fun u2 => if u2 = 0 then (some (-1 : Int32)) else (some x2))
set_option maxHeartbeats 4000000 in
set_option maxRecDepth 100000 in
theorem c_E_needed (l : Launch) (D : va_G) (cI cZ : ClassId) (tL : Nat) (ws : va_W) (x0 : Int32) (x1 : Int32) (x2 : Int32) (out0 : Int32) (h : f_E_needed x0 x1 x2 = some out0) : gCi l y_E_needed (.code y_E_needed b_E_needed 3 (some .int) :: TB) { frames := 2, cells := 0, slots := 0, locals := 42 } D [(cI, .int), (cZ, .boolean)] tL [.int x0, .int x1, .int x2] ws out0 ws := by
  refine gCi_of (cc := b_E_needed) (maxL := 3) (ty := .int) (by decide) rfl (Nat.le_of_ble_eq_true rfl) ?_
  intro p e s m below meth c A ls hf hr hlk hA hK hD0 hE hP hl
  obtain ⟨hx, hb, hml, hown, hts⟩ := id hf
  have hts : ∀ w ∈ TB, w.before _ s = true := fun w h => hts w (List.mem_cons_of_mem _ h)
  have hown : s.vm.findClass R_E = some m.cls := hown
  have hl : lv_has ls 3 [(0, .int x0), (1, .int x1), (2, .int x2)] := hl
  have hS : va_S A s.heap s.heap [] := va_S.rf
  have hD := hD0
  unfold f_E_needed at h
  refine lv_iload_n hx hb d_E_needed_0 rfl (lv_at hl 0 rfl) ?_
  refine lv_iload_n hx hb d_E_needed_1 rfl (lv_at hl 1 rfl) ?_
  obtain ⟨u2, hu2, h⟩ := bnd h
  refine gcall_i (va_runS (As := [.int x0, .int x1]) (rest := []) ⟨hx, hb, hml, hown, hts⟩ (c_E_limitOf l D cI cZ tL ws x0 x1 u2 hu2 s.heap.size) (va_cwS 2 hts (gS w_127 w_128 w_1 w_129) rfl rfl rfl (by decide +kernel) ⟨Nat.le_of_ble_eq_true rfl, Nat.le_of_ble_eq_true rfl⟩) (gpS hA hK hD hE hP hS) rfl rfl hl.1 rfl (lv_room (Nat.le_of_ble_eq_true rfl)) d_E_needed_2 ⟨Nat.le_of_ble_eq_true rfl, Nat.le_of_ble_eq_true rfl⟩) hA hD hS (fun H locs hP hS => ?_)
  refine lv_if_ne (tgt := 12) hx hb d_E_needed_5 (by decide) (fun c => ?_) (fun c => ?_)
  · have h := ifn c h
    refine lv_iload_n hx hb d_E_needed_12 rfl (lv_at hl 2 rfl) ?_
    cases h
    exact gret_i hx hb hr hlk hP hS d_E_needed_13
  have h := ifp c h
  refine lv_iconst (v := -1) hx hb d_E_needed_8 (by decide) ?_
  refine lv_goto (tgt := 13) hx hb d_E_needed_9 (by decide) ?_
  cases h
  exact gret_i hx hb hr hlk hP hS d_E_needed_13
/-! ===== EscapeOwners.isNameOrNone(I)Z ===== -/
def f_E_isNameOrNone (x0 : Int32) : Option (Int32) := if x0 = (-1 : Int32) then (some (1 : Int32)) else (Option.bind (f_E_isBelow x0 (8 : Int32)) (fun u8 => if u8 = 0 then (some (0 : Int32)) else (some (1 : Int32))))
set_option maxHeartbeats 4000000 in
set_option maxRecDepth 100000 in
theorem c_E_isNameOrNone (l : Launch) (D : va_G) (cI cZ : ClassId) (tL : Nat) (ws : va_W) (x0 : Int32) (out0 : Int32) (h : f_E_isNameOrNone x0 = some out0) : gCi l y_E_isNameOrNone (.code y_E_isNameOrNone b_E_isNameOrNone 1 (some .boolean) :: TB) { frames := 1, cells := 0, slots := 0, locals := 21 } D [(cI, .int), (cZ, .boolean)] tL [.int x0] ws out0 ws := by
  refine gCi_of (cc := b_E_isNameOrNone) (maxL := 1) (ty := .boolean) (by decide) rfl (Nat.le_of_ble_eq_true rfl) ?_
  intro p e s m below meth c A ls hf hr hlk hA hK hD0 hE hP hl
  obtain ⟨hx, hb, hml, hown, hts⟩ := id hf
  have hts : ∀ w ∈ TB, w.before _ s = true := fun w h => hts w (List.mem_cons_of_mem _ h)
  have hown : s.vm.findClass R_E = some m.cls := hown
  have hl : lv_has ls 1 [(0, .int x0)] := hl
  have hS : va_S A s.heap s.heap [] := va_S.rf
  have hD := hD0
  unfold f_E_isNameOrNone at h
  refine lv_iload_n hx hb d_E_isNameOrNone_0 rfl (lv_at hl 0 rfl) ?_
  refine lv_iconst (v := -1) hx hb d_E_isNameOrNone_1 (by decide) ?_
  refine lv_icmp_eq (tgt := 14) hx hb d_E_isNameOrNone_2 (by decide) (fun c => ?_) (fun c => ?_)
  · have h := ifp c h
    refine lv_iconst (v := 1) hx hb d_E_isNameOrNone_14 (by decide) ?_
    refine lv_goto (tgt := 19) hx hb d_E_isNameOrNone_15 (by decide) ?_
    cases h
    exact gret_z hx hb hr hlk (gz (Or.inr rfl)) hP hS d_E_isNameOrNone_19
  have h := ifn c h
  refine lv_iload_n hx hb d_E_isNameOrNone_5 rfl (lv_at hl 0 rfl) ?_
  refine lv_bipush (v := 8) hx hb d_E_isNameOrNone_6 (by decide) ?_
  obtain ⟨u8, hu8, h⟩ := bnd h
  refine gcall_i (va_runS (As := [.int x0, .int (8 : Int32)]) (rest := []) ⟨hx, hb, hml, hown, hts⟩ (c_E_isBelow l D cI cZ tL ws x0 (8 : Int32) u8 hu8 s.heap.size) (va_cwS 2 hts (gS w_121 w_122 w_1 w_123) rfl rfl rfl (by decide +kernel) ⟨Nat.le_of_ble_eq_true rfl, Nat.le_of_ble_eq_true rfl⟩) (gpS hA hK hD hE hP hS) rfl rfl hl.1 rfl (lv_room (Nat.le_of_ble_eq_true rfl)) d_E_isNameOrNone_8 ⟨Nat.le_of_ble_eq_true rfl, Nat.le_of_ble_eq_true rfl⟩) hA hD hS (fun H locs hP hS => ?_)
  refine lv_if_eq (tgt := 18) hx hb d_E_isNameOrNone_11 (by decide) (fun c => ?_) (fun c => ?_)
  · have h := ifp c h
    refine lv_iconst (v := 0) hx hb d_E_isNameOrNone_18 (by decide) ?_
    cases h
    exact gret_z hx hb hr hlk (gz (Or.inl rfl)) hP hS d_E_isNameOrNone_19
  have h := ifn c h
  refine lv_iconst (v := 1) hx hb d_E_isNameOrNone_14 (by decide) ?_
  refine lv_goto (tgt := 19) hx hb d_E_isNameOrNone_15 (by decide) ?_
  cases h
  exact gret_z hx hb hr hlk (gz (Or.inr rfl)) hP hS d_E_isNameOrNone_19
/-! ===== EscapeOwners.fill([II)V ===== -/
def f_E_fill_B2 (F : Nat) (n : Nat) (y1 : Int32) (rec : Int32 → (Nat → Int32) → Option (Int32 × (Nat → Int32))) (y2 : Int32) (f : (Nat → Int32)) : Option (Int32 × (Nat → Int32)) := if (nI n) ≤ y2 then (some (y2, f)) else (if ¬ (y2 < 0 ∨ n ≤ y2.toNatClampNeg) then (rec (y2 + (1 : Int32)) (upd f y2.toNatClampNeg y1)) else none)
def f_E_fill_L2 (F : Nat) (n : Nat) (y1 : Int32) : Nat → Int32 → (Nat → Int32) → Option (Int32 × (Nat → Int32))
  | 0, _, _ => none
  | fu + 1, y2, f => f_E_fill_B2 F n y1 (f_E_fill_L2 F n y1 fu) y2 f
def f_E_fill (F : Nat) (n : Nat) (f : (Nat → Int32)) (x1 : Int32) : Option ((Nat → Int32)) := Option.bind (f_E_fill_L2 F n x1 F (0 : Int32) f) (fun u2 => some u2.2)
set_option maxHeartbeats 4000000 in
set_option maxRecDepth 100000 in
theorem c_E_fill (l : Launch) (D : va_G) (cI cZ : ClassId) (tL : Nat) (ws : va_W) (k a n : Nat) (hk : k < ws.length) (F : Nat) (f : (Nat → Int32)) (x1 : Int32) (out0 : (Nat → Int32)) (h : f_E_fill F n f x1 = some out0) : gCv l y_E_fill (.code y_E_fill b_E_fill 3 none :: TB) { frames := 0, cells := 0, slots := 0, locals := 0 } D [(cI, .int), (cZ, .boolean)] tL [.ref a, .int x1] (wA ws k a cI n f) (wA ws k a cI n out0) := by
  refine gCv_of (cc := b_E_fill) (maxL := 3)  (by decide) rfl (Nat.le_of_ble_eq_true rfl) ?_
  intro p e s m below meth c A ls hf hr hlk hA hK hD0 hE hP hl
  obtain ⟨hx, hb, hml, hown, hts⟩ := id hf
  have hts : ∀ w ∈ TB, w.before _ s = true := fun w h => hts w (List.mem_cons_of_mem _ h)
  have hown : s.vm.findClass R_E = some m.cls := hown
  have hl : lv_has ls 3 [(0, .ref a), (1, .int x1)] := hl
  have hS : va_S A s.heap s.heap [] := va_S.rf
  have hD : ∀ f' : Nat → Int32, va_D A (wA ws k a cI n f') := fun f' => va_Dsame hD0 (wA_fst _ _)
  have L2 : ∀ (y1 : Int32) (fu : Nat) (y2 : Int32) (f : (Nat → Int32)) (H : Heap) (locs : List Loc) (ls : Array Slot) (out : Int32 × (Nat → Int32)), f_E_fill_L2 F n y1 fu y2 f = some out → va_P D vwCl (wA ws k a cI n f) H → va_S A s.heap H locs → lv_has ls 3 [(0, .ref a), (1, .int y1), (2, .int y2)] → (∀ (H : Heap) (locs : List Loc) (ls : Array Slot), va_P D vwCl (wA ws k a cI n out.2) H → va_S A s.heap H locs → lv_has ls 3 [(0, .ref a), (1, .int y1), (2, .int out.1)] → W p l e { frames := 0, cells := 0, slots := 0, locals := 0 } s m ([.ref a, .int x1] : List Value).toArray below meth c H locs 0 0 (gQv below D (wA ws k a cI n out0) A (([.ref a, .int x1] : List Value).toArray) s) (F0 m 18 ls [])) → W p l e { frames := 0, cells := 0, slots := 0, locals := 0 } s m ([.ref a, .int x1] : List Value).toArray below meth c H locs 0 0 (gQv below D (wA ws k a cI n out0) A (([.ref a, .int x1] : List Value).toArray) s) (F0 m 2 ls []) := by
    intro y1 fu
    induction fu with
    | zero => intro y2 f H locs ls out h; exact absurd (show (none : Option (Int32 × (Nat → Int32))) = some out from h) (fun z => by cases z)
    | succ fu ih =>
      intro y2 f H locs ls out h hP hS hl K
      have h : f_E_fill_B2 F n y1 (f_E_fill_L2 F n y1 fu) y2 f = some out := h
      unfold f_E_fill_B2 at h
      refine lv_iload_n hx hb d_E_fill_2 rfl (lv_at hl 2 rfl) ?_
      refine lv_aload_n hx hb d_E_fill_3 rfl (lv_at hl 0 rfl) ?_
      refine va_alen hx hb hK hP k 0 (wA_get hk) rfl (v := nI n) rfl d_E_fill_4 ?_
      refine lv_icmp_ge (tgt := 18) hx hb d_E_fill_5 (by decide) (fun c => ?_) (fun c => ?_)
      · have h := ifp c h
        cases h
        exact K _ _ ls hP hS (lv_sub hl [0, 1, 2] rfl)
      have h := ifn c h
      refine lv_aload_n hx hb d_E_fill_8 rfl (lv_at hl 0 rfl) ?_
      refine lv_iload_n hx hb d_E_fill_9 rfl (lv_at hl 2 rfl) ?_
      refine lv_iload_n hx hb d_E_fill_10 rfl (lv_at hl 1 rfl) ?_
      obtain ⟨c, h⟩ := ifs h
      refine va_iast hx hb hK hP (hD f) hS k 0 (wA_get hk) rfl c d_E_fill_11 (fun H locs hP _ hS => ?_)
      rw [wA_set] at hP
      refine lv_iinc (v := (y2 + (1 : Int32))) (lv' := [(2, .int (y2 + (1 : Int32))), (0, .ref a), (1, .int y1)]) hx hb d_E_fill_12 hl (k := 2) rfl rfl (by decide) rfl (fun ls hl => ?_)
      refine lv_goto (tgt := 2) hx hb d_E_fill_15 (by decide) ?_
      exact ih (y2 + (1 : Int32)) (upd f y2.toNatClampNeg y1) _ _ ls out h hP hS (lv_sub hl [1, 2, 0] rfl) K
  unfold f_E_fill at h
  refine lv_iconst (v := 0) hx hb d_E_fill_0 (by decide) ?_
  refine lv_istore_n (lv' := [(2, .int (0 : Int32)), (0, .ref a), (1, .int x1)]) hx hb d_E_fill_1 rfl hl (by decide) rfl (fun ls hl => ?_)
  obtain ⟨u2, hu2, h⟩ := bnd h
  refine L2 x1 F (0 : Int32) f _ _ ls u2 hu2 hP hS (lv_sub hl [1, 2, 0] rfl) (fun H locs ls hP hS hl => ?_)
  cases h
  exact gret_v hx hb hr hlk hP hS d_E_fill_18
theorem c_E_fill_u (l : Launch) (D : va_G) (cI cZ : ClassId) (tL : Nat) (ws : va_W) (k a n : Nat)  (F : Nat) (f : (Nat → Int32)) (hw : ws[k]? = some (a, .inl (cI, n, .inl f))) (x1 : Int32) (out0 : (Nat → Int32)) (h : f_E_fill F n f x1 = some out0) : gCv l y_E_fill (.code y_E_fill b_E_fill 3 none :: TB) { frames := 0, cells := 0, slots := 0, locals := 0 } D [(cI, .int), (cZ, .boolean)] tL [.ref a, .int x1] ws (wA ws k a cI n out0) := by
  have z := c_E_fill l D cI cZ tL ws k a n (List.getElem?_eq_some_iff.mp hw).1 F f x1 out0 h
  rw [wA_self hw] at z
  exact z
/-! ===== EscapeOwners.join([III)Z ===== -/
def f_E_join (n : Nat) (f : (Nat → Int32)) (x1 : Int32) (x2 : Int32) : Option (Int32 × (Nat → Int32)) := if x1 < 0 then (some ((0 : Int32), f)) else (if x1 < (nI n) then (if ¬ (x1 < 0 ∨ n ≤ x1.toNatClampNeg) then (if ¬ (x1 < 0 ∨ n ≤ x1.toNatClampNeg) then (if ¬ (x1 < 0 ∨ n ≤ x1.toNatClampNeg) then (if ((upd f x1.toNatClampNeg ((f x1.toNatClampNeg) ||| x2)) x1.toNatClampNeg) = (f x1.toNatClampNeg) then (some ((0 : Int32), (upd f x1.toNatClampNeg ((f x1.toNatClampNeg) ||| x2)))) else (some ((1 : Int32), (upd f x1.toNatClampNeg ((f x1.toNatClampNeg) ||| x2))))) else none) else none) else none) else (some ((0 : Int32), f)))
set_option maxHeartbeats 4000000 in
set_option maxRecDepth 100000 in
theorem c_E_join (l : Launch) (D : va_G) (cI cZ : ClassId) (tL : Nat) (ws : va_W) (k a n : Nat) (hk : k < ws.length) (f : (Nat → Int32)) (x1 : Int32) (x2 : Int32) (out0 : Int32 × (Nat → Int32)) (h : f_E_join n f x1 x2 = some out0) : gCi l y_E_join (.code y_E_join b_E_join 4 (some .boolean) :: TB) { frames := 0, cells := 0, slots := 0, locals := 0 } D [(cI, .int), (cZ, .boolean)] tL [.ref a, .int x1, .int x2] (wA ws k a cI n f) out0.1 (wA ws k a cI n out0.2) := by
  refine gCi_of (cc := b_E_join) (maxL := 4) (ty := .boolean) (by decide) rfl (Nat.le_of_ble_eq_true rfl) ?_
  intro p e s m below meth c A ls hf hr hlk hA hK hD0 hE hP hl
  obtain ⟨hx, hb, hml, hown, hts⟩ := id hf
  have hts : ∀ w ∈ TB, w.before _ s = true := fun w h => hts w (List.mem_cons_of_mem _ h)
  have hown : s.vm.findClass R_E = some m.cls := hown
  have hl : lv_has ls 4 [(0, .ref a), (1, .int x1), (2, .int x2)] := hl
  have hS : va_S A s.heap s.heap [] := va_S.rf
  have hD : ∀ f' : Nat → Int32, va_D A (wA ws k a cI n f') := fun f' => va_Dsame hD0 (wA_fst _ _)
  unfold f_E_join at h
  refine lv_iload_n hx hb d_E_join_0 rfl (lv_at hl 1 rfl) ?_
  refine lv_if_lt (tgt := 10) hx hb d_E_join_1 (by decide) (fun c => ?_) (fun c => ?_)
  · have h := ifp c h
    refine lv_iconst (v := 0) hx hb d_E_join_10 (by decide) ?_
    cases h
    exact gret_z hx hb hr hlk (gz (Or.inl rfl)) hP hS d_E_join_11
  have h := ifn c h
  refine lv_iload_n hx hb d_E_join_4 rfl (lv_at hl 1 rfl) ?_
  refine lv_aload_n hx hb d_E_join_5 rfl (lv_at hl 0 rfl) ?_
  refine va_alen hx hb hK hP k 0 (wA_get hk) rfl (v := nI n) rfl d_E_join_6 ?_
  refine lv_icmp_lt (tgt := 12) hx hb d_E_join_7 (by decide) (fun c => ?_) (fun c => ?_)
  · have h := ifp c h
    refine lv_aload_n hx hb d_E_join_12 rfl (lv_at hl 0 rfl) ?_
    refine lv_iload_n hx hb d_E_join_13 rfl (lv_at hl 1 rfl) ?_
    obtain ⟨c, h⟩ := ifs h
    refine va_iald hx hb hK hP k 0 (wA_get hk) rfl c d_E_join_14 ?_
    refine lv_istore_n (lv' := [(3, .int (f x1.toNatClampNeg)), (0, .ref a), (1, .int x1), (2, .int x2)]) hx hb d_E_join_15 rfl hl (by decide) rfl (fun ls hl => ?_)
    refine lv_aload_n hx hb d_E_join_16 rfl (lv_at hl 1 rfl) ?_
    refine lv_iload_n hx hb d_E_join_17 rfl (lv_at hl 2 rfl) ?_
    refine lv_iload_n hx hb d_E_join_18 rfl (lv_at hl 0 rfl) ?_
    refine lv_iload_n hx hb d_E_join_19 rfl (lv_at hl 3 rfl) ?_
    refine lv_ior hx hb d_E_join_20 ?_
    obtain ⟨c, h⟩ := ifs h
    refine va_iast hx hb hK hP (hD f) hS k 0 (wA_get hk) rfl c d_E_join_21 (fun H locs hP _ hS => ?_)
    rw [wA_set] at hP
    refine lv_aload_n hx hb d_E_join_22 rfl (lv_at hl 1 rfl) ?_
    refine lv_iload_n hx hb d_E_join_23 rfl (lv_at hl 2 rfl) ?_
    obtain ⟨c, h⟩ := ifs h
    refine va_iald hx hb hK hP k 0 (wA_get hk) rfl c d_E_join_24 ?_
    refine lv_iload_n hx hb d_E_join_25 rfl (lv_at hl 0 rfl) ?_
    refine lv_icmp_eq (tgt := 33) hx hb d_E_join_26 (by decide) (fun c => ?_) (fun c => ?_)
    · have h := ifp c h
      refine lv_iconst (v := 0) hx hb d_E_join_33 (by decide) ?_
      cases h
      exact gret_z hx hb hr hlk (gz (Or.inl rfl)) hP hS d_E_join_34
    have h := ifn c h
    refine lv_iconst (v := 1) hx hb d_E_join_29 (by decide) ?_
    refine lv_goto (tgt := 34) hx hb d_E_join_30 (by decide) ?_
    cases h
    exact gret_z hx hb hr hlk (gz (Or.inr rfl)) hP hS d_E_join_34
  have h := ifn c h
  refine lv_iconst (v := 0) hx hb d_E_join_10 (by decide) ?_
  cases h
  exact gret_z hx hb hr hlk (gz (Or.inl rfl)) hP hS d_E_join_11
theorem c_E_join_u (l : Launch) (D : va_G) (cI cZ : ClassId) (tL : Nat) (ws : va_W) (k a n : Nat)  (f : (Nat → Int32)) (hw : ws[k]? = some (a, .inl (cI, n, .inl f))) (x1 : Int32) (x2 : Int32) (out0 : Int32 × (Nat → Int32)) (h : f_E_join n f x1 x2 = some out0) : gCi l y_E_join (.code y_E_join b_E_join 4 (some .boolean) :: TB) { frames := 0, cells := 0, slots := 0, locals := 0 } D [(cI, .int), (cZ, .boolean)] tL [.ref a, .int x1, .int x2] ws out0.1 (wA ws k a cI n out0.2) := by
  have z := c_E_join l D cI cZ tL ws k a n (List.getElem?_eq_some_iff.mp hw).1 f x1 x2 out0 h
  rw [wA_self hw] at z
  exact z
/-! ===== EscapeOwners.has(II)Z ===== -/
def f_E_has (x0 : Int32) (x1 : Int32) : Option (Int32) := if x1 < 0 then (some (0 : Int32)) else (if (32 : Int32) ≤ x1 then (some (0 : Int32)) else (if ((ushr x0 x1) &&& (1 : Int32)) = 0 then (some (0 : Int32)) else (some (1 : Int32))))
set_option maxHeartbeats 4000000 in
set_option maxRecDepth 100000 in
theorem c_E_has (l : Launch) (D : va_G) (cI cZ : ClassId) (tL : Nat) (ws : va_W) (x0 : Int32) (x1 : Int32) (out0 : Int32) (h : f_E_has x0 x1 = some out0) : gCi l y_E_has (.code y_E_has b_E_has 2 (some .boolean) :: TB) { frames := 0, cells := 0, slots := 0, locals := 0 } D [(cI, .int), (cZ, .boolean)] tL [.int x0, .int x1] ws out0 ws := by
  refine gCi_of (cc := b_E_has) (maxL := 2) (ty := .boolean) (by decide) rfl (Nat.le_of_ble_eq_true rfl) ?_
  intro p e s m below meth c A ls hf hr hlk hA hK hD0 hE hP hl
  obtain ⟨hx, hb, hml, hown, hts⟩ := id hf
  have hts : ∀ w ∈ TB, w.before _ s = true := fun w h => hts w (List.mem_cons_of_mem _ h)
  have hown : s.vm.findClass R_E = some m.cls := hown
  have hl : lv_has ls 2 [(0, .int x0), (1, .int x1)] := hl
  have hS : va_S A s.heap s.heap [] := va_S.rf
  have hD := hD0
  unfold f_E_has at h
  refine lv_iload_n hx hb d_E_has_0 rfl (lv_at hl 1 rfl) ?_
  refine lv_if_lt (tgt := 22) hx hb d_E_has_1 (by decide) (fun c => ?_) (fun c => ?_)
  · have h := ifp c h
    refine lv_iconst (v := 0) hx hb d_E_has_22 (by decide) ?_
    cases h
    exact gret_z hx hb hr hlk (gz (Or.inl rfl)) hP hS d_E_has_23
  have h := ifn c h
  refine lv_iload_n hx hb d_E_has_4 rfl (lv_at hl 1 rfl) ?_
  refine lv_bipush (v := 32) hx hb d_E_has_5 (by decide) ?_
  refine lv_icmp_ge (tgt := 22) hx hb d_E_has_7 (by decide) (fun c => ?_) (fun c => ?_)
  · have h := ifp c h
    refine lv_iconst (v := 0) hx hb d_E_has_22 (by decide) ?_
    cases h
    exact gret_z hx hb hr hlk (gz (Or.inl rfl)) hP hS d_E_has_23
  have h := ifn c h
  refine lv_iload_n hx hb d_E_has_10 rfl (lv_at hl 0 rfl) ?_
  refine lv_iload_n hx hb d_E_has_11 rfl (lv_at hl 1 rfl) ?_
  refine lv_iushr (v := ushr x0 x1) hx hb d_E_has_12 rfl ?_
  refine lv_iconst (v := 1) hx hb d_E_has_13 (by decide) ?_
  refine lv_iand hx hb d_E_has_14 ?_
  refine lv_if_eq (tgt := 22) hx hb d_E_has_15 (by decide) (fun c => ?_) (fun c => ?_)
  · have h := ifp c h
    refine lv_iconst (v := 0) hx hb d_E_has_22 (by decide) ?_
    cases h
    exact gret_z hx hb hr hlk (gz (Or.inl rfl)) hP hS d_E_has_23
  have h := ifn c h
  refine lv_iconst (v := 1) hx hb d_E_has_18 (by decide) ?_
  refine lv_goto (tgt := 23) hx hb d_E_has_19 (by decide) ?_
  cases h
  exact gret_z hx hb hr hlk (gz (Or.inr rfl)) hP hS d_E_has_23
/-! ===== java/lang/Integer.bitCount(I)I ===== -/
def f_J_bitCount (x0 : Int32) : Option (Int32) := some ((((((((x0 - ((ushr x0 (1 : Int32)) &&& (1431655765 : Int32))) &&& (858993459 : Int32)) + ((ushr (x0 - ((ushr x0 (1 : Int32)) &&& (1431655765 : Int32))) (2 : Int32)) &&& (858993459 : Int32))) + (ushr (((x0 - ((ushr x0 (1 : Int32)) &&& (1431655765 : Int32))) &&& (858993459 : Int32)) + ((ushr (x0 - ((ushr x0 (1 : Int32)) &&& (1431655765 : Int32))) (2 : Int32)) &&& (858993459 : Int32))) (4 : Int32))) &&& (252645135 : Int32)) + (ushr (((((x0 - ((ushr x0 (1 : Int32)) &&& (1431655765 : Int32))) &&& (858993459 : Int32)) + ((ushr (x0 - ((ushr x0 (1 : Int32)) &&& (1431655765 : Int32))) (2 : Int32)) &&& (858993459 : Int32))) + (ushr (((x0 - ((ushr x0 (1 : Int32)) &&& (1431655765 : Int32))) &&& (858993459 : Int32)) + ((ushr (x0 - ((ushr x0 (1 : Int32)) &&& (1431655765 : Int32))) (2 : Int32)) &&& (858993459 : Int32))) (4 : Int32))) &&& (252645135 : Int32)) (8 : Int32))) + (ushr ((((((x0 - ((ushr x0 (1 : Int32)) &&& (1431655765 : Int32))) &&& (858993459 : Int32)) + ((ushr (x0 - ((ushr x0 (1 : Int32)) &&& (1431655765 : Int32))) (2 : Int32)) &&& (858993459 : Int32))) + (ushr (((x0 - ((ushr x0 (1 : Int32)) &&& (1431655765 : Int32))) &&& (858993459 : Int32)) + ((ushr (x0 - ((ushr x0 (1 : Int32)) &&& (1431655765 : Int32))) (2 : Int32)) &&& (858993459 : Int32))) (4 : Int32))) &&& (252645135 : Int32)) + (ushr (((((x0 - ((ushr x0 (1 : Int32)) &&& (1431655765 : Int32))) &&& (858993459 : Int32)) + ((ushr (x0 - ((ushr x0 (1 : Int32)) &&& (1431655765 : Int32))) (2 : Int32)) &&& (858993459 : Int32))) + (ushr (((x0 - ((ushr x0 (1 : Int32)) &&& (1431655765 : Int32))) &&& (858993459 : Int32)) + ((ushr (x0 - ((ushr x0 (1 : Int32)) &&& (1431655765 : Int32))) (2 : Int32)) &&& (858993459 : Int32))) (4 : Int32))) &&& (252645135 : Int32)) (8 : Int32))) (16 : Int32))) &&& (63 : Int32))
set_option maxHeartbeats 4000000 in
set_option maxRecDepth 100000 in
theorem c_J_bitCount (l : Launch) (D : va_G) (cI cZ : ClassId) (tL : Nat) (ws : va_W) (x0 : Int32) (out0 : Int32) (h : f_J_bitCount x0 = some out0) : gCi l y_J_bitCount (.code y_J_bitCount b_J_bitCount 1 (some .int) :: TB) { frames := 0, cells := 0, slots := 0, locals := 0 } D [(cI, .int), (cZ, .boolean)] tL [.int x0] ws out0 ws := by
  refine gCi_of (cc := b_J_bitCount) (maxL := 1) (ty := .int) (by decide) rfl (Nat.le_of_ble_eq_true rfl) ?_
  intro p e s m below meth c A ls hf hr hlk hA hK hD0 hE hP hl
  obtain ⟨hx, hb, hml, hown, hts⟩ := id hf
  have hts : ∀ w ∈ TB, w.before _ s = true := fun w h => hts w (List.mem_cons_of_mem _ h)
  have hown : s.vm.findClass R_J = some m.cls := hown
  have hl : lv_has ls 1 [(0, .int x0)] := hl
  have hS : va_S A s.heap s.heap [] := va_S.rf
  have hD := hD0
  unfold f_J_bitCount at h
  refine lv_iload_n hx hb d_J_bitCount_0 rfl (lv_at hl 0 rfl) ?_
  refine lv_iload_n hx hb d_J_bitCount_1 rfl (lv_at hl 0 rfl) ?_
  refine lv_iconst (v := 1) hx hb d_J_bitCount_2 (by decide) ?_
  refine lv_iushr (v := ushr x0 (1 : Int32)) hx hb d_J_bitCount_3 rfl ?_
  refine lv_ldcw (v := 1431655765) hx hb hown (hts _ w_420) d_J_bitCount_4 ?_
  refine lv_iand hx hb d_J_bitCount_7 ?_
  refine lv_isub hx hb d_J_bitCount_8 ?_
  refine lv_istore_n (lv' := [(0, .int (x0 - ((ushr x0 (1 : Int32)) &&& (1431655765 : Int32))))]) hx hb d_J_bitCount_9 rfl hl (by decide) rfl (fun ls hl => ?_)
  refine lv_iload_n hx hb d_J_bitCount_10 rfl (lv_at hl 0 rfl) ?_
  refine lv_ldcw (v := 858993459) hx hb hown (hts _ w_421) d_J_bitCount_11 ?_
  refine lv_iand hx hb d_J_bitCount_14 ?_
  refine lv_iload_n hx hb d_J_bitCount_15 rfl (lv_at hl 0 rfl) ?_
  refine lv_iconst (v := 2) hx hb d_J_bitCount_16 (by decide) ?_
  refine lv_iushr (v := ushr (x0 - ((ushr x0 (1 : Int32)) &&& (1431655765 : Int32))) (2 : Int32)) hx hb d_J_bitCount_17 rfl ?_
  refine lv_ldcw (v := 858993459) hx hb hown (hts _ w_421) d_J_bitCount_18 ?_
  refine lv_iand hx hb d_J_bitCount_21 ?_
  refine lv_iadd hx hb d_J_bitCount_22 ?_
  refine lv_istore_n (lv' := [(0, .int (((x0 - ((ushr x0 (1 : Int32)) &&& (1431655765 : Int32))) &&& (858993459 : Int32)) + ((ushr (x0 - ((ushr x0 (1 : Int32)) &&& (1431655765 : Int32))) (2 : Int32)) &&& (858993459 : Int32))))]) hx hb d_J_bitCount_23 rfl hl (by decide) rfl (fun ls hl => ?_)
  refine lv_iload_n hx hb d_J_bitCount_24 rfl (lv_at hl 0 rfl) ?_
  refine lv_iload_n hx hb d_J_bitCount_25 rfl (lv_at hl 0 rfl) ?_
  refine lv_iconst (v := 4) hx hb d_J_bitCount_26 (by decide) ?_
  refine lv_iushr (v := ushr (((x0 - ((ushr x0 (1 : Int32)) &&& (1431655765 : Int32))) &&& (858993459 : Int32)) + ((ushr (x0 - ((ushr x0 (1 : Int32)) &&& (1431655765 : Int32))) (2 : Int32)) &&& (858993459 : Int32))) (4 : Int32)) hx hb d_J_bitCount_27 rfl ?_
  refine lv_iadd hx hb d_J_bitCount_28 ?_
  refine lv_ldcw (v := 252645135) hx hb hown (hts _ w_422) d_J_bitCount_29 ?_
  refine lv_iand hx hb d_J_bitCount_32 ?_
  refine lv_istore_n (lv' := [(0, .int (((((x0 - ((ushr x0 (1 : Int32)) &&& (1431655765 : Int32))) &&& (858993459 : Int32)) + ((ushr (x0 - ((ushr x0 (1 : Int32)) &&& (1431655765 : Int32))) (2 : Int32)) &&& (858993459 : Int32))) + (ushr (((x0 - ((ushr x0 (1 : Int32)) &&& (1431655765 : Int32))) &&& (858993459 : Int32)) + ((ushr (x0 - ((ushr x0 (1 : Int32)) &&& (1431655765 : Int32))) (2 : Int32)) &&& (858993459 : Int32))) (4 : Int32))) &&& (252645135 : Int32)))]) hx hb d_J_bitCount_33 rfl hl (by decide) rfl (fun ls hl => ?_)
  refine lv_iload_n hx hb d_J_bitCount_34 rfl (lv_at hl 0 rfl) ?_
  refine lv_iload_n hx hb d_J_bitCount_35 rfl (lv_at hl 0 rfl) ?_
  refine lv_bipush (v := 8) hx hb d_J_bitCount_36 (by decide) ?_
  refine lv_iushr (v := ushr (((((x0 - ((ushr x0 (1 : Int32)) &&& (1431655765 : Int32))) &&& (858993459 : Int32)) + ((ushr (x0 - ((ushr x0 (1 : Int32)) &&& (1431655765 : Int32))) (2 : Int32)) &&& (858993459 : Int32))) + (ushr (((x0 - ((ushr x0 (1 : Int32)) &&& (1431655765 : Int32))) &&& (858993459 : Int32)) + ((ushr (x0 - ((ushr x0 (1 : Int32)) &&& (1431655765 : Int32))) (2 : Int32)) &&& (858993459 : Int32))) (4 : Int32))) &&& (252645135 : Int32)) (8 : Int32)) hx hb d_J_bitCount_38 rfl ?_
  refine lv_iadd hx hb d_J_bitCount_39 ?_
  refine lv_istore_n (lv' := [(0, .int ((((((x0 - ((ushr x0 (1 : Int32)) &&& (1431655765 : Int32))) &&& (858993459 : Int32)) + ((ushr (x0 - ((ushr x0 (1 : Int32)) &&& (1431655765 : Int32))) (2 : Int32)) &&& (858993459 : Int32))) + (ushr (((x0 - ((ushr x0 (1 : Int32)) &&& (1431655765 : Int32))) &&& (858993459 : Int32)) + ((ushr (x0 - ((ushr x0 (1 : Int32)) &&& (1431655765 : Int32))) (2 : Int32)) &&& (858993459 : Int32))) (4 : Int32))) &&& (252645135 : Int32)) + (ushr (((((x0 - ((ushr x0 (1 : Int32)) &&& (1431655765 : Int32))) &&& (858993459 : Int32)) + ((ushr (x0 - ((ushr x0 (1 : Int32)) &&& (1431655765 : Int32))) (2 : Int32)) &&& (858993459 : Int32))) + (ushr (((x0 - ((ushr x0 (1 : Int32)) &&& (1431655765 : Int32))) &&& (858993459 : Int32)) + ((ushr (x0 - ((ushr x0 (1 : Int32)) &&& (1431655765 : Int32))) (2 : Int32)) &&& (858993459 : Int32))) (4 : Int32))) &&& (252645135 : Int32)) (8 : Int32))))]) hx hb d_J_bitCount_40 rfl hl (by decide) rfl (fun ls hl => ?_)
  refine lv_iload_n hx hb d_J_bitCount_41 rfl (lv_at hl 0 rfl) ?_
  refine lv_iload_n hx hb d_J_bitCount_42 rfl (lv_at hl 0 rfl) ?_
  refine lv_bipush (v := 16) hx hb d_J_bitCount_43 (by decide) ?_
  refine lv_iushr (v := ushr ((((((x0 - ((ushr x0 (1 : Int32)) &&& (1431655765 : Int32))) &&& (858993459 : Int32)) + ((ushr (x0 - ((ushr x0 (1 : Int32)) &&& (1431655765 : Int32))) (2 : Int32)) &&& (858993459 : Int32))) + (ushr (((x0 - ((ushr x0 (1 : Int32)) &&& (1431655765 : Int32))) &&& (858993459 : Int32)) + ((ushr (x0 - ((ushr x0 (1 : Int32)) &&& (1431655765 : Int32))) (2 : Int32)) &&& (858993459 : Int32))) (4 : Int32))) &&& (252645135 : Int32)) + (ushr (((((x0 - ((ushr x0 (1 : Int32)) &&& (1431655765 : Int32))) &&& (858993459 : Int32)) + ((ushr (x0 - ((ushr x0 (1 : Int32)) &&& (1431655765 : Int32))) (2 : Int32)) &&& (858993459 : Int32))) + (ushr (((x0 - ((ushr x0 (1 : Int32)) &&& (1431655765 : Int32))) &&& (858993459 : Int32)) + ((ushr (x0 - ((ushr x0 (1 : Int32)) &&& (1431655765 : Int32))) (2 : Int32)) &&& (858993459 : Int32))) (4 : Int32))) &&& (252645135 : Int32)) (8 : Int32))) (16 : Int32)) hx hb d_J_bitCount_45 rfl ?_
  refine lv_iadd hx hb d_J_bitCount_46 ?_
  refine lv_istore_n (lv' := [(0, .int (((((((x0 - ((ushr x0 (1 : Int32)) &&& (1431655765 : Int32))) &&& (858993459 : Int32)) + ((ushr (x0 - ((ushr x0 (1 : Int32)) &&& (1431655765 : Int32))) (2 : Int32)) &&& (858993459 : Int32))) + (ushr (((x0 - ((ushr x0 (1 : Int32)) &&& (1431655765 : Int32))) &&& (858993459 : Int32)) + ((ushr (x0 - ((ushr x0 (1 : Int32)) &&& (1431655765 : Int32))) (2 : Int32)) &&& (858993459 : Int32))) (4 : Int32))) &&& (252645135 : Int32)) + (ushr (((((x0 - ((ushr x0 (1 : Int32)) &&& (1431655765 : Int32))) &&& (858993459 : Int32)) + ((ushr (x0 - ((ushr x0 (1 : Int32)) &&& (1431655765 : Int32))) (2 : Int32)) &&& (858993459 : Int32))) + (ushr (((x0 - ((ushr x0 (1 : Int32)) &&& (1431655765 : Int32))) &&& (858993459 : Int32)) + ((ushr (x0 - ((ushr x0 (1 : Int32)) &&& (1431655765 : Int32))) (2 : Int32)) &&& (858993459 : Int32))) (4 : Int32))) &&& (252645135 : Int32)) (8 : Int32))) + (ushr ((((((x0 - ((ushr x0 (1 : Int32)) &&& (1431655765 : Int32))) &&& (858993459 : Int32)) + ((ushr (x0 - ((ushr x0 (1 : Int32)) &&& (1431655765 : Int32))) (2 : Int32)) &&& (858993459 : Int32))) + (ushr (((x0 - ((ushr x0 (1 : Int32)) &&& (1431655765 : Int32))) &&& (858993459 : Int32)) + ((ushr (x0 - ((ushr x0 (1 : Int32)) &&& (1431655765 : Int32))) (2 : Int32)) &&& (858993459 : Int32))) (4 : Int32))) &&& (252645135 : Int32)) + (ushr (((((x0 - ((ushr x0 (1 : Int32)) &&& (1431655765 : Int32))) &&& (858993459 : Int32)) + ((ushr (x0 - ((ushr x0 (1 : Int32)) &&& (1431655765 : Int32))) (2 : Int32)) &&& (858993459 : Int32))) + (ushr (((x0 - ((ushr x0 (1 : Int32)) &&& (1431655765 : Int32))) &&& (858993459 : Int32)) + ((ushr (x0 - ((ushr x0 (1 : Int32)) &&& (1431655765 : Int32))) (2 : Int32)) &&& (858993459 : Int32))) (4 : Int32))) &&& (252645135 : Int32)) (8 : Int32))) (16 : Int32))))]) hx hb d_J_bitCount_47 rfl hl (by decide) rfl (fun ls hl => ?_)
  refine lv_iload_n hx hb d_J_bitCount_48 rfl (lv_at hl 0 rfl) ?_
  refine lv_bipush (v := 63) hx hb d_J_bitCount_49 (by decide) ?_
  refine lv_iand hx hb d_J_bitCount_51 ?_
  cases h
  exact gret_i hx hb hr hlk hP hS d_J_bitCount_52
