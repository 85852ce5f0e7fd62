/-! ===== EscapeOwners$Escapes.outSites()I ===== -/
def f_X_outSites_B10 (F : Nat) (σ : St) (rec : Int32 → Int32 → Option (Int32 × Int32)) (y1 : Int32) (y2 : Int32) : Option (Int32 × Int32) := if (8 : Int32) ≤ y2 then (some (y1, y2)) else (Option.bind (f_S_ofParameters F σ y2) (fun u21 => Option.bind (f_E_at 8 (σ 14) y2) (fun u32 => Option.bind (f_S_reachedFrom F σ (u21 ||| u32)) (fun u43 => Option.bind (f_P_madeBy F σ ((1 : Int32) <<< (y2 &&& 31))) (fun u53 => rec (y1 ||| (u43 &&& u53)) (y2 + (1 : Int32)))))))
def f_X_outSites_L10 (F : Nat) (σ : St) : Nat → Int32 → Int32 → Option (Int32 × Int32)
  | 0, _, _ => none
  | fu + 1, y1, y2 => f_X_outSites_B10 F σ (f_X_outSites_L10 F σ fu) y1 y2
def f_X_outSites (F : Nat) (σ : St) : Option (Int32) := Option.bind (f_X_outSites_L10 F σ F (σ 2 8) (0 : Int32)) (fun u10 => some u10.1)
set_option maxHeartbeats 4000000 in
set_option maxRecDepth 100000 in
theorem c_X_outSites (l : Launch) (D : va_G) (cI cZ : ClassId) (tL : Nat) (q : Nat → Nat) (tl : va_W) (F : Nat) (σ : St) (out0 : Int32) (h : f_X_outSites F σ = some out0) : gCi l y_X_outSites (.code y_X_outSites b_X_outSites 4 (some .int) :: TB) { frames := 5, cells := 0, slots := 0, locals := 114 } D [(cI, .int), (cZ, .boolean)] tL [.ref (q 3)] (wE cI cZ q σ ++ tl) out0 (wE cI cZ q σ ++ tl) := by
  refine gCi_of (cc := b_X_outSites) (maxL := 4) (ty := .int) (by decide) rfl (Nat.le_of_ble_eq_true rfl) ?_
  intro p e s m below meth c A ls hf hr hlk hA hK hD0 hE hP hl
  obtain ⟨hx, hb, hml, hown, hts⟩ := id hf
  have hts : ∀ w ∈ TB, w.before _ s = true := fun w h => hts w (List.mem_cons_of_mem _ h)
  have hown : s.vm.findClass R_X = some m.cls := hown
  have hl : lv_has ls 4 [(0, .ref (q 3))] := hl
  have hS : va_S A s.heap s.heap [] := va_S.rf
  have hD : ∀ σ' : St, va_D A (wE cI cZ q σ' ++ tl) := fun σ' => va_Dsame hD0 rfl
  have L10 : ∀ (σ : St) (fu : Nat) (y1 : Int32) (y2 : Int32) (H : Heap) (locs : List Loc) (ls : Array Slot) (out : Int32 × Int32), f_X_outSites_L10 F σ fu y1 y2 = some out → va_P D vwCl (wE cI cZ q σ ++ tl) H → va_S A s.heap H locs → lv_has ls 4 [(0, .ref (q 3)), (1, .int y1), (2, .int y2)] → (∀ (H : Heap) (locs : List Loc) (ls : Array Slot), va_P D vwCl (wE cI cZ q σ ++ tl) H → va_S A s.heap H locs → lv_has ls 4 [(0, .ref (q 3)), (1, .int out.1), (2, .int out.2)] → W p l e { frames := 5, cells := 0, slots := 0, locals := 114 } s m ([.ref (q 3)] : List Value).toArray below meth c H locs 0 0 (gQi below D out0 (wE cI cZ q σ ++ tl) A (([.ref (q 3)] : List Value).toArray) s) (F0 m 65 ls [])) → W p l e { frames := 5, cells := 0, slots := 0, locals := 114 } s m ([.ref (q 3)] : List Value).toArray below meth c H locs 0 0 (gQi below D out0 (wE cI cZ q σ ++ tl) A (([.ref (q 3)] : List Value).toArray) s) (F0 m 10 ls []) := by
    intro σ fu
    induction fu with
    | zero => intro y1 y2 H locs ls out h; exact absurd (show (none : Option (Int32 × Int32)) = some out from h) (fun z => by cases z)
    | succ fu ih =>
      intro y1 y2 H locs ls out h hP hS hl K
      have h : f_X_outSites_B10 F σ (f_X_outSites_L10 F σ fu) y1 y2 = some out := h
      unfold f_X_outSites_B10 at h
      refine lv_iload_n hx hb d_X_outSites_10 rfl (lv_at hl 2 rfl) ?_
      refine lv_bipush (v := 8) hx hb d_X_outSites_11 (by decide) ?_
      refine lv_icmp_ge (tgt := 65) hx hb d_X_outSites_13 (by decide) (fun c => ?_) (fun c => ?_)
      · have h := ifp c h
        cases h
        exact K _ _ ls hP hS (lv_sub hl [0, 1, 2] rfl)
      have h := ifn c h
      refine lv_aload_n hx hb d_X_outSites_16 rfl (lv_at hl 0 rfl) ?_
      refine va_get (D := D) (ci := 3) (v := .ref (q 2)) (C := R_X) (T := T_X) (N := 2) hx hb hts l_X hown hK hP 3 rfl rfl 1 (by decide) (hts _ w_72) (fun _ h9 => h9) rfl d_X_outSites_17 ?_
      refine lv_iload_n hx hb d_X_outSites_20 rfl (lv_at hl 2 rfl) ?_
      obtain ⟨u21, hu21, h⟩ := bnd h
      refine gcall_i (va_runV (As := [.int y2]) (rest := []) ⟨hx, hb, hml, hown, hts⟩ (c_S_ofParameters l D cI cZ tL q tl F σ y2 u21 hu21 H.size) (cwV 1 hts (gV w_275 w_276 w_277 w_3 w_278) rfl rfl rfl (by decide +kernel) ⟨Nat.le_of_ble_eq_true rfl, Nat.le_of_ble_eq_true rfl⟩) (gpV (k := 2) (ci := 2) hA hK (hD σ) hE hP hS rfl rfl) rfl rfl hl.1 rfl (lv_room (Nat.le_of_ble_eq_true rfl)) d_X_outSites_21 ⟨Nat.le_of_ble_eq_true rfl, Nat.le_of_ble_eq_true rfl⟩) hA (hD σ) hS (fun H locs hP hS => ?_)
      refine lv_aload_n hx hb d_X_outSites_24 rfl (lv_at hl 0 rfl) ?_
      refine va_get (D := D) (ci := 3) (v := .ref (q 2)) (C := R_X) (T := T_X) (N := 2) hx hb hts l_X hown hK hP 3 rfl rfl 1 (by decide) (hts _ w_72) (fun _ h9 => h9) rfl d_X_outSites_25 ?_
      refine va_getN (D := D) (ci := 2) (v := .ref (q 14)) (C := R_S) (T := T_S) (N := 11) hx hb hts l_S hown hK hP 2 rfl rfl 5 (by decide) (va_Nw.use rfl (nf_9 hE)) (fun _ h9 => h9) rfl d_X_outSites_28 ?_
      refine lv_iload_n hx hb d_X_outSites_31 rfl (lv_at hl 2 rfl) ?_
      obtain ⟨u32, hu32, h⟩ := bnd h
      refine gcall_i (va_runSN (As := [.ref (q 14), .int y2]) (rest := [.int u21]) ⟨hx, hb, hml, hown, hts⟩ (c_E_at_u l D cI cZ tL (wE cI cZ q σ ++ tl) 14 (q 14) 8 (σ 14) rfl y2 u32 hu32 H.size) ⟨va_cnB 2 hts (TB_code w_133) rfl rfl rfl (nm_8 hE) (hts _ w_1) (by decide +kernel) ⟨Nat.le_of_ble_eq_true rfl, Nat.le_of_ble_eq_true rfl⟩, hts _ w_132, trivial⟩ (gpS hA hK (hD σ) hE hP hS) rfl rfl hl.1 rfl (lv_room (Nat.le_of_ble_eq_true rfl)) d_X_outSites_32 ⟨Nat.le_of_ble_eq_true rfl, Nat.le_of_ble_eq_true rfl⟩) hA (hD σ) hS (fun H locs hP hS => ?_)
      refine lv_ior hx hb d_X_outSites_35 ?_
      refine lv_istore_n (lv' := [(3, .int (u21 ||| u32)), (0, .ref (q 3)), (1, .int y1), (2, .int y2)]) hx hb d_X_outSites_36 rfl hl (by decide) rfl (fun ls hl => ?_)
      refine lv_iload_n hx hb d_X_outSites_37 rfl (lv_at hl 2 rfl) ?_
      refine lv_aload_n hx hb d_X_outSites_38 rfl (lv_at hl 1 rfl) ?_
      refine va_get (D := D) (ci := 3) (v := .ref (q 2)) (C := R_X) (T := T_X) (N := 2) hx hb hts l_X hown hK hP 3 rfl rfl 1 (by decide) (hts _ w_72) (fun _ h9 => h9) rfl d_X_outSites_39 ?_
      refine lv_iload_n hx hb d_X_outSites_42 rfl (lv_at hl 0 rfl) ?_
      obtain ⟨u43, hu43, h⟩ := bnd h
      refine gcall_i (va_runV (As := [.int (u21 ||| u32)]) (rest := [.int y1]) ⟨hx, hb, hml, hown, hts⟩ (c_S_reachedFrom l D cI cZ tL q tl F σ (u21 ||| u32) u43 hu43 H.size) (cwV 1 hts (gV w_279 w_280 w_281 w_3 w_282) rfl rfl rfl (by decide +kernel) ⟨Nat.le_of_ble_eq_true rfl, Nat.le_of_ble_eq_true rfl⟩) (gpV (k := 2) (ci := 2) hA hK (hD σ) hE hP hS rfl rfl) rfl rfl hl.1 rfl (lv_room (Nat.le_of_ble_eq_true rfl)) d_X_outSites_43 ⟨Nat.le_of_ble_eq_true rfl, Nat.le_of_ble_eq_true rfl⟩) hA (hD σ) hS (fun H locs hP hS => ?_)
      refine lv_aload_n hx hb d_X_outSites_46 rfl (lv_at hl 1 rfl) ?_
      refine va_get (D := D) (ci := 3) (v := .ref (q 1)) (C := R_X) (T := T_X) (N := 2) hx hb hts l_X hown hK hP 3 rfl rfl 0 (by decide) (hts _ w_71) (fun _ h9 => h9) rfl d_X_outSites_47 ?_
      refine lv_iconst (v := 1) hx hb d_X_outSites_50 (by decide) ?_
      refine lv_iload_n hx hb d_X_outSites_51 rfl (lv_at hl 3 rfl) ?_
      refine lv_ishl hx hb d_X_outSites_52 ?_
      obtain ⟨u53, hu53, h⟩ := bnd h
      refine gcall_i (va_runV (As := [.int ((1 : Int32) <<< (y2 &&& 31))]) (rest := [.int u43, .int y1]) ⟨hx, hb, hml, hown, hts⟩ (c_P_madeBy l D cI cZ tL q tl F σ ((1 : Int32) <<< (y2 &&& 31)) u53 hu53 H.size) (cwV 1 hts (gV w_283 w_260 w_261 w_2 w_262) rfl rfl rfl (by decide +kernel) ⟨Nat.le_of_ble_eq_true rfl, Nat.le_of_ble_eq_true rfl⟩) (gpV (k := 1) (ci := 1) hA hK (hD σ) hE hP hS rfl rfl) rfl rfl hl.1 rfl (lv_room (Nat.le_of_ble_eq_true rfl)) d_X_outSites_53 ⟨Nat.le_of_ble_eq_true rfl, Nat.le_of_ble_eq_true rfl⟩) hA (hD σ) hS (fun H locs hP hS => ?_)
      refine lv_iand hx hb d_X_outSites_56 ?_
      refine lv_ior hx hb d_X_outSites_57 ?_
      refine lv_istore_n (lv' := [(1, .int (y1 ||| (u43 &&& u53))), (3, .int (u21 ||| u32)), (0, .ref (q 3)), (2, .int y2)]) hx hb d_X_outSites_58 rfl hl (by decide) rfl (fun ls hl => ?_)
      refine lv_iinc (v := (y2 + (1 : Int32))) (lv' := [(2, .int (y2 + (1 : Int32))), (1, .int (y1 ||| (u43 &&& u53))), (3, .int (u21 ||| u32)), (0, .ref (q 3))]) hx hb d_X_outSites_59 hl (k := 3) rfl rfl (by decide) rfl (fun ls hl => ?_)
      refine lv_goto (tgt := 10) hx hb d_X_outSites_62 (by decide) ?_
      exact ih (y1 ||| (u43 &&& u53)) (y2 + (1 : Int32)) _ _ ls out h hP hS (lv_sub hl [3, 1, 0] rfl) K
  unfold f_X_outSites at h
  refine lv_aload_n hx hb d_X_outSites_0 rfl (lv_at hl 0 rfl) ?_
  refine va_get (D := D) (ci := 3) (v := .ref (q 2)) (C := R_X) (T := T_X) (N := 2) hx hb hts l_X hown hK hP 3 rfl rfl 1 (by decide) (hts _ w_72) (fun _ h9 => h9) rfl d_X_outSites_1 ?_
  refine va_getN (D := D) (ci := 2) (v := .int (σ 2 8)) (C := R_S) (T := T_S) (N := 11) hx hb hts l_S hown hK hP 2 rfl rfl 8 (by decide) (va_Nw.use rfl (nf_14 hE)) (fun _ h9 => h9) rfl d_X_outSites_4 ?_
  refine lv_istore_n (lv' := [(1, .int (σ 2 8)), (0, .ref (q 3))]) hx hb d_X_outSites_7 rfl hl (by decide) rfl (fun ls hl => ?_)
  refine lv_iconst (v := 0) hx hb d_X_outSites_8 (by decide) ?_
  refine lv_istore_n (lv' := [(2, .int (0 : Int32)), (1, .int (σ 2 8)), (0, .ref (q 3))]) hx hb d_X_outSites_9 rfl hl (by decide) rfl (fun ls hl => ?_)
  obtain ⟨u10, hu10, h⟩ := bnd h
  refine L10 σ F (σ 2 8) (0 : Int32) _ _ ls u10 hu10 hP hS (lv_sub hl [2, 1, 0] rfl) (fun H locs ls hP hS hl => ?_)
  refine lv_iload_n hx hb d_X_outSites_65 rfl (lv_at hl 1 rfl) ?_
  cases h
  exact gret_i hx hb hr hlk hP hS d_X_outSites_66
/-! ===== EscapeOwners$Escapes.countHolders(I)I ===== -/
def f_X_countHolders_B13 (F : Nat) (σ : St) (y1 : Int32) (y3 : Int32) (rec : Int32 → Int32 → Option (Int32 × Int32)) (y2 : Int32) (y4 : Int32) : Option (Int32 × Int32) := if (4 : Int32) ≤ y4 then (some (y2, y4)) else (Option.bind (f_S_ofField σ y3 y4) (fun u26 => Option.bind (f_E_has u26 y1) (fun u30 => if u30 = 0 then (rec y2 (y4 + (1 : Int32))) else (rec (y2 + (1 : Int32)) (y4 + (1 : Int32))))))
def f_X_countHolders_L13 (F : Nat) (σ : St) (y1 : Int32) (y3 : Int32) : Nat → Int32 → Int32 → Option (Int32 × Int32)
  | 0, _, _ => none
  | fu + 1, y2, y4 => f_X_countHolders_B13 F σ y1 y3 (f_X_countHolders_L13 F σ y1 y3 fu) y2 y4
def f_X_countHolders_B4 (F : Nat) (σ : St) (y1 : Int32) (rec : Int32 → Int32 → Option (Int32 × Int32)) (y2 : Int32) (y3 : Int32) : Option (Int32 × Int32) := if (16 : Int32) ≤ y3 then (some (y2, y3)) else (Option.bind (f_X_countHolders_L13 F σ y1 y3 F y2 (0 : Int32)) (fun u13 => rec u13.1 (y3 + (1 : Int32))))
def f_X_countHolders_L4 (F : Nat) (σ : St) (y1 : Int32) : Nat → Int32 → Int32 → Option (Int32 × Int32)
  | 0, _, _ => none
  | fu + 1, y2, y3 => f_X_countHolders_B4 F σ y1 (f_X_countHolders_L4 F σ y1 fu) y2 y3
def f_X_countHolders (F : Nat) (σ : St) (x1 : Int32) : Option (Int32) := Option.bind (f_X_countHolders_L4 F σ x1 F (0 : Int32) (0 : Int32)) (fun u4 => some u4.1)
set_option maxHeartbeats 4000000 in
set_option maxRecDepth 100000 in
theorem c_X_countHolders (l : Launch) (D : va_G) (cI cZ : ClassId) (tL : Nat) (q : Nat → Nat) (tl : va_W) (F : Nat) (σ : St) (x1 : Int32) (out0 : Int32) (h : f_X_countHolders F σ x1 = some out0) : gCi l y_X_countHolders (.code y_X_countHolders b_X_countHolders 5 (some .int) :: TB) { frames := 2, cells := 0, slots := 0, locals := 43 } D [(cI, .int), (cZ, .boolean)] tL [.ref (q 3), .int x1] (wE cI cZ q σ ++ tl) out0 (wE cI cZ q σ ++ tl) := by
  refine gCi_of (cc := b_X_countHolders) (maxL := 5) (ty := .int) (by decide) rfl (Nat.le_of_ble_eq_true rfl) ?_
  intro p e s m below meth c A ls hf hr hlk hA hK hD0 hE hP hl
  obtain ⟨hx, hb, hml, hown, hts⟩ := id hf
  have hts : ∀ w ∈ TB, w.before _ s = true := fun w h => hts w (List.mem_cons_of_mem _ h)
  have hown : s.vm.findClass R_X = some m.cls := hown
  have hl : lv_has ls 5 [(0, .ref (q 3)), (1, .int x1)] := hl
  have hS : va_S A s.heap s.heap [] := va_S.rf
  have hD : ∀ σ' : St, va_D A (wE cI cZ q σ' ++ tl) := fun σ' => va_Dsame hD0 rfl
  have L13 : ∀ (σ : St) (y1 : Int32) (y3 : Int32) (fu : Nat) (y2 : Int32) (y4 : Int32) (H : Heap) (locs : List Loc) (ls : Array Slot) (out : Int32 × Int32), f_X_countHolders_L13 F σ y1 y3 fu y2 y4 = some out → va_P D vwCl (wE cI cZ q σ ++ tl) H → va_S A s.heap H locs → lv_has ls 5 [(0, .ref (q 3)), (1, .int y1), (2, .int y2), (3, .int y3), (4, .int y4)] → (∀ (H : Heap) (locs : List Loc) (ls : Array Slot), va_P D vwCl (wE cI cZ q σ ++ tl) H → va_S A s.heap H locs → lv_has ls 5 [(0, .ref (q 3)), (1, .int y1), (2, .int out.1), (3, .int y3), (4, .int out.2)] → W p l e { frames := 2, cells := 0, slots := 0, locals := 43 } s m ([.ref (q 3), .int x1] : List Value).toArray below meth c H locs 0 0 (gQi below D out0 (wE cI cZ q σ ++ tl) A (([.ref (q 3), .int x1] : List Value).toArray) s) (F0 m 45 ls [])) → W p l e { frames := 2, cells := 0, slots := 0, locals := 43 } s m ([.ref (q 3), .int x1] : List Value).toArray below meth c H locs 0 0 (gQi below D out0 (wE cI cZ q σ ++ tl) A (([.ref (q 3), .int x1] : List Value).toArray) s) (F0 m 13 ls []) := by
    intro σ y1 y3 fu
    induction fu with
    | zero => intro y2 y4 H locs ls out h; exact absurd (show (none : Option (Int32 × Int32)) = some out from h) (fun z => by cases z)
    | succ fu ih =>
      intro y2 y4 H locs ls out h hP hS hl K
      have h : f_X_countHolders_B13 F σ y1 y3 (f_X_countHolders_L13 F σ y1 y3 fu) y2 y4 = some out := h
      unfold f_X_countHolders_B13 at h
      refine lv_iload hx hb d_X_countHolders_13 (lv_at hl 4 rfl) ?_
      refine lv_iconst (v := 4) hx hb d_X_countHolders_15 (by decide) ?_
      refine lv_icmp_ge (tgt := 45) hx hb d_X_countHolders_16 (by decide) (fun c => ?_) (fun c => ?_)
      · have h := ifp c h
        cases h
        exact K _ _ ls hP hS (lv_sub hl [0, 1, 2, 3, 4] rfl)
      have h := ifn c h
      refine lv_aload_n hx hb d_X_countHolders_19 rfl (lv_at hl 0 rfl) ?_
      refine va_get (D := D) (ci := 3) (v := .ref (q 2)) (C := R_X) (T := T_X) (N := 2) hx hb hts l_X hown hK hP 3 rfl rfl 1 (by decide) (hts _ w_72) (fun _ h9 => h9) rfl d_X_countHolders_20 ?_
      refine lv_iload_n hx hb d_X_countHolders_23 rfl (lv_at hl 3 rfl) ?_
      refine lv_iload hx hb d_X_countHolders_24 (lv_at hl 4 rfl) ?_
      obtain ⟨u26, hu26, h⟩ := bnd h
      refine gcall_i (va_runV (As := [.int y3, .int y4]) (rest := []) ⟨hx, hb, hml, hown, hts⟩ (c_S_ofField l D cI cZ tL q tl σ y3 y4 u26 hu26 H.size) (cwV 2 hts (gV w_293 w_234 w_235 w_3 w_236) rfl rfl rfl (by decide +kernel) ⟨Nat.le_of_ble_eq_true rfl, Nat.le_of_ble_eq_true rfl⟩) (gpV (k := 2) (ci := 2) hA hK (hD σ) hE hP hS rfl rfl) rfl rfl hl.1 rfl (lv_room (Nat.le_of_ble_eq_true rfl)) d_X_countHolders_26 ⟨Nat.le_of_ble_eq_true rfl, Nat.le_of_ble_eq_true rfl⟩) hA (hD σ) hS (fun H locs hP hS => ?_)
      refine lv_iload_n hx hb d_X_countHolders_29 rfl (lv_at hl 1 rfl) ?_
      obtain ⟨u30, hu30, h⟩ := bnd h
      refine gcall_i (va_runSN (As := [.int u26, .int y1]) (rest := []) ⟨hx, hb, hml, hown, hts⟩ (c_E_has l D cI cZ tL (wE cI cZ q σ ++ tl) u26 y1 u30 hu30 H.size) ⟨va_cnB 2 hts (TB_code w_210) rfl rfl rfl (nm_9 hE) (hts _ w_1) (by decide +kernel) ⟨Nat.le_of_ble_eq_true rfl, Nat.le_of_ble_eq_true rfl⟩, hts _ w_209, trivial⟩ (gpS hA hK (hD σ) hE hP hS) rfl rfl hl.1 rfl (lv_room (Nat.le_of_ble_eq_true rfl)) d_X_countHolders_30 ⟨Nat.le_of_ble_eq_true rfl, Nat.le_of_ble_eq_true rfl⟩) hA (hD σ) hS (fun H locs hP hS => ?_)
      refine lv_if_eq (tgt := 39) hx hb d_X_countHolders_33 (by decide) (fun c => ?_) (fun c => ?_)
      · have h := ifp c h
        refine lv_iinc (v := (y4 + (1 : Int32))) (lv' := [(4, .int (y4 + (1 : Int32))), (0, .ref (q 3)), (1, .int y1), (2, .int y2), (3, .int y3)]) hx hb d_X_countHolders_39 hl (k := 4) rfl rfl (by decide) rfl (fun ls hl => ?_)
        refine lv_goto (tgt := 13) hx hb d_X_countHolders_42 (by decide) ?_
        exact ih y2 (y4 + (1 : Int32)) _ _ ls out h hP hS (lv_sub hl [1, 2, 3, 4, 0] rfl) K
      have h := ifn c h
      refine lv_iinc (v := (y2 + (1 : Int32))) (lv' := [(2, .int (y2 + (1 : Int32))), (0, .ref (q 3)), (1, .int y1), (3, .int y3), (4, .int y4)]) hx hb d_X_countHolders_36 hl (k := 2) rfl rfl (by decide) rfl (fun ls hl => ?_)
      refine lv_iinc (v := (y4 + (1 : Int32))) (lv' := [(4, .int (y4 + (1 : Int32))), (2, .int (y2 + (1 : Int32))), (0, .ref (q 3)), (1, .int y1), (3, .int y3)]) hx hb d_X_countHolders_39 hl (k := 4) rfl rfl (by decide) rfl (fun ls hl => ?_)
      refine lv_goto (tgt := 13) hx hb d_X_countHolders_42 (by decide) ?_
      exact ih (y2 + (1 : Int32)) (y4 + (1 : Int32)) _ _ ls out h hP hS (lv_sub hl [2, 3, 1, 4, 0] rfl) K
  have L4 : ∀ (σ : St) (y1 : Int32) (fu : Nat) (y2 : Int32) (y3 : Int32) (H : Heap) (locs : List Loc) (ls : Array Slot) (out : Int32 × Int32), f_X_countHolders_L4 F σ y1 fu y2 y3 = some out → va_P D vwCl (wE cI cZ q σ ++ tl) H → va_S A s.heap H locs → lv_has ls 5 [(0, .ref (q 3)), (1, .int y1), (2, .int y2), (3, .int y3)] → (∀ (H : Heap) (locs : List Loc) (ls : Array Slot), va_P D vwCl (wE cI cZ q σ ++ tl) H → va_S A s.heap H locs → lv_has ls 5 [(0, .ref (q 3)), (1, .int y1), (2, .int out.1), (3, .int out.2)] → W p l e { frames := 2, cells := 0, slots := 0, locals := 43 } s m ([.ref (q 3), .int x1] : List Value).toArray below meth c H locs 0 0 (gQi below D out0 (wE cI cZ q σ ++ tl) A (([.ref (q 3), .int x1] : List Value).toArray) s) (F0 m 51 ls [])) → W p l e { frames := 2, cells := 0, slots := 0, locals := 43 } s m ([.ref (q 3), .int x1] : List Value).toArray below meth c H locs 0 0 (gQi below D out0 (wE cI cZ q σ ++ tl) A (([.ref (q 3), .int x1] : List Value).toArray) s) (F0 m 4 ls []) := by
    intro σ y1 fu
    induction fu with
    | zero => intro y2 y3 H locs ls out h; exact absurd (show (none : Option (Int32 × Int32)) = some out from h) (fun z => by cases z)
    | succ fu ih =>
      intro y2 y3 H locs ls out h hP hS hl K
      have h : f_X_countHolders_B4 F σ y1 (f_X_countHolders_L4 F σ y1 fu) y2 y3 = some out := h
      unfold f_X_countHolders_B4 at h
      refine lv_iload_n hx hb d_X_countHolders_4 rfl (lv_at hl 3 rfl) ?_
      refine lv_bipush (v := 16) hx hb d_X_countHolders_5 (by decide) ?_
      refine lv_icmp_ge (tgt := 51) hx hb d_X_countHolders_7 (by decide) (fun c => ?_) (fun c => ?_)
      · have h := ifp c h
        cases h
        exact K _ _ ls hP hS (lv_sub hl [0, 1, 2, 3] rfl)
      have h := ifn c h
      refine lv_iconst (v := 0) hx hb d_X_countHolders_10 (by decide) ?_
      refine lv_istore (lv' := [(4, .int (0 : Int32)), (0, .ref (q 3)), (1, .int y1), (2, .int y2), (3, .int y3)]) hx hb d_X_countHolders_11 hl (by decide) rfl (fun ls hl => ?_)
      obtain ⟨u13, hu13, h⟩ := bnd h
      refine L13 σ y1 y3 F y2 (0 : Int32) _ _ ls u13 hu13 hP hS (lv_sub hl [1, 2, 3, 4, 0] rfl) (fun H locs ls hP hS hl => ?_)
      refine lv_iinc (v := (y3 + (1 : Int32))) (lv' := [(3, .int (y3 + (1 : Int32))), (0, .ref (q 3)), (1, .int y1), (2, .int u13.1), (4, .int u13.2)]) hx hb d_X_countHolders_45 hl (k := 3) rfl rfl (by decide) rfl (fun ls hl => ?_)
      refine lv_goto (tgt := 4) hx hb d_X_countHolders_48 (by decide) ?_
      exact ih u13.1 (y3 + (1 : Int32)) _ _ ls out h hP hS (lv_sub hl [1, 2, 3, 0] rfl) K
  unfold f_X_countHolders at h
  refine lv_iconst (v := 0) hx hb d_X_countHolders_0 (by decide) ?_
  refine lv_istore_n (lv' := [(2, .int (0 : Int32)), (0, .ref (q 3)), (1, .int x1)]) hx hb d_X_countHolders_1 rfl hl (by decide) rfl (fun ls hl => ?_)
  refine lv_iconst (v := 0) hx hb d_X_countHolders_2 (by decide) ?_
  refine lv_istore_n (lv' := [(3, .int (0 : Int32)), (2, .int (0 : Int32)), (0, .ref (q 3)), (1, .int x1)]) hx hb d_X_countHolders_3 rfl hl (by decide) rfl (fun ls hl => ?_)
  obtain ⟨u4, hu4, h⟩ := bnd h
  refine L4 σ x1 F (0 : Int32) (0 : Int32) _ _ ls u4 hu4 hP hS (lv_sub hl [2, 3, 1, 0] rfl) (fun H locs ls hP hS hl => ?_)
  refine lv_iload_n hx hb d_X_countHolders_51 rfl (lv_at hl 2 rfl) ?_
  cases h
  exact gret_i hx hb hr hlk hP hS d_X_countHolders_52
/-! ===== EscapeOwners$Escapes.ownedSites()I ===== -/
def f_X_ownedSites_B12 (F : Nat) (σ : St) (y1 : Int32) (rec : Int32 → Int32 → Option (Int32 × Int32)) (y2 : Int32) (y3 : Int32) : Option (Int32 × Int32) := if (σ 1 2) ≤ y3 then (some (y2, y3)) else (Option.bind (f_E_has y1 y3) (fun u25 => if u25 = 0 then (Option.bind (f_X_countHolders F σ y3) (fun u33 => if u33 = (1 : Int32) then (rec (y2 ||| ((1 : Int32) <<< (y3 &&& 31))) (y3 + (1 : Int32))) else (rec y2 (y3 + (1 : Int32))))) else (rec y2 (y3 + (1 : Int32)))))
def f_X_ownedSites_L12 (F : Nat) (σ : St) (y1 : Int32) : Nat → Int32 → Int32 → Option (Int32 × Int32)
  | 0, _, _ => none
  | fu + 1, y2, y3 => f_X_ownedSites_B12 F σ y1 (f_X_ownedSites_L12 F σ y1 fu) y2 y3
def f_X_ownedSites (F : Nat) (σ : St) : Option (Int32) := Option.bind (f_S_ofPlaces F σ) (fun u4 => Option.bind (f_X_ownedSites_L12 F σ u4 F (0 : Int32) (0 : Int32)) (fun u12 => some u12.1))
set_option maxHeartbeats 4000000 in
set_option maxRecDepth 100000 in
theorem c_X_ownedSites (l : Launch) (D : va_G) (cI cZ : ClassId) (tL : Nat) (q : Nat → Nat) (tl : va_W) (F : Nat) (σ : St) (out0 : Int32) (h : f_X_ownedSites F σ = some out0) : gCi l y_X_ownedSites (.code y_X_ownedSites b_X_ownedSites 4 (some .int) :: TB) { frames := 3, cells := 0, slots := 0, locals := 67 } D [(cI, .int), (cZ, .boolean)] tL [.ref (q 3)] (wE cI cZ q σ ++ tl) out0 (wE cI cZ q σ ++ tl) := by
  refine gCi_of (cc := b_X_ownedSites) (maxL := 4) (ty := .int) (by decide) rfl (Nat.le_of_ble_eq_true rfl) ?_
  intro p e s m below meth c A ls hf hr hlk hA hK hD0 hE hP hl
  obtain ⟨hx, hb, hml, hown, hts⟩ := id hf
  have hts : ∀ w ∈ TB, w.before _ s = true := fun w h => hts w (List.mem_cons_of_mem _ h)
  have hown : s.vm.findClass R_X = some m.cls := hown
  have hl : lv_has ls 4 [(0, .ref (q 3))] := hl
  have hS : va_S A s.heap s.heap [] := va_S.rf
  have hD : ∀ σ' : St, va_D A (wE cI cZ q σ' ++ tl) := fun σ' => va_Dsame hD0 rfl
  have L12 : ∀ (σ : St) (y1 : Int32) (fu : Nat) (y2 : Int32) (y3 : Int32) (H : Heap) (locs : List Loc) (ls : Array Slot) (out : Int32 × Int32), f_X_ownedSites_L12 F σ y1 fu y2 y3 = some out → va_P D vwCl (wE cI cZ q σ ++ tl) H → va_S A s.heap H locs → lv_has ls 4 [(0, .ref (q 3)), (1, .int y1), (2, .int y2), (3, .int y3)] → (∀ (H : Heap) (locs : List Loc) (ls : Array Slot), va_P D vwCl (wE cI cZ q σ ++ tl) H → va_S A s.heap H locs → lv_has ls 4 [(0, .ref (q 3)), (1, .int y1), (2, .int out.1), (3, .int out.2)] → W p l e { frames := 3, cells := 0, slots := 0, locals := 67 } s m ([.ref (q 3)] : List Value).toArray below meth c H locs 0 0 (gQi below D out0 (wE cI cZ q σ ++ tl) A (([.ref (q 3)] : List Value).toArray) s) (F0 m 52 ls [])) → W p l e { frames := 3, cells := 0, slots := 0, locals := 67 } s m ([.ref (q 3)] : List Value).toArray below meth c H locs 0 0 (gQi below D out0 (wE cI cZ q σ ++ tl) A (([.ref (q 3)] : List Value).toArray) s) (F0 m 12 ls []) := by
    intro σ y1 fu
    induction fu with
    | zero => intro y2 y3 H locs ls out h; exact absurd (show (none : Option (Int32 × Int32)) = some out from h) (fun z => by cases z)
    | succ fu ih =>
      intro y2 y3 H locs ls out h hP hS hl K
      have h : f_X_ownedSites_B12 F σ y1 (f_X_ownedSites_L12 F σ y1 fu) y2 y3 = some out := h
      unfold f_X_ownedSites_B12 at h
      refine lv_iload_n hx hb d_X_ownedSites_12 rfl (lv_at hl 3 rfl) ?_
      refine lv_aload_n hx hb d_X_ownedSites_13 rfl (lv_at hl 0 rfl) ?_
      refine va_get (D := D) (ci := 3) (v := .ref (q 1)) (C := R_X) (T := T_X) (N := 2) hx hb hts l_X hown hK hP 3 rfl rfl 0 (by decide) (hts _ w_71) (fun _ h9 => h9) rfl d_X_ownedSites_14 ?_
      refine va_getN (D := D) (ci := 1) (v := .int (σ 1 2)) (C := R_P) (T := T_P) (N := 8) hx hb hts l_P hown hK hP 1 rfl rfl 2 (by decide) (va_Nw.use rfl (nf_5 hE)) (fun _ h9 => h9) rfl d_X_ownedSites_17 ?_
      refine lv_icmp_ge (tgt := 52) hx hb d_X_ownedSites_20 (by decide) (fun c => ?_) (fun c => ?_)
      · have h := ifp c h
        cases h
        exact K _ _ ls hP hS (lv_sub hl [0, 1, 2, 3] rfl)
      have h := ifn c h
      refine lv_iload_n hx hb d_X_ownedSites_23 rfl (lv_at hl 1 rfl) ?_
      refine lv_iload_n hx hb d_X_ownedSites_24 rfl (lv_at hl 3 rfl) ?_
      obtain ⟨u25, hu25, h⟩ := bnd h
      refine gcall_i (va_runSN (As := [.int y1, .int y3]) (rest := []) ⟨hx, hb, hml, hown, hts⟩ (c_E_has l D cI cZ tL (wE cI cZ q σ ++ tl) y1 y3 u25 hu25 H.size) ⟨va_cnB 2 hts (TB_code w_210) rfl rfl rfl (nm_9 hE) (hts _ w_1) (by decide +kernel) ⟨Nat.le_of_ble_eq_true rfl, Nat.le_of_ble_eq_true rfl⟩, hts _ w_209, trivial⟩ (gpS hA hK (hD σ) hE hP hS) rfl rfl hl.1 rfl (lv_room (Nat.le_of_ble_eq_true rfl)) d_X_ownedSites_25 ⟨Nat.le_of_ble_eq_true rfl, Nat.le_of_ble_eq_true rfl⟩) hA (hD σ) hS (fun H locs hP hS => ?_)
      refine lv_if_ne (tgt := 46) hx hb d_X_ownedSites_28 (by decide) (fun c => ?_) (fun c => ?_)
      · have h := ifn c h
        refine lv_iinc (v := (y3 + (1 : Int32))) (lv' := [(3, .int (y3 + (1 : Int32))), (0, .ref (q 3)), (1, .int y1), (2, .int y2)]) hx hb d_X_ownedSites_46 hl (k := 3) rfl rfl (by decide) rfl (fun ls hl => ?_)
        refine lv_goto (tgt := 12) hx hb d_X_ownedSites_49 (by decide) ?_
        exact ih y2 (y3 + (1 : Int32)) _ _ ls out h hP hS (lv_sub hl [1, 2, 3, 0] rfl) K
      have h := ifp c h
      refine lv_aload_n hx hb d_X_ownedSites_31 rfl (lv_at hl 0 rfl) ?_
      refine lv_iload_n hx hb d_X_ownedSites_32 rfl (lv_at hl 3 rfl) ?_
      obtain ⟨u33, hu33, h⟩ := bnd h
      refine gcall_i (va_runV (As := [.int y3]) (rest := []) ⟨hx, hb, hml, hown, hts⟩ (c_X_countHolders l D cI cZ tL q tl F σ y3 u33 hu33 H.size) (cwV 1 hts (gV w_289 w_290 w_291 w_4 w_292) rfl rfl rfl (by decide +kernel) ⟨Nat.le_of_ble_eq_true rfl, Nat.le_of_ble_eq_true rfl⟩) (gpV (k := 3) (ci := 3) hA hK (hD σ) hE hP hS rfl rfl) rfl rfl hl.1 rfl (lv_room (Nat.le_of_ble_eq_true rfl)) d_X_ownedSites_33 ⟨Nat.le_of_ble_eq_true rfl, Nat.le_of_ble_eq_true rfl⟩) hA (hD σ) hS (fun H locs hP hS => ?_)
      refine lv_iconst (v := 1) hx hb d_X_ownedSites_36 (by decide) ?_
      refine lv_icmp_ne (tgt := 46) hx hb d_X_ownedSites_37 (by decide) (fun c => ?_) (fun c => ?_)
      · have h := ifn c h
        refine lv_iinc (v := (y3 + (1 : Int32))) (lv' := [(3, .int (y3 + (1 : Int32))), (0, .ref (q 3)), (1, .int y1), (2, .int y2)]) hx hb d_X_ownedSites_46 hl (k := 3) rfl rfl (by decide) rfl (fun ls hl => ?_)
        refine lv_goto (tgt := 12) hx hb d_X_ownedSites_49 (by decide) ?_
        exact ih y2 (y3 + (1 : Int32)) _ _ ls out h hP hS (lv_sub hl [1, 2, 3, 0] rfl) K
      have h := ifp c h
      refine lv_iload_n hx hb d_X_ownedSites_40 rfl (lv_at hl 2 rfl) ?_
      refine lv_iconst (v := 1) hx hb d_X_ownedSites_41 (by decide) ?_
      refine lv_iload_n hx hb d_X_ownedSites_42 rfl (lv_at hl 3 rfl) ?_
      refine lv_ishl hx hb d_X_ownedSites_43 ?_
      refine lv_ior hx hb d_X_ownedSites_44 ?_
      refine lv_istore_n (lv' := [(2, .int (y2 ||| ((1 : Int32) <<< (y3 &&& 31)))), (0, .ref (q 3)), (1, .int y1), (3, .int y3)]) hx hb d_X_ownedSites_45 rfl hl (by decide) rfl (fun ls hl => ?_)
      refine lv_iinc (v := (y3 + (1 : Int32))) (lv' := [(3, .int (y3 + (1 : Int32))), (2, .int (y2 ||| ((1 : Int32) <<< (y3 &&& 31)))), (0, .ref (q 3)), (1, .int y1)]) hx hb d_X_ownedSites_46 hl (k := 3) rfl rfl (by decide) rfl (fun ls hl => ?_)
      refine lv_goto (tgt := 12) hx hb d_X_ownedSites_49 (by decide) ?_
      exact ih (y2 ||| ((1 : Int32) <<< (y3 &&& 31))) (y3 + (1 : Int32)) _ _ ls out h hP hS (lv_sub hl [2, 3, 1, 0] rfl) K
  unfold f_X_ownedSites at h
  refine lv_aload_n hx hb d_X_ownedSites_0 rfl (lv_at hl 0 rfl) ?_
  refine va_get (D := D) (ci := 3) (v := .ref (q 2)) (C := R_X) (T := T_X) (N := 2) hx hb hts l_X hown hK hP 3 rfl rfl 1 (by decide) (hts _ w_72) (fun _ h9 => h9) rfl d_X_ownedSites_1 ?_
  obtain ⟨u4, hu4, h⟩ := bnd h
  refine gcall_i (va_runV (As := []) (rest := []) ⟨hx, hb, hml, hown, hts⟩ (c_S_ofPlaces l D cI cZ tL q tl F σ  u4 hu4 s.heap.size) (cwV 0 hts (gV w_288 w_250 w_251 w_3 w_252) rfl rfl rfl (by decide +kernel) ⟨Nat.le_of_ble_eq_true rfl, Nat.le_of_ble_eq_true rfl⟩) (gpV (k := 2) (ci := 2) hA hK (hD σ) hE hP hS rfl rfl) rfl rfl hl.1 rfl (lv_room (Nat.le_of_ble_eq_true rfl)) d_X_ownedSites_4 ⟨Nat.le_of_ble_eq_true rfl, Nat.le_of_ble_eq_true rfl⟩) hA (hD σ) hS (fun H locs hP hS => ?_)
  refine lv_istore_n (lv' := [(1, .int u4), (0, .ref (q 3))]) hx hb d_X_ownedSites_7 rfl hl (by decide) rfl (fun ls hl => ?_)
  refine lv_iconst (v := 0) hx hb d_X_ownedSites_8 (by decide) ?_
  refine lv_istore_n (lv' := [(2, .int (0 : Int32)), (1, .int u4), (0, .ref (q 3))]) hx hb d_X_ownedSites_9 rfl hl (by decide) rfl (fun ls hl => ?_)
  refine lv_iconst (v := 0) hx hb d_X_ownedSites_10 (by decide) ?_
  refine lv_istore_n (lv' := [(3, .int (0 : Int32)), (2, .int (0 : Int32)), (1, .int u4), (0, .ref (q 3))]) hx hb d_X_ownedSites_11 rfl hl (by decide) rfl (fun ls hl => ?_)
  obtain ⟨u12, hu12, h⟩ := bnd h
  refine L12 σ u4 F (0 : Int32) (0 : Int32) _ _ ls u12 hu12 hP hS (lv_sub hl [3, 2, 1, 0] rfl) (fun H locs ls hP hS hl => ?_)
  refine lv_iload_n hx hb d_X_ownedSites_52 rfl (lv_at hl 2 rfl) ?_
  cases h
  exact gret_i hx hb hr hlk hP hS d_X_ownedSites_53
/-! ===== EscapeOwners$Escapes.storedTo(I)I ===== -/
def f_X_storedTo (σ : St) (x1 : Int32) : Option (Int32) := Option.bind (f_P_owner σ x1) (fun u9 => Option.bind (f_P_need σ x1 (0 : Int32)) (fun u18 => Option.bind (f_S_ofName σ u9 u18) (fun u21 => some u21)))
set_option maxHeartbeats 4000000 in
set_option maxRecDepth 100000 in
theorem c_X_storedTo (l : Launch) (D : va_G) (cI cZ : ClassId) (tL : Nat) (q : Nat → Nat) (tl : va_W) (σ : St) (x1 : Int32) (out0 : Int32) (h : f_X_storedTo σ x1 = some out0) : gCi l y_X_storedTo (.code y_X_storedTo b_X_storedTo 2 (some .int) :: TB) { frames := 2, cells := 0, slots := 0, locals := 43 } D [(cI, .int), (cZ, .boolean)] tL [.ref (q 3), .int x1] (wE cI cZ q σ ++ tl) out0 (wE cI cZ q σ ++ tl) := by
  refine gCi_of (cc := b_X_storedTo) (maxL := 2) (ty := .int) (by decide) rfl (Nat.le_of_ble_eq_true rfl) ?_
  intro p e s m below meth c A ls hf hr hlk hA hK hD0 hE hP hl
  obtain ⟨hx, hb, hml, hown, hts⟩ := id hf
  have hts : ∀ w ∈ TB, w.before _ s = true := fun w h => hts w (List.mem_cons_of_mem _ h)
  have hown : s.vm.findClass R_X = some m.cls := hown
  have hl : lv_has ls 2 [(0, .ref (q 3)), (1, .int x1)] := hl
  have hS : va_S A s.heap s.heap [] := va_S.rf
  have hD : ∀ σ' : St, va_D A (wE cI cZ q σ' ++ tl) := fun σ' => va_Dsame hD0 rfl
  unfold f_X_storedTo at h
  refine lv_aload_n hx hb d_X_storedTo_0 rfl (lv_at hl 0 rfl) ?_
  refine va_get (D := D) (ci := 3) (v := .ref (q 2)) (C := R_X) (T := T_X) (N := 2) hx hb hts l_X hown hK hP 3 rfl rfl 1 (by decide) (hts _ w_72) (fun _ h9 => h9) rfl d_X_storedTo_1 ?_
  refine lv_aload_n hx hb d_X_storedTo_4 rfl (lv_at hl 0 rfl) ?_
  refine va_get (D := D) (ci := 3) (v := .ref (q 1)) (C := R_X) (T := T_X) (N := 2) hx hb hts l_X hown hK hP 3 rfl rfl 0 (by decide) (hts _ w_71) (fun _ h9 => h9) rfl d_X_storedTo_5 ?_
  refine lv_iload_n hx hb d_X_storedTo_8 rfl (lv_at hl 1 rfl) ?_
  obtain ⟨u9, hu9, h⟩ := bnd h
  refine gcall_i (va_runV (As := [.int x1]) (rest := [.ref (q 2)]) ⟨hx, hb, hml, hown, hts⟩ (c_P_owner l D cI cZ tL q tl σ x1 u9 hu9 s.heap.size) (cwV 1 hts (gV w_306 w_176 w_177 w_2 w_178) rfl rfl rfl (by decide +kernel) ⟨Nat.le_of_ble_eq_true rfl, Nat.le_of_ble_eq_true rfl⟩) (gpV (k := 1) (ci := 1) hA hK (hD σ) hE hP hS rfl rfl) rfl rfl hl.1 rfl (lv_room (Nat.le_of_ble_eq_true rfl)) d_X_storedTo_9 ⟨Nat.le_of_ble_eq_true rfl, Nat.le_of_ble_eq_true rfl⟩) hA (hD σ) hS (fun H locs hP hS => ?_)
  refine lv_aload_n hx hb d_X_storedTo_12 rfl (lv_at hl 0 rfl) ?_
  refine va_get (D := D) (ci := 3) (v := .ref (q 1)) (C := R_X) (T := T_X) (N := 2) hx hb hts l_X hown hK hP 3 rfl rfl 0 (by decide) (hts _ w_71) (fun _ h9 => h9) rfl d_X_storedTo_13 ?_
  refine lv_iload_n hx hb d_X_storedTo_16 rfl (lv_at hl 1 rfl) ?_
  refine lv_iconst (v := 0) hx hb d_X_storedTo_17 (by decide) ?_
  obtain ⟨u18, hu18, h⟩ := bnd h
  refine gcall_i (va_runV (As := [.int x1, .int (0 : Int32)]) (rest := [.int u9, .ref (q 2)]) ⟨hx, hb, hml, hown, hts⟩ (c_P_need l D cI cZ tL q tl σ x1 (0 : Int32) u18 hu18 H.size) (cwV 2 hts (gV w_307 w_185 w_186 w_2 w_187) rfl rfl rfl (by decide +kernel) ⟨Nat.le_of_ble_eq_true rfl, Nat.le_of_ble_eq_true rfl⟩) (gpV (k := 1) (ci := 1) hA hK (hD σ) hE hP hS rfl rfl) rfl rfl hl.1 rfl (lv_room (Nat.le_of_ble_eq_true rfl)) d_X_storedTo_18 ⟨Nat.le_of_ble_eq_true rfl, Nat.le_of_ble_eq_true rfl⟩) hA (hD σ) hS (fun H locs hP hS => ?_)
  obtain ⟨u21, hu21, h⟩ := bnd h
  refine gcall_i (va_runV (As := [.int u9, .int u18]) (rest := []) ⟨hx, hb, hml, hown, hts⟩ (c_S_ofName l D cI cZ tL q tl σ u9 u18 u21 hu21 H.size) (cwV 2 hts (gV w_308 w_227 w_228 w_3 w_229) rfl rfl rfl (by decide +kernel) ⟨Nat.le_of_ble_eq_true rfl, Nat.le_of_ble_eq_true rfl⟩) (gpV (k := 2) (ci := 2) hA hK (hD σ) hE hP hS rfl rfl) rfl rfl hl.1 rfl (lv_room (Nat.le_of_ble_eq_true rfl)) d_X_storedTo_21 ⟨Nat.le_of_ble_eq_true rfl, Nat.le_of_ble_eq_true rfl⟩) hA (hD σ) hS (fun H locs hP hS => ?_)
  cases h
  exact gret_i hx hb hr hlk hP hS d_X_storedTo_24
/-! ===== EscapeOwners$Escapes.storingMethods(I)I ===== -/
def f_X_storingMethods_B4 (F : Nat) (σ : St) (y1 : Int32) (rec : Int32 → Int32 → Option (Int32 × Int32)) (y2 : Int32) (y3 : Int32) : Option (Int32 × Int32) := if (σ 1 1) ≤ y3 then (some (y2, y3)) else (Option.bind (f_P_kind σ y3) (fun u20 => if u20 = (3 : Int32) then (Option.bind (f_X_storedTo σ y3) (fun u29 => Option.bind (f_E_has u29 y1) (fun u33 => if u33 = 0 then (rec y2 (y3 + (1 : Int32))) else (Option.bind (f_P_owner σ y3) (fun u46 => rec (y2 ||| ((1 : Int32) <<< (u46 &&& 31))) (y3 + (1 : Int32))))))) else (rec y2 (y3 + (1 : Int32)))))
def f_X_storingMethods_L4 (F : Nat) (σ : St) (y1 : Int32) : Nat → Int32 → Int32 → Option (Int32 × Int32)
  | 0, _, _ => none
  | fu + 1, y2, y3 => f_X_storingMethods_B4 F σ y1 (f_X_storingMethods_L4 F σ y1 fu) y2 y3
def f_X_storingMethods (F : Nat) (σ : St) (x1 : Int32) : Option (Int32) := Option.bind (f_X_storingMethods_L4 F σ x1 F (0 : Int32) (0 : Int32)) (fun u4 => some u4.1)
set_option maxHeartbeats 4000000 in
set_option maxRecDepth 100000 in
theorem c_X_storingMethods (l : Launch) (D : va_G) (cI cZ : ClassId) (tL : Nat) (q : Nat → Nat) (tl : va_W) (F : Nat) (σ : St) (x1 : Int32) (out0 : Int32) (h : f_X_storingMethods F σ x1 = some out0) : gCi l y_X_storingMethods (.code y_X_storingMethods b_X_storingMethods 4 (some .int) :: TB) { frames := 3, cells := 0, slots := 0, locals := 64 } D [(cI, .int), (cZ, .boolean)] tL [.ref (q 3), .int x1] (wE cI cZ q σ ++ tl) out0 (wE cI cZ q σ ++ tl) := by
  refine gCi_of (cc := b_X_storingMethods) (maxL := 4) (ty := .int) (by decide) rfl (Nat.le_of_ble_eq_true rfl) ?_
  intro p e s m below meth c A ls hf hr hlk hA hK hD0 hE hP hl
  obtain ⟨hx, hb, hml, hown, hts⟩ := id hf
  have hts : ∀ w ∈ TB, w.before _ s = true := fun w h => hts w (List.mem_cons_of_mem _ h)
  have hown : s.vm.findClass R_X = some m.cls := hown
  have hl : lv_has ls 4 [(0, .ref (q 3)), (1, .int x1)] := hl
  have hS : va_S A s.heap s.heap [] := va_S.rf
  have hD : ∀ σ' : St, va_D A (wE cI cZ q σ' ++ tl) := fun σ' => va_Dsame hD0 rfl
  have L4 : ∀ (σ : St) (y1 : Int32) (fu : Nat) (y2 : Int32) (y3 : Int32) (H : Heap) (locs : List Loc) (ls : Array Slot) (out : Int32 × Int32), f_X_storingMethods_L4 F σ y1 fu y2 y3 = some out → va_P D vwCl (wE cI cZ q σ ++ tl) H → va_S A s.heap H locs → lv_has ls 4 [(0, .ref (q 3)), (1, .int y1), (2, .int y2), (3, .int y3)] → (∀ (H : Heap) (locs : List Loc) (ls : Array Slot), va_P D vwCl (wE cI cZ q σ ++ tl) H → va_S A s.heap H locs → lv_has ls 4 [(0, .ref (q 3)), (1, .int y1), (2, .int out.1), (3, .int out.2)] → W p l e { frames := 3, cells := 0, slots := 0, locals := 64 } s m ([.ref (q 3), .int x1] : List Value).toArray below meth c H locs 0 0 (gQi below D out0 (wE cI cZ q σ ++ tl) A (([.ref (q 3), .int x1] : List Value).toArray) s) (F0 m 58 ls [])) → W p l e { frames := 3, cells := 0, slots := 0, locals := 64 } s m ([.ref (q 3), .int x1] : List Value).toArray below meth c H locs 0 0 (gQi below D out0 (wE cI cZ q σ ++ tl) A (([.ref (q 3), .int x1] : List Value).toArray) s) (F0 m 4 ls []) := by
    intro σ y1 fu
    induction fu with
    | zero => intro y2 y3 H locs ls out h; exact absurd (show (none : Option (Int32 × Int32)) = some out from h) (fun z => by cases z)
    | succ fu ih =>
      intro y2 y3 H locs ls out h hP hS hl K
      have h : f_X_storingMethods_B4 F σ y1 (f_X_storingMethods_L4 F σ y1 fu) y2 y3 = some out := h
      unfold f_X_storingMethods_B4 at h
      refine lv_iload_n hx hb d_X_storingMethods_4 rfl (lv_at hl 3 rfl) ?_
      refine lv_aload_n hx hb d_X_storingMethods_5 rfl (lv_at hl 0 rfl) ?_
      refine va_get (D := D) (ci := 3) (v := .ref (q 1)) (C := R_X) (T := T_X) (N := 2) hx hb hts l_X hown hK hP 3 rfl rfl 0 (by decide) (hts _ w_71) (fun _ h9 => h9) rfl d_X_storingMethods_6 ?_
      refine va_getN (D := D) (ci := 1) (v := .int (σ 1 1)) (C := R_P) (T := T_P) (N := 8) hx hb hts l_P hown hK hP 1 rfl rfl 1 (by decide) (va_Nw.use rfl (nf_4 hE)) (fun _ h9 => h9) rfl d_X_storingMethods_9 ?_
      refine lv_icmp_ge (tgt := 58) hx hb d_X_storingMethods_12 (by decide) (fun c => ?_) (fun c => ?_)
      · have h := ifp c h
        cases h
        exact K _ _ ls hP hS (lv_sub hl [0, 1, 2, 3] rfl)
      have h := ifn c h
      refine lv_aload_n hx hb d_X_storingMethods_15 rfl (lv_at hl 0 rfl) ?_
      refine va_get (D := D) (ci := 3) (v := .ref (q 1)) (C := R_X) (T := T_X) (N := 2) hx hb hts l_X hown hK hP 3 rfl rfl 0 (by decide) (hts _ w_71) (fun _ h9 => h9) rfl d_X_storingMethods_16 ?_
      refine lv_iload_n hx hb d_X_storingMethods_19 rfl (lv_at hl 3 rfl) ?_
      obtain ⟨u20, hu20, h⟩ := bnd h
      refine gcall_i (va_runV (As := [.int y3]) (rest := []) ⟨hx, hb, hml, hown, hts⟩ (c_P_kind l D cI cZ tL q tl σ y3 u20 hu20 H.size) (cwV 1 hts (gV w_302 w_166 w_167 w_2 w_168) rfl rfl rfl (by decide +kernel) ⟨Nat.le_of_ble_eq_true rfl, Nat.le_of_ble_eq_true rfl⟩) (gpV (k := 1) (ci := 1) hA hK (hD σ) hE hP hS rfl rfl) rfl rfl hl.1 rfl (lv_room (Nat.le_of_ble_eq_true rfl)) d_X_storingMethods_20 ⟨Nat.le_of_ble_eq_true rfl, Nat.le_of_ble_eq_true rfl⟩) hA (hD σ) hS (fun H locs hP hS => ?_)
      refine lv_iconst (v := 3) hx hb d_X_storingMethods_23 (by decide) ?_
      refine lv_icmp_ne (tgt := 52) hx hb d_X_storingMethods_24 (by decide) (fun c => ?_) (fun c => ?_)
      · have h := ifn c h
        refine lv_iinc (v := (y3 + (1 : Int32))) (lv' := [(3, .int (y3 + (1 : Int32))), (0, .ref (q 3)), (1, .int y1), (2, .int y2)]) hx hb d_X_storingMethods_52 hl (k := 3) rfl rfl (by decide) rfl (fun ls hl => ?_)
        refine lv_goto (tgt := 4) hx hb d_X_storingMethods_55 (by decide) ?_
        exact ih y2 (y3 + (1 : Int32)) _ _ ls out h hP hS (lv_sub hl [1, 2, 3, 0] rfl) K
      have h := ifp c h
      refine lv_aload_n hx hb d_X_storingMethods_27 rfl (lv_at hl 0 rfl) ?_
      refine lv_iload_n hx hb d_X_storingMethods_28 rfl (lv_at hl 3 rfl) ?_
      obtain ⟨u29, hu29, h⟩ := bnd h
      refine gcall_i (va_runV (As := [.int y3]) (rest := []) ⟨hx, hb, hml, hown, hts⟩ (c_X_storedTo l D cI cZ tL q tl σ y3 u29 hu29 H.size) (cwV 1 hts (gV w_303 w_304 w_675 w_4 w_305) rfl rfl rfl (by decide +kernel) ⟨Nat.le_of_ble_eq_true rfl, Nat.le_of_ble_eq_true rfl⟩) (gpV (k := 3) (ci := 3) hA hK (hD σ) hE hP hS rfl rfl) rfl rfl hl.1 rfl (lv_room (Nat.le_of_ble_eq_true rfl)) d_X_storingMethods_29 ⟨Nat.le_of_ble_eq_true rfl, Nat.le_of_ble_eq_true rfl⟩) hA (hD σ) hS (fun H locs hP hS => ?_)
      refine lv_iload_n hx hb d_X_storingMethods_32 rfl (lv_at hl 1 rfl) ?_
      obtain ⟨u33, hu33, h⟩ := bnd h
      refine gcall_i (va_runSN (As := [.int u29, .int y1]) (rest := []) ⟨hx, hb, hml, hown, hts⟩ (c_E_has l D cI cZ tL (wE cI cZ q σ ++ tl) u29 y1 u33 hu33 H.size) ⟨va_cnB 2 hts (TB_code w_210) rfl rfl rfl (nm_9 hE) (hts _ w_1) (by decide +kernel) ⟨Nat.le_of_ble_eq_true rfl, Nat.le_of_ble_eq_true rfl⟩, hts _ w_209, trivial⟩ (gpS hA hK (hD σ) hE hP hS) rfl rfl hl.1 rfl (lv_room (Nat.le_of_ble_eq_true rfl)) d_X_storingMethods_33 ⟨Nat.le_of_ble_eq_true rfl, Nat.le_of_ble_eq_true rfl⟩) hA (hD σ) hS (fun H locs hP hS => ?_)
      refine lv_if_eq (tgt := 52) hx hb d_X_storingMethods_36 (by decide) (fun c => ?_) (fun c => ?_)
      · have h := ifp c h
        refine lv_iinc (v := (y3 + (1 : Int32))) (lv' := [(3, .int (y3 + (1 : Int32))), (0, .ref (q 3)), (1, .int y1), (2, .int y2)]) hx hb d_X_storingMethods_52 hl (k := 3) rfl rfl (by decide) rfl (fun ls hl => ?_)
        refine lv_goto (tgt := 4) hx hb d_X_storingMethods_55 (by decide) ?_
        exact ih y2 (y3 + (1 : Int32)) _ _ ls out h hP hS (lv_sub hl [1, 2, 3, 0] rfl) K
      have h := ifn c h
      refine lv_iload_n hx hb d_X_storingMethods_39 rfl (lv_at hl 2 rfl) ?_
      refine lv_iconst (v := 1) hx hb d_X_storingMethods_40 (by decide) ?_
      refine lv_aload_n hx hb d_X_storingMethods_41 rfl (lv_at hl 0 rfl) ?_
      refine va_get (D := D) (ci := 3) (v := .ref (q 1)) (C := R_X) (T := T_X) (N := 2) hx hb hts l_X hown hK hP 3 rfl rfl 0 (by decide) (hts _ w_71) (fun _ h9 => h9) rfl d_X_storingMethods_42 ?_
      refine lv_iload_n hx hb d_X_storingMethods_45 rfl (lv_at hl 3 rfl) ?_
      obtain ⟨u46, hu46, h⟩ := bnd h
      refine gcall_i (va_runV (As := [.int y3]) (rest := [.int (1 : Int32), .int y2]) ⟨hx, hb, hml, hown, hts⟩ (c_P_owner l D cI cZ tL q tl σ y3 u46 hu46 H.size) (cwV 1 hts (gV w_306 w_176 w_177 w_2 w_178) rfl rfl rfl (by decide +kernel) ⟨Nat.le_of_ble_eq_true rfl, Nat.le_of_ble_eq_true rfl⟩) (gpV (k := 1) (ci := 1) hA hK (hD σ) hE hP hS rfl rfl) rfl rfl hl.1 rfl (lv_room (Nat.le_of_ble_eq_true rfl)) d_X_storingMethods_46 ⟨Nat.le_of_ble_eq_true rfl, Nat.le_of_ble_eq_true rfl⟩) hA (hD σ) hS (fun H locs hP hS => ?_)
      refine lv_ishl hx hb d_X_storingMethods_49 ?_
      refine lv_ior hx hb d_X_storingMethods_50 ?_
      refine lv_istore_n (lv' := [(2, .int (y2 ||| ((1 : Int32) <<< (u46 &&& 31)))), (0, .ref (q 3)), (1, .int y1), (3, .int y3)]) hx hb d_X_storingMethods_51 rfl hl (by decide) rfl (fun ls hl => ?_)
      refine lv_iinc (v := (y3 + (1 : Int32))) (lv' := [(3, .int (y3 + (1 : Int32))), (2, .int (y2 ||| ((1 : Int32) <<< (u46 &&& 31)))), (0, .ref (q 3)), (1, .int y1)]) hx hb d_X_storingMethods_52 hl (k := 3) rfl rfl (by decide) rfl (fun ls hl => ?_)
      refine lv_goto (tgt := 4) hx hb d_X_storingMethods_55 (by decide) ?_
      exact ih (y2 ||| ((1 : Int32) <<< (u46 &&& 31))) (y3 + (1 : Int32)) _ _ ls out h hP hS (lv_sub hl [2, 3, 1, 0] rfl) K
  unfold f_X_storingMethods at h
  refine lv_iconst (v := 0) hx hb d_X_storingMethods_0 (by decide) ?_
  refine lv_istore_n (lv' := [(2, .int (0 : Int32)), (0, .ref (q 3)), (1, .int x1)]) hx hb d_X_storingMethods_1 rfl hl (by decide) rfl (fun ls hl => ?_)
  refine lv_iconst (v := 0) hx hb d_X_storingMethods_2 (by decide) ?_
  refine lv_istore_n (lv' := [(3, .int (0 : Int32)), (2, .int (0 : Int32)), (0, .ref (q 3)), (1, .int x1)]) hx hb d_X_storingMethods_3 rfl hl (by decide) rfl (fun ls hl => ?_)
  obtain ⟨u4, hu4, h⟩ := bnd h
  refine L4 σ x1 F (0 : Int32) (0 : Int32) _ _ ls u4 hu4 hP hS (lv_sub hl [2, 3, 1, 0] rfl) (fun H locs ls hP hS hl => ?_)
  refine lv_iload_n hx hb d_X_storingMethods_58 rfl (lv_at hl 2 rfl) ?_
  cases h
  exact gret_i hx hb hr hlk hP hS d_X_storingMethods_59
/-! ===== EscapeOwners$Escapes.fixedSites()I ===== -/
def f_X_fixedSites_B19 (F : Nat) (σ : St) (y1 : Int32) (rec : Int32 → Int32 → Option (Int32 × Int32)) (y2 : Int32) (y3 : Int32) : Option (Int32 × Int32) := if (σ 1 2) ≤ y3 then (some (y2, y3)) else (Option.bind (f_X_storingMethods F σ y3) (fun u32 => Option.bind (f_P_methodOfSite σ y3) (fun u41 => Option.bind (f_E_has y1 y3) (fun u52 => if u52 = 0 then (rec y2 (y3 + (1 : Int32))) else (if (u32 &&& (((1 : Int32) <<< (u41 &&& 31)) ^^^ (-1 : Int32))) = 0 then (rec (y2 ||| ((1 : Int32) <<< (y3 &&& 31))) (y3 + (1 : Int32))) else (rec y2 (y3 + (1 : Int32))))))))
def f_X_fixedSites_L19 (F : Nat) (σ : St) (y1 : Int32) : Nat → Int32 → Int32 → Option (Int32 × Int32)
  | 0, _, _ => none
  | fu + 1, y2, y3 => f_X_fixedSites_B19 F σ y1 (f_X_fixedSites_L19 F σ y1 fu) y2 y3
def f_X_fixedSites (F : Nat) (σ : St) : Option (Int32) := Option.bind (f_P_madeBy F σ (σ 2 7)) (fun u11 => Option.bind (f_X_fixedSites_L19 F σ u11 F (0 : Int32) (0 : Int32)) (fun u19 => some u19.1))
set_option maxHeartbeats 4000000 in
set_option maxRecDepth 100000 in
theorem c_X_fixedSites (l : Launch) (D : va_G) (cI cZ : ClassId) (tL : Nat) (q : Nat → Nat) (tl : va_W) (F : Nat) (σ : St) (out0 : Int32) (h : f_X_fixedSites F σ = some out0) : gCi l y_X_fixedSites (.code y_X_fixedSites b_X_fixedSites 5 (some .int) :: TB) { frames := 4, cells := 0, slots := 0, locals := 87 } D [(cI, .int), (cZ, .boolean)] tL [.ref (q 3)] (wE cI cZ q σ ++ tl) out0 (wE cI cZ q σ ++ tl) := by
  refine gCi_of (cc := b_X_fixedSites) (maxL := 5) (ty := .int) (by decide) rfl (Nat.le_of_ble_eq_true rfl) ?_
  intro p e s m below meth c A ls hf hr hlk hA hK hD0 hE hP hl
  obtain ⟨hx, hb, hml, hown, hts⟩ := id hf
  have hts : ∀ w ∈ TB, w.before _ s = true := fun w h => hts w (List.mem_cons_of_mem _ h)
  have hown : s.vm.findClass R_X = some m.cls := hown
  have hl : lv_has ls 5 [(0, .ref (q 3))] := hl
  have hS : va_S A s.heap s.heap [] := va_S.rf
  have hD : ∀ σ' : St, va_D A (wE cI cZ q σ' ++ tl) := fun σ' => va_Dsame hD0 rfl
  have L19 : ∀ (σ : St) (y1 : Int32) (fu : Nat) (y2 : Int32) (y3 : Int32) (H : Heap) (locs : List Loc) (ls : Array Slot) (out : Int32 × Int32), f_X_fixedSites_L19 F σ y1 fu y2 y3 = some out → va_P D vwCl (wE cI cZ q σ ++ tl) H → va_S A s.heap H locs → lv_has ls 5 [(0, .ref (q 3)), (1, .int y1), (2, .int y2), (3, .int y3)] → (∀ (H : Heap) (locs : List Loc) (ls : Array Slot), va_P D vwCl (wE cI cZ q σ ++ tl) H → va_S A s.heap H locs → lv_has ls 5 [(0, .ref (q 3)), (1, .int y1), (2, .int out.1), (3, .int out.2)] → W p l e { frames := 4, cells := 0, slots := 0, locals := 87 } s m ([.ref (q 3)] : List Value).toArray below meth c H locs 0 0 (gQi below D out0 (wE cI cZ q σ ++ tl) A (([.ref (q 3)] : List Value).toArray) s) (F0 m 75 ls [])) → W p l e { frames := 4, cells := 0, slots := 0, locals := 87 } s m ([.ref (q 3)] : List Value).toArray below meth c H locs 0 0 (gQi below D out0 (wE cI cZ q σ ++ tl) A (([.ref (q 3)] : List Value).toArray) s) (F0 m 19 ls []) := by
    intro σ y1 fu
    induction fu with
    | zero => intro y2 y3 H locs ls out h; exact absurd (show (none : Option (Int32 × Int32)) = some out from h) (fun z => by cases z)
    | succ fu ih =>
      intro y2 y3 H locs ls out h hP hS hl K
      have h : f_X_fixedSites_B19 F σ y1 (f_X_fixedSites_L19 F σ y1 fu) y2 y3 = some out := h
      unfold f_X_fixedSites_B19 at h
      refine lv_iload_n hx hb d_X_fixedSites_19 rfl (lv_at hl 3 rfl) ?_
      refine lv_aload_n hx hb d_X_fixedSites_20 rfl (lv_at hl 0 rfl) ?_
      refine va_get (D := D) (ci := 3) (v := .ref (q 1)) (C := R_X) (T := T_X) (N := 2) hx hb hts l_X hown hK hP 3 rfl rfl 0 (by decide) (hts _ w_71) (fun _ h9 => h9) rfl d_X_fixedSites_21 ?_
      refine va_getN (D := D) (ci := 1) (v := .int (σ 1 2)) (C := R_P) (T := T_P) (N := 8) hx hb hts l_P hown hK hP 1 rfl rfl 2 (by decide) (va_Nw.use rfl (nf_5 hE)) (fun _ h9 => h9) rfl d_X_fixedSites_24 ?_
      refine lv_icmp_ge (tgt := 75) hx hb d_X_fixedSites_27 (by decide) (fun c => ?_) (fun c => ?_)
      · have h := ifp c h
        cases h
        exact K _ _ ls hP hS (lv_sub hl [0, 1, 2, 3] rfl)
      have h := ifn c h
      refine lv_aload_n hx hb d_X_fixedSites_30 rfl (lv_at hl 0 rfl) ?_
      refine lv_iload_n hx hb d_X_fixedSites_31 rfl (lv_at hl 3 rfl) ?_
      obtain ⟨u32, hu32, h⟩ := bnd h
      refine gcall_i (va_runV (As := [.int y3]) (rest := []) ⟨hx, hb, hml, hown, hts⟩ (c_X_storingMethods l D cI cZ tL q tl F σ y3 u32 hu32 H.size) (cwV 1 hts (gV w_298 w_299 w_300 w_4 w_301) rfl rfl rfl (by decide +kernel) ⟨Nat.le_of_ble_eq_true rfl, Nat.le_of_ble_eq_true rfl⟩) (gpV (k := 3) (ci := 3) hA hK (hD σ) hE hP hS rfl rfl) rfl rfl hl.1 rfl (lv_room (Nat.le_of_ble_eq_true rfl)) d_X_fixedSites_32 ⟨Nat.le_of_ble_eq_true rfl, Nat.le_of_ble_eq_true rfl⟩) hA (hD σ) hS (fun H locs hP hS => ?_)
      refine lv_iconst (v := 1) hx hb d_X_fixedSites_35 (by decide) ?_
      refine lv_aload_n hx hb d_X_fixedSites_36 rfl (lv_at hl 0 rfl) ?_
      refine va_get (D := D) (ci := 3) (v := .ref (q 1)) (C := R_X) (T := T_X) (N := 2) hx hb hts l_X hown hK hP 3 rfl rfl 0 (by decide) (hts _ w_71) (fun _ h9 => h9) rfl d_X_fixedSites_37 ?_
      refine lv_iload_n hx hb d_X_fixedSites_40 rfl (lv_at hl 3 rfl) ?_
      obtain ⟨u41, hu41, h⟩ := bnd h
      refine gcall_i (va_runV (As := [.int y3]) (rest := [.int (1 : Int32), .int u32]) ⟨hx, hb, hml, hown, hts⟩ (c_P_methodOfSite l D cI cZ tL q tl σ y3 u41 hu41 H.size) (cwV 1 hts (gV w_309 w_264 w_265 w_2 w_266) rfl rfl rfl (by decide +kernel) ⟨Nat.le_of_ble_eq_true rfl, Nat.le_of_ble_eq_true rfl⟩) (gpV (k := 1) (ci := 1) hA hK (hD σ) hE hP hS rfl rfl) rfl rfl hl.1 rfl (lv_room (Nat.le_of_ble_eq_true rfl)) d_X_fixedSites_41 ⟨Nat.le_of_ble_eq_true rfl, Nat.le_of_ble_eq_true rfl⟩) hA (hD σ) hS (fun H locs hP hS => ?_)
      refine lv_ishl hx hb d_X_fixedSites_44 ?_
      refine lv_iconst (v := -1) hx hb d_X_fixedSites_45 (by decide) ?_
      refine lv_ixor hx hb d_X_fixedSites_46 ?_
      refine lv_iand hx hb d_X_fixedSites_47 ?_
      refine lv_istore (lv' := [(4, .int (u32 &&& (((1 : Int32) <<< (u41 &&& 31)) ^^^ (-1 : Int32)))), (0, .ref (q 3)), (1, .int y1), (2, .int y2), (3, .int y3)]) hx hb d_X_fixedSites_48 hl (by decide) rfl (fun ls hl => ?_)
      refine lv_iload_n hx hb d_X_fixedSites_50 rfl (lv_at hl 2 rfl) ?_
      refine lv_iload_n hx hb d_X_fixedSites_51 rfl (lv_at hl 4 rfl) ?_
      obtain ⟨u52, hu52, h⟩ := bnd h
      refine gcall_i (va_runSN (As := [.int y1, .int y3]) (rest := []) ⟨hx, hb, hml, hown, hts⟩ (c_E_has l D cI cZ tL (wE cI cZ q σ ++ tl) y1 y3 u52 hu52 H.size) ⟨va_cnB 2 hts (TB_code w_210) rfl rfl rfl (nm_9 hE) (hts _ w_1) (by decide +kernel) ⟨Nat.le_of_ble_eq_true rfl, Nat.le_of_ble_eq_true rfl⟩, hts _ w_209, trivial⟩ (gpS hA hK (hD σ) hE hP hS) rfl rfl hl.1 rfl (lv_room (Nat.le_of_ble_eq_true rfl)) d_X_fixedSites_52 ⟨Nat.le_of_ble_eq_true rfl, Nat.le_of_ble_eq_true rfl⟩) hA (hD σ) hS (fun H locs hP hS => ?_)
      refine lv_if_eq (tgt := 69) hx hb d_X_fixedSites_55 (by decide) (fun c => ?_) (fun c => ?_)
      · have h := ifp c h
        refine lv_iinc (v := (y3 + (1 : Int32))) (lv' := [(3, .int (y3 + (1 : Int32))), (4, .int (u32 &&& (((1 : Int32) <<< (u41 &&& 31)) ^^^ (-1 : Int32)))), (0, .ref (q 3)), (1, .int y1), (2, .int y2)]) hx hb d_X_fixedSites_69 hl (k := 4) rfl rfl (by decide) rfl (fun ls hl => ?_)
        refine lv_goto (tgt := 19) hx hb d_X_fixedSites_72 (by decide) ?_
        exact ih y2 (y3 + (1 : Int32)) _ _ ls out h hP hS (lv_sub hl [2, 3, 4, 0] rfl) K
      have h := ifn c h
      refine lv_iload hx hb d_X_fixedSites_58 (lv_at hl 0 rfl) ?_
      refine lv_if_ne (tgt := 69) hx hb d_X_fixedSites_60 (by decide) (fun c => ?_) (fun c => ?_)
      · have h := ifn c h
        refine lv_iinc (v := (y3 + (1 : Int32))) (lv' := [(3, .int (y3 + (1 : Int32))), (4, .int (u32 &&& (((1 : Int32) <<< (u41 &&& 31)) ^^^ (-1 : Int32)))), (0, .ref (q 3)), (1, .int y1), (2, .int y2)]) hx hb d_X_fixedSites_69 hl (k := 4) rfl rfl (by decide) rfl (fun ls hl => ?_)
        refine lv_goto (tgt := 19) hx hb d_X_fixedSites_72 (by decide) ?_
        exact ih y2 (y3 + (1 : Int32)) _ _ ls out h hP hS (lv_sub hl [2, 3, 4, 0] rfl) K
      have h := ifp c h
      refine lv_iload_n hx hb d_X_fixedSites_63 rfl (lv_at hl 3 rfl) ?_
      refine lv_iconst (v := 1) hx hb d_X_fixedSites_64 (by decide) ?_
      refine lv_iload_n hx hb d_X_fixedSites_65 rfl (lv_at hl 4 rfl) ?_
      refine lv_ishl hx hb d_X_fixedSites_66 ?_
      refine lv_ior hx hb d_X_fixedSites_67 ?_
      refine lv_istore_n (lv' := [(2, .int (y2 ||| ((1 : Int32) <<< (y3 &&& 31)))), (4, .int (u32 &&& (((1 : Int32) <<< (u41 &&& 31)) ^^^ (-1 : Int32)))), (0, .ref (q 3)), (1, .int y1), (3, .int y3)]) hx hb d_X_fixedSites_68 rfl hl (by decide) rfl (fun ls hl => ?_)
      refine lv_iinc (v := (y3 + (1 : Int32))) (lv' := [(3, .int (y3 + (1 : Int32))), (2, .int (y2 ||| ((1 : Int32) <<< (y3 &&& 31)))), (4, .int (u32 &&& (((1 : Int32) <<< (u41 &&& 31)) ^^^ (-1 : Int32)))), (0, .ref (q 3)), (1, .int y1)]) hx hb d_X_fixedSites_69 hl (k := 4) rfl rfl (by decide) rfl (fun ls hl => ?_)
      refine lv_goto (tgt := 19) hx hb d_X_fixedSites_72 (by decide) ?_
      exact ih (y2 ||| ((1 : Int32) <<< (y3 &&& 31))) (y3 + (1 : Int32)) _ _ ls out h hP hS (lv_sub hl [3, 4, 1, 0] rfl) K
  unfold f_X_fixedSites at h
  refine lv_aload_n hx hb d_X_fixedSites_0 rfl (lv_at hl 0 rfl) ?_
  refine va_get (D := D) (ci := 3) (v := .ref (q 1)) (C := R_X) (T := T_X) (N := 2) hx hb hts l_X hown hK hP 3 rfl rfl 0 (by decide) (hts _ w_71) (fun _ h9 => h9) rfl d_X_fixedSites_1 ?_
  refine lv_aload_n hx hb d_X_fixedSites_4 rfl (lv_at hl 0 rfl) ?_
  refine va_get (D := D) (ci := 3) (v := .ref (q 2)) (C := R_X) (T := T_X) (N := 2) hx hb hts l_X hown hK hP 3 rfl rfl 1 (by decide) (hts _ w_72) (fun _ h9 => h9) rfl d_X_fixedSites_5 ?_
  refine va_getN (D := D) (ci := 2) (v := .int (σ 2 7)) (C := R_S) (T := T_S) (N := 11) hx hb hts l_S hown hK hP 2 rfl rfl 7 (by decide) (va_Nw.use rfl (nf_13 hE)) (fun _ h9 => h9) rfl d_X_fixedSites_8 ?_
  obtain ⟨u11, hu11, h⟩ := bnd h
  refine gcall_i (va_runV (As := [.int (σ 2 7)]) (rest := []) ⟨hx, hb, hml, hown, hts⟩ (c_P_madeBy l D cI cZ tL q tl F σ (σ 2 7) u11 hu11 s.heap.size) (cwV 1 hts (gV w_283 w_260 w_261 w_2 w_262) rfl rfl rfl (by decide +kernel) ⟨Nat.le_of_ble_eq_true rfl, Nat.le_of_ble_eq_true rfl⟩) (gpV (k := 1) (ci := 1) hA hK (hD σ) hE hP hS rfl rfl) rfl rfl hl.1 rfl (lv_room (Nat.le_of_ble_eq_true rfl)) d_X_fixedSites_11 ⟨Nat.le_of_ble_eq_true rfl, Nat.le_of_ble_eq_true rfl⟩) hA (hD σ) hS (fun H locs hP hS => ?_)
  refine lv_istore_n (lv' := [(1, .int u11), (0, .ref (q 3))]) hx hb d_X_fixedSites_14 rfl hl (by decide) rfl (fun ls hl => ?_)
  refine lv_iconst (v := 0) hx hb d_X_fixedSites_15 (by decide) ?_
  refine lv_istore_n (lv' := [(2, .int (0 : Int32)), (1, .int u11), (0, .ref (q 3))]) hx hb d_X_fixedSites_16 rfl hl (by decide) rfl (fun ls hl => ?_)
  refine lv_iconst (v := 0) hx hb d_X_fixedSites_17 (by decide) ?_
  refine lv_istore_n (lv' := [(3, .int (0 : Int32)), (2, .int (0 : Int32)), (1, .int u11), (0, .ref (q 3))]) hx hb d_X_fixedSites_18 rfl hl (by decide) rfl (fun ls hl => ?_)
  obtain ⟨u19, hu19, h⟩ := bnd h
  refine L19 σ u11 F (0 : Int32) (0 : Int32) _ _ ls u19 hu19 hP hS (lv_sub hl [3, 2, 1, 0] rfl) (fun H locs ls hP hS hl => ?_)
  refine lv_iload_n hx hb d_X_fixedSites_75 rfl (lv_at hl 2 rfl) ?_
  cases h
  exact gret_i hx hb hr hlk hP hS d_X_fixedSites_76
/-! ===== EscapeOwners$Escapes.isHarm(II)Z ===== -/
def f_X_isHarm (σ : St) (x1 : Int32) (x2 : Int32) : Option (Int32) := Option.bind (f_P_kind σ x1) (fun u5 => if u5 = 3 then (Option.bind (f_X_storedTo σ x1) (fun u56 => if (u56 &&& x2) = 0 then (some (0 : Int32)) else (some (1 : Int32)))) else if u5 = 4 then (some (0 : Int32)) else if u5 = 5 then (some (1 : Int32)) else if u5 = 6 then (some (0 : Int32)) else if u5 = 7 then (some (0 : Int32)) else if u5 = 8 then (some (1 : Int32)) else if u5 = 9 then (some (1 : Int32)) else (some (0 : Int32)))
set_option maxHeartbeats 4000000 in
set_option maxRecDepth 100000 in
theorem c_X_isHarm (l : Launch) (D : va_G) (cI cZ : ClassId) (tL : Nat) (q : Nat → Nat) (tl : va_W) (σ : St) (x1 : Int32) (x2 : Int32) (out0 : Int32) (h : f_X_isHarm σ x1 x2 = some out0) : gCi l y_X_isHarm (.code y_X_isHarm b_X_isHarm 3 (some .boolean) :: TB) { frames := 3, cells := 0, slots := 0, locals := 64 } D [(cI, .int), (cZ, .boolean)] tL [.ref (q 3), .int x1, .int x2] (wE cI cZ q σ ++ tl) out0 (wE cI cZ q σ ++ tl) := by
  refine gCi_of (cc := b_X_isHarm) (maxL := 3) (ty := .boolean) (by decide) rfl (Nat.le_of_ble_eq_true rfl) ?_
  intro p e s m below meth c A ls hf hr hlk hA hK hD0 hE hP hl
  obtain ⟨hx, hb, hml, hown, hts⟩ := id hf
  have hts : ∀ w ∈ TB, w.before _ s = true := fun w h => hts w (List.mem_cons_of_mem _ h)
  have hown : s.vm.findClass R_X = some m.cls := hown
  have hl : lv_has ls 3 [(0, .ref (q 3)), (1, .int x1), (2, .int x2)] := hl
  have hS : va_S A s.heap s.heap [] := va_S.rf
  have hD : ∀ σ' : St, va_D A (wE cI cZ q σ' ++ tl) := fun σ' => va_Dsame hD0 rfl
  unfold f_X_isHarm at h
  refine lv_aload_n hx hb d_X_isHarm_0 rfl (lv_at hl 0 rfl) ?_
  refine va_get (D := D) (ci := 3) (v := .ref (q 1)) (C := R_X) (T := T_X) (N := 2) hx hb hts l_X hown hK hP 3 rfl rfl 0 (by decide) (hts _ w_71) (fun _ h9 => h9) rfl d_X_isHarm_1 ?_
  refine lv_iload_n hx hb d_X_isHarm_4 rfl (lv_at hl 1 rfl) ?_
  obtain ⟨u5, hu5, h⟩ := bnd h
  refine gcall_i (va_runV (As := [.int x1]) (rest := []) ⟨hx, hb, hml, hown, hts⟩ (c_P_kind l D cI cZ tL q tl σ x1 u5 hu5 s.heap.size) (cwV 1 hts (gV w_302 w_166 w_167 w_2 w_168) rfl rfl rfl (by decide +kernel) ⟨Nat.le_of_ble_eq_true rfl, Nat.le_of_ble_eq_true rfl⟩) (gpV (k := 1) (ci := 1) hA hK (hD σ) hE hP hS rfl rfl) rfl rfl hl.1 rfl (lv_room (Nat.le_of_ble_eq_true rfl)) d_X_isHarm_5 ⟨Nat.le_of_ble_eq_true rfl, Nat.le_of_ble_eq_true rfl⟩) hA (hD σ) hS (fun H locs hP hS => ?_)
  by_cases c0 : u5 = 3
  · refine lv_tableIn (tgt := 54) hx hb d_X_isHarm_8 (by rw [c0]; decide) (by rw [c0]; decide) (by rw [c0]; rfl) (by decide) ?_
    have h := ifp c0 h
    refine lv_aload_n hx hb d_X_isHarm_54 rfl (lv_at hl 0 rfl) ?_
    refine lv_iload_n hx hb d_X_isHarm_55 rfl (lv_at hl 1 rfl) ?_
    obtain ⟨u56, hu56, h⟩ := bnd h
    refine gcall_i (va_runV (As := [.int x1]) (rest := []) ⟨hx, hb, hml, hown, hts⟩ (c_X_storedTo l D cI cZ tL q tl σ x1 u56 hu56 H.size) (cwV 1 hts (gV w_303 w_304 w_675 w_4 w_305) rfl rfl rfl (by decide +kernel) ⟨Nat.le_of_ble_eq_true rfl, Nat.le_of_ble_eq_true rfl⟩) (gpV (k := 3) (ci := 3) hA hK (hD σ) hE hP hS rfl rfl) rfl rfl hl.1 rfl (lv_room (Nat.le_of_ble_eq_true rfl)) d_X_isHarm_56 ⟨Nat.le_of_ble_eq_true rfl, Nat.le_of_ble_eq_true rfl⟩) hA (hD σ) hS (fun H locs hP hS => ?_)
    refine lv_iload_n hx hb d_X_isHarm_59 rfl (lv_at hl 2 rfl) ?_
    refine lv_iand hx hb d_X_isHarm_60 ?_
    refine lv_if_eq (tgt := 68) hx hb d_X_isHarm_61 (by decide) (fun c => ?_) (fun c => ?_)
    · have h := ifp c h
      refine lv_iconst (v := 0) hx hb d_X_isHarm_68 (by decide) ?_
      cases h
      exact gret_z hx hb hr hlk (gz (Or.inl rfl)) hP hS d_X_isHarm_69
    have h := ifn c h
    refine lv_iconst (v := 1) hx hb d_X_isHarm_64 (by decide) ?_
    refine lv_goto (tgt := 69) hx hb d_X_isHarm_65 (by decide) ?_
    cases h
    exact gret_z hx hb hr hlk (gz (Or.inr rfl)) hP hS d_X_isHarm_69
  have h := ifn c0 h
  by_cases c1 : u5 = 4
  · refine lv_tableIn (tgt := 70) hx hb d_X_isHarm_8 (by rw [c1]; decide) (by rw [c1]; decide) (by rw [c1]; rfl) (by decide) ?_
    have h := ifp c1 h
    refine lv_iconst (v := 0) hx hb d_X_isHarm_70 (by decide) ?_
    cases h
    exact gret_z hx hb hr hlk (gz (Or.inl rfl)) hP hS d_X_isHarm_71
  have h := ifn c1 h
  by_cases c2 : u5 = 5
  · refine lv_tableIn (tgt := 52) hx hb d_X_isHarm_8 (by rw [c2]; decide) (by rw [c2]; decide) (by rw [c2]; rfl) (by decide) ?_
    have h := ifp c2 h
    refine lv_iconst (v := 1) hx hb d_X_isHarm_52 (by decide) ?_
    cases h
    exact gret_z hx hb hr hlk (gz (Or.inr rfl)) hP hS d_X_isHarm_53
  have h := ifn c2 h
  by_cases c3 : u5 = 6
  · refine lv_tableIn (tgt := 70) hx hb d_X_isHarm_8 (by rw [c3]; decide) (by rw [c3]; decide) (by rw [c3]; rfl) (by decide) ?_
    have h := ifp c3 h
    refine lv_iconst (v := 0) hx hb d_X_isHarm_70 (by decide) ?_
    cases h
    exact gret_z hx hb hr hlk (gz (Or.inl rfl)) hP hS d_X_isHarm_71
  have h := ifn c3 h
  by_cases c4 : u5 = 7
  · refine lv_tableIn (tgt := 70) hx hb d_X_isHarm_8 (by rw [c4]; decide) (by rw [c4]; decide) (by rw [c4]; rfl) (by decide) ?_
    have h := ifp c4 h
    refine lv_iconst (v := 0) hx hb d_X_isHarm_70 (by decide) ?_
    cases h
    exact gret_z hx hb hr hlk (gz (Or.inl rfl)) hP hS d_X_isHarm_71
  have h := ifn c4 h
  by_cases c5 : u5 = 8
  · refine lv_tableIn (tgt := 52) hx hb d_X_isHarm_8 (by rw [c5]; decide) (by rw [c5]; decide) (by rw [c5]; rfl) (by decide) ?_
    have h := ifp c5 h
    refine lv_iconst (v := 1) hx hb d_X_isHarm_52 (by decide) ?_
    cases h
    exact gret_z hx hb hr hlk (gz (Or.inr rfl)) hP hS d_X_isHarm_53
  have h := ifn c5 h
  by_cases c6 : u5 = 9
  · refine lv_tableIn (tgt := 52) hx hb d_X_isHarm_8 (by rw [c6]; decide) (by rw [c6]; decide) (by rw [c6]; rfl) (by decide) ?_
    have h := ifp c6 h
    refine lv_iconst (v := 1) hx hb d_X_isHarm_52 (by decide) ?_
    cases h
    exact gret_z hx hb hr hlk (gz (Or.inr rfl)) hP hS d_X_isHarm_53
  have h := ifn c6 h
  refine lv_tableOut (tgt := 70) hx hb d_X_isHarm_8 (by have e0 := lv_neT (a := 3) c0 (by decide); have e1 := lv_neT (a := 4) c1 (by decide); have e2 := lv_neT (a := 5) c2 (by decide); have e3 := lv_neT (a := 6) c3 (by decide); have e4 := lv_neT (a := 7) c4 (by decide); have e5 := lv_neT (a := 8) c5 (by decide); have e6 := lv_neT (a := 9) c6 (by decide); omega) (by decide) ?_
  refine lv_iconst (v := 0) hx hb d_X_isHarm_70 (by decide) ?_
  cases h
  exact gret_z hx hb hr hlk (gz (Or.inl rfl)) hP hS d_X_isHarm_71
/-! ===== EscapeOwners$Escapes.areHarmless(I)Z ===== -/
def f_X_areHarmless_B13 (F : Nat) (σ : St) (y1 : Int32) (y2 : Int32) (rec : Int32 → Option ((Int32) ⊕ (Int32))) (y3 : Int32) : Option ((Int32) ⊕ (Int32)) := if (σ 1 1) ≤ y3 then (some (Sum.inl y3)) else (Option.bind (f_P_isIn σ y1 y3) (fun u30 => if u30 = 0 then (rec (y3 + (1 : Int32))) else (Option.bind (f_X_isHarm σ y3 y2) (fun u39 => if u39 = 0 then (rec (y3 + (1 : Int32))) else (some (Sum.inr (0 : Int32)))))))
def f_X_areHarmless_L13 (F : Nat) (σ : St) (y1 : Int32) (y2 : Int32) : Nat → Int32 → Option ((Int32) ⊕ (Int32))
  | 0, _ => none
  | fu + 1, y3 => f_X_areHarmless_B13 F σ y1 y2 (f_X_areHarmless_L13 F σ y1 y2 fu) y3
def f_X_areHarmless (F : Nat) (σ : St) (x1 : Int32) : Option (Int32) := Option.bind (f_P_madeBy F σ x1) (fun u5 => Option.bind (f_X_areHarmless_L13 F σ x1 (u5 ^^^ (-1 : Int32)) F (0 : Int32)) (fun u13 => Sum.elim (fun v13 => some (1 : Int32)) (fun r13 => some r13) u13))
set_option maxHeartbeats 4000000 in
set_option maxRecDepth 100000 in
theorem c_X_areHarmless (l : Launch) (D : va_G) (cI cZ : ClassId) (tL : Nat) (q : Nat → Nat) (tl : va_W) (F : Nat) (σ : St) (x1 : Int32) (out0 : Int32) (h : f_X_areHarmless F σ x1 = some out0) : gCi l y_X_areHarmless (.code y_X_areHarmless b_X_areHarmless 4 (some .boolean) :: TB) { frames := 4, cells := 0, slots := 0, locals := 86 } D [(cI, .int), (cZ, .boolean)] tL [.ref (q 3), .int x1] (wE cI cZ q σ ++ tl) out0 (wE cI cZ q σ ++ tl) := by
  refine gCi_of (cc := b_X_areHarmless) (maxL := 4) (ty := .boolean) (by decide) rfl (Nat.le_of_ble_eq_true rfl) ?_
  intro p e s m below meth c A ls hf hr hlk hA hK hD0 hE hP hl
  obtain ⟨hx, hb, hml, hown, hts⟩ := id hf
  have hts : ∀ w ∈ TB, w.before _ s = true := fun w h => hts w (List.mem_cons_of_mem _ h)
  have hown : s.vm.findClass R_X = some m.cls := hown
  have hl : lv_has ls 4 [(0, .ref (q 3)), (1, .int x1)] := hl
  have hS : va_S A s.heap s.heap [] := va_S.rf
  have hD : ∀ σ' : St, va_D A (wE cI cZ q σ' ++ tl) := fun σ' => va_Dsame hD0 rfl
  have L13 : ∀ (σ : St) (y1 : Int32) (y2 : Int32) (fu : Nat) (y3 : Int32) (H : Heap) (locs : List Loc) (ls : Array Slot) (out : (Int32) ⊕ (Int32)), f_X_areHarmless_L13 F σ y1 y2 fu y3 = some out → va_P D vwCl (wE cI cZ q σ ++ tl) H → va_S A s.heap H locs → lv_has ls 4 [(0, .ref (q 3)), (1, .int y1), (2, .int y2), (3, .int y3)] → (∀ (v : (Int32)), out = Sum.inl v → ∀ (H : Heap) (locs : List Loc) (ls : Array Slot), va_P D vwCl (wE cI cZ q σ ++ tl) H → va_S A s.heap H locs → lv_has ls 4 [(0, .ref (q 3)), (1, .int y1), (2, .int y2), (3, .int v)] → W p l e { frames := 4, cells := 0, slots := 0, locals := 86 } s m ([.ref (q 3), .int x1] : List Value).toArray below meth c H locs 0 0 (gQi below D out0 (wE cI cZ q σ ++ tl) A (([.ref (q 3), .int x1] : List Value).toArray) s) (F0 m 53 ls [])) → (∀ r : Int32, out = Sum.inr r → some r = some out0) → W p l e { frames := 4, cells := 0, slots := 0, locals := 86 } s m ([.ref (q 3), .int x1] : List Value).toArray below meth c H locs 0 0 (gQi below D out0 (wE cI cZ q σ ++ tl) A (([.ref (q 3), .int x1] : List Value).toArray) s) (F0 m 13 ls []) := by
    intro σ y1 y2 fu
    induction fu with
    | zero => intro y3 H locs ls out h; exact absurd (show (none : Option ((Int32) ⊕ (Int32))) = some out from h) (fun z => by cases z)
    | succ fu ih =>
      intro y3 H locs ls out h hP hS hl K Kr
      have h : f_X_areHarmless_B13 F σ y1 y2 (f_X_areHarmless_L13 F σ y1 y2 fu) y3 = some out := h
      unfold f_X_areHarmless_B13 at h
      refine lv_iload_n hx hb d_X_areHarmless_13 rfl (lv_at hl 3 rfl) ?_
      refine lv_aload_n hx hb d_X_areHarmless_14 rfl (lv_at hl 0 rfl) ?_
      refine va_get (D := D) (ci := 3) (v := .ref (q 1)) (C := R_X) (T := T_X) (N := 2) hx hb hts l_X hown hK hP 3 rfl rfl 0 (by decide) (hts _ w_71) (fun _ h9 => h9) rfl d_X_areHarmless_15 ?_
      refine va_getN (D := D) (ci := 1) (v := .int (σ 1 1)) (C := R_P) (T := T_P) (N := 8) hx hb hts l_P hown hK hP 1 rfl rfl 1 (by decide) (va_Nw.use rfl (nf_4 hE)) (fun _ h9 => h9) rfl d_X_areHarmless_18 ?_
      refine lv_icmp_ge (tgt := 53) hx hb d_X_areHarmless_21 (by decide) (fun c => ?_) (fun c => ?_)
      · have h := ifp c h
        cases h
        exact K y3 rfl _ _ ls hP hS (lv_sub hl [0, 1, 2, 3] rfl)
      have h := ifn c h
      refine lv_aload_n hx hb d_X_areHarmless_24 rfl (lv_at hl 0 rfl) ?_
      refine va_get (D := D) (ci := 3) (v := .ref (q 1)) (C := R_X) (T := T_X) (N := 2) hx hb hts l_X hown hK hP 3 rfl rfl 0 (by decide) (hts _ w_71) (fun _ h9 => h9) rfl d_X_areHarmless_25 ?_
      refine lv_iload_n hx hb d_X_areHarmless_28 rfl (lv_at hl 1 rfl) ?_
      refine lv_iload_n hx hb d_X_areHarmless_29 rfl (lv_at hl 3 rfl) ?_
      obtain ⟨u30, hu30, h⟩ := bnd h
      refine gcall_i (va_runV (As := [.int y1, .int y3]) (rest := []) ⟨hx, hb, hml, hown, hts⟩ (c_P_isIn l D cI cZ tL q tl σ y1 y3 u30 hu30 H.size) (cwV 2 hts (gV w_318 w_215 w_216 w_2 w_217) rfl rfl rfl (by decide +kernel) ⟨Nat.le_of_ble_eq_true rfl, Nat.le_of_ble_eq_true rfl⟩) (gpV (k := 1) (ci := 1) hA hK (hD σ) hE hP hS rfl rfl) rfl rfl hl.1 rfl (lv_room (Nat.le_of_ble_eq_true rfl)) d_X_areHarmless_30 ⟨Nat.le_of_ble_eq_true rfl, Nat.le_of_ble_eq_true rfl⟩) hA (hD σ) hS (fun H locs hP hS => ?_)
      refine lv_if_eq (tgt := 47) hx hb d_X_areHarmless_33 (by decide) (fun c => ?_) (fun c => ?_)
      · have h := ifp c h
        refine lv_iinc (v := (y3 + (1 : Int32))) (lv' := [(3, .int (y3 + (1 : Int32))), (0, .ref (q 3)), (1, .int y1), (2, .int y2)]) hx hb d_X_areHarmless_47 hl (k := 3) rfl rfl (by decide) rfl (fun ls hl => ?_)
        refine lv_goto (tgt := 13) hx hb d_X_areHarmless_50 (by decide) ?_
        exact ih (y3 + (1 : Int32)) _ _ ls out h hP hS (lv_sub hl [1, 2, 3, 0] rfl) K Kr
      have h := ifn c h
      refine lv_aload_n hx hb d_X_areHarmless_36 rfl (lv_at hl 0 rfl) ?_
      refine lv_iload_n hx hb d_X_areHarmless_37 rfl (lv_at hl 3 rfl) ?_
      refine lv_iload_n hx hb d_X_areHarmless_38 rfl (lv_at hl 2 rfl) ?_
      obtain ⟨u39, hu39, h⟩ := bnd h
      refine gcall_i (va_runV (As := [.int y3, .int y2]) (rest := []) ⟨hx, hb, hml, hown, hts⟩ (c_X_isHarm l D cI cZ tL q tl σ y3 y2 u39 hu39 H.size) (cwV 2 hts (gV w_319 w_320 w_674 w_4 w_321) rfl rfl rfl (by decide +kernel) ⟨Nat.le_of_ble_eq_true rfl, Nat.le_of_ble_eq_true rfl⟩) (gpV (k := 3) (ci := 3) hA hK (hD σ) hE hP hS rfl rfl) rfl rfl hl.1 rfl (lv_room (Nat.le_of_ble_eq_true rfl)) d_X_areHarmless_39 ⟨Nat.le_of_ble_eq_true rfl, Nat.le_of_ble_eq_true rfl⟩) hA (hD σ) hS (fun H locs hP hS => ?_)
      refine lv_if_eq (tgt := 47) hx hb d_X_areHarmless_42 (by decide) (fun c => ?_) (fun c => ?_)
      · have h := ifp c h
        refine lv_iinc (v := (y3 + (1 : Int32))) (lv' := [(3, .int (y3 + (1 : Int32))), (0, .ref (q 3)), (1, .int y1), (2, .int y2)]) hx hb d_X_areHarmless_47 hl (k := 3) rfl rfl (by decide) rfl (fun ls hl => ?_)
        refine lv_goto (tgt := 13) hx hb d_X_areHarmless_50 (by decide) ?_
        exact ih (y3 + (1 : Int32)) _ _ ls out h hP hS (lv_sub hl [1, 2, 3, 0] rfl) K Kr
      have h := ifn c h
      refine lv_iconst (v := 0) hx hb d_X_areHarmless_45 (by decide) ?_
      cases h
      have h := Kr (0 : Int32) rfl
      cases h
      exact gret_z hx hb hr hlk (gz (Or.inl rfl)) hP hS d_X_areHarmless_46
  unfold f_X_areHarmless at h
  refine lv_aload_n hx hb d_X_areHarmless_0 rfl (lv_at hl 0 rfl) ?_
  refine va_get (D := D) (ci := 3) (v := .ref (q 1)) (C := R_X) (T := T_X) (N := 2) hx hb hts l_X hown hK hP 3 rfl rfl 0 (by decide) (hts _ w_71) (fun _ h9 => h9) rfl d_X_areHarmless_1 ?_
  refine lv_iload_n hx hb d_X_areHarmless_4 rfl (lv_at hl 1 rfl) ?_
  obtain ⟨u5, hu5, h⟩ := bnd h
  refine gcall_i (va_runV (As := [.int x1]) (rest := []) ⟨hx, hb, hml, hown, hts⟩ (c_P_madeBy l D cI cZ tL q tl F σ x1 u5 hu5 s.heap.size) (cwV 1 hts (gV w_283 w_260 w_261 w_2 w_262) rfl rfl rfl (by decide +kernel) ⟨Nat.le_of_ble_eq_true rfl, Nat.le_of_ble_eq_true rfl⟩) (gpV (k := 1) (ci := 1) hA hK (hD σ) hE hP hS rfl rfl) rfl rfl hl.1 rfl (lv_room (Nat.le_of_ble_eq_true rfl)) d_X_areHarmless_5 ⟨Nat.le_of_ble_eq_true rfl, Nat.le_of_ble_eq_true rfl⟩) hA (hD σ) hS (fun H locs hP hS => ?_)
  refine lv_iconst (v := -1) hx hb d_X_areHarmless_8 (by decide) ?_
  refine lv_ixor hx hb d_X_areHarmless_9 ?_
  refine lv_istore_n (lv' := [(2, .int (u5 ^^^ (-1 : Int32))), (0, .ref (q 3)), (1, .int x1)]) hx hb d_X_areHarmless_10 rfl hl (by decide) rfl (fun ls hl => ?_)
  refine lv_iconst (v := 0) hx hb d_X_areHarmless_11 (by decide) ?_
  refine lv_istore_n (lv' := [(3, .int (0 : Int32)), (2, .int (u5 ^^^ (-1 : Int32))), (0, .ref (q 3)), (1, .int x1)]) hx hb d_X_areHarmless_12 rfl hl (by decide) rfl (fun ls hl => ?_)
  obtain ⟨u13, hu13, h⟩ := bnd h
  refine L13 σ x1 (u5 ^^^ (-1 : Int32)) F (0 : Int32) _ _ ls u13 hu13 hP hS (lv_sub hl [2, 3, 1, 0] rfl) (fun v13 hv13 H locs ls hP hS hl => ?_) (fun r13 hr13 => by rw [hr13] at h; exact h)
  subst hv13
  have h := elimL h
  refine lv_iconst (v := 1) hx hb d_X_areHarmless_53 (by decide) ?_
  cases h
  exact gret_z hx hb hr hlk (gz (Or.inr rfl)) hP hS d_X_areHarmless_54
/-! ===== EscapeOwners$Escapes.pureMethods()I ===== -/
def f_X_pureMethods_B4 (F : Nat) (σ : St) (rec : Int32 → Int32 → Option (Int32 × Int32)) (y1 : Int32) (y2 : Int32) : Option (Int32 × Int32) := if (8 : Int32) ≤ y2 then (some (y1, y2)) else (Option.bind (f_E_has (σ 2 7) y2) (fun u18 => if u18 = 0 then (rec y1 (y2 + (1 : Int32))) else (Option.bind (f_S_withCallees F σ ((1 : Int32) <<< (y2 &&& 31))) (fun u32 => Option.bind (f_X_areHarmless F σ u32) (fun u35 => if u35 = 0 then (rec y1 (y2 + (1 : Int32))) else (rec (y1 ||| ((1 : Int32) <<< (y2 &&& 31))) (y2 + (1 : Int32))))))))
def f_X_pureMethods_L4 (F : Nat) (σ : St) : Nat → Int32 → Int32 → Option (Int32 × Int32)
  | 0, _, _ => none
  | fu + 1, y1, y2 => f_X_pureMethods_B4 F σ (f_X_pureMethods_L4 F σ fu) y1 y2
def f_X_pureMethods (F : Nat) (σ : St) : Option (Int32) := Option.bind (f_X_pureMethods_L4 F σ F (0 : Int32) (0 : Int32)) (fun u4 => some u4.1)
set_option maxHeartbeats 4000000 in
set_option maxRecDepth 100000 in
theorem c_X_pureMethods (l : Launch) (D : va_G) (cI cZ : ClassId) (tL : Nat) (q : Nat → Nat) (tl : va_W) (F : Nat) (σ : St) (out0 : Int32) (h : f_X_pureMethods F σ = some out0) : gCi l y_X_pureMethods (.code y_X_pureMethods b_X_pureMethods 3 (some .int) :: TB) { frames := 5, cells := 0, slots := 0, locals := 109 } D [(cI, .int), (cZ, .boolean)] tL [.ref (q 3)] (wE cI cZ q σ ++ tl) out0 (wE cI cZ q σ ++ tl) := by
  refine gCi_of (cc := b_X_pureMethods) (maxL := 3) (ty := .int) (by decide) rfl (Nat.le_of_ble_eq_true rfl) ?_
  intro p e s m below meth c A ls hf hr hlk hA hK hD0 hE hP hl
  obtain ⟨hx, hb, hml, hown, hts⟩ := id hf
  have hts : ∀ w ∈ TB, w.before _ s = true := fun w h => hts w (List.mem_cons_of_mem _ h)
  have hown : s.vm.findClass R_X = some m.cls := hown
  have hl : lv_has ls 3 [(0, .ref (q 3))] := hl
  have hS : va_S A s.heap s.heap [] := va_S.rf
  have hD : ∀ σ' : St, va_D A (wE cI cZ q σ' ++ tl) := fun σ' => va_Dsame hD0 rfl
  have L4 : ∀ (σ : St) (fu : Nat) (y1 : Int32) (y2 : Int32) (H : Heap) (locs : List Loc) (ls : Array Slot) (out : Int32 × Int32), f_X_pureMethods_L4 F σ fu y1 y2 = some out → va_P D vwCl (wE cI cZ q σ ++ tl) H → va_S A s.heap H locs → lv_has ls 3 [(0, .ref (q 3)), (1, .int y1), (2, .int y2)] → (∀ (H : Heap) (locs : List Loc) (ls : Array Slot), va_P D vwCl (wE cI cZ q σ ++ tl) H → va_S A s.heap H locs → lv_has ls 3 [(0, .ref (q 3)), (1, .int out.1), (2, .int out.2)] → W p l e { frames := 5, cells := 0, slots := 0, locals := 109 } s m ([.ref (q 3)] : List Value).toArray below meth c H locs 0 0 (gQi below D out0 (wE cI cZ q σ ++ tl) A (([.ref (q 3)] : List Value).toArray) s) (F0 m 53 ls [])) → W p l e { frames := 5, cells := 0, slots := 0, locals := 109 } s m ([.ref (q 3)] : List Value).toArray below meth c H locs 0 0 (gQi below D out0 (wE cI cZ q σ ++ tl) A (([.ref (q 3)] : List Value).toArray) s) (F0 m 4 ls []) := by
    intro σ fu
    induction fu with
    | zero => intro y1 y2 H locs ls out h; exact absurd (show (none : Option (Int32 × Int32)) = some out from h) (fun z => by cases z)
    | succ fu ih =>
      intro y1 y2 H locs ls out h hP hS hl K
      have h : f_X_pureMethods_B4 F σ (f_X_pureMethods_L4 F σ fu) y1 y2 = some out := h
      unfold f_X_pureMethods_B4 at h
      refine lv_iload_n hx hb d_X_pureMethods_4 rfl (lv_at hl 2 rfl) ?_
      refine lv_bipush (v := 8) hx hb d_X_pureMethods_5 (by decide) ?_
      refine lv_icmp_ge (tgt := 53) hx hb d_X_pureMethods_7 (by decide) (fun c => ?_) (fun c => ?_)
      · have h := ifp c h
        cases h
        exact K _ _ ls hP hS (lv_sub hl [0, 1, 2] rfl)
      have h := ifn c h
      refine lv_aload_n hx hb d_X_pureMethods_10 rfl (lv_at hl 0 rfl) ?_
      refine va_get (D := D) (ci := 3) (v := .ref (q 2)) (C := R_X) (T := T_X) (N := 2) hx hb hts l_X hown hK hP 3 rfl rfl 1 (by decide) (hts _ w_72) (fun _ h9 => h9) rfl d_X_pureMethods_11 ?_
      refine va_getN (D := D) (ci := 2) (v := .int (σ 2 7)) (C := R_S) (T := T_S) (N := 11) hx hb hts l_S hown hK hP 2 rfl rfl 7 (by decide) (va_Nw.use rfl (nf_13 hE)) (fun _ h9 => h9) rfl d_X_pureMethods_14 ?_
      refine lv_iload_n hx hb d_X_pureMethods_17 rfl (lv_at hl 2 rfl) ?_
      obtain ⟨u18, hu18, h⟩ := bnd h
      refine gcall_i (va_runSN (As := [.int (σ 2 7), .int y2]) (rest := []) ⟨hx, hb, hml, hown, hts⟩ (c_E_has l D cI cZ tL (wE cI cZ q σ ++ tl) (σ 2 7) y2 u18 hu18 H.size) ⟨va_cnB 2 hts (TB_code w_210) rfl rfl rfl (nm_9 hE) (hts _ w_1) (by decide +kernel) ⟨Nat.le_of_ble_eq_true rfl, Nat.le_of_ble_eq_true rfl⟩, hts _ w_209, trivial⟩ (gpS hA hK (hD σ) hE hP hS) rfl rfl hl.1 rfl (lv_room (Nat.le_of_ble_eq_true rfl)) d_X_pureMethods_18 ⟨Nat.le_of_ble_eq_true rfl, Nat.le_of_ble_eq_true rfl⟩) hA (hD σ) hS (fun H locs hP hS => ?_)
      refine lv_if_eq (tgt := 47) hx hb d_X_pureMethods_21 (by decide) (fun c => ?_) (fun c => ?_)
      · have h := ifp c h
        refine lv_iinc (v := (y2 + (1 : Int32))) (lv' := [(2, .int (y2 + (1 : Int32))), (0, .ref (q 3)), (1, .int y1)]) hx hb d_X_pureMethods_47 hl (k := 2) rfl rfl (by decide) rfl (fun ls hl => ?_)
        refine lv_goto (tgt := 4) hx hb d_X_pureMethods_50 (by decide) ?_
        exact ih y1 (y2 + (1 : Int32)) _ _ ls out h hP hS (lv_sub hl [1, 2, 0] rfl) K
      have h := ifn c h
      refine lv_aload_n hx hb d_X_pureMethods_24 rfl (lv_at hl 0 rfl) ?_
      refine lv_aload_n hx hb d_X_pureMethods_25 rfl (lv_at hl 0 rfl) ?_
      refine va_get (D := D) (ci := 3) (v := .ref (q 2)) (C := R_X) (T := T_X) (N := 2) hx hb hts l_X hown hK hP 3 rfl rfl 1 (by decide) (hts _ w_72) (fun _ h9 => h9) rfl d_X_pureMethods_26 ?_
      refine lv_iconst (v := 1) hx hb d_X_pureMethods_29 (by decide) ?_
      refine lv_iload_n hx hb d_X_pureMethods_30 rfl (lv_at hl 2 rfl) ?_
      refine lv_ishl hx hb d_X_pureMethods_31 ?_
      obtain ⟨u32, hu32, h⟩ := bnd h
      refine gcall_i (va_runV (As := [.int ((1 : Int32) <<< (y2 &&& 31))]) (rest := [.ref (q 3)]) ⟨hx, hb, hml, hown, hts⟩ (c_S_withCallees l D cI cZ tL q tl F σ ((1 : Int32) <<< (y2 &&& 31)) u32 hu32 H.size) (cwV 1 hts (gV w_314 w_206 w_207 w_3 w_208) rfl rfl rfl (by decide +kernel) ⟨Nat.le_of_ble_eq_true rfl, Nat.le_of_ble_eq_true rfl⟩) (gpV (k := 2) (ci := 2) hA hK (hD σ) hE hP hS rfl rfl) rfl rfl hl.1 rfl (lv_room (Nat.le_of_ble_eq_true rfl)) d_X_pureMethods_32 ⟨Nat.le_of_ble_eq_true rfl, Nat.le_of_ble_eq_true rfl⟩) hA (hD σ) hS (fun H locs hP hS => ?_)
      obtain ⟨u35, hu35, h⟩ := bnd h
      refine gcall_i (va_runV (As := [.int u32]) (rest := []) ⟨hx, hb, hml, hown, hts⟩ (c_X_areHarmless l D cI cZ tL q tl F σ u32 u35 hu35 H.size) (cwV 1 hts (gV w_315 w_316 w_672 w_4 w_317) rfl rfl rfl (by decide +kernel) ⟨Nat.le_of_ble_eq_true rfl, Nat.le_of_ble_eq_true rfl⟩) (gpV (k := 3) (ci := 3) hA hK (hD σ) hE hP hS rfl rfl) rfl rfl hl.1 rfl (lv_room (Nat.le_of_ble_eq_true rfl)) d_X_pureMethods_35 ⟨Nat.le_of_ble_eq_true rfl, Nat.le_of_ble_eq_true rfl⟩) hA (hD σ) hS (fun H locs hP hS => ?_)
      refine lv_if_eq (tgt := 47) hx hb d_X_pureMethods_38 (by decide) (fun c => ?_) (fun c => ?_)
      · have h := ifp c h
        refine lv_iinc (v := (y2 + (1 : Int32))) (lv' := [(2, .int (y2 + (1 : Int32))), (0, .ref (q 3)), (1, .int y1)]) hx hb d_X_pureMethods_47 hl (k := 2) rfl rfl (by decide) rfl (fun ls hl => ?_)
        refine lv_goto (tgt := 4) hx hb d_X_pureMethods_50 (by decide) ?_
        exact ih y1 (y2 + (1 : Int32)) _ _ ls out h hP hS (lv_sub hl [1, 2, 0] rfl) K
      have h := ifn c h
      refine lv_iload_n hx hb d_X_pureMethods_41 rfl (lv_at hl 1 rfl) ?_
      refine lv_iconst (v := 1) hx hb d_X_pureMethods_42 (by decide) ?_
      refine lv_iload_n hx hb d_X_pureMethods_43 rfl (lv_at hl 2 rfl) ?_
      refine lv_ishl hx hb d_X_pureMethods_44 ?_
      refine lv_ior hx hb d_X_pureMethods_45 ?_
      refine lv_istore_n (lv' := [(1, .int (y1 ||| ((1 : Int32) <<< (y2 &&& 31)))), (0, .ref (q 3)), (2, .int y2)]) hx hb d_X_pureMethods_46 rfl hl (by decide) rfl (fun ls hl => ?_)
      refine lv_iinc (v := (y2 + (1 : Int32))) (lv' := [(2, .int (y2 + (1 : Int32))), (1, .int (y1 ||| ((1 : Int32) <<< (y2 &&& 31)))), (0, .ref (q 3))]) hx hb d_X_pureMethods_47 hl (k := 2) rfl rfl (by decide) rfl (fun ls hl => ?_)
      refine lv_goto (tgt := 4) hx hb d_X_pureMethods_50 (by decide) ?_
      exact ih (y1 ||| ((1 : Int32) <<< (y2 &&& 31))) (y2 + (1 : Int32)) _ _ ls out h hP hS (lv_sub hl [2, 1, 0] rfl) K
  unfold f_X_pureMethods at h
  refine lv_iconst (v := 0) hx hb d_X_pureMethods_0 (by decide) ?_
  refine lv_istore_n (lv' := [(1, .int (0 : Int32)), (0, .ref (q 3))]) hx hb d_X_pureMethods_1 rfl hl (by decide) rfl (fun ls hl => ?_)
  refine lv_iconst (v := 0) hx hb d_X_pureMethods_2 (by decide) ?_
  refine lv_istore_n (lv' := [(2, .int (0 : Int32)), (1, .int (0 : Int32)), (0, .ref (q 3))]) hx hb d_X_pureMethods_3 rfl hl (by decide) rfl (fun ls hl => ?_)
  obtain ⟨u4, hu4, h⟩ := bnd h
  refine L4 σ F (0 : Int32) (0 : Int32) _ _ ls u4 hu4 hP hS (lv_sub hl [2, 1, 0] rfl) (fun H locs ls hP hS hl => ?_)
  refine lv_iload_n hx hb d_X_pureMethods_53 rfl (lv_at hl 1 rfl) ?_
  cases h
  exact gret_i hx hb hr hlk hP hS d_X_pureMethods_54
/-! ===== EscapeOwners$Escapes.isFresh(I)Z ===== -/
def f_X_isFresh (F : Nat) (σ : St) (x1 : Int32) : Option (Int32) := Option.bind (f_E_at 8 (σ 14) x1) (fun u8 => Option.bind (f_P_madeBy F σ ((1 : Int32) <<< (x1 &&& 31))) (fun u19 => Option.bind (f_S_ofParameters F σ x1) (fun u37 => Option.bind (f_P_madeBy F σ (σ 2 7)) (fun u56 => Option.bind (f_S_heldBy F σ u56) (fun u59 => if u8 = 0 then (some (0 : Int32)) else (if (u8 &&& ((((u19 ^^^ (-1 : Int32)) ||| (σ 2 8)) ||| u37) ||| u59)) = 0 then (some (1 : Int32)) else (some (0 : Int32))))))))
set_option maxHeartbeats 4000000 in
set_option maxRecDepth 100000 in
theorem c_X_isFresh (l : Launch) (D : va_G) (cI cZ : ClassId) (tL : Nat) (q : Nat → Nat) (tl : va_W) (F : Nat) (σ : St) (x1 : Int32) (out0 : Int32) (h : f_X_isFresh F σ x1 = some out0) : gCi l y_X_isFresh (.code y_X_isFresh b_X_isFresh 4 (some .boolean) :: TB) { frames := 4, cells := 0, slots := 0, locals := 90 } D [(cI, .int), (cZ, .boolean)] tL [.ref (q 3), .int x1] (wE cI cZ q σ ++ tl) out0 (wE cI cZ q σ ++ tl) := by
  refine gCi_of (cc := b_X_isFresh) (maxL := 4) (ty := .boolean) (by decide) rfl (Nat.le_of_ble_eq_true rfl) ?_
  intro p e s m below meth c A ls hf hr hlk hA hK hD0 hE hP hl
  obtain ⟨hx, hb, hml, hown, hts⟩ := id hf
  have hts : ∀ w ∈ TB, w.before _ s = true := fun w h => hts w (List.mem_cons_of_mem _ h)
  have hown : s.vm.findClass R_X = some m.cls := hown
  have hl : lv_has ls 4 [(0, .ref (q 3)), (1, .int x1)] := hl
  have hS : va_S A s.heap s.heap [] := va_S.rf
  have hD : ∀ σ' : St, va_D A (wE cI cZ q σ' ++ tl) := fun σ' => va_Dsame hD0 rfl
  unfold f_X_isFresh at h
  refine lv_aload_n hx hb d_X_isFresh_0 rfl (lv_at hl 0 rfl) ?_
  refine va_get (D := D) (ci := 3) (v := .ref (q 2)) (C := R_X) (T := T_X) (N := 2) hx hb hts l_X hown hK hP 3 rfl rfl 1 (by decide) (hts _ w_72) (fun _ h9 => h9) rfl d_X_isFresh_1 ?_
  refine va_getN (D := D) (ci := 2) (v := .ref (q 14)) (C := R_S) (T := T_S) (N := 11) hx hb hts l_S hown hK hP 2 rfl rfl 5 (by decide) (va_Nw.use rfl (nf_9 hE)) (fun _ h9 => h9) rfl d_X_isFresh_4 ?_
  refine lv_iload_n hx hb d_X_isFresh_7 rfl (lv_at hl 1 rfl) ?_
  obtain ⟨u8, hu8, h⟩ := bnd h
  refine gcall_i (va_runSN (As := [.ref (q 14), .int x1]) (rest := []) ⟨hx, hb, hml, hown, hts⟩ (c_E_at_u l D cI cZ tL (wE cI cZ q σ ++ tl) 14 (q 14) 8 (σ 14) rfl x1 u8 hu8 s.heap.size) ⟨va_cnB 2 hts (TB_code w_133) rfl rfl rfl (nm_8 hE) (hts _ w_1) (by decide +kernel) ⟨Nat.le_of_ble_eq_true rfl, Nat.le_of_ble_eq_true rfl⟩, hts _ w_132, trivial⟩ (gpS hA hK (hD σ) hE hP hS) rfl rfl hl.1 rfl (lv_room (Nat.le_of_ble_eq_true rfl)) d_X_isFresh_8 ⟨Nat.le_of_ble_eq_true rfl, Nat.le_of_ble_eq_true rfl⟩) hA (hD σ) hS (fun H locs hP hS => ?_)
  refine lv_istore_n (lv' := [(2, .int u8), (0, .ref (q 3)), (1, .int x1)]) hx hb d_X_isFresh_11 rfl hl (by decide) rfl (fun ls hl => ?_)
  refine lv_aload_n hx hb d_X_isFresh_12 rfl (lv_at hl 1 rfl) ?_
  refine va_get (D := D) (ci := 3) (v := .ref (q 1)) (C := R_X) (T := T_X) (N := 2) hx hb hts l_X hown hK hP 3 rfl rfl 0 (by decide) (hts _ w_71) (fun _ h9 => h9) rfl d_X_isFresh_13 ?_
  refine lv_iconst (v := 1) hx hb d_X_isFresh_16 (by decide) ?_
  refine lv_iload_n hx hb d_X_isFresh_17 rfl (lv_at hl 2 rfl) ?_
  refine lv_ishl hx hb d_X_isFresh_18 ?_
  obtain ⟨u19, hu19, h⟩ := bnd h
  refine gcall_i (va_runV (As := [.int ((1 : Int32) <<< (x1 &&& 31))]) (rest := []) ⟨hx, hb, hml, hown, hts⟩ (c_P_madeBy l D cI cZ tL q tl F σ ((1 : Int32) <<< (x1 &&& 31)) u19 hu19 H.size) (cwV 1 hts (gV w_283 w_260 w_261 w_2 w_262) rfl rfl rfl (by decide +kernel) ⟨Nat.le_of_ble_eq_true rfl, Nat.le_of_ble_eq_true rfl⟩) (gpV (k := 1) (ci := 1) hA hK (hD σ) hE hP hS rfl rfl) rfl rfl hl.1 rfl (lv_room (Nat.le_of_ble_eq_true rfl)) d_X_isFresh_19 ⟨Nat.le_of_ble_eq_true rfl, Nat.le_of_ble_eq_true rfl⟩) hA (hD σ) hS (fun H locs hP hS => ?_)
  refine lv_iconst (v := -1) hx hb d_X_isFresh_22 (by decide) ?_
  refine lv_ixor hx hb d_X_isFresh_23 ?_
  refine lv_aload_n hx hb d_X_isFresh_24 rfl (lv_at hl 1 rfl) ?_
  refine va_get (D := D) (ci := 3) (v := .ref (q 2)) (C := R_X) (T := T_X) (N := 2) hx hb hts l_X hown hK hP 3 rfl rfl 1 (by decide) (hts _ w_72) (fun _ h9 => h9) rfl d_X_isFresh_25 ?_
  refine va_getN (D := D) (ci := 2) (v := .int (σ 2 8)) (C := R_S) (T := T_S) (N := 11) hx hb hts l_S hown hK hP 2 rfl rfl 8 (by decide) (va_Nw.use rfl (nf_14 hE)) (fun _ h9 => h9) rfl d_X_isFresh_28 ?_
  refine lv_ior hx hb d_X_isFresh_31 ?_
  refine lv_aload_n hx hb d_X_isFresh_32 rfl (lv_at hl 1 rfl) ?_
  refine va_get (D := D) (ci := 3) (v := .ref (q 2)) (C := R_X) (T := T_X) (N := 2) hx hb hts l_X hown hK hP 3 rfl rfl 1 (by decide) (hts _ w_72) (fun _ h9 => h9) rfl d_X_isFresh_33 ?_
  refine lv_iload_n hx hb d_X_isFresh_36 rfl (lv_at hl 2 rfl) ?_
  obtain ⟨u37, hu37, h⟩ := bnd h
  refine gcall_i (va_runV (As := [.int x1]) (rest := [.int ((u19 ^^^ (-1 : Int32)) ||| (σ 2 8))]) ⟨hx, hb, hml, hown, hts⟩ (c_S_ofParameters l D cI cZ tL q tl F σ x1 u37 hu37 H.size) (cwV 1 hts (gV w_275 w_276 w_277 w_3 w_278) rfl rfl rfl (by decide +kernel) ⟨Nat.le_of_ble_eq_true rfl, Nat.le_of_ble_eq_true rfl⟩) (gpV (k := 2) (ci := 2) hA hK (hD σ) hE hP hS rfl rfl) rfl rfl hl.1 rfl (lv_room (Nat.le_of_ble_eq_true rfl)) d_X_isFresh_37 ⟨Nat.le_of_ble_eq_true rfl, Nat.le_of_ble_eq_true rfl⟩) hA (hD σ) hS (fun H locs hP hS => ?_)
  refine lv_ior hx hb d_X_isFresh_40 ?_
  refine lv_aload_n hx hb d_X_isFresh_41 rfl (lv_at hl 1 rfl) ?_
  refine va_get (D := D) (ci := 3) (v := .ref (q 2)) (C := R_X) (T := T_X) (N := 2) hx hb hts l_X hown hK hP 3 rfl rfl 1 (by decide) (hts _ w_72) (fun _ h9 => h9) rfl d_X_isFresh_42 ?_
  refine lv_aload_n hx hb d_X_isFresh_45 rfl (lv_at hl 1 rfl) ?_
  refine va_get (D := D) (ci := 3) (v := .ref (q 1)) (C := R_X) (T := T_X) (N := 2) hx hb hts l_X hown hK hP 3 rfl rfl 0 (by decide) (hts _ w_71) (fun _ h9 => h9) rfl d_X_isFresh_46 ?_
  refine lv_aload_n hx hb d_X_isFresh_49 rfl (lv_at hl 1 rfl) ?_
  refine va_get (D := D) (ci := 3) (v := .ref (q 2)) (C := R_X) (T := T_X) (N := 2) hx hb hts l_X hown hK hP 3 rfl rfl 1 (by decide) (hts _ w_72) (fun _ h9 => h9) rfl d_X_isFresh_50 ?_
  refine va_getN (D := D) (ci := 2) (v := .int (σ 2 7)) (C := R_S) (T := T_S) (N := 11) hx hb hts l_S hown hK hP 2 rfl rfl 7 (by decide) (va_Nw.use rfl (nf_13 hE)) (fun _ h9 => h9) rfl d_X_isFresh_53 ?_
  obtain ⟨u56, hu56, h⟩ := bnd h
  refine gcall_i (va_runV (As := [.int (σ 2 7)]) (rest := [.ref (q 2), .int (((u19 ^^^ (-1 : Int32)) ||| (σ 2 8)) ||| u37)]) ⟨hx, hb, hml, hown, hts⟩ (c_P_madeBy l D cI cZ tL q tl F σ (σ 2 7) u56 hu56 H.size) (cwV 1 hts (gV w_283 w_260 w_261 w_2 w_262) rfl rfl rfl (by decide +kernel) ⟨Nat.le_of_ble_eq_true rfl, Nat.le_of_ble_eq_true rfl⟩) (gpV (k := 1) (ci := 1) hA hK (hD σ) hE hP hS rfl rfl) rfl rfl hl.1 rfl (lv_room (Nat.le_of_ble_eq_true rfl)) d_X_isFresh_56 ⟨Nat.le_of_ble_eq_true rfl, Nat.le_of_ble_eq_true rfl⟩) hA (hD σ) hS (fun H locs hP hS => ?_)
  obtain ⟨u59, hu59, h⟩ := bnd h
  refine gcall_i (va_runVN (As := [.int u56]) (rest := [.int (((u19 ^^^ (-1 : Int32)) ||| (σ 2 8)) ||| u37)]) ⟨hx, hb, hml, hown, hts⟩ (c_S_heldBy l D cI cZ tL q tl F σ u56 u59 hu59 H.size) ⟨va_cnB 1 hts (TB_code w_258) rfl rfl rfl (nm_10 hE) (hts _ w_3) (by decide +kernel) ⟨Nat.le_of_ble_eq_true rfl, Nat.le_of_ble_eq_true rfl⟩, hts _ w_257, hts _ w_680⟩ (gpV (k := 2) (ci := 2) hA hK (hD σ) hE hP hS rfl rfl) rfl rfl hl.1 rfl (lv_room (Nat.le_of_ble_eq_true rfl)) d_X_isFresh_59 ⟨Nat.le_of_ble_eq_true rfl, Nat.le_of_ble_eq_true rfl⟩) hA (hD σ) hS (fun H locs hP hS => ?_)
  refine lv_ior hx hb d_X_isFresh_62 ?_
  refine lv_istore_n (lv' := [(3, .int ((((u19 ^^^ (-1 : Int32)) ||| (σ 2 8)) ||| u37) ||| u59)), (2, .int u8), (0, .ref (q 3)), (1, .int x1)]) hx hb d_X_isFresh_63 rfl hl (by decide) rfl (fun ls hl => ?_)
  refine lv_iload_n hx hb d_X_isFresh_64 rfl (lv_at hl 1 rfl) ?_
  refine lv_if_eq (tgt := 78) hx hb d_X_isFresh_65 (by decide) (fun c => ?_) (fun c => ?_)
  · have h := ifp c h
    refine lv_iconst (v := 0) hx hb d_X_isFresh_78 (by decide) ?_
    cases h
    exact gret_z hx hb hr hlk (gz (Or.inl rfl)) hP hS d_X_isFresh_79
  have h := ifn c h
  refine lv_iload_n hx hb d_X_isFresh_68 rfl (lv_at hl 1 rfl) ?_
  refine lv_iload_n hx hb d_X_isFresh_69 rfl (lv_at hl 0 rfl) ?_
  refine lv_iand hx hb d_X_isFresh_70 ?_
  refine lv_if_ne (tgt := 78) hx hb d_X_isFresh_71 (by decide) (fun c => ?_) (fun c => ?_)
  · have h := ifn c h
    refine lv_iconst (v := 0) hx hb d_X_isFresh_78 (by decide) ?_
    cases h
    exact gret_z hx hb hr hlk (gz (Or.inl rfl)) hP hS d_X_isFresh_79
  have h := ifp c h
  refine lv_iconst (v := 1) hx hb d_X_isFresh_74 (by decide) ?_
  refine lv_goto (tgt := 79) hx hb d_X_isFresh_75 (by decide) ?_
  cases h
  exact gret_z hx hb hr hlk (gz (Or.inr rfl)) hP hS d_X_isFresh_79
/-! ===== EscapeOwners$Escapes.freshMethods()I ===== -/
def f_X_freshMethods_B4 (F : Nat) (σ : St) (rec : Int32 → Int32 → Option (Int32 × Int32)) (y1 : Int32) (y2 : Int32) : Option (Int32 × Int32) := if (8 : Int32) ≤ y2 then (some (y1, y2)) else (Option.bind (f_X_isFresh F σ y2) (fun u12 => if u12 = 0 then (rec y1 (y2 + (1 : Int32))) else (rec (y1 ||| ((1 : Int32) <<< (y2 &&& 31))) (y2 + (1 : Int32)))))
def f_X_freshMethods_L4 (F : Nat) (σ : St) : Nat → Int32 → Int32 → Option (Int32 × Int32)
  | 0, _, _ => none
  | fu + 1, y1, y2 => f_X_freshMethods_B4 F σ (f_X_freshMethods_L4 F σ fu) y1 y2
def f_X_freshMethods (F : Nat) (σ : St) : Option (Int32) := Option.bind (f_X_freshMethods_L4 F σ F (0 : Int32) (0 : Int32)) (fun u4 => some u4.1)
set_option maxHeartbeats 4000000 in
set_option maxRecDepth 100000 in
theorem c_X_freshMethods (l : Launch) (D : va_G) (cI cZ : ClassId) (tL : Nat) (q : Nat → Nat) (tl : va_W) (F : Nat) (σ : St) (out0 : Int32) (h : f_X_freshMethods F σ = some out0) : gCi l y_X_freshMethods (.code y_X_freshMethods b_X_freshMethods 3 (some .int) :: TB) { frames := 5, cells := 0, slots := 0, locals := 113 } D [(cI, .int), (cZ, .boolean)] tL [.ref (q 3)] (wE cI cZ q σ ++ tl) out0 (wE cI cZ q σ ++ tl) := by
  refine gCi_of (cc := b_X_freshMethods) (maxL := 3) (ty := .int) (by decide) rfl (Nat.le_of_ble_eq_true rfl) ?_
  intro p e s m below meth c A ls hf hr hlk hA hK hD0 hE hP hl
  obtain ⟨hx, hb, hml, hown, hts⟩ := id hf
  have hts : ∀ w ∈ TB, w.before _ s = true := fun w h => hts w (List.mem_cons_of_mem _ h)
  have hown : s.vm.findClass R_X = some m.cls := hown
  have hl : lv_has ls 3 [(0, .ref (q 3))] := hl
  have hS : va_S A s.heap s.heap [] := va_S.rf
  have hD : ∀ σ' : St, va_D A (wE cI cZ q σ' ++ tl) := fun σ' => va_Dsame hD0 rfl
  have L4 : ∀ (σ : St) (fu : Nat) (y1 : Int32) (y2 : Int32) (H : Heap) (locs : List Loc) (ls : Array Slot) (out : Int32 × Int32), f_X_freshMethods_L4 F σ fu y1 y2 = some out → va_P D vwCl (wE cI cZ q σ ++ tl) H → va_S A s.heap H locs → lv_has ls 3 [(0, .ref (q 3)), (1, .int y1), (2, .int y2)] → (∀ (H : Heap) (locs : List Loc) (ls : Array Slot), va_P D vwCl (wE cI cZ q σ ++ tl) H → va_S A s.heap H locs → lv_has ls 3 [(0, .ref (q 3)), (1, .int out.1), (2, .int out.2)] → W p l e { frames := 5, cells := 0, slots := 0, locals := 113 } s m ([.ref (q 3)] : List Value).toArray below meth c H locs 0 0 (gQi below D out0 (wE cI cZ q σ ++ tl) A (([.ref (q 3)] : List Value).toArray) s) (F0 m 30 ls [])) → W p l e { frames := 5, cells := 0, slots := 0, locals := 113 } s m ([.ref (q 3)] : List Value).toArray below meth c H locs 0 0 (gQi below D out0 (wE cI cZ q σ ++ tl) A (([.ref (q 3)] : List Value).toArray) s) (F0 m 4 ls []) := by
    intro σ fu
    induction fu with
    | zero => intro y1 y2 H locs ls out h; exact absurd (show (none : Option (Int32 × Int32)) = some out from h) (fun z => by cases z)
    | succ fu ih =>
      intro y1 y2 H locs ls out h hP hS hl K
      have h : f_X_freshMethods_B4 F σ (f_X_freshMethods_L4 F σ fu) y1 y2 = some out := h
      unfold f_X_freshMethods_B4 at h
      refine lv_iload_n hx hb d_X_freshMethods_4 rfl (lv_at hl 2 rfl) ?_
      refine lv_bipush (v := 8) hx hb d_X_freshMethods_5 (by decide) ?_
      refine lv_icmp_ge (tgt := 30) hx hb d_X_freshMethods_7 (by decide) (fun c => ?_) (fun c => ?_)
      · have h := ifp c h
        cases h
        exact K _ _ ls hP hS (lv_sub hl [0, 1, 2] rfl)
      have h := ifn c h
      refine lv_aload_n hx hb d_X_freshMethods_10 rfl (lv_at hl 0 rfl) ?_
      refine lv_iload_n hx hb d_X_freshMethods_11 rfl (lv_at hl 2 rfl) ?_
      obtain ⟨u12, hu12, h⟩ := bnd h
      refine gcall_i (va_runV (As := [.int y2]) (rest := []) ⟨hx, hb, hml, hown, hts⟩ (c_X_isFresh l D cI cZ tL q tl F σ y2 u12 hu12 H.size) (cwV 1 hts (gV w_326 w_327 w_673 w_4 w_328) rfl rfl rfl (by decide +kernel) ⟨Nat.le_of_ble_eq_true rfl, Nat.le_of_ble_eq_true rfl⟩) (gpV (k := 3) (ci := 3) hA hK (hD σ) hE hP hS rfl rfl) rfl rfl hl.1 rfl (lv_room (Nat.le_of_ble_eq_true rfl)) d_X_freshMethods_12 ⟨Nat.le_of_ble_eq_true rfl, Nat.le_of_ble_eq_true rfl⟩) hA (hD σ) hS (fun H locs hP hS => ?_)
      refine lv_if_eq (tgt := 24) hx hb d_X_freshMethods_15 (by decide) (fun c => ?_) (fun c => ?_)
      · have h := ifp c h
        refine lv_iinc (v := (y2 + (1 : Int32))) (lv' := [(2, .int (y2 + (1 : Int32))), (0, .ref (q 3)), (1, .int y1)]) hx hb d_X_freshMethods_24 hl (k := 2) rfl rfl (by decide) rfl (fun ls hl => ?_)
        refine lv_goto (tgt := 4) hx hb d_X_freshMethods_27 (by decide) ?_
        exact ih y1 (y2 + (1 : Int32)) _ _ ls out h hP hS (lv_sub hl [1, 2, 0] rfl) K
      have h := ifn c h
      refine lv_iload_n hx hb d_X_freshMethods_18 rfl (lv_at hl 1 rfl) ?_
      refine lv_iconst (v := 1) hx hb d_X_freshMethods_19 (by decide) ?_
      refine lv_iload_n hx hb d_X_freshMethods_20 rfl (lv_at hl 2 rfl) ?_
      refine lv_ishl hx hb d_X_freshMethods_21 ?_
      refine lv_ior hx hb d_X_freshMethods_22 ?_
      refine lv_istore_n (lv' := [(1, .int (y1 ||| ((1 : Int32) <<< (y2 &&& 31)))), (0, .ref (q 3)), (2, .int y2)]) hx hb d_X_freshMethods_23 rfl hl (by decide) rfl (fun ls hl => ?_)
      refine lv_iinc (v := (y2 + (1 : Int32))) (lv' := [(2, .int (y2 + (1 : Int32))), (1, .int (y1 ||| ((1 : Int32) <<< (y2 &&& 31)))), (0, .ref (q 3))]) hx hb d_X_freshMethods_24 hl (k := 2) rfl rfl (by decide) rfl (fun ls hl => ?_)
      refine lv_goto (tgt := 4) hx hb d_X_freshMethods_27 (by decide) ?_
      exact ih (y1 ||| ((1 : Int32) <<< (y2 &&& 31))) (y2 + (1 : Int32)) _ _ ls out h hP hS (lv_sub hl [2, 1, 0] rfl) K
  unfold f_X_freshMethods at h
  refine lv_iconst (v := 0) hx hb d_X_freshMethods_0 (by decide) ?_
  refine lv_istore_n (lv' := [(1, .int (0 : Int32)), (0, .ref (q 3))]) hx hb d_X_freshMethods_1 rfl hl (by decide) rfl (fun ls hl => ?_)
  refine lv_iconst (v := 0) hx hb d_X_freshMethods_2 (by decide) ?_
  refine lv_istore_n (lv' := [(2, .int (0 : Int32)), (1, .int (0 : Int32)), (0, .ref (q 3))]) hx hb d_X_freshMethods_3 rfl hl (by decide) rfl (fun ls hl => ?_)
  obtain ⟨u4, hu4, h⟩ := bnd h
  refine L4 σ F (0 : Int32) (0 : Int32) _ _ ls u4 hu4 hP hS (lv_sub hl [2, 1, 0] rfl) (fun H locs ls hP hS hl => ?_)
  refine lv_iload_n hx hb d_X_freshMethods_30 rfl (lv_at hl 1 rfl) ?_
  cases h
  exact gret_i hx hb hr hlk hP hS d_X_freshMethods_31
/-! ===== EscapeOwners$Escapes.isIdle(I)Z ===== -/
def f_X_isIdle (σ : St) (x1 : Int32) : Option (Int32) := Option.bind (f_P_owner σ x1) (fun u9 => Option.bind (f_P_need σ x1 (0 : Int32)) (fun u18 => Option.bind (f_S_ofName σ u9 u18) (fun u21 => if u21 = 0 then (some (0 : Int32)) else (if (u21 &&& (σ 2 8)) = 0 then (some (1 : Int32)) else (some (0 : Int32))))))
set_option maxHeartbeats 4000000 in
set_option maxRecDepth 100000 in
theorem c_X_isIdle (l : Launch) (D : va_G) (cI cZ : ClassId) (tL : Nat) (q : Nat → Nat) (tl : va_W) (σ : St) (x1 : Int32) (out0 : Int32) (h : f_X_isIdle σ x1 = some out0) : gCi l y_X_isIdle (.code y_X_isIdle b_X_isIdle 3 (some .boolean) :: TB) { frames := 2, cells := 0, slots := 0, locals := 43 } D [(cI, .int), (cZ, .boolean)] tL [.ref (q 3), .int x1] (wE cI cZ q σ ++ tl) out0 (wE cI cZ q σ ++ tl) := by
  refine gCi_of (cc := b_X_isIdle) (maxL := 3) (ty := .boolean) (by decide) rfl (Nat.le_of_ble_eq_true rfl) ?_
  intro p e s m below meth c A ls hf hr hlk hA hK hD0 hE hP hl
  obtain ⟨hx, hb, hml, hown, hts⟩ := id hf
  have hts : ∀ w ∈ TB, w.before _ s = true := fun w h => hts w (List.mem_cons_of_mem _ h)
  have hown : s.vm.findClass R_X = some m.cls := hown
  have hl : lv_has ls 3 [(0, .ref (q 3)), (1, .int x1)] := hl
  have hS : va_S A s.heap s.heap [] := va_S.rf
  have hD : ∀ σ' : St, va_D A (wE cI cZ q σ' ++ tl) := fun σ' => va_Dsame hD0 rfl
  unfold f_X_isIdle at h
  refine lv_aload_n hx hb d_X_isIdle_0 rfl (lv_at hl 0 rfl) ?_
  refine va_get (D := D) (ci := 3) (v := .ref (q 2)) (C := R_X) (T := T_X) (N := 2) hx hb hts l_X hown hK hP 3 rfl rfl 1 (by decide) (hts _ w_72) (fun _ h9 => h9) rfl d_X_isIdle_1 ?_
  refine lv_aload_n hx hb d_X_isIdle_4 rfl (lv_at hl 0 rfl) ?_
  refine va_get (D := D) (ci := 3) (v := .ref (q 1)) (C := R_X) (T := T_X) (N := 2) hx hb hts l_X hown hK hP 3 rfl rfl 0 (by decide) (hts _ w_71) (fun _ h9 => h9) rfl d_X_isIdle_5 ?_
  refine lv_iload_n hx hb d_X_isIdle_8 rfl (lv_at hl 1 rfl) ?_
  obtain ⟨u9, hu9, h⟩ := bnd h
  refine gcall_i (va_runV (As := [.int x1]) (rest := [.ref (q 2)]) ⟨hx, hb, hml, hown, hts⟩ (c_P_owner l D cI cZ tL q tl σ x1 u9 hu9 s.heap.size) (cwV 1 hts (gV w_306 w_176 w_177 w_2 w_178) rfl rfl rfl (by decide +kernel) ⟨Nat.le_of_ble_eq_true rfl, Nat.le_of_ble_eq_true rfl⟩) (gpV (k := 1) (ci := 1) hA hK (hD σ) hE hP hS rfl rfl) rfl rfl hl.1 rfl (lv_room (Nat.le_of_ble_eq_true rfl)) d_X_isIdle_9 ⟨Nat.le_of_ble_eq_true rfl, Nat.le_of_ble_eq_true rfl⟩) hA (hD σ) hS (fun H locs hP hS => ?_)
  refine lv_aload_n hx hb d_X_isIdle_12 rfl (lv_at hl 0 rfl) ?_
  refine va_get (D := D) (ci := 3) (v := .ref (q 1)) (C := R_X) (T := T_X) (N := 2) hx hb hts l_X hown hK hP 3 rfl rfl 0 (by decide) (hts _ w_71) (fun _ h9 => h9) rfl d_X_isIdle_13 ?_
  refine lv_iload_n hx hb d_X_isIdle_16 rfl (lv_at hl 1 rfl) ?_
  refine lv_iconst (v := 0) hx hb d_X_isIdle_17 (by decide) ?_
  obtain ⟨u18, hu18, h⟩ := bnd h
  refine gcall_i (va_runV (As := [.int x1, .int (0 : Int32)]) (rest := [.int u9, .ref (q 2)]) ⟨hx, hb, hml, hown, hts⟩ (c_P_need l D cI cZ tL q tl σ x1 (0 : Int32) u18 hu18 H.size) (cwV 2 hts (gV w_307 w_185 w_186 w_2 w_187) rfl rfl rfl (by decide +kernel) ⟨Nat.le_of_ble_eq_true rfl, Nat.le_of_ble_eq_true rfl⟩) (gpV (k := 1) (ci := 1) hA hK (hD σ) hE hP hS rfl rfl) rfl rfl hl.1 rfl (lv_room (Nat.le_of_ble_eq_true rfl)) d_X_isIdle_18 ⟨Nat.le_of_ble_eq_true rfl, Nat.le_of_ble_eq_true rfl⟩) hA (hD σ) hS (fun H locs hP hS => ?_)
  obtain ⟨u21, hu21, h⟩ := bnd h
  refine gcall_i (va_runV (As := [.int u9, .int u18]) (rest := []) ⟨hx, hb, hml, hown, hts⟩ (c_S_ofName l D cI cZ tL q tl σ u9 u18 u21 hu21 H.size) (cwV 2 hts (gV w_308 w_227 w_228 w_3 w_229) rfl rfl rfl (by decide +kernel) ⟨Nat.le_of_ble_eq_true rfl, Nat.le_of_ble_eq_true rfl⟩) (gpV (k := 2) (ci := 2) hA hK (hD σ) hE hP hS rfl rfl) rfl rfl hl.1 rfl (lv_room (Nat.le_of_ble_eq_true rfl)) d_X_isIdle_21 ⟨Nat.le_of_ble_eq_true rfl, Nat.le_of_ble_eq_true rfl⟩) hA (hD σ) hS (fun H locs hP hS => ?_)
  refine lv_istore_n (lv' := [(2, .int u21), (0, .ref (q 3)), (1, .int x1)]) hx hb d_X_isIdle_24 rfl hl (by decide) rfl (fun ls hl => ?_)
  refine lv_iload_n hx hb d_X_isIdle_25 rfl (lv_at hl 0 rfl) ?_
  refine lv_if_eq (tgt := 45) hx hb d_X_isIdle_26 (by decide) (fun c => ?_) (fun c => ?_)
  · have h := ifp c h
    refine lv_iconst (v := 0) hx hb d_X_isIdle_45 (by decide) ?_
    cases h
    exact gret_z hx hb hr hlk (gz (Or.inl rfl)) hP hS d_X_isIdle_46
  have h := ifn c h
  refine lv_iload_n hx hb d_X_isIdle_29 rfl (lv_at hl 0 rfl) ?_
  refine lv_aload_n hx hb d_X_isIdle_30 rfl (lv_at hl 1 rfl) ?_
  refine va_get (D := D) (ci := 3) (v := .ref (q 2)) (C := R_X) (T := T_X) (N := 2) hx hb hts l_X hown hK hP 3 rfl rfl 1 (by decide) (hts _ w_72) (fun _ h9 => h9) rfl d_X_isIdle_31 ?_
  refine va_getN (D := D) (ci := 2) (v := .int (σ 2 8)) (C := R_S) (T := T_S) (N := 11) hx hb hts l_S hown hK hP 2 rfl rfl 8 (by decide) (va_Nw.use rfl (nf_14 hE)) (fun _ h9 => h9) rfl d_X_isIdle_34 ?_
  refine lv_iand hx hb d_X_isIdle_37 ?_
  refine lv_if_ne (tgt := 45) hx hb d_X_isIdle_38 (by decide) (fun c => ?_) (fun c => ?_)
  · have h := ifn c h
    refine lv_iconst (v := 0) hx hb d_X_isIdle_45 (by decide) ?_
    cases h
    exact gret_z hx hb hr hlk (gz (Or.inl rfl)) hP hS d_X_isIdle_46
  have h := ifp c h
  refine lv_iconst (v := 1) hx hb d_X_isIdle_41 (by decide) ?_
  refine lv_goto (tgt := 46) hx hb d_X_isIdle_42 (by decide) ?_
  cases h
  exact gret_z hx hb hr hlk (gz (Or.inr rfl)) hP hS d_X_isIdle_46
/-! ===== EscapeOwners$Escapes.countIdle()I ===== -/
def f_X_countIdle_B4 (F : Nat) (σ : St) (rec : Int32 → Int32 → Option (Int32 × Int32)) (y1 : Int32) (y2 : Int32) : Option (Int32 × Int32) := if (σ 1 1) ≤ y2 then (some (y1, y2)) else (Option.bind (f_P_kind σ y2) (fun u20 => if u20 = (10 : Int32) then (Option.bind (f_X_isIdle σ y2) (fun u30 => if u30 = 0 then (rec y1 (y2 + (1 : Int32))) else (rec (y1 + (1 : Int32)) (y2 + (1 : Int32))))) else (rec y1 (y2 + (1 : Int32)))))
def f_X_countIdle_L4 (F : Nat) (σ : St) : Nat → Int32 → Int32 → Option (Int32 × Int32)
  | 0, _, _ => none
  | fu + 1, y1, y2 => f_X_countIdle_B4 F σ (f_X_countIdle_L4 F σ fu) y1 y2
def f_X_countIdle (F : Nat) (σ : St) : Option (Int32) := Option.bind (f_X_countIdle_L4 F σ F (0 : Int32) (0 : Int32)) (fun u4 => some u4.1)
set_option maxHeartbeats 4000000 in
set_option maxRecDepth 100000 in
theorem c_X_countIdle (l : Launch) (D : va_G) (cI cZ : ClassId) (tL : Nat) (q : Nat → Nat) (tl : va_W) (F : Nat) (σ : St) (out0 : Int32) (h : f_X_countIdle F σ = some out0) : gCi l y_X_countIdle (.code y_X_countIdle b_X_countIdle 3 (some .int) :: TB) { frames := 3, cells := 0, slots := 0, locals := 65 } D [(cI, .int), (cZ, .boolean)] tL [.ref (q 3)] (wE cI cZ q σ ++ tl) out0 (wE cI cZ q σ ++ tl) := by
  refine gCi_of (cc := b_X_countIdle) (maxL := 3) (ty := .int) (by decide) rfl (Nat.le_of_ble_eq_true rfl) ?_
  intro p e s m below meth c A ls hf hr hlk hA hK hD0 hE hP hl
  obtain ⟨hx, hb, hml, hown, hts⟩ := id hf
  have hts : ∀ w ∈ TB, w.before _ s = true := fun w h => hts w (List.mem_cons_of_mem _ h)
  have hown : s.vm.findClass R_X = some m.cls := hown
  have hl : lv_has ls 3 [(0, .ref (q 3))] := hl
  have hS : va_S A s.heap s.heap [] := va_S.rf
  have hD : ∀ σ' : St, va_D A (wE cI cZ q σ' ++ tl) := fun σ' => va_Dsame hD0 rfl
  have L4 : ∀ (σ : St) (fu : Nat) (y1 : Int32) (y2 : Int32) (H : Heap) (locs : List Loc) (ls : Array Slot) (out : Int32 × Int32), f_X_countIdle_L4 F σ fu y1 y2 = some out → va_P D vwCl (wE cI cZ q σ ++ tl) H → va_S A s.heap H locs → lv_has ls 3 [(0, .ref (q 3)), (1, .int y1), (2, .int y2)] → (∀ (H : Heap) (locs : List Loc) (ls : Array Slot), va_P D vwCl (wE cI cZ q σ ++ tl) H → va_S A s.heap H locs → lv_has ls 3 [(0, .ref (q 3)), (1, .int out.1), (2, .int out.2)] → W p l e { frames := 3, cells := 0, slots := 0, locals := 65 } s m ([.ref (q 3)] : List Value).toArray below meth c H locs 0 0 (gQi below D out0 (wE cI cZ q σ ++ tl) A (([.ref (q 3)] : List Value).toArray) s) (F0 m 45 ls [])) → W p l e { frames := 3, cells := 0, slots := 0, locals := 65 } s m ([.ref (q 3)] : List Value).toArray below meth c H locs 0 0 (gQi below D out0 (wE cI cZ q σ ++ tl) A (([.ref (q 3)] : List Value).toArray) s) (F0 m 4 ls []) := by
    intro σ fu
    induction fu with
    | zero => intro y1 y2 H locs ls out h; exact absurd (show (none : Option (Int32 × Int32)) = some out from h) (fun z => by cases z)
    | succ fu ih =>
      intro y1 y2 H locs ls out h hP hS hl K
      have h : f_X_countIdle_B4 F σ (f_X_countIdle_L4 F σ fu) y1 y2 = some out := h
      unfold f_X_countIdle_B4 at h
      refine lv_iload_n hx hb d_X_countIdle_4 rfl (lv_at hl 2 rfl) ?_
      refine lv_aload_n hx hb d_X_countIdle_5 rfl (lv_at hl 0 rfl) ?_
      refine va_get (D := D) (ci := 3) (v := .ref (q 1)) (C := R_X) (T := T_X) (N := 2) hx hb hts l_X hown hK hP 3 rfl rfl 0 (by decide) (hts _ w_71) (fun _ h9 => h9) rfl d_X_countIdle_6 ?_
      refine va_getN (D := D) (ci := 1) (v := .int (σ 1 1)) (C := R_P) (T := T_P) (N := 8) hx hb hts l_P hown hK hP 1 rfl rfl 1 (by decide) (va_Nw.use rfl (nf_4 hE)) (fun _ h9 => h9) rfl d_X_countIdle_9 ?_
      refine lv_icmp_ge (tgt := 45) hx hb d_X_countIdle_12 (by decide) (fun c => ?_) (fun c => ?_)
      · have h := ifp c h
        cases h
        exact K _ _ ls hP hS (lv_sub hl [0, 1, 2] rfl)
      have h := ifn c h
      refine lv_aload_n hx hb d_X_countIdle_15 rfl (lv_at hl 0 rfl) ?_
      refine va_get (D := D) (ci := 3) (v := .ref (q 1)) (C := R_X) (T := T_X) (N := 2) hx hb hts l_X hown hK hP 3 rfl rfl 0 (by decide) (hts _ w_71) (fun _ h9 => h9) rfl d_X_countIdle_16 ?_
      refine lv_iload_n hx hb d_X_countIdle_19 rfl (lv_at hl 2 rfl) ?_
      obtain ⟨u20, hu20, h⟩ := bnd h
      refine gcall_i (va_runV (As := [.int y2]) (rest := []) ⟨hx, hb, hml, hown, hts⟩ (c_P_kind l D cI cZ tL q tl σ y2 u20 hu20 H.size) (cwV 1 hts (gV w_302 w_166 w_167 w_2 w_168) rfl rfl rfl (by decide +kernel) ⟨Nat.le_of_ble_eq_true rfl, Nat.le_of_ble_eq_true rfl⟩) (gpV (k := 1) (ci := 1) hA hK (hD σ) hE hP hS rfl rfl) rfl rfl hl.1 rfl (lv_room (Nat.le_of_ble_eq_true rfl)) d_X_countIdle_20 ⟨Nat.le_of_ble_eq_true rfl, Nat.le_of_ble_eq_true rfl⟩) hA (hD σ) hS (fun H locs hP hS => ?_)
      refine lv_bipush (v := 10) hx hb d_X_countIdle_23 (by decide) ?_
      refine lv_icmp_ne (tgt := 39) hx hb d_X_countIdle_25 (by decide) (fun c => ?_) (fun c => ?_)
      · have h := ifn c h
        refine lv_iinc (v := (y2 + (1 : Int32))) (lv' := [(2, .int (y2 + (1 : Int32))), (0, .ref (q 3)), (1, .int y1)]) hx hb d_X_countIdle_39 hl (k := 2) rfl rfl (by decide) rfl (fun ls hl => ?_)
        refine lv_goto (tgt := 4) hx hb d_X_countIdle_42 (by decide) ?_
        exact ih y1 (y2 + (1 : Int32)) _ _ ls out h hP hS (lv_sub hl [1, 2, 0] rfl) K
      have h := ifp c h
      refine lv_aload_n hx hb d_X_countIdle_28 rfl (lv_at hl 0 rfl) ?_
      refine lv_iload_n hx hb d_X_countIdle_29 rfl (lv_at hl 2 rfl) ?_
      obtain ⟨u30, hu30, h⟩ := bnd h
      refine gcall_i (va_runV (As := [.int y2]) (rest := []) ⟨hx, hb, hml, hown, hts⟩ (c_X_isIdle l D cI cZ tL q tl σ y2 u30 hu30 H.size) (cwV 1 hts (gV w_333 w_334 w_335 w_4 w_336) rfl rfl rfl (by decide +kernel) ⟨Nat.le_of_ble_eq_true rfl, Nat.le_of_ble_eq_true rfl⟩) (gpV (k := 3) (ci := 3) hA hK (hD σ) hE hP hS rfl rfl) rfl rfl hl.1 rfl (lv_room (Nat.le_of_ble_eq_true rfl)) d_X_countIdle_30 ⟨Nat.le_of_ble_eq_true rfl, Nat.le_of_ble_eq_true rfl⟩) hA (hD σ) hS (fun H locs hP hS => ?_)
      refine lv_if_eq (tgt := 39) hx hb d_X_countIdle_33 (by decide) (fun c => ?_) (fun c => ?_)
      · have h := ifp c h
        refine lv_iinc (v := (y2 + (1 : Int32))) (lv' := [(2, .int (y2 + (1 : Int32))), (0, .ref (q 3)), (1, .int y1)]) hx hb d_X_countIdle_39 hl (k := 2) rfl rfl (by decide) rfl (fun ls hl => ?_)
        refine lv_goto (tgt := 4) hx hb d_X_countIdle_42 (by decide) ?_
        exact ih y1 (y2 + (1 : Int32)) _ _ ls out h hP hS (lv_sub hl [1, 2, 0] rfl) K
      have h := ifn c h
      refine lv_iinc (v := (y1 + (1 : Int32))) (lv' := [(1, .int (y1 + (1 : Int32))), (0, .ref (q 3)), (2, .int y2)]) hx hb d_X_countIdle_36 hl (k := 1) rfl rfl (by decide) rfl (fun ls hl => ?_)
      refine lv_iinc (v := (y2 + (1 : Int32))) (lv' := [(2, .int (y2 + (1 : Int32))), (1, .int (y1 + (1 : Int32))), (0, .ref (q 3))]) hx hb d_X_countIdle_39 hl (k := 2) rfl rfl (by decide) rfl (fun ls hl => ?_)
      refine lv_goto (tgt := 4) hx hb d_X_countIdle_42 (by decide) ?_
      exact ih (y1 + (1 : Int32)) (y2 + (1 : Int32)) _ _ ls out h hP hS (lv_sub hl [2, 1, 0] rfl) K
  unfold f_X_countIdle at h
  refine lv_iconst (v := 0) hx hb d_X_countIdle_0 (by decide) ?_
  refine lv_istore_n (lv' := [(1, .int (0 : Int32)), (0, .ref (q 3))]) hx hb d_X_countIdle_1 rfl hl (by decide) rfl (fun ls hl => ?_)
  refine lv_iconst (v := 0) hx hb d_X_countIdle_2 (by decide) ?_
  refine lv_istore_n (lv' := [(2, .int (0 : Int32)), (1, .int (0 : Int32)), (0, .ref (q 3))]) hx hb d_X_countIdle_3 rfl hl (by decide) rfl (fun ls hl => ?_)
  obtain ⟨u4, hu4, h⟩ := bnd h
  refine L4 σ F (0 : Int32) (0 : Int32) _ _ ls u4 hu4 hP hS (lv_sub hl [2, 1, 0] rfl) (fun H locs ls hP hS hl => ?_)
  refine lv_iload_n hx hb d_X_countIdle_45 rfl (lv_at hl 1 rfl) ?_
  cases h
  exact gret_i hx hb hr hlk hP hS d_X_countIdle_46
/-! ===== EscapeOwners$Escapes.holdingSites(I)I ===== -/
def f_X_holdingSites_B4 (F : Nat) (σ : St) (y1 : Int32) (rec : Int32 → Int32 → Option (Int32 × Int32)) (y2 : Int32) (y3 : Int32) : Option (Int32 × Int32) := if (16 : Int32) ≤ y3 then (some (y2, y3)) else (Option.bind (f_S_heldBy F σ ((1 : Int32) <<< (y3 &&& 31))) (fun u17 => Option.bind (f_E_has u17 y1) (fun u21 => if u21 = 0 then (rec y2 (y3 + (1 : Int32))) else (rec (y2 ||| ((1 : Int32) <<< (y3 &&& 31))) (y3 + (1 : Int32))))))
def f_X_holdingSites_L4 (F : Nat) (σ : St) (y1 : Int32) : Nat → Int32 → Int32 → Option (Int32 × Int32)
  | 0, _, _ => none
  | fu + 1, y2, y3 => f_X_holdingSites_B4 F σ y1 (f_X_holdingSites_L4 F σ y1 fu) y2 y3
def f_X_holdingSites (F : Nat) (σ : St) (x1 : Int32) : Option (Int32) := Option.bind (f_X_holdingSites_L4 F σ x1 F (0 : Int32) (0 : Int32)) (fun u4 => some u4.1)
set_option maxHeartbeats 4000000 in
set_option maxRecDepth 100000 in
theorem c_X_holdingSites (l : Launch) (D : va_G) (cI cZ : ClassId) (tL : Nat) (q : Nat → Nat) (tl : va_W) (F : Nat) (σ : St) (x1 : Int32) (out0 : Int32) (h : f_X_holdingSites F σ x1 = some out0) : gCi l y_X_holdingSites (.code y_X_holdingSites b_X_holdingSites 4 (some .int) :: TB) { frames := 4, cells := 0, slots := 0, locals := 90 } D [(cI, .int), (cZ, .boolean)] tL [.ref (q 3), .int x1] (wE cI cZ q σ ++ tl) out0 (wE cI cZ q σ ++ tl) := by
  refine gCi_of (cc := b_X_holdingSites) (maxL := 4) (ty := .int) (by decide) rfl (Nat.le_of_ble_eq_true rfl) ?_
  intro p e s m below meth c A ls hf hr hlk hA hK hD0 hE hP hl
  obtain ⟨hx, hb, hml, hown, hts⟩ := id hf
  have hts : ∀ w ∈ TB, w.before _ s = true := fun w h => hts w (List.mem_cons_of_mem _ h)
  have hown : s.vm.findClass R_X = some m.cls := hown
  have hl : lv_has ls 4 [(0, .ref (q 3)), (1, .int x1)] := hl
  have hS : va_S A s.heap s.heap [] := va_S.rf
  have hD : ∀ σ' : St, va_D A (wE cI cZ q σ' ++ tl) := fun σ' => va_Dsame hD0 rfl
  have L4 : ∀ (σ : St) (y1 : Int32) (fu : Nat) (y2 : Int32) (y3 : Int32) (H : Heap) (locs : List Loc) (ls : Array Slot) (out : Int32 × Int32), f_X_holdingSites_L4 F σ y1 fu y2 y3 = some out → va_P D vwCl (wE cI cZ q σ ++ tl) H → va_S A s.heap H locs → lv_has ls 4 [(0, .ref (q 3)), (1, .int y1), (2, .int y2), (3, .int y3)] → (∀ (H : Heap) (locs : List Loc) (ls : Array Slot), va_P D vwCl (wE cI cZ q σ ++ tl) H → va_S A s.heap H locs → lv_has ls 4 [(0, .ref (q 3)), (1, .int y1), (2, .int out.1), (3, .int out.2)] → W p l e { frames := 4, cells := 0, slots := 0, locals := 90 } s m ([.ref (q 3), .int x1] : List Value).toArray below meth c H locs 0 0 (gQi below D out0 (wE cI cZ q σ ++ tl) A (([.ref (q 3), .int x1] : List Value).toArray) s) (F0 m 39 ls [])) → W p l e { frames := 4, cells := 0, slots := 0, locals := 90 } s m ([.ref (q 3), .int x1] : List Value).toArray below meth c H locs 0 0 (gQi below D out0 (wE cI cZ q σ ++ tl) A (([.ref (q 3), .int x1] : List Value).toArray) s) (F0 m 4 ls []) := by
    intro σ y1 fu
    induction fu with
    | zero => intro y2 y3 H locs ls out h; exact absurd (show (none : Option (Int32 × Int32)) = some out from h) (fun z => by cases z)
    | succ fu ih =>
      intro y2 y3 H locs ls out h hP hS hl K
      have h : f_X_holdingSites_B4 F σ y1 (f_X_holdingSites_L4 F σ y1 fu) y2 y3 = some out := h
      unfold f_X_holdingSites_B4 at h
      refine lv_iload_n hx hb d_X_holdingSites_4 rfl (lv_at hl 3 rfl) ?_
      refine lv_bipush (v := 16) hx hb d_X_holdingSites_5 (by decide) ?_
      refine lv_icmp_ge (tgt := 39) hx hb d_X_holdingSites_7 (by decide) (fun c => ?_) (fun c => ?_)
      · have h := ifp c h
        cases h
        exact K _ _ ls hP hS (lv_sub hl [0, 1, 2, 3] rfl)
      have h := ifn c h
      refine lv_aload_n hx hb d_X_holdingSites_10 rfl (lv_at hl 0 rfl) ?_
      refine va_get (D := D) (ci := 3) (v := .ref (q 2)) (C := R_X) (T := T_X) (N := 2) hx hb hts l_X hown hK hP 3 rfl rfl 1 (by decide) (hts _ w_72) (fun _ h9 => h9) rfl d_X_holdingSites_11 ?_
      refine lv_iconst (v := 1) hx hb d_X_holdingSites_14 (by decide) ?_
      refine lv_iload_n hx hb d_X_holdingSites_15 rfl (lv_at hl 3 rfl) ?_
      refine lv_ishl hx hb d_X_holdingSites_16 ?_
      obtain ⟨u17, hu17, h⟩ := bnd h
      refine gcall_i (va_runVN (As := [.int ((1 : Int32) <<< (y3 &&& 31))]) (rest := []) ⟨hx, hb, hml, hown, hts⟩ (c_S_heldBy l D cI cZ tL q tl F σ ((1 : Int32) <<< (y3 &&& 31)) u17 hu17 H.size) ⟨va_cnB 1 hts (TB_code w_258) rfl rfl rfl (nm_10 hE) (hts _ w_3) (by decide +kernel) ⟨Nat.le_of_ble_eq_true rfl, Nat.le_of_ble_eq_true rfl⟩, hts _ w_257, hts _ w_680⟩ (gpV (k := 2) (ci := 2) hA hK (hD σ) hE hP hS rfl rfl) rfl rfl hl.1 rfl (lv_room (Nat.le_of_ble_eq_true rfl)) d_X_holdingSites_17 ⟨Nat.le_of_ble_eq_true rfl, Nat.le_of_ble_eq_true rfl⟩) hA (hD σ) hS (fun H locs hP hS => ?_)
      refine lv_iload_n hx hb d_X_holdingSites_20 rfl (lv_at hl 1 rfl) ?_
      obtain ⟨u21, hu21, h⟩ := bnd h
      refine gcall_i (va_runSN (As := [.int u17, .int y1]) (rest := []) ⟨hx, hb, hml, hown, hts⟩ (c_E_has l D cI cZ tL (wE cI cZ q σ ++ tl) u17 y1 u21 hu21 H.size) ⟨va_cnB 2 hts (TB_code w_210) rfl rfl rfl (nm_9 hE) (hts _ w_1) (by decide +kernel) ⟨Nat.le_of_ble_eq_true rfl, Nat.le_of_ble_eq_true rfl⟩, hts _ w_209, trivial⟩ (gpS hA hK (hD σ) hE hP hS) rfl rfl hl.1 rfl (lv_room (Nat.le_of_ble_eq_true rfl)) d_X_holdingSites_21 ⟨Nat.le_of_ble_eq_true rfl, Nat.le_of_ble_eq_true rfl⟩) hA (hD σ) hS (fun H locs hP hS => ?_)
      refine lv_if_eq (tgt := 33) hx hb d_X_holdingSites_24 (by decide) (fun c => ?_) (fun c => ?_)
      · have h := ifp c h
        refine lv_iinc (v := (y3 + (1 : Int32))) (lv' := [(3, .int (y3 + (1 : Int32))), (0, .ref (q 3)), (1, .int y1), (2, .int y2)]) hx hb d_X_holdingSites_33 hl (k := 3) rfl rfl (by decide) rfl (fun ls hl => ?_)
        refine lv_goto (tgt := 4) hx hb d_X_holdingSites_36 (by decide) ?_
        exact ih y2 (y3 + (1 : Int32)) _ _ ls out h hP hS (lv_sub hl [1, 2, 3, 0] rfl) K
      have h := ifn c h
      refine lv_iload_n hx hb d_X_holdingSites_27 rfl (lv_at hl 2 rfl) ?_
      refine lv_iconst (v := 1) hx hb d_X_holdingSites_28 (by decide) ?_
      refine lv_iload_n hx hb d_X_holdingSites_29 rfl (lv_at hl 3 rfl) ?_
      refine lv_ishl hx hb d_X_holdingSites_30 ?_
      refine lv_ior hx hb d_X_holdingSites_31 ?_
      refine lv_istore_n (lv' := [(2, .int (y2 ||| ((1 : Int32) <<< (y3 &&& 31)))), (0, .ref (q 3)), (1, .int y1), (3, .int y3)]) hx hb d_X_holdingSites_32 rfl hl (by decide) rfl (fun ls hl => ?_)
      refine lv_iinc (v := (y3 + (1 : Int32))) (lv' := [(3, .int (y3 + (1 : Int32))), (2, .int (y2 ||| ((1 : Int32) <<< (y3 &&& 31)))), (0, .ref (q 3)), (1, .int y1)]) hx hb d_X_holdingSites_33 hl (k := 3) rfl rfl (by decide) rfl (fun ls hl => ?_)
      refine lv_goto (tgt := 4) hx hb d_X_holdingSites_36 (by decide) ?_
      exact ih (y2 ||| ((1 : Int32) <<< (y3 &&& 31))) (y3 + (1 : Int32)) _ _ ls out h hP hS (lv_sub hl [2, 3, 1, 0] rfl) K
  unfold f_X_holdingSites at h
  refine lv_iconst (v := 0) hx hb d_X_holdingSites_0 (by decide) ?_
  refine lv_istore_n (lv' := [(2, .int (0 : Int32)), (0, .ref (q 3)), (1, .int x1)]) hx hb d_X_holdingSites_1 rfl hl (by decide) rfl (fun ls hl => ?_)
  refine lv_iconst (v := 0) hx hb d_X_holdingSites_2 (by decide) ?_
  refine lv_istore_n (lv' := [(3, .int (0 : Int32)), (2, .int (0 : Int32)), (0, .ref (q 3)), (1, .int x1)]) hx hb d_X_holdingSites_3 rfl hl (by decide) rfl (fun ls hl => ?_)
  obtain ⟨u4, hu4, h⟩ := bnd h
  refine L4 σ x1 F (0 : Int32) (0 : Int32) _ _ ls u4 hu4 hP hS (lv_sub hl [2, 3, 1, 0] rfl) (fun H locs ls hP hS hl => ?_)
  refine lv_iload_n hx hb d_X_holdingSites_39 rfl (lv_at hl 2 rfl) ?_
  cases h
  exact gret_i hx hb hr hlk hP hS d_X_holdingSites_40
/-! ===== EscapeOwners$Escapes.pointingMethods(I)I ===== -/
def f_X_pointingMethods_B13 (F : Nat) (σ : St) (y1 : Int32) (y3 : Int32) (rec : Int32 → Int32 → Option (Int32 × Int32)) (y2 : Int32) (y4 : Int32) : Option (Int32 × Int32) := if (8 : Int32) ≤ y4 then (some (y2, y4)) else (Option.bind (f_S_ofName σ y3 y4) (fun u27 => Option.bind (f_E_has u27 y1) (fun u31 => if u31 = 0 then (rec y2 (y4 + (1 : Int32))) else (rec (y2 ||| ((1 : Int32) <<< (y3 &&& 31))) (y4 + (1 : Int32))))))
def f_X_pointingMethods_L13 (F : Nat) (σ : St) (y1 : Int32) (y3 : Int32) : Nat → Int32 → Int32 → Option (Int32 × Int32)
  | 0, _, _ => none
  | fu + 1, y2, y4 => f_X_pointingMethods_B13 F σ y1 y3 (f_X_pointingMethods_L13 F σ y1 y3 fu) y2 y4
def f_X_pointingMethods_B4 (F : Nat) (σ : St) (y1 : Int32) (rec : Int32 → Int32 → Option (Int32 × Int32)) (y2 : Int32) (y3 : Int32) : Option (Int32 × Int32) := if (8 : Int32) ≤ y3 then (some (y2, y3)) else (Option.bind (f_X_pointingMethods_L13 F σ y1 y3 F y2 (0 : Int32)) (fun u13 => rec u13.1 (y3 + (1 : Int32))))
def f_X_pointingMethods_L4 (F : Nat) (σ : St) (y1 : Int32) : Nat → Int32 → Int32 → Option (Int32 × Int32)
  | 0, _, _ => none
  | fu + 1, y2, y3 => f_X_pointingMethods_B4 F σ y1 (f_X_pointingMethods_L4 F σ y1 fu) y2 y3
def f_X_pointingMethods (F : Nat) (σ : St) (x1 : Int32) : Option (Int32) := Option.bind (f_X_pointingMethods_L4 F σ x1 F (0 : Int32) (0 : Int32)) (fun u4 => some u4.1)
set_option maxHeartbeats 4000000 in
set_option maxRecDepth 100000 in
theorem c_X_pointingMethods (l : Launch) (D : va_G) (cI cZ : ClassId) (tL : Nat) (q : Nat → Nat) (tl : va_W) (F : Nat) (σ : St) (x1 : Int32) (out0 : Int32) (h : f_X_pointingMethods F σ x1 = some out0) : gCi l y_X_pointingMethods (.code y_X_pointingMethods b_X_pointingMethods 5 (some .int) :: TB) { frames := 2, cells := 0, slots := 0, locals := 43 } D [(cI, .int), (cZ, .boolean)] tL [.ref (q 3), .int x1] (wE cI cZ q σ ++ tl) out0 (wE cI cZ q σ ++ tl) := by
  refine gCi_of (cc := b_X_pointingMethods) (maxL := 5) (ty := .int) (by decide) rfl (Nat.le_of_ble_eq_true rfl) ?_
  intro p e s m below meth c A ls hf hr hlk hA hK hD0 hE hP hl
  obtain ⟨hx, hb, hml, hown, hts⟩ := id hf
  have hts : ∀ w ∈ TB, w.before _ s = true := fun w h => hts w (List.mem_cons_of_mem _ h)
  have hown : s.vm.findClass R_X = some m.cls := hown
  have hl : lv_has ls 5 [(0, .ref (q 3)), (1, .int x1)] := hl
  have hS : va_S A s.heap s.heap [] := va_S.rf
  have hD : ∀ σ' : St, va_D A (wE cI cZ q σ' ++ tl) := fun σ' => va_Dsame hD0 rfl
  have L13 : ∀ (σ : St) (y1 : Int32) (y3 : Int32) (fu : Nat) (y2 : Int32) (y4 : Int32) (H : Heap) (locs : List Loc) (ls : Array Slot) (out : Int32 × Int32), f_X_pointingMethods_L13 F σ y1 y3 fu y2 y4 = some out → va_P D vwCl (wE cI cZ q σ ++ tl) H → va_S A s.heap H locs → lv_has ls 5 [(0, .ref (q 3)), (1, .int y1), (2, .int y2), (3, .int y3), (4, .int y4)] → (∀ (H : Heap) (locs : List Loc) (ls : Array Slot), va_P D vwCl (wE cI cZ q σ ++ tl) H → va_S A s.heap H locs → lv_has ls 5 [(0, .ref (q 3)), (1, .int y1), (2, .int out.1), (3, .int y3), (4, .int out.2)] → W p l e { frames := 2, cells := 0, slots := 0, locals := 43 } s m ([.ref (q 3), .int x1] : List Value).toArray below meth c H locs 0 0 (gQi below D out0 (wE cI cZ q σ ++ tl) A (([.ref (q 3), .int x1] : List Value).toArray) s) (F0 m 49 ls [])) → W p l e { frames := 2, cells := 0, slots := 0, locals := 43 } s m ([.ref (q 3), .int x1] : List Value).toArray below meth c H locs 0 0 (gQi below D out0 (wE cI cZ q σ ++ tl) A (([.ref (q 3), .int x1] : List Value).toArray) s) (F0 m 13 ls []) := by
    intro σ y1 y3 fu
    induction fu with
    | zero => intro y2 y4 H locs ls out h; exact absurd (show (none : Option (Int32 × Int32)) = some out from h) (fun z => by cases z)
    | succ fu ih =>
      intro y2 y4 H locs ls out h hP hS hl K
      have h : f_X_pointingMethods_B13 F σ y1 y3 (f_X_pointingMethods_L13 F σ y1 y3 fu) y2 y4 = some out := h
      unfold f_X_pointingMethods_B13 at h
      refine lv_iload hx hb d_X_pointingMethods_13 (lv_at hl 4 rfl) ?_
      refine lv_bipush (v := 8) hx hb d_X_pointingMethods_15 (by decide) ?_
      refine lv_icmp_ge (tgt := 49) hx hb d_X_pointingMethods_17 (by decide) (fun c => ?_) (fun c => ?_)
      · have h := ifp c h
        cases h
        exact K _ _ ls hP hS (lv_sub hl [0, 1, 2, 3, 4] rfl)
      have h := ifn c h
      refine lv_aload_n hx hb d_X_pointingMethods_20 rfl (lv_at hl 0 rfl) ?_
      refine va_get (D := D) (ci := 3) (v := .ref (q 2)) (C := R_X) (T := T_X) (N := 2) hx hb hts l_X hown hK hP 3 rfl rfl 1 (by decide) (hts _ w_72) (fun _ h9 => h9) rfl d_X_pointingMethods_21 ?_
      refine lv_iload_n hx hb d_X_pointingMethods_24 rfl (lv_at hl 3 rfl) ?_
      refine lv_iload hx hb d_X_pointingMethods_25 (lv_at hl 4 rfl) ?_
      obtain ⟨u27, hu27, h⟩ := bnd h
      refine gcall_i (va_runV (As := [.int y3, .int y4]) (rest := []) ⟨hx, hb, hml, hown, hts⟩ (c_S_ofName l D cI cZ tL q tl σ y3 y4 u27 hu27 H.size) (cwV 2 hts (gV w_308 w_227 w_228 w_3 w_229) rfl rfl rfl (by decide +kernel) ⟨Nat.le_of_ble_eq_true rfl, Nat.le_of_ble_eq_true rfl⟩) (gpV (k := 2) (ci := 2) hA hK (hD σ) hE hP hS rfl rfl) rfl rfl hl.1 rfl (lv_room (Nat.le_of_ble_eq_true rfl)) d_X_pointingMethods_27 ⟨Nat.le_of_ble_eq_true rfl, Nat.le_of_ble_eq_true rfl⟩) hA (hD σ) hS (fun H locs hP hS => ?_)
      refine lv_iload_n hx hb d_X_pointingMethods_30 rfl (lv_at hl 1 rfl) ?_
      obtain ⟨u31, hu31, h⟩ := bnd h
      refine gcall_i (va_runSN (As := [.int u27, .int y1]) (rest := []) ⟨hx, hb, hml, hown, hts⟩ (c_E_has l D cI cZ tL (wE cI cZ q σ ++ tl) u27 y1 u31 hu31 H.size) ⟨va_cnB 2 hts (TB_code w_210) rfl rfl rfl (nm_9 hE) (hts _ w_1) (by decide +kernel) ⟨Nat.le_of_ble_eq_true rfl, Nat.le_of_ble_eq_true rfl⟩, hts _ w_209, trivial⟩ (gpS hA hK (hD σ) hE hP hS) rfl rfl hl.1 rfl (lv_room (Nat.le_of_ble_eq_true rfl)) d_X_pointingMethods_31 ⟨Nat.le_of_ble_eq_true rfl, Nat.le_of_ble_eq_true rfl⟩) hA (hD σ) hS (fun H locs hP hS => ?_)
      refine lv_if_eq (tgt := 43) hx hb d_X_pointingMethods_34 (by decide) (fun c => ?_) (fun c => ?_)
      · have h := ifp c h
        refine lv_iinc (v := (y4 + (1 : Int32))) (lv' := [(4, .int (y4 + (1 : Int32))), (0, .ref (q 3)), (1, .int y1), (2, .int y2), (3, .int y3)]) hx hb d_X_pointingMethods_43 hl (k := 4) rfl rfl (by decide) rfl (fun ls hl => ?_)
        refine lv_goto (tgt := 13) hx hb d_X_pointingMethods_46 (by decide) ?_
        exact ih y2 (y4 + (1 : Int32)) _ _ ls out h hP hS (lv_sub hl [1, 2, 3, 4, 0] rfl) K
      have h := ifn c h
      refine lv_iload_n hx hb d_X_pointingMethods_37 rfl (lv_at hl 2 rfl) ?_
      refine lv_iconst (v := 1) hx hb d_X_pointingMethods_38 (by decide) ?_
      refine lv_iload_n hx hb d_X_pointingMethods_39 rfl (lv_at hl 3 rfl) ?_
      refine lv_ishl hx hb d_X_pointingMethods_40 ?_
      refine lv_ior hx hb d_X_pointingMethods_41 ?_
      refine lv_istore_n (lv' := [(2, .int (y2 ||| ((1 : Int32) <<< (y3 &&& 31)))), (0, .ref (q 3)), (1, .int y1), (3, .int y3), (4, .int y4)]) hx hb d_X_pointingMethods_42 rfl hl (by decide) rfl (fun ls hl => ?_)
      refine lv_iinc (v := (y4 + (1 : Int32))) (lv' := [(4, .int (y4 + (1 : Int32))), (2, .int (y2 ||| ((1 : Int32) <<< (y3 &&& 31)))), (0, .ref (q 3)), (1, .int y1), (3, .int y3)]) hx hb d_X_pointingMethods_43 hl (k := 4) rfl rfl (by decide) rfl (fun ls hl => ?_)
      refine lv_goto (tgt := 13) hx hb d_X_pointingMethods_46 (by decide) ?_
      exact ih (y2 ||| ((1 : Int32) <<< (y3 &&& 31))) (y4 + (1 : Int32)) _ _ ls out h hP hS (lv_sub hl [2, 3, 1, 4, 0] rfl) K
  have L4 : ∀ (σ : St) (y1 : Int32) (fu : Nat) (y2 : Int32) (y3 : Int32) (H : Heap) (locs : List Loc) (ls : Array Slot) (out : Int32 × Int32), f_X_pointingMethods_L4 F σ y1 fu y2 y3 = some out → va_P D vwCl (wE cI cZ q σ ++ tl) H → va_S A s.heap H locs → lv_has ls 5 [(0, .ref (q 3)), (1, .int y1), (2, .int y2), (3, .int y3)] → (∀ (H : Heap) (locs : List Loc) (ls : Array Slot), va_P D vwCl (wE cI cZ q σ ++ tl) H → va_S A s.heap H locs → lv_has ls 5 [(0, .ref (q 3)), (1, .int y1), (2, .int out.1), (3, .int out.2)] → W p l e { frames := 2, cells := 0, slots := 0, locals := 43 } s m ([.ref (q 3), .int x1] : List Value).toArray below meth c H locs 0 0 (gQi below D out0 (wE cI cZ q σ ++ tl) A (([.ref (q 3), .int x1] : List Value).toArray) s) (F0 m 55 ls [])) → W p l e { frames := 2, cells := 0, slots := 0, locals := 43 } s m ([.ref (q 3), .int x1] : List Value).toArray below meth c H locs 0 0 (gQi below D out0 (wE cI cZ q σ ++ tl) A (([.ref (q 3), .int x1] : List Value).toArray) s) (F0 m 4 ls []) := by
    intro σ y1 fu
    induction fu with
    | zero => intro y2 y3 H locs ls out h; exact absurd (show (none : Option (Int32 × Int32)) = some out from h) (fun z => by cases z)
    | succ fu ih =>
      intro y2 y3 H locs ls out h hP hS hl K
      have h : f_X_pointingMethods_B4 F σ y1 (f_X_pointingMethods_L4 F σ y1 fu) y2 y3 = some out := h
      unfold f_X_pointingMethods_B4 at h
      refine lv_iload_n hx hb d_X_pointingMethods_4 rfl (lv_at hl 3 rfl) ?_
      refine lv_bipush (v := 8) hx hb d_X_pointingMethods_5 (by decide) ?_
      refine lv_icmp_ge (tgt := 55) hx hb d_X_pointingMethods_7 (by decide) (fun c => ?_) (fun c => ?_)
      · have h := ifp c h
        cases h
        exact K _ _ ls hP hS (lv_sub hl [0, 1, 2, 3] rfl)
      have h := ifn c h
      refine lv_iconst (v := 0) hx hb d_X_pointingMethods_10 (by decide) ?_
      refine lv_istore (lv' := [(4, .int (0 : Int32)), (0, .ref (q 3)), (1, .int y1), (2, .int y2), (3, .int y3)]) hx hb d_X_pointingMethods_11 hl (by decide) rfl (fun ls hl => ?_)
      obtain ⟨u13, hu13, h⟩ := bnd h
      refine L13 σ y1 y3 F y2 (0 : Int32) _ _ ls u13 hu13 hP hS (lv_sub hl [1, 2, 3, 4, 0] rfl) (fun H locs ls hP hS hl => ?_)
      refine lv_iinc (v := (y3 + (1 : Int32))) (lv' := [(3, .int (y3 + (1 : Int32))), (0, .ref (q 3)), (1, .int y1), (2, .int u13.1), (4, .int u13.2)]) hx hb d_X_pointingMethods_49 hl (k := 3) rfl rfl (by decide) rfl (fun ls hl => ?_)
      refine lv_goto (tgt := 4) hx hb d_X_pointingMethods_52 (by decide) ?_
      exact ih u13.1 (y3 + (1 : Int32)) _ _ ls out h hP hS (lv_sub hl [1, 2, 3, 0] rfl) K
  unfold f_X_pointingMethods at h
  refine lv_iconst (v := 0) hx hb d_X_pointingMethods_0 (by decide) ?_
  refine lv_istore_n (lv' := [(2, .int (0 : Int32)), (0, .ref (q 3)), (1, .int x1)]) hx hb d_X_pointingMethods_1 rfl hl (by decide) rfl (fun ls hl => ?_)
  refine lv_iconst (v := 0) hx hb d_X_pointingMethods_2 (by decide) ?_
  refine lv_istore_n (lv' := [(3, .int (0 : Int32)), (2, .int (0 : Int32)), (0, .ref (q 3)), (1, .int x1)]) hx hb d_X_pointingMethods_3 rfl hl (by decide) rfl (fun ls hl => ?_)
  obtain ⟨u4, hu4, h⟩ := bnd h
  refine L4 σ x1 F (0 : Int32) (0 : Int32) _ _ ls u4 hu4 hP hS (lv_sub hl [2, 3, 1, 0] rfl) (fun H locs ls hP hS hl => ?_)
  refine lv_iload_n hx hb d_X_pointingMethods_55 rfl (lv_at hl 2 rfl) ?_
  cases h
  exact gret_i hx hb hr hlk hP hS d_X_pointingMethods_56
