theorem arrSame_int {D : va_G} {cl : List vw_C} {tys : List (ClassId × FieldType)} {s : State} {cA cI : ClassId} (h0 : va_K D cl tys s) (k : Nat) (hk : tys[k]? = some (cI, .int)) (h1 : va_K D cl (tys ++ [(cA, .int)]) s) : cA = cI := by
  have a : s.vm.findClass ("[" ++ FieldType.int.toString) = some cI := (h0.2 k _ hk).2
  have b : s.vm.findClass ("[" ++ FieldType.int.toString) = some cA := (h1.2 tys.length (cA, .int) (by simp)).2
  exact Option.some.inj (b.symm.trans a)
theorem arrSame_boolean {D : va_G} {cl : List vw_C} {tys : List (ClassId × FieldType)} {s : State} {cA cI : ClassId} (h0 : va_K D cl tys s) (k : Nat) (hk : tys[k]? = some (cI, .boolean)) (h1 : va_K D cl (tys ++ [(cA, .boolean)]) s) : cA = cI := by
  have a : s.vm.findClass ("[" ++ FieldType.boolean.toString) = some cI := (h0.2 k _ hk).2
  have b : s.vm.findClass ("[" ++ FieldType.boolean.toString) = some cA := (h1.2 tys.length (cA, .boolean) (by simp)).2
  exact Option.some.inj (b.symm.trans a)

set_option maxHeartbeats 4000000 in
set_option maxRecDepth 100000 in
theorem c_P_init (l : Launch) (D : va_G) (cI cZ : ClassId) (h0 : Nat) (sz : Nat) : Met l y_P_init (.code y_P_init b_P_init 1 none :: TB) ({ frames := 1, cells := 5, slots := 528, locals := 12 }) (va_Pc [.ref h0] (fun U => U.heap.size = sz ∧ va_P D vwCl [(h0, .inr (1, [.int 0, .int 0, .int 0, .null, .null, .null, .null, .null]))] U.heap ∧ va_K D vwCl [(cI, .int), (cZ, .boolean)] U ∧ va_D (fun _ => True) [(h0, .inr (1, [.int 0, .int 0, .int 0, .null, .null, .null, .null, .null]))])) (va_Qv (fun _ : Nat → Nat => True) (fun u t => va_P D vwCl [(h0, .inr (1, [.int 1, .int 0, .int 0, .ref (u 0), .ref (u 1), .ref (u 2), .ref (u 3), .ref (u 4)])), ((u 0), .inl (cI, 64, .inl (fun _ => 0))), ((u 1), .inl (cI, 64, .inl (fun _ => 0))), ((u 2), .inl (cI, 64, .inl (fun _ => 0))), ((u 3), .inl (cI, 320, .inl (fun _ => 0))), ((u 4), .inl (cI, 16, .inl (fun _ => 0)))] t.heap ∧ va_D (va_A [(h0, .inr (1, [.int 0, .int 0, .int 0, .null, .null, .null, .null, .null]))] sz) [(h0, .inr (1, [.int 1, .int 0, .int 0, .ref (u 0), .ref (u 1), .ref (u 2), .ref (u 3), .ref (u 4)])), ((u 0), .inl (cI, 64, .inl (fun _ => 0))), ((u 1), .inl (cI, 64, .inl (fun _ => 0))), ((u 2), .inl (cI, 64, .inl (fun _ => 0))), ((u 3), .inl (cI, 320, .inl (fun _ => 0))), ((u 4), .inl (cI, 16, .inl (fun _ => 0)))]) (va_A [(h0, .inr (1, [.int 0, .int 0, .int 0, .null, .null, .null, .null, .null]))] sz)) 5 528 (va_A [(h0, .inr (1, [.int 0, .int 0, .int 0, .null, .null, .null, .null, .null]))] sz) := by
  refine Met.ofW (cc := b_P_init) (maxL := 1) (ret := none) (by decide) rfl ?_
  intro p e s m args below meth c s₁ B hml hv
  obtain ⟨rfl, hsz, hP, hK, hD0⟩ := hv
  have hx := B.exec
  have hb := B.bytes
  have hr := B.returns
  have hts0 := atoms_spec (ws := (.code y_P_init b_P_init 1 none :: TB)) B.pre
  have hts : ∀ w ∈ TB, w.before _ s = true := fun w h => hts0 w (List.mem_cons_of_mem _ h)
  have hown : s.vm.findClass R_P = some m.cls := findClass_of_methodNamed B.named
  have hlocks := B.notSynchronized
  have hin : meth.name = "<init>" := (name_of_methodNamed B.named B.method).1
  subst hsz
  have hD := hD0.self (sz := s.heap.size)
  generalize hAe : va_A [(h0, .inr (1, [.int 0, .int 0, .int 0, .null, .null, .null, .null, .null]))] s.heap.size = A at hD ⊢
  have hA : ∀ q : Nat, s.heap.size ≤ q → A q := fun q h => by rw [← hAe]; exact Or.inr h
  have hS : va_S A s.heap s.heap [] := va_S.rf
  have hl := lv_entry ([.ref h0]) (n := 1) (Nat.le_of_ble_eq_true rfl)
  rw [lg_entry_eq]
  generalize (lg_sl ([.ref h0]) ++ List.replicate (1 - (lg_sl ([.ref h0])).length) Slot.unset).toArray = ls at hl ⊢
  have hl : lv_has ls 1 [(0, .ref h0)] := hl
  refine lv_aload_n hx hb d_P_init_0 rfl (lv_at hl 0 rfl) ?_
  refine W.objInit hx hb hown (hts _ w_19) (hts _ w_12) (hts _ w_13) rfl (by rw [hml]; exact hl.1) rfl d_P_init_1 (Nat.le_of_ble_eq_true rfl) (Nat.le_of_ble_eq_true rfl) ?_
  refine W.eq (g2 := F0 m 4 ls []) rfl ?_
  refine lv_aload_n hx hb d_P_init_4 rfl (lv_at hl 0 rfl) ?_
  refine lv_iconst (v := 1) hx hb d_P_init_5 (by decide) ?_
  refine va_put (D := D) (ci := 1) (v := .int 1) (ty := .int) (C := R_P) (T := T_P) (N := 8) hx hb hts l_P t_P t_P_ok n_P hown hK hP hD hS 0 rfl rfl 0 (by decide) (hts _ w_20) (fun _ h9 => h9) rfl (by decide +kernel) rfl rfl (Nat.le_of_ble_eq_true rfl) d_P_init_6 (fun H locs hP hD hS => ?_)
  have hP : va_P D vwCl [(h0, .inr (1, [.int 1, .int 0, .int 0, .null, .null, .null, .null, .null]))] H := hP
  have hD : va_D A [(h0, .inr (1, [.int 1, .int 0, .int 0, .null, .null, .null, .null, .null]))] := hD
  refine lv_aload_n hx hb d_P_init_9 rfl (lv_at hl 0 rfl) ?_
  refine lv_iconst (v := 0) hx hb d_P_init_10 (by decide) ?_
  refine va_put (D := D) (ci := 1) (v := .int 0) (ty := .int) (C := R_P) (T := T_P) (N := 8) hx hb hts l_P t_P t_P_ok n_P hown hK hP hD hS 0 rfl rfl 1 (by decide) (hts _ w_21) (fun _ h9 => h9) rfl (by decide +kernel) rfl rfl (Nat.le_of_ble_eq_true rfl) d_P_init_11 (fun H locs hP hD hS => ?_)
  have hP : va_P D vwCl [(h0, .inr (1, [.int 1, .int 0, .int 0, .null, .null, .null, .null, .null]))] H := hP
  have hD : va_D A [(h0, .inr (1, [.int 1, .int 0, .int 0, .null, .null, .null, .null, .null]))] := hD
  refine lv_aload_n hx hb d_P_init_14 rfl (lv_at hl 0 rfl) ?_
  refine lv_iconst (v := 0) hx hb d_P_init_15 (by decide) ?_
  refine va_put (D := D) (ci := 1) (v := .int 0) (ty := .int) (C := R_P) (T := T_P) (N := 8) hx hb hts l_P t_P t_P_ok n_P hown hK hP hD hS 0 rfl rfl 2 (by decide) (hts _ w_22) (fun _ h9 => h9) rfl (by decide +kernel) rfl rfl (Nat.le_of_ble_eq_true rfl) d_P_init_16 (fun H locs hP hD hS => ?_)
  have hP : va_P D vwCl [(h0, .inr (1, [.int 1, .int 0, .int 0, .null, .null, .null, .null, .null]))] H := hP
  have hD : va_D A [(h0, .inr (1, [.int 1, .int 0, .int 0, .null, .null, .null, .null, .null]))] := hD
  refine lv_aload_n hx hb d_P_init_19 rfl (lv_at hl 0 rfl) ?_
  refine lv_bipush (v := 64) hx hb d_P_init_20 (by decide) ?_
  refine va_newa (atype := .int) (ty := .int) (a0 := (64, .inl (fun _ => 0))) hx hb (hts _ w_36) rfl hK hP hD hS hA (fun _ => rfl) (by decide) (by decide) (by decide) (Nat.le_of_ble_eq_true rfl) (Nat.le_of_ble_eq_true rfl) d_P_init_22 (fun q22 cA H hK2 hP hD hS => ?_)
  rw [arrSame_int hK 0 rfl hK2] at hP hD
  have hP : va_P D vwCl [(h0, .inr (1, [.int 1, .int 0, .int 0, .null, .null, .null, .null, .null])), (q22, .inl (cI, 64, .inl (fun _ => 0)))] H := hP
  have hD : va_D A [(h0, .inr (1, [.int 1, .int 0, .int 0, .null, .null, .null, .null, .null])), (q22, .inl (cI, 64, .inl (fun _ => 0)))] := hD
  refine W.widen (k := 1) (n := 64) (by decide) (by decide) ?_
  refine va_putF (D := D) (ci := 1) (v := .ref q22) (ty := .array .int) (C := R_P) (T := T_P) (N := 8) hx hb hts l_P t_P t_P_ok n_P hown hK hP hD hS 0 rfl rfl 3 (by decide) (hts _ w_23) (fun _ h9 => h9) rfl hin rfl (by decide +kernel) rfl rfl (Nat.le_of_ble_eq_true rfl) d_P_init_24 (fun H locs hP hD hS => ?_)
  have hP : va_P D vwCl [(h0, .inr (1, [.int 1, .int 0, .int 0, .ref q22, .null, .null, .null, .null])), (q22, .inl (cI, 64, .inl (fun _ => 0)))] H := hP
  have hD : va_D A [(h0, .inr (1, [.int 1, .int 0, .int 0, .ref q22, .null, .null, .null, .null])), (q22, .inl (cI, 64, .inl (fun _ => 0)))] := hD
  refine lv_aload_n hx hb d_P_init_27 rfl (lv_at hl 0 rfl) ?_
  refine lv_bipush (v := 64) hx hb d_P_init_28 (by decide) ?_
  refine va_newa (atype := .int) (ty := .int) (a0 := (64, .inl (fun _ => 0))) hx hb (hts _ w_36) rfl hK hP hD hS hA (fun _ => rfl) (by decide) (by decide) (by decide) (Nat.le_of_ble_eq_true rfl) (Nat.le_of_ble_eq_true rfl) d_P_init_30 (fun q30 cA H hK2 hP hD hS => ?_)
  rw [arrSame_int hK 0 rfl hK2] at hP hD
  have hP : va_P D vwCl [(h0, .inr (1, [.int 1, .int 0, .int 0, .ref q22, .null, .null, .null, .null])), (q22, .inl (cI, 64, .inl (fun _ => 0))), (q30, .inl (cI, 64, .inl (fun _ => 0)))] H := hP
  have hD : va_D A [(h0, .inr (1, [.int 1, .int 0, .int 0, .ref q22, .null, .null, .null, .null])), (q22, .inl (cI, 64, .inl (fun _ => 0))), (q30, .inl (cI, 64, .inl (fun _ => 0)))] := hD
  refine W.widen (k := 2) (n := 128) (by decide) (by decide) ?_
  refine va_putF (D := D) (ci := 1) (v := .ref q30) (ty := .array .int) (C := R_P) (T := T_P) (N := 8) hx hb hts l_P t_P t_P_ok n_P hown hK hP hD hS 0 rfl rfl 4 (by decide) (hts _ w_24) (fun _ h9 => h9) rfl hin rfl (by decide +kernel) rfl rfl (Nat.le_of_ble_eq_true rfl) d_P_init_32 (fun H locs hP hD hS => ?_)
  have hP : va_P D vwCl [(h0, .inr (1, [.int 1, .int 0, .int 0, .ref q22, .ref q30, .null, .null, .null])), (q22, .inl (cI, 64, .inl (fun _ => 0))), (q30, .inl (cI, 64, .inl (fun _ => 0)))] H := hP
  have hD : va_D A [(h0, .inr (1, [.int 1, .int 0, .int 0, .ref q22, .ref q30, .null, .null, .null])), (q22, .inl (cI, 64, .inl (fun _ => 0))), (q30, .inl (cI, 64, .inl (fun _ => 0)))] := hD
  refine lv_aload_n hx hb d_P_init_35 rfl (lv_at hl 0 rfl) ?_
  refine lv_bipush (v := 64) hx hb d_P_init_36 (by decide) ?_
  refine va_newa (atype := .int) (ty := .int) (a0 := (64, .inl (fun _ => 0))) hx hb (hts _ w_36) rfl hK hP hD hS hA (fun _ => rfl) (by decide) (by decide) (by decide) (Nat.le_of_ble_eq_true rfl) (Nat.le_of_ble_eq_true rfl) d_P_init_38 (fun q38 cA H hK2 hP hD hS => ?_)
  rw [arrSame_int hK 0 rfl hK2] at hP hD
  have hP : va_P D vwCl [(h0, .inr (1, [.int 1, .int 0, .int 0, .ref q22, .ref q30, .null, .null, .null])), (q22, .inl (cI, 64, .inl (fun _ => 0))), (q30, .inl (cI, 64, .inl (fun _ => 0))), (q38, .inl (cI, 64, .inl (fun _ => 0)))] H := hP
  have hD : va_D A [(h0, .inr (1, [.int 1, .int 0, .int 0, .ref q22, .ref q30, .null, .null, .null])), (q22, .inl (cI, 64, .inl (fun _ => 0))), (q30, .inl (cI, 64, .inl (fun _ => 0))), (q38, .inl (cI, 64, .inl (fun _ => 0)))] := hD
  refine W.widen (k := 3) (n := 192) (by decide) (by decide) ?_
  refine va_putF (D := D) (ci := 1) (v := .ref q38) (ty := .array .int) (C := R_P) (T := T_P) (N := 8) hx hb hts l_P t_P t_P_ok n_P hown hK hP hD hS 0 rfl rfl 5 (by decide) (hts _ w_25) (fun _ h9 => h9) rfl hin rfl (by decide +kernel) rfl rfl (Nat.le_of_ble_eq_true rfl) d_P_init_40 (fun H locs hP hD hS => ?_)
  have hP : va_P D vwCl [(h0, .inr (1, [.int 1, .int 0, .int 0, .ref q22, .ref q30, .ref q38, .null, .null])), (q22, .inl (cI, 64, .inl (fun _ => 0))), (q30, .inl (cI, 64, .inl (fun _ => 0))), (q38, .inl (cI, 64, .inl (fun _ => 0)))] H := hP
  have hD : va_D A [(h0, .inr (1, [.int 1, .int 0, .int 0, .ref q22, .ref q30, .ref q38, .null, .null])), (q22, .inl (cI, 64, .inl (fun _ => 0))), (q30, .inl (cI, 64, .inl (fun _ => 0))), (q38, .inl (cI, 64, .inl (fun _ => 0)))] := hD
  refine lv_aload_n hx hb d_P_init_43 rfl (lv_at hl 0 rfl) ?_
  refine lv_sipush (v := 320) hx hb d_P_init_44 (by decide) ?_
  refine va_newa (atype := .int) (ty := .int) (a0 := (320, .inl (fun _ => 0))) hx hb (hts _ w_36) rfl hK hP hD hS hA (fun _ => rfl) (by decide) (by decide) (by decide) (Nat.le_of_ble_eq_true rfl) (Nat.le_of_ble_eq_true rfl) d_P_init_47 (fun q47 cA H hK2 hP hD hS => ?_)
  rw [arrSame_int hK 0 rfl hK2] at hP hD
  have hP : va_P D vwCl [(h0, .inr (1, [.int 1, .int 0, .int 0, .ref q22, .ref q30, .ref q38, .null, .null])), (q22, .inl (cI, 64, .inl (fun _ => 0))), (q30, .inl (cI, 64, .inl (fun _ => 0))), (q38, .inl (cI, 64, .inl (fun _ => 0))), (q47, .inl (cI, 320, .inl (fun _ => 0)))] H := hP
  have hD : va_D A [(h0, .inr (1, [.int 1, .int 0, .int 0, .ref q22, .ref q30, .ref q38, .null, .null])), (q22, .inl (cI, 64, .inl (fun _ => 0))), (q30, .inl (cI, 64, .inl (fun _ => 0))), (q38, .inl (cI, 64, .inl (fun _ => 0))), (q47, .inl (cI, 320, .inl (fun _ => 0)))] := hD
  refine W.widen (k := 4) (n := 512) (by decide) (by decide) ?_
  refine va_putF (D := D) (ci := 1) (v := .ref q47) (ty := .array .int) (C := R_P) (T := T_P) (N := 8) hx hb hts l_P t_P t_P_ok n_P hown hK hP hD hS 0 rfl rfl 6 (by decide) (hts _ w_26) (fun _ h9 => h9) rfl hin rfl (by decide +kernel) rfl rfl (Nat.le_of_ble_eq_true rfl) d_P_init_49 (fun H locs hP hD hS => ?_)
  have hP : va_P D vwCl [(h0, .inr (1, [.int 1, .int 0, .int 0, .ref q22, .ref q30, .ref q38, .ref q47, .null])), (q22, .inl (cI, 64, .inl (fun _ => 0))), (q30, .inl (cI, 64, .inl (fun _ => 0))), (q38, .inl (cI, 64, .inl (fun _ => 0))), (q47, .inl (cI, 320, .inl (fun _ => 0)))] H := hP
  have hD : va_D A [(h0, .inr (1, [.int 1, .int 0, .int 0, .ref q22, .ref q30, .ref q38, .ref q47, .null])), (q22, .inl (cI, 64, .inl (fun _ => 0))), (q30, .inl (cI, 64, .inl (fun _ => 0))), (q38, .inl (cI, 64, .inl (fun _ => 0))), (q47, .inl (cI, 320, .inl (fun _ => 0)))] := hD
  refine lv_aload_n hx hb d_P_init_52 rfl (lv_at hl 0 rfl) ?_
  refine lv_bipush (v := 16) hx hb d_P_init_53 (by decide) ?_
  refine va_newa (atype := .int) (ty := .int) (a0 := (16, .inl (fun _ => 0))) hx hb (hts _ w_36) rfl hK hP hD hS hA (fun _ => rfl) (by decide) (by decide) (by decide) (Nat.le_of_ble_eq_true rfl) (Nat.le_of_ble_eq_true rfl) d_P_init_55 (fun q55 cA H hK2 hP hD hS => ?_)
  rw [arrSame_int hK 0 rfl hK2] at hP hD
  have hP : va_P D vwCl [(h0, .inr (1, [.int 1, .int 0, .int 0, .ref q22, .ref q30, .ref q38, .ref q47, .null])), (q22, .inl (cI, 64, .inl (fun _ => 0))), (q30, .inl (cI, 64, .inl (fun _ => 0))), (q38, .inl (cI, 64, .inl (fun _ => 0))), (q47, .inl (cI, 320, .inl (fun _ => 0))), (q55, .inl (cI, 16, .inl (fun _ => 0)))] H := hP
  have hD : va_D A [(h0, .inr (1, [.int 1, .int 0, .int 0, .ref q22, .ref q30, .ref q38, .ref q47, .null])), (q22, .inl (cI, 64, .inl (fun _ => 0))), (q30, .inl (cI, 64, .inl (fun _ => 0))), (q38, .inl (cI, 64, .inl (fun _ => 0))), (q47, .inl (cI, 320, .inl (fun _ => 0))), (q55, .inl (cI, 16, .inl (fun _ => 0)))] := hD
  refine W.widen (k := 5) (n := 528) (by decide) (by decide) ?_
  refine va_putF (D := D) (ci := 1) (v := .ref q55) (ty := .array .int) (C := R_P) (T := T_P) (N := 8) hx hb hts l_P t_P t_P_ok n_P hown hK hP hD hS 0 rfl rfl 7 (by decide) (hts _ w_27) (fun _ h9 => h9) rfl hin rfl (by decide +kernel) rfl rfl (Nat.le_of_ble_eq_true rfl) d_P_init_57 (fun H locs hP hD hS => ?_)
  have hP : va_P D vwCl [(h0, .inr (1, [.int 1, .int 0, .int 0, .ref q22, .ref q30, .ref q38, .ref q47, .ref q55])), (q22, .inl (cI, 64, .inl (fun _ => 0))), (q30, .inl (cI, 64, .inl (fun _ => 0))), (q38, .inl (cI, 64, .inl (fun _ => 0))), (q47, .inl (cI, 320, .inl (fun _ => 0))), (q55, .inl (cI, 16, .inl (fun _ => 0)))] H := hP
  have hD : va_D A [(h0, .inr (1, [.int 1, .int 0, .int 0, .ref q22, .ref q30, .ref q38, .ref q47, .ref q55])), (q22, .inl (cI, 64, .inl (fun _ => 0))), (q30, .inl (cI, 64, .inl (fun _ => 0))), (q38, .inl (cI, 64, .inl (fun _ => 0))), (q47, .inl (cI, 320, .inl (fun _ => 0))), (q55, .inl (cI, 16, .inl (fun _ => 0)))] := hD
  refine W.widen (k := 5) (n := 528) (by decide) (by decide) ?_
  exact W.vret hx hb hr (fun t ht hW => ⟨⟨(fun k => ([q22, q30, q38, q47, q55] : List Nat).getD k 0), rfl, trivial, by rw [ht]; exact hP, hD⟩, hS.F ht⟩) hS.2.2 d_P_init_60
set_option maxHeartbeats 4000000 in
set_option maxRecDepth 100000 in
theorem c_S_init (l : Launch) (D : va_G) (cI cZ : ClassId) (h0 : Nat) (r1 : Nat) (sz : Nat) : Met l y_S_init (.code y_S_init b_S_init 2 none :: TB) ({ frames := 1, cells := 6, slots := 164, locals := 12 }) (va_Pc [.ref h0, .ref r1] (fun U => U.heap.size = sz ∧ va_P D vwCl [(h0, .inr (2, [.null, .null, .null, .null, .null, .null, .null, .int 0, .int 0, .int 0, .int 0]))] U.heap ∧ va_K D vwCl [(cI, .int), (cZ, .boolean)] U ∧ va_D (fun _ => True) [(h0, .inr (2, [.null, .null, .null, .null, .null, .null, .null, .int 0, .int 0, .int 0, .int 0]))])) (va_Qv (fun _ : Nat → Nat => True) (fun u t => va_P D vwCl [(h0, .inr (2, [.ref r1, .ref (u 0), .ref (u 1), .ref (u 2), .ref (u 3), .ref (u 4), .ref (u 5), .int 1, .int 0, .int (-1), .int 0])), ((u 0), .inl (cI, 8, .inl (fun _ => 0))), ((u 1), .inl (cI, 64, .inl (fun _ => 0))), ((u 2), .inl (cI, 64, .inl (fun _ => 0))), ((u 3), .inl (cI, 4, .inl (fun _ => 0))), ((u 4), .inl (cI, 8, .inl (fun _ => 0))), ((u 5), .inl (cI, 16, .inl (fun _ => 0)))] t.heap ∧ va_D (va_A [(h0, .inr (2, [.null, .null, .null, .null, .null, .null, .null, .int 0, .int 0, .int 0, .int 0]))] sz) [(h0, .inr (2, [.ref r1, .ref (u 0), .ref (u 1), .ref (u 2), .ref (u 3), .ref (u 4), .ref (u 5), .int 1, .int 0, .int (-1), .int 0])), ((u 0), .inl (cI, 8, .inl (fun _ => 0))), ((u 1), .inl (cI, 64, .inl (fun _ => 0))), ((u 2), .inl (cI, 64, .inl (fun _ => 0))), ((u 3), .inl (cI, 4, .inl (fun _ => 0))), ((u 4), .inl (cI, 8, .inl (fun _ => 0))), ((u 5), .inl (cI, 16, .inl (fun _ => 0)))]) (va_A [(h0, .inr (2, [.null, .null, .null, .null, .null, .null, .null, .int 0, .int 0, .int 0, .int 0]))] sz)) 6 164 (va_A [(h0, .inr (2, [.null, .null, .null, .null, .null, .null, .null, .int 0, .int 0, .int 0, .int 0]))] sz) := by
  refine Met.ofW (cc := b_S_init) (maxL := 2) (ret := none) (by decide) rfl ?_
  intro p e s m args below meth c s₁ B hml hv
  obtain ⟨rfl, hsz, hP, hK, hD0⟩ := hv
  have hx := B.exec
  have hb := B.bytes
  have hr := B.returns
  have hts0 := atoms_spec (ws := (.code y_S_init b_S_init 2 none :: TB)) B.pre
  have hts : ∀ w ∈ TB, w.before _ s = true := fun w h => hts0 w (List.mem_cons_of_mem _ h)
  have hown : s.vm.findClass R_S = some m.cls := findClass_of_methodNamed B.named
  have hlocks := B.notSynchronized
  have hin : meth.name = "<init>" := (name_of_methodNamed B.named B.method).1
  subst hsz
  have hD := hD0.self (sz := s.heap.size)
  generalize hAe : va_A [(h0, .inr (2, [.null, .null, .null, .null, .null, .null, .null, .int 0, .int 0, .int 0, .int 0]))] s.heap.size = A at hD ⊢
  have hA : ∀ q : Nat, s.heap.size ≤ q → A q := fun q h => by rw [← hAe]; exact Or.inr h
  have hS : va_S A s.heap s.heap [] := va_S.rf
  have hl := lv_entry ([.ref h0, .ref r1]) (n := 2) (Nat.le_of_ble_eq_true rfl)
  rw [lg_entry_eq]
  generalize (lg_sl ([.ref h0, .ref r1]) ++ List.replicate (2 - (lg_sl ([.ref h0, .ref r1])).length) Slot.unset).toArray = ls at hl ⊢
  have hl : lv_has ls 2 [(0, .ref h0), (1, .ref r1)] := hl
  refine lv_aload_n hx hb d_S_init_0 rfl (lv_at hl 0 rfl) ?_
  refine W.objInit hx hb hown (hts _ w_42) (hts _ w_12) (hts _ w_13) rfl (by rw [hml]; exact hl.1) rfl d_S_init_1 (Nat.le_of_ble_eq_true rfl) (Nat.le_of_ble_eq_true rfl) ?_
  refine W.eq (g2 := F0 m 4 ls []) rfl ?_
  refine lv_aload_n hx hb d_S_init_4 rfl (lv_at hl 0 rfl) ?_
  refine lv_aload_n hx hb d_S_init_5 rfl (lv_at hl 1 rfl) ?_
  refine va_putF (D := D) (ci := 2) (v := .ref r1) (ty := .object "EscapeOwners$Program") (C := R_S) (T := T_S) (N := 11) hx hb hts l_S t_S t_S_ok n_S hown hK hP hD hS 0 rfl rfl 0 (by decide) (hts _ w_43) (fun _ h9 => h9) rfl hin rfl (by decide +kernel) rfl rfl (Nat.le_of_ble_eq_true rfl) d_S_init_6 (fun H locs hP hD hS => ?_)
  have hP : va_P D vwCl [(h0, .inr (2, [.ref r1, .null, .null, .null, .null, .null, .null, .int 0, .int 0, .int 0, .int 0]))] H := hP
  have hD : va_D A [(h0, .inr (2, [.ref r1, .null, .null, .null, .null, .null, .null, .int 0, .int 0, .int 0, .int 0]))] := hD
  refine lv_aload_n hx hb d_S_init_9 rfl (lv_at hl 0 rfl) ?_
  refine lv_bipush (v := 8) hx hb d_S_init_10 (by decide) ?_
  refine va_newa (atype := .int) (ty := .int) (a0 := (8, .inl (fun _ => 0))) hx hb (hts _ w_36) rfl hK hP hD hS hA (fun _ => rfl) (by decide) (by decide) (by decide) (Nat.le_of_ble_eq_true rfl) (Nat.le_of_ble_eq_true rfl) d_S_init_12 (fun q12 cA H hK2 hP hD hS => ?_)
  rw [arrSame_int hK 0 rfl hK2] at hP hD
  have hP : va_P D vwCl [(h0, .inr (2, [.ref r1, .null, .null, .null, .null, .null, .null, .int 0, .int 0, .int 0, .int 0])), (q12, .inl (cI, 8, .inl (fun _ => 0)))] H := hP
  have hD : va_D A [(h0, .inr (2, [.ref r1, .null, .null, .null, .null, .null, .null, .int 0, .int 0, .int 0, .int 0])), (q12, .inl (cI, 8, .inl (fun _ => 0)))] := hD
  refine W.widen (k := 1) (n := 8) (by decide) (by decide) ?_
  refine va_putF (D := D) (ci := 2) (v := .ref q12) (ty := .array .int) (C := R_S) (T := T_S) (N := 11) hx hb hts l_S t_S t_S_ok n_S hown hK hP hD hS 0 rfl rfl 1 (by decide) (hts _ w_44) (fun _ h9 => h9) rfl hin rfl (by decide +kernel) rfl rfl (Nat.le_of_ble_eq_true rfl) d_S_init_14 (fun H locs hP hD hS => ?_)
  have hP : va_P D vwCl [(h0, .inr (2, [.ref r1, .ref q12, .null, .null, .null, .null, .null, .int 0, .int 0, .int 0, .int 0])), (q12, .inl (cI, 8, .inl (fun _ => 0)))] H := hP
  have hD : va_D A [(h0, .inr (2, [.ref r1, .ref q12, .null, .null, .null, .null, .null, .int 0, .int 0, .int 0, .int 0])), (q12, .inl (cI, 8, .inl (fun _ => 0)))] := hD
  refine lv_aload_n hx hb d_S_init_17 rfl (lv_at hl 0 rfl) ?_
  refine lv_bipush (v := 64) hx hb d_S_init_18 (by decide) ?_
  refine va_newa (atype := .int) (ty := .int) (a0 := (64, .inl (fun _ => 0))) hx hb (hts _ w_36) rfl hK hP hD hS hA (fun _ => rfl) (by decide) (by decide) (by decide) (Nat.le_of_ble_eq_true rfl) (Nat.le_of_ble_eq_true rfl) d_S_init_20 (fun q20 cA H hK2 hP hD hS => ?_)
  rw [arrSame_int hK 0 rfl hK2] at hP hD
  have hP : va_P D vwCl [(h0, .inr (2, [.ref r1, .ref q12, .null, .null, .null, .null, .null, .int 0, .int 0, .int 0, .int 0])), (q12, .inl (cI, 8, .inl (fun _ => 0))), (q20, .inl (cI, 64, .inl (fun _ => 0)))] H := hP
  have hD : va_D A [(h0, .inr (2, [.ref r1, .ref q12, .null, .null, .null, .null, .null, .int 0, .int 0, .int 0, .int 0])), (q12, .inl (cI, 8, .inl (fun _ => 0))), (q20, .inl (cI, 64, .inl (fun _ => 0)))] := hD
  refine W.widen (k := 2) (n := 72) (by decide) (by decide) ?_
  refine va_putF (D := D) (ci := 2) (v := .ref q20) (ty := .array .int) (C := R_S) (T := T_S) (N := 11) hx hb hts l_S t_S t_S_ok n_S hown hK hP hD hS 0 rfl rfl 2 (by decide) (hts _ w_45) (fun _ h9 => h9) rfl hin rfl (by decide +kernel) rfl rfl (Nat.le_of_ble_eq_true rfl) d_S_init_22 (fun H locs hP hD hS => ?_)
  have hP : va_P D vwCl [(h0, .inr (2, [.ref r1, .ref q12, .ref q20, .null, .null, .null, .null, .int 0, .int 0, .int 0, .int 0])), (q12, .inl (cI, 8, .inl (fun _ => 0))), (q20, .inl (cI, 64, .inl (fun _ => 0)))] H := hP
  have hD : va_D A [(h0, .inr (2, [.ref r1, .ref q12, .ref q20, .null, .null, .null, .null, .int 0, .int 0, .int 0, .int 0])), (q12, .inl (cI, 8, .inl (fun _ => 0))), (q20, .inl (cI, 64, .inl (fun _ => 0)))] := hD
  refine lv_aload_n hx hb d_S_init_25 rfl (lv_at hl 0 rfl) ?_
  refine lv_bipush (v := 64) hx hb d_S_init_26 (by decide) ?_
  refine va_newa (atype := .int) (ty := .int) (a0 := (64, .inl (fun _ => 0))) hx hb (hts _ w_36) rfl hK hP hD hS hA (fun _ => rfl) (by decide) (by decide) (by decide) (Nat.le_of_ble_eq_true rfl) (Nat.le_of_ble_eq_true rfl) d_S_init_28 (fun q28 cA H hK2 hP hD hS => ?_)
  rw [arrSame_int hK 0 rfl hK2] at hP hD
  have hP : va_P D vwCl [(h0, .inr (2, [.ref r1, .ref q12, .ref q20, .null, .null, .null, .null, .int 0, .int 0, .int 0, .int 0])), (q12, .inl (cI, 8, .inl (fun _ => 0))), (q20, .inl (cI, 64, .inl (fun _ => 0))), (q28, .inl (cI, 64, .inl (fun _ => 0)))] H := hP
  have hD : va_D A [(h0, .inr (2, [.ref r1, .ref q12, .ref q20, .null, .null, .null, .null, .int 0, .int 0, .int 0, .int 0])), (q12, .inl (cI, 8, .inl (fun _ => 0))), (q20, .inl (cI, 64, .inl (fun _ => 0))), (q28, .inl (cI, 64, .inl (fun _ => 0)))] := hD
  refine W.widen (k := 3) (n := 136) (by decide) (by decide) ?_
  refine va_putF (D := D) (ci := 2) (v := .ref q28) (ty := .array .int) (C := R_S) (T := T_S) (N := 11) hx hb hts l_S t_S t_S_ok n_S hown hK hP hD hS 0 rfl rfl 3 (by decide) (hts _ w_46) (fun _ h9 => h9) rfl hin rfl (by decide +kernel) rfl rfl (Nat.le_of_ble_eq_true rfl) d_S_init_30 (fun H locs hP hD hS => ?_)
  have hP : va_P D vwCl [(h0, .inr (2, [.ref r1, .ref q12, .ref q20, .ref q28, .null, .null, .null, .int 0, .int 0, .int 0, .int 0])), (q12, .inl (cI, 8, .inl (fun _ => 0))), (q20, .inl (cI, 64, .inl (fun _ => 0))), (q28, .inl (cI, 64, .inl (fun _ => 0)))] H := hP
  have hD : va_D A [(h0, .inr (2, [.ref r1, .ref q12, .ref q20, .ref q28, .null, .null, .null, .int 0, .int 0, .int 0, .int 0])), (q12, .inl (cI, 8, .inl (fun _ => 0))), (q20, .inl (cI, 64, .inl (fun _ => 0))), (q28, .inl (cI, 64, .inl (fun _ => 0)))] := hD
  refine lv_aload_n hx hb d_S_init_33 rfl (lv_at hl 0 rfl) ?_
  refine lv_iconst (v := 4) hx hb d_S_init_34 (by decide) ?_
  refine va_newa (atype := .int) (ty := .int) (a0 := (4, .inl (fun _ => 0))) hx hb (hts _ w_36) rfl hK hP hD hS hA (fun _ => rfl) (by decide) (by decide) (by decide) (Nat.le_of_ble_eq_true rfl) (Nat.le_of_ble_eq_true rfl) d_S_init_35 (fun q35 cA H hK2 hP hD hS => ?_)
  rw [arrSame_int hK 0 rfl hK2] at hP hD
  have hP : va_P D vwCl [(h0, .inr (2, [.ref r1, .ref q12, .ref q20, .ref q28, .null, .null, .null, .int 0, .int 0, .int 0, .int 0])), (q12, .inl (cI, 8, .inl (fun _ => 0))), (q20, .inl (cI, 64, .inl (fun _ => 0))), (q28, .inl (cI, 64, .inl (fun _ => 0))), (q35, .inl (cI, 4, .inl (fun _ => 0)))] H := hP
  have hD : va_D A [(h0, .inr (2, [.ref r1, .ref q12, .ref q20, .ref q28, .null, .null, .null, .int 0, .int 0, .int 0, .int 0])), (q12, .inl (cI, 8, .inl (fun _ => 0))), (q20, .inl (cI, 64, .inl (fun _ => 0))), (q28, .inl (cI, 64, .inl (fun _ => 0))), (q35, .inl (cI, 4, .inl (fun _ => 0)))] := hD
  refine W.widen (k := 4) (n := 140) (by decide) (by decide) ?_
  refine va_putF (D := D) (ci := 2) (v := .ref q35) (ty := .array .int) (C := R_S) (T := T_S) (N := 11) hx hb hts l_S t_S t_S_ok n_S hown hK hP hD hS 0 rfl rfl 4 (by decide) (hts _ w_47) (fun _ h9 => h9) rfl hin rfl (by decide +kernel) rfl rfl (Nat.le_of_ble_eq_true rfl) d_S_init_37 (fun H locs hP hD hS => ?_)
  have hP : va_P D vwCl [(h0, .inr (2, [.ref r1, .ref q12, .ref q20, .ref q28, .ref q35, .null, .null, .int 0, .int 0, .int 0, .int 0])), (q12, .inl (cI, 8, .inl (fun _ => 0))), (q20, .inl (cI, 64, .inl (fun _ => 0))), (q28, .inl (cI, 64, .inl (fun _ => 0))), (q35, .inl (cI, 4, .inl (fun _ => 0)))] H := hP
  have hD : va_D A [(h0, .inr (2, [.ref r1, .ref q12, .ref q20, .ref q28, .ref q35, .null, .null, .int 0, .int 0, .int 0, .int 0])), (q12, .inl (cI, 8, .inl (fun _ => 0))), (q20, .inl (cI, 64, .inl (fun _ => 0))), (q28, .inl (cI, 64, .inl (fun _ => 0))), (q35, .inl (cI, 4, .inl (fun _ => 0)))] := hD
  refine lv_aload_n hx hb d_S_init_40 rfl (lv_at hl 0 rfl) ?_
  refine lv_bipush (v := 8) hx hb d_S_init_41 (by decide) ?_
  refine va_newa (atype := .int) (ty := .int) (a0 := (8, .inl (fun _ => 0))) hx hb (hts _ w_36) rfl hK hP hD hS hA (fun _ => rfl) (by decide) (by decide) (by decide) (Nat.le_of_ble_eq_true rfl) (Nat.le_of_ble_eq_true rfl) d_S_init_43 (fun q43 cA H hK2 hP hD hS => ?_)
  rw [arrSame_int hK 0 rfl hK2] at hP hD
  have hP : va_P D vwCl [(h0, .inr (2, [.ref r1, .ref q12, .ref q20, .ref q28, .ref q35, .null, .null, .int 0, .int 0, .int 0, .int 0])), (q12, .inl (cI, 8, .inl (fun _ => 0))), (q20, .inl (cI, 64, .inl (fun _ => 0))), (q28, .inl (cI, 64, .inl (fun _ => 0))), (q35, .inl (cI, 4, .inl (fun _ => 0))), (q43, .inl (cI, 8, .inl (fun _ => 0)))] H := hP
  have hD : va_D A [(h0, .inr (2, [.ref r1, .ref q12, .ref q20, .ref q28, .ref q35, .null, .null, .int 0, .int 0, .int 0, .int 0])), (q12, .inl (cI, 8, .inl (fun _ => 0))), (q20, .inl (cI, 64, .inl (fun _ => 0))), (q28, .inl (cI, 64, .inl (fun _ => 0))), (q35, .inl (cI, 4, .inl (fun _ => 0))), (q43, .inl (cI, 8, .inl (fun _ => 0)))] := hD
  refine W.widen (k := 5) (n := 148) (by decide) (by decide) ?_
  refine va_putF (D := D) (ci := 2) (v := .ref q43) (ty := .array .int) (C := R_S) (T := T_S) (N := 11) hx hb hts l_S t_S t_S_ok n_S hown hK hP hD hS 0 rfl rfl 5 (by decide) (hts _ w_48) (fun _ h9 => h9) rfl hin rfl (by decide +kernel) rfl rfl (Nat.le_of_ble_eq_true rfl) d_S_init_45 (fun H locs hP hD hS => ?_)
  have hP : va_P D vwCl [(h0, .inr (2, [.ref r1, .ref q12, .ref q20, .ref q28, .ref q35, .ref q43, .null, .int 0, .int 0, .int 0, .int 0])), (q12, .inl (cI, 8, .inl (fun _ => 0))), (q20, .inl (cI, 64, .inl (fun _ => 0))), (q28, .inl (cI, 64, .inl (fun _ => 0))), (q35, .inl (cI, 4, .inl (fun _ => 0))), (q43, .inl (cI, 8, .inl (fun _ => 0)))] H := hP
  have hD : va_D A [(h0, .inr (2, [.ref r1, .ref q12, .ref q20, .ref q28, .ref q35, .ref q43, .null, .int 0, .int 0, .int 0, .int 0])), (q12, .inl (cI, 8, .inl (fun _ => 0))), (q20, .inl (cI, 64, .inl (fun _ => 0))), (q28, .inl (cI, 64, .inl (fun _ => 0))), (q35, .inl (cI, 4, .inl (fun _ => 0))), (q43, .inl (cI, 8, .inl (fun _ => 0)))] := hD
  refine lv_aload_n hx hb d_S_init_48 rfl (lv_at hl 0 rfl) ?_
  refine lv_bipush (v := 16) hx hb d_S_init_49 (by decide) ?_
  refine va_newa (atype := .int) (ty := .int) (a0 := (16, .inl (fun _ => 0))) hx hb (hts _ w_36) rfl hK hP hD hS hA (fun _ => rfl) (by decide) (by decide) (by decide) (Nat.le_of_ble_eq_true rfl) (Nat.le_of_ble_eq_true rfl) d_S_init_51 (fun q51 cA H hK2 hP hD hS => ?_)
  rw [arrSame_int hK 0 rfl hK2] at hP hD
  have hP : va_P D vwCl [(h0, .inr (2, [.ref r1, .ref q12, .ref q20, .ref q28, .ref q35, .ref q43, .null, .int 0, .int 0, .int 0, .int 0])), (q12, .inl (cI, 8, .inl (fun _ => 0))), (q20, .inl (cI, 64, .inl (fun _ => 0))), (q28, .inl (cI, 64, .inl (fun _ => 0))), (q35, .inl (cI, 4, .inl (fun _ => 0))), (q43, .inl (cI, 8, .inl (fun _ => 0))), (q51, .inl (cI, 16, .inl (fun _ => 0)))] H := hP
  have hD : va_D A [(h0, .inr (2, [.ref r1, .ref q12, .ref q20, .ref q28, .ref q35, .ref q43, .null, .int 0, .int 0, .int 0, .int 0])), (q12, .inl (cI, 8, .inl (fun _ => 0))), (q20, .inl (cI, 64, .inl (fun _ => 0))), (q28, .inl (cI, 64, .inl (fun _ => 0))), (q35, .inl (cI, 4, .inl (fun _ => 0))), (q43, .inl (cI, 8, .inl (fun _ => 0))), (q51, .inl (cI, 16, .inl (fun _ => 0)))] := hD
  refine W.widen (k := 6) (n := 164) (by decide) (by decide) ?_
  refine va_putF (D := D) (ci := 2) (v := .ref q51) (ty := .array .int) (C := R_S) (T := T_S) (N := 11) hx hb hts l_S t_S t_S_ok n_S hown hK hP hD hS 0 rfl rfl 6 (by decide) (hts _ w_49) (fun _ h9 => h9) rfl hin rfl (by decide +kernel) rfl rfl (Nat.le_of_ble_eq_true rfl) d_S_init_53 (fun H locs hP hD hS => ?_)
  have hP : va_P D vwCl [(h0, .inr (2, [.ref r1, .ref q12, .ref q20, .ref q28, .ref q35, .ref q43, .ref q51, .int 0, .int 0, .int 0, .int 0])), (q12, .inl (cI, 8, .inl (fun _ => 0))), (q20, .inl (cI, 64, .inl (fun _ => 0))), (q28, .inl (cI, 64, .inl (fun _ => 0))), (q35, .inl (cI, 4, .inl (fun _ => 0))), (q43, .inl (cI, 8, .inl (fun _ => 0))), (q51, .inl (cI, 16, .inl (fun _ => 0)))] H := hP
  have hD : va_D A [(h0, .inr (2, [.ref r1, .ref q12, .ref q20, .ref q28, .ref q35, .ref q43, .ref q51, .int 0, .int 0, .int 0, .int 0])), (q12, .inl (cI, 8, .inl (fun _ => 0))), (q20, .inl (cI, 64, .inl (fun _ => 0))), (q28, .inl (cI, 64, .inl (fun _ => 0))), (q35, .inl (cI, 4, .inl (fun _ => 0))), (q43, .inl (cI, 8, .inl (fun _ => 0))), (q51, .inl (cI, 16, .inl (fun _ => 0)))] := hD
  refine lv_aload_n hx hb d_S_init_56 rfl (lv_at hl 0 rfl) ?_
  refine lv_iconst (v := 1) hx hb d_S_init_57 (by decide) ?_
  refine va_put (D := D) (ci := 2) (v := .int 1) (ty := .int) (C := R_S) (T := T_S) (N := 11) hx hb hts l_S t_S t_S_ok n_S hown hK hP hD hS 0 rfl rfl 7 (by decide) (hts _ w_50) (fun _ h9 => h9) rfl (by decide +kernel) rfl rfl (Nat.le_of_ble_eq_true rfl) d_S_init_58 (fun H locs hP hD hS => ?_)
  have hP : va_P D vwCl [(h0, .inr (2, [.ref r1, .ref q12, .ref q20, .ref q28, .ref q35, .ref q43, .ref q51, .int 1, .int 0, .int 0, .int 0])), (q12, .inl (cI, 8, .inl (fun _ => 0))), (q20, .inl (cI, 64, .inl (fun _ => 0))), (q28, .inl (cI, 64, .inl (fun _ => 0))), (q35, .inl (cI, 4, .inl (fun _ => 0))), (q43, .inl (cI, 8, .inl (fun _ => 0))), (q51, .inl (cI, 16, .inl (fun _ => 0)))] H := hP
  have hD : va_D A [(h0, .inr (2, [.ref r1, .ref q12, .ref q20, .ref q28, .ref q35, .ref q43, .ref q51, .int 1, .int 0, .int 0, .int 0])), (q12, .inl (cI, 8, .inl (fun _ => 0))), (q20, .inl (cI, 64, .inl (fun _ => 0))), (q28, .inl (cI, 64, .inl (fun _ => 0))), (q35, .inl (cI, 4, .inl (fun _ => 0))), (q43, .inl (cI, 8, .inl (fun _ => 0))), (q51, .inl (cI, 16, .inl (fun _ => 0)))] := hD
  refine lv_aload_n hx hb d_S_init_61 rfl (lv_at hl 0 rfl) ?_
  refine lv_iconst (v := 0) hx hb d_S_init_62 (by decide) ?_
  refine va_put (D := D) (ci := 2) (v := .int 0) (ty := .int) (C := R_S) (T := T_S) (N := 11) hx hb hts l_S t_S t_S_ok n_S hown hK hP hD hS 0 rfl rfl 8 (by decide) (hts _ w_51) (fun _ h9 => h9) rfl (by decide +kernel) rfl rfl (Nat.le_of_ble_eq_true rfl) d_S_init_63 (fun H locs hP hD hS => ?_)
  have hP : va_P D vwCl [(h0, .inr (2, [.ref r1, .ref q12, .ref q20, .ref q28, .ref q35, .ref q43, .ref q51, .int 1, .int 0, .int 0, .int 0])), (q12, .inl (cI, 8, .inl (fun _ => 0))), (q20, .inl (cI, 64, .inl (fun _ => 0))), (q28, .inl (cI, 64, .inl (fun _ => 0))), (q35, .inl (cI, 4, .inl (fun _ => 0))), (q43, .inl (cI, 8, .inl (fun _ => 0))), (q51, .inl (cI, 16, .inl (fun _ => 0)))] H := hP
  have hD : va_D A [(h0, .inr (2, [.ref r1, .ref q12, .ref q20, .ref q28, .ref q35, .ref q43, .ref q51, .int 1, .int 0, .int 0, .int 0])), (q12, .inl (cI, 8, .inl (fun _ => 0))), (q20, .inl (cI, 64, .inl (fun _ => 0))), (q28, .inl (cI, 64, .inl (fun _ => 0))), (q35, .inl (cI, 4, .inl (fun _ => 0))), (q43, .inl (cI, 8, .inl (fun _ => 0))), (q51, .inl (cI, 16, .inl (fun _ => 0)))] := hD
  refine lv_aload_n hx hb d_S_init_66 rfl (lv_at hl 0 rfl) ?_
  refine lv_iconst (v := -1) hx hb d_S_init_67 (by decide) ?_
  refine va_put (D := D) (ci := 2) (v := .int (-1)) (ty := .int) (C := R_S) (T := T_S) (N := 11) hx hb hts l_S t_S t_S_ok n_S hown hK hP hD hS 0 rfl rfl 9 (by decide) (hts _ w_52) (fun _ h9 => h9) rfl (by decide +kernel) rfl rfl (Nat.le_of_ble_eq_true rfl) d_S_init_68 (fun H locs hP hD hS => ?_)
  have hP : va_P D vwCl [(h0, .inr (2, [.ref r1, .ref q12, .ref q20, .ref q28, .ref q35, .ref q43, .ref q51, .int 1, .int 0, .int (-1), .int 0])), (q12, .inl (cI, 8, .inl (fun _ => 0))), (q20, .inl (cI, 64, .inl (fun _ => 0))), (q28, .inl (cI, 64, .inl (fun _ => 0))), (q35, .inl (cI, 4, .inl (fun _ => 0))), (q43, .inl (cI, 8, .inl (fun _ => 0))), (q51, .inl (cI, 16, .inl (fun _ => 0)))] H := hP
  have hD : va_D A [(h0, .inr (2, [.ref r1, .ref q12, .ref q20, .ref q28, .ref q35, .ref q43, .ref q51, .int 1, .int 0, .int (-1), .int 0])), (q12, .inl (cI, 8, .inl (fun _ => 0))), (q20, .inl (cI, 64, .inl (fun _ => 0))), (q28, .inl (cI, 64, .inl (fun _ => 0))), (q35, .inl (cI, 4, .inl (fun _ => 0))), (q43, .inl (cI, 8, .inl (fun _ => 0))), (q51, .inl (cI, 16, .inl (fun _ => 0)))] := hD
  refine lv_aload_n hx hb d_S_init_71 rfl (lv_at hl 0 rfl) ?_
  refine lv_iconst (v := 0) hx hb d_S_init_72 (by decide) ?_
  refine va_put (D := D) (ci := 2) (v := .int 0) (ty := .boolean) (C := R_S) (T := T_S) (N := 11) hx hb hts l_S t_S t_S_ok n_S hown hK hP hD hS 0 rfl rfl 10 (by decide) (hts _ w_53) (fun _ h9 => h9) rfl (by decide +kernel) rfl rfl (Nat.le_of_ble_eq_true rfl) d_S_init_73 (fun H locs hP hD hS => ?_)
  have hP : va_P D vwCl [(h0, .inr (2, [.ref r1, .ref q12, .ref q20, .ref q28, .ref q35, .ref q43, .ref q51, .int 1, .int 0, .int (-1), .int 0])), (q12, .inl (cI, 8, .inl (fun _ => 0))), (q20, .inl (cI, 64, .inl (fun _ => 0))), (q28, .inl (cI, 64, .inl (fun _ => 0))), (q35, .inl (cI, 4, .inl (fun _ => 0))), (q43, .inl (cI, 8, .inl (fun _ => 0))), (q51, .inl (cI, 16, .inl (fun _ => 0)))] H := hP
  have hD : va_D A [(h0, .inr (2, [.ref r1, .ref q12, .ref q20, .ref q28, .ref q35, .ref q43, .ref q51, .int 1, .int 0, .int (-1), .int 0])), (q12, .inl (cI, 8, .inl (fun _ => 0))), (q20, .inl (cI, 64, .inl (fun _ => 0))), (q28, .inl (cI, 64, .inl (fun _ => 0))), (q35, .inl (cI, 4, .inl (fun _ => 0))), (q43, .inl (cI, 8, .inl (fun _ => 0))), (q51, .inl (cI, 16, .inl (fun _ => 0)))] := hD
  refine W.widen (k := 6) (n := 164) (by decide) (by decide) ?_
  exact W.vret hx hb hr (fun t ht hW => ⟨⟨(fun k => ([q12, q20, q28, q35, q43, q51] : List Nat).getD k 0), rfl, trivial, by rw [ht]; exact hP, hD⟩, hS.F ht⟩) hS.2.2 d_S_init_76
set_option maxHeartbeats 4000000 in
set_option maxRecDepth 100000 in
theorem c_X_init (l : Launch) (D : va_G) (cI cZ : ClassId) (h0 : Nat) (r1 r2 : Nat) (sz : Nat) : Met l y_X_init (.code y_X_init b_X_init 3 none :: TB) ({ frames := 1, cells := 0, slots := 0, locals := 12 }) (va_Pc [.ref h0, .ref r1, .ref r2] (fun U => U.heap.size = sz ∧ va_P D vwCl [(h0, .inr (3, [.null, .null]))] U.heap ∧ va_K D vwCl [(cI, .int), (cZ, .boolean)] U ∧ va_D (fun _ => True) [(h0, .inr (3, [.null, .null]))])) (va_Qv (fun _ : Nat → Nat => True) (fun u t => va_P D vwCl [(h0, .inr (3, [.ref r1, .ref r2]))] t.heap ∧ va_D (va_A [(h0, .inr (3, [.null, .null]))] sz) [(h0, .inr (3, [.ref r1, .ref r2]))]) (va_A [(h0, .inr (3, [.null, .null]))] sz)) 0 0 (va_A [(h0, .inr (3, [.null, .null]))] sz) := by
  refine Met.ofW (cc := b_X_init) (maxL := 3) (ret := none) (by decide) rfl ?_
  intro p e s m args below meth c s₁ B hml hv
  obtain ⟨rfl, hsz, hP, hK, hD0⟩ := hv
  have hx := B.exec
  have hb := B.bytes
  have hr := B.returns
  have hts0 := atoms_spec (ws := (.code y_X_init b_X_init 3 none :: TB)) B.pre
  have hts : ∀ w ∈ TB, w.before _ s = true := fun w h => hts0 w (List.mem_cons_of_mem _ h)
  have hown : s.vm.findClass R_X = some m.cls := findClass_of_methodNamed B.named
  have hlocks := B.notSynchronized
  have hin : meth.name = "<init>" := (name_of_methodNamed B.named B.method).1
  subst hsz
  have hD := hD0.self (sz := s.heap.size)
  generalize hAe : va_A [(h0, .inr (3, [.null, .null]))] s.heap.size = A at hD ⊢
  have hA : ∀ q : Nat, s.heap.size ≤ q → A q := fun q h => by rw [← hAe]; exact Or.inr h
  have hS : va_S A s.heap s.heap [] := va_S.rf
  have hl := lv_entry ([.ref h0, .ref r1, .ref r2]) (n := 3) (Nat.le_of_ble_eq_true rfl)
  rw [lg_entry_eq]
  generalize (lg_sl ([.ref h0, .ref r1, .ref r2]) ++ List.replicate (3 - (lg_sl ([.ref h0, .ref r1, .ref r2])).length) Slot.unset).toArray = ls at hl ⊢
  have hl : lv_has ls 3 [(0, .ref h0), (1, .ref r1), (2, .ref r2)] := hl
  refine lv_aload_n hx hb d_X_init_0 rfl (lv_at hl 0 rfl) ?_
  refine W.objInit hx hb hown (hts _ w_70) (hts _ w_12) (hts _ w_13) rfl (by rw [hml]; exact hl.1) rfl d_X_init_1 (Nat.le_of_ble_eq_true rfl) (Nat.le_of_ble_eq_true rfl) ?_
  refine W.eq (g2 := F0 m 4 ls []) rfl ?_
  refine lv_aload_n hx hb d_X_init_4 rfl (lv_at hl 0 rfl) ?_
  refine lv_aload_n hx hb d_X_init_5 rfl (lv_at hl 1 rfl) ?_
  refine va_putF (D := D) (ci := 3) (v := .ref r1) (ty := .object "EscapeOwners$Program") (C := R_X) (T := T_X) (N := 2) hx hb hts l_X t_X t_X_ok n_X hown hK hP hD hS 0 rfl rfl 0 (by decide) (hts _ w_71) (fun _ h9 => h9) rfl hin rfl (by decide +kernel) rfl rfl (Nat.le_of_ble_eq_true rfl) d_X_init_6 (fun H locs hP hD hS => ?_)
  have hP : va_P D vwCl [(h0, .inr (3, [.ref r1, .null]))] H := hP
  have hD : va_D A [(h0, .inr (3, [.ref r1, .null]))] := hD
  refine lv_aload_n hx hb d_X_init_9 rfl (lv_at hl 0 rfl) ?_
  refine lv_aload_n hx hb d_X_init_10 rfl (lv_at hl 2 rfl) ?_
  refine va_putF (D := D) (ci := 3) (v := .ref r2) (ty := .object "EscapeOwners$LeastSets") (C := R_X) (T := T_X) (N := 2) hx hb hts l_X t_X t_X_ok n_X hown hK hP hD hS 0 rfl rfl 1 (by decide) (hts _ w_72) (fun _ h9 => h9) rfl hin rfl (by decide +kernel) rfl rfl (Nat.le_of_ble_eq_true rfl) d_X_init_11 (fun H locs hP hD hS => ?_)
  have hP : va_P D vwCl [(h0, .inr (3, [.ref r1, .ref r2]))] H := hP
  have hD : va_D A [(h0, .inr (3, [.ref r1, .ref r2]))] := hD
  refine W.widen (k := 0) (n := 0) (by decide) (by decide) ?_
  exact W.vret hx hb hr (fun t ht hW => ⟨⟨(fun k => ([] : List Nat).getD k 0), rfl, trivial, by rw [ht]; exact hP, hD⟩, hS.F ht⟩) hS.2.2 d_X_init_14
set_option maxHeartbeats 4000000 in
set_option maxRecDepth 100000 in
theorem c_K_init (l : Launch) (D : va_G) (cI cZ : ClassId) (h0 : Nat) (r1 : Nat) (sz : Nat) : Met l y_K_init (.code y_K_init b_K_init 2 none :: TB) ({ frames := 1, cells := 1, slots := 8, locals := 12 }) (va_Pc [.ref h0, .ref r1] (fun U => U.heap.size = sz ∧ va_P D vwCl [(h0, .inr (4, [.null, .null, .int 0, .int 0]))] U.heap ∧ va_K D vwCl [(cI, .int), (cZ, .boolean)] U ∧ va_D (fun _ => True) [(h0, .inr (4, [.null, .null, .int 0, .int 0]))])) (va_Qv (fun _ : Nat → Nat => True) (fun u t => va_P D vwCl [(h0, .inr (4, [.ref r1, .ref (u 0), .int 0, .int 0])), ((u 0), .inl (cI, 8, .inl (fun _ => 0)))] t.heap ∧ va_D (va_A [(h0, .inr (4, [.null, .null, .int 0, .int 0]))] sz) [(h0, .inr (4, [.ref r1, .ref (u 0), .int 0, .int 0])), ((u 0), .inl (cI, 8, .inl (fun _ => 0)))]) (va_A [(h0, .inr (4, [.null, .null, .int 0, .int 0]))] sz)) 1 8 (va_A [(h0, .inr (4, [.null, .null, .int 0, .int 0]))] sz) := by
  refine Met.ofW (cc := b_K_init) (maxL := 2) (ret := none) (by decide) rfl ?_
  intro p e s m args below meth c s₁ B hml hv
  obtain ⟨rfl, hsz, hP, hK, hD0⟩ := hv
  have hx := B.exec
  have hb := B.bytes
  have hr := B.returns
  have hts0 := atoms_spec (ws := (.code y_K_init b_K_init 2 none :: TB)) B.pre
  have hts : ∀ w ∈ TB, w.before _ s = true := fun w h => hts0 w (List.mem_cons_of_mem _ h)
  have hown : s.vm.findClass R_K = some m.cls := findClass_of_methodNamed B.named
  have hlocks := B.notSynchronized
  have hin : meth.name = "<init>" := (name_of_methodNamed B.named B.method).1
  subst hsz
  have hD := hD0.self (sz := s.heap.size)
  generalize hAe : va_A [(h0, .inr (4, [.null, .null, .int 0, .int 0]))] s.heap.size = A at hD ⊢
  have hA : ∀ q : Nat, s.heap.size ≤ q → A q := fun q h => by rw [← hAe]; exact Or.inr h
  have hS : va_S A s.heap s.heap [] := va_S.rf
  have hl := lv_entry ([.ref h0, .ref r1]) (n := 2) (Nat.le_of_ble_eq_true rfl)
  rw [lg_entry_eq]
  generalize (lg_sl ([.ref h0, .ref r1]) ++ List.replicate (2 - (lg_sl ([.ref h0, .ref r1])).length) Slot.unset).toArray = ls at hl ⊢
  have hl : lv_has ls 2 [(0, .ref h0), (1, .ref r1)] := hl
  refine lv_aload_n hx hb d_K_init_0 rfl (lv_at hl 0 rfl) ?_
  refine W.objInit hx hb hown (hts _ w_80) (hts _ w_12) (hts _ w_13) rfl (by rw [hml]; exact hl.1) rfl d_K_init_1 (Nat.le_of_ble_eq_true rfl) (Nat.le_of_ble_eq_true rfl) ?_
  refine W.eq (g2 := F0 m 4 ls []) rfl ?_
  refine lv_aload_n hx hb d_K_init_4 rfl (lv_at hl 0 rfl) ?_
  refine lv_aload_n hx hb d_K_init_5 rfl (lv_at hl 1 rfl) ?_
  refine va_putF (D := D) (ci := 4) (v := .ref r1) (ty := .object "EscapeOwners$Program") (C := R_K) (T := T_K) (N := 4) hx hb hts l_K t_K t_K_ok n_K hown hK hP hD hS 0 rfl rfl 0 (by decide) (hts _ w_81) (fun _ h9 => h9) rfl hin rfl (by decide +kernel) rfl rfl (Nat.le_of_ble_eq_true rfl) d_K_init_6 (fun H locs hP hD hS => ?_)
  have hP : va_P D vwCl [(h0, .inr (4, [.ref r1, .null, .int 0, .int 0]))] H := hP
  have hD : va_D A [(h0, .inr (4, [.ref r1, .null, .int 0, .int 0]))] := hD
  refine lv_aload_n hx hb d_K_init_9 rfl (lv_at hl 0 rfl) ?_
  refine lv_bipush (v := 8) hx hb d_K_init_10 (by decide) ?_
  refine va_newa (atype := .int) (ty := .int) (a0 := (8, .inl (fun _ => 0))) hx hb (hts _ w_36) rfl hK hP hD hS hA (fun _ => rfl) (by decide) (by decide) (by decide) (Nat.le_of_ble_eq_true rfl) (Nat.le_of_ble_eq_true rfl) d_K_init_12 (fun q12 cA H hK2 hP hD hS => ?_)
  rw [arrSame_int hK 0 rfl hK2] at hP hD
  have hP : va_P D vwCl [(h0, .inr (4, [.ref r1, .null, .int 0, .int 0])), (q12, .inl (cI, 8, .inl (fun _ => 0)))] H := hP
  have hD : va_D A [(h0, .inr (4, [.ref r1, .null, .int 0, .int 0])), (q12, .inl (cI, 8, .inl (fun _ => 0)))] := hD
  refine W.widen (k := 1) (n := 8) (by decide) (by decide) ?_
  refine va_putF (D := D) (ci := 4) (v := .ref q12) (ty := .array .int) (C := R_K) (T := T_K) (N := 4) hx hb hts l_K t_K t_K_ok n_K hown hK hP hD hS 0 rfl rfl 1 (by decide) (hts _ w_82) (fun _ h9 => h9) rfl hin rfl (by decide +kernel) rfl rfl (Nat.le_of_ble_eq_true rfl) d_K_init_14 (fun H locs hP hD hS => ?_)
  have hP : va_P D vwCl [(h0, .inr (4, [.ref r1, .ref q12, .int 0, .int 0])), (q12, .inl (cI, 8, .inl (fun _ => 0)))] H := hP
  have hD : va_D A [(h0, .inr (4, [.ref r1, .ref q12, .int 0, .int 0])), (q12, .inl (cI, 8, .inl (fun _ => 0)))] := hD
  refine lv_aload_n hx hb d_K_init_17 rfl (lv_at hl 0 rfl) ?_
  refine lv_iconst (v := 0) hx hb d_K_init_18 (by decide) ?_
  refine va_put (D := D) (ci := 4) (v := .int 0) (ty := .int) (C := R_K) (T := T_K) (N := 4) hx hb hts l_K t_K t_K_ok n_K hown hK hP hD hS 0 rfl rfl 2 (by decide) (hts _ w_83) (fun _ h9 => h9) rfl (by decide +kernel) rfl rfl (Nat.le_of_ble_eq_true rfl) d_K_init_19 (fun H locs hP hD hS => ?_)
  have hP : va_P D vwCl [(h0, .inr (4, [.ref r1, .ref q12, .int 0, .int 0])), (q12, .inl (cI, 8, .inl (fun _ => 0)))] H := hP
  have hD : va_D A [(h0, .inr (4, [.ref r1, .ref q12, .int 0, .int 0])), (q12, .inl (cI, 8, .inl (fun _ => 0)))] := hD
  refine lv_aload_n hx hb d_K_init_22 rfl (lv_at hl 0 rfl) ?_
  refine lv_iconst (v := 0) hx hb d_K_init_23 (by decide) ?_
  refine va_put (D := D) (ci := 4) (v := .int 0) (ty := .int) (C := R_K) (T := T_K) (N := 4) hx hb hts l_K t_K t_K_ok n_K hown hK hP hD hS 0 rfl rfl 3 (by decide) (hts _ w_84) (fun _ h9 => h9) rfl (by decide +kernel) rfl rfl (Nat.le_of_ble_eq_true rfl) d_K_init_24 (fun H locs hP hD hS => ?_)
  have hP : va_P D vwCl [(h0, .inr (4, [.ref r1, .ref q12, .int 0, .int 0])), (q12, .inl (cI, 8, .inl (fun _ => 0)))] H := hP
  have hD : va_D A [(h0, .inr (4, [.ref r1, .ref q12, .int 0, .int 0])), (q12, .inl (cI, 8, .inl (fun _ => 0)))] := hD
  refine W.widen (k := 1) (n := 8) (by decide) (by decide) ?_
  exact W.vret hx hb hr (fun t ht hW => ⟨⟨(fun k => ([q12] : List Nat).getD k 0), rfl, trivial, by rw [ht]; exact hP, hD⟩, hS.F ht⟩) hS.2.2 d_K_init_27
set_option maxHeartbeats 4000000 in
set_option maxRecDepth 100000 in
theorem c_M_init (l : Launch) (D : va_G) (cI cZ : ClassId) (h0 : Nat) (sz : Nat) : Met l y_M_init (.code y_M_init b_M_init 1 none :: TB) ({ frames := 1, cells := 10, slots := 732, locals := 12 }) (va_Pc [.ref h0] (fun U => U.heap.size = sz ∧ va_P D vwCl [(h0, .inr (5, [.int 0, .int 0, .int 0, .null, .null, .null, .null, .null, .null, .null, .null, .null, .int 0, .int 0, .int 0, .null, .int 0]))] U.heap ∧ va_K D vwCl [(cI, .int), (cZ, .boolean)] U ∧ va_D (fun _ => True) [(h0, .inr (5, [.int 0, .int 0, .int 0, .null, .null, .null, .null, .null, .null, .null, .null, .null, .int 0, .int 0, .int 0, .null, .int 0]))])) (va_Qv (fun _ : Nat → Nat => True) (fun u t => va_P D vwCl [(h0, .inr (5, [.int 1, .int 0, .int 0, .ref (u 0), .ref (u 1), .ref (u 2), .ref (u 3), .ref (u 4), .ref (u 5), .ref (u 6), .ref (u 7), .ref (u 8), .int 0, .int 1, .int 0, .ref (u 9), .int 0])), ((u 0), .inl (cI, 64, .inl (fun _ => 0))), ((u 1), .inl (cI, 64, .inl (fun _ => 0))), ((u 2), .inl (cI, 64, .inl (fun _ => 0))), ((u 3), .inl (cI, 320, .inl (fun _ => 0))), ((u 4), .inl (cI, 16, .inl (fun _ => 0))), ((u 5), .inl (cI, 64, .inl (fun _ => 0))), ((u 6), .inl (cI, 64, .inl (fun _ => 0))), ((u 7), .inl (cI, 4, .inl (fun _ => 0))), ((u 8), .inl (cI, 8, .inl (fun _ => 0))), ((u 9), .inl (cZ, 64, .inl (fun _ => 0)))] t.heap ∧ va_D (va_A [(h0, .inr (5, [.int 0, .int 0, .int 0, .null, .null, .null, .null, .null, .null, .null, .null, .null, .int 0, .int 0, .int 0, .null, .int 0]))] sz) [(h0, .inr (5, [.int 1, .int 0, .int 0, .ref (u 0), .ref (u 1), .ref (u 2), .ref (u 3), .ref (u 4), .ref (u 5), .ref (u 6), .ref (u 7), .ref (u 8), .int 0, .int 1, .int 0, .ref (u 9), .int 0])), ((u 0), .inl (cI, 64, .inl (fun _ => 0))), ((u 1), .inl (cI, 64, .inl (fun _ => 0))), ((u 2), .inl (cI, 64, .inl (fun _ => 0))), ((u 3), .inl (cI, 320, .inl (fun _ => 0))), ((u 4), .inl (cI, 16, .inl (fun _ => 0))), ((u 5), .inl (cI, 64, .inl (fun _ => 0))), ((u 6), .inl (cI, 64, .inl (fun _ => 0))), ((u 7), .inl (cI, 4, .inl (fun _ => 0))), ((u 8), .inl (cI, 8, .inl (fun _ => 0))), ((u 9), .inl (cZ, 64, .inl (fun _ => 0)))]) (va_A [(h0, .inr (5, [.int 0, .int 0, .int 0, .null, .null, .null, .null, .null, .null, .null, .null, .null, .int 0, .int 0, .int 0, .null, .int 0]))] sz)) 10 732 (va_A [(h0, .inr (5, [.int 0, .int 0, .int 0, .null, .null, .null, .null, .null, .null, .null, .null, .null, .int 0, .int 0, .int 0, .null, .int 0]))] sz) := by
  refine Met.ofW (cc := b_M_init) (maxL := 1) (ret := none) (by decide) rfl ?_
  intro p e s m args below meth c s₁ B hml hv
  obtain ⟨rfl, hsz, hP, hK, hD0⟩ := hv
  have hx := B.exec
  have hb := B.bytes
  have hr := B.returns
  have hts0 := atoms_spec (ws := (.code y_M_init b_M_init 1 none :: TB)) B.pre
  have hts : ∀ w ∈ TB, w.before _ s = true := fun w h => hts0 w (List.mem_cons_of_mem _ h)
  have hown : s.vm.findClass R_M = some m.cls := findClass_of_methodNamed B.named
  have hlocks := B.notSynchronized
  have hin : meth.name = "<init>" := (name_of_methodNamed B.named B.method).1
  subst hsz
  have hD := hD0.self (sz := s.heap.size)
  generalize hAe : va_A [(h0, .inr (5, [.int 0, .int 0, .int 0, .null, .null, .null, .null, .null, .null, .null, .null, .null, .int 0, .int 0, .int 0, .null, .int 0]))] s.heap.size = A at hD ⊢
  have hA : ∀ q : Nat, s.heap.size ≤ q → A q := fun q h => by rw [← hAe]; exact Or.inr h
  have hS : va_S A s.heap s.heap [] := va_S.rf
  have hl := lv_entry ([.ref h0]) (n := 1) (Nat.le_of_ble_eq_true rfl)
  rw [lg_entry_eq]
  generalize (lg_sl ([.ref h0]) ++ List.replicate (1 - (lg_sl ([.ref h0])).length) Slot.unset).toArray = ls at hl ⊢
  have hl : lv_has ls 1 [(0, .ref h0)] := hl
  refine lv_aload_n hx hb d_M_init_0 rfl (lv_at hl 0 rfl) ?_
  refine W.objInit hx hb hown (hts _ w_438) (hts _ w_12) (hts _ w_13) rfl (by rw [hml]; exact hl.1) rfl d_M_init_1 (Nat.le_of_ble_eq_true rfl) (Nat.le_of_ble_eq_true rfl) ?_
  refine W.eq (g2 := F0 m 4 ls []) rfl ?_
  refine lv_aload_n hx hb d_M_init_4 rfl (lv_at hl 0 rfl) ?_
  refine lv_iconst (v := 1) hx hb d_M_init_5 (by decide) ?_
  refine va_put (D := D) (ci := 5) (v := .int 1) (ty := .int) (C := R_M) (T := T_M) (N := 17) hx hb hts l_M t_M t_M_ok n_M hown hK hP hD hS 0 rfl rfl 0 (by decide) (hts _ w_439) (fun _ h9 => h9) rfl (by decide +kernel) rfl rfl (Nat.le_of_ble_eq_true rfl) d_M_init_6 (fun H locs hP hD hS => ?_)
  have hP : va_P D vwCl [(h0, .inr (5, [.int 1, .int 0, .int 0, .null, .null, .null, .null, .null, .null, .null, .null, .null, .int 0, .int 0, .int 0, .null, .int 0]))] H := hP
  have hD : va_D A [(h0, .inr (5, [.int 1, .int 0, .int 0, .null, .null, .null, .null, .null, .null, .null, .null, .null, .int 0, .int 0, .int 0, .null, .int 0]))] := hD
  refine lv_aload_n hx hb d_M_init_9 rfl (lv_at hl 0 rfl) ?_
  refine lv_bipush (v := 64) hx hb d_M_init_10 (by decide) ?_
  refine va_newa (atype := .int) (ty := .int) (a0 := (64, .inl (fun _ => 0))) hx hb (hts _ w_36) rfl hK hP hD hS hA (fun _ => rfl) (by decide) (by decide) (by decide) (Nat.le_of_ble_eq_true rfl) (Nat.le_of_ble_eq_true rfl) d_M_init_12 (fun q12 cA H hK2 hP hD hS => ?_)
  rw [arrSame_int hK 0 rfl hK2] at hP hD
  have hP : va_P D vwCl [(h0, .inr (5, [.int 1, .int 0, .int 0, .null, .null, .null, .null, .null, .null, .null, .null, .null, .int 0, .int 0, .int 0, .null, .int 0])), (q12, .inl (cI, 64, .inl (fun _ => 0)))] H := hP
  have hD : va_D A [(h0, .inr (5, [.int 1, .int 0, .int 0, .null, .null, .null, .null, .null, .null, .null, .null, .null, .int 0, .int 0, .int 0, .null, .int 0])), (q12, .inl (cI, 64, .inl (fun _ => 0)))] := hD
  refine W.widen (k := 1) (n := 64) (by decide) (by decide) ?_
  refine va_putF (D := D) (ci := 5) (v := .ref q12) (ty := .array .int) (C := R_M) (T := T_M) (N := 17) hx hb hts l_M t_M t_M_ok n_M hown hK hP hD hS 0 rfl rfl 3 (by decide) (hts _ w_442) (fun _ h9 => h9) rfl hin rfl (by decide +kernel) rfl rfl (Nat.le_of_ble_eq_true rfl) d_M_init_14 (fun H locs hP hD hS => ?_)
  have hP : va_P D vwCl [(h0, .inr (5, [.int 1, .int 0, .int 0, .ref q12, .null, .null, .null, .null, .null, .null, .null, .null, .int 0, .int 0, .int 0, .null, .int 0])), (q12, .inl (cI, 64, .inl (fun _ => 0)))] H := hP
  have hD : va_D A [(h0, .inr (5, [.int 1, .int 0, .int 0, .ref q12, .null, .null, .null, .null, .null, .null, .null, .null, .int 0, .int 0, .int 0, .null, .int 0])), (q12, .inl (cI, 64, .inl (fun _ => 0)))] := hD
  refine lv_aload_n hx hb d_M_init_17 rfl (lv_at hl 0 rfl) ?_
  refine lv_bipush (v := 64) hx hb d_M_init_18 (by decide) ?_
  refine va_newa (atype := .int) (ty := .int) (a0 := (64, .inl (fun _ => 0))) hx hb (hts _ w_36) rfl hK hP hD hS hA (fun _ => rfl) (by decide) (by decide) (by decide) (Nat.le_of_ble_eq_true rfl) (Nat.le_of_ble_eq_true rfl) d_M_init_20 (fun q20 cA H hK2 hP hD hS => ?_)
  rw [arrSame_int hK 0 rfl hK2] at hP hD
  have hP : va_P D vwCl [(h0, .inr (5, [.int 1, .int 0, .int 0, .ref q12, .null, .null, .null, .null, .null, .null, .null, .null, .int 0, .int 0, .int 0, .null, .int 0])), (q12, .inl (cI, 64, .inl (fun _ => 0))), (q20, .inl (cI, 64, .inl (fun _ => 0)))] H := hP
  have hD : va_D A [(h0, .inr (5, [.int 1, .int 0, .int 0, .ref q12, .null, .null, .null, .null, .null, .null, .null, .null, .int 0, .int 0, .int 0, .null, .int 0])), (q12, .inl (cI, 64, .inl (fun _ => 0))), (q20, .inl (cI, 64, .inl (fun _ => 0)))] := hD
  refine W.widen (k := 2) (n := 128) (by decide) (by decide) ?_
  refine va_putF (D := D) (ci := 5) (v := .ref q20) (ty := .array .int) (C := R_M) (T := T_M) (N := 17) hx hb hts l_M t_M t_M_ok n_M hown hK hP hD hS 0 rfl rfl 4 (by decide) (hts _ w_443) (fun _ h9 => h9) rfl hin rfl (by decide +kernel) rfl rfl (Nat.le_of_ble_eq_true rfl) d_M_init_22 (fun H locs hP hD hS => ?_)
  have hP : va_P D vwCl [(h0, .inr (5, [.int 1, .int 0, .int 0, .ref q12, .ref q20, .null, .null, .null, .null, .null, .null, .null, .int 0, .int 0, .int 0, .null, .int 0])), (q12, .inl (cI, 64, .inl (fun _ => 0))), (q20, .inl (cI, 64, .inl (fun _ => 0)))] H := hP
  have hD : va_D A [(h0, .inr (5, [.int 1, .int 0, .int 0, .ref q12, .ref q20, .null, .null, .null, .null, .null, .null, .null, .int 0, .int 0, .int 0, .null, .int 0])), (q12, .inl (cI, 64, .inl (fun _ => 0))), (q20, .inl (cI, 64, .inl (fun _ => 0)))] := hD
  refine lv_aload_n hx hb d_M_init_25 rfl (lv_at hl 0 rfl) ?_
  refine lv_bipush (v := 64) hx hb d_M_init_26 (by decide) ?_
  refine va_newa (atype := .int) (ty := .int) (a0 := (64, .inl (fun _ => 0))) hx hb (hts _ w_36) rfl hK hP hD hS hA (fun _ => rfl) (by decide) (by decide) (by decide) (Nat.le_of_ble_eq_true rfl) (Nat.le_of_ble_eq_true rfl) d_M_init_28 (fun q28 cA H hK2 hP hD hS => ?_)
  rw [arrSame_int hK 0 rfl hK2] at hP hD
  have hP : va_P D vwCl [(h0, .inr (5, [.int 1, .int 0, .int 0, .ref q12, .ref q20, .null, .null, .null, .null, .null, .null, .null, .int 0, .int 0, .int 0, .null, .int 0])), (q12, .inl (cI, 64, .inl (fun _ => 0))), (q20, .inl (cI, 64, .inl (fun _ => 0))), (q28, .inl (cI, 64, .inl (fun _ => 0)))] H := hP
  have hD : va_D A [(h0, .inr (5, [.int 1, .int 0, .int 0, .ref q12, .ref q20, .null, .null, .null, .null, .null, .null, .null, .int 0, .int 0, .int 0, .null, .int 0])), (q12, .inl (cI, 64, .inl (fun _ => 0))), (q20, .inl (cI, 64, .inl (fun _ => 0))), (q28, .inl (cI, 64, .inl (fun _ => 0)))] := hD
  refine W.widen (k := 3) (n := 192) (by decide) (by decide) ?_
  refine va_putF (D := D) (ci := 5) (v := .ref q28) (ty := .array .int) (C := R_M) (T := T_M) (N := 17) hx hb hts l_M t_M t_M_ok n_M hown hK hP hD hS 0 rfl rfl 5 (by decide) (hts _ w_444) (fun _ h9 => h9) rfl hin rfl (by decide +kernel) rfl rfl (Nat.le_of_ble_eq_true rfl) d_M_init_30 (fun H locs hP hD hS => ?_)
  have hP : va_P D vwCl [(h0, .inr (5, [.int 1, .int 0, .int 0, .ref q12, .ref q20, .ref q28, .null, .null, .null, .null, .null, .null, .int 0, .int 0, .int 0, .null, .int 0])), (q12, .inl (cI, 64, .inl (fun _ => 0))), (q20, .inl (cI, 64, .inl (fun _ => 0))), (q28, .inl (cI, 64, .inl (fun _ => 0)))] H := hP
  have hD : va_D A [(h0, .inr (5, [.int 1, .int 0, .int 0, .ref q12, .ref q20, .ref q28, .null, .null, .null, .null, .null, .null, .int 0, .int 0, .int 0, .null, .int 0])), (q12, .inl (cI, 64, .inl (fun _ => 0))), (q20, .inl (cI, 64, .inl (fun _ => 0))), (q28, .inl (cI, 64, .inl (fun _ => 0)))] := hD
  refine lv_aload_n hx hb d_M_init_33 rfl (lv_at hl 0 rfl) ?_
  refine lv_sipush (v := 320) hx hb d_M_init_34 (by decide) ?_
  refine va_newa (atype := .int) (ty := .int) (a0 := (320, .inl (fun _ => 0))) hx hb (hts _ w_36) rfl hK hP hD hS hA (fun _ => rfl) (by decide) (by decide) (by decide) (Nat.le_of_ble_eq_true rfl) (Nat.le_of_ble_eq_true rfl) d_M_init_37 (fun q37 cA H hK2 hP hD hS => ?_)
  rw [arrSame_int hK 0 rfl hK2] at hP hD
  have hP : va_P D vwCl [(h0, .inr (5, [.int 1, .int 0, .int 0, .ref q12, .ref q20, .ref q28, .null, .null, .null, .null, .null, .null, .int 0, .int 0, .int 0, .null, .int 0])), (q12, .inl (cI, 64, .inl (fun _ => 0))), (q20, .inl (cI, 64, .inl (fun _ => 0))), (q28, .inl (cI, 64, .inl (fun _ => 0))), (q37, .inl (cI, 320, .inl (fun _ => 0)))] H := hP
  have hD : va_D A [(h0, .inr (5, [.int 1, .int 0, .int 0, .ref q12, .ref q20, .ref q28, .null, .null, .null, .null, .null, .null, .int 0, .int 0, .int 0, .null, .int 0])), (q12, .inl (cI, 64, .inl (fun _ => 0))), (q20, .inl (cI, 64, .inl (fun _ => 0))), (q28, .inl (cI, 64, .inl (fun _ => 0))), (q37, .inl (cI, 320, .inl (fun _ => 0)))] := hD
  refine W.widen (k := 4) (n := 512) (by decide) (by decide) ?_
  refine va_putF (D := D) (ci := 5) (v := .ref q37) (ty := .array .int) (C := R_M) (T := T_M) (N := 17) hx hb hts l_M t_M t_M_ok n_M hown hK hP hD hS 0 rfl rfl 6 (by decide) (hts _ w_445) (fun _ h9 => h9) rfl hin rfl (by decide +kernel) rfl rfl (Nat.le_of_ble_eq_true rfl) d_M_init_39 (fun H locs hP hD hS => ?_)
  have hP : va_P D vwCl [(h0, .inr (5, [.int 1, .int 0, .int 0, .ref q12, .ref q20, .ref q28, .ref q37, .null, .null, .null, .null, .null, .int 0, .int 0, .int 0, .null, .int 0])), (q12, .inl (cI, 64, .inl (fun _ => 0))), (q20, .inl (cI, 64, .inl (fun _ => 0))), (q28, .inl (cI, 64, .inl (fun _ => 0))), (q37, .inl (cI, 320, .inl (fun _ => 0)))] H := hP
  have hD : va_D A [(h0, .inr (5, [.int 1, .int 0, .int 0, .ref q12, .ref q20, .ref q28, .ref q37, .null, .null, .null, .null, .null, .int 0, .int 0, .int 0, .null, .int 0])), (q12, .inl (cI, 64, .inl (fun _ => 0))), (q20, .inl (cI, 64, .inl (fun _ => 0))), (q28, .inl (cI, 64, .inl (fun _ => 0))), (q37, .inl (cI, 320, .inl (fun _ => 0)))] := hD
  refine lv_aload_n hx hb d_M_init_42 rfl (lv_at hl 0 rfl) ?_
  refine lv_bipush (v := 16) hx hb d_M_init_43 (by decide) ?_
  refine va_newa (atype := .int) (ty := .int) (a0 := (16, .inl (fun _ => 0))) hx hb (hts _ w_36) rfl hK hP hD hS hA (fun _ => rfl) (by decide) (by decide) (by decide) (Nat.le_of_ble_eq_true rfl) (Nat.le_of_ble_eq_true rfl) d_M_init_45 (fun q45 cA H hK2 hP hD hS => ?_)
  rw [arrSame_int hK 0 rfl hK2] at hP hD
  have hP : va_P D vwCl [(h0, .inr (5, [.int 1, .int 0, .int 0, .ref q12, .ref q20, .ref q28, .ref q37, .null, .null, .null, .null, .null, .int 0, .int 0, .int 0, .null, .int 0])), (q12, .inl (cI, 64, .inl (fun _ => 0))), (q20, .inl (cI, 64, .inl (fun _ => 0))), (q28, .inl (cI, 64, .inl (fun _ => 0))), (q37, .inl (cI, 320, .inl (fun _ => 0))), (q45, .inl (cI, 16, .inl (fun _ => 0)))] H := hP
  have hD : va_D A [(h0, .inr (5, [.int 1, .int 0, .int 0, .ref q12, .ref q20, .ref q28, .ref q37, .null, .null, .null, .null, .null, .int 0, .int 0, .int 0, .null, .int 0])), (q12, .inl (cI, 64, .inl (fun _ => 0))), (q20, .inl (cI, 64, .inl (fun _ => 0))), (q28, .inl (cI, 64, .inl (fun _ => 0))), (q37, .inl (cI, 320, .inl (fun _ => 0))), (q45, .inl (cI, 16, .inl (fun _ => 0)))] := hD
  refine W.widen (k := 5) (n := 528) (by decide) (by decide) ?_
  refine va_putF (D := D) (ci := 5) (v := .ref q45) (ty := .array .int) (C := R_M) (T := T_M) (N := 17) hx hb hts l_M t_M t_M_ok n_M hown hK hP hD hS 0 rfl rfl 7 (by decide) (hts _ w_446) (fun _ h9 => h9) rfl hin rfl (by decide +kernel) rfl rfl (Nat.le_of_ble_eq_true rfl) d_M_init_47 (fun H locs hP hD hS => ?_)
  have hP : va_P D vwCl [(h0, .inr (5, [.int 1, .int 0, .int 0, .ref q12, .ref q20, .ref q28, .ref q37, .ref q45, .null, .null, .null, .null, .int 0, .int 0, .int 0, .null, .int 0])), (q12, .inl (cI, 64, .inl (fun _ => 0))), (q20, .inl (cI, 64, .inl (fun _ => 0))), (q28, .inl (cI, 64, .inl (fun _ => 0))), (q37, .inl (cI, 320, .inl (fun _ => 0))), (q45, .inl (cI, 16, .inl (fun _ => 0)))] H := hP
  have hD : va_D A [(h0, .inr (5, [.int 1, .int 0, .int 0, .ref q12, .ref q20, .ref q28, .ref q37, .ref q45, .null, .null, .null, .null, .int 0, .int 0, .int 0, .null, .int 0])), (q12, .inl (cI, 64, .inl (fun _ => 0))), (q20, .inl (cI, 64, .inl (fun _ => 0))), (q28, .inl (cI, 64, .inl (fun _ => 0))), (q37, .inl (cI, 320, .inl (fun _ => 0))), (q45, .inl (cI, 16, .inl (fun _ => 0)))] := hD
  refine lv_aload_n hx hb d_M_init_50 rfl (lv_at hl 0 rfl) ?_
  refine lv_bipush (v := 64) hx hb d_M_init_51 (by decide) ?_
  refine va_newa (atype := .int) (ty := .int) (a0 := (64, .inl (fun _ => 0))) hx hb (hts _ w_36) rfl hK hP hD hS hA (fun _ => rfl) (by decide) (by decide) (by decide) (Nat.le_of_ble_eq_true rfl) (Nat.le_of_ble_eq_true rfl) d_M_init_53 (fun q53 cA H hK2 hP hD hS => ?_)
  rw [arrSame_int hK 0 rfl hK2] at hP hD
  have hP : va_P D vwCl [(h0, .inr (5, [.int 1, .int 0, .int 0, .ref q12, .ref q20, .ref q28, .ref q37, .ref q45, .null, .null, .null, .null, .int 0, .int 0, .int 0, .null, .int 0])), (q12, .inl (cI, 64, .inl (fun _ => 0))), (q20, .inl (cI, 64, .inl (fun _ => 0))), (q28, .inl (cI, 64, .inl (fun _ => 0))), (q37, .inl (cI, 320, .inl (fun _ => 0))), (q45, .inl (cI, 16, .inl (fun _ => 0))), (q53, .inl (cI, 64, .inl (fun _ => 0)))] H := hP
  have hD : va_D A [(h0, .inr (5, [.int 1, .int 0, .int 0, .ref q12, .ref q20, .ref q28, .ref q37, .ref q45, .null, .null, .null, .null, .int 0, .int 0, .int 0, .null, .int 0])), (q12, .inl (cI, 64, .inl (fun _ => 0))), (q20, .inl (cI, 64, .inl (fun _ => 0))), (q28, .inl (cI, 64, .inl (fun _ => 0))), (q37, .inl (cI, 320, .inl (fun _ => 0))), (q45, .inl (cI, 16, .inl (fun _ => 0))), (q53, .inl (cI, 64, .inl (fun _ => 0)))] := hD
  refine W.widen (k := 6) (n := 592) (by decide) (by decide) ?_
  refine va_putF (D := D) (ci := 5) (v := .ref q53) (ty := .array .int) (C := R_M) (T := T_M) (N := 17) hx hb hts l_M t_M t_M_ok n_M hown hK hP hD hS 0 rfl rfl 8 (by decide) (hts _ w_447) (fun _ h9 => h9) rfl hin rfl (by decide +kernel) rfl rfl (Nat.le_of_ble_eq_true rfl) d_M_init_55 (fun H locs hP hD hS => ?_)
  have hP : va_P D vwCl [(h0, .inr (5, [.int 1, .int 0, .int 0, .ref q12, .ref q20, .ref q28, .ref q37, .ref q45, .ref q53, .null, .null, .null, .int 0, .int 0, .int 0, .null, .int 0])), (q12, .inl (cI, 64, .inl (fun _ => 0))), (q20, .inl (cI, 64, .inl (fun _ => 0))), (q28, .inl (cI, 64, .inl (fun _ => 0))), (q37, .inl (cI, 320, .inl (fun _ => 0))), (q45, .inl (cI, 16, .inl (fun _ => 0))), (q53, .inl (cI, 64, .inl (fun _ => 0)))] H := hP
  have hD : va_D A [(h0, .inr (5, [.int 1, .int 0, .int 0, .ref q12, .ref q20, .ref q28, .ref q37, .ref q45, .ref q53, .null, .null, .null, .int 0, .int 0, .int 0, .null, .int 0])), (q12, .inl (cI, 64, .inl (fun _ => 0))), (q20, .inl (cI, 64, .inl (fun _ => 0))), (q28, .inl (cI, 64, .inl (fun _ => 0))), (q37, .inl (cI, 320, .inl (fun _ => 0))), (q45, .inl (cI, 16, .inl (fun _ => 0))), (q53, .inl (cI, 64, .inl (fun _ => 0)))] := hD
  refine lv_aload_n hx hb d_M_init_58 rfl (lv_at hl 0 rfl) ?_
  refine lv_bipush (v := 64) hx hb d_M_init_59 (by decide) ?_
  refine va_newa (atype := .int) (ty := .int) (a0 := (64, .inl (fun _ => 0))) hx hb (hts _ w_36) rfl hK hP hD hS hA (fun _ => rfl) (by decide) (by decide) (by decide) (Nat.le_of_ble_eq_true rfl) (Nat.le_of_ble_eq_true rfl) d_M_init_61 (fun q61 cA H hK2 hP hD hS => ?_)
  rw [arrSame_int hK 0 rfl hK2] at hP hD
  have hP : va_P D vwCl [(h0, .inr (5, [.int 1, .int 0, .int 0, .ref q12, .ref q20, .ref q28, .ref q37, .ref q45, .ref q53, .null, .null, .null, .int 0, .int 0, .int 0, .null, .int 0])), (q12, .inl (cI, 64, .inl (fun _ => 0))), (q20, .inl (cI, 64, .inl (fun _ => 0))), (q28, .inl (cI, 64, .inl (fun _ => 0))), (q37, .inl (cI, 320, .inl (fun _ => 0))), (q45, .inl (cI, 16, .inl (fun _ => 0))), (q53, .inl (cI, 64, .inl (fun _ => 0))), (q61, .inl (cI, 64, .inl (fun _ => 0)))] H := hP
  have hD : va_D A [(h0, .inr (5, [.int 1, .int 0, .int 0, .ref q12, .ref q20, .ref q28, .ref q37, .ref q45, .ref q53, .null, .null, .null, .int 0, .int 0, .int 0, .null, .int 0])), (q12, .inl (cI, 64, .inl (fun _ => 0))), (q20, .inl (cI, 64, .inl (fun _ => 0))), (q28, .inl (cI, 64, .inl (fun _ => 0))), (q37, .inl (cI, 320, .inl (fun _ => 0))), (q45, .inl (cI, 16, .inl (fun _ => 0))), (q53, .inl (cI, 64, .inl (fun _ => 0))), (q61, .inl (cI, 64, .inl (fun _ => 0)))] := hD
  refine W.widen (k := 7) (n := 656) (by decide) (by decide) ?_
  refine va_putF (D := D) (ci := 5) (v := .ref q61) (ty := .array .int) (C := R_M) (T := T_M) (N := 17) hx hb hts l_M t_M t_M_ok n_M hown hK hP hD hS 0 rfl rfl 9 (by decide) (hts _ w_448) (fun _ h9 => h9) rfl hin rfl (by decide +kernel) rfl rfl (Nat.le_of_ble_eq_true rfl) d_M_init_63 (fun H locs hP hD hS => ?_)
  have hP : va_P D vwCl [(h0, .inr (5, [.int 1, .int 0, .int 0, .ref q12, .ref q20, .ref q28, .ref q37, .ref q45, .ref q53, .ref q61, .null, .null, .int 0, .int 0, .int 0, .null, .int 0])), (q12, .inl (cI, 64, .inl (fun _ => 0))), (q20, .inl (cI, 64, .inl (fun _ => 0))), (q28, .inl (cI, 64, .inl (fun _ => 0))), (q37, .inl (cI, 320, .inl (fun _ => 0))), (q45, .inl (cI, 16, .inl (fun _ => 0))), (q53, .inl (cI, 64, .inl (fun _ => 0))), (q61, .inl (cI, 64, .inl (fun _ => 0)))] H := hP
  have hD : va_D A [(h0, .inr (5, [.int 1, .int 0, .int 0, .ref q12, .ref q20, .ref q28, .ref q37, .ref q45, .ref q53, .ref q61, .null, .null, .int 0, .int 0, .int 0, .null, .int 0])), (q12, .inl (cI, 64, .inl (fun _ => 0))), (q20, .inl (cI, 64, .inl (fun _ => 0))), (q28, .inl (cI, 64, .inl (fun _ => 0))), (q37, .inl (cI, 320, .inl (fun _ => 0))), (q45, .inl (cI, 16, .inl (fun _ => 0))), (q53, .inl (cI, 64, .inl (fun _ => 0))), (q61, .inl (cI, 64, .inl (fun _ => 0)))] := hD
  refine lv_aload_n hx hb d_M_init_66 rfl (lv_at hl 0 rfl) ?_
  refine lv_iconst (v := 4) hx hb d_M_init_67 (by decide) ?_
  refine va_newa (atype := .int) (ty := .int) (a0 := (4, .inl (fun _ => 0))) hx hb (hts _ w_36) rfl hK hP hD hS hA (fun _ => rfl) (by decide) (by decide) (by decide) (Nat.le_of_ble_eq_true rfl) (Nat.le_of_ble_eq_true rfl) d_M_init_68 (fun q68 cA H hK2 hP hD hS => ?_)
  rw [arrSame_int hK 0 rfl hK2] at hP hD
  have hP : va_P D vwCl [(h0, .inr (5, [.int 1, .int 0, .int 0, .ref q12, .ref q20, .ref q28, .ref q37, .ref q45, .ref q53, .ref q61, .null, .null, .int 0, .int 0, .int 0, .null, .int 0])), (q12, .inl (cI, 64, .inl (fun _ => 0))), (q20, .inl (cI, 64, .inl (fun _ => 0))), (q28, .inl (cI, 64, .inl (fun _ => 0))), (q37, .inl (cI, 320, .inl (fun _ => 0))), (q45, .inl (cI, 16, .inl (fun _ => 0))), (q53, .inl (cI, 64, .inl (fun _ => 0))), (q61, .inl (cI, 64, .inl (fun _ => 0))), (q68, .inl (cI, 4, .inl (fun _ => 0)))] H := hP
  have hD : va_D A [(h0, .inr (5, [.int 1, .int 0, .int 0, .ref q12, .ref q20, .ref q28, .ref q37, .ref q45, .ref q53, .ref q61, .null, .null, .int 0, .int 0, .int 0, .null, .int 0])), (q12, .inl (cI, 64, .inl (fun _ => 0))), (q20, .inl (cI, 64, .inl (fun _ => 0))), (q28, .inl (cI, 64, .inl (fun _ => 0))), (q37, .inl (cI, 320, .inl (fun _ => 0))), (q45, .inl (cI, 16, .inl (fun _ => 0))), (q53, .inl (cI, 64, .inl (fun _ => 0))), (q61, .inl (cI, 64, .inl (fun _ => 0))), (q68, .inl (cI, 4, .inl (fun _ => 0)))] := hD
  refine W.widen (k := 8) (n := 660) (by decide) (by decide) ?_
  refine va_putF (D := D) (ci := 5) (v := .ref q68) (ty := .array .int) (C := R_M) (T := T_M) (N := 17) hx hb hts l_M t_M t_M_ok n_M hown hK hP hD hS 0 rfl rfl 10 (by decide) (hts _ w_449) (fun _ h9 => h9) rfl hin rfl (by decide +kernel) rfl rfl (Nat.le_of_ble_eq_true rfl) d_M_init_70 (fun H locs hP hD hS => ?_)
  have hP : va_P D vwCl [(h0, .inr (5, [.int 1, .int 0, .int 0, .ref q12, .ref q20, .ref q28, .ref q37, .ref q45, .ref q53, .ref q61, .ref q68, .null, .int 0, .int 0, .int 0, .null, .int 0])), (q12, .inl (cI, 64, .inl (fun _ => 0))), (q20, .inl (cI, 64, .inl (fun _ => 0))), (q28, .inl (cI, 64, .inl (fun _ => 0))), (q37, .inl (cI, 320, .inl (fun _ => 0))), (q45, .inl (cI, 16, .inl (fun _ => 0))), (q53, .inl (cI, 64, .inl (fun _ => 0))), (q61, .inl (cI, 64, .inl (fun _ => 0))), (q68, .inl (cI, 4, .inl (fun _ => 0)))] H := hP
  have hD : va_D A [(h0, .inr (5, [.int 1, .int 0, .int 0, .ref q12, .ref q20, .ref q28, .ref q37, .ref q45, .ref q53, .ref q61, .ref q68, .null, .int 0, .int 0, .int 0, .null, .int 0])), (q12, .inl (cI, 64, .inl (fun _ => 0))), (q20, .inl (cI, 64, .inl (fun _ => 0))), (q28, .inl (cI, 64, .inl (fun _ => 0))), (q37, .inl (cI, 320, .inl (fun _ => 0))), (q45, .inl (cI, 16, .inl (fun _ => 0))), (q53, .inl (cI, 64, .inl (fun _ => 0))), (q61, .inl (cI, 64, .inl (fun _ => 0))), (q68, .inl (cI, 4, .inl (fun _ => 0)))] := hD
  refine lv_aload_n hx hb d_M_init_73 rfl (lv_at hl 0 rfl) ?_
  refine lv_bipush (v := 8) hx hb d_M_init_74 (by decide) ?_
  refine va_newa (atype := .int) (ty := .int) (a0 := (8, .inl (fun _ => 0))) hx hb (hts _ w_36) rfl hK hP hD hS hA (fun _ => rfl) (by decide) (by decide) (by decide) (Nat.le_of_ble_eq_true rfl) (Nat.le_of_ble_eq_true rfl) d_M_init_76 (fun q76 cA H hK2 hP hD hS => ?_)
  rw [arrSame_int hK 0 rfl hK2] at hP hD
  have hP : va_P D vwCl [(h0, .inr (5, [.int 1, .int 0, .int 0, .ref q12, .ref q20, .ref q28, .ref q37, .ref q45, .ref q53, .ref q61, .ref q68, .null, .int 0, .int 0, .int 0, .null, .int 0])), (q12, .inl (cI, 64, .inl (fun _ => 0))), (q20, .inl (cI, 64, .inl (fun _ => 0))), (q28, .inl (cI, 64, .inl (fun _ => 0))), (q37, .inl (cI, 320, .inl (fun _ => 0))), (q45, .inl (cI, 16, .inl (fun _ => 0))), (q53, .inl (cI, 64, .inl (fun _ => 0))), (q61, .inl (cI, 64, .inl (fun _ => 0))), (q68, .inl (cI, 4, .inl (fun _ => 0))), (q76, .inl (cI, 8, .inl (fun _ => 0)))] H := hP
  have hD : va_D A [(h0, .inr (5, [.int 1, .int 0, .int 0, .ref q12, .ref q20, .ref q28, .ref q37, .ref q45, .ref q53, .ref q61, .ref q68, .null, .int 0, .int 0, .int 0, .null, .int 0])), (q12, .inl (cI, 64, .inl (fun _ => 0))), (q20, .inl (cI, 64, .inl (fun _ => 0))), (q28, .inl (cI, 64, .inl (fun _ => 0))), (q37, .inl (cI, 320, .inl (fun _ => 0))), (q45, .inl (cI, 16, .inl (fun _ => 0))), (q53, .inl (cI, 64, .inl (fun _ => 0))), (q61, .inl (cI, 64, .inl (fun _ => 0))), (q68, .inl (cI, 4, .inl (fun _ => 0))), (q76, .inl (cI, 8, .inl (fun _ => 0)))] := hD
  refine W.widen (k := 9) (n := 668) (by decide) (by decide) ?_
  refine va_putF (D := D) (ci := 5) (v := .ref q76) (ty := .array .int) (C := R_M) (T := T_M) (N := 17) hx hb hts l_M t_M t_M_ok n_M hown hK hP hD hS 0 rfl rfl 11 (by decide) (hts _ w_450) (fun _ h9 => h9) rfl hin rfl (by decide +kernel) rfl rfl (Nat.le_of_ble_eq_true rfl) d_M_init_78 (fun H locs hP hD hS => ?_)
  have hP : va_P D vwCl [(h0, .inr (5, [.int 1, .int 0, .int 0, .ref q12, .ref q20, .ref q28, .ref q37, .ref q45, .ref q53, .ref q61, .ref q68, .ref q76, .int 0, .int 0, .int 0, .null, .int 0])), (q12, .inl (cI, 64, .inl (fun _ => 0))), (q20, .inl (cI, 64, .inl (fun _ => 0))), (q28, .inl (cI, 64, .inl (fun _ => 0))), (q37, .inl (cI, 320, .inl (fun _ => 0))), (q45, .inl (cI, 16, .inl (fun _ => 0))), (q53, .inl (cI, 64, .inl (fun _ => 0))), (q61, .inl (cI, 64, .inl (fun _ => 0))), (q68, .inl (cI, 4, .inl (fun _ => 0))), (q76, .inl (cI, 8, .inl (fun _ => 0)))] H := hP
  have hD : va_D A [(h0, .inr (5, [.int 1, .int 0, .int 0, .ref q12, .ref q20, .ref q28, .ref q37, .ref q45, .ref q53, .ref q61, .ref q68, .ref q76, .int 0, .int 0, .int 0, .null, .int 0])), (q12, .inl (cI, 64, .inl (fun _ => 0))), (q20, .inl (cI, 64, .inl (fun _ => 0))), (q28, .inl (cI, 64, .inl (fun _ => 0))), (q37, .inl (cI, 320, .inl (fun _ => 0))), (q45, .inl (cI, 16, .inl (fun _ => 0))), (q53, .inl (cI, 64, .inl (fun _ => 0))), (q61, .inl (cI, 64, .inl (fun _ => 0))), (q68, .inl (cI, 4, .inl (fun _ => 0))), (q76, .inl (cI, 8, .inl (fun _ => 0)))] := hD
  refine lv_aload_n hx hb d_M_init_81 rfl (lv_at hl 0 rfl) ?_
  refine lv_bipush (v := 64) hx hb d_M_init_82 (by decide) ?_
  refine va_newa (atype := .boolean) (ty := .boolean) (a0 := (64, .inl (fun _ => 0))) hx hb (hts _ w_473) rfl hK hP hD hS hA (fun _ => rfl) (by decide) (by decide) (by decide) (Nat.le_of_ble_eq_true rfl) (Nat.le_of_ble_eq_true rfl) d_M_init_84 (fun q84 cA H hK2 hP hD hS => ?_)
  rw [arrSame_boolean hK 1 rfl hK2] at hP hD
  have hP : va_P D vwCl [(h0, .inr (5, [.int 1, .int 0, .int 0, .ref q12, .ref q20, .ref q28, .ref q37, .ref q45, .ref q53, .ref q61, .ref q68, .ref q76, .int 0, .int 0, .int 0, .null, .int 0])), (q12, .inl (cI, 64, .inl (fun _ => 0))), (q20, .inl (cI, 64, .inl (fun _ => 0))), (q28, .inl (cI, 64, .inl (fun _ => 0))), (q37, .inl (cI, 320, .inl (fun _ => 0))), (q45, .inl (cI, 16, .inl (fun _ => 0))), (q53, .inl (cI, 64, .inl (fun _ => 0))), (q61, .inl (cI, 64, .inl (fun _ => 0))), (q68, .inl (cI, 4, .inl (fun _ => 0))), (q76, .inl (cI, 8, .inl (fun _ => 0))), (q84, .inl (cZ, 64, .inl (fun _ => 0)))] H := hP
  have hD : va_D A [(h0, .inr (5, [.int 1, .int 0, .int 0, .ref q12, .ref q20, .ref q28, .ref q37, .ref q45, .ref q53, .ref q61, .ref q68, .ref q76, .int 0, .int 0, .int 0, .null, .int 0])), (q12, .inl (cI, 64, .inl (fun _ => 0))), (q20, .inl (cI, 64, .inl (fun _ => 0))), (q28, .inl (cI, 64, .inl (fun _ => 0))), (q37, .inl (cI, 320, .inl (fun _ => 0))), (q45, .inl (cI, 16, .inl (fun _ => 0))), (q53, .inl (cI, 64, .inl (fun _ => 0))), (q61, .inl (cI, 64, .inl (fun _ => 0))), (q68, .inl (cI, 4, .inl (fun _ => 0))), (q76, .inl (cI, 8, .inl (fun _ => 0))), (q84, .inl (cZ, 64, .inl (fun _ => 0)))] := hD
  refine W.widen (k := 10) (n := 732) (by decide) (by decide) ?_
  refine va_putF (D := D) (ci := 5) (v := .ref q84) (ty := .array .boolean) (C := R_M) (T := T_M) (N := 17) hx hb hts l_M t_M t_M_ok n_M hown hK hP hD hS 0 rfl rfl 15 (by decide) (hts _ w_454) (fun _ h9 => h9) rfl hin rfl (by decide +kernel) rfl rfl (Nat.le_of_ble_eq_true rfl) d_M_init_86 (fun H locs hP hD hS => ?_)
  have hP : va_P D vwCl [(h0, .inr (5, [.int 1, .int 0, .int 0, .ref q12, .ref q20, .ref q28, .ref q37, .ref q45, .ref q53, .ref q61, .ref q68, .ref q76, .int 0, .int 0, .int 0, .ref q84, .int 0])), (q12, .inl (cI, 64, .inl (fun _ => 0))), (q20, .inl (cI, 64, .inl (fun _ => 0))), (q28, .inl (cI, 64, .inl (fun _ => 0))), (q37, .inl (cI, 320, .inl (fun _ => 0))), (q45, .inl (cI, 16, .inl (fun _ => 0))), (q53, .inl (cI, 64, .inl (fun _ => 0))), (q61, .inl (cI, 64, .inl (fun _ => 0))), (q68, .inl (cI, 4, .inl (fun _ => 0))), (q76, .inl (cI, 8, .inl (fun _ => 0))), (q84, .inl (cZ, 64, .inl (fun _ => 0)))] H := hP
  have hD : va_D A [(h0, .inr (5, [.int 1, .int 0, .int 0, .ref q12, .ref q20, .ref q28, .ref q37, .ref q45, .ref q53, .ref q61, .ref q68, .ref q76, .int 0, .int 0, .int 0, .ref q84, .int 0])), (q12, .inl (cI, 64, .inl (fun _ => 0))), (q20, .inl (cI, 64, .inl (fun _ => 0))), (q28, .inl (cI, 64, .inl (fun _ => 0))), (q37, .inl (cI, 320, .inl (fun _ => 0))), (q45, .inl (cI, 16, .inl (fun _ => 0))), (q53, .inl (cI, 64, .inl (fun _ => 0))), (q61, .inl (cI, 64, .inl (fun _ => 0))), (q68, .inl (cI, 4, .inl (fun _ => 0))), (q76, .inl (cI, 8, .inl (fun _ => 0))), (q84, .inl (cZ, 64, .inl (fun _ => 0)))] := hD
  refine lv_aload_n hx hb d_M_init_89 rfl (lv_at hl 0 rfl) ?_
  refine lv_iconst (v := 1) hx hb d_M_init_90 (by decide) ?_
  refine va_put (D := D) (ci := 5) (v := .int 1) (ty := .boolean) (C := R_M) (T := T_M) (N := 17) hx hb hts l_M t_M t_M_ok n_M hown hK hP hD hS 0 rfl rfl 13 (by decide) (hts _ w_452) (fun _ h9 => h9) rfl (by decide +kernel) rfl rfl (Nat.le_of_ble_eq_true rfl) d_M_init_91 (fun H locs hP hD hS => ?_)
  have hP : va_P D vwCl [(h0, .inr (5, [.int 1, .int 0, .int 0, .ref q12, .ref q20, .ref q28, .ref q37, .ref q45, .ref q53, .ref q61, .ref q68, .ref q76, .int 0, .int 1, .int 0, .ref q84, .int 0])), (q12, .inl (cI, 64, .inl (fun _ => 0))), (q20, .inl (cI, 64, .inl (fun _ => 0))), (q28, .inl (cI, 64, .inl (fun _ => 0))), (q37, .inl (cI, 320, .inl (fun _ => 0))), (q45, .inl (cI, 16, .inl (fun _ => 0))), (q53, .inl (cI, 64, .inl (fun _ => 0))), (q61, .inl (cI, 64, .inl (fun _ => 0))), (q68, .inl (cI, 4, .inl (fun _ => 0))), (q76, .inl (cI, 8, .inl (fun _ => 0))), (q84, .inl (cZ, 64, .inl (fun _ => 0)))] H := hP
  have hD : va_D A [(h0, .inr (5, [.int 1, .int 0, .int 0, .ref q12, .ref q20, .ref q28, .ref q37, .ref q45, .ref q53, .ref q61, .ref q68, .ref q76, .int 0, .int 1, .int 0, .ref q84, .int 0])), (q12, .inl (cI, 64, .inl (fun _ => 0))), (q20, .inl (cI, 64, .inl (fun _ => 0))), (q28, .inl (cI, 64, .inl (fun _ => 0))), (q37, .inl (cI, 320, .inl (fun _ => 0))), (q45, .inl (cI, 16, .inl (fun _ => 0))), (q53, .inl (cI, 64, .inl (fun _ => 0))), (q61, .inl (cI, 64, .inl (fun _ => 0))), (q68, .inl (cI, 4, .inl (fun _ => 0))), (q76, .inl (cI, 8, .inl (fun _ => 0))), (q84, .inl (cZ, 64, .inl (fun _ => 0)))] := hD
  refine W.widen (k := 10) (n := 732) (by decide) (by decide) ?_
  exact W.vret hx hb hr (fun t ht hW => ⟨⟨(fun k => ([q12, q20, q28, q37, q45, q53, q61, q68, q76, q84] : List Nat).getD k 0), rfl, trivial, by rw [ht]; exact hP, hD⟩, hS.F ht⟩) hS.2.2 d_M_init_94
