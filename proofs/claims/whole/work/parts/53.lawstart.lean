theorem nestF_in : ∀ x ∈ nestF, Cond.fieldLinkNest x.1 x.2.1 x.2.2.1 x.2.2.2.1 x.2.2.2.2.1 x.2.2.2.2.2 ∈ lw_tbl := fun x hx => goodIn_rr (nestF.map fun x => Cond.fieldLinkNest x.1 x.2.1 x.2.2.1 x.2.2.2.1 x.2.2.2.2.1 x.2.2.2.2.2) [90, 92, 93, 94, 95, 97, 98, 130, 134, 136, 137, 139, 141, 142, 144, 145, 147, 194] (by decide +kernel) _ (List.mem_map_of_mem hx)
theorem nestM_in : ∀ x ∈ nestM, Cond.methodLinkNest x.1 x.2.1 x.2.2.1 x.2.2.2 ∈ lw_tbl := fun x hx => goodIn_rr (nestM.map fun x => Cond.methodLinkNest x.1 x.2.1 x.2.2.1 x.2.2.2) [268, 298, 328, 338, 345, 348, 349, 359, 429, 440, 485, 550, 555, 572, 573] (by decide +kernel) _ (List.mem_map_of_mem hx)
set_option maxRecDepth 100000 in
theorem lim_el {args : Array Value} {s : State} (h : (Jvm.Cond.and given_1 narrow_1).before args s = true) : ∀ j : Nat, j < 33 → (Term.elem (.static "EscapeOwners" "LIMITS" "[I") (.int (Int32.ofNat j))).eval args s none [] s = some (.int (limV j)) := by
  have hs := flat_of_before _ h
  intro j hj
  match j, hj with
  | 0, _ => exact va_eqt (z := 8) (hs (Cond.eq (.elem (.static "EscapeOwners" "LIMITS" "[I") (.int 0)) (.int 8)) (by decide +kernel))
  | 1, _ => exact va_eqt (z := 0) (hs (Cond.eq (.elem (.static "EscapeOwners" "LIMITS" "[I") (.int 1)) (.int 0)) (by decide +kernel))
  | 2, _ => exact va_eqt (z := 0) (hs (Cond.eq (.elem (.static "EscapeOwners" "LIMITS" "[I") (.int 2)) (.int 0)) (by decide +kernel))
  | 3, _ => exact va_eqt (z := 8) (hs (Cond.eq (.elem (.static "EscapeOwners" "LIMITS" "[I") (.int 3)) (.int 8)) (by decide +kernel))
  | 4, _ => exact va_eqt (z := 8) (hs (Cond.eq (.elem (.static "EscapeOwners" "LIMITS" "[I") (.int 4)) (.int 8)) (by decide +kernel))
  | 5, _ => exact va_eqt (z := 0) (hs (Cond.eq (.elem (.static "EscapeOwners" "LIMITS" "[I") (.int 5)) (.int 0)) (by decide +kernel))
  | 6, _ => exact va_eqt (z := 8) (hs (Cond.eq (.elem (.static "EscapeOwners" "LIMITS" "[I") (.int 6)) (.int 8)) (by decide +kernel))
  | 7, _ => exact va_eqt (z := 8) (hs (Cond.eq (.elem (.static "EscapeOwners" "LIMITS" "[I") (.int 7)) (.int 8)) (by decide +kernel))
  | 8, _ => exact va_eqt (z := 4) (hs (Cond.eq (.elem (.static "EscapeOwners" "LIMITS" "[I") (.int 8)) (.int 4)) (by decide +kernel))
  | 9, _ => exact va_eqt (z := 8) (hs (Cond.eq (.elem (.static "EscapeOwners" "LIMITS" "[I") (.int 9)) (.int 8)) (by decide +kernel))
  | 10, _ => exact va_eqt (z := 4) (hs (Cond.eq (.elem (.static "EscapeOwners" "LIMITS" "[I") (.int 10)) (.int 4)) (by decide +kernel))
  | 11, _ => exact va_eqt (z := 8) (hs (Cond.eq (.elem (.static "EscapeOwners" "LIMITS" "[I") (.int 11)) (.int 8)) (by decide +kernel))
  | 12, _ => exact va_eqt (z := 8) (hs (Cond.eq (.elem (.static "EscapeOwners" "LIMITS" "[I") (.int 12)) (.int 8)) (by decide +kernel))
  | 13, _ => exact va_eqt (z := 4) (hs (Cond.eq (.elem (.static "EscapeOwners" "LIMITS" "[I") (.int 13)) (.int 4)) (by decide +kernel))
  | 14, _ => exact va_eqt (z := 0) (hs (Cond.eq (.elem (.static "EscapeOwners" "LIMITS" "[I") (.int 14)) (.int 0)) (by decide +kernel))
  | 15, _ => exact va_eqt (z := 4) (hs (Cond.eq (.elem (.static "EscapeOwners" "LIMITS" "[I") (.int 15)) (.int 4)) (by decide +kernel))
  | 16, _ => exact va_eqt (z := 8) (hs (Cond.eq (.elem (.static "EscapeOwners" "LIMITS" "[I") (.int 16)) (.int 8)) (by decide +kernel))
  | 17, _ => exact va_eqt (z := 0) (hs (Cond.eq (.elem (.static "EscapeOwners" "LIMITS" "[I") (.int 17)) (.int 0)) (by decide +kernel))
  | 18, _ => exact va_eqt (z := 0) (hs (Cond.eq (.elem (.static "EscapeOwners" "LIMITS" "[I") (.int 18)) (.int 0)) (by decide +kernel))
  | 19, _ => exact va_eqt (z := 0) (hs (Cond.eq (.elem (.static "EscapeOwners" "LIMITS" "[I") (.int 19)) (.int 0)) (by decide +kernel))
  | 20, _ => exact va_eqt (z := 0) (hs (Cond.eq (.elem (.static "EscapeOwners" "LIMITS" "[I") (.int 20)) (.int 0)) (by decide +kernel))
  | 21, _ => exact va_eqt (z := 8) (hs (Cond.eq (.elem (.static "EscapeOwners" "LIMITS" "[I") (.int 21)) (.int 8)) (by decide +kernel))
  | 22, _ => exact va_eqt (z := 0) (hs (Cond.eq (.elem (.static "EscapeOwners" "LIMITS" "[I") (.int 22)) (.int 0)) (by decide +kernel))
  | 23, _ => exact va_eqt (z := 0) (hs (Cond.eq (.elem (.static "EscapeOwners" "LIMITS" "[I") (.int 23)) (.int 0)) (by decide +kernel))
  | 24, _ => exact va_eqt (z := 8) (hs (Cond.eq (.elem (.static "EscapeOwners" "LIMITS" "[I") (.int 24)) (.int 8)) (by decide +kernel))
  | 25, _ => exact va_eqt (z := 0) (hs (Cond.eq (.elem (.static "EscapeOwners" "LIMITS" "[I") (.int 25)) (.int 0)) (by decide +kernel))
  | 26, _ => exact va_eqt (z := 0) (hs (Cond.eq (.elem (.static "EscapeOwners" "LIMITS" "[I") (.int 26)) (.int 0)) (by decide +kernel))
  | 27, _ => exact va_eqt (z := 8) (hs (Cond.eq (.elem (.static "EscapeOwners" "LIMITS" "[I") (.int 27)) (.int 8)) (by decide +kernel))
  | 28, _ => exact va_eqt (z := 0) (hs (Cond.eq (.elem (.static "EscapeOwners" "LIMITS" "[I") (.int 28)) (.int 0)) (by decide +kernel))
  | 29, _ => exact va_eqt (z := 0) (hs (Cond.eq (.elem (.static "EscapeOwners" "LIMITS" "[I") (.int 29)) (.int 0)) (by decide +kernel))
  | 30, _ => exact va_eqt (z := 8) (hs (Cond.eq (.elem (.static "EscapeOwners" "LIMITS" "[I") (.int 30)) (.int 8)) (by decide +kernel))
  | 31, _ => exact va_eqt (z := 0) (hs (Cond.eq (.elem (.static "EscapeOwners" "LIMITS" "[I") (.int 31)) (.int 0)) (by decide +kernel))
  | 32, _ => exact va_eqt (z := 0) (hs (Cond.eq (.elem (.static "EscapeOwners" "LIMITS" "[I") (.int 32)) (.int 0)) (by decide +kernel))
  | j + 33, hj => exact absurd hj (by omega)
theorem arrK {args : Array Value} {s : State} {ty : FieldType} (h : (Cond.arrayClass ty).before args s = true) (hty : ty = .int ∨ ty = .boolean) : ∃ cA : ClassId, ArrOfT s cA ty ∧ va_RA s cA ty := by
  obtain ⟨cA, kA, comp, h1, h2, h3⟩ := Cond.arrayClass_spec h
  refine ⟨cA, fun n z => ⟨fun k h => (by cases h), kA, h2, comp, h3⟩, ?_⟩
  rcases hty with rfl | rfl <;> exact h1
set_option maxHeartbeats 4000000 in
set_option maxRecDepth 100000 in
theorem whole_start_of {p : Program} {e : Env} {s : State} {m : MethodId} {below : List Frame} {meth : Method} {c : Code} (l : Launch) {b L : Nat} {xs : Nat → Int32} (FU : Nat) (Rel : St → St → Prop) (hops : OpsOK FU Rel) (hR0 : Rel st0 mt0) (hL : L ≤ 3584) (C0 : lw_At p s m meth c b L xs) : W p l e room_1 s m #[Value.ref b] below meth c s.heap [] 0 0 (lw_Z below #[Value.ref b] s) (entryFrame m ([Value.ref b] : List Value).toArray 4) := by
  obtain ⟨hx, hb, hr, hml, hown, hts, hX, hbl, hlocks, hgv⟩ := id C0
  have htb : ∀ w ∈ TB, w.before #[Value.ref b] s = true := fun w h => hts w (TB_lw w h)
  have hA : ∀ q : Nat, s.heap.size ≤ q → (fun q : Nat => s.heap.size ≤ q) q := fun _ h => h
  have hbA : ¬ (fun q : Nat => s.heap.size ≤ q) b := Nat.not_le.mpr hbl
  obtain ⟨c0, iS0, hKn0⟩ := u_known (C := R_E) (T := T_E) (N := 4) (n := 4) htb l_E (htb (.instantiable R_E 4) w_8)
  obtain ⟨c1, iS1, hKn1⟩ := u_known (C := R_P) (T := T_P) (N := 8) (n := 8) htb l_P (htb (.instantiable R_P 8) w_15)
  obtain ⟨c2, iS2, hKn2⟩ := u_known (C := R_S) (T := T_S) (N := 11) (n := 11) htb l_S (htb (.instantiable R_S 11) w_38)
  obtain ⟨c3, iS3, hKn3⟩ := u_known (C := R_X) (T := T_X) (N := 2) (n := 2) htb l_X (htb (.instantiable R_X 2) w_66)
  obtain ⟨c4, iS4, hKn4⟩ := u_known (C := R_K) (T := T_K) (N := 4) (n := 4) htb l_K (htb (.instantiable R_K 4) w_76)
  obtain ⟨c5, iS5, hKn5⟩ := u_known (C := R_M) (T := T_M) (N := 17) (n := 17) htb l_M (htb (.instantiable R_M 17) w_435)
  obtain ⟨D, hKc⟩ : ∃ D : va_G, ∀ (k : Nat) (q : vw_C), vwCl[k]? = some q → u_Kn s q.1 q.2.1 q.2.2 (D.1 k) (D.2 k) := by
    refine ⟨(fun k => match k with | 0 => c0 | 1 => c1 | 2 => c2 | 3 => c3 | 4 => c4 | _ => c5, fun k => match k with | 0 => iS0 | 1 => iS1 | 2 => iS2 | 3 => iS3 | 4 => iS4 | _ => iS5), ?_⟩
    intro k q hq
    match k, hq with
    | 0, hq => cases hq; exact hKn0
    | 1, hq => cases hq; exact hKn1
    | 2, hq => cases hq; exact hKn2
    | 3, hq => cases hq; exact hKn3
    | 4, hq => cases hq; exact hKn4
    | 5, hq => cases hq; exact hKn5
    | k + 6, hq => simp [vwCl] at hq
  obtain ⟨cI, hI1, hI2⟩ := arrK (htb (.arrayClass .int) w_36) (Or.inl rfl)
  obtain ⟨cZ, hZ1, hZ2⟩ := arrK (htb (.arrayClass .boolean) w_473) (Or.inr rfl)
  have hK : va_K D vwCl [(cI, .int), (cZ, .boolean)] s := ⟨hKc, fun k q h => by
    match k, h with
    | 0, h => cases h; exact ⟨hI1, hI2⟩
    | 1, h => cases h; exact ⟨hZ1, hZ2⟩
    | k + 2, h => simp at h⟩
  have hgs := flat_of_before _ hgv
  obtain ⟨tL, htL, hT⟩ := va_Tof (N := 33) (f := fun j => .int (limV j)) (A := (fun q : Nat => s.heap.size ≤ q)) (by decide) (hgs (Cond.arrayOf (.static "EscapeOwners" "LIMITS" "[I") .int) (by decide +kernel)) (va_eqt (hgs (Cond.eq (.length (.static "EscapeOwners" "LIMITS" "[I")) (.int 33)) (by decide +kernel))) (lim_el hgv) (fun a ha => Nat.not_le.mpr ha)
  have hZ : va_Z limC "LIMITS" "[I" (.ref tL) (fun q : Nat => s.heap.size ≤ q) s s.heap := va_Zref (hts (.laysStatic "EscapeOwners" "LIMITS" "[I") (List.mem_of_getElem? (i := 256) (by decide +kernel))) (htb (.initialized R_E) w_1) htL (fun a ha => Nat.not_le.mpr ha)
  have hE : EX tL (fun q : Nat => s.heap.size ≤ q) s s.heap := ⟨fun x hx => va_Nw.of rfl (hts _ (nestF_in x hx)), fun x hx => va_Nw.of rfl (hts _ (nestM_in x hx)), hZ, hT⟩
  have hS : va_S (fun q : Nat => s.heap.size ≤ q) s.heap s.heap [] := va_S.rf
  have hP : va_P D vwCl [] s.heap := fun k q h => by simp at h
  have hD : va_D (fun q : Nat => s.heap.size ≤ q) [] := ⟨fun i j p q h => by simp at h, fun k q h => by simp at h⟩
  have hl := lv_entry ([.ref b]) (n := 4) (Nat.le_of_ble_eq_true rfl)
  rw [lg_entry_eq]
  generalize (lg_sl ([.ref b]) ++ List.replicate (4 - (lg_sl ([.ref b])).length) Slot.unset).toArray = ls at hl ⊢
  have hl : lv_has ls 4 [(0, .ref b)] := hl
  refine va_new (ci := 0) (fs := [.null, .null, .null, .null]) (C := R_E) (T := T_E) (N := 4) hx hb htb l_E t_E t_E_ok hown (hts (.classLink R_law 7 R_E) (List.mem_of_getElem? (i := 75) (by decide +kernel))) (htb _ w_8) (htb _ w_1) hK hP hD hS hA rfl (fun j hj => by rcases (show j = 0 ∨ j = 1 ∨ j = 2 ∨ j = 3 by omega) with rfl | rfl | rfl | rfl <;> rfl) (Nat.le_of_ble_eq_true rfl) (Nat.le_of_ble_eq_true rfl) d_L_law_0 (fun qa H hP hD hS => ?_)
  have hP : va_P D vwCl [(qa, .inr (0, [.null, .null, .null, .null]))] H := hP
  have hD : va_D (fun q : Nat => s.heap.size ≤ q) [(qa, .inr (0, [.null, .null, .null, .null]))] := hD
  refine W.widen (k := 1) (n := 4) (by decide) (by decide) ?_
  refine lv_dup hx hb d_L_law_3 rfl ?_
  have hPc := hP.sub (ws' := [(qa, .inr (0, [.null, .null, .null, .null]))]) [0] rfl
  have hDc := hD.sub (ws' := [(qa, .inr (0, [.null, .null, .null, .null]))]) [0] (by decide) rfl
  have hFc := va_free (wc := [(qa, .inr (0, [.null, .null, .null, .null]))]) hD hS hA [0] rfl
  refine va_callv (va_runI (As := []) (rest := [.ref qa]) ⟨hx, hb, hml, hown, hts⟩ (c_E_init l D cI cZ qa H.size) (cwI 0 hts (TB_lwc w_10) rfl rfl rfl (htb _ w_1) (hts (.methodLink R_law 9 y_E_init) (List.mem_of_getElem? (i := 77) (by decide +kernel))) (htb _ w_9) rfl (by decide +kernel) ⟨(Nat.le_of_ble_eq_true rfl), (Nat.le_of_ble_eq_true rfl)⟩) ⟨fun a U g mk q => by obtain ⟨q0, q1, qP, qK, qD⟩ := q; exact ⟨q0, q1, qP, va_K.moved (u := U) (U := U.calling g mk a) (Vm.Alike.refl U.vm) qK, qD⟩, fun U hU hW => ⟨rfl, by rw [hU], by rw [hU]; exact hPc, va_K.moved hW.alike hK, hDc.weaken (fun _ _ _ _ => trivial)⟩⟩ rfl rfl hl.1 rfl (lv_room (Nat.le_of_ble_eq_true rfl)) d_L_law_4 ⟨(Nat.le_of_ble_eq_true rfl), (Nat.le_of_ble_eq_true rfl)⟩) hS (fun q _ h => hFc q h) hFc (fun q t H1 locs ht hvm hw hB hz1 hk1 hS => ?_)
  obtain ⟨hP1, hD1⟩ := hB
  rw [ht] at hP1
  obtain ⟨hP2, hD2⟩ := va_join (wr := []) (w1 := wE cI cZ q st0) hP hD [0] [] rfl rfl (by decide) (by decide) hk1 hFc hP1 hD1
  subst hw
  generalize H1 = H at hP2 hS ⊢
  have hP : va_P D vwCl (wE cI cZ q st0) H := hP2
  have hD : va_D (fun q : Nat => s.heap.size ≤ q) (wE cI cZ q st0) := hD2
  refine W.widen (k := 17) (n := 729) (by decide) (by decide) ?_
  refine lv_astore_n (lv' := [(1, .ref (q 0)), (0, .ref b)]) hx hb d_L_law_7 rfl hl (by decide) rfl (fun ls hl => ?_)
  refine va_new (ci := 5) (fs := [.int 0, .int 0, .int 0, .null, .null, .null, .null, .null, .null, .null, .null, .null, .int 0, .int 0, .int 0, .null, .int 0]) (C := R_M) (T := T_M) (N := 17) hx hb htb l_M t_M t_M_ok hown (hts (.classLink R_law 10 R_M) (List.mem_of_getElem? (i := 614) (by decide +kernel))) (htb _ w_435) (htb _ w_6) hK hP hD hS hA rfl (fun j hj => by rcases (show j = 0 ∨ j = 1 ∨ j = 2 ∨ j = 3 ∨ j = 4 ∨ j = 5 ∨ j = 6 ∨ j = 7 ∨ j = 8 ∨ j = 9 ∨ j = 10 ∨ j = 11 ∨ j = 12 ∨ j = 13 ∨ j = 14 ∨ j = 15 ∨ j = 16 by omega) with rfl | rfl | rfl | rfl | rfl | rfl | rfl | rfl | rfl | rfl | rfl | rfl | rfl | rfl | rfl | rfl | rfl <;> rfl) (Nat.le_of_ble_eq_true rfl) (Nat.le_of_ble_eq_true rfl) d_L_law_8 (fun qb H hP hD hS => ?_)
  refine W.widen (k := 18) (n := 746) (by decide) (by decide) ?_
  refine lv_dup hx hb d_L_law_11 rfl ?_
  have hPc := hP.sub (ws' := [(qb, .inr (5, [.int 0, .int 0, .int 0, .null, .null, .null, .null, .null, .null, .null, .null, .null, .int 0, .int 0, .int 0, .null, .int 0]))]) [17] rfl
  have hDc := hD.sub (ws' := [(qb, .inr (5, [.int 0, .int 0, .int 0, .null, .null, .null, .null, .null, .null, .null, .null, .null, .int 0, .int 0, .int 0, .null, .int 0]))]) [17] (by decide) rfl
  have hFc := va_free (wc := [(qb, .inr (5, [.int 0, .int 0, .int 0, .null, .null, .null, .null, .null, .null, .null, .null, .null, .int 0, .int 0, .int 0, .null, .int 0]))]) hD hS hA [17] rfl
  refine va_callv (va_runI (As := []) (rest := [.ref qb]) ⟨hx, hb, hml, hown, hts⟩ (c_M_init l D cI cZ qb H.size) (cwI 0 hts (TB_lwc w_437) rfl rfl rfl (htb _ w_6) (hts (.methodLink R_law 12 y_M_init) (List.mem_of_getElem? (i := 616) (by decide +kernel))) (htb _ w_436) rfl (by decide +kernel) ⟨(Nat.le_of_ble_eq_true rfl), (Nat.le_of_ble_eq_true rfl)⟩) ⟨fun a U g mk q => by obtain ⟨q0, q1, qP, qK, qD⟩ := q; exact ⟨q0, q1, qP, va_K.moved (u := U) (U := U.calling g mk a) (Vm.Alike.refl U.vm) qK, qD⟩, fun U hU hW => ⟨rfl, by rw [hU], by rw [hU]; exact hPc, va_K.moved hW.alike hK, hDc.weaken (fun _ _ _ _ => trivial)⟩⟩ rfl rfl hl.1 rfl (lv_room (Nat.le_of_ble_eq_true rfl)) d_L_law_12 ⟨(Nat.le_of_ble_eq_true rfl), (Nat.le_of_ble_eq_true rfl)⟩) hS (fun q _ h => hFc q h) hFc (fun u t H1 locs ht hvm hw hB hz1 hk1 hS => ?_)
  obtain ⟨hP1, hD1⟩ := hB
  rw [ht] at hP1
  obtain ⟨hP, hD⟩ := va_join (wr := wE cI cZ q st0) (w1 := [(qb, .inr (5, [.int 1, .int 0, .int 0, .ref (u 0), .ref (u 1), .ref (u 2), .ref (u 3), .ref (u 4), .ref (u 5), .ref (u 6), .ref (u 7), .ref (u 8), .int 0, .int 1, .int 0, .ref (u 9), .int 0])), ((u 0), .inl (cI, 64, .inl (fun _ => 0))), ((u 1), .inl (cI, 64, .inl (fun _ => 0))), ((u 2), .inl (cI, 64, .inl (fun _ => 0))), ((u 3), .inl (cI, 320, .inl (fun _ => 0))), ((u 4), .inl (cI, 16, .inl (fun _ => 0))), ((u 5), .inl (cI, 64, .inl (fun _ => 0))), ((u 6), .inl (cI, 64, .inl (fun _ => 0))), ((u 7), .inl (cI, 4, .inl (fun _ => 0))), ((u 8), .inl (cI, 8, .inl (fun _ => 0))), ((u 9), .inl (cZ, 64, .inl (fun _ => 0)))]) hP hD [17] [0, 1, 2, 3, 4, 5, 6, 7, 8, 9, 10, 11, 12, 13, 14, 15, 16] rfl rfl (by decide) (by decide) hk1 hFc hP1 hD1
  generalize H1 = H at hP hS ⊢
  obtain ⟨r, hr0⟩ : ∃ r : Nat → Nat, r = (fun k => match k with | 0 => qb | k + 1 => u k) := ⟨_, rfl⟩
  have hP : va_P D vwCl (wE cI cZ q st0 ++ wM cI cZ r mt0) H := by rw [hr0]; exact hP
  have hD : va_D (fun q : Nat => s.heap.size ≤ q) (wE cI cZ q st0 ++ wM cI cZ r mt0) := by rw [hr0]; exact hD
  have hq0 : qb = r 0 := by rw [hr0]
  rw [hq0]
  refine W.widen (k := 28) (n := 1478) (by decide) (by decide) ?_
  refine lv_astore_n (lv' := [(2, .ref (r 0)), (1, .ref (q 0)), (0, .ref b)]) hx hb d_L_law_15 rfl hl (by decide) rfl (fun ls hl => ?_)
  refine lv_iconst (v := nI 0) hx hb d_L_law_16 (by decide) ?_
  refine lv_istore_n (lv' := [(3, .int (nI 0)), (2, .ref (r 0)), (1, .ref (q 0)), (0, .ref b)]) hx hb d_L_law_17 rfl hl (by decide) rfl (fun ls hl => ?_)
  exact law_loop q r FU Rel hops hL C0 hK hE (fun σ τ => va_Dsame hD rfl) (L + 1) 0 st0 mt0 _ _ ls (by omega) (Nat.zero_le L) hR0 hP hS (lv_sub hl [3, 2, 1, 0] rfl)
