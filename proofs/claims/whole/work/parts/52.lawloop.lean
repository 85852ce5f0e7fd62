set_option maxHeartbeats 4000000 in
set_option maxRecDepth 100000 in
theorem law_loop {p : Program} {l : Launch} {e : Env} {s : State} {m : MethodId} {below : List Frame} {meth : Method} {c : Code} {D : va_G} {cI cZ : ClassId} {tL b L : Nat} {xs : Nat → Int32} (q r : Nat → Nat) (FU : Nat) (Rel : St → St → Prop) (hops : OpsOK FU Rel) (hL : L ≤ 3584) (C0 : lw_At p s m meth c b L xs) (hK : va_K D vwCl [(cI, .int), (cZ, .boolean)] s) (hE : EX tL (fun q : Nat => s.heap.size ≤ q) s s.heap) (hD : ∀ σ τ : St, va_D (fun q : Nat => s.heap.size ≤ q) (wE cI cZ q σ ++ wM cI cZ r τ)) :
    ∀ (n i : Nat) (σ τ : St) (H : Heap) (locs : List Loc) (ls : Array Slot), L + 1 ≤ i + n → i ≤ L → Rel σ τ → va_P D vwCl (wE cI cZ q σ ++ wM cI cZ r τ) H → va_S (fun q : Nat => s.heap.size ≤ q) s.heap H locs → lv_has ls 4 [(0, .ref b), (1, .ref (q 0)), (2, .ref (r 0)), (3, .int (nI i))] → W p l e room_1 s m #[Value.ref b] below meth c H locs 28 1478 (lw_Z below #[Value.ref b] s) (F0 m 18 ls []) := by
  obtain ⟨hx, hb, hr, hml, hown, hts, hX, hbl, hlocks, hgv⟩ := C0
  have hA : ∀ q : Nat, s.heap.size ≤ q → (fun q : Nat => s.heap.size ≤ q) q := fun _ h => h
  have hbA : ¬ (fun q : Nat => s.heap.size ≤ q) b := Nat.not_le.mpr hbl
  intro n
  induction n with
  | zero =>
    intro i σ τ H locs ls h1 h2
    exact absurd h1 (by omega)
  | succ n ih =>
    intro i σ τ H locs ls h1 h2 hR hP hS hl
    refine lv_iload_n hx hb d_L_law_18 rfl (lv_at hl 3 rfl) ?_
    refine lv_aload_n hx hb d_L_law_19 rfl (lv_at hl 0 rfl) ?_
    refine va_slen hx hb hX hbl hbA hS d_L_law_20 ?_
    refine lv_bipush (v := 7) hx hb d_L_law_21 (by decide) ?_
    refine lv_isub hx hb d_L_law_23 ?_
    refine lv_icmp_gt (tgt := 685) hx hb d_L_law_24 (by decide) (fun c9 => ?_) (fun c9 => ?_)
    · refine lv_iconst (v := 1) hx hb d_L_law_685 (by decide) ?_
      refine va_forget (fun q hq => hS.2.2 q hq) ?_
      exact lw_ret hx hb hr hlocks d_L_law_686
    have h7 : i + 7 ≤ L := lw_room7 hL h2 c9
    have x0 : vp_in (nI i) L := vp_in_nI (by omega) (by omega)
    have x1 : vp_in (nI i + 1) L := by rw [show nI i + 1 = nI (i + 1) from nI_add i 1]; exact vp_in_nI (by omega) (by omega)
    have x2 : vp_in (nI i + 2) L := by rw [show nI i + 2 = nI (i + 2) from nI_add i 2]; exact vp_in_nI (by omega) (by omega)
    have x3 : vp_in (nI i + 3) L := by rw [show nI i + 3 = nI (i + 3) from nI_add i 3]; exact vp_in_nI (by omega) (by omega)
    have x4 : vp_in (nI i + 4) L := by rw [show nI i + 4 = nI (i + 4) from nI_add i 4]; exact vp_in_nI (by omega) (by omega)
    have x5 : vp_in (nI i + 5) L := by rw [show nI i + 5 = nI (i + 5) from nI_add i 5]; exact vp_in_nI (by omega) (by omega)
    have x6 : vp_in (nI i + 6) L := by rw [show nI i + 6 = nI (i + 6) from nI_add i 6]; exact vp_in_nI (by omega) (by omega)
    have hend : ∀ (σ τ : St) (H : Heap) (locs : List Loc), Rel σ τ → va_P D vwCl (wE cI cZ q σ ++ wM cI cZ r τ) H → va_S (fun q : Nat => s.heap.size ≤ q) s.heap H locs → W p l e room_1 s m #[Value.ref b] below meth c H locs 28 1478 (lw_Z below #[Value.ref b] s) (F0 m 679 ls []) := by
      intro σ τ H locs hR hP hS
      refine lv_iinc (v := nI (i + 7)) (lv' := [(3, .int (nI (i + 7))), (0, .ref b), (1, .ref (q 0)), (2, .ref (r 0))]) hx hb d_L_law_679 hl (k := 3) rfl (nI_add i 7) (by decide) rfl (fun ls hl => ?_)
      refine lv_goto (tgt := 18) hx hb d_L_law_682 (by decide) ?_
      exact ih (i + 7) σ τ H locs ls (by omega) (by omega) hR hP hS (lv_sub hl [1, 2, 3, 0] rfl)
    refine lv_aload_n hx hb d_L_law_27 rfl (lv_at hl 0 rfl) ?_
    refine lv_iload_n hx hb d_L_law_28 rfl (lv_at hl 3 rfl) ?_
    refine va_sld hx hb hX hbl hbA hS x0 d_L_law_29 ?_
    refine lv_bipush (v := 31) hx hb d_L_law_30 (by decide) ?_
    refine lv_iand hx hb d_L_law_32 ?_
    refine lv_topi (fun op eop => ?_)
    by_cases c0 : op = 0
    · refine lv_tableIn (tgt := 116) hx hb d_L_law_33 (by rw [c0]; decide) (by rw [c0]; decide) (by rw [c0]; rfl) (by decide) ?_
      obtain ⟨u, v, hu, hv, huv, hR⟩ := ok_clear hops σ τ  hR
      refine lv_aload_n hx hb d_L_law_116 rfl (lv_at hl 1 rfl) ?_
      refine gcall_i (va_runV (As := []) (rest := []) ⟨hx, hb, hml, hown, hts⟩ (c_E_clear l D cI cZ tL q (wM cI cZ r τ) σ  u hu H.size) (cwV 0 hts (gVL (List.mem_of_getElem? (i := 218) (by decide +kernel)) w_97 w_98 w_1 w_99) rfl rfl rfl (by decide +kernel) ⟨(Nat.le_of_ble_eq_true rfl), (Nat.le_of_ble_eq_true rfl)⟩) (gpV (k := 0) (ci := 0) hA hK (hD σ τ) hE hP hS rfl rfl) rfl rfl hl.1 rfl (lv_room (Nat.le_of_ble_eq_true rfl)) d_L_law_117 ⟨(Nat.le_of_ble_eq_true rfl), (Nat.le_of_ble_eq_true rfl)⟩) hA (hD σ τ) hS (fun H locs hP hS => ?_)
      have hP := va_Pswap hP
      refine lv_aload_n hx hb d_L_law_120 rfl (lv_at hl 2 rfl) ?_
      refine gcall_i (va_runV (As := []) (rest := [.int u.1]) ⟨hx, hb, hml, hown, hts⟩ (c_M_clear l D cI cZ tL r (wE cI cZ q u.2) τ  v hv H.size) (cwV 0 hts (gVL (List.mem_of_getElem? (i := 673) (by decide +kernel)) w_474 w_475 w_6 w_476) rfl rfl rfl (by decide +kernel) ⟨(Nat.le_of_ble_eq_true rfl), (Nat.le_of_ble_eq_true rfl)⟩) (gpV (k := 0) (ci := 5) hA hK (va_Dswap (hD u.2 τ)) hE hP hS rfl rfl) rfl rfl hl.1 rfl (lv_room (Nat.le_of_ble_eq_true rfl)) d_L_law_121 ⟨(Nat.le_of_ble_eq_true rfl), (Nat.le_of_ble_eq_true rfl)⟩) hA (va_Dswap (hD u.2 τ)) hS (fun H locs hP hS => ?_)
      have hP := va_Pswap hP
      refine lv_icmp_eq (tgt := 679) hx hb d_L_law_124 (by decide) (fun c8 => ?_) (fun c8 => ?_)
      · exact hend u.2 v.2 H locs hR hP hS
      · exact absurd huv c8
    by_cases c1 : op = 1
    · refine lv_tableIn (tgt := 129) hx hb d_L_law_33 (by rw [c1]; decide) (by rw [c1]; decide) (by rw [c1]; rfl) (by decide) ?_
      obtain ⟨u, v, hu, hv, huv, hR⟩ := ok_method hops σ τ  hR
      refine lv_aload_n hx hb d_L_law_129 rfl (lv_at hl 1 rfl) ?_
      refine gcall_i (va_runV (As := []) (rest := []) ⟨hx, hb, hml, hown, hts⟩ (c_E_method l D cI cZ tL q (wM cI cZ r τ) σ  u hu H.size) (cwV 0 hts (gVL (List.mem_of_getElem? (i := 230) (by decide +kernel)) w_108 w_109 w_1 w_110) rfl rfl rfl (by decide +kernel) ⟨(Nat.le_of_ble_eq_true rfl), (Nat.le_of_ble_eq_true rfl)⟩) (gpV (k := 0) (ci := 0) hA hK (hD σ τ) hE hP hS rfl rfl) rfl rfl hl.1 rfl (lv_room (Nat.le_of_ble_eq_true rfl)) d_L_law_130 ⟨(Nat.le_of_ble_eq_true rfl), (Nat.le_of_ble_eq_true rfl)⟩) hA (hD σ τ) hS (fun H locs hP hS => ?_)
      have hP := va_Pswap hP
      refine lv_aload_n hx hb d_L_law_133 rfl (lv_at hl 2 rfl) ?_
      refine gcall_i (va_runV (As := []) (rest := [.int u.1]) ⟨hx, hb, hml, hown, hts⟩ (c_M_method l D cI cZ tL r (wE cI cZ q u.2) τ  v hv H.size) (cwV 0 hts (gVL (List.mem_of_getElem? (i := 677) (by decide +kernel)) w_477 w_478 w_6 w_479) rfl rfl rfl (by decide +kernel) ⟨(Nat.le_of_ble_eq_true rfl), (Nat.le_of_ble_eq_true rfl)⟩) (gpV (k := 0) (ci := 5) hA hK (va_Dswap (hD u.2 τ)) hE hP hS rfl rfl) rfl rfl hl.1 rfl (lv_room (Nat.le_of_ble_eq_true rfl)) d_L_law_134 ⟨(Nat.le_of_ble_eq_true rfl), (Nat.le_of_ble_eq_true rfl)⟩) hA (va_Dswap (hD u.2 τ)) hS (fun H locs hP hS => ?_)
      have hP := va_Pswap hP
      refine lv_icmp_eq (tgt := 679) hx hb d_L_law_137 (by decide) (fun c8 => ?_) (fun c8 => ?_)
      · exact hend u.2 v.2 H locs hR hP hS
      · exact absurd huv c8
    by_cases c2 : op = 2
    · refine lv_tableIn (tgt := 142) hx hb d_L_law_33 (by rw [c2]; decide) (by rw [c2]; decide) (by rw [c2]; rfl) (by decide) ?_
      obtain ⟨u, v, hu, hv, huv, hR⟩ := ok_step hops σ τ (xs (nI i + 1).toNatClampNeg) (xs (nI i + 2).toNatClampNeg) (xs (nI i + 3).toNatClampNeg) (xs (nI i + 4).toNatClampNeg) (xs (nI i + 5).toNatClampNeg) hR
      refine lv_aload_n hx hb d_L_law_142 rfl (lv_at hl 1 rfl) ?_
      refine lv_aload_n hx hb d_L_law_143 rfl (lv_at hl 0 rfl) ?_
      refine lv_iload_n hx hb d_L_law_144 rfl (lv_at hl 3 rfl) ?_
      refine lv_iconst (v := 1) hx hb d_L_law_145 (by decide) ?_
      refine lv_iadd hx hb d_L_law_146 ?_
      refine va_sld hx hb hX hbl hbA hS x1 d_L_law_147 ?_
      refine lv_aload_n hx hb d_L_law_148 rfl (lv_at hl 0 rfl) ?_
      refine lv_iload_n hx hb d_L_law_149 rfl (lv_at hl 3 rfl) ?_
      refine lv_iconst (v := 2) hx hb d_L_law_150 (by decide) ?_
      refine lv_iadd hx hb d_L_law_151 ?_
      refine va_sld hx hb hX hbl hbA hS x2 d_L_law_152 ?_
      refine lv_aload_n hx hb d_L_law_153 rfl (lv_at hl 0 rfl) ?_
      refine lv_iload_n hx hb d_L_law_154 rfl (lv_at hl 3 rfl) ?_
      refine lv_iconst (v := 3) hx hb d_L_law_155 (by decide) ?_
      refine lv_iadd hx hb d_L_law_156 ?_
      refine va_sld hx hb hX hbl hbA hS x3 d_L_law_157 ?_
      refine lv_aload_n hx hb d_L_law_158 rfl (lv_at hl 0 rfl) ?_
      refine lv_iload_n hx hb d_L_law_159 rfl (lv_at hl 3 rfl) ?_
      refine lv_iconst (v := 4) hx hb d_L_law_160 (by decide) ?_
      refine lv_iadd hx hb d_L_law_161 ?_
      refine va_sld hx hb hX hbl hbA hS x4 d_L_law_162 ?_
      refine lv_aload_n hx hb d_L_law_163 rfl (lv_at hl 0 rfl) ?_
      refine lv_iload_n hx hb d_L_law_164 rfl (lv_at hl 3 rfl) ?_
      refine lv_iconst (v := 5) hx hb d_L_law_165 (by decide) ?_
      refine lv_iadd hx hb d_L_law_166 ?_
      refine va_sld hx hb hX hbl hbA hS x5 d_L_law_167 ?_
      refine gcall_i (va_runV (As := [.int (xs (nI i + 1).toNatClampNeg), .int (xs (nI i + 2).toNatClampNeg), .int (xs (nI i + 3).toNatClampNeg), .int (xs (nI i + 4).toNatClampNeg), .int (xs (nI i + 5).toNatClampNeg)]) (rest := []) ⟨hx, hb, hml, hown, hts⟩ (c_E_step l D cI cZ tL q (wM cI cZ r τ) FU σ (xs (nI i + 1).toNatClampNeg) (xs (nI i + 2).toNatClampNeg) (xs (nI i + 3).toNatClampNeg) (xs (nI i + 4).toNatClampNeg) (xs (nI i + 5).toNatClampNeg) u hu H.size) (cwV 5 hts (gVL (List.mem_of_getElem? (i := 238) (by decide +kernel)) w_115 w_116 w_1 w_117) rfl rfl rfl (by decide +kernel) ⟨(Nat.le_of_ble_eq_true rfl), (Nat.le_of_ble_eq_true rfl)⟩) (gpV (k := 0) (ci := 0) hA hK (hD σ τ) hE hP hS rfl rfl) rfl rfl hl.1 rfl (lv_room (Nat.le_of_ble_eq_true rfl)) d_L_law_168 ⟨(Nat.le_of_ble_eq_true rfl), (Nat.le_of_ble_eq_true rfl)⟩) hA (hD σ τ) hS (fun H locs hP hS => ?_)
      have hP := va_Pswap hP
      refine lv_aload_n hx hb d_L_law_171 rfl (lv_at hl 2 rfl) ?_
      refine lv_aload_n hx hb d_L_law_172 rfl (lv_at hl 0 rfl) ?_
      refine lv_iload_n hx hb d_L_law_173 rfl (lv_at hl 3 rfl) ?_
      refine lv_iconst (v := 1) hx hb d_L_law_174 (by decide) ?_
      refine lv_iadd hx hb d_L_law_175 ?_
      refine va_sld hx hb hX hbl hbA hS x1 d_L_law_176 ?_
      refine lv_aload_n hx hb d_L_law_177 rfl (lv_at hl 0 rfl) ?_
      refine lv_iload_n hx hb d_L_law_178 rfl (lv_at hl 3 rfl) ?_
      refine lv_iconst (v := 2) hx hb d_L_law_179 (by decide) ?_
      refine lv_iadd hx hb d_L_law_180 ?_
      refine va_sld hx hb hX hbl hbA hS x2 d_L_law_181 ?_
      refine lv_aload_n hx hb d_L_law_182 rfl (lv_at hl 0 rfl) ?_
      refine lv_iload_n hx hb d_L_law_183 rfl (lv_at hl 3 rfl) ?_
      refine lv_iconst (v := 3) hx hb d_L_law_184 (by decide) ?_
      refine lv_iadd hx hb d_L_law_185 ?_
      refine va_sld hx hb hX hbl hbA hS x3 d_L_law_186 ?_
      refine lv_aload_n hx hb d_L_law_187 rfl (lv_at hl 0 rfl) ?_
      refine lv_iload_n hx hb d_L_law_188 rfl (lv_at hl 3 rfl) ?_
      refine lv_iconst (v := 4) hx hb d_L_law_189 (by decide) ?_
      refine lv_iadd hx hb d_L_law_190 ?_
      refine va_sld hx hb hX hbl hbA hS x4 d_L_law_191 ?_
      refine lv_aload_n hx hb d_L_law_192 rfl (lv_at hl 0 rfl) ?_
      refine lv_iload_n hx hb d_L_law_193 rfl (lv_at hl 3 rfl) ?_
      refine lv_iconst (v := 5) hx hb d_L_law_194 (by decide) ?_
      refine lv_iadd hx hb d_L_law_195 ?_
      refine va_sld hx hb hX hbl hbA hS x5 d_L_law_196 ?_
      refine gcall_i (va_runV (As := [.int (xs (nI i + 1).toNatClampNeg), .int (xs (nI i + 2).toNatClampNeg), .int (xs (nI i + 3).toNatClampNeg), .int (xs (nI i + 4).toNatClampNeg), .int (xs (nI i + 5).toNatClampNeg)]) (rest := [.int u.1]) ⟨hx, hb, hml, hown, hts⟩ (c_M_step l D cI cZ tL r (wE cI cZ q u.2) τ (xs (nI i + 1).toNatClampNeg) (xs (nI i + 2).toNatClampNeg) (xs (nI i + 3).toNatClampNeg) (xs (nI i + 4).toNatClampNeg) (xs (nI i + 5).toNatClampNeg) v hv H.size) (cwV 5 hts (gVL (List.mem_of_getElem? (i := 681) (by decide +kernel)) w_480 w_481 w_6 w_482) rfl rfl rfl (by decide +kernel) ⟨(Nat.le_of_ble_eq_true rfl), (Nat.le_of_ble_eq_true rfl)⟩) (gpV (k := 0) (ci := 5) hA hK (va_Dswap (hD u.2 τ)) hE hP hS rfl rfl) rfl rfl hl.1 rfl (lv_room (Nat.le_of_ble_eq_true rfl)) d_L_law_197 ⟨(Nat.le_of_ble_eq_true rfl), (Nat.le_of_ble_eq_true rfl)⟩) hA (va_Dswap (hD u.2 τ)) hS (fun H locs hP hS => ?_)
      have hP := va_Pswap hP
      refine lv_icmp_eq (tgt := 679) hx hb d_L_law_200 (by decide) (fun c8 => ?_) (fun c8 => ?_)
      · exact hend u.2 v.2 H locs hR hP hS
      · exact absurd huv c8
    by_cases c3 : op = 3
    · refine lv_tableIn (tgt := 205) hx hb d_L_law_33 (by rw [c3]; decide) (by rw [c3]; decide) (by rw [c3]; rfl) (by decide) ?_
      obtain ⟨u, v, hu, hv, huv, hR⟩ := ok_call hops σ τ (xs (nI i + 1).toNatClampNeg) (xs (nI i + 2).toNatClampNeg) (xs (nI i + 3).toNatClampNeg) (xs (nI i + 4).toNatClampNeg) (xs (nI i + 5).toNatClampNeg) (xs (nI i + 6).toNatClampNeg) hR
      refine lv_aload_n hx hb d_L_law_205 rfl (lv_at hl 1 rfl) ?_
      refine lv_aload_n hx hb d_L_law_206 rfl (lv_at hl 0 rfl) ?_
      refine lv_iload_n hx hb d_L_law_207 rfl (lv_at hl 3 rfl) ?_
      refine lv_iconst (v := 1) hx hb d_L_law_208 (by decide) ?_
      refine lv_iadd hx hb d_L_law_209 ?_
      refine va_sld hx hb hX hbl hbA hS x1 d_L_law_210 ?_
      refine lv_aload_n hx hb d_L_law_211 rfl (lv_at hl 0 rfl) ?_
      refine lv_iload_n hx hb d_L_law_212 rfl (lv_at hl 3 rfl) ?_
      refine lv_iconst (v := 2) hx hb d_L_law_213 (by decide) ?_
      refine lv_iadd hx hb d_L_law_214 ?_
      refine va_sld hx hb hX hbl hbA hS x2 d_L_law_215 ?_
      refine lv_aload_n hx hb d_L_law_216 rfl (lv_at hl 0 rfl) ?_
      refine lv_iload_n hx hb d_L_law_217 rfl (lv_at hl 3 rfl) ?_
      refine lv_iconst (v := 3) hx hb d_L_law_218 (by decide) ?_
      refine lv_iadd hx hb d_L_law_219 ?_
      refine va_sld hx hb hX hbl hbA hS x3 d_L_law_220 ?_
      refine lv_aload_n hx hb d_L_law_221 rfl (lv_at hl 0 rfl) ?_
      refine lv_iload_n hx hb d_L_law_222 rfl (lv_at hl 3 rfl) ?_
      refine lv_iconst (v := 4) hx hb d_L_law_223 (by decide) ?_
      refine lv_iadd hx hb d_L_law_224 ?_
      refine va_sld hx hb hX hbl hbA hS x4 d_L_law_225 ?_
      refine lv_aload_n hx hb d_L_law_226 rfl (lv_at hl 0 rfl) ?_
      refine lv_iload_n hx hb d_L_law_227 rfl (lv_at hl 3 rfl) ?_
      refine lv_iconst (v := 5) hx hb d_L_law_228 (by decide) ?_
      refine lv_iadd hx hb d_L_law_229 ?_
      refine va_sld hx hb hX hbl hbA hS x5 d_L_law_230 ?_
      refine lv_aload_n hx hb d_L_law_231 rfl (lv_at hl 0 rfl) ?_
      refine lv_iload_n hx hb d_L_law_232 rfl (lv_at hl 3 rfl) ?_
      refine lv_bipush (v := 6) hx hb d_L_law_233 (by decide) ?_
      refine lv_iadd hx hb d_L_law_235 ?_
      refine va_sld hx hb hX hbl hbA hS x6 d_L_law_236 ?_
      refine gcall_i (va_runV (As := [.int (xs (nI i + 1).toNatClampNeg), .int (xs (nI i + 2).toNatClampNeg), .int (xs (nI i + 3).toNatClampNeg), .int (xs (nI i + 4).toNatClampNeg), .int (xs (nI i + 5).toNatClampNeg), .int (xs (nI i + 6).toNatClampNeg)]) (rest := []) ⟨hx, hb, hml, hown, hts⟩ (c_E_call l D cI cZ tL q (wM cI cZ r τ) FU σ (xs (nI i + 1).toNatClampNeg) (xs (nI i + 2).toNatClampNeg) (xs (nI i + 3).toNatClampNeg) (xs (nI i + 4).toNatClampNeg) (xs (nI i + 5).toNatClampNeg) (xs (nI i + 6).toNatClampNeg) u hu H.size) (cwV 6 hts (gVL (List.mem_of_getElem? (i := 279) (by decide +kernel)) w_152 w_153 w_1 w_154) rfl rfl rfl (by decide +kernel) ⟨(Nat.le_of_ble_eq_true rfl), (Nat.le_of_ble_eq_true rfl)⟩) (gpV (k := 0) (ci := 0) hA hK (hD σ τ) hE hP hS rfl rfl) rfl rfl hl.1 rfl (lv_room (Nat.le_of_ble_eq_true rfl)) d_L_law_237 ⟨(Nat.le_of_ble_eq_true rfl), (Nat.le_of_ble_eq_true rfl)⟩) hA (hD σ τ) hS (fun H locs hP hS => ?_)
      have hP := va_Pswap hP
      refine lv_aload_n hx hb d_L_law_240 rfl (lv_at hl 2 rfl) ?_
      refine lv_aload_n hx hb d_L_law_241 rfl (lv_at hl 0 rfl) ?_
      refine lv_iload_n hx hb d_L_law_242 rfl (lv_at hl 3 rfl) ?_
      refine lv_iconst (v := 1) hx hb d_L_law_243 (by decide) ?_
      refine lv_iadd hx hb d_L_law_244 ?_
      refine va_sld hx hb hX hbl hbA hS x1 d_L_law_245 ?_
      refine lv_aload_n hx hb d_L_law_246 rfl (lv_at hl 0 rfl) ?_
      refine lv_iload_n hx hb d_L_law_247 rfl (lv_at hl 3 rfl) ?_
      refine lv_iconst (v := 2) hx hb d_L_law_248 (by decide) ?_
      refine lv_iadd hx hb d_L_law_249 ?_
      refine va_sld hx hb hX hbl hbA hS x2 d_L_law_250 ?_
      refine lv_aload_n hx hb d_L_law_251 rfl (lv_at hl 0 rfl) ?_
      refine lv_iload_n hx hb d_L_law_252 rfl (lv_at hl 3 rfl) ?_
      refine lv_iconst (v := 3) hx hb d_L_law_253 (by decide) ?_
      refine lv_iadd hx hb d_L_law_254 ?_
      refine va_sld hx hb hX hbl hbA hS x3 d_L_law_255 ?_
      refine lv_aload_n hx hb d_L_law_256 rfl (lv_at hl 0 rfl) ?_
      refine lv_iload_n hx hb d_L_law_257 rfl (lv_at hl 3 rfl) ?_
      refine lv_iconst (v := 4) hx hb d_L_law_258 (by decide) ?_
      refine lv_iadd hx hb d_L_law_259 ?_
      refine va_sld hx hb hX hbl hbA hS x4 d_L_law_260 ?_
      refine lv_aload_n hx hb d_L_law_261 rfl (lv_at hl 0 rfl) ?_
      refine lv_iload_n hx hb d_L_law_262 rfl (lv_at hl 3 rfl) ?_
      refine lv_iconst (v := 5) hx hb d_L_law_263 (by decide) ?_
      refine lv_iadd hx hb d_L_law_264 ?_
      refine va_sld hx hb hX hbl hbA hS x5 d_L_law_265 ?_
      refine lv_aload_n hx hb d_L_law_266 rfl (lv_at hl 0 rfl) ?_
      refine lv_iload_n hx hb d_L_law_267 rfl (lv_at hl 3 rfl) ?_
      refine lv_bipush (v := 6) hx hb d_L_law_268 (by decide) ?_
      refine lv_iadd hx hb d_L_law_270 ?_
      refine va_sld hx hb hX hbl hbA hS x6 d_L_law_271 ?_
      refine gcall_i (va_runV (As := [.int (xs (nI i + 1).toNatClampNeg), .int (xs (nI i + 2).toNatClampNeg), .int (xs (nI i + 3).toNatClampNeg), .int (xs (nI i + 4).toNatClampNeg), .int (xs (nI i + 5).toNatClampNeg), .int (xs (nI i + 6).toNatClampNeg)]) (rest := [.int u.1]) ⟨hx, hb, hml, hown, hts⟩ (c_M_call l D cI cZ tL r (wE cI cZ q u.2) τ (xs (nI i + 1).toNatClampNeg) (xs (nI i + 2).toNatClampNeg) (xs (nI i + 3).toNatClampNeg) (xs (nI i + 4).toNatClampNeg) (xs (nI i + 5).toNatClampNeg) (xs (nI i + 6).toNatClampNeg) v hv H.size) (cwV 6 hts (gVL (List.mem_of_getElem? (i := 705) (by decide +kernel)) w_501 w_502 w_6 w_503) rfl rfl rfl (by decide +kernel) ⟨(Nat.le_of_ble_eq_true rfl), (Nat.le_of_ble_eq_true rfl)⟩) (gpV (k := 0) (ci := 5) hA hK (va_Dswap (hD u.2 τ)) hE hP hS rfl rfl) rfl rfl hl.1 rfl (lv_room (Nat.le_of_ble_eq_true rfl)) d_L_law_272 ⟨(Nat.le_of_ble_eq_true rfl), (Nat.le_of_ble_eq_true rfl)⟩) hA (va_Dswap (hD u.2 τ)) hS (fun H locs hP hS => ?_)
      have hP := va_Pswap hP
      refine lv_icmp_eq (tgt := 679) hx hb d_L_law_275 (by decide) (fun c8 => ?_) (fun c8 => ?_)
      · exact hend u.2 v.2 H locs hR hP hS
      · exact absurd huv c8
    by_cases c4 : op = 4
    · refine lv_tableIn (tgt := 280) hx hb d_L_law_33 (by rw [c4]; decide) (by rw [c4]; decide) (by rw [c4]; rfl) (by decide) ?_
      obtain ⟨u, v, hu, hv, huv, hR⟩ := ok_undo hops σ τ  hR
      refine lv_aload_n hx hb d_L_law_280 rfl (lv_at hl 1 rfl) ?_
      refine gcall_i (va_runV (As := []) (rest := []) ⟨hx, hb, hml, hown, hts⟩ (c_E_undo l D cI cZ tL q (wM cI cZ r τ) σ  u hu H.size) (cwV 0 hts (gVL (List.mem_of_getElem? (i := 286) (by decide +kernel)) w_158 w_159 w_1 w_160) rfl rfl rfl (by decide +kernel) ⟨(Nat.le_of_ble_eq_true rfl), (Nat.le_of_ble_eq_true rfl)⟩) (gpV (k := 0) (ci := 0) hA hK (hD σ τ) hE hP hS rfl rfl) rfl rfl hl.1 rfl (lv_room (Nat.le_of_ble_eq_true rfl)) d_L_law_281 ⟨(Nat.le_of_ble_eq_true rfl), (Nat.le_of_ble_eq_true rfl)⟩) hA (hD σ τ) hS (fun H locs hP hS => ?_)
      have hP := va_Pswap hP
      refine lv_aload_n hx hb d_L_law_284 rfl (lv_at hl 2 rfl) ?_
      refine gcall_i (va_runV (As := []) (rest := [.int u.1]) ⟨hx, hb, hml, hown, hts⟩ (c_M_undo l D cI cZ tL r (wE cI cZ q u.2) τ  v hv H.size) (cwV 0 hts (gVL (List.mem_of_getElem? (i := 712) (by decide +kernel)) w_507 w_508 w_6 w_509) rfl rfl rfl (by decide +kernel) ⟨(Nat.le_of_ble_eq_true rfl), (Nat.le_of_ble_eq_true rfl)⟩) (gpV (k := 0) (ci := 5) hA hK (va_Dswap (hD u.2 τ)) hE hP hS rfl rfl) rfl rfl hl.1 rfl (lv_room (Nat.le_of_ble_eq_true rfl)) d_L_law_285 ⟨(Nat.le_of_ble_eq_true rfl), (Nat.le_of_ble_eq_true rfl)⟩) hA (va_Dswap (hD u.2 τ)) hS (fun H locs hP hS => ?_)
      have hP := va_Pswap hP
      refine lv_icmp_eq (tgt := 679) hx hb d_L_law_288 (by decide) (fun c8 => ?_) (fun c8 => ?_)
      · exact hend u.2 v.2 H locs hR hP hS
      · exact absurd huv c8
    by_cases c5 : op = 5
    · refine lv_tableIn (tgt := 293) hx hb d_L_law_33 (by rw [c5]; decide) (by rw [c5]; decide) (by rw [c5]; rfl) (by decide) ?_
      obtain ⟨u, hu, hv⟩ := ok_told hops σ τ (xs (nI i + 1).toNatClampNeg) (xs (nI i + 2).toNatClampNeg) hR
      refine lv_aload_n hx hb d_L_law_293 rfl (lv_at hl 1 rfl) ?_
      refine lv_aload_n hx hb d_L_law_294 rfl (lv_at hl 0 rfl) ?_
      refine lv_iload_n hx hb d_L_law_295 rfl (lv_at hl 3 rfl) ?_
      refine lv_iconst (v := 1) hx hb d_L_law_296 (by decide) ?_
      refine lv_iadd hx hb d_L_law_297 ?_
      refine va_sld hx hb hX hbl hbA hS x1 d_L_law_298 ?_
      refine lv_aload_n hx hb d_L_law_299 rfl (lv_at hl 0 rfl) ?_
      refine lv_iload_n hx hb d_L_law_300 rfl (lv_at hl 3 rfl) ?_
      refine lv_iconst (v := 2) hx hb d_L_law_301 (by decide) ?_
      refine lv_iadd hx hb d_L_law_302 ?_
      refine va_sld hx hb hX hbl hbA hS x2 d_L_law_303 ?_
      refine gcall_i (va_runV (As := [.int (xs (nI i + 1).toNatClampNeg), .int (xs (nI i + 2).toNatClampNeg)]) (rest := []) ⟨hx, hb, hml, hown, hts⟩ (c_E_told l D cI cZ tL q (wM cI cZ r τ) σ (xs (nI i + 1).toNatClampNeg) (xs (nI i + 2).toNatClampNeg) u hu H.size) (cwV 2 hts (gVL (List.mem_of_getElem? (i := 299) (by decide +kernel)) w_169 w_170 w_1 w_171) rfl rfl rfl (by decide +kernel) ⟨(Nat.le_of_ble_eq_true rfl), (Nat.le_of_ble_eq_true rfl)⟩) (gpV (k := 0) (ci := 0) hA hK (hD σ τ) hE hP hS rfl rfl) rfl rfl hl.1 rfl (lv_room (Nat.le_of_ble_eq_true rfl)) d_L_law_304 ⟨(Nat.le_of_ble_eq_true rfl), (Nat.le_of_ble_eq_true rfl)⟩) hA (hD σ τ) hS (fun H locs hP hS => ?_)
      have hP := va_Pswap hP
      refine lv_aload_n hx hb d_L_law_307 rfl (lv_at hl 2 rfl) ?_
      refine lv_aload_n hx hb d_L_law_308 rfl (lv_at hl 0 rfl) ?_
      refine lv_iload_n hx hb d_L_law_309 rfl (lv_at hl 3 rfl) ?_
      refine lv_iconst (v := 1) hx hb d_L_law_310 (by decide) ?_
      refine lv_iadd hx hb d_L_law_311 ?_
      refine va_sld hx hb hX hbl hbA hS x1 d_L_law_312 ?_
      refine lv_aload_n hx hb d_L_law_313 rfl (lv_at hl 0 rfl) ?_
      refine lv_iload_n hx hb d_L_law_314 rfl (lv_at hl 3 rfl) ?_
      refine lv_iconst (v := 2) hx hb d_L_law_315 (by decide) ?_
      refine lv_iadd hx hb d_L_law_316 ?_
      refine va_sld hx hb hX hbl hbA hS x2 d_L_law_317 ?_
      refine gcall_i (va_runV (As := [.int (xs (nI i + 1).toNatClampNeg), .int (xs (nI i + 2).toNatClampNeg)]) (rest := [.int u]) ⟨hx, hb, hml, hown, hts⟩ (c_M_told l D cI cZ tL r (wE cI cZ q σ) τ (xs (nI i + 1).toNatClampNeg) (xs (nI i + 2).toNatClampNeg) u hv H.size) (cwV 2 hts (gVL (List.mem_of_getElem? (i := 716) (by decide +kernel)) w_510 w_511 w_6 w_512) rfl rfl rfl (by decide +kernel) ⟨(Nat.le_of_ble_eq_true rfl), (Nat.le_of_ble_eq_true rfl)⟩) (gpV (k := 0) (ci := 5) hA hK (va_Dswap (hD σ τ)) hE hP hS rfl rfl) rfl rfl hl.1 rfl (lv_room (Nat.le_of_ble_eq_true rfl)) d_L_law_318 ⟨(Nat.le_of_ble_eq_true rfl), (Nat.le_of_ble_eq_true rfl)⟩) hA (va_Dswap (hD σ τ)) hS (fun H locs hP hS => ?_)
      have hP := va_Pswap hP
      refine lv_icmp_eq (tgt := 679) hx hb d_L_law_321 (by decide) (fun c8 => ?_) (fun c8 => ?_)
      · exact hend σ τ H locs hR hP hS
      · exact absurd rfl c8
    by_cases c6 : op = 6
    · refine lv_tableIn (tgt := 326) hx hb d_L_law_33 (by rw [c6]; decide) (by rw [c6]; decide) (by rw [c6]; rfl) (by decide) ?_
      obtain ⟨u, v, hu, hv, huv, hR⟩ := ok_all hops σ τ (xs (nI i + 1).toNatClampNeg) hR
      refine lv_aload_n hx hb d_L_law_326 rfl (lv_at hl 1 rfl) ?_
      refine lv_aload_n hx hb d_L_law_327 rfl (lv_at hl 0 rfl) ?_
      refine lv_iload_n hx hb d_L_law_328 rfl (lv_at hl 3 rfl) ?_
      refine lv_iconst (v := 1) hx hb d_L_law_329 (by decide) ?_
      refine lv_iadd hx hb d_L_law_330 ?_
      refine va_sld hx hb hX hbl hbA hS x1 d_L_law_331 ?_
      refine gcall_i (va_runV (As := [.int (xs (nI i + 1).toNatClampNeg)]) (rest := []) ⟨hx, hb, hml, hown, hts⟩ (c_E_all l D cI cZ tL q (wM cI cZ r τ) FU σ (xs (nI i + 1).toNatClampNeg) u hu H.size) (cwV 1 hts (gVL (List.mem_of_getElem? (i := 320) (by decide +kernel)) w_188 w_189 w_1 w_190) rfl rfl rfl (by decide +kernel) ⟨(Nat.le_of_ble_eq_true rfl), (Nat.le_of_ble_eq_true rfl)⟩) (gpV (k := 0) (ci := 0) hA hK (hD σ τ) hE hP hS rfl rfl) rfl rfl hl.1 rfl (lv_room (Nat.le_of_ble_eq_true rfl)) d_L_law_332 ⟨(Nat.le_of_ble_eq_true rfl), (Nat.le_of_ble_eq_true rfl)⟩) hA (hD σ τ) hS (fun H locs hP hS => ?_)
      have hP := va_Pswap hP
      refine lv_aload_n hx hb d_L_law_335 rfl (lv_at hl 2 rfl) ?_
      refine lv_aload_n hx hb d_L_law_336 rfl (lv_at hl 0 rfl) ?_
      refine lv_iload_n hx hb d_L_law_337 rfl (lv_at hl 3 rfl) ?_
      refine lv_iconst (v := 1) hx hb d_L_law_338 (by decide) ?_
      refine lv_iadd hx hb d_L_law_339 ?_
      refine va_sld hx hb hX hbl hbA hS x1 d_L_law_340 ?_
      refine gcall_i (va_runV (As := [.int (xs (nI i + 1).toNatClampNeg)]) (rest := [.int u.1]) ⟨hx, hb, hml, hown, hts⟩ (c_M_all l D cI cZ tL r (wE cI cZ q u.2) FU τ (xs (nI i + 1).toNatClampNeg) v hv H.size) (cwV 1 hts (gVL (List.mem_of_getElem? (i := 851) (by decide +kernel)) w_612 w_613 w_6 w_614) rfl rfl rfl (by decide +kernel) ⟨(Nat.le_of_ble_eq_true rfl), (Nat.le_of_ble_eq_true rfl)⟩) (gpV (k := 0) (ci := 5) hA hK (va_Dswap (hD u.2 τ)) hE hP hS rfl rfl) rfl rfl hl.1 rfl (lv_room (Nat.le_of_ble_eq_true rfl)) d_L_law_341 ⟨(Nat.le_of_ble_eq_true rfl), (Nat.le_of_ble_eq_true rfl)⟩) hA (va_Dswap (hD u.2 τ)) hS (fun H locs hP hS => ?_)
      have hP := va_Pswap hP
      refine lv_icmp_eq (tgt := 679) hx hb d_L_law_344 (by decide) (fun c8 => ?_) (fun c8 => ?_)
      · exact hend u.2 v.2 H locs hR hP hS
      · exact absurd huv c8
    by_cases c7 : op = 7
    · refine lv_tableIn (tgt := 349) hx hb d_L_law_33 (by rw [c7]; decide) (by rw [c7]; decide) (by rw [c7]; rfl) (by decide) ?_
      obtain ⟨u, v, hu, hv, huv, hR⟩ := ok_points hops σ τ (xs (nI i + 1).toNatClampNeg) (xs (nI i + 2).toNatClampNeg) hR
      refine lv_aload_n hx hb d_L_law_349 rfl (lv_at hl 1 rfl) ?_
      refine lv_aload_n hx hb d_L_law_350 rfl (lv_at hl 0 rfl) ?_
      refine lv_iload_n hx hb d_L_law_351 rfl (lv_at hl 3 rfl) ?_
      refine lv_iconst (v := 1) hx hb d_L_law_352 (by decide) ?_
      refine lv_iadd hx hb d_L_law_353 ?_
      refine va_sld hx hb hX hbl hbA hS x1 d_L_law_354 ?_
      refine lv_aload_n hx hb d_L_law_355 rfl (lv_at hl 0 rfl) ?_
      refine lv_iload_n hx hb d_L_law_356 rfl (lv_at hl 3 rfl) ?_
      refine lv_iconst (v := 2) hx hb d_L_law_357 (by decide) ?_
      refine lv_iadd hx hb d_L_law_358 ?_
      refine va_sld hx hb hX hbl hbA hS x2 d_L_law_359 ?_
      refine gcall_i (va_runV (As := [.int (xs (nI i + 1).toNatClampNeg), .int (xs (nI i + 2).toNatClampNeg)]) (rest := []) ⟨hx, hb, hml, hown, hts⟩ (c_E_points l D cI cZ tL q (wM cI cZ r τ) FU σ (xs (nI i + 1).toNatClampNeg) (xs (nI i + 2).toNatClampNeg) u hu H.size) (cwV 2 hts (gVL (List.mem_of_getElem? (i := 494) (by decide +kernel)) w_337 w_338 w_1 w_339) rfl rfl rfl (by decide +kernel) ⟨(Nat.le_of_ble_eq_true rfl), (Nat.le_of_ble_eq_true rfl)⟩) (gpV (k := 0) (ci := 0) hA hK (hD σ τ) hE hP hS rfl rfl) rfl rfl hl.1 rfl (lv_room (Nat.le_of_ble_eq_true rfl)) d_L_law_360 ⟨(Nat.le_of_ble_eq_true rfl), (Nat.le_of_ble_eq_true rfl)⟩) hA (hD σ τ) hS (fun H locs hP hS => ?_)
      have hP := va_Pswap hP
      refine lv_aload_n hx hb d_L_law_363 rfl (lv_at hl 2 rfl) ?_
      refine lv_aload_n hx hb d_L_law_364 rfl (lv_at hl 0 rfl) ?_
      refine lv_iload_n hx hb d_L_law_365 rfl (lv_at hl 3 rfl) ?_
      refine lv_iconst (v := 1) hx hb d_L_law_366 (by decide) ?_
      refine lv_iadd hx hb d_L_law_367 ?_
      refine va_sld hx hb hX hbl hbA hS x1 d_L_law_368 ?_
      refine lv_aload_n hx hb d_L_law_369 rfl (lv_at hl 0 rfl) ?_
      refine lv_iload_n hx hb d_L_law_370 rfl (lv_at hl 3 rfl) ?_
      refine lv_iconst (v := 2) hx hb d_L_law_371 (by decide) ?_
      refine lv_iadd hx hb d_L_law_372 ?_
      refine va_sld hx hb hX hbl hbA hS x2 d_L_law_373 ?_
      refine gcall_i (va_runV (As := [.int (xs (nI i + 1).toNatClampNeg), .int (xs (nI i + 2).toNatClampNeg)]) (rest := [.int u.1]) ⟨hx, hb, hml, hown, hts⟩ (c_M_points l D cI cZ tL r (wE cI cZ q u.2) FU τ (xs (nI i + 1).toNatClampNeg) (xs (nI i + 2).toNatClampNeg) v hv H.size) (cwV 2 hts (gVL (List.mem_of_getElem? (i := 775) (by decide +kernel)) w_555 w_556 w_6 w_557) rfl rfl rfl (by decide +kernel) ⟨(Nat.le_of_ble_eq_true rfl), (Nat.le_of_ble_eq_true rfl)⟩) (gpV (k := 0) (ci := 5) hA hK (va_Dswap (hD u.2 τ)) hE hP hS rfl rfl) rfl rfl hl.1 rfl (lv_room (Nat.le_of_ble_eq_true rfl)) d_L_law_374 ⟨(Nat.le_of_ble_eq_true rfl), (Nat.le_of_ble_eq_true rfl)⟩) hA (va_Dswap (hD u.2 τ)) hS (fun H locs hP hS => ?_)
      have hP := va_Pswap hP
      refine lv_icmp_eq (tgt := 679) hx hb d_L_law_377 (by decide) (fun c8 => ?_) (fun c8 => ?_)
      · exact hend u.2 v.2 H locs hR hP hS
      · exact absurd huv c8
    by_cases c8 : op = 8
    · refine lv_tableIn (tgt := 382) hx hb d_L_law_33 (by rw [c8]; decide) (by rw [c8]; decide) (by rw [c8]; rfl) (by decide) ?_
      obtain ⟨u, v, hu, hv, huv, hR⟩ := ok_field hops σ τ (xs (nI i + 1).toNatClampNeg) (xs (nI i + 2).toNatClampNeg) hR
      refine lv_aload_n hx hb d_L_law_382 rfl (lv_at hl 1 rfl) ?_
      refine lv_aload_n hx hb d_L_law_383 rfl (lv_at hl 0 rfl) ?_
      refine lv_iload_n hx hb d_L_law_384 rfl (lv_at hl 3 rfl) ?_
      refine lv_iconst (v := 1) hx hb d_L_law_385 (by decide) ?_
      refine lv_iadd hx hb d_L_law_386 ?_
      refine va_sld hx hb hX hbl hbA hS x1 d_L_law_387 ?_
      refine lv_aload_n hx hb d_L_law_388 rfl (lv_at hl 0 rfl) ?_
      refine lv_iload_n hx hb d_L_law_389 rfl (lv_at hl 3 rfl) ?_
      refine lv_iconst (v := 2) hx hb d_L_law_390 (by decide) ?_
      refine lv_iadd hx hb d_L_law_391 ?_
      refine va_sld hx hb hX hbl hbA hS x2 d_L_law_392 ?_
      refine gcall_i (va_runV (As := [.int (xs (nI i + 1).toNatClampNeg), .int (xs (nI i + 2).toNatClampNeg)]) (rest := []) ⟨hx, hb, hml, hown, hts⟩ (c_E_field l D cI cZ tL q (wM cI cZ r τ) FU σ (xs (nI i + 1).toNatClampNeg) (xs (nI i + 2).toNatClampNeg) u hu H.size) (cwV 2 hts (gVL (List.mem_of_getElem? (i := 499) (by decide +kernel)) w_341 w_342 w_1 w_343) rfl rfl rfl (by decide +kernel) ⟨(Nat.le_of_ble_eq_true rfl), (Nat.le_of_ble_eq_true rfl)⟩) (gpV (k := 0) (ci := 0) hA hK (hD σ τ) hE hP hS rfl rfl) rfl rfl hl.1 rfl (lv_room (Nat.le_of_ble_eq_true rfl)) d_L_law_393 ⟨(Nat.le_of_ble_eq_true rfl), (Nat.le_of_ble_eq_true rfl)⟩) hA (hD σ τ) hS (fun H locs hP hS => ?_)
      have hP := va_Pswap hP
      refine lv_aload_n hx hb d_L_law_396 rfl (lv_at hl 2 rfl) ?_
      refine lv_aload_n hx hb d_L_law_397 rfl (lv_at hl 0 rfl) ?_
      refine lv_iload_n hx hb d_L_law_398 rfl (lv_at hl 3 rfl) ?_
      refine lv_iconst (v := 1) hx hb d_L_law_399 (by decide) ?_
      refine lv_iadd hx hb d_L_law_400 ?_
      refine va_sld hx hb hX hbl hbA hS x1 d_L_law_401 ?_
      refine lv_aload_n hx hb d_L_law_402 rfl (lv_at hl 0 rfl) ?_
      refine lv_iload_n hx hb d_L_law_403 rfl (lv_at hl 3 rfl) ?_
      refine lv_iconst (v := 2) hx hb d_L_law_404 (by decide) ?_
      refine lv_iadd hx hb d_L_law_405 ?_
      refine va_sld hx hb hX hbl hbA hS x2 d_L_law_406 ?_
      refine gcall_i (va_runV (As := [.int (xs (nI i + 1).toNatClampNeg), .int (xs (nI i + 2).toNatClampNeg)]) (rest := [.int u.1]) ⟨hx, hb, hml, hown, hts⟩ (c_M_field l D cI cZ tL r (wE cI cZ q u.2) FU τ (xs (nI i + 1).toNatClampNeg) (xs (nI i + 2).toNatClampNeg) v hv H.size) (cwV 2 hts (gVL (List.mem_of_getElem? (i := 779) (by decide +kernel)) w_558 w_559 w_6 w_560) rfl rfl rfl (by decide +kernel) ⟨(Nat.le_of_ble_eq_true rfl), (Nat.le_of_ble_eq_true rfl)⟩) (gpV (k := 0) (ci := 5) hA hK (va_Dswap (hD u.2 τ)) hE hP hS rfl rfl) rfl rfl hl.1 rfl (lv_room (Nat.le_of_ble_eq_true rfl)) d_L_law_407 ⟨(Nat.le_of_ble_eq_true rfl), (Nat.le_of_ble_eq_true rfl)⟩) hA (va_Dswap (hD u.2 τ)) hS (fun H locs hP hS => ?_)
      have hP := va_Pswap hP
      refine lv_icmp_eq (tgt := 679) hx hb d_L_law_410 (by decide) (fun c8 => ?_) (fun c8 => ?_)
      · exact hend u.2 v.2 H locs hR hP hS
      · exact absurd huv c8
    by_cases c9 : op = 9
    · refine lv_tableIn (tgt := 415) hx hb d_L_law_33 (by rw [c9]; decide) (by rw [c9]; decide) (by rw [c9]; rfl) (by decide) ?_
      obtain ⟨u, v, hu, hv, huv, hR⟩ := ok_place hops σ τ (xs (nI i + 1).toNatClampNeg) hR
      refine lv_aload_n hx hb d_L_law_415 rfl (lv_at hl 1 rfl) ?_
      refine lv_aload_n hx hb d_L_law_416 rfl (lv_at hl 0 rfl) ?_
      refine lv_iload_n hx hb d_L_law_417 rfl (lv_at hl 3 rfl) ?_
      refine lv_iconst (v := 1) hx hb d_L_law_418 (by decide) ?_
      refine lv_iadd hx hb d_L_law_419 ?_
      refine va_sld hx hb hX hbl hbA hS x1 d_L_law_420 ?_
      refine gcall_i (va_runV (As := [.int (xs (nI i + 1).toNatClampNeg)]) (rest := []) ⟨hx, hb, hml, hown, hts⟩ (c_E_place l D cI cZ tL q (wM cI cZ r τ) FU σ (xs (nI i + 1).toNatClampNeg) u hu H.size) (cwV 1 hts (gVL (List.mem_of_getElem? (i := 508) (by decide +kernel)) w_348 w_349 w_1 w_350) rfl rfl rfl (by decide +kernel) ⟨(Nat.le_of_ble_eq_true rfl), (Nat.le_of_ble_eq_true rfl)⟩) (gpV (k := 0) (ci := 0) hA hK (hD σ τ) hE hP hS rfl rfl) rfl rfl hl.1 rfl (lv_room (Nat.le_of_ble_eq_true rfl)) d_L_law_421 ⟨(Nat.le_of_ble_eq_true rfl), (Nat.le_of_ble_eq_true rfl)⟩) hA (hD σ τ) hS (fun H locs hP hS => ?_)
      have hP := va_Pswap hP
      refine lv_aload_n hx hb d_L_law_424 rfl (lv_at hl 2 rfl) ?_
      refine lv_aload_n hx hb d_L_law_425 rfl (lv_at hl 0 rfl) ?_
      refine lv_iload_n hx hb d_L_law_426 rfl (lv_at hl 3 rfl) ?_
      refine lv_iconst (v := 1) hx hb d_L_law_427 (by decide) ?_
      refine lv_iadd hx hb d_L_law_428 ?_
      refine va_sld hx hb hX hbl hbA hS x1 d_L_law_429 ?_
      refine gcall_i (va_runV (As := [.int (xs (nI i + 1).toNatClampNeg)]) (rest := [.int u.1]) ⟨hx, hb, hml, hown, hts⟩ (c_M_place l D cI cZ tL r (wE cI cZ q u.2) FU τ (xs (nI i + 1).toNatClampNeg) v hv H.size) (cwV 1 hts (gVL (List.mem_of_getElem? (i := 787) (by decide +kernel)) w_564 w_565 w_6 w_566) rfl rfl rfl (by decide +kernel) ⟨(Nat.le_of_ble_eq_true rfl), (Nat.le_of_ble_eq_true rfl)⟩) (gpV (k := 0) (ci := 5) hA hK (va_Dswap (hD u.2 τ)) hE hP hS rfl rfl) rfl rfl hl.1 rfl (lv_room (Nat.le_of_ble_eq_true rfl)) d_L_law_430 ⟨(Nat.le_of_ble_eq_true rfl), (Nat.le_of_ble_eq_true rfl)⟩) hA (va_Dswap (hD u.2 τ)) hS (fun H locs hP hS => ?_)
      have hP := va_Pswap hP
      refine lv_icmp_eq (tgt := 679) hx hb d_L_law_433 (by decide) (fun c8 => ?_) (fun c8 => ?_)
      · exact hend u.2 v.2 H locs hR hP hS
      · exact absurd huv c8
    by_cases c10 : op = 10
    · refine lv_tableIn (tgt := 438) hx hb d_L_law_33 (by rw [c10]; decide) (by rw [c10]; decide) (by rw [c10]; rfl) (by decide) ?_
      obtain ⟨u, v, hu, hv, huv, hR⟩ := ok_result hops σ τ (xs (nI i + 1).toNatClampNeg) hR
      refine lv_aload_n hx hb d_L_law_438 rfl (lv_at hl 1 rfl) ?_
      refine lv_aload_n hx hb d_L_law_439 rfl (lv_at hl 0 rfl) ?_
      refine lv_iload_n hx hb d_L_law_440 rfl (lv_at hl 3 rfl) ?_
      refine lv_iconst (v := 1) hx hb d_L_law_441 (by decide) ?_
      refine lv_iadd hx hb d_L_law_442 ?_
      refine va_sld hx hb hX hbl hbA hS x1 d_L_law_443 ?_
      refine gcall_i (va_runV (As := [.int (xs (nI i + 1).toNatClampNeg)]) (rest := []) ⟨hx, hb, hml, hown, hts⟩ (c_E_result l D cI cZ tL q (wM cI cZ r τ) FU σ (xs (nI i + 1).toNatClampNeg) u hu H.size) (cwV 1 hts (gVL (List.mem_of_getElem? (i := 512) (by decide +kernel)) w_351 w_352 w_1 w_353) rfl rfl rfl (by decide +kernel) ⟨(Nat.le_of_ble_eq_true rfl), (Nat.le_of_ble_eq_true rfl)⟩) (gpV (k := 0) (ci := 0) hA hK (hD σ τ) hE hP hS rfl rfl) rfl rfl hl.1 rfl (lv_room (Nat.le_of_ble_eq_true rfl)) d_L_law_444 ⟨(Nat.le_of_ble_eq_true rfl), (Nat.le_of_ble_eq_true rfl)⟩) hA (hD σ τ) hS (fun H locs hP hS => ?_)
      have hP := va_Pswap hP
      refine lv_aload_n hx hb d_L_law_447 rfl (lv_at hl 2 rfl) ?_
      refine lv_aload_n hx hb d_L_law_448 rfl (lv_at hl 0 rfl) ?_
      refine lv_iload_n hx hb d_L_law_449 rfl (lv_at hl 3 rfl) ?_
      refine lv_iconst (v := 1) hx hb d_L_law_450 (by decide) ?_
      refine lv_iadd hx hb d_L_law_451 ?_
      refine va_sld hx hb hX hbl hbA hS x1 d_L_law_452 ?_
      refine gcall_i (va_runV (As := [.int (xs (nI i + 1).toNatClampNeg)]) (rest := [.int u.1]) ⟨hx, hb, hml, hown, hts⟩ (c_M_result l D cI cZ tL r (wE cI cZ q u.2) FU τ (xs (nI i + 1).toNatClampNeg) v hv H.size) (cwV 1 hts (gVL (List.mem_of_getElem? (i := 791) (by decide +kernel)) w_567 w_568 w_6 w_569) rfl rfl rfl (by decide +kernel) ⟨(Nat.le_of_ble_eq_true rfl), (Nat.le_of_ble_eq_true rfl)⟩) (gpV (k := 0) (ci := 5) hA hK (va_Dswap (hD u.2 τ)) hE hP hS rfl rfl) rfl rfl hl.1 rfl (lv_room (Nat.le_of_ble_eq_true rfl)) d_L_law_453 ⟨(Nat.le_of_ble_eq_true rfl), (Nat.le_of_ble_eq_true rfl)⟩) hA (va_Dswap (hD u.2 τ)) hS (fun H locs hP hS => ?_)
      have hP := va_Pswap hP
      refine lv_icmp_eq (tgt := 679) hx hb d_L_law_456 (by decide) (fun c8 => ?_) (fun c8 => ?_)
      · exact hend u.2 v.2 H locs hR hP hS
      · exact absurd huv c8
    by_cases c11 : op = 11
    · refine lv_tableIn (tgt := 461) hx hb d_L_law_33 (by rw [c11]; decide) (by rw [c11]; decide) (by rw [c11]; rfl) (by decide) ?_
      obtain ⟨u, v, hu, hv, huv, hR⟩ := ok_of hops σ τ (xs (nI i + 1).toNatClampNeg) (xs (nI i + 2).toNatClampNeg) hR
      refine lv_aload_n hx hb d_L_law_461 rfl (lv_at hl 1 rfl) ?_
      refine lv_aload_n hx hb d_L_law_462 rfl (lv_at hl 0 rfl) ?_
      refine lv_iload_n hx hb d_L_law_463 rfl (lv_at hl 3 rfl) ?_
      refine lv_iconst (v := 1) hx hb d_L_law_464 (by decide) ?_
      refine lv_iadd hx hb d_L_law_465 ?_
      refine va_sld hx hb hX hbl hbA hS x1 d_L_law_466 ?_
      refine lv_aload_n hx hb d_L_law_467 rfl (lv_at hl 0 rfl) ?_
      refine lv_iload_n hx hb d_L_law_468 rfl (lv_at hl 3 rfl) ?_
      refine lv_iconst (v := 2) hx hb d_L_law_469 (by decide) ?_
      refine lv_iadd hx hb d_L_law_470 ?_
      refine va_sld hx hb hX hbl hbA hS x2 d_L_law_471 ?_
      refine gcall_i (va_runV (As := [.int (xs (nI i + 1).toNatClampNeg), .int (xs (nI i + 2).toNatClampNeg)]) (rest := []) ⟨hx, hb, hml, hown, hts⟩ (c_E_of l D cI cZ tL q (wM cI cZ r τ) FU σ (xs (nI i + 1).toNatClampNeg) (xs (nI i + 2).toNatClampNeg) u hu H.size) (cwV 2 hts (gVL (List.mem_of_getElem? (i := 516) (by decide +kernel)) w_354 w_355 w_1 w_356) rfl rfl rfl (by decide +kernel) ⟨(Nat.le_of_ble_eq_true rfl), (Nat.le_of_ble_eq_true rfl)⟩) (gpV (k := 0) (ci := 0) hA hK (hD σ τ) hE hP hS rfl rfl) rfl rfl hl.1 rfl (lv_room (Nat.le_of_ble_eq_true rfl)) d_L_law_472 ⟨(Nat.le_of_ble_eq_true rfl), (Nat.le_of_ble_eq_true rfl)⟩) hA (hD σ τ) hS (fun H locs hP hS => ?_)
      have hP := va_Pswap hP
      refine lv_aload_n hx hb d_L_law_475 rfl (lv_at hl 2 rfl) ?_
      refine lv_aload_n hx hb d_L_law_476 rfl (lv_at hl 0 rfl) ?_
      refine lv_iload_n hx hb d_L_law_477 rfl (lv_at hl 3 rfl) ?_
      refine lv_iconst (v := 1) hx hb d_L_law_478 (by decide) ?_
      refine lv_iadd hx hb d_L_law_479 ?_
      refine va_sld hx hb hX hbl hbA hS x1 d_L_law_480 ?_
      refine lv_aload_n hx hb d_L_law_481 rfl (lv_at hl 0 rfl) ?_
      refine lv_iload_n hx hb d_L_law_482 rfl (lv_at hl 3 rfl) ?_
      refine lv_iconst (v := 2) hx hb d_L_law_483 (by decide) ?_
      refine lv_iadd hx hb d_L_law_484 ?_
      refine va_sld hx hb hX hbl hbA hS x2 d_L_law_485 ?_
      refine gcall_i (va_runV (As := [.int (xs (nI i + 1).toNatClampNeg), .int (xs (nI i + 2).toNatClampNeg)]) (rest := [.int u.1]) ⟨hx, hb, hml, hown, hts⟩ (c_M_of l D cI cZ tL r (wE cI cZ q u.2) FU τ (xs (nI i + 1).toNatClampNeg) (xs (nI i + 2).toNatClampNeg) v hv H.size) (cwV 2 hts (gVL (List.mem_of_getElem? (i := 795) (by decide +kernel)) w_570 w_571 w_6 w_572) rfl rfl rfl (by decide +kernel) ⟨(Nat.le_of_ble_eq_true rfl), (Nat.le_of_ble_eq_true rfl)⟩) (gpV (k := 0) (ci := 5) hA hK (va_Dswap (hD u.2 τ)) hE hP hS rfl rfl) rfl rfl hl.1 rfl (lv_room (Nat.le_of_ble_eq_true rfl)) d_L_law_486 ⟨(Nat.le_of_ble_eq_true rfl), (Nat.le_of_ble_eq_true rfl)⟩) hA (va_Dswap (hD u.2 τ)) hS (fun H locs hP hS => ?_)
      have hP := va_Pswap hP
      refine lv_icmp_eq (tgt := 679) hx hb d_L_law_489 (by decide) (fun c8 => ?_) (fun c8 => ?_)
      · exact hend u.2 v.2 H locs hR hP hS
      · exact absurd huv c8
    by_cases c12 : op = 12
    · refine lv_tableIn (tgt := 494) hx hb d_L_law_33 (by rw [c12]; decide) (by rw [c12]; decide) (by rw [c12]; rfl) (by decide) ?_
      obtain ⟨u, v, hu, hv, huv, hR⟩ := ok_meet hops σ τ (xs (nI i + 1).toNatClampNeg) (xs (nI i + 2).toNatClampNeg) (xs (nI i + 3).toNatClampNeg) (xs (nI i + 4).toNatClampNeg) hR
      refine lv_aload_n hx hb d_L_law_494 rfl (lv_at hl 1 rfl) ?_
      refine lv_aload_n hx hb d_L_law_495 rfl (lv_at hl 0 rfl) ?_
      refine lv_iload_n hx hb d_L_law_496 rfl (lv_at hl 3 rfl) ?_
      refine lv_iconst (v := 1) hx hb d_L_law_497 (by decide) ?_
      refine lv_iadd hx hb d_L_law_498 ?_
      refine va_sld hx hb hX hbl hbA hS x1 d_L_law_499 ?_
      refine lv_aload_n hx hb d_L_law_500 rfl (lv_at hl 0 rfl) ?_
      refine lv_iload_n hx hb d_L_law_501 rfl (lv_at hl 3 rfl) ?_
      refine lv_iconst (v := 2) hx hb d_L_law_502 (by decide) ?_
      refine lv_iadd hx hb d_L_law_503 ?_
      refine va_sld hx hb hX hbl hbA hS x2 d_L_law_504 ?_
      refine lv_aload_n hx hb d_L_law_505 rfl (lv_at hl 0 rfl) ?_
      refine lv_iload_n hx hb d_L_law_506 rfl (lv_at hl 3 rfl) ?_
      refine lv_iconst (v := 3) hx hb d_L_law_507 (by decide) ?_
      refine lv_iadd hx hb d_L_law_508 ?_
      refine va_sld hx hb hX hbl hbA hS x3 d_L_law_509 ?_
      refine lv_aload_n hx hb d_L_law_510 rfl (lv_at hl 0 rfl) ?_
      refine lv_iload_n hx hb d_L_law_511 rfl (lv_at hl 3 rfl) ?_
      refine lv_iconst (v := 4) hx hb d_L_law_512 (by decide) ?_
      refine lv_iadd hx hb d_L_law_513 ?_
      refine va_sld hx hb hX hbl hbA hS x4 d_L_law_514 ?_
      refine gcall_i (va_runV (As := [.int (xs (nI i + 1).toNatClampNeg), .int (xs (nI i + 2).toNatClampNeg), .int (xs (nI i + 3).toNatClampNeg), .int (xs (nI i + 4).toNatClampNeg)]) (rest := []) ⟨hx, hb, hml, hown, hts⟩ (c_E_meet l D cI cZ tL q (wM cI cZ r τ) FU σ (xs (nI i + 1).toNatClampNeg) (xs (nI i + 2).toNatClampNeg) (xs (nI i + 3).toNatClampNeg) (xs (nI i + 4).toNatClampNeg) u hu H.size) (cwV 4 hts (gVL (List.mem_of_getElem? (i := 532) (by decide +kernel)) w_369 w_370 w_1 w_371) rfl rfl rfl (by decide +kernel) ⟨(Nat.le_of_ble_eq_true rfl), (Nat.le_of_ble_eq_true rfl)⟩) (gpV (k := 0) (ci := 0) hA hK (hD σ τ) hE hP hS rfl rfl) rfl rfl hl.1 rfl (lv_room (Nat.le_of_ble_eq_true rfl)) d_L_law_515 ⟨(Nat.le_of_ble_eq_true rfl), (Nat.le_of_ble_eq_true rfl)⟩) hA (hD σ τ) hS (fun H locs hP hS => ?_)
      have hP := va_Pswap hP
      refine lv_aload_n hx hb d_L_law_518 rfl (lv_at hl 2 rfl) ?_
      refine lv_aload_n hx hb d_L_law_519 rfl (lv_at hl 0 rfl) ?_
      refine lv_iload_n hx hb d_L_law_520 rfl (lv_at hl 3 rfl) ?_
      refine lv_iconst (v := 1) hx hb d_L_law_521 (by decide) ?_
      refine lv_iadd hx hb d_L_law_522 ?_
      refine va_sld hx hb hX hbl hbA hS x1 d_L_law_523 ?_
      refine lv_aload_n hx hb d_L_law_524 rfl (lv_at hl 0 rfl) ?_
      refine lv_iload_n hx hb d_L_law_525 rfl (lv_at hl 3 rfl) ?_
      refine lv_iconst (v := 2) hx hb d_L_law_526 (by decide) ?_
      refine lv_iadd hx hb d_L_law_527 ?_
      refine va_sld hx hb hX hbl hbA hS x2 d_L_law_528 ?_
      refine lv_aload_n hx hb d_L_law_529 rfl (lv_at hl 0 rfl) ?_
      refine lv_iload_n hx hb d_L_law_530 rfl (lv_at hl 3 rfl) ?_
      refine lv_iconst (v := 3) hx hb d_L_law_531 (by decide) ?_
      refine lv_iadd hx hb d_L_law_532 ?_
      refine va_sld hx hb hX hbl hbA hS x3 d_L_law_533 ?_
      refine lv_aload_n hx hb d_L_law_534 rfl (lv_at hl 0 rfl) ?_
      refine lv_iload_n hx hb d_L_law_535 rfl (lv_at hl 3 rfl) ?_
      refine lv_iconst (v := 4) hx hb d_L_law_536 (by decide) ?_
      refine lv_iadd hx hb d_L_law_537 ?_
      refine va_sld hx hb hX hbl hbA hS x4 d_L_law_538 ?_
      refine gcall_i (va_runV (As := [.int (xs (nI i + 1).toNatClampNeg), .int (xs (nI i + 2).toNatClampNeg), .int (xs (nI i + 3).toNatClampNeg), .int (xs (nI i + 4).toNatClampNeg)]) (rest := [.int u.1]) ⟨hx, hb, hml, hown, hts⟩ (c_M_meet l D cI cZ tL r (wE cI cZ q u.2) FU τ (xs (nI i + 1).toNatClampNeg) (xs (nI i + 2).toNatClampNeg) (xs (nI i + 3).toNatClampNeg) (xs (nI i + 4).toNatClampNeg) v hv H.size) (cwV 4 hts (gVL (List.mem_of_getElem? (i := 891) (by decide +kernel)) w_642 w_643 w_6 w_644) rfl rfl rfl (by decide +kernel) ⟨(Nat.le_of_ble_eq_true rfl), (Nat.le_of_ble_eq_true rfl)⟩) (gpV (k := 0) (ci := 5) hA hK (va_Dswap (hD u.2 τ)) hE hP hS rfl rfl) rfl rfl hl.1 rfl (lv_room (Nat.le_of_ble_eq_true rfl)) d_L_law_539 ⟨(Nat.le_of_ble_eq_true rfl), (Nat.le_of_ble_eq_true rfl)⟩) hA (va_Dswap (hD u.2 τ)) hS (fun H locs hP hS => ?_)
      have hP := va_Pswap hP
      refine lv_icmp_eq (tgt := 679) hx hb d_L_law_542 (by decide) (fun c8 => ?_) (fun c8 => ?_)
      · exact hend u.2 v.2 H locs hR hP hS
      · exact absurd huv c8
    by_cases c13 : op = 13
    · refine lv_tableIn (tgt := 547) hx hb d_L_law_33 (by rw [c13]; decide) (by rw [c13]; decide) (by rw [c13]; rfl) (by decide) ?_
      obtain ⟨u, v, hu, hv, huv, hR⟩ := ok_reach hops σ τ (xs (nI i + 1).toNatClampNeg) (xs (nI i + 2).toNatClampNeg) hR
      refine lv_aload_n hx hb d_L_law_547 rfl (lv_at hl 1 rfl) ?_
      refine lv_aload_n hx hb d_L_law_548 rfl (lv_at hl 0 rfl) ?_
      refine lv_iload_n hx hb d_L_law_549 rfl (lv_at hl 3 rfl) ?_
      refine lv_iconst (v := 1) hx hb d_L_law_550 (by decide) ?_
      refine lv_iadd hx hb d_L_law_551 ?_
      refine va_sld hx hb hX hbl hbA hS x1 d_L_law_552 ?_
      refine lv_aload_n hx hb d_L_law_553 rfl (lv_at hl 0 rfl) ?_
      refine lv_iload_n hx hb d_L_law_554 rfl (lv_at hl 3 rfl) ?_
      refine lv_iconst (v := 2) hx hb d_L_law_555 (by decide) ?_
      refine lv_iadd hx hb d_L_law_556 ?_
      refine va_sld hx hb hX hbl hbA hS x2 d_L_law_557 ?_
      refine gcall_i (va_runV (As := [.int (xs (nI i + 1).toNatClampNeg), .int (xs (nI i + 2).toNatClampNeg)]) (rest := []) ⟨hx, hb, hml, hown, hts⟩ (c_E_reach l D cI cZ tL q (wM cI cZ r τ) FU σ (xs (nI i + 1).toNatClampNeg) (xs (nI i + 2).toNatClampNeg) u hu H.size) (cwV 2 hts (gVL (List.mem_of_getElem? (i := 536) (by decide +kernel)) w_372 w_373 w_1 w_374) rfl rfl rfl (by decide +kernel) ⟨(Nat.le_of_ble_eq_true rfl), (Nat.le_of_ble_eq_true rfl)⟩) (gpV (k := 0) (ci := 0) hA hK (hD σ τ) hE hP hS rfl rfl) rfl rfl hl.1 rfl (lv_room (Nat.le_of_ble_eq_true rfl)) d_L_law_558 ⟨(Nat.le_of_ble_eq_true rfl), (Nat.le_of_ble_eq_true rfl)⟩) hA (hD σ τ) hS (fun H locs hP hS => ?_)
      have hP := va_Pswap hP
      refine lv_aload_n hx hb d_L_law_561 rfl (lv_at hl 2 rfl) ?_
      refine lv_aload_n hx hb d_L_law_562 rfl (lv_at hl 0 rfl) ?_
      refine lv_iload_n hx hb d_L_law_563 rfl (lv_at hl 3 rfl) ?_
      refine lv_iconst (v := 1) hx hb d_L_law_564 (by decide) ?_
      refine lv_iadd hx hb d_L_law_565 ?_
      refine va_sld hx hb hX hbl hbA hS x1 d_L_law_566 ?_
      refine lv_aload_n hx hb d_L_law_567 rfl (lv_at hl 0 rfl) ?_
      refine lv_iload_n hx hb d_L_law_568 rfl (lv_at hl 3 rfl) ?_
      refine lv_iconst (v := 2) hx hb d_L_law_569 (by decide) ?_
      refine lv_iadd hx hb d_L_law_570 ?_
      refine va_sld hx hb hX hbl hbA hS x2 d_L_law_571 ?_
      refine gcall_i (va_runV (As := [.int (xs (nI i + 1).toNatClampNeg), .int (xs (nI i + 2).toNatClampNeg)]) (rest := [.int u.1]) ⟨hx, hb, hml, hown, hts⟩ (c_M_reach l D cI cZ tL r (wE cI cZ q u.2) FU τ (xs (nI i + 1).toNatClampNeg) (xs (nI i + 2).toNatClampNeg) v hv H.size) (cwV 2 hts (gVL (List.mem_of_getElem? (i := 895) (by decide +kernel)) w_645 w_646 w_6 w_647) rfl rfl rfl (by decide +kernel) ⟨(Nat.le_of_ble_eq_true rfl), (Nat.le_of_ble_eq_true rfl)⟩) (gpV (k := 0) (ci := 5) hA hK (va_Dswap (hD u.2 τ)) hE hP hS rfl rfl) rfl rfl hl.1 rfl (lv_room (Nat.le_of_ble_eq_true rfl)) d_L_law_572 ⟨(Nat.le_of_ble_eq_true rfl), (Nat.le_of_ble_eq_true rfl)⟩) hA (va_Dswap (hD u.2 τ)) hS (fun H locs hP hS => ?_)
      have hP := va_Pswap hP
      refine lv_icmp_eq (tgt := 679) hx hb d_L_law_575 (by decide) (fun c8 => ?_) (fun c8 => ?_)
      · exact hend u.2 v.2 H locs hR hP hS
      · exact absurd huv c8
    by_cases c14 : op = 14
    · refine lv_tableIn (tgt := 580) hx hb d_L_law_33 (by rw [c14]; decide) (by rw [c14]; decide) (by rw [c14]; rfl) (by decide) ?_
      obtain ⟨u, v, hu, hv, huv, hR⟩ := ok_parameter hops σ τ (xs (nI i + 1).toNatClampNeg) (xs (nI i + 2).toNatClampNeg) (xs (nI i + 3).toNatClampNeg) hR
      refine lv_aload_n hx hb d_L_law_580 rfl (lv_at hl 1 rfl) ?_
      refine lv_aload_n hx hb d_L_law_581 rfl (lv_at hl 0 rfl) ?_
      refine lv_iload_n hx hb d_L_law_582 rfl (lv_at hl 3 rfl) ?_
      refine lv_iconst (v := 1) hx hb d_L_law_583 (by decide) ?_
      refine lv_iadd hx hb d_L_law_584 ?_
      refine va_sld hx hb hX hbl hbA hS x1 d_L_law_585 ?_
      refine lv_aload_n hx hb d_L_law_586 rfl (lv_at hl 0 rfl) ?_
      refine lv_iload_n hx hb d_L_law_587 rfl (lv_at hl 3 rfl) ?_
      refine lv_iconst (v := 2) hx hb d_L_law_588 (by decide) ?_
      refine lv_iadd hx hb d_L_law_589 ?_
      refine va_sld hx hb hX hbl hbA hS x2 d_L_law_590 ?_
      refine lv_aload_n hx hb d_L_law_591 rfl (lv_at hl 0 rfl) ?_
      refine lv_iload_n hx hb d_L_law_592 rfl (lv_at hl 3 rfl) ?_
      refine lv_iconst (v := 3) hx hb d_L_law_593 (by decide) ?_
      refine lv_iadd hx hb d_L_law_594 ?_
      refine va_sld hx hb hX hbl hbA hS x3 d_L_law_595 ?_
      refine gcall_i (va_runV (As := [.int (xs (nI i + 1).toNatClampNeg), .int (xs (nI i + 2).toNatClampNeg), .int (xs (nI i + 3).toNatClampNeg)]) (rest := []) ⟨hx, hb, hml, hown, hts⟩ (c_E_parameter l D cI cZ tL q (wM cI cZ r τ) FU σ (xs (nI i + 1).toNatClampNeg) (xs (nI i + 2).toNatClampNeg) (xs (nI i + 3).toNatClampNeg) u hu H.size) (cwV 3 hts (gVL (List.mem_of_getElem? (i := 541) (by decide +kernel)) w_376 w_377 w_1 w_378) rfl rfl rfl (by decide +kernel) ⟨(Nat.le_of_ble_eq_true rfl), (Nat.le_of_ble_eq_true rfl)⟩) (gpV (k := 0) (ci := 0) hA hK (hD σ τ) hE hP hS rfl rfl) rfl rfl hl.1 rfl (lv_room (Nat.le_of_ble_eq_true rfl)) d_L_law_596 ⟨(Nat.le_of_ble_eq_true rfl), (Nat.le_of_ble_eq_true rfl)⟩) hA (hD σ τ) hS (fun H locs hP hS => ?_)
      have hP := va_Pswap hP
      refine lv_aload_n hx hb d_L_law_599 rfl (lv_at hl 2 rfl) ?_
      refine lv_aload_n hx hb d_L_law_600 rfl (lv_at hl 0 rfl) ?_
      refine lv_iload_n hx hb d_L_law_601 rfl (lv_at hl 3 rfl) ?_
      refine lv_iconst (v := 1) hx hb d_L_law_602 (by decide) ?_
      refine lv_iadd hx hb d_L_law_603 ?_
      refine va_sld hx hb hX hbl hbA hS x1 d_L_law_604 ?_
      refine lv_aload_n hx hb d_L_law_605 rfl (lv_at hl 0 rfl) ?_
      refine lv_iload_n hx hb d_L_law_606 rfl (lv_at hl 3 rfl) ?_
      refine lv_iconst (v := 2) hx hb d_L_law_607 (by decide) ?_
      refine lv_iadd hx hb d_L_law_608 ?_
      refine va_sld hx hb hX hbl hbA hS x2 d_L_law_609 ?_
      refine lv_aload_n hx hb d_L_law_610 rfl (lv_at hl 0 rfl) ?_
      refine lv_iload_n hx hb d_L_law_611 rfl (lv_at hl 3 rfl) ?_
      refine lv_iconst (v := 3) hx hb d_L_law_612 (by decide) ?_
      refine lv_iadd hx hb d_L_law_613 ?_
      refine va_sld hx hb hX hbl hbA hS x3 d_L_law_614 ?_
      refine gcall_i (va_runV (As := [.int (xs (nI i + 1).toNatClampNeg), .int (xs (nI i + 2).toNatClampNeg), .int (xs (nI i + 3).toNatClampNeg)]) (rest := [.int u.1]) ⟨hx, hb, hml, hown, hts⟩ (c_M_parameter l D cI cZ tL r (wE cI cZ q u.2) FU τ (xs (nI i + 1).toNatClampNeg) (xs (nI i + 2).toNatClampNeg) (xs (nI i + 3).toNatClampNeg) v hv H.size) (cwV 3 hts (gVL (List.mem_of_getElem? (i := 899) (by decide +kernel)) w_648 w_649 w_6 w_650) rfl rfl rfl (by decide +kernel) ⟨(Nat.le_of_ble_eq_true rfl), (Nat.le_of_ble_eq_true rfl)⟩) (gpV (k := 0) (ci := 5) hA hK (va_Dswap (hD u.2 τ)) hE hP hS rfl rfl) rfl rfl hl.1 rfl (lv_room (Nat.le_of_ble_eq_true rfl)) d_L_law_615 ⟨(Nat.le_of_ble_eq_true rfl), (Nat.le_of_ble_eq_true rfl)⟩) hA (va_Dswap (hD u.2 τ)) hS (fun H locs hP hS => ?_)
      have hP := va_Pswap hP
      refine lv_icmp_eq (tgt := 679) hx hb d_L_law_618 (by decide) (fun c8 => ?_) (fun c8 => ?_)
      · exact hend u.2 v.2 H locs hR hP hS
      · exact absurd huv c8
    by_cases c15 : op = 15
    · refine lv_tableIn (tgt := 623) hx hb d_L_law_33 (by rw [c15]; decide) (by rw [c15]; decide) (by rw [c15]; rfl) (by decide) ?_
      obtain ⟨u, v, hu, hv, huv, hR⟩ := ok_idle hops σ τ (xs (nI i + 1).toNatClampNeg) hR
      refine lv_aload_n hx hb d_L_law_623 rfl (lv_at hl 1 rfl) ?_
      refine lv_aload_n hx hb d_L_law_624 rfl (lv_at hl 0 rfl) ?_
      refine lv_iload_n hx hb d_L_law_625 rfl (lv_at hl 3 rfl) ?_
      refine lv_iconst (v := 1) hx hb d_L_law_626 (by decide) ?_
      refine lv_iadd hx hb d_L_law_627 ?_
      refine va_sld hx hb hX hbl hbA hS x1 d_L_law_628 ?_
      refine gcall_i (va_runV (As := [.int (xs (nI i + 1).toNatClampNeg)]) (rest := []) ⟨hx, hb, hml, hown, hts⟩ (c_E_idle l D cI cZ tL q (wM cI cZ r τ) FU σ (xs (nI i + 1).toNatClampNeg) u hu H.size) (cwV 1 hts (gVL (List.mem_of_getElem? (i := 600) (by decide +kernel)) w_423 w_424 w_1 w_425) rfl rfl rfl (by decide +kernel) ⟨(Nat.le_of_ble_eq_true rfl), (Nat.le_of_ble_eq_true rfl)⟩) (gpV (k := 0) (ci := 0) hA hK (hD σ τ) hE hP hS rfl rfl) rfl rfl hl.1 rfl (lv_room (Nat.le_of_ble_eq_true rfl)) d_L_law_629 ⟨(Nat.le_of_ble_eq_true rfl), (Nat.le_of_ble_eq_true rfl)⟩) hA (hD σ τ) hS (fun H locs hP hS => ?_)
      have hP := va_Pswap hP
      refine lv_aload_n hx hb d_L_law_632 rfl (lv_at hl 2 rfl) ?_
      refine lv_aload_n hx hb d_L_law_633 rfl (lv_at hl 0 rfl) ?_
      refine lv_iload_n hx hb d_L_law_634 rfl (lv_at hl 3 rfl) ?_
      refine lv_iconst (v := 1) hx hb d_L_law_635 (by decide) ?_
      refine lv_iadd hx hb d_L_law_636 ?_
      refine va_sld hx hb hX hbl hbA hS x1 d_L_law_637 ?_
      refine gcall_i (va_runV (As := [.int (xs (nI i + 1).toNatClampNeg)]) (rest := [.int u.1]) ⟨hx, hb, hml, hown, hts⟩ (c_M_idle l D cI cZ tL r (wE cI cZ q u.2) FU τ (xs (nI i + 1).toNatClampNeg) v hv H.size) (cwV 1 hts (gVL (List.mem_of_getElem? (i := 835) (by decide +kernel)) w_600 w_601 w_6 w_602) rfl rfl rfl (by decide +kernel) ⟨(Nat.le_of_ble_eq_true rfl), (Nat.le_of_ble_eq_true rfl)⟩) (gpV (k := 0) (ci := 5) hA hK (va_Dswap (hD u.2 τ)) hE hP hS rfl rfl) rfl rfl hl.1 rfl (lv_room (Nat.le_of_ble_eq_true rfl)) d_L_law_638 ⟨(Nat.le_of_ble_eq_true rfl), (Nat.le_of_ble_eq_true rfl)⟩) hA (va_Dswap (hD u.2 τ)) hS (fun H locs hP hS => ?_)
      have hP := va_Pswap hP
      refine lv_icmp_eq (tgt := 679) hx hb d_L_law_641 (by decide) (fun c8 => ?_) (fun c8 => ?_)
      · exact hend u.2 v.2 H locs hR hP hS
      · exact absurd huv c8
    by_cases c16 : op = 16
    · refine lv_tableIn (tgt := 646) hx hb d_L_law_33 (by rw [c16]; decide) (by rw [c16]; decide) (by rw [c16]; rfl) (by decide) ?_
      obtain ⟨u, v, hu, hv, huv, hR⟩ := ok_calls hops σ τ (xs (nI i + 1).toNatClampNeg) (xs (nI i + 2).toNatClampNeg) hR
      refine lv_aload_n hx hb d_L_law_646 rfl (lv_at hl 1 rfl) ?_
      refine lv_aload_n hx hb d_L_law_647 rfl (lv_at hl 0 rfl) ?_
      refine lv_iload_n hx hb d_L_law_648 rfl (lv_at hl 3 rfl) ?_
      refine lv_iconst (v := 1) hx hb d_L_law_649 (by decide) ?_
      refine lv_iadd hx hb d_L_law_650 ?_
      refine va_sld hx hb hX hbl hbA hS x1 d_L_law_651 ?_
      refine lv_aload_n hx hb d_L_law_652 rfl (lv_at hl 0 rfl) ?_
      refine lv_iload_n hx hb d_L_law_653 rfl (lv_at hl 3 rfl) ?_
      refine lv_iconst (v := 2) hx hb d_L_law_654 (by decide) ?_
      refine lv_iadd hx hb d_L_law_655 ?_
      refine va_sld hx hb hX hbl hbA hS x2 d_L_law_656 ?_
      refine gcall_i (va_runV (As := [.int (xs (nI i + 1).toNatClampNeg), .int (xs (nI i + 2).toNatClampNeg)]) (rest := []) ⟨hx, hb, hml, hown, hts⟩ (c_E_calls l D cI cZ tL q (wM cI cZ r τ) FU σ (xs (nI i + 1).toNatClampNeg) (xs (nI i + 2).toNatClampNeg) u hu H.size) (cwV 2 hts (gVL (List.mem_of_getElem? (i := 605) (by decide +kernel)) w_427 w_428 w_1 w_429) rfl rfl rfl (by decide +kernel) ⟨(Nat.le_of_ble_eq_true rfl), (Nat.le_of_ble_eq_true rfl)⟩) (gpV (k := 0) (ci := 0) hA hK (hD σ τ) hE hP hS rfl rfl) rfl rfl hl.1 rfl (lv_room (Nat.le_of_ble_eq_true rfl)) d_L_law_657 ⟨(Nat.le_of_ble_eq_true rfl), (Nat.le_of_ble_eq_true rfl)⟩) hA (hD σ τ) hS (fun H locs hP hS => ?_)
      have hP := va_Pswap hP
      refine lv_aload_n hx hb d_L_law_660 rfl (lv_at hl 2 rfl) ?_
      refine lv_aload_n hx hb d_L_law_661 rfl (lv_at hl 0 rfl) ?_
      refine lv_iload_n hx hb d_L_law_662 rfl (lv_at hl 3 rfl) ?_
      refine lv_iconst (v := 1) hx hb d_L_law_663 (by decide) ?_
      refine lv_iadd hx hb d_L_law_664 ?_
      refine va_sld hx hb hX hbl hbA hS x1 d_L_law_665 ?_
      refine lv_aload_n hx hb d_L_law_666 rfl (lv_at hl 0 rfl) ?_
      refine lv_iload_n hx hb d_L_law_667 rfl (lv_at hl 3 rfl) ?_
      refine lv_iconst (v := 2) hx hb d_L_law_668 (by decide) ?_
      refine lv_iadd hx hb d_L_law_669 ?_
      refine va_sld hx hb hX hbl hbA hS x2 d_L_law_670 ?_
      refine gcall_i (va_runV (As := [.int (xs (nI i + 1).toNatClampNeg), .int (xs (nI i + 2).toNatClampNeg)]) (rest := [.int u.1]) ⟨hx, hb, hml, hown, hts⟩ (c_M_calls l D cI cZ tL r (wE cI cZ q u.2) FU τ (xs (nI i + 1).toNatClampNeg) (xs (nI i + 2).toNatClampNeg) v hv H.size) (cwV 2 hts (gVL (List.mem_of_getElem? (i := 720) (by decide +kernel)) w_513 w_514 w_6 w_515) rfl rfl rfl (by decide +kernel) ⟨(Nat.le_of_ble_eq_true rfl), (Nat.le_of_ble_eq_true rfl)⟩) (gpV (k := 0) (ci := 5) hA hK (va_Dswap (hD u.2 τ)) hE hP hS rfl rfl) rfl rfl hl.1 rfl (lv_room (Nat.le_of_ble_eq_true rfl)) d_L_law_671 ⟨(Nat.le_of_ble_eq_true rfl), (Nat.le_of_ble_eq_true rfl)⟩) hA (va_Dswap (hD u.2 τ)) hS (fun H locs hP hS => ?_)
      have hP := va_Pswap hP
      refine lv_icmp_eq (tgt := 679) hx hb d_L_law_674 (by decide) (fun c8 => ?_) (fun c8 => ?_)
      · exact hend u.2 v.2 H locs hR hP hS
      · exact absurd huv c8
    refine lv_tableOut (tgt := 679) hx hb d_L_law_33 (by have e0 := lv_neT (a := 0) c0 (by decide); have e1 := lv_neT (a := 1) c1 (by decide); have e2 := lv_neT (a := 2) c2 (by decide); have e3 := lv_neT (a := 3) c3 (by decide); have e4 := lv_neT (a := 4) c4 (by decide); have e5 := lv_neT (a := 5) c5 (by decide); have e6 := lv_neT (a := 6) c6 (by decide); have e7 := lv_neT (a := 7) c7 (by decide); have e8 := lv_neT (a := 8) c8 (by decide); have e9 := lv_neT (a := 9) c9 (by decide); have e10 := lv_neT (a := 10) c10 (by decide); have e11 := lv_neT (a := 11) c11 (by decide); have e12 := lv_neT (a := 12) c12 (by decide); have e13 := lv_neT (a := 13) c13 (by decide); have e14 := lv_neT (a := 14) c14 (by decide); have e15 := lv_neT (a := 15) c15 (by decide); have e16 := lv_neT (a := 16) c16 (by decide); omega) (by decide) ?_
    exact hend σ τ H locs hR hP hS
