theorem td0 : Cond.methodLink RX2 3 objectInit ∈ fy_tb := fy_inR (i := 37) (by decide +kernel) rfl
theorem td1 : Cond.instanceMethod objectInit ∈ fy_tb := fy_inR (i := 23) (by decide +kernel) rfl
theorem td2 : Cond.code objectInit ⟨#[0xb1]⟩ 1 none ∈ fy_tb := fy_inR (i := 24) (by decide +kernel) rfl
theorem td3 : Cond.arrayClass .byte ∈ fy_tb := fy_inR (i := 59) (by decide +kernel) rfl
theorem td4 : Cond.fieldLink RX2 9 RX2 "nodes" "[B" ∈ fy_tb := fy_inR (i := 42) (by decide +kernel) rfl
theorem td5 : Cond.methodLink RX2 15 yX2_becomeFalse ∈ fy_tb := fy_inR (i := 38) (by decide +kernel) rfl
theorem td6 : Cond.instanceMethod yX2_becomeFalse ∈ fy_tb := fy_inR (i := 39) (by decide +kernel) rfl
theorem td7 : Cond.selects RX2 yX2_becomeFalse yX2_becomeFalse ∈ fy_tb := fy_inR (i := 40) (by decide +kernel) rfl
theorem td8 : Cond.initialized RX2 ∈ fy_tb := fy_inR (i := 3) (by decide +kernel) rfl
theorem td9 : Cond.code yX2_becomeFalse cX2_becomeFalse 1 none ∈ fy_tb := fy_inR (i := 41) (by decide +kernel) rfl
theorem td10 : Cond.methodLink RX6 3 objectInit ∈ fy_tb := fy_inR (i := 252) (by decide +kernel) rfl
theorem td11 : Cond.arrayClass .short ∈ fy_tb := fy_inR (i := 272) (by decide +kernel) rfl
theorem td12 : Cond.fieldLink RX6 9 RX6 "order" "[S" ∈ fy_tb := fy_inR (i := 256) (by decide +kernel) rfl
theorem td13 : Cond.fieldLink RX6 15 RX6 "distances" "[S" ∈ fy_tb := fy_inR (i := 257) (by decide +kernel) rfl
theorem td14 : Cond.arrayClass .boolean ∈ fy_tb := fy_inR (i := 273) (by decide +kernel) rfl
theorem td15 : Cond.fieldLink RX6 18 RX6 "leads" "[Z" ∈ fy_tb := fy_inR (i := 258) (by decide +kernel) rfl
theorem td16 : Cond.fieldLink RX6 22 RX6 "count" "I" ∈ fy_tb := fy_inR (i := 259) (by decide +kernel) rfl
theorem td17 : Cond.fieldLink RX6 26 RX6 "firstDifference" "I" ∈ fy_tb := fy_inR (i := 260) (by decide +kernel) rfl
theorem td18 : Cond.methodLink RX6 29 yJ7_fill_fb410 ∈ fy_tb := fy_inR (i := 253) (by decide +kernel) rfl
theorem td19 : Cond.static yJ7_fill_fb410 ∈ fy_tb := fy_inR (i := 254) (by decide +kernel) rfl
theorem td20 : Cond.initialized RJ7 ∈ fy_tb := fy_inR (i := 4) (by decide +kernel) rfl
theorem td21 : Cond.code yJ7_fill_fb410 cJ7_fill_fb410 4 none ∈ fy_tb := fy_inR (i := 255) (by decide +kernel) rfl
set_option maxHeartbeats 4000000 in
set_option maxRecDepth 100000 in
theorem cc_X2 (l : Launch) (D : va_G) (T : Nat → ClassId) (a0 sz : Nat) : fz_M l yX2_init cX2_init 1 (fz_rm 1 1 40) D T X_lay X_S0 [] a0 sz 2 [.null, .int 0, .long 0] [41, 42] 41 1 40 := by
  refine fz_entry (by decide +kernel) rfl (Nat.le_of_ble_eq_true rfl) ?_
  intro p e s m args below meth c ls hx hb hr hts hown hlk hml hin hK hN hO hP hD hS hl
  have hA : ∀ q : Nat, s.heap.size ≤ q → fz_A a0 s.heap.size q := fun q h => Or.inr h
  refine lv_aload_n hx hb dX2_init_0 rfl (lv_at hl 0 rfl) ?_
  refine W.objInit hx hb hown (hts _ td0) (hts _ td1) (hts _ td2) rfl (by rw [hml]; exact hl.1) rfl dX2_init_1 (Nat.le_of_ble_eq_true rfl) (Nat.le_of_ble_eq_true rfl) ?_
  refine W.eq (g2 := F0 m 4 ls []) rfl ?_
  refine lv_aload_n hx hb dX2_init_4 rfl (lv_at hl 0 rfl) ?_
  refine lv_bipush (v := (40 : Int32)) hx hb dX2_init_5 (by decide) ?_
  refine fz_newa (atype := .byte) (ty := .byte) (t := 1) (N' := 40) (x0 := (40, .inl (fun _ => 0))) hx hb hts td3 rfl (fun C h => by cases h) hK rfl hP hD hS hA (fun _ => rfl) (by decide) (by decide) (Nat.le_of_ble_eq_true rfl) (Nat.le_of_ble_eq_true rfl) (Nat.le_of_ble_eq_true rfl) dX2_init_7 (fun q1 H hP hD hS => ?_)
  have hP : va_P D vwCl [(a0, .inr (2, [.null, .int 0, .long 0])), (q1, .inl (T 1, 40, .inl (fun _ => 0)))] H := hP
  have hD : va_D (fz_A a0 s.heap.size) [(a0, .inr (2, [.null, .int 0, .long 0])), (q1, .inl (T 1, 40, .inl (fun _ => 0)))] := hD
  refine va_putF (D := D) (ci := 2) (v := .ref q1) (ty := .array .byte) (C := RX2) (T := TX2) (N := 3) hx hb hts ti_X2 tyX2 tyX2_ok nmX2 hown hK hP hD hS 0 rfl rfl 0 (by decide) (hts _ td4) (fun _ h9 => h9) rfl hin rfl rfl rfl rfl (Nat.le_of_ble_eq_true rfl) dX2_init_9 (fun H locs hP hD hS => ?_)
  have hP : va_P D vwCl [(a0, .inr (2, [.ref q1, .int 0, .long 0])), (q1, .inl (T 1, 40, .inl (fun _ => 0)))] H := hP
  have hD : va_D (fz_A a0 s.heap.size) [(a0, .inr (2, [.ref q1, .int 0, .long 0])), (q1, .inl (T 1, 40, .inl (fun _ => 0)))] := hD
  refine lv_aload_n hx hb dX2_init_12 rfl (lv_at hl 0 rfl) ?_
  let g : fy_G := (D, T, (fun id => if id = 42 then q1 else a0), none)
  let y : fy_Y := (X_lay, [41, 42])
  have hcl : X_clo y := ⟨rfl, by decide +kernel, by decide +kernel, by decide +kernel, by decide +kernel, by decide +kernel, by decide +kernel, by decide +kernel⟩
  have hD : va_D (fz_A a0 s.heap.size) (fy_ls [41, 42] g.2.2.1 (fy_c T g.2.2.1 X_lay fz_Z)) := hD
  have hDy : fy_D g y := ⟨by decide, fz_inj hD⟩
  have hPy : fy_P g y fz_Z H := hP
  have hE : fy_E g y s H := fun t h => by cases h
  have hsub : ∀ q, fy_A g y q → fz_A a0 s.heap.size q := fun q h => by obtain ⟨i, hi, rfl⟩ := h; exact fz_inA hD i hi
  refine fz_calV (g := g) (y := y) hS hsub (fz_runV (id := 41) (As := []) (rest := []) hx hb hml hown hts hK hDy hE hN hPy (c_X2_becomeFalse l g hcl ⟨by decide, by decide⟩ fz_F1) (X_o2 hcl ⟨by decide, by decide⟩) ⟨td5, td6, td7, td8, td9, (by decide +kernel), (by decide +kernel), (by decide +kernel)⟩ rfl ⟨Nat.le_of_ble_eq_true rfl, Nat.le_of_ble_eq_true rfl⟩ rfl hl.1 rfl (Nat.le_of_ble_eq_true rfl) ⟨Nat.le_of_ble_eq_true rfl, Nat.le_of_ble_eq_true rfl⟩ dX2_init_13) (fun H locs hP _ hS => ?_)
  have hP : va_P D vwCl (fy_ls [41, 42] g.2.2.1 (fy_c T g.2.2.1 X_lay fz_S2)) H := hP
  exact fz_ret (ad := g.2.2.1) hx hb hr hlk (fy_ls_congr (fun id hid => ⟨rfl, fy_c_eq (fz_F2 id hid).1 (fz_F2 id hid).2⟩)) (by decide) hP (fz_D2 (by decide) hD) hS (by decide) rfl dX2_init_16
set_option maxHeartbeats 4000000 in
set_option maxRecDepth 100000 in
theorem cc_X6 (l : Launch) (D : va_G) (T : Nat → ClassId) (a0 sz : Nat) : fz_M l yX6_init cX6_init 1 (fz_rm 1 3 12288) D T X_lay X_S0 [] a0 sz 6 [.null, .null, .null, .int 0, .int 0] [34, 35, 36, 37] 34 3 12288 := by
  refine fz_entry (by decide +kernel) rfl (Nat.le_of_ble_eq_true rfl) ?_
  intro p e s m args below meth c ls hx hb hr hts hown hlk hml hin hK hN hO hP hD hS hl
  have hA : ∀ q : Nat, s.heap.size ≤ q → fz_A a0 s.heap.size q := fun q h => Or.inr h
  refine lv_aload_n hx hb dX6_init_0 rfl (lv_at hl 0 rfl) ?_
  refine W.objInit hx hb hown (hts _ td10) (hts _ td1) (hts _ td2) rfl (by rw [hml]; exact hl.1) rfl dX6_init_1 (Nat.le_of_ble_eq_true rfl) (Nat.le_of_ble_eq_true rfl) ?_
  refine W.eq (g2 := F0 m 4 ls []) rfl ?_
  refine lv_aload_n hx hb dX6_init_4 rfl (lv_at hl 0 rfl) ?_
  refine lv_sipush (v := (4096 : Int32)) hx hb dX6_init_5 (by decide) ?_
  refine fz_newa (atype := .short) (ty := .short) (t := 3) (N' := 4096) (x0 := (4096, .inl (fun _ => 0))) hx hb hts td11 rfl (fun C h => by cases h) hK rfl hP hD hS hA (fun _ => rfl) (by decide) (by decide) (Nat.le_of_ble_eq_true rfl) (Nat.le_of_ble_eq_true rfl) (Nat.le_of_ble_eq_true rfl) dX6_init_8 (fun q1 H hP hD hS => ?_)
  have hP : va_P D vwCl [(a0, .inr (6, [.null, .null, .null, .int 0, .int 0])), (q1, .inl (T 3, 4096, .inl (fun _ => 0)))] H := hP
  have hD : va_D (fz_A a0 s.heap.size) [(a0, .inr (6, [.null, .null, .null, .int 0, .int 0])), (q1, .inl (T 3, 4096, .inl (fun _ => 0)))] := hD
  refine va_putF (D := D) (ci := 6) (v := .ref q1) (ty := .array .short) (C := RX6) (T := TX6) (N := 5) hx hb hts ti_X6 tyX6 tyX6_ok nmX6 hown hK hP hD hS 0 rfl rfl 0 (by decide) (hts _ td12) (fun _ h9 => h9) rfl hin rfl rfl rfl rfl (Nat.le_of_ble_eq_true rfl) dX6_init_10 (fun H locs hP hD hS => ?_)
  have hP : va_P D vwCl [(a0, .inr (6, [.ref q1, .null, .null, .int 0, .int 0])), (q1, .inl (T 3, 4096, .inl (fun _ => 0)))] H := hP
  have hD : va_D (fz_A a0 s.heap.size) [(a0, .inr (6, [.ref q1, .null, .null, .int 0, .int 0])), (q1, .inl (T 3, 4096, .inl (fun _ => 0)))] := hD
  refine lv_aload_n hx hb dX6_init_13 rfl (lv_at hl 0 rfl) ?_
  refine lv_sipush (v := (4096 : Int32)) hx hb dX6_init_14 (by decide) ?_
  refine fz_newa (atype := .short) (ty := .short) (t := 3) (N' := 4096) (x0 := (4096, .inl (fun _ => 0))) hx hb hts td11 rfl (fun C h => by cases h) hK rfl hP hD hS hA (fun _ => rfl) (by decide) (by decide) (Nat.le_of_ble_eq_true rfl) (Nat.le_of_ble_eq_true rfl) (Nat.le_of_ble_eq_true rfl) dX6_init_17 (fun q2 H hP hD hS => ?_)
  have hP : va_P D vwCl [(a0, .inr (6, [.ref q1, .null, .null, .int 0, .int 0])), (q1, .inl (T 3, 4096, .inl (fun _ => 0))), (q2, .inl (T 3, 4096, .inl (fun _ => 0)))] H := hP
  have hD : va_D (fz_A a0 s.heap.size) [(a0, .inr (6, [.ref q1, .null, .null, .int 0, .int 0])), (q1, .inl (T 3, 4096, .inl (fun _ => 0))), (q2, .inl (T 3, 4096, .inl (fun _ => 0)))] := hD
  refine va_putF (D := D) (ci := 6) (v := .ref q2) (ty := .array .short) (C := RX6) (T := TX6) (N := 5) hx hb hts ti_X6 tyX6 tyX6_ok nmX6 hown hK hP hD hS 0 rfl rfl 1 (by decide) (hts _ td13) (fun _ h9 => h9) rfl hin rfl rfl rfl rfl (Nat.le_of_ble_eq_true rfl) dX6_init_19 (fun H locs hP hD hS => ?_)
  have hP : va_P D vwCl [(a0, .inr (6, [.ref q1, .ref q2, .null, .int 0, .int 0])), (q1, .inl (T 3, 4096, .inl (fun _ => 0))), (q2, .inl (T 3, 4096, .inl (fun _ => 0)))] H := hP
  have hD : va_D (fz_A a0 s.heap.size) [(a0, .inr (6, [.ref q1, .ref q2, .null, .int 0, .int 0])), (q1, .inl (T 3, 4096, .inl (fun _ => 0))), (q2, .inl (T 3, 4096, .inl (fun _ => 0)))] := hD
  refine lv_aload_n hx hb dX6_init_22 rfl (lv_at hl 0 rfl) ?_
  refine lv_sipush (v := (4096 : Int32)) hx hb dX6_init_23 (by decide) ?_
  refine fz_newa (atype := .boolean) (ty := .boolean) (t := 4) (N' := 4096) (x0 := (4096, .inl (fun _ => 0))) hx hb hts td14 rfl (fun C h => by cases h) hK rfl hP hD hS hA (fun _ => rfl) (by decide) (by decide) (Nat.le_of_ble_eq_true rfl) (Nat.le_of_ble_eq_true rfl) (Nat.le_of_ble_eq_true rfl) dX6_init_26 (fun q3 H hP hD hS => ?_)
  have hP : va_P D vwCl [(a0, .inr (6, [.ref q1, .ref q2, .null, .int 0, .int 0])), (q1, .inl (T 3, 4096, .inl (fun _ => 0))), (q2, .inl (T 3, 4096, .inl (fun _ => 0))), (q3, .inl (T 4, 4096, .inl (fun _ => 0)))] H := hP
  have hD : va_D (fz_A a0 s.heap.size) [(a0, .inr (6, [.ref q1, .ref q2, .null, .int 0, .int 0])), (q1, .inl (T 3, 4096, .inl (fun _ => 0))), (q2, .inl (T 3, 4096, .inl (fun _ => 0))), (q3, .inl (T 4, 4096, .inl (fun _ => 0)))] := hD
  refine va_putF (D := D) (ci := 6) (v := .ref q3) (ty := .array .boolean) (C := RX6) (T := TX6) (N := 5) hx hb hts ti_X6 tyX6 tyX6_ok nmX6 hown hK hP hD hS 0 rfl rfl 2 (by decide) (hts _ td15) (fun _ h9 => h9) rfl hin rfl rfl rfl rfl (Nat.le_of_ble_eq_true rfl) dX6_init_28 (fun H locs hP hD hS => ?_)
  have hP : va_P D vwCl [(a0, .inr (6, [.ref q1, .ref q2, .ref q3, .int 0, .int 0])), (q1, .inl (T 3, 4096, .inl (fun _ => 0))), (q2, .inl (T 3, 4096, .inl (fun _ => 0))), (q3, .inl (T 4, 4096, .inl (fun _ => 0)))] H := hP
  have hD : va_D (fz_A a0 s.heap.size) [(a0, .inr (6, [.ref q1, .ref q2, .ref q3, .int 0, .int 0])), (q1, .inl (T 3, 4096, .inl (fun _ => 0))), (q2, .inl (T 3, 4096, .inl (fun _ => 0))), (q3, .inl (T 4, 4096, .inl (fun _ => 0)))] := hD
  refine lv_aload_n hx hb dX6_init_31 rfl (lv_at hl 0 rfl) ?_
  refine lv_iconst (v := (0 : Int32)) hx hb dX6_init_32 (by decide) ?_
  refine va_put (D := D) (ci := 6) (v := .int (0 : Int32)) (ty := .int) (C := RX6) (T := TX6) (N := 5) hx hb hts ti_X6 tyX6 tyX6_ok nmX6 hown hK hP hD hS 0 rfl rfl 3 (by decide) (hts _ td16) (fun _ h9 => h9) rfl rfl (by decide +kernel) rfl (Nat.le_of_ble_eq_true rfl) dX6_init_33 (fun H locs hP hD hS => ?_)
  have hP : va_P D vwCl [(a0, .inr (6, [.ref q1, .ref q2, .ref q3, .int (0 : Int32), .int 0])), (q1, .inl (T 3, 4096, .inl (fun _ => 0))), (q2, .inl (T 3, 4096, .inl (fun _ => 0))), (q3, .inl (T 4, 4096, .inl (fun _ => 0)))] H := hP
  have hD : va_D (fz_A a0 s.heap.size) [(a0, .inr (6, [.ref q1, .ref q2, .ref q3, .int (0 : Int32), .int 0])), (q1, .inl (T 3, 4096, .inl (fun _ => 0))), (q2, .inl (T 3, 4096, .inl (fun _ => 0))), (q3, .inl (T 4, 4096, .inl (fun _ => 0)))] := hD
  refine lv_aload_n hx hb dX6_init_36 rfl (lv_at hl 0 rfl) ?_
  refine lv_iconst (v := (0 : Int32)) hx hb dX6_init_37 (by decide) ?_
  refine va_put (D := D) (ci := 6) (v := .int (0 : Int32)) (ty := .int) (C := RX6) (T := TX6) (N := 5) hx hb hts ti_X6 tyX6 tyX6_ok nmX6 hown hK hP hD hS 0 rfl rfl 4 (by decide) (hts _ td17) (fun _ h9 => h9) rfl rfl (by decide +kernel) rfl (Nat.le_of_ble_eq_true rfl) dX6_init_38 (fun H locs hP hD hS => ?_)
  have hP : va_P D vwCl [(a0, .inr (6, [.ref q1, .ref q2, .ref q3, .int (0 : Int32), .int (0 : Int32)])), (q1, .inl (T 3, 4096, .inl (fun _ => 0))), (q2, .inl (T 3, 4096, .inl (fun _ => 0))), (q3, .inl (T 4, 4096, .inl (fun _ => 0)))] H := hP
  have hD : va_D (fz_A a0 s.heap.size) [(a0, .inr (6, [.ref q1, .ref q2, .ref q3, .int (0 : Int32), .int (0 : Int32)])), (q1, .inl (T 3, 4096, .inl (fun _ => 0))), (q2, .inl (T 3, 4096, .inl (fun _ => 0))), (q3, .inl (T 4, 4096, .inl (fun _ => 0)))] := hD
  refine lv_aload_n hx hb dX6_init_41 rfl (lv_at hl 0 rfl) ?_
  refine va_get (D := D) (ci := 6) (v := .ref q2) (C := RX6) (T := TX6) (N := 5) hx hb hts ti_X6 hown hK hP 0 rfl rfl 1 (by decide) (hts _ td13) (fun _ h9 => h9) rfl dX6_init_42 ?_
  refine lv_iconst (v := (-1 : Int32)) hx hb dX6_init_45 (by decide) ?_
  let g : fy_G := (D, T, (fun _ => q2), none)
  let y : fy_Y := (X_lay, [36])
  have hcl : X_clo y := ⟨rfl, by decide +kernel, by decide +kernel, by decide +kernel, by decide +kernel, by decide +kernel, by decide +kernel, by decide +kernel⟩
  have hPc : va_P D vwCl [(q2, .inl (T 3, 4096, .inl (fun _ => 0)))] H := hP.sub [2] rfl
  have hPy : fy_P g y fz_Z H := hPc
  have hDy : fy_D g y := ⟨by decide, fun i j hi hj _ => by rw [List.mem_singleton.mp hi, List.mem_singleton.mp hj]⟩
  have hE : fy_E g y s H := fun t h => by cases h
  have hsub : ∀ q, fy_A g y q → fz_A a0 s.heap.size q := fun q h => by obtain ⟨i, hi, rfl⟩ := h; exact hD.2 2 _ rfl
  refine fz_calV (g := g) (y := y) hS hsub (fz_runS (np := 2) (As := [.ref q2, .int (-1 : Int32)]) (rest := []) hx hb hml hown hts hK hDy hE hN hPy (c_J7_fill_fb410 l g hcl (v0 := 36) ⟨by decide, rfl⟩ (fz_fillS_all (n := 4096) (by decide) (by decide))) ⟨td18, td19, td20, td21, (by decide +kernel), (by decide +kernel), (by decide +kernel)⟩ ⟨Nat.le_of_ble_eq_true rfl, Nat.le_of_ble_eq_true rfl⟩ rfl hl.1 rfl (Nat.le_of_ble_eq_true rfl) ⟨Nat.le_of_ble_eq_true rfl, Nat.le_of_ble_eq_true rfl⟩ dX6_init_46) (fun H1 locs hP1 hk hS => ?_)
  have e1 : ∀ (k : Nat) (x : Nat × va_E), [(a0, .inr (6, [.ref q1, .ref q2, .ref q3, .int (0 : Int32), .int (0 : Int32)])), (q1, .inl (T 3, 4096, .inl (fun _ => 0))), (q2, .inl (T 3, 4096, .inl (fun _ => 0))), (q3, .inl (T 4, 4096, .inl (fun _ => 0)))][k]? = some x → k ≠ 2 → H1[x.1]? = H[x.1]? := by
    intro k x hx hne
    refine hk x.1 (hP k x hx).lt (fun h => ?_)
    obtain ⟨i, -, hi⟩ := h
    exact hne (hD.1 k 2 x _ hx rfl hi)
  have hnew : va_at D vwCl (q2, .inl (T 3, 4096, .inl (fun k => if k < 4096 then (-1 : Int32) else 0))) H1 := by
    have h0 := hP1 0 _ rfl
    exact h0
  have hP2 : va_P D vwCl [(a0, .inr (6, [.ref q1, .ref q2, .ref q3, .int (0 : Int32), .int (0 : Int32)])), (q1, .inl (T 3, 4096, .inl (fun _ => 0))), (q2, .inl (T 3, 4096, .inl (fun k => if k < 4096 then (-1 : Int32) else 0))), (q3, .inl (T 4, 4096, .inl (fun _ => 0)))] H1 := by
    intro k x hx
    match k, hx with
    | 0, hx => exact (hP 0 x hx).kept (e1 0 x hx (by decide))
    | 1, hx => exact (hP 1 x hx).kept (e1 1 x hx (by decide))
    | 2, hx => cases hx; exact hnew
    | 3, hx => exact (hP 3 x hx).kept (e1 3 x hx (by decide))
    | k + 4, hx => cases hx
  have hD2 : va_D (fz_A a0 s.heap.size) [(a0, .inr (6, [.ref q1, .ref q2, .ref q3, .int (0 : Int32), .int (0 : Int32)])), (q1, .inl (T 3, 4096, .inl (fun _ => 0))), (q2, .inl (T 3, 4096, .inl (fun k => if k < 4096 then (-1 : Int32) else 0))), (q3, .inl (T 4, 4096, .inl (fun _ => 0)))] := hD.set (p := 2) (e := .inl (T 3, 4096, .inl (fun k => if k < 4096 then (-1 : Int32) else 0))) rfl
  exact fz_ret (ad := fun id => if id = 35 then q1 else if id = 36 then q2 else if id = 37 then q3 else a0) hx hb hr hlk rfl (by decide) hP2 hD2 hS (by decide) rfl dX6_init_49
