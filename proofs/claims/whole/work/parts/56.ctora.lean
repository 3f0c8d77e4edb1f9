/-- what the class's cells hold when it has been made -/
def X_S0 : fy_S := (fun id k => if X_kd id = 2 then (if k = 1 then 1 else 0) else if X_kd id = 12 then (if k = 0 then 7 else 0) else if X_kd id = 0 then (if k = 3 ∨ k = 4 then 1 else 0) else if X_kd id = 10 then (if k < 3 then 1 else 0) else if id = 32 then (if k = 1 then 1000000000 else 0) else if id = 36 then (if k < 4096 then -1 else 0) else 0, fun _ _ => 0)
theorem tc0 : Cond.methodLink RX4 3 objectInit ∈ fy_tb := fy_inR (i := 106) (by decide +kernel) rfl
theorem tc1 : Cond.instanceMethod objectInit ∈ fy_tb := fy_inR (i := 23) (by decide +kernel) rfl
theorem tc2 : Cond.code objectInit ⟨#[0xb1]⟩ 1 none ∈ fy_tb := fy_inR (i := 24) (by decide +kernel) rfl
theorem tc3 : Cond.arrayClass .char ∈ fy_tb := fy_inR (i := 136) (by decide +kernel) rfl
theorem tc4 : Cond.fieldLink RX4 9 RX4 "signs" "[C" ∈ fy_tb := fy_inR (i := 107) (by decide +kernel) rfl
theorem tc5 : Cond.arrayClass .byte ∈ fy_tb := fy_inR (i := 59) (by decide +kernel) rfl
theorem tc6 : Cond.fieldLink RX4 15 RX4 "nodes" "[B" ∈ fy_tb := fy_inR (i := 108) (by decide +kernel) rfl
theorem tc7 : Cond.arrayClass .long ∈ fy_tb := fy_inR (i := 137) (by decide +kernel) rfl
theorem tc8 : Cond.fieldLink RX4 19 RX4 "tables" "[J" ∈ fy_tb := fy_inR (i := 109) (by decide +kernel) rfl
theorem tc9 : Cond.fieldLink RX4 23 RX4 "waiting" "[B" ∈ fy_tb := fy_inR (i := 110) (by decide +kernel) rfl
theorem tc10 : Cond.fieldLink RX4 26 RX4 "length" "I" ∈ fy_tb := fy_inR (i := 111) (by decide +kernel) rfl
theorem tc11 : Cond.fieldLink RX4 30 RX4 "nodeCount" "I" ∈ fy_tb := fy_inR (i := 113) (by decide +kernel) rfl
theorem tc12 : Cond.fieldLink RX4 33 RX4 "tableCount" "I" ∈ fy_tb := fy_inR (i := 114) (by decide +kernel) rfl
theorem tc13 : Cond.fieldLink RX4 36 RX4 "waitingCount" "I" ∈ fy_tb := fy_inR (i := 115) (by decide +kernel) rfl
theorem tc14 : Cond.fieldLink RX4 39 RX4 "openCount" "I" ∈ fy_tb := fy_inR (i := 116) (by decide +kernel) rfl
theorem tc15 : Cond.methodLink RX3 3 objectInit ∈ fy_tb := fy_inR (i := 143) (by decide +kernel) rfl
theorem tc16 : Cond.fieldLink RX3 9 RX3 "signs" "[C" ∈ fy_tb := fy_inR (i := 144) (by decide +kernel) rfl
theorem tc17 : Cond.fieldLink RX3 15 RX3 "length" "I" ∈ fy_tb := fy_inR (i := 146) (by decide +kernel) rfl
theorem tc18 : Cond.arrayClass .int ∈ fy_tb := fy_inR (i := 58) (by decide +kernel) rfl
theorem tc19 : Cond.fieldLink RX3 19 RX3 "begins" "[I" ∈ fy_tb := fy_inR (i := 148) (by decide +kernel) rfl
theorem tc20 : Cond.fieldLink RX3 23 RX3 "tops" "[I" ∈ fy_tb := fy_inR (i := 149) (by decide +kernel) rfl
theorem tc21 : Cond.fieldLink RX3 26 RX3 "partCount" "I" ∈ fy_tb := fy_inR (i := 150) (by decide +kernel) rfl
theorem tc22 : Cond.methodLink RX8 1 objectInit ∈ fy_tb := fy_inR (i := 167) (by decide +kernel) rfl
theorem tc23 : Cond.fieldLink RX8 7 RX8 "length" "I" ∈ fy_tb := fy_inR (i := 172) (by decide +kernel) rfl
theorem tc24 : Cond.methodLink RX8 13 Lib.Math.max.name ∈ fy_tb := fy_inR (i := 168) (by decide +kernel) rfl
theorem tc25 : Cond.static Lib.Math.max.name ∈ fy_tb := fy_inR (i := 169) (by decide +kernel) rfl
theorem tc26 : Cond.initialized "java/lang/Math" ∈ fy_tb := fy_inR (i := 8) (by decide +kernel) rfl
theorem tc27 : Cond.code Lib.Math.max.name Lib.Math.max.code 2 (some .int) ∈ fy_tb := fy_inR (i := 170) (by decide +kernel) rfl
theorem tc28 : Cond.fieldLink RX8 19 RX8 "letters" "[B" ∈ fy_tb := fy_inR (i := 171) (by decide +kernel) rfl
theorem tc29 : Cond.methodLink RX5 3 objectInit ∈ fy_tb := fy_inR (i := 187) (by decide +kernel) rfl
theorem tc30 : Cond.fieldLink RX5 9 RX5 "values" "[I" ∈ fy_tb := fy_inR (i := 188) (by decide +kernel) rfl
theorem tc31 : Cond.fieldLink RX5 15 RX5 "partValues" "[I" ∈ fy_tb := fy_inR (i := 189) (by decide +kernel) rfl
theorem tc32 : Cond.fieldLink RX5 18 RX5 "partStates" "[I" ∈ fy_tb := fy_inR (i := 190) (by decide +kernel) rfl
theorem tc33 : Cond.methodLink RX7 3 objectInit ∈ fy_tb := fy_inR (i := 203) (by decide +kernel) rfl
theorem tc34 : Cond.fieldLink RX7 9 RX7 "steps" "[I" ∈ fy_tb := fy_inR (i := 204) (by decide +kernel) rfl
theorem tc35 : Cond.fieldLink RX7 15 RX7 "classes" "[I" ∈ fy_tb := fy_inR (i := 205) (by decide +kernel) rfl
theorem tc36 : Cond.fieldLink RX7 18 RX7 "finerClasses" "[I" ∈ fy_tb := fy_inR (i := 206) (by decide +kernel) rfl
theorem tc37 : Cond.fieldLink RX7 21 RX7 "counts" "[J" ∈ fy_tb := fy_inR (i := 207) (by decide +kernel) rfl
theorem tc38 : Cond.fieldLink RX7 25 RX7 "nextCounts" "[J" ∈ fy_tb := fy_inR (i := 208) (by decide +kernel) rfl
theorem tc39 : Cond.fieldLink RX7 28 RX7 "letters" "I" ∈ fy_tb := fy_inR (i := 209) (by decide +kernel) rfl
theorem tc40 : Cond.fieldLink RX7 32 RX7 "first" "I" ∈ fy_tb := fy_inR (i := 212) (by decide +kernel) rfl
theorem tc41 : Cond.fieldLink RX7 35 RX7 "accepting" "J" ∈ fy_tb := fy_inR (i := 215) (by decide +kernel) rfl
theorem tc42 : Cond.methodLink RX1 3 objectInit ∈ fy_tb := fy_inR (i := 238) (by decide +kernel) rfl
theorem tc43 : Cond.fieldLink RX1 9 RX1 "prices" "[I" ∈ fy_tb := fy_inR (i := 240) (by decide +kernel) rfl
theorem tc44 : Cond.constant RX1 15 (1000000000) ∈ fy_tb := fy_inR (i := 239) (by decide +kernel) rfl
theorem tc45 : Cond.fieldLink RX1 16 RX1 "best" "I" ∈ fy_tb := fy_inR (i := 241) (by decide +kernel) rfl
set_option maxHeartbeats 4000000 in
set_option maxRecDepth 100000 in
theorem cc_X4 (l : Launch) (D : va_G) (T : Nat → ClassId) (a0 sz : Nat) : fz_M l yX4_init cX4_init 1 (fz_rm 1 4 240) D T X_lay X_S0 [] a0 sz 4 [.null, .null, .null, .null, .int 0, .int 0, .int 0, .int 0, .int 0] [3, 4, 5, 6, 7] 3 4 240 := by
  refine fz_entry (by decide +kernel) rfl (Nat.le_of_ble_eq_true rfl) ?_
  intro p e s m args below meth c ls hx hb hr hts hown hlk hml hin hK hN hO hP hD hS hl
  have hA : ∀ q : Nat, s.heap.size ≤ q → fz_A a0 s.heap.size q := fun q h => Or.inr h
  refine lv_aload_n hx hb dX4_init_0 rfl (lv_at hl 0 rfl) ?_
  refine W.objInit hx hb hown (hts _ tc0) (hts _ tc1) (hts _ tc2) rfl (by rw [hml]; exact hl.1) rfl dX4_init_1 (Nat.le_of_ble_eq_true rfl) (Nat.le_of_ble_eq_true rfl) ?_
  refine W.eq (g2 := F0 m 4 ls []) rfl ?_
  refine lv_aload_n hx hb dX4_init_4 rfl (lv_at hl 0 rfl) ?_
  refine lv_bipush (v := (60 : Int32)) hx hb dX4_init_5 (by decide) ?_
  refine fz_newa (atype := .char) (ty := .char) (t := 2) (N' := 60) (x0 := (60, .inl (fun _ => 0))) hx hb hts tc3 rfl (fun C h => by cases h) hK rfl hP hD hS hA (fun _ => rfl) (by decide) (by decide) (Nat.le_of_ble_eq_true rfl) (Nat.le_of_ble_eq_true rfl) (Nat.le_of_ble_eq_true rfl) dX4_init_7 (fun q1 H hP hD hS => ?_)
  have hP : va_P D vwCl [(a0, .inr (4, [.null, .null, .null, .null, .int 0, .int 0, .int 0, .int 0, .int 0])), (q1, .inl (T 2, 60, .inl (fun _ => 0)))] H := hP
  have hD : va_D (fz_A a0 s.heap.size) [(a0, .inr (4, [.null, .null, .null, .null, .int 0, .int 0, .int 0, .int 0, .int 0])), (q1, .inl (T 2, 60, .inl (fun _ => 0)))] := hD
  refine va_putF (D := D) (ci := 4) (v := .ref q1) (ty := .array .char) (C := RX4) (T := TX4) (N := 9) hx hb hts ti_X4 tyX4 tyX4_ok nmX4 hown hK hP hD hS 0 rfl rfl 0 (by decide) (hts _ tc4) (fun _ h9 => h9) rfl hin rfl rfl rfl rfl (Nat.le_of_ble_eq_true rfl) dX4_init_9 (fun H locs hP hD hS => ?_)
  have hP : va_P D vwCl [(a0, .inr (4, [.ref q1, .null, .null, .null, .int 0, .int 0, .int 0, .int 0, .int 0])), (q1, .inl (T 2, 60, .inl (fun _ => 0)))] H := hP
  have hD : va_D (fz_A a0 s.heap.size) [(a0, .inr (4, [.ref q1, .null, .null, .null, .int 0, .int 0, .int 0, .int 0, .int 0])), (q1, .inl (T 2, 60, .inl (fun _ => 0)))] := hD
  refine lv_aload_n hx hb dX4_init_12 rfl (lv_at hl 0 rfl) ?_
  refine lv_bipush (v := (60 : Int32)) hx hb dX4_init_13 (by decide) ?_
  refine fz_newa (atype := .byte) (ty := .byte) (t := 1) (N' := 60) (x0 := (60, .inl (fun _ => 0))) hx hb hts tc5 rfl (fun C h => by cases h) hK rfl hP hD hS hA (fun _ => rfl) (by decide) (by decide) (Nat.le_of_ble_eq_true rfl) (Nat.le_of_ble_eq_true rfl) (Nat.le_of_ble_eq_true rfl) dX4_init_15 (fun q2 H hP hD hS => ?_)
  have hP : va_P D vwCl [(a0, .inr (4, [.ref q1, .null, .null, .null, .int 0, .int 0, .int 0, .int 0, .int 0])), (q1, .inl (T 2, 60, .inl (fun _ => 0))), (q2, .inl (T 1, 60, .inl (fun _ => 0)))] H := hP
  have hD : va_D (fz_A a0 s.heap.size) [(a0, .inr (4, [.ref q1, .null, .null, .null, .int 0, .int 0, .int 0, .int 0, .int 0])), (q1, .inl (T 2, 60, .inl (fun _ => 0))), (q2, .inl (T 1, 60, .inl (fun _ => 0)))] := hD
  refine va_putF (D := D) (ci := 4) (v := .ref q2) (ty := .array .byte) (C := RX4) (T := TX4) (N := 9) hx hb hts ti_X4 tyX4 tyX4_ok nmX4 hown hK hP hD hS 0 rfl rfl 1 (by decide) (hts _ tc6) (fun _ h9 => h9) rfl hin rfl rfl rfl rfl (Nat.le_of_ble_eq_true rfl) dX4_init_17 (fun H locs hP hD hS => ?_)
  have hP : va_P D vwCl [(a0, .inr (4, [.ref q1, .ref q2, .null, .null, .int 0, .int 0, .int 0, .int 0, .int 0])), (q1, .inl (T 2, 60, .inl (fun _ => 0))), (q2, .inl (T 1, 60, .inl (fun _ => 0)))] H := hP
  have hD : va_D (fz_A a0 s.heap.size) [(a0, .inr (4, [.ref q1, .ref q2, .null, .null, .int 0, .int 0, .int 0, .int 0, .int 0])), (q1, .inl (T 2, 60, .inl (fun _ => 0))), (q2, .inl (T 1, 60, .inl (fun _ => 0)))] := hD
  refine lv_aload_n hx hb dX4_init_20 rfl (lv_at hl 0 rfl) ?_
  refine lv_bipush (v := (60 : Int32)) hx hb dX4_init_21 (by decide) ?_
  refine fz_newa (atype := .long) (ty := .long) (t := 5) (N' := 60) (x0 := (60, .inr (.inl (fun _ => 0)))) hx hb hts tc7 rfl (fun C h => by cases h) hK rfl hP hD hS hA (fun _ => rfl) (by decide) (by decide) (Nat.le_of_ble_eq_true rfl) (Nat.le_of_ble_eq_true rfl) (Nat.le_of_ble_eq_true rfl) dX4_init_23 (fun q3 H hP hD hS => ?_)
  have hP : va_P D vwCl [(a0, .inr (4, [.ref q1, .ref q2, .null, .null, .int 0, .int 0, .int 0, .int 0, .int 0])), (q1, .inl (T 2, 60, .inl (fun _ => 0))), (q2, .inl (T 1, 60, .inl (fun _ => 0))), (q3, .inl (T 5, 60, .inr (.inl (fun _ => 0))))] H := hP
  have hD : va_D (fz_A a0 s.heap.size) [(a0, .inr (4, [.ref q1, .ref q2, .null, .null, .int 0, .int 0, .int 0, .int 0, .int 0])), (q1, .inl (T 2, 60, .inl (fun _ => 0))), (q2, .inl (T 1, 60, .inl (fun _ => 0))), (q3, .inl (T 5, 60, .inr (.inl (fun _ => 0))))] := hD
  refine va_putF (D := D) (ci := 4) (v := .ref q3) (ty := .array .long) (C := RX4) (T := TX4) (N := 9) hx hb hts ti_X4 tyX4 tyX4_ok nmX4 hown hK hP hD hS 0 rfl rfl 2 (by decide) (hts _ tc8) (fun _ h9 => h9) rfl hin rfl rfl rfl rfl (Nat.le_of_ble_eq_true rfl) dX4_init_25 (fun H locs hP hD hS => ?_)
  have hP : va_P D vwCl [(a0, .inr (4, [.ref q1, .ref q2, .ref q3, .null, .int 0, .int 0, .int 0, .int 0, .int 0])), (q1, .inl (T 2, 60, .inl (fun _ => 0))), (q2, .inl (T 1, 60, .inl (fun _ => 0))), (q3, .inl (T 5, 60, .inr (.inl (fun _ => 0))))] H := hP
  have hD : va_D (fz_A a0 s.heap.size) [(a0, .inr (4, [.ref q1, .ref q2, .ref q3, .null, .int 0, .int 0, .int 0, .int 0, .int 0])), (q1, .inl (T 2, 60, .inl (fun _ => 0))), (q2, .inl (T 1, 60, .inl (fun _ => 0))), (q3, .inl (T 5, 60, .inr (.inl (fun _ => 0))))] := hD
  refine lv_aload_n hx hb dX4_init_28 rfl (lv_at hl 0 rfl) ?_
  refine lv_bipush (v := (60 : Int32)) hx hb dX4_init_29 (by decide) ?_
  refine fz_newa (atype := .byte) (ty := .byte) (t := 1) (N' := 60) (x0 := (60, .inl (fun _ => 0))) hx hb hts tc5 rfl (fun C h => by cases h) hK rfl hP hD hS hA (fun _ => rfl) (by decide) (by decide) (Nat.le_of_ble_eq_true rfl) (Nat.le_of_ble_eq_true rfl) (Nat.le_of_ble_eq_true rfl) dX4_init_31 (fun q4 H hP hD hS => ?_)
  have hP : va_P D vwCl [(a0, .inr (4, [.ref q1, .ref q2, .ref q3, .null, .int 0, .int 0, .int 0, .int 0, .int 0])), (q1, .inl (T 2, 60, .inl (fun _ => 0))), (q2, .inl (T 1, 60, .inl (fun _ => 0))), (q3, .inl (T 5, 60, .inr (.inl (fun _ => 0)))), (q4, .inl (T 1, 60, .inl (fun _ => 0)))] H := hP
  have hD : va_D (fz_A a0 s.heap.size) [(a0, .inr (4, [.ref q1, .ref q2, .ref q3, .null, .int 0, .int 0, .int 0, .int 0, .int 0])), (q1, .inl (T 2, 60, .inl (fun _ => 0))), (q2, .inl (T 1, 60, .inl (fun _ => 0))), (q3, .inl (T 5, 60, .inr (.inl (fun _ => 0)))), (q4, .inl (T 1, 60, .inl (fun _ => 0)))] := hD
  refine va_putF (D := D) (ci := 4) (v := .ref q4) (ty := .array .byte) (C := RX4) (T := TX4) (N := 9) hx hb hts ti_X4 tyX4 tyX4_ok nmX4 hown hK hP hD hS 0 rfl rfl 3 (by decide) (hts _ tc9) (fun _ h9 => h9) rfl hin rfl rfl rfl rfl (Nat.le_of_ble_eq_true rfl) dX4_init_33 (fun H locs hP hD hS => ?_)
  have hP : va_P D vwCl [(a0, .inr (4, [.ref q1, .ref q2, .ref q3, .ref q4, .int 0, .int 0, .int 0, .int 0, .int 0])), (q1, .inl (T 2, 60, .inl (fun _ => 0))), (q2, .inl (T 1, 60, .inl (fun _ => 0))), (q3, .inl (T 5, 60, .inr (.inl (fun _ => 0)))), (q4, .inl (T 1, 60, .inl (fun _ => 0)))] H := hP
  have hD : va_D (fz_A a0 s.heap.size) [(a0, .inr (4, [.ref q1, .ref q2, .ref q3, .ref q4, .int 0, .int 0, .int 0, .int 0, .int 0])), (q1, .inl (T 2, 60, .inl (fun _ => 0))), (q2, .inl (T 1, 60, .inl (fun _ => 0))), (q3, .inl (T 5, 60, .inr (.inl (fun _ => 0)))), (q4, .inl (T 1, 60, .inl (fun _ => 0)))] := hD
  refine lv_aload_n hx hb dX4_init_36 rfl (lv_at hl 0 rfl) ?_
  refine lv_iconst (v := (0 : Int32)) hx hb dX4_init_37 (by decide) ?_
  refine va_put (D := D) (ci := 4) (v := .int (0 : Int32)) (ty := .int) (C := RX4) (T := TX4) (N := 9) hx hb hts ti_X4 tyX4 tyX4_ok nmX4 hown hK hP hD hS 0 rfl rfl 4 (by decide) (hts _ tc10) (fun _ h9 => h9) rfl rfl (by decide +kernel) rfl (Nat.le_of_ble_eq_true rfl) dX4_init_38 (fun H locs hP hD hS => ?_)
  have hP : va_P D vwCl [(a0, .inr (4, [.ref q1, .ref q2, .ref q3, .ref q4, .int (0 : Int32), .int 0, .int 0, .int 0, .int 0])), (q1, .inl (T 2, 60, .inl (fun _ => 0))), (q2, .inl (T 1, 60, .inl (fun _ => 0))), (q3, .inl (T 5, 60, .inr (.inl (fun _ => 0)))), (q4, .inl (T 1, 60, .inl (fun _ => 0)))] H := hP
  have hD : va_D (fz_A a0 s.heap.size) [(a0, .inr (4, [.ref q1, .ref q2, .ref q3, .ref q4, .int (0 : Int32), .int 0, .int 0, .int 0, .int 0])), (q1, .inl (T 2, 60, .inl (fun _ => 0))), (q2, .inl (T 1, 60, .inl (fun _ => 0))), (q3, .inl (T 5, 60, .inr (.inl (fun _ => 0)))), (q4, .inl (T 1, 60, .inl (fun _ => 0)))] := hD
  refine lv_aload_n hx hb dX4_init_41 rfl (lv_at hl 0 rfl) ?_
  refine lv_iconst (v := (0 : Int32)) hx hb dX4_init_42 (by decide) ?_
  refine va_put (D := D) (ci := 4) (v := .int (0 : Int32)) (ty := .int) (C := RX4) (T := TX4) (N := 9) hx hb hts ti_X4 tyX4 tyX4_ok nmX4 hown hK hP hD hS 0 rfl rfl 5 (by decide) (hts _ tc11) (fun _ h9 => h9) rfl rfl (by decide +kernel) rfl (Nat.le_of_ble_eq_true rfl) dX4_init_43 (fun H locs hP hD hS => ?_)
  have hP : va_P D vwCl [(a0, .inr (4, [.ref q1, .ref q2, .ref q3, .ref q4, .int (0 : Int32), .int (0 : Int32), .int 0, .int 0, .int 0])), (q1, .inl (T 2, 60, .inl (fun _ => 0))), (q2, .inl (T 1, 60, .inl (fun _ => 0))), (q3, .inl (T 5, 60, .inr (.inl (fun _ => 0)))), (q4, .inl (T 1, 60, .inl (fun _ => 0)))] H := hP
  have hD : va_D (fz_A a0 s.heap.size) [(a0, .inr (4, [.ref q1, .ref q2, .ref q3, .ref q4, .int (0 : Int32), .int (0 : Int32), .int 0, .int 0, .int 0])), (q1, .inl (T 2, 60, .inl (fun _ => 0))), (q2, .inl (T 1, 60, .inl (fun _ => 0))), (q3, .inl (T 5, 60, .inr (.inl (fun _ => 0)))), (q4, .inl (T 1, 60, .inl (fun _ => 0)))] := hD
  refine lv_aload_n hx hb dX4_init_46 rfl (lv_at hl 0 rfl) ?_
  refine lv_iconst (v := (0 : Int32)) hx hb dX4_init_47 (by decide) ?_
  refine va_put (D := D) (ci := 4) (v := .int (0 : Int32)) (ty := .int) (C := RX4) (T := TX4) (N := 9) hx hb hts ti_X4 tyX4 tyX4_ok nmX4 hown hK hP hD hS 0 rfl rfl 6 (by decide) (hts _ tc12) (fun _ h9 => h9) rfl rfl (by decide +kernel) rfl (Nat.le_of_ble_eq_true rfl) dX4_init_48 (fun H locs hP hD hS => ?_)
  have hP : va_P D vwCl [(a0, .inr (4, [.ref q1, .ref q2, .ref q3, .ref q4, .int (0 : Int32), .int (0 : Int32), .int (0 : Int32), .int 0, .int 0])), (q1, .inl (T 2, 60, .inl (fun _ => 0))), (q2, .inl (T 1, 60, .inl (fun _ => 0))), (q3, .inl (T 5, 60, .inr (.inl (fun _ => 0)))), (q4, .inl (T 1, 60, .inl (fun _ => 0)))] H := hP
  have hD : va_D (fz_A a0 s.heap.size) [(a0, .inr (4, [.ref q1, .ref q2, .ref q3, .ref q4, .int (0 : Int32), .int (0 : Int32), .int (0 : Int32), .int 0, .int 0])), (q1, .inl (T 2, 60, .inl (fun _ => 0))), (q2, .inl (T 1, 60, .inl (fun _ => 0))), (q3, .inl (T 5, 60, .inr (.inl (fun _ => 0)))), (q4, .inl (T 1, 60, .inl (fun _ => 0)))] := hD
  refine lv_aload_n hx hb dX4_init_51 rfl (lv_at hl 0 rfl) ?_
  refine lv_iconst (v := (0 : Int32)) hx hb dX4_init_52 (by decide) ?_
  refine va_put (D := D) (ci := 4) (v := .int (0 : Int32)) (ty := .int) (C := RX4) (T := TX4) (N := 9) hx hb hts ti_X4 tyX4 tyX4_ok nmX4 hown hK hP hD hS 0 rfl rfl 7 (by decide) (hts _ tc13) (fun _ h9 => h9) rfl rfl (by decide +kernel) rfl (Nat.le_of_ble_eq_true rfl) dX4_init_53 (fun H locs hP hD hS => ?_)
  have hP : va_P D vwCl [(a0, .inr (4, [.ref q1, .ref q2, .ref q3, .ref q4, .int (0 : Int32), .int (0 : Int32), .int (0 : Int32), .int (0 : Int32), .int 0])), (q1, .inl (T 2, 60, .inl (fun _ => 0))), (q2, .inl (T 1, 60, .inl (fun _ => 0))), (q3, .inl (T 5, 60, .inr (.inl (fun _ => 0)))), (q4, .inl (T 1, 60, .inl (fun _ => 0)))] H := hP
  have hD : va_D (fz_A a0 s.heap.size) [(a0, .inr (4, [.ref q1, .ref q2, .ref q3, .ref q4, .int (0 : Int32), .int (0 : Int32), .int (0 : Int32), .int (0 : Int32), .int 0])), (q1, .inl (T 2, 60, .inl (fun _ => 0))), (q2, .inl (T 1, 60, .inl (fun _ => 0))), (q3, .inl (T 5, 60, .inr (.inl (fun _ => 0)))), (q4, .inl (T 1, 60, .inl (fun _ => 0)))] := hD
  refine lv_aload_n hx hb dX4_init_56 rfl (lv_at hl 0 rfl) ?_
  refine lv_iconst (v := (0 : Int32)) hx hb dX4_init_57 (by decide) ?_
  refine va_put (D := D) (ci := 4) (v := .int (0 : Int32)) (ty := .int) (C := RX4) (T := TX4) (N := 9) hx hb hts ti_X4 tyX4 tyX4_ok nmX4 hown hK hP hD hS 0 rfl rfl 8 (by decide) (hts _ tc14) (fun _ h9 => h9) rfl rfl (by decide +kernel) rfl (Nat.le_of_ble_eq_true rfl) dX4_init_58 (fun H locs hP hD hS => ?_)
  have hP : va_P D vwCl [(a0, .inr (4, [.ref q1, .ref q2, .ref q3, .ref q4, .int (0 : Int32), .int (0 : Int32), .int (0 : Int32), .int (0 : Int32), .int (0 : Int32)])), (q1, .inl (T 2, 60, .inl (fun _ => 0))), (q2, .inl (T 1, 60, .inl (fun _ => 0))), (q3, .inl (T 5, 60, .inr (.inl (fun _ => 0)))), (q4, .inl (T 1, 60, .inl (fun _ => 0)))] H := hP
  have hD : va_D (fz_A a0 s.heap.size) [(a0, .inr (4, [.ref q1, .ref q2, .ref q3, .ref q4, .int (0 : Int32), .int (0 : Int32), .int (0 : Int32), .int (0 : Int32), .int (0 : Int32)])), (q1, .inl (T 2, 60, .inl (fun _ => 0))), (q2, .inl (T 1, 60, .inl (fun _ => 0))), (q3, .inl (T 5, 60, .inr (.inl (fun _ => 0)))), (q4, .inl (T 1, 60, .inl (fun _ => 0)))] := hD
  exact fz_ret (ad := fun id => if id = 4 then q1 else if id = 5 then q2 else if id = 6 then q3 else if id = 7 then q4 else a0) hx hb hr hlk rfl (by decide) hP hD hS (by decide) rfl dX4_init_61
set_option maxHeartbeats 4000000 in
set_option maxRecDepth 100000 in
theorem cc_X3 (l : Launch) (D : va_G) (T : Nat → ClassId) (a0 sz : Nat) : fz_M l yX3_init cX3_init 1 (fz_rm 1 3 200) D T X_lay X_S0 [] a0 sz 3 [.null, .int 0, .null, .null, .int 0] [8, 9, 10, 11] 8 3 200 := by
  refine fz_entry (by decide +kernel) rfl (Nat.le_of_ble_eq_true rfl) ?_
  intro p e s m args below meth c ls hx hb hr hts hown hlk hml hin hK hN hO hP hD hS hl
  have hA : ∀ q : Nat, s.heap.size ≤ q → fz_A a0 s.heap.size q := fun q h => Or.inr h
  refine lv_aload_n hx hb dX3_init_0 rfl (lv_at hl 0 rfl) ?_
  refine W.objInit hx hb hown (hts _ tc15) (hts _ tc1) (hts _ tc2) rfl (by rw [hml]; exact hl.1) rfl dX3_init_1 (Nat.le_of_ble_eq_true rfl) (Nat.le_of_ble_eq_true rfl) ?_
  refine W.eq (g2 := F0 m 4 ls []) rfl ?_
  refine lv_aload_n hx hb dX3_init_4 rfl (lv_at hl 0 rfl) ?_
  refine lv_bipush (v := (120 : Int32)) hx hb dX3_init_5 (by decide) ?_
  refine fz_newa (atype := .char) (ty := .char) (t := 2) (N' := 120) (x0 := (120, .inl (fun _ => 0))) hx hb hts tc3 rfl (fun C h => by cases h) hK rfl hP hD hS hA (fun _ => rfl) (by decide) (by decide) (Nat.le_of_ble_eq_true rfl) (Nat.le_of_ble_eq_true rfl) (Nat.le_of_ble_eq_true rfl) dX3_init_7 (fun q1 H hP hD hS => ?_)
  have hP : va_P D vwCl [(a0, .inr (3, [.null, .int 0, .null, .null, .int 0])), (q1, .inl (T 2, 120, .inl (fun _ => 0)))] H := hP
  have hD : va_D (fz_A a0 s.heap.size) [(a0, .inr (3, [.null, .int 0, .null, .null, .int 0])), (q1, .inl (T 2, 120, .inl (fun _ => 0)))] := hD
  refine va_putF (D := D) (ci := 3) (v := .ref q1) (ty := .array .char) (C := RX3) (T := TX3) (N := 5) hx hb hts ti_X3 tyX3 tyX3_ok nmX3 hown hK hP hD hS 0 rfl rfl 0 (by decide) (hts _ tc16) (fun _ h9 => h9) rfl hin rfl rfl rfl rfl (Nat.le_of_ble_eq_true rfl) dX3_init_9 (fun H locs hP hD hS => ?_)
  have hP : va_P D vwCl [(a0, .inr (3, [.ref q1, .int 0, .null, .null, .int 0])), (q1, .inl (T 2, 120, .inl (fun _ => 0)))] H := hP
  have hD : va_D (fz_A a0 s.heap.size) [(a0, .inr (3, [.ref q1, .int 0, .null, .null, .int 0])), (q1, .inl (T 2, 120, .inl (fun _ => 0)))] := hD
  refine lv_aload_n hx hb dX3_init_12 rfl (lv_at hl 0 rfl) ?_
  refine lv_iconst (v := (0 : Int32)) hx hb dX3_init_13 (by decide) ?_
  refine va_put (D := D) (ci := 3) (v := .int (0 : Int32)) (ty := .int) (C := RX3) (T := TX3) (N := 5) hx hb hts ti_X3 tyX3 tyX3_ok nmX3 hown hK hP hD hS 0 rfl rfl 1 (by decide) (hts _ tc17) (fun _ h9 => h9) rfl rfl (by decide +kernel) rfl (Nat.le_of_ble_eq_true rfl) dX3_init_14 (fun H locs hP hD hS => ?_)
  have hP : va_P D vwCl [(a0, .inr (3, [.ref q1, .int (0 : Int32), .null, .null, .int 0])), (q1, .inl (T 2, 120, .inl (fun _ => 0)))] H := hP
  have hD : va_D (fz_A a0 s.heap.size) [(a0, .inr (3, [.ref q1, .int (0 : Int32), .null, .null, .int 0])), (q1, .inl (T 2, 120, .inl (fun _ => 0)))] := hD
  refine lv_aload_n hx hb dX3_init_17 rfl (lv_at hl 0 rfl) ?_
  refine lv_bipush (v := (40 : Int32)) hx hb dX3_init_18 (by decide) ?_
  refine fz_newa (atype := .int) (ty := .int) (t := 0) (N' := 40) (x0 := (40, .inl (fun _ => 0))) hx hb hts tc18 rfl (fun C h => by cases h) hK rfl hP hD hS hA (fun _ => rfl) (by decide) (by decide) (Nat.le_of_ble_eq_true rfl) (Nat.le_of_ble_eq_true rfl) (Nat.le_of_ble_eq_true rfl) dX3_init_20 (fun q2 H hP hD hS => ?_)
  have hP : va_P D vwCl [(a0, .inr (3, [.ref q1, .int (0 : Int32), .null, .null, .int 0])), (q1, .inl (T 2, 120, .inl (fun _ => 0))), (q2, .inl (T 0, 40, .inl (fun _ => 0)))] H := hP
  have hD : va_D (fz_A a0 s.heap.size) [(a0, .inr (3, [.ref q1, .int (0 : Int32), .null, .null, .int 0])), (q1, .inl (T 2, 120, .inl (fun _ => 0))), (q2, .inl (T 0, 40, .inl (fun _ => 0)))] := hD
  refine va_putF (D := D) (ci := 3) (v := .ref q2) (ty := .array .int) (C := RX3) (T := TX3) (N := 5) hx hb hts ti_X3 tyX3 tyX3_ok nmX3 hown hK hP hD hS 0 rfl rfl 2 (by decide) (hts _ tc19) (fun _ h9 => h9) rfl hin rfl rfl rfl rfl (Nat.le_of_ble_eq_true rfl) dX3_init_22 (fun H locs hP hD hS => ?_)
  have hP : va_P D vwCl [(a0, .inr (3, [.ref q1, .int (0 : Int32), .ref q2, .null, .int 0])), (q1, .inl (T 2, 120, .inl (fun _ => 0))), (q2, .inl (T 0, 40, .inl (fun _ => 0)))] H := hP
  have hD : va_D (fz_A a0 s.heap.size) [(a0, .inr (3, [.ref q1, .int (0 : Int32), .ref q2, .null, .int 0])), (q1, .inl (T 2, 120, .inl (fun _ => 0))), (q2, .inl (T 0, 40, .inl (fun _ => 0)))] := hD
  refine lv_aload_n hx hb dX3_init_25 rfl (lv_at hl 0 rfl) ?_
  refine lv_bipush (v := (40 : Int32)) hx hb dX3_init_26 (by decide) ?_
  refine fz_newa (atype := .int) (ty := .int) (t := 0) (N' := 40) (x0 := (40, .inl (fun _ => 0))) hx hb hts tc18 rfl (fun C h => by cases h) hK rfl hP hD hS hA (fun _ => rfl) (by decide) (by decide) (Nat.le_of_ble_eq_true rfl) (Nat.le_of_ble_eq_true rfl) (Nat.le_of_ble_eq_true rfl) dX3_init_28 (fun q3 H hP hD hS => ?_)
  have hP : va_P D vwCl [(a0, .inr (3, [.ref q1, .int (0 : Int32), .ref q2, .null, .int 0])), (q1, .inl (T 2, 120, .inl (fun _ => 0))), (q2, .inl (T 0, 40, .inl (fun _ => 0))), (q3, .inl (T 0, 40, .inl (fun _ => 0)))] H := hP
  have hD : va_D (fz_A a0 s.heap.size) [(a0, .inr (3, [.ref q1, .int (0 : Int32), .ref q2, .null, .int 0])), (q1, .inl (T 2, 120, .inl (fun _ => 0))), (q2, .inl (T 0, 40, .inl (fun _ => 0))), (q3, .inl (T 0, 40, .inl (fun _ => 0)))] := hD
  refine va_putF (D := D) (ci := 3) (v := .ref q3) (ty := .array .int) (C := RX3) (T := TX3) (N := 5) hx hb hts ti_X3 tyX3 tyX3_ok nmX3 hown hK hP hD hS 0 rfl rfl 3 (by decide) (hts _ tc20) (fun _ h9 => h9) rfl hin rfl rfl rfl rfl (Nat.le_of_ble_eq_true rfl) dX3_init_30 (fun H locs hP hD hS => ?_)
  have hP : va_P D vwCl [(a0, .inr (3, [.ref q1, .int (0 : Int32), .ref q2, .ref q3, .int 0])), (q1, .inl (T 2, 120, .inl (fun _ => 0))), (q2, .inl (T 0, 40, .inl (fun _ => 0))), (q3, .inl (T 0, 40, .inl (fun _ => 0)))] H := hP
  have hD : va_D (fz_A a0 s.heap.size) [(a0, .inr (3, [.ref q1, .int (0 : Int32), .ref q2, .ref q3, .int 0])), (q1, .inl (T 2, 120, .inl (fun _ => 0))), (q2, .inl (T 0, 40, .inl (fun _ => 0))), (q3, .inl (T 0, 40, .inl (fun _ => 0)))] := hD
  refine lv_aload_n hx hb dX3_init_33 rfl (lv_at hl 0 rfl) ?_
  refine lv_iconst (v := (0 : Int32)) hx hb dX3_init_34 (by decide) ?_
  refine va_put (D := D) (ci := 3) (v := .int (0 : Int32)) (ty := .int) (C := RX3) (T := TX3) (N := 5) hx hb hts ti_X3 tyX3 tyX3_ok nmX3 hown hK hP hD hS 0 rfl rfl 4 (by decide) (hts _ tc21) (fun _ h9 => h9) rfl rfl (by decide +kernel) rfl (Nat.le_of_ble_eq_true rfl) dX3_init_35 (fun H locs hP hD hS => ?_)
  have hP : va_P D vwCl [(a0, .inr (3, [.ref q1, .int (0 : Int32), .ref q2, .ref q3, .int (0 : Int32)])), (q1, .inl (T 2, 120, .inl (fun _ => 0))), (q2, .inl (T 0, 40, .inl (fun _ => 0))), (q3, .inl (T 0, 40, .inl (fun _ => 0)))] H := hP
  have hD : va_D (fz_A a0 s.heap.size) [(a0, .inr (3, [.ref q1, .int (0 : Int32), .ref q2, .ref q3, .int (0 : Int32)])), (q1, .inl (T 2, 120, .inl (fun _ => 0))), (q2, .inl (T 0, 40, .inl (fun _ => 0))), (q3, .inl (T 0, 40, .inl (fun _ => 0)))] := hD
  exact fz_ret (ad := fun id => if id = 9 then q1 else if id = 10 then q2 else if id = 11 then q3 else a0) hx hb hr hlk rfl (by decide) hP hD hS (by decide) rfl dX3_init_38
set_option maxHeartbeats 4000000 in
set_option maxRecDepth 100000 in
theorem cc_X8_12 (l : Launch) (D : va_G) (T : Nat → ClassId) (a0 sz : Nat) : fz_M l yX8_init cX8_init 2 (fz_rm 1 1 12) D T X_lay X_S0 [.int (12 : Int32)] a0 sz 8 [.null, .int 0] [12, 13] 12 1 12 := by
  refine fz_entry (by decide +kernel) rfl (Nat.le_of_ble_eq_true rfl) ?_
  intro p e s m args below meth c ls hx hb hr hts hown hlk hml hin hK hN hO hP hD hS hl
  have hA : ∀ q : Nat, s.heap.size ≤ q → fz_A a0 s.heap.size q := fun q h => Or.inr h
  refine lv_aload_n hx hb dX8_init_0 rfl (lv_at hl 0 rfl) ?_
  refine W.objInit hx hb hown (hts _ tc22) (hts _ tc1) (hts _ tc2) rfl (by rw [hml]; exact hl.1) rfl dX8_init_1 (Nat.le_of_ble_eq_true rfl) (Nat.le_of_ble_eq_true rfl) ?_
  refine W.eq (g2 := F0 m 4 ls []) rfl ?_
  refine lv_aload_n hx hb dX8_init_4 rfl (lv_at hl 0 rfl) ?_
  refine lv_iconst (v := (0 : Int32)) hx hb dX8_init_5 (by decide) ?_
  refine va_put (D := D) (ci := 8) (v := .int (0 : Int32)) (ty := .int) (C := RX8) (T := TX8) (N := 2) hx hb hts ti_X8 tyX8 tyX8_ok nmX8 hown hK hP hD hS 0 rfl rfl 1 (by decide) (hts _ tc23) (fun _ h9 => h9) rfl rfl (by decide +kernel) rfl (Nat.le_of_ble_eq_true rfl) dX8_init_6 (fun H locs hP hD hS => ?_)
  have hP : va_P D vwCl [(a0, .inr (8, [.null, .int (0 : Int32)]))] H := hP
  have hD : va_D (fz_A a0 s.heap.size) [(a0, .inr (8, [.null, .int (0 : Int32)]))] := hD
  refine lv_aload_n hx hb dX8_init_9 rfl (lv_at hl 0 rfl) ?_
  refine lv_iload_n hx hb dX8_init_10 rfl (lv_at hl 1 rfl) ?_
  refine lv_iconst (v := (0 : Int32)) hx hb dX8_init_11 (by decide) ?_
  refine va_mmax (l := l) hx hb (hml.trans hl.1.symm) hown (hts _ tc24) (hts _ tc25) (hts _ tc26) (hts _ tc27) (Nat.le_of_ble_eq_true rfl) (Nat.le_of_ble_eq_true rfl) (Nat.zero_le _) (Nat.zero_le _) dX8_init_12 ?_
  refine fz_newa (atype := .byte) (ty := .byte) (t := 1) (N' := 12) (x0 := (12, .inl (fun _ => 0))) hx hb hts tc5 rfl (fun C h => by cases h) hK rfl hP hD hS hA (fun _ => rfl) (by decide) (by decide) (Nat.le_of_ble_eq_true rfl) (Nat.le_of_ble_eq_true rfl) (Nat.le_of_ble_eq_true rfl) dX8_init_15 (fun q1 H hP hD hS => ?_)
  have hP : va_P D vwCl [(a0, .inr (8, [.null, .int (0 : Int32)])), (q1, .inl (T 1, 12, .inl (fun _ => 0)))] H := hP
  have hD : va_D (fz_A a0 s.heap.size) [(a0, .inr (8, [.null, .int (0 : Int32)])), (q1, .inl (T 1, 12, .inl (fun _ => 0)))] := hD
  refine va_putF (D := D) (ci := 8) (v := .ref q1) (ty := .array .byte) (C := RX8) (T := TX8) (N := 2) hx hb hts ti_X8 tyX8 tyX8_ok nmX8 hown hK hP hD hS 0 rfl rfl 0 (by decide) (hts _ tc28) (fun _ h9 => h9) rfl hin rfl rfl rfl rfl (Nat.le_of_ble_eq_true rfl) dX8_init_17 (fun H locs hP hD hS => ?_)
  have hP : va_P D vwCl [(a0, .inr (8, [.ref q1, .int (0 : Int32)])), (q1, .inl (T 1, 12, .inl (fun _ => 0)))] H := hP
  have hD : va_D (fz_A a0 s.heap.size) [(a0, .inr (8, [.ref q1, .int (0 : Int32)])), (q1, .inl (T 1, 12, .inl (fun _ => 0)))] := hD
  exact fz_ret (ad := fun id => if id = 13 then q1 else a0) hx hb hr hlk rfl (by decide) hP hD hS (by decide) rfl dX8_init_20
set_option maxHeartbeats 4000000 in
set_option maxRecDepth 100000 in
theorem cc_X8_14 (l : Launch) (D : va_G) (T : Nat → ClassId) (a0 sz : Nat) : fz_M l yX8_init cX8_init 2 (fz_rm 1 1 128) D T X_lay X_S0 [.int (128 : Int32)] a0 sz 8 [.null, .int 0] [14, 15] 14 1 128 := by
  refine fz_entry (by decide +kernel) rfl (Nat.le_of_ble_eq_true rfl) ?_
  intro p e s m args below meth c ls hx hb hr hts hown hlk hml hin hK hN hO hP hD hS hl
  have hA : ∀ q : Nat, s.heap.size ≤ q → fz_A a0 s.heap.size q := fun q h => Or.inr h
  refine lv_aload_n hx hb dX8_init_0 rfl (lv_at hl 0 rfl) ?_
  refine W.objInit hx hb hown (hts _ tc22) (hts _ tc1) (hts _ tc2) rfl (by rw [hml]; exact hl.1) rfl dX8_init_1 (Nat.le_of_ble_eq_true rfl) (Nat.le_of_ble_eq_true rfl) ?_
  refine W.eq (g2 := F0 m 4 ls []) rfl ?_
  refine lv_aload_n hx hb dX8_init_4 rfl (lv_at hl 0 rfl) ?_
  refine lv_iconst (v := (0 : Int32)) hx hb dX8_init_5 (by decide) ?_
  refine va_put (D := D) (ci := 8) (v := .int (0 : Int32)) (ty := .int) (C := RX8) (T := TX8) (N := 2) hx hb hts ti_X8 tyX8 tyX8_ok nmX8 hown hK hP hD hS 0 rfl rfl 1 (by decide) (hts _ tc23) (fun _ h9 => h9) rfl rfl (by decide +kernel) rfl (Nat.le_of_ble_eq_true rfl) dX8_init_6 (fun H locs hP hD hS => ?_)
  have hP : va_P D vwCl [(a0, .inr (8, [.null, .int (0 : Int32)]))] H := hP
  have hD : va_D (fz_A a0 s.heap.size) [(a0, .inr (8, [.null, .int (0 : Int32)]))] := hD
  refine lv_aload_n hx hb dX8_init_9 rfl (lv_at hl 0 rfl) ?_
  refine lv_iload_n hx hb dX8_init_10 rfl (lv_at hl 1 rfl) ?_
  refine lv_iconst (v := (0 : Int32)) hx hb dX8_init_11 (by decide) ?_
  refine va_mmax (l := l) hx hb (hml.trans hl.1.symm) hown (hts _ tc24) (hts _ tc25) (hts _ tc26) (hts _ tc27) (Nat.le_of_ble_eq_true rfl) (Nat.le_of_ble_eq_true rfl) (Nat.zero_le _) (Nat.zero_le _) dX8_init_12 ?_
  refine fz_newa (atype := .byte) (ty := .byte) (t := 1) (N' := 128) (x0 := (128, .inl (fun _ => 0))) hx hb hts tc5 rfl (fun C h => by cases h) hK rfl hP hD hS hA (fun _ => rfl) (by decide) (by decide) (Nat.le_of_ble_eq_true rfl) (Nat.le_of_ble_eq_true rfl) (Nat.le_of_ble_eq_true rfl) dX8_init_15 (fun q1 H hP hD hS => ?_)
  have hP : va_P D vwCl [(a0, .inr (8, [.null, .int (0 : Int32)])), (q1, .inl (T 1, 128, .inl (fun _ => 0)))] H := hP
  have hD : va_D (fz_A a0 s.heap.size) [(a0, .inr (8, [.null, .int (0 : Int32)])), (q1, .inl (T 1, 128, .inl (fun _ => 0)))] := hD
  refine va_putF (D := D) (ci := 8) (v := .ref q1) (ty := .array .byte) (C := RX8) (T := TX8) (N := 2) hx hb hts ti_X8 tyX8 tyX8_ok nmX8 hown hK hP hD hS 0 rfl rfl 0 (by decide) (hts _ tc28) (fun _ h9 => h9) rfl hin rfl rfl rfl rfl (Nat.le_of_ble_eq_true rfl) dX8_init_17 (fun H locs hP hD hS => ?_)
  have hP : va_P D vwCl [(a0, .inr (8, [.ref q1, .int (0 : Int32)])), (q1, .inl (T 1, 128, .inl (fun _ => 0)))] H := hP
  have hD : va_D (fz_A a0 s.heap.size) [(a0, .inr (8, [.ref q1, .int (0 : Int32)])), (q1, .inl (T 1, 128, .inl (fun _ => 0)))] := hD
  exact fz_ret (ad := fun id => if id = 15 then q1 else a0) hx hb hr hlk rfl (by decide) hP hD hS (by decide) rfl dX8_init_20
set_option maxHeartbeats 4000000 in
set_option maxRecDepth 100000 in
theorem cc_X5 (l : Launch) (D : va_G) (T : Nat → ClassId) (a0 sz : Nat) : fz_M l yX5_init cX5_init 1 (fz_rm 1 3 158) D T X_lay X_S0 [] a0 sz 5 [.null, .null, .null] [16, 17, 18, 19] 16 3 158 := by
  refine fz_entry (by decide +kernel) rfl (Nat.le_of_ble_eq_true rfl) ?_
  intro p e s m args below meth c ls hx hb hr hts hown hlk hml hin hK hN hO hP hD hS hl
  have hA : ∀ q : Nat, s.heap.size ≤ q → fz_A a0 s.heap.size q := fun q h => Or.inr h
  refine lv_aload_n hx hb dX5_init_0 rfl (lv_at hl 0 rfl) ?_
  refine W.objInit hx hb hown (hts _ tc29) (hts _ tc1) (hts _ tc2) rfl (by rw [hml]; exact hl.1) rfl dX5_init_1 (Nat.le_of_ble_eq_true rfl) (Nat.le_of_ble_eq_true rfl) ?_
  refine W.eq (g2 := F0 m 4 ls []) rfl ?_
  refine lv_aload_n hx hb dX5_init_4 rfl (lv_at hl 0 rfl) ?_
  refine lv_bipush (v := (78 : Int32)) hx hb dX5_init_5 (by decide) ?_
  refine fz_newa (atype := .int) (ty := .int) (t := 0) (N' := 78) (x0 := (78, .inl (fun _ => 0))) hx hb hts tc18 rfl (fun C h => by cases h) hK rfl hP hD hS hA (fun _ => rfl) (by decide) (by decide) (Nat.le_of_ble_eq_true rfl) (Nat.le_of_ble_eq_true rfl) (Nat.le_of_ble_eq_true rfl) dX5_init_7 (fun q1 H hP hD hS => ?_)
  have hP : va_P D vwCl [(a0, .inr (5, [.null, .null, .null])), (q1, .inl (T 0, 78, .inl (fun _ => 0)))] H := hP
  have hD : va_D (fz_A a0 s.heap.size) [(a0, .inr (5, [.null, .null, .null])), (q1, .inl (T 0, 78, .inl (fun _ => 0)))] := hD
  refine va_putF (D := D) (ci := 5) (v := .ref q1) (ty := .array .int) (C := RX5) (T := TX5) (N := 3) hx hb hts ti_X5 tyX5 tyX5_ok nmX5 hown hK hP hD hS 0 rfl rfl 0 (by decide) (hts _ tc30) (fun _ h9 => h9) rfl hin rfl rfl rfl rfl (Nat.le_of_ble_eq_true rfl) dX5_init_9 (fun H locs hP hD hS => ?_)
  have hP : va_P D vwCl [(a0, .inr (5, [.ref q1, .null, .null])), (q1, .inl (T 0, 78, .inl (fun _ => 0)))] H := hP
  have hD : va_D (fz_A a0 s.heap.size) [(a0, .inr (5, [.ref q1, .null, .null])), (q1, .inl (T 0, 78, .inl (fun _ => 0)))] := hD
  refine lv_aload_n hx hb dX5_init_12 rfl (lv_at hl 0 rfl) ?_
  refine lv_bipush (v := (40 : Int32)) hx hb dX5_init_13 (by decide) ?_
  refine fz_newa (atype := .int) (ty := .int) (t := 0) (N' := 40) (x0 := (40, .inl (fun _ => 0))) hx hb hts tc18 rfl (fun C h => by cases h) hK rfl hP hD hS hA (fun _ => rfl) (by decide) (by decide) (Nat.le_of_ble_eq_true rfl) (Nat.le_of_ble_eq_true rfl) (Nat.le_of_ble_eq_true rfl) dX5_init_15 (fun q2 H hP hD hS => ?_)
  have hP : va_P D vwCl [(a0, .inr (5, [.ref q1, .null, .null])), (q1, .inl (T 0, 78, .inl (fun _ => 0))), (q2, .inl (T 0, 40, .inl (fun _ => 0)))] H := hP
  have hD : va_D (fz_A a0 s.heap.size) [(a0, .inr (5, [.ref q1, .null, .null])), (q1, .inl (T 0, 78, .inl (fun _ => 0))), (q2, .inl (T 0, 40, .inl (fun _ => 0)))] := hD
  refine va_putF (D := D) (ci := 5) (v := .ref q2) (ty := .array .int) (C := RX5) (T := TX5) (N := 3) hx hb hts ti_X5 tyX5 tyX5_ok nmX5 hown hK hP hD hS 0 rfl rfl 1 (by decide) (hts _ tc31) (fun _ h9 => h9) rfl hin rfl rfl rfl rfl (Nat.le_of_ble_eq_true rfl) dX5_init_17 (fun H locs hP hD hS => ?_)
  have hP : va_P D vwCl [(a0, .inr (5, [.ref q1, .ref q2, .null])), (q1, .inl (T 0, 78, .inl (fun _ => 0))), (q2, .inl (T 0, 40, .inl (fun _ => 0)))] H := hP
  have hD : va_D (fz_A a0 s.heap.size) [(a0, .inr (5, [.ref q1, .ref q2, .null])), (q1, .inl (T 0, 78, .inl (fun _ => 0))), (q2, .inl (T 0, 40, .inl (fun _ => 0)))] := hD
  refine lv_aload_n hx hb dX5_init_20 rfl (lv_at hl 0 rfl) ?_
  refine lv_bipush (v := (40 : Int32)) hx hb dX5_init_21 (by decide) ?_
  refine fz_newa (atype := .int) (ty := .int) (t := 0) (N' := 40) (x0 := (40, .inl (fun _ => 0))) hx hb hts tc18 rfl (fun C h => by cases h) hK rfl hP hD hS hA (fun _ => rfl) (by decide) (by decide) (Nat.le_of_ble_eq_true rfl) (Nat.le_of_ble_eq_true rfl) (Nat.le_of_ble_eq_true rfl) dX5_init_23 (fun q3 H hP hD hS => ?_)
  have hP : va_P D vwCl [(a0, .inr (5, [.ref q1, .ref q2, .null])), (q1, .inl (T 0, 78, .inl (fun _ => 0))), (q2, .inl (T 0, 40, .inl (fun _ => 0))), (q3, .inl (T 0, 40, .inl (fun _ => 0)))] H := hP
  have hD : va_D (fz_A a0 s.heap.size) [(a0, .inr (5, [.ref q1, .ref q2, .null])), (q1, .inl (T 0, 78, .inl (fun _ => 0))), (q2, .inl (T 0, 40, .inl (fun _ => 0))), (q3, .inl (T 0, 40, .inl (fun _ => 0)))] := hD
  refine va_putF (D := D) (ci := 5) (v := .ref q3) (ty := .array .int) (C := RX5) (T := TX5) (N := 3) hx hb hts ti_X5 tyX5 tyX5_ok nmX5 hown hK hP hD hS 0 rfl rfl 2 (by decide) (hts _ tc32) (fun _ h9 => h9) rfl hin rfl rfl rfl rfl (Nat.le_of_ble_eq_true rfl) dX5_init_25 (fun H locs hP hD hS => ?_)
  have hP : va_P D vwCl [(a0, .inr (5, [.ref q1, .ref q2, .ref q3])), (q1, .inl (T 0, 78, .inl (fun _ => 0))), (q2, .inl (T 0, 40, .inl (fun _ => 0))), (q3, .inl (T 0, 40, .inl (fun _ => 0)))] H := hP
  have hD : va_D (fz_A a0 s.heap.size) [(a0, .inr (5, [.ref q1, .ref q2, .ref q3])), (q1, .inl (T 0, 78, .inl (fun _ => 0))), (q2, .inl (T 0, 40, .inl (fun _ => 0))), (q3, .inl (T 0, 40, .inl (fun _ => 0)))] := hD
  exact fz_ret (ad := fun id => if id = 17 then q1 else if id = 18 then q2 else if id = 19 then q3 else a0) hx hb hr hlk rfl (by decide) hP hD hS (by decide) rfl dX5_init_28
set_option maxHeartbeats 4000000 in
set_option maxRecDepth 100000 in
theorem cc_X7_20 (l : Launch) (D : va_G) (T : Nat → ClassId) (a0 sz : Nat) : fz_M l yX7_init cX7_init 1 (fz_rm 1 5 448) D T X_lay X_S0 [] a0 sz 7 [.null, .null, .null, .null, .null, .int 0, .int 0, .long 0] [20, 21, 22, 23, 24, 25] 20 5 448 := by
  refine fz_entry (by decide +kernel) rfl (Nat.le_of_ble_eq_true rfl) ?_
  intro p e s m args below meth c ls hx hb hr hts hown hlk hml hin hK hN hO hP hD hS hl
  have hA : ∀ q : Nat, s.heap.size ≤ q → fz_A a0 s.heap.size q := fun q h => Or.inr h
  refine lv_aload_n hx hb dX7_init_0 rfl (lv_at hl 0 rfl) ?_
  refine W.objInit hx hb hown (hts _ tc33) (hts _ tc1) (hts _ tc2) rfl (by rw [hml]; exact hl.1) rfl dX7_init_1 (Nat.le_of_ble_eq_true rfl) (Nat.le_of_ble_eq_true rfl) ?_
  refine W.eq (g2 := F0 m 4 ls []) rfl ?_
  refine lv_aload_n hx hb dX7_init_4 rfl (lv_at hl 0 rfl) ?_
  refine lv_sipush (v := (192 : Int32)) hx hb dX7_init_5 (by decide) ?_
  refine fz_newa (atype := .int) (ty := .int) (t := 0) (N' := 192) (x0 := (192, .inl (fun _ => 0))) hx hb hts tc18 rfl (fun C h => by cases h) hK rfl hP hD hS hA (fun _ => rfl) (by decide) (by decide) (Nat.le_of_ble_eq_true rfl) (Nat.le_of_ble_eq_true rfl) (Nat.le_of_ble_eq_true rfl) dX7_init_8 (fun q1 H hP hD hS => ?_)
  have hP : va_P D vwCl [(a0, .inr (7, [.null, .null, .null, .null, .null, .int 0, .int 0, .long 0])), (q1, .inl (T 0, 192, .inl (fun _ => 0)))] H := hP
  have hD : va_D (fz_A a0 s.heap.size) [(a0, .inr (7, [.null, .null, .null, .null, .null, .int 0, .int 0, .long 0])), (q1, .inl (T 0, 192, .inl (fun _ => 0)))] := hD
  refine va_putF (D := D) (ci := 7) (v := .ref q1) (ty := .array .int) (C := RX7) (T := TX7) (N := 8) hx hb hts ti_X7 tyX7 tyX7_ok nmX7 hown hK hP hD hS 0 rfl rfl 0 (by decide) (hts _ tc34) (fun _ h9 => h9) rfl hin rfl rfl rfl rfl (Nat.le_of_ble_eq_true rfl) dX7_init_10 (fun H locs hP hD hS => ?_)
  have hP : va_P D vwCl [(a0, .inr (7, [.ref q1, .null, .null, .null, .null, .int 0, .int 0, .long 0])), (q1, .inl (T 0, 192, .inl (fun _ => 0)))] H := hP
  have hD : va_D (fz_A a0 s.heap.size) [(a0, .inr (7, [.ref q1, .null, .null, .null, .null, .int 0, .int 0, .long 0])), (q1, .inl (T 0, 192, .inl (fun _ => 0)))] := hD
  refine lv_aload_n hx hb dX7_init_13 rfl (lv_at hl 0 rfl) ?_
  refine lv_bipush (v := (64 : Int32)) hx hb dX7_init_14 (by decide) ?_
  refine fz_newa (atype := .int) (ty := .int) (t := 0) (N' := 64) (x0 := (64, .inl (fun _ => 0))) hx hb hts tc18 rfl (fun C h => by cases h) hK rfl hP hD hS hA (fun _ => rfl) (by decide) (by decide) (Nat.le_of_ble_eq_true rfl) (Nat.le_of_ble_eq_true rfl) (Nat.le_of_ble_eq_true rfl) dX7_init_16 (fun q2 H hP hD hS => ?_)
  have hP : va_P D vwCl [(a0, .inr (7, [.ref q1, .null, .null, .null, .null, .int 0, .int 0, .long 0])), (q1, .inl (T 0, 192, .inl (fun _ => 0))), (q2, .inl (T 0, 64, .inl (fun _ => 0)))] H := hP
  have hD : va_D (fz_A a0 s.heap.size) [(a0, .inr (7, [.ref q1, .null, .null, .null, .null, .int 0, .int 0, .long 0])), (q1, .inl (T 0, 192, .inl (fun _ => 0))), (q2, .inl (T 0, 64, .inl (fun _ => 0)))] := hD
  refine va_putF (D := D) (ci := 7) (v := .ref q2) (ty := .array .int) (C := RX7) (T := TX7) (N := 8) hx hb hts ti_X7 tyX7 tyX7_ok nmX7 hown hK hP hD hS 0 rfl rfl 1 (by decide) (hts _ tc35) (fun _ h9 => h9) rfl hin rfl rfl rfl rfl (Nat.le_of_ble_eq_true rfl) dX7_init_18 (fun H locs hP hD hS => ?_)
  have hP : va_P D vwCl [(a0, .inr (7, [.ref q1, .ref q2, .null, .null, .null, .int 0, .int 0, .long 0])), (q1, .inl (T 0, 192, .inl (fun _ => 0))), (q2, .inl (T 0, 64, .inl (fun _ => 0)))] H := hP
  have hD : va_D (fz_A a0 s.heap.size) [(a0, .inr (7, [.ref q1, .ref q2, .null, .null, .null, .int 0, .int 0, .long 0])), (q1, .inl (T 0, 192, .inl (fun _ => 0))), (q2, .inl (T 0, 64, .inl (fun _ => 0)))] := hD
  refine lv_aload_n hx hb dX7_init_21 rfl (lv_at hl 0 rfl) ?_
  refine lv_bipush (v := (64 : Int32)) hx hb dX7_init_22 (by decide) ?_
  refine fz_newa (atype := .int) (ty := .int) (t := 0) (N' := 64) (x0 := (64, .inl (fun _ => 0))) hx hb hts tc18 rfl (fun C h => by cases h) hK rfl hP hD hS hA (fun _ => rfl) (by decide) (by decide) (Nat.le_of_ble_eq_true rfl) (Nat.le_of_ble_eq_true rfl) (Nat.le_of_ble_eq_true rfl) dX7_init_24 (fun q3 H hP hD hS => ?_)
  have hP : va_P D vwCl [(a0, .inr (7, [.ref q1, .ref q2, .null, .null, .null, .int 0, .int 0, .long 0])), (q1, .inl (T 0, 192, .inl (fun _ => 0))), (q2, .inl (T 0, 64, .inl (fun _ => 0))), (q3, .inl (T 0, 64, .inl (fun _ => 0)))] H := hP
  have hD : va_D (fz_A a0 s.heap.size) [(a0, .inr (7, [.ref q1, .ref q2, .null, .null, .null, .int 0, .int 0, .long 0])), (q1, .inl (T 0, 192, .inl (fun _ => 0))), (q2, .inl (T 0, 64, .inl (fun _ => 0))), (q3, .inl (T 0, 64, .inl (fun _ => 0)))] := hD
  refine va_putF (D := D) (ci := 7) (v := .ref q3) (ty := .array .int) (C := RX7) (T := TX7) (N := 8) hx hb hts ti_X7 tyX7 tyX7_ok nmX7 hown hK hP hD hS 0 rfl rfl 2 (by decide) (hts _ tc36) (fun _ h9 => h9) rfl hin rfl rfl rfl rfl (Nat.le_of_ble_eq_true rfl) dX7_init_26 (fun H locs hP hD hS => ?_)
  have hP : va_P D vwCl [(a0, .inr (7, [.ref q1, .ref q2, .ref q3, .null, .null, .int 0, .int 0, .long 0])), (q1, .inl (T 0, 192, .inl (fun _ => 0))), (q2, .inl (T 0, 64, .inl (fun _ => 0))), (q3, .inl (T 0, 64, .inl (fun _ => 0)))] H := hP
  have hD : va_D (fz_A a0 s.heap.size) [(a0, .inr (7, [.ref q1, .ref q2, .ref q3, .null, .null, .int 0, .int 0, .long 0])), (q1, .inl (T 0, 192, .inl (fun _ => 0))), (q2, .inl (T 0, 64, .inl (fun _ => 0))), (q3, .inl (T 0, 64, .inl (fun _ => 0)))] := hD
  refine lv_aload_n hx hb dX7_init_29 rfl (lv_at hl 0 rfl) ?_
  refine lv_bipush (v := (64 : Int32)) hx hb dX7_init_30 (by decide) ?_
  refine fz_newa (atype := .long) (ty := .long) (t := 5) (N' := 64) (x0 := (64, .inr (.inl (fun _ => 0)))) hx hb hts tc7 rfl (fun C h => by cases h) hK rfl hP hD hS hA (fun _ => rfl) (by decide) (by decide) (Nat.le_of_ble_eq_true rfl) (Nat.le_of_ble_eq_true rfl) (Nat.le_of_ble_eq_true rfl) dX7_init_32 (fun q4 H hP hD hS => ?_)
  have hP : va_P D vwCl [(a0, .inr (7, [.ref q1, .ref q2, .ref q3, .null, .null, .int 0, .int 0, .long 0])), (q1, .inl (T 0, 192, .inl (fun _ => 0))), (q2, .inl (T 0, 64, .inl (fun _ => 0))), (q3, .inl (T 0, 64, .inl (fun _ => 0))), (q4, .inl (T 5, 64, .inr (.inl (fun _ => 0))))] H := hP
  have hD : va_D (fz_A a0 s.heap.size) [(a0, .inr (7, [.ref q1, .ref q2, .ref q3, .null, .null, .int 0, .int 0, .long 0])), (q1, .inl (T 0, 192, .inl (fun _ => 0))), (q2, .inl (T 0, 64, .inl (fun _ => 0))), (q3, .inl (T 0, 64, .inl (fun _ => 0))), (q4, .inl (T 5, 64, .inr (.inl (fun _ => 0))))] := hD
  refine va_putF (D := D) (ci := 7) (v := .ref q4) (ty := .array .long) (C := RX7) (T := TX7) (N := 8) hx hb hts ti_X7 tyX7 tyX7_ok nmX7 hown hK hP hD hS 0 rfl rfl 3 (by decide) (hts _ tc37) (fun _ h9 => h9) rfl hin rfl rfl rfl rfl (Nat.le_of_ble_eq_true rfl) dX7_init_34 (fun H locs hP hD hS => ?_)
  have hP : va_P D vwCl [(a0, .inr (7, [.ref q1, .ref q2, .ref q3, .ref q4, .null, .int 0, .int 0, .long 0])), (q1, .inl (T 0, 192, .inl (fun _ => 0))), (q2, .inl (T 0, 64, .inl (fun _ => 0))), (q3, .inl (T 0, 64, .inl (fun _ => 0))), (q4, .inl (T 5, 64, .inr (.inl (fun _ => 0))))] H := hP
  have hD : va_D (fz_A a0 s.heap.size) [(a0, .inr (7, [.ref q1, .ref q2, .ref q3, .ref q4, .null, .int 0, .int 0, .long 0])), (q1, .inl (T 0, 192, .inl (fun _ => 0))), (q2, .inl (T 0, 64, .inl (fun _ => 0))), (q3, .inl (T 0, 64, .inl (fun _ => 0))), (q4, .inl (T 5, 64, .inr (.inl (fun _ => 0))))] := hD
  refine lv_aload_n hx hb dX7_init_37 rfl (lv_at hl 0 rfl) ?_
  refine lv_bipush (v := (64 : Int32)) hx hb dX7_init_38 (by decide) ?_
  refine fz_newa (atype := .long) (ty := .long) (t := 5) (N' := 64) (x0 := (64, .inr (.inl (fun _ => 0)))) hx hb hts tc7 rfl (fun C h => by cases h) hK rfl hP hD hS hA (fun _ => rfl) (by decide) (by decide) (Nat.le_of_ble_eq_true rfl) (Nat.le_of_ble_eq_true rfl) (Nat.le_of_ble_eq_true rfl) dX7_init_40 (fun q5 H hP hD hS => ?_)
  have hP : va_P D vwCl [(a0, .inr (7, [.ref q1, .ref q2, .ref q3, .ref q4, .null, .int 0, .int 0, .long 0])), (q1, .inl (T 0, 192, .inl (fun _ => 0))), (q2, .inl (T 0, 64, .inl (fun _ => 0))), (q3, .inl (T 0, 64, .inl (fun _ => 0))), (q4, .inl (T 5, 64, .inr (.inl (fun _ => 0)))), (q5, .inl (T 5, 64, .inr (.inl (fun _ => 0))))] H := hP
  have hD : va_D (fz_A a0 s.heap.size) [(a0, .inr (7, [.ref q1, .ref q2, .ref q3, .ref q4, .null, .int 0, .int 0, .long 0])), (q1, .inl (T 0, 192, .inl (fun _ => 0))), (q2, .inl (T 0, 64, .inl (fun _ => 0))), (q3, .inl (T 0, 64, .inl (fun _ => 0))), (q4, .inl (T 5, 64, .inr (.inl (fun _ => 0)))), (q5, .inl (T 5, 64, .inr (.inl (fun _ => 0))))] := hD
  refine va_putF (D := D) (ci := 7) (v := .ref q5) (ty := .array .long) (C := RX7) (T := TX7) (N := 8) hx hb hts ti_X7 tyX7 tyX7_ok nmX7 hown hK hP hD hS 0 rfl rfl 4 (by decide) (hts _ tc38) (fun _ h9 => h9) rfl hin rfl rfl rfl rfl (Nat.le_of_ble_eq_true rfl) dX7_init_42 (fun H locs hP hD hS => ?_)
  have hP : va_P D vwCl [(a0, .inr (7, [.ref q1, .ref q2, .ref q3, .ref q4, .ref q5, .int 0, .int 0, .long 0])), (q1, .inl (T 0, 192, .inl (fun _ => 0))), (q2, .inl (T 0, 64, .inl (fun _ => 0))), (q3, .inl (T 0, 64, .inl (fun _ => 0))), (q4, .inl (T 5, 64, .inr (.inl (fun _ => 0)))), (q5, .inl (T 5, 64, .inr (.inl (fun _ => 0))))] H := hP
  have hD : va_D (fz_A a0 s.heap.size) [(a0, .inr (7, [.ref q1, .ref q2, .ref q3, .ref q4, .ref q5, .int 0, .int 0, .long 0])), (q1, .inl (T 0, 192, .inl (fun _ => 0))), (q2, .inl (T 0, 64, .inl (fun _ => 0))), (q3, .inl (T 0, 64, .inl (fun _ => 0))), (q4, .inl (T 5, 64, .inr (.inl (fun _ => 0)))), (q5, .inl (T 5, 64, .inr (.inl (fun _ => 0))))] := hD
  refine lv_aload_n hx hb dX7_init_45 rfl (lv_at hl 0 rfl) ?_
  refine lv_iconst (v := (0 : Int32)) hx hb dX7_init_46 (by decide) ?_
  refine va_put (D := D) (ci := 7) (v := .int (0 : Int32)) (ty := .int) (C := RX7) (T := TX7) (N := 8) hx hb hts ti_X7 tyX7 tyX7_ok nmX7 hown hK hP hD hS 0 rfl rfl 5 (by decide) (hts _ tc39) (fun _ h9 => h9) rfl rfl (by decide +kernel) rfl (Nat.le_of_ble_eq_true rfl) dX7_init_47 (fun H locs hP hD hS => ?_)
  have hP : va_P D vwCl [(a0, .inr (7, [.ref q1, .ref q2, .ref q3, .ref q4, .ref q5, .int (0 : Int32), .int 0, .long 0])), (q1, .inl (T 0, 192, .inl (fun _ => 0))), (q2, .inl (T 0, 64, .inl (fun _ => 0))), (q3, .inl (T 0, 64, .inl (fun _ => 0))), (q4, .inl (T 5, 64, .inr (.inl (fun _ => 0)))), (q5, .inl (T 5, 64, .inr (.inl (fun _ => 0))))] H := hP
  have hD : va_D (fz_A a0 s.heap.size) [(a0, .inr (7, [.ref q1, .ref q2, .ref q3, .ref q4, .ref q5, .int (0 : Int32), .int 0, .long 0])), (q1, .inl (T 0, 192, .inl (fun _ => 0))), (q2, .inl (T 0, 64, .inl (fun _ => 0))), (q3, .inl (T 0, 64, .inl (fun _ => 0))), (q4, .inl (T 5, 64, .inr (.inl (fun _ => 0)))), (q5, .inl (T 5, 64, .inr (.inl (fun _ => 0))))] := hD
  refine lv_aload_n hx hb dX7_init_50 rfl (lv_at hl 0 rfl) ?_
  refine lv_iconst (v := (0 : Int32)) hx hb dX7_init_51 (by decide) ?_
  refine va_put (D := D) (ci := 7) (v := .int (0 : Int32)) (ty := .int) (C := RX7) (T := TX7) (N := 8) hx hb hts ti_X7 tyX7 tyX7_ok nmX7 hown hK hP hD hS 0 rfl rfl 6 (by decide) (hts _ tc40) (fun _ h9 => h9) rfl rfl (by decide +kernel) rfl (Nat.le_of_ble_eq_true rfl) dX7_init_52 (fun H locs hP hD hS => ?_)
  have hP : va_P D vwCl [(a0, .inr (7, [.ref q1, .ref q2, .ref q3, .ref q4, .ref q5, .int (0 : Int32), .int (0 : Int32), .long 0])), (q1, .inl (T 0, 192, .inl (fun _ => 0))), (q2, .inl (T 0, 64, .inl (fun _ => 0))), (q3, .inl (T 0, 64, .inl (fun _ => 0))), (q4, .inl (T 5, 64, .inr (.inl (fun _ => 0)))), (q5, .inl (T 5, 64, .inr (.inl (fun _ => 0))))] H := hP
  have hD : va_D (fz_A a0 s.heap.size) [(a0, .inr (7, [.ref q1, .ref q2, .ref q3, .ref q4, .ref q5, .int (0 : Int32), .int (0 : Int32), .long 0])), (q1, .inl (T 0, 192, .inl (fun _ => 0))), (q2, .inl (T 0, 64, .inl (fun _ => 0))), (q3, .inl (T 0, 64, .inl (fun _ => 0))), (q4, .inl (T 5, 64, .inr (.inl (fun _ => 0)))), (q5, .inl (T 5, 64, .inr (.inl (fun _ => 0))))] := hD
  refine lv_aload_n hx hb dX7_init_55 rfl (lv_at hl 0 rfl) ?_
  refine lv_lconst (v := (0 : Int64)) hx hb dX7_init_56 (by decide) ?_
  refine va_put (D := D) (ci := 7) (v := .long (0 : Int64)) (ty := .long) (C := RX7) (T := TX7) (N := 8) hx hb hts ti_X7 tyX7 tyX7_ok nmX7 hown hK hP hD hS 0 rfl rfl 7 (by decide) (hts _ tc41) (fun _ h9 => h9) rfl rfl (by decide +kernel) rfl (Nat.le_of_ble_eq_true rfl) dX7_init_57 (fun H locs hP hD hS => ?_)
  have hP : va_P D vwCl [(a0, .inr (7, [.ref q1, .ref q2, .ref q3, .ref q4, .ref q5, .int (0 : Int32), .int (0 : Int32), .long (0 : Int64)])), (q1, .inl (T 0, 192, .inl (fun _ => 0))), (q2, .inl (T 0, 64, .inl (fun _ => 0))), (q3, .inl (T 0, 64, .inl (fun _ => 0))), (q4, .inl (T 5, 64, .inr (.inl (fun _ => 0)))), (q5, .inl (T 5, 64, .inr (.inl (fun _ => 0))))] H := hP
  have hD : va_D (fz_A a0 s.heap.size) [(a0, .inr (7, [.ref q1, .ref q2, .ref q3, .ref q4, .ref q5, .int (0 : Int32), .int (0 : Int32), .long (0 : Int64)])), (q1, .inl (T 0, 192, .inl (fun _ => 0))), (q2, .inl (T 0, 64, .inl (fun _ => 0))), (q3, .inl (T 0, 64, .inl (fun _ => 0))), (q4, .inl (T 5, 64, .inr (.inl (fun _ => 0)))), (q5, .inl (T 5, 64, .inr (.inl (fun _ => 0))))] := hD
  exact fz_ret (ad := fun id => if id = 21 then q1 else if id = 22 then q2 else if id = 23 then q3 else if id = 24 then q4 else if id = 25 then q5 else a0) hx hb hr hlk rfl (by decide) hP hD hS (by decide) rfl dX7_init_60
set_option maxHeartbeats 4000000 in
set_option maxRecDepth 100000 in
theorem cc_X7_26 (l : Launch) (D : va_G) (T : Nat → ClassId) (a0 sz : Nat) : fz_M l yX7_init cX7_init 1 (fz_rm 1 5 448) D T X_lay X_S0 [] a0 sz 7 [.null, .null, .null, .null, .null, .int 0, .int 0, .long 0] [26, 27, 28, 29, 30, 31] 26 5 448 := by
  refine fz_entry (by decide +kernel) rfl (Nat.le_of_ble_eq_true rfl) ?_
  intro p e s m args below meth c ls hx hb hr hts hown hlk hml hin hK hN hO hP hD hS hl
  have hA : ∀ q : Nat, s.heap.size ≤ q → fz_A a0 s.heap.size q := fun q h => Or.inr h
  refine lv_aload_n hx hb dX7_init_0 rfl (lv_at hl 0 rfl) ?_
  refine W.objInit hx hb hown (hts _ tc33) (hts _ tc1) (hts _ tc2) rfl (by rw [hml]; exact hl.1) rfl dX7_init_1 (Nat.le_of_ble_eq_true rfl) (Nat.le_of_ble_eq_true rfl) ?_
  refine W.eq (g2 := F0 m 4 ls []) rfl ?_
  refine lv_aload_n hx hb dX7_init_4 rfl (lv_at hl 0 rfl) ?_
  refine lv_sipush (v := (192 : Int32)) hx hb dX7_init_5 (by decide) ?_
  refine fz_newa (atype := .int) (ty := .int) (t := 0) (N' := 192) (x0 := (192, .inl (fun _ => 0))) hx hb hts tc18 rfl (fun C h => by cases h) hK rfl hP hD hS hA (fun _ => rfl) (by decide) (by decide) (Nat.le_of_ble_eq_true rfl) (Nat.le_of_ble_eq_true rfl) (Nat.le_of_ble_eq_true rfl) dX7_init_8 (fun q1 H hP hD hS => ?_)
  have hP : va_P D vwCl [(a0, .inr (7, [.null, .null, .null, .null, .null, .int 0, .int 0, .long 0])), (q1, .inl (T 0, 192, .inl (fun _ => 0)))] H := hP
  have hD : va_D (fz_A a0 s.heap.size) [(a0, .inr (7, [.null, .null, .null, .null, .null, .int 0, .int 0, .long 0])), (q1, .inl (T 0, 192, .inl (fun _ => 0)))] := hD
  refine va_putF (D := D) (ci := 7) (v := .ref q1) (ty := .array .int) (C := RX7) (T := TX7) (N := 8) hx hb hts ti_X7 tyX7 tyX7_ok nmX7 hown hK hP hD hS 0 rfl rfl 0 (by decide) (hts _ tc34) (fun _ h9 => h9) rfl hin rfl rfl rfl rfl (Nat.le_of_ble_eq_true rfl) dX7_init_10 (fun H locs hP hD hS => ?_)
  have hP : va_P D vwCl [(a0, .inr (7, [.ref q1, .null, .null, .null, .null, .int 0, .int 0, .long 0])), (q1, .inl (T 0, 192, .inl (fun _ => 0)))] H := hP
  have hD : va_D (fz_A a0 s.heap.size) [(a0, .inr (7, [.ref q1, .null, .null, .null, .null, .int 0, .int 0, .long 0])), (q1, .inl (T 0, 192, .inl (fun _ => 0)))] := hD
  refine lv_aload_n hx hb dX7_init_13 rfl (lv_at hl 0 rfl) ?_
  refine lv_bipush (v := (64 : Int32)) hx hb dX7_init_14 (by decide) ?_
  refine fz_newa (atype := .int) (ty := .int) (t := 0) (N' := 64) (x0 := (64, .inl (fun _ => 0))) hx hb hts tc18 rfl (fun C h => by cases h) hK rfl hP hD hS hA (fun _ => rfl) (by decide) (by decide) (Nat.le_of_ble_eq_true rfl) (Nat.le_of_ble_eq_true rfl) (Nat.le_of_ble_eq_true rfl) dX7_init_16 (fun q2 H hP hD hS => ?_)
  have hP : va_P D vwCl [(a0, .inr (7, [.ref q1, .null, .null, .null, .null, .int 0, .int 0, .long 0])), (q1, .inl (T 0, 192, .inl (fun _ => 0))), (q2, .inl (T 0, 64, .inl (fun _ => 0)))] H := hP
  have hD : va_D (fz_A a0 s.heap.size) [(a0, .inr (7, [.ref q1, .null, .null, .null, .null, .int 0, .int 0, .long 0])), (q1, .inl (T 0, 192, .inl (fun _ => 0))), (q2, .inl (T 0, 64, .inl (fun _ => 0)))] := hD
  refine va_putF (D := D) (ci := 7) (v := .ref q2) (ty := .array .int) (C := RX7) (T := TX7) (N := 8) hx hb hts ti_X7 tyX7 tyX7_ok nmX7 hown hK hP hD hS 0 rfl rfl 1 (by decide) (hts _ tc35) (fun _ h9 => h9) rfl hin rfl rfl rfl rfl (Nat.le_of_ble_eq_true rfl) dX7_init_18 (fun H locs hP hD hS => ?_)
  have hP : va_P D vwCl [(a0, .inr (7, [.ref q1, .ref q2, .null, .null, .null, .int 0, .int 0, .long 0])), (q1, .inl (T 0, 192, .inl (fun _ => 0))), (q2, .inl (T 0, 64, .inl (fun _ => 0)))] H := hP
  have hD : va_D (fz_A a0 s.heap.size) [(a0, .inr (7, [.ref q1, .ref q2, .null, .null, .null, .int 0, .int 0, .long 0])), (q1, .inl (T 0, 192, .inl (fun _ => 0))), (q2, .inl (T 0, 64, .inl (fun _ => 0)))] := hD
  refine lv_aload_n hx hb dX7_init_21 rfl (lv_at hl 0 rfl) ?_
  refine lv_bipush (v := (64 : Int32)) hx hb dX7_init_22 (by decide) ?_
  refine fz_newa (atype := .int) (ty := .int) (t := 0) (N' := 64) (x0 := (64, .inl (fun _ => 0))) hx hb hts tc18 rfl (fun C h => by cases h) hK rfl hP hD hS hA (fun _ => rfl) (by decide) (by decide) (Nat.le_of_ble_eq_true rfl) (Nat.le_of_ble_eq_true rfl) (Nat.le_of_ble_eq_true rfl) dX7_init_24 (fun q3 H hP hD hS => ?_)
  have hP : va_P D vwCl [(a0, .inr (7, [.ref q1, .ref q2, .null, .null, .null, .int 0, .int 0, .long 0])), (q1, .inl (T 0, 192, .inl (fun _ => 0))), (q2, .inl (T 0, 64, .inl (fun _ => 0))), (q3, .inl (T 0, 64, .inl (fun _ => 0)))] H := hP
  have hD : va_D (fz_A a0 s.heap.size) [(a0, .inr (7, [.ref q1, .ref q2, .null, .null, .null, .int 0, .int 0, .long 0])), (q1, .inl (T 0, 192, .inl (fun _ => 0))), (q2, .inl (T 0, 64, .inl (fun _ => 0))), (q3, .inl (T 0, 64, .inl (fun _ => 0)))] := hD
  refine va_putF (D := D) (ci := 7) (v := .ref q3) (ty := .array .int) (C := RX7) (T := TX7) (N := 8) hx hb hts ti_X7 tyX7 tyX7_ok nmX7 hown hK hP hD hS 0 rfl rfl 2 (by decide) (hts _ tc36) (fun _ h9 => h9) rfl hin rfl rfl rfl rfl (Nat.le_of_ble_eq_true rfl) dX7_init_26 (fun H locs hP hD hS => ?_)
  have hP : va_P D vwCl [(a0, .inr (7, [.ref q1, .ref q2, .ref q3, .null, .null, .int 0, .int 0, .long 0])), (q1, .inl (T 0, 192, .inl (fun _ => 0))), (q2, .inl (T 0, 64, .inl (fun _ => 0))), (q3, .inl (T 0, 64, .inl (fun _ => 0)))] H := hP
  have hD : va_D (fz_A a0 s.heap.size) [(a0, .inr (7, [.ref q1, .ref q2, .ref q3, .null, .null, .int 0, .int 0, .long 0])), (q1, .inl (T 0, 192, .inl (fun _ => 0))), (q2, .inl (T 0, 64, .inl (fun _ => 0))), (q3, .inl (T 0, 64, .inl (fun _ => 0)))] := hD
  refine lv_aload_n hx hb dX7_init_29 rfl (lv_at hl 0 rfl) ?_
  refine lv_bipush (v := (64 : Int32)) hx hb dX7_init_30 (by decide) ?_
  refine fz_newa (atype := .long) (ty := .long) (t := 5) (N' := 64) (x0 := (64, .inr (.inl (fun _ => 0)))) hx hb hts tc7 rfl (fun C h => by cases h) hK rfl hP hD hS hA (fun _ => rfl) (by decide) (by decide) (Nat.le_of_ble_eq_true rfl) (Nat.le_of_ble_eq_true rfl) (Nat.le_of_ble_eq_true rfl) dX7_init_32 (fun q4 H hP hD hS => ?_)
  have hP : va_P D vwCl [(a0, .inr (7, [.ref q1, .ref q2, .ref q3, .null, .null, .int 0, .int 0, .long 0])), (q1, .inl (T 0, 192, .inl (fun _ => 0))), (q2, .inl (T 0, 64, .inl (fun _ => 0))), (q3, .inl (T 0, 64, .inl (fun _ => 0))), (q4, .inl (T 5, 64, .inr (.inl (fun _ => 0))))] H := hP
  have hD : va_D (fz_A a0 s.heap.size) [(a0, .inr (7, [.ref q1, .ref q2, .ref q3, .null, .null, .int 0, .int 0, .long 0])), (q1, .inl (T 0, 192, .inl (fun _ => 0))), (q2, .inl (T 0, 64, .inl (fun _ => 0))), (q3, .inl (T 0, 64, .inl (fun _ => 0))), (q4, .inl (T 5, 64, .inr (.inl (fun _ => 0))))] := hD
  refine va_putF (D := D) (ci := 7) (v := .ref q4) (ty := .array .long) (C := RX7) (T := TX7) (N := 8) hx hb hts ti_X7 tyX7 tyX7_ok nmX7 hown hK hP hD hS 0 rfl rfl 3 (by decide) (hts _ tc37) (fun _ h9 => h9) rfl hin rfl rfl rfl rfl (Nat.le_of_ble_eq_true rfl) dX7_init_34 (fun H locs hP hD hS => ?_)
  have hP : va_P D vwCl [(a0, .inr (7, [.ref q1, .ref q2, .ref q3, .ref q4, .null, .int 0, .int 0, .long 0])), (q1, .inl (T 0, 192, .inl (fun _ => 0))), (q2, .inl (T 0, 64, .inl (fun _ => 0))), (q3, .inl (T 0, 64, .inl (fun _ => 0))), (q4, .inl (T 5, 64, .inr (.inl (fun _ => 0))))] H := hP
  have hD : va_D (fz_A a0 s.heap.size) [(a0, .inr (7, [.ref q1, .ref q2, .ref q3, .ref q4, .null, .int 0, .int 0, .long 0])), (q1, .inl (T 0, 192, .inl (fun _ => 0))), (q2, .inl (T 0, 64, .inl (fun _ => 0))), (q3, .inl (T 0, 64, .inl (fun _ => 0))), (q4, .inl (T 5, 64, .inr (.inl (fun _ => 0))))] := hD
  refine lv_aload_n hx hb dX7_init_37 rfl (lv_at hl 0 rfl) ?_
  refine lv_bipush (v := (64 : Int32)) hx hb dX7_init_38 (by decide) ?_
  refine fz_newa (atype := .long) (ty := .long) (t := 5) (N' := 64) (x0 := (64, .inr (.inl (fun _ => 0)))) hx hb hts tc7 rfl (fun C h => by cases h) hK rfl hP hD hS hA (fun _ => rfl) (by decide) (by decide) (Nat.le_of_ble_eq_true rfl) (Nat.le_of_ble_eq_true rfl) (Nat.le_of_ble_eq_true rfl) dX7_init_40 (fun q5 H hP hD hS => ?_)
  have hP : va_P D vwCl [(a0, .inr (7, [.ref q1, .ref q2, .ref q3, .ref q4, .null, .int 0, .int 0, .long 0])), (q1, .inl (T 0, 192, .inl (fun _ => 0))), (q2, .inl (T 0, 64, .inl (fun _ => 0))), (q3, .inl (T 0, 64, .inl (fun _ => 0))), (q4, .inl (T 5, 64, .inr (.inl (fun _ => 0)))), (q5, .inl (T 5, 64, .inr (.inl (fun _ => 0))))] H := hP
  have hD : va_D (fz_A a0 s.heap.size) [(a0, .inr (7, [.ref q1, .ref q2, .ref q3, .ref q4, .null, .int 0, .int 0, .long 0])), (q1, .inl (T 0, 192, .inl (fun _ => 0))), (q2, .inl (T 0, 64, .inl (fun _ => 0))), (q3, .inl (T 0, 64, .inl (fun _ => 0))), (q4, .inl (T 5, 64, .inr (.inl (fun _ => 0)))), (q5, .inl (T 5, 64, .inr (.inl (fun _ => 0))))] := hD
  refine va_putF (D := D) (ci := 7) (v := .ref q5) (ty := .array .long) (C := RX7) (T := TX7) (N := 8) hx hb hts ti_X7 tyX7 tyX7_ok nmX7 hown hK hP hD hS 0 rfl rfl 4 (by decide) (hts _ tc38) (fun _ h9 => h9) rfl hin rfl rfl rfl rfl (Nat.le_of_ble_eq_true rfl) dX7_init_42 (fun H locs hP hD hS => ?_)
  have hP : va_P D vwCl [(a0, .inr (7, [.ref q1, .ref q2, .ref q3, .ref q4, .ref q5, .int 0, .int 0, .long 0])), (q1, .inl (T 0, 192, .inl (fun _ => 0))), (q2, .inl (T 0, 64, .inl (fun _ => 0))), (q3, .inl (T 0, 64, .inl (fun _ => 0))), (q4, .inl (T 5, 64, .inr (.inl (fun _ => 0)))), (q5, .inl (T 5, 64, .inr (.inl (fun _ => 0))))] H := hP
  have hD : va_D (fz_A a0 s.heap.size) [(a0, .inr (7, [.ref q1, .ref q2, .ref q3, .ref q4, .ref q5, .int 0, .int 0, .long 0])), (q1, .inl (T 0, 192, .inl (fun _ => 0))), (q2, .inl (T 0, 64, .inl (fun _ => 0))), (q3, .inl (T 0, 64, .inl (fun _ => 0))), (q4, .inl (T 5, 64, .inr (.inl (fun _ => 0)))), (q5, .inl (T 5, 64, .inr (.inl (fun _ => 0))))] := hD
  refine lv_aload_n hx hb dX7_init_45 rfl (lv_at hl 0 rfl) ?_
  refine lv_iconst (v := (0 : Int32)) hx hb dX7_init_46 (by decide) ?_
  refine va_put (D := D) (ci := 7) (v := .int (0 : Int32)) (ty := .int) (C := RX7) (T := TX7) (N := 8) hx hb hts ti_X7 tyX7 tyX7_ok nmX7 hown hK hP hD hS 0 rfl rfl 5 (by decide) (hts _ tc39) (fun _ h9 => h9) rfl rfl (by decide +kernel) rfl (Nat.le_of_ble_eq_true rfl) dX7_init_47 (fun H locs hP hD hS => ?_)
  have hP : va_P D vwCl [(a0, .inr (7, [.ref q1, .ref q2, .ref q3, .ref q4, .ref q5, .int (0 : Int32), .int 0, .long 0])), (q1, .inl (T 0, 192, .inl (fun _ => 0))), (q2, .inl (T 0, 64, .inl (fun _ => 0))), (q3, .inl (T 0, 64, .inl (fun _ => 0))), (q4, .inl (T 5, 64, .inr (.inl (fun _ => 0)))), (q5, .inl (T 5, 64, .inr (.inl (fun _ => 0))))] H := hP
  have hD : va_D (fz_A a0 s.heap.size) [(a0, .inr (7, [.ref q1, .ref q2, .ref q3, .ref q4, .ref q5, .int (0 : Int32), .int 0, .long 0])), (q1, .inl (T 0, 192, .inl (fun _ => 0))), (q2, .inl (T 0, 64, .inl (fun _ => 0))), (q3, .inl (T 0, 64, .inl (fun _ => 0))), (q4, .inl (T 5, 64, .inr (.inl (fun _ => 0)))), (q5, .inl (T 5, 64, .inr (.inl (fun _ => 0))))] := hD
  refine lv_aload_n hx hb dX7_init_50 rfl (lv_at hl 0 rfl) ?_
  refine lv_iconst (v := (0 : Int32)) hx hb dX7_init_51 (by decide) ?_
  refine va_put (D := D) (ci := 7) (v := .int (0 : Int32)) (ty := .int) (C := RX7) (T := TX7) (N := 8) hx hb hts ti_X7 tyX7 tyX7_ok nmX7 hown hK hP hD hS 0 rfl rfl 6 (by decide) (hts _ tc40) (fun _ h9 => h9) rfl rfl (by decide +kernel) rfl (Nat.le_of_ble_eq_true rfl) dX7_init_52 (fun H locs hP hD hS => ?_)
  have hP : va_P D vwCl [(a0, .inr (7, [.ref q1, .ref q2, .ref q3, .ref q4, .ref q5, .int (0 : Int32), .int (0 : Int32), .long 0])), (q1, .inl (T 0, 192, .inl (fun _ => 0))), (q2, .inl (T 0, 64, .inl (fun _ => 0))), (q3, .inl (T 0, 64, .inl (fun _ => 0))), (q4, .inl (T 5, 64, .inr (.inl (fun _ => 0)))), (q5, .inl (T 5, 64, .inr (.inl (fun _ => 0))))] H := hP
  have hD : va_D (fz_A a0 s.heap.size) [(a0, .inr (7, [.ref q1, .ref q2, .ref q3, .ref q4, .ref q5, .int (0 : Int32), .int (0 : Int32), .long 0])), (q1, .inl (T 0, 192, .inl (fun _ => 0))), (q2, .inl (T 0, 64, .inl (fun _ => 0))), (q3, .inl (T 0, 64, .inl (fun _ => 0))), (q4, .inl (T 5, 64, .inr (.inl (fun _ => 0)))), (q5, .inl (T 5, 64, .inr (.inl (fun _ => 0))))] := hD
  refine lv_aload_n hx hb dX7_init_55 rfl (lv_at hl 0 rfl) ?_
  refine lv_lconst (v := (0 : Int64)) hx hb dX7_init_56 (by decide) ?_
  refine va_put (D := D) (ci := 7) (v := .long (0 : Int64)) (ty := .long) (C := RX7) (T := TX7) (N := 8) hx hb hts ti_X7 tyX7 tyX7_ok nmX7 hown hK hP hD hS 0 rfl rfl 7 (by decide) (hts _ tc41) (fun _ h9 => h9) rfl rfl (by decide +kernel) rfl (Nat.le_of_ble_eq_true rfl) dX7_init_57 (fun H locs hP hD hS => ?_)
  have hP : va_P D vwCl [(a0, .inr (7, [.ref q1, .ref q2, .ref q3, .ref q4, .ref q5, .int (0 : Int32), .int (0 : Int32), .long (0 : Int64)])), (q1, .inl (T 0, 192, .inl (fun _ => 0))), (q2, .inl (T 0, 64, .inl (fun _ => 0))), (q3, .inl (T 0, 64, .inl (fun _ => 0))), (q4, .inl (T 5, 64, .inr (.inl (fun _ => 0)))), (q5, .inl (T 5, 64, .inr (.inl (fun _ => 0))))] H := hP
  have hD : va_D (fz_A a0 s.heap.size) [(a0, .inr (7, [.ref q1, .ref q2, .ref q3, .ref q4, .ref q5, .int (0 : Int32), .int (0 : Int32), .long (0 : Int64)])), (q1, .inl (T 0, 192, .inl (fun _ => 0))), (q2, .inl (T 0, 64, .inl (fun _ => 0))), (q3, .inl (T 0, 64, .inl (fun _ => 0))), (q4, .inl (T 5, 64, .inr (.inl (fun _ => 0)))), (q5, .inl (T 5, 64, .inr (.inl (fun _ => 0))))] := hD
  exact fz_ret (ad := fun id => if id = 27 then q1 else if id = 28 then q2 else if id = 29 then q3 else if id = 30 then q4 else if id = 31 then q5 else a0) hx hb hr hlk rfl (by decide) hP hD hS (by decide) rfl dX7_init_60
set_option maxHeartbeats 4000000 in
set_option maxRecDepth 100000 in
theorem cc_X1 (l : Launch) (D : va_G) (T : Nat → ClassId) (a0 sz : Nat) : fz_M l yX1_init cX1_init 1 (fz_rm 1 1 64) D T X_lay X_S0 [] a0 sz 1 [.null, .int 0] [32, 33] 32 1 64 := by
  refine fz_entry (by decide +kernel) rfl (Nat.le_of_ble_eq_true rfl) ?_
  intro p e s m args below meth c ls hx hb hr hts hown hlk hml hin hK hN hO hP hD hS hl
  have hA : ∀ q : Nat, s.heap.size ≤ q → fz_A a0 s.heap.size q := fun q h => Or.inr h
  refine lv_aload_n hx hb dX1_init_0 rfl (lv_at hl 0 rfl) ?_
  refine W.objInit hx hb hown (hts _ tc42) (hts _ tc1) (hts _ tc2) rfl (by rw [hml]; exact hl.1) rfl dX1_init_1 (Nat.le_of_ble_eq_true rfl) (Nat.le_of_ble_eq_true rfl) ?_
  refine W.eq (g2 := F0 m 4 ls []) rfl ?_
  refine lv_aload_n hx hb dX1_init_4 rfl (lv_at hl 0 rfl) ?_
  refine lv_bipush (v := (64 : Int32)) hx hb dX1_init_5 (by decide) ?_
  refine fz_newa (atype := .int) (ty := .int) (t := 0) (N' := 64) (x0 := (64, .inl (fun _ => 0))) hx hb hts tc18 rfl (fun C h => by cases h) hK rfl hP hD hS hA (fun _ => rfl) (by decide) (by decide) (Nat.le_of_ble_eq_true rfl) (Nat.le_of_ble_eq_true rfl) (Nat.le_of_ble_eq_true rfl) dX1_init_7 (fun q1 H hP hD hS => ?_)
  have hP : va_P D vwCl [(a0, .inr (1, [.null, .int 0])), (q1, .inl (T 0, 64, .inl (fun _ => 0)))] H := hP
  have hD : va_D (fz_A a0 s.heap.size) [(a0, .inr (1, [.null, .int 0])), (q1, .inl (T 0, 64, .inl (fun _ => 0)))] := hD
  refine va_putF (D := D) (ci := 1) (v := .ref q1) (ty := .array .int) (C := RX1) (T := TX1) (N := 2) hx hb hts ti_X1 tyX1 tyX1_ok nmX1 hown hK hP hD hS 0 rfl rfl 0 (by decide) (hts _ tc43) (fun _ h9 => h9) rfl hin rfl rfl rfl rfl (Nat.le_of_ble_eq_true rfl) dX1_init_9 (fun H locs hP hD hS => ?_)
  have hP : va_P D vwCl [(a0, .inr (1, [.ref q1, .int 0])), (q1, .inl (T 0, 64, .inl (fun _ => 0)))] H := hP
  have hD : va_D (fz_A a0 s.heap.size) [(a0, .inr (1, [.ref q1, .int 0])), (q1, .inl (T 0, 64, .inl (fun _ => 0)))] := hD
  refine lv_aload_n hx hb dX1_init_12 rfl (lv_at hl 0 rfl) ?_
  refine lv_ldc (v := (1000000000 : Int32)) hx hb hown (hts _ tc44) dX1_init_13 ?_
  refine va_put (D := D) (ci := 1) (v := .int (1000000000 : Int32)) (ty := .int) (C := RX1) (T := TX1) (N := 2) hx hb hts ti_X1 tyX1 tyX1_ok nmX1 hown hK hP hD hS 0 rfl rfl 1 (by decide) (hts _ tc45) (fun _ h9 => h9) rfl rfl (by decide +kernel) rfl (Nat.le_of_ble_eq_true rfl) dX1_init_15 (fun H locs hP hD hS => ?_)
  have hP : va_P D vwCl [(a0, .inr (1, [.ref q1, .int (1000000000 : Int32)])), (q1, .inl (T 0, 64, .inl (fun _ => 0)))] H := hP
  have hD : va_D (fz_A a0 s.heap.size) [(a0, .inr (1, [.ref q1, .int (1000000000 : Int32)])), (q1, .inl (T 0, 64, .inl (fun _ => 0)))] := hD
  exact fz_ret (ad := fun id => if id = 33 then q1 else a0) hx hb hr hlk rfl (by decide) hP hD hS (by decide) rfl dX1_init_18
