noncomputable section
def J13_bitCount_95d88 (S : fy_S) (v0 : Int64) : Option (Int32) :=
  fy_bl (v0 - ((fy_lus v0 (1 : Int32)) &&& (6148914691236517205 : Int64))) fun x9 =>
  fy_bl ((x9 &&& (3689348814741910323 : Int64)) + ((fy_lus x9 (2 : Int32)) &&& (3689348814741910323 : Int64))) fun x23 =>
  fy_bl ((x23 + (fy_lus x23 (4 : Int32))) &&& (1085102592571150095 : Int64)) fun x33 =>
  fy_bl (x33 + (fy_lus x33 (8 : Int32))) fun x40 =>
  fy_bl (x40 + (fy_lus x40 (16 : Int32))) fun x47 =>
  fy_bl (x47 + (fy_lus x47 (32 : Int32))) fun x54 =>
  some ((x54.toInt32) &&& (127 : Int32))
set_option maxHeartbeats 4000000 in
set_option maxRecDepth 100000 in
theorem t_J13_bitCount_95d88 {p : Program} {l : Launch} {e : Env} {s : State} {m : MethodId} {args : Array Value} {below : List Frame} {meth : Method} {c : Code} {g : fy_G} {y : fy_Y} (C : fy_C g y p s m args meth c yJ13_bitCount_95d88.cls cJ13_bitCount_95d88 2 (some .int)) (hcl : X_clo y) {S : fy_S} {v0 : Int64} {rr : Int32}  {H : Heap} {locs : List Loc} {ls : Array Slot} (h : J13_bitCount_95d88 S v0 = some rr) (w : fy_W g y S s H locs) (hl : lv_has ls 2 [(0, .long v0)]) : W p l e (fy_rm 0) s m args below meth c H locs 0 0 (MQ below (fy_QI g y rr S) args s 0 0 (fy_A g y)) (F0 m 0 ls []) := by
  obtain ⟨hx, hb, hr, hts, hown, hlk, hml, hK, hD, hE, hN⟩ := id C
  rw [J13_bitCount_95d88] at h
  refine lv_lload_n hx hb dJ13_bitCount_95d88_0 rfl (lv_at hl 0 rfl) ?_
  refine lv_lload_n hx hb dJ13_bitCount_95d88_1 rfl (lv_at hl 0 rfl) ?_
  refine lv_iconst (v := (1 : Int32)) hx hb dJ13_bitCount_95d88_2 (by decide) ?_
  refine lv_lushr (v := fy_lus v0 (1 : Int32)) hx hb dJ13_bitCount_95d88_3 rfl ?_
  refine lv_ldc2 (v := (6148914691236517205 : Int64)) hx hb hown (hts _ tw430) dJ13_bitCount_95d88_4 ?_
  refine lv_land hx hb dJ13_bitCount_95d88_7 ?_
  refine lv_lsub hx hb dJ13_bitCount_95d88_8 ?_
  refine lv_topl (fun x9 e9 => ?_)
  have h := fy_bl_some e9 h
  refine lv_lstore_n (lv' := [(0, .long x9)]) hx hb dJ13_bitCount_95d88_9 rfl hl (by decide) rfl (fun ls hl => ?_)
  refine lv_lload_n hx hb dJ13_bitCount_95d88_10 rfl (lv_at hl 0 rfl) ?_
  refine lv_ldc2 (v := (3689348814741910323 : Int64)) hx hb hown (hts _ tw431) dJ13_bitCount_95d88_11 ?_
  refine lv_land hx hb dJ13_bitCount_95d88_14 ?_
  refine lv_lload_n hx hb dJ13_bitCount_95d88_15 rfl (lv_at hl 0 rfl) ?_
  refine lv_iconst (v := (2 : Int32)) hx hb dJ13_bitCount_95d88_16 (by decide) ?_
  refine lv_lushr (v := fy_lus x9 (2 : Int32)) hx hb dJ13_bitCount_95d88_17 rfl ?_
  refine lv_ldc2 (v := (3689348814741910323 : Int64)) hx hb hown (hts _ tw431) dJ13_bitCount_95d88_18 ?_
  refine lv_land hx hb dJ13_bitCount_95d88_21 ?_
  refine lv_ladd hx hb dJ13_bitCount_95d88_22 ?_
  refine lv_topl (fun x23 e23 => ?_)
  have h := fy_bl_some e23 h
  refine lv_lstore_n (lv' := [(0, .long x23)]) hx hb dJ13_bitCount_95d88_23 rfl hl (by decide) rfl (fun ls hl => ?_)
  refine lv_lload_n hx hb dJ13_bitCount_95d88_24 rfl (lv_at hl 0 rfl) ?_
  refine lv_lload_n hx hb dJ13_bitCount_95d88_25 rfl (lv_at hl 0 rfl) ?_
  refine lv_iconst (v := (4 : Int32)) hx hb dJ13_bitCount_95d88_26 (by decide) ?_
  refine lv_lushr (v := fy_lus x23 (4 : Int32)) hx hb dJ13_bitCount_95d88_27 rfl ?_
  refine lv_ladd hx hb dJ13_bitCount_95d88_28 ?_
  refine lv_ldc2 (v := (1085102592571150095 : Int64)) hx hb hown (hts _ tw432) dJ13_bitCount_95d88_29 ?_
  refine lv_land hx hb dJ13_bitCount_95d88_32 ?_
  refine lv_topl (fun x33 e33 => ?_)
  have h := fy_bl_some e33 h
  refine lv_lstore_n (lv' := [(0, .long x33)]) hx hb dJ13_bitCount_95d88_33 rfl hl (by decide) rfl (fun ls hl => ?_)
  refine lv_lload_n hx hb dJ13_bitCount_95d88_34 rfl (lv_at hl 0 rfl) ?_
  refine lv_lload_n hx hb dJ13_bitCount_95d88_35 rfl (lv_at hl 0 rfl) ?_
  refine lv_bipush (v := (8 : Int32)) hx hb dJ13_bitCount_95d88_36 (by decide) ?_
  refine lv_lushr (v := fy_lus x33 (8 : Int32)) hx hb dJ13_bitCount_95d88_38 rfl ?_
  refine lv_ladd hx hb dJ13_bitCount_95d88_39 ?_
  refine lv_topl (fun x40 e40 => ?_)
  have h := fy_bl_some e40 h
  refine lv_lstore_n (lv' := [(0, .long x40)]) hx hb dJ13_bitCount_95d88_40 rfl hl (by decide) rfl (fun ls hl => ?_)
  refine lv_lload_n hx hb dJ13_bitCount_95d88_41 rfl (lv_at hl 0 rfl) ?_
  refine lv_lload_n hx hb dJ13_bitCount_95d88_42 rfl (lv_at hl 0 rfl) ?_
  refine lv_bipush (v := (16 : Int32)) hx hb dJ13_bitCount_95d88_43 (by decide) ?_
  refine lv_lushr (v := fy_lus x40 (16 : Int32)) hx hb dJ13_bitCount_95d88_45 rfl ?_
  refine lv_ladd hx hb dJ13_bitCount_95d88_46 ?_
  refine lv_topl (fun x47 e47 => ?_)
  have h := fy_bl_some e47 h
  refine lv_lstore_n (lv' := [(0, .long x47)]) hx hb dJ13_bitCount_95d88_47 rfl hl (by decide) rfl (fun ls hl => ?_)
  refine lv_lload_n hx hb dJ13_bitCount_95d88_48 rfl (lv_at hl 0 rfl) ?_
  refine lv_lload_n hx hb dJ13_bitCount_95d88_49 rfl (lv_at hl 0 rfl) ?_
  refine lv_bipush (v := (32 : Int32)) hx hb dJ13_bitCount_95d88_50 (by decide) ?_
  refine lv_lushr (v := fy_lus x47 (32 : Int32)) hx hb dJ13_bitCount_95d88_52 rfl ?_
  refine lv_ladd hx hb dJ13_bitCount_95d88_53 ?_
  refine lv_topl (fun x54 e54 => ?_)
  have h := fy_bl_some e54 h
  refine lv_lstore_n (lv' := [(0, .long x54)]) hx hb dJ13_bitCount_95d88_54 rfl hl (by decide) rfl (fun ls hl => ?_)
  refine lv_lload_n hx hb dJ13_bitCount_95d88_55 rfl (lv_at hl 0 rfl) ?_
  refine lv_l2i (v := (x54.toInt32)) hx hb dJ13_bitCount_95d88_56 rfl ?_
  refine lv_bipush (v := (127 : Int32)) hx hb dJ13_bitCount_95d88_57 (by decide) ?_
  refine lv_iand hx hb dJ13_bitCount_95d88_59 ?_
  cases h
  exact fy_retI C w dJ13_bitCount_95d88_60

set_option maxHeartbeats 4000000 in
set_option maxRecDepth 100000 in
theorem c_J13_bitCount_95d88 (l : Launch) (g : fy_G) {y : fy_Y} (hcl : X_clo y) {S : fy_S} {v0 : Int64} {rr : Int32}  (h : J13_bitCount_95d88 S v0 = some rr) : fy_M g y l yJ13_bitCount_95d88 cJ13_bitCount_95d88 2 (some .int) (fy_rm 0) [.long v0] S (fy_QI g y rr S) :=
  fy_entry (by decide +kernel) (Nat.le_of_ble_eq_true rfl) (fun p e s m args below meth c ls C w hl => t_J13_bitCount_95d88 C hcl  h w hl)
def J6_bitCount_0f7a4 (S : fy_S) (v0 : Int32) : Option (Int32) :=
  fy_bl (v0 - ((fy_ius v0 (1 : Int32)) &&& (1431655765 : Int32))) fun x9 =>
  fy_bl ((x9 &&& (858993459 : Int32)) + ((fy_ius x9 (2 : Int32)) &&& (858993459 : Int32))) fun x23 =>
  fy_bl ((x23 + (fy_ius x23 (4 : Int32))) &&& (252645135 : Int32)) fun x33 =>
  fy_bl (x33 + (fy_ius x33 (8 : Int32))) fun x40 =>
  fy_bl (x40 + (fy_ius x40 (16 : Int32))) fun x47 =>
  some (x47 &&& (63 : Int32))
set_option maxHeartbeats 4000000 in
set_option maxRecDepth 100000 in
theorem t_J6_bitCount_0f7a4 {p : Program} {l : Launch} {e : Env} {s : State} {m : MethodId} {args : Array Value} {below : List Frame} {meth : Method} {c : Code} {g : fy_G} {y : fy_Y} (C : fy_C g y p s m args meth c yJ6_bitCount_0f7a4.cls cJ6_bitCount_0f7a4 1 (some .int)) (hcl : X_clo y) {S : fy_S} {v0 : Int32} {rr : Int32}  {H : Heap} {locs : List Loc} {ls : Array Slot} (h : J6_bitCount_0f7a4 S v0 = some rr) (w : fy_W g y S s H locs) (hl : lv_has ls 1 [(0, .int v0)]) : W p l e (fy_rm 0) s m args below meth c H locs 0 0 (MQ below (fy_QI g y rr S) args s 0 0 (fy_A g y)) (F0 m 0 ls []) := by
  obtain ⟨hx, hb, hr, hts, hown, hlk, hml, hK, hD, hE, hN⟩ := id C
  rw [J6_bitCount_0f7a4] at h
  refine lv_iload_n hx hb dJ6_bitCount_0f7a4_0 rfl (lv_at hl 0 rfl) ?_
  refine lv_iload_n hx hb dJ6_bitCount_0f7a4_1 rfl (lv_at hl 0 rfl) ?_
  refine lv_iconst (v := (1 : Int32)) hx hb dJ6_bitCount_0f7a4_2 (by decide) ?_
  refine lv_iushr (v := fy_ius v0 (1 : Int32)) hx hb dJ6_bitCount_0f7a4_3 rfl ?_
  refine lv_ldcw (v := (1431655765 : Int32)) hx hb hown (hts _ tw433) dJ6_bitCount_0f7a4_4 ?_
  refine lv_iand hx hb dJ6_bitCount_0f7a4_7 ?_
  refine lv_isub hx hb dJ6_bitCount_0f7a4_8 ?_
  refine lv_topi (fun x9 e9 => ?_)
  have h := fy_bl_some e9 h
  refine lv_istore_n (lv' := [(0, .int x9)]) hx hb dJ6_bitCount_0f7a4_9 rfl hl (by decide) rfl (fun ls hl => ?_)
  refine lv_iload_n hx hb dJ6_bitCount_0f7a4_10 rfl (lv_at hl 0 rfl) ?_
  refine lv_ldcw (v := (858993459 : Int32)) hx hb hown (hts _ tw434) dJ6_bitCount_0f7a4_11 ?_
  refine lv_iand hx hb dJ6_bitCount_0f7a4_14 ?_
  refine lv_iload_n hx hb dJ6_bitCount_0f7a4_15 rfl (lv_at hl 0 rfl) ?_
  refine lv_iconst (v := (2 : Int32)) hx hb dJ6_bitCount_0f7a4_16 (by decide) ?_
  refine lv_iushr (v := fy_ius x9 (2 : Int32)) hx hb dJ6_bitCount_0f7a4_17 rfl ?_
  refine lv_ldcw (v := (858993459 : Int32)) hx hb hown (hts _ tw434) dJ6_bitCount_0f7a4_18 ?_
  refine lv_iand hx hb dJ6_bitCount_0f7a4_21 ?_
  refine lv_iadd hx hb dJ6_bitCount_0f7a4_22 ?_
  refine lv_topi (fun x23 e23 => ?_)
  have h := fy_bl_some e23 h
  refine lv_istore_n (lv' := [(0, .int x23)]) hx hb dJ6_bitCount_0f7a4_23 rfl hl (by decide) rfl (fun ls hl => ?_)
  refine lv_iload_n hx hb dJ6_bitCount_0f7a4_24 rfl (lv_at hl 0 rfl) ?_
  refine lv_iload_n hx hb dJ6_bitCount_0f7a4_25 rfl (lv_at hl 0 rfl) ?_
  refine lv_iconst (v := (4 : Int32)) hx hb dJ6_bitCount_0f7a4_26 (by decide) ?_
  refine lv_iushr (v := fy_ius x23 (4 : Int32)) hx hb dJ6_bitCount_0f7a4_27 rfl ?_
  refine lv_iadd hx hb dJ6_bitCount_0f7a4_28 ?_
  refine lv_ldcw (v := (252645135 : Int32)) hx hb hown (hts _ tw435) dJ6_bitCount_0f7a4_29 ?_
  refine lv_iand hx hb dJ6_bitCount_0f7a4_32 ?_
  refine lv_topi (fun x33 e33 => ?_)
  have h := fy_bl_some e33 h
  refine lv_istore_n (lv' := [(0, .int x33)]) hx hb dJ6_bitCount_0f7a4_33 rfl hl (by decide) rfl (fun ls hl => ?_)
  refine lv_iload_n hx hb dJ6_bitCount_0f7a4_34 rfl (lv_at hl 0 rfl) ?_
  refine lv_iload_n hx hb dJ6_bitCount_0f7a4_35 rfl (lv_at hl 0 rfl) ?_
  refine lv_bipush (v := (8 : Int32)) hx hb dJ6_bitCount_0f7a4_36 (by decide) ?_
  refine lv_iushr (v := fy_ius x33 (8 : Int32)) hx hb dJ6_bitCount_0f7a4_38 rfl ?_
  refine lv_iadd hx hb dJ6_bitCount_0f7a4_39 ?_
  refine lv_topi (fun x40 e40 => ?_)
  have h := fy_bl_some e40 h
  refine lv_istore_n (lv' := [(0, .int x40)]) hx hb dJ6_bitCount_0f7a4_40 rfl hl (by decide) rfl (fun ls hl => ?_)
  refine lv_iload_n hx hb dJ6_bitCount_0f7a4_41 rfl (lv_at hl 0 rfl) ?_
  refine lv_iload_n hx hb dJ6_bitCount_0f7a4_42 rfl (lv_at hl 0 rfl) ?_
  refine lv_bipush (v := (16 : Int32)) hx hb dJ6_bitCount_0f7a4_43 (by decide) ?_
  refine lv_iushr (v := fy_ius x40 (16 : Int32)) hx hb dJ6_bitCount_0f7a4_45 rfl ?_
  refine lv_iadd hx hb dJ6_bitCount_0f7a4_46 ?_
  refine lv_topi (fun x47 e47 => ?_)
  have h := fy_bl_some e47 h
  refine lv_istore_n (lv' := [(0, .int x47)]) hx hb dJ6_bitCount_0f7a4_47 rfl hl (by decide) rfl (fun ls hl => ?_)
  refine lv_iload_n hx hb dJ6_bitCount_0f7a4_48 rfl (lv_at hl 0 rfl) ?_
  refine lv_bipush (v := (63 : Int32)) hx hb dJ6_bitCount_0f7a4_49 (by decide) ?_
  refine lv_iand hx hb dJ6_bitCount_0f7a4_51 ?_
  cases h
  exact fy_retI C w dJ6_bitCount_0f7a4_52

set_option maxHeartbeats 4000000 in
set_option maxRecDepth 100000 in
theorem c_J6_bitCount_0f7a4 (l : Launch) (g : fy_G) {y : fy_Y} (hcl : X_clo y) {S : fy_S} {v0 : Int32} {rr : Int32}  (h : J6_bitCount_0f7a4 S v0 = some rr) : fy_M g y l yJ6_bitCount_0f7a4 cJ6_bitCount_0f7a4 1 (some .int) (fy_rm 0) [.int v0] S (fy_QI g y rr S) :=
  fy_entry (by decide +kernel) (Nat.le_of_ble_eq_true rfl) (fun p e s m args below meth c ls C w hl => t_J6_bitCount_0f7a4 C hcl  h w hl)
def X9_setAtPosition_15 (S : fy_S) (k5 : Int64 → Int32 → Int32 → Option (Int32)) : Nat → Int64 → Int32 → Int32 → Int32 → Option (Int32)
  | 0, _, _, _, _ => none
  | fu + 1, v0, v3, v4, v5 =>
    if (64 : Int32) ≤ v5 then (
      fy_bl (v4 + (1 : Int32)) fun x57 =>
      k5 v0 v3 x57)
    else (
      fy_bd (X9_isIn S v0 v5) fun r25 =>
      if r25 = 0 then (
        fy_bl (v5 + (1 : Int32)) fun x51 =>
        X9_setAtPosition_15 S k5 fu v0 v3 v4 x51)
      else (
        fy_bd (J6_bitCount_0f7a4 S v5) fun r33 =>
        if r33 = v4 then (
          if v3 = 0 then (
            some v5)
          else (
            fy_bl (v3 + (-1 : Int32)) fun x48 =>
            fy_bl (v5 + (1 : Int32)) fun x51 =>
            X9_setAtPosition_15 S k5 fu v0 x48 v4 x51))
        else (
          fy_bl (v5 + (1 : Int32)) fun x51 =>
          X9_setAtPosition_15 S k5 fu v0 v3 v4 x51)))
def X9_setAtPosition_5 (S : fy_S) : Nat → Int64 → Int32 → Int32 → Option (Int32)
  | 0, _, _, _ => none
  | fu + 1, v0, v3, v4 =>
    if (6 : Int32) < v4 then (
      some (-1 : Int32))
    else (
      X9_setAtPosition_15 S (fun v0 v3 v4 => X9_setAtPosition_5 S fu v0 v3 v4) fy_fu v0 v3 v4 (0 : Int32))
def X9_setAtPosition (S : fy_S) (v0 : Int64) (v2 : Int32) : Option (Int32) :=
  X9_setAtPosition_5 S fy_fu v0 v2 (0 : Int32)
set_option maxHeartbeats 4000000 in
set_option maxRecDepth 100000 in
theorem t_X9_setAtPosition_15 {p : Program} {l : Launch} {e : Env} {s : State} {m : MethodId} {args : Array Value} {below : List Frame} {meth : Method} {c : Code} {g : fy_G} {y : fy_Y} (C : fy_C g y p s m args meth c yX9_setAtPosition.cls cX9_setAtPosition 6 (some .int)) (hcl : X_clo y) {S : fy_S} {rr : Int32} {k5 : Int64 → Int32 → Int32 → Option (Int32)} (hk5 : ∀ (v0 : Int64) (v3 : Int32) (v4 : Int32) (H : Heap) (locs : List Loc) (ls : Array Slot), k5 v0 v3 v4 = some rr → fy_W g y S s H locs → lv_has ls 6 [(0, .long v0), (3, .int v3), (4, .int v4)] → W p l e (fy_rm 1) s m args below meth c H locs 0 0 (MQ below (fy_QI g y rr S) args s 0 0 (fy_A g y)) (F0 m 5 ls [])) : ∀ (fu : Nat) (v0 : Int64) (v3 : Int32) (v4 : Int32) (v5 : Int32) (H : Heap) (locs : List Loc) (ls : Array Slot), X9_setAtPosition_15 S k5 fu v0 v3 v4 v5 = some rr → fy_W g y S s H locs → lv_has ls 6 [(0, .long v0), (3, .int v3), (4, .int v4), (5, .int v5)] → W p l e (fy_rm 1) s m args below meth c H locs 0 0 (MQ below (fy_QI g y rr S) args s 0 0 (fy_A g y)) (F0 m 15 ls []) := by
  obtain ⟨hx, hb, hr, hts, hown, hlk, hml, hK, hD, hE, hN⟩ := id C
  intro fu
  induction fu with
  | zero => intro v0 v3 v4 v5 H locs ls h; cases h
  | succ fu ih =>
    intro v0 v3 v4 v5 H locs ls h w  hl
    rw [X9_setAtPosition_15] at h
    refine lv_iload hx hb dX9_setAtPosition_15 (lv_at hl 3 rfl) ?_
    refine lv_bipush (v := (64 : Int32)) hx hb dX9_setAtPosition_17 (by decide) ?_
    refine lv_icmp_ge (tgt := 57) hx hb dX9_setAtPosition_19 (by decide) (fun hc => ?_) (fun hc => ?_)
    · have h := fy_if_t h hc
      obtain ⟨x57, e57⟩ : ∃ z : Int32, z = v4 + (1 : Int32) := ⟨_, rfl⟩
      have h := fy_bl_some e57 h
      refine lv_iinc (k := 2) (v := x57) (lv' := [(4, .int x57), (0, .long v0), (3, .int v3), (5, .int v5)]) hx hb dX9_setAtPosition_57 hl rfl (by rw [e57]; rfl) (by decide) rfl (fun ls hl => ?_)
      refine lv_goto (tgt := 5) hx hb dX9_setAtPosition_60 (by decide) ?_
      exact hk5 _ _ _ _ _ _ h w (lv_sub hl [1, 2, 0] rfl)
    · have h := fy_if_f h hc
      refine lv_lload_n hx hb dX9_setAtPosition_22 rfl (lv_at hl 0 rfl) ?_
      refine lv_iload hx hb dX9_setAtPosition_23 (lv_at hl 3 rfl) ?_
      obtain ⟨r25, h25, h⟩ := fy_bd_some h
      refine fy_calI w (fy_runS (As := [.long v0, .int v5]) (rest := []) C w (c_X9_isIn l g hcl  h25) ksX9_288 ⟨Nat.le_of_ble_eq_true rfl, Nat.le_of_ble_eq_true rfl⟩ rfl hl.1 rfl (Nat.le_of_ble_eq_true rfl) ⟨Nat.le_refl _, Nat.le_refl _⟩ dX9_setAtPosition_25) (fun H locs w => ?_)
      refine lv_if_eq (tgt := 51) hx hb dX9_setAtPosition_28 (by decide) (fun hc => ?_) (fun hc => ?_)
      · have h := fy_if_t h hc
        obtain ⟨x51, e51⟩ : ∃ z : Int32, z = v5 + (1 : Int32) := ⟨_, rfl⟩
        have h := fy_bl_some e51 h
        refine lv_iinc (k := 3) (v := x51) (lv' := [(5, .int x51), (0, .long v0), (3, .int v3), (4, .int v4)]) hx hb dX9_setAtPosition_51 hl rfl (by rw [e51]; rfl) (by decide) rfl (fun ls hl => ?_)
        refine lv_goto (tgt := 15) hx hb dX9_setAtPosition_54 (by decide) ?_
        exact ih _ _ _ _ _ _ _ h w (lv_sub hl [1, 2, 3, 0] rfl)
      · have h := fy_if_f h hc
        refine lv_iload hx hb dX9_setAtPosition_31 (lv_at hl 3 rfl) ?_
        obtain ⟨r33, h33, h⟩ := fy_bd_some h
        refine fy_calI w (fy_runS (As := [.int v5]) (rest := []) C w (c_J6_bitCount_0f7a4 l g hcl  h33) ksX9_292 ⟨Nat.le_of_ble_eq_true rfl, Nat.le_of_ble_eq_true rfl⟩ rfl hl.1 rfl (Nat.le_of_ble_eq_true rfl) ⟨Nat.le_refl _, Nat.le_refl _⟩ dX9_setAtPosition_33) (fun H locs w => ?_)
        refine lv_iload hx hb dX9_setAtPosition_36 (lv_at hl 2 rfl) ?_
        refine lv_icmp_ne (tgt := 51) hx hb dX9_setAtPosition_38 (by decide) (fun hc => ?_) (fun hc => ?_)
        · have h := fy_if_f h hc
          obtain ⟨x51, e51⟩ : ∃ z : Int32, z = v5 + (1 : Int32) := ⟨_, rfl⟩
          have h := fy_bl_some e51 h
          refine lv_iinc (k := 3) (v := x51) (lv' := [(5, .int x51), (0, .long v0), (3, .int v3), (4, .int v4)]) hx hb dX9_setAtPosition_51 hl rfl (by rw [e51]; rfl) (by decide) rfl (fun ls hl => ?_)
          refine lv_goto (tgt := 15) hx hb dX9_setAtPosition_54 (by decide) ?_
          exact ih _ _ _ _ _ _ _ h w (lv_sub hl [1, 2, 3, 0] rfl)
        · have h := fy_if_t h hc
          refine lv_iload_n hx hb dX9_setAtPosition_41 rfl (lv_at hl 1 rfl) ?_
          refine lv_if_ne (tgt := 48) hx hb dX9_setAtPosition_42 (by decide) (fun hc => ?_) (fun hc => ?_)
          · have h := fy_if_f h hc
            obtain ⟨x48, e48⟩ : ∃ z : Int32, z = v3 + (-1 : Int32) := ⟨_, rfl⟩
            have h := fy_bl_some e48 h
            refine lv_iinc (k := 1) (v := x48) (lv' := [(3, .int x48), (0, .long v0), (4, .int v4), (5, .int v5)]) hx hb dX9_setAtPosition_48 hl rfl (by rw [e48]; rfl) (by decide) rfl (fun ls hl => ?_)
            obtain ⟨x51, e51⟩ : ∃ z : Int32, z = v5 + (1 : Int32) := ⟨_, rfl⟩
            have h := fy_bl_some e51 h
            refine lv_iinc (k := 3) (v := x51) (lv' := [(5, .int x51), (3, .int x48), (0, .long v0), (4, .int v4)]) hx hb dX9_setAtPosition_51 hl rfl (by rw [e51]; rfl) (by decide) rfl (fun ls hl => ?_)
            refine lv_goto (tgt := 15) hx hb dX9_setAtPosition_54 (by decide) ?_
            exact ih _ _ _ _ _ _ _ h w (lv_sub hl [2, 1, 3, 0] rfl)
          · have h := fy_if_t h hc
            refine lv_iload hx hb dX9_setAtPosition_45 (lv_at hl 3 rfl) ?_
            cases h
            exact fy_retI C w dX9_setAtPosition_47

set_option maxHeartbeats 4000000 in
set_option maxRecDepth 100000 in
theorem t_X9_setAtPosition_5 {p : Program} {l : Launch} {e : Env} {s : State} {m : MethodId} {args : Array Value} {below : List Frame} {meth : Method} {c : Code} {g : fy_G} {y : fy_Y} (C : fy_C g y p s m args meth c yX9_setAtPosition.cls cX9_setAtPosition 6 (some .int)) (hcl : X_clo y) {S : fy_S} {rr : Int32} : ∀ (fu : Nat) (v0 : Int64) (v3 : Int32) (v4 : Int32) (H : Heap) (locs : List Loc) (ls : Array Slot), X9_setAtPosition_5 S fu v0 v3 v4 = some rr → fy_W g y S s H locs → lv_has ls 6 [(0, .long v0), (3, .int v3), (4, .int v4)] → W p l e (fy_rm 1) s m args below meth c H locs 0 0 (MQ below (fy_QI g y rr S) args s 0 0 (fy_A g y)) (F0 m 5 ls []) := by
  obtain ⟨hx, hb, hr, hts, hown, hlk, hml, hK, hD, hE, hN⟩ := id C
  intro fu
  induction fu with
  | zero => intro v0 v3 v4 H locs ls h; cases h
  | succ fu ih =>
    intro v0 v3 v4 H locs ls h w  hl
    rw [X9_setAtPosition_5] at h
    refine lv_iload hx hb dX9_setAtPosition_5 (lv_at hl 2 rfl) ?_
    refine lv_bipush (v := (6 : Int32)) hx hb dX9_setAtPosition_7 (by decide) ?_
    refine lv_icmp_gt (tgt := 63) hx hb dX9_setAtPosition_9 (by decide) (fun hc => ?_) (fun hc => ?_)
    · have h := fy_if_t h hc
      refine lv_iconst (v := (-1 : Int32)) hx hb dX9_setAtPosition_63 (by decide) ?_
      cases h
      exact fy_retI C w dX9_setAtPosition_64
    · have h := fy_if_f h hc
      refine lv_iconst (v := (0 : Int32)) hx hb dX9_setAtPosition_12 (by decide) ?_
      refine lv_istore (lv' := [(5, .int (0 : Int32)), (0, .long v0), (3, .int v3), (4, .int v4)]) hx hb dX9_setAtPosition_13 hl (by decide) rfl (fun ls hl => ?_)
      exact t_X9_setAtPosition_15 C hcl ih fy_fu _ _ _ _ _ _ _ h w (lv_sub hl [1, 2, 3, 0] rfl)

set_option maxHeartbeats 4000000 in
set_option maxRecDepth 100000 in
theorem t_X9_setAtPosition {p : Program} {l : Launch} {e : Env} {s : State} {m : MethodId} {args : Array Value} {below : List Frame} {meth : Method} {c : Code} {g : fy_G} {y : fy_Y} (C : fy_C g y p s m args meth c yX9_setAtPosition.cls cX9_setAtPosition 6 (some .int)) (hcl : X_clo y) {S : fy_S} {v0 : Int64} {v2 : Int32} {rr : Int32}  {H : Heap} {locs : List Loc} {ls : Array Slot} (h : X9_setAtPosition S v0 v2 = some rr) (w : fy_W g y S s H locs) (hl : lv_has ls 6 [(0, .long v0), (2, .int v2)]) : W p l e (fy_rm 1) s m args below meth c H locs 0 0 (MQ below (fy_QI g y rr S) args s 0 0 (fy_A g y)) (F0 m 0 ls []) := by
  obtain ⟨hx, hb, hr, hts, hown, hlk, hml, hK, hD, hE, hN⟩ := id C
  rw [X9_setAtPosition] at h
  refine lv_iload_n hx hb dX9_setAtPosition_0 rfl (lv_at hl 1 rfl) ?_
  refine lv_istore_n (lv' := [(3, .int v2), (0, .long v0), (2, .int v2)]) hx hb dX9_setAtPosition_1 rfl hl (by decide) rfl (fun ls hl => ?_)
  refine lv_iconst (v := (0 : Int32)) hx hb dX9_setAtPosition_2 (by decide) ?_
  refine lv_istore (lv' := [(4, .int (0 : Int32)), (3, .int v2), (0, .long v0), (2, .int v2)]) hx hb dX9_setAtPosition_3 hl (by decide) rfl (fun ls hl => ?_)
  exact t_X9_setAtPosition_5 C hcl fy_fu _ _ _ _ _ _ h w (lv_sub hl [2, 1, 0] rfl)

set_option maxHeartbeats 4000000 in
set_option maxRecDepth 100000 in
theorem c_X9_setAtPosition (l : Launch) (g : fy_G) {y : fy_Y} (hcl : X_clo y) {S : fy_S} {v0 : Int64} {v2 : Int32} {rr : Int32}  (h : X9_setAtPosition S v0 v2 = some rr) : fy_M g y l yX9_setAtPosition cX9_setAtPosition 6 (some .int) (fy_rm 1) [.long v0, .int v2] S (fy_QI g y rr S) :=
  fy_entry (by decide +kernel) (Nat.le_of_ble_eq_true rfl) (fun p e s m args below meth c ls C w hl => t_X9_setAtPosition C hcl  h w hl)
def X9_model (S : fy_S) (v1 : Int32) (v2 : Int32) (v3 : Int32) (v4 : Int32) : Option (Int32) :=
  fy_bd (X9_formulaIn S v1 v2 v3) fun r4 =>
  match r4 with
  | none => (
    some (-2 : Int32))
  | some r4_ => (
    if (-1 : Int32) ≤ v4 then (
      fy_bd (X9_minimalSets S (S.2 r4_ 2)) fun r28 =>
      if v4 = (-1 : Int32) then (
        fy_bd (J13_bitCount_95d88 S r28) fun r41 =>
        some r41)
      else (
        fy_bd (X9_setAtPosition S r28 v4) fun r51 =>
        some r51))
    else (
      some (-2 : Int32)))
set_option maxHeartbeats 4000000 in
set_option maxRecDepth 100000 in
theorem t_X9_model {p : Program} {l : Launch} {e : Env} {s : State} {m : MethodId} {args : Array Value} {below : List Frame} {meth : Method} {c : Code} {g : fy_G} (C : fy_C g X_Y p s m args meth c yX9_model.cls cX9_model 8 (some .int)) {tt : Nat} (hst : g.2.2.2 = some tt) {S : fy_S} {v1 : Int32} {v2 : Int32} {v3 : Int32} {v4 : Int32} {rr : Int32}  {H : Heap} {locs : List Loc} {ls : Array Slot} (h : X9_model S v1 v2 v3 v4 = some rr) (w : fy_W g X_Y S s H locs) (hl : lv_has ls 8 [(0, .ref (g.2.2.1 0)), (1, .int v1), (2, .int v2), (3, .int v3), (4, .int v4)]) : W p l e (fy_rm 4) s m args below meth c H locs 0 0 (MQ below (fy_QI g X_Y rr S) args s 0 0 (fy_A g X_Y)) (F0 m 0 ls []) := by
  obtain ⟨hx, hb, hr, hts, hown, hlk, hml, hK, hD, hE, hN⟩ := id C
  rw [X9_model] at h
  refine lv_aload_n hx hb dX9_model_0 rfl (lv_at hl 0 rfl) ?_
  refine lv_iload_n hx hb dX9_model_1 rfl (lv_at hl 1 rfl) ?_
  refine lv_iload_n hx hb dX9_model_2 rfl (lv_at hl 2 rfl) ?_
  refine lv_iload_n hx hb dX9_model_3 rfl (lv_at hl 3 rfl) ?_
  obtain ⟨r4, h4, h⟩ := fy_bd_some h
  refine fy_calE w (fy_runV (As := [.int v1, .int v2, .int v3]) (rest := []) C w (c_X9_formulaIn l g  h4) (X_o9 X_full (X_i0)) ksX9_131 rfl ⟨Nat.le_of_ble_eq_true rfl, Nat.le_of_ble_eq_true rfl⟩ rfl hl.1 rfl (Nat.le_of_ble_eq_true rfl) ⟨Nat.le_refl _, Nat.le_refl _⟩ dX9_model_4) (fun H locs w => ?_)
  refine fy_astoreO (lv' := [(5, va_re g.2.2.1 r4), (0, .ref (g.2.2.1 0)), (1, .int v1), (2, .int v2), (3, .int v3), (4, .int v4)]) hx hb dX9_model_7 hl (by decide) rfl (fun ls hl => ?_)
  cases r4 with
  | none =>
    dsimp only at h
    refine lv_aloadN hx hb dX9_model_9 (lv_at hl 0 rfl) ?_
    refine lv_ifnullN (tgt := 20) hx hb dX9_model_11 (by decide) ?_
    refine lv_bipush (v := (-2 : Int32)) hx hb dX9_model_20 (by decide) ?_
    cases h
    exact fy_retI C w dX9_model_22
  | some r4_ =>
    dsimp only at h
    refine lv_aload hx hb dX9_model_9 (lv_at hl 0 rfl) ?_
    refine lv_ifnull hx hb dX9_model_11 ?_
    refine lv_iload hx hb dX9_model_14 (lv_at hl 5 rfl) ?_
    refine lv_iconst (v := (-1 : Int32)) hx hb dX9_model_16 (by decide) ?_
    refine lv_icmp_ge (tgt := 23) hx hb dX9_model_17 (by decide) (fun hc => ?_) (fun hc => ?_)
    · have h := fy_if_t h hc
      refine lv_aload hx hb dX9_model_23 (lv_at hl 0 rfl) ?_
      refine gfX9_152 X_full C w (cls_X9_formulaIn  h4) dX9_model_25 ?_
      obtain ⟨r28, h28, h⟩ := fy_bd_some h
      refine fy_calL w (fy_runS (As := [.long (S.2 r4_ 2)]) (rest := []) C w (c_X9_minimalSets l g hst X_full  h28) ksX9_156 ⟨Nat.le_of_ble_eq_true rfl, Nat.le_of_ble_eq_true rfl⟩ rfl hl.1 rfl (Nat.le_of_ble_eq_true rfl) ⟨Nat.le_refl _, Nat.le_refl _⟩ dX9_model_28) (fun H locs w => ?_)
      refine lv_lstore (lv' := [(6, .long r28), (5, .ref (g.2.2.1 r4_)), (0, .ref (g.2.2.1 0)), (1, .int v1), (2, .int v2), (3, .int v3), (4, .int v4)]) hx hb dX9_model_31 hl (by decide) rfl (fun ls hl => ?_)
      refine lv_iload hx hb dX9_model_33 (lv_at hl 6 rfl) ?_
      refine lv_iconst (v := (-1 : Int32)) hx hb dX9_model_35 (by decide) ?_
      refine lv_icmp_ne (tgt := 47) hx hb dX9_model_36 (by decide) (fun hc => ?_) (fun hc => ?_)
      · have h := fy_if_f h hc
        refine lv_lload hx hb dX9_model_47 (lv_at hl 0 rfl) ?_
        refine lv_iload hx hb dX9_model_49 (lv_at hl 6 rfl) ?_
        obtain ⟨r51, h51, h⟩ := fy_bd_some h
        refine fy_calI w (fy_runS (As := [.long r28, .int v4]) (rest := []) C w (c_X9_setAtPosition l g X_full  h51) ksX9_166 ⟨Nat.le_of_ble_eq_true rfl, Nat.le_of_ble_eq_true rfl⟩ rfl hl.1 rfl (Nat.le_of_ble_eq_true rfl) ⟨Nat.le_refl _, Nat.le_refl _⟩ dX9_model_51) (fun H locs w => ?_)
        cases h
        exact fy_retI C w dX9_model_54
      · have h := fy_if_t h hc
        refine lv_lload hx hb dX9_model_39 (lv_at hl 0 rfl) ?_
        obtain ⟨r41, h41, h⟩ := fy_bd_some h
        refine fy_calI w (fy_runS (As := [.long r28]) (rest := []) C w (c_J13_bitCount_95d88 l g X_full  h41) ksX9_160 ⟨Nat.le_of_ble_eq_true rfl, Nat.le_of_ble_eq_true rfl⟩ rfl hl.1 rfl (Nat.le_of_ble_eq_true rfl) ⟨Nat.le_refl _, Nat.le_refl _⟩ dX9_model_41) (fun H locs w => ?_)
        refine lv_goto (tgt := 54) hx hb dX9_model_44 (by decide) ?_
        cases h
        exact fy_retI C w dX9_model_54
    · have h := fy_if_f h hc
      refine lv_bipush (v := (-2 : Int32)) hx hb dX9_model_20 (by decide) ?_
      cases h
      exact fy_retI C w dX9_model_22

set_option maxHeartbeats 4000000 in
set_option maxRecDepth 100000 in
theorem c_X9_model (l : Launch) (g : fy_G) {tt : Nat} (hst : g.2.2.2 = some tt) {S : fy_S} {v1 : Int32} {v2 : Int32} {v3 : Int32} {v4 : Int32} {rr : Int32}  (h : X9_model S v1 v2 v3 v4 = some rr) : fy_M g X_Y l yX9_model cX9_model 8 (some .int) (fy_rm 4) [.ref (g.2.2.1 0), .int v1, .int v2, .int v3, .int v4] S (fy_QI g X_Y rr S) :=
  fy_entry (by decide +kernel) (Nat.le_of_ble_eq_true rfl) (fun p e s m args below meth c ls C w hl => t_X9_model C hst  h w hl)
def X8_add (S : fy_S) (v0 : Nat) (v1 : Int32) : Option (fy_S) :=
  if (Int32.ofNat (X_al (v0 + 1))) ≤ (S.1 v0 1) then (
    some S)
  else (
    fy_gd (fy_ix (S.1 v0 1) (X_al (v0 + 1))) <|
    fy_bl (fy_sI S (v0 + 1) (S.1 v0 1).toNatClampNeg (vp_nar .byte (v1.toInt8.toInt32))) fun S22 =>
    fy_bl (fy_sI S22 v0 1 ((S22.1 v0 1) + (1 : Int32))) fun S30 =>
    some S30)
set_option maxHeartbeats 4000000 in
set_option maxRecDepth 100000 in
theorem t_X8_add {p : Program} {l : Launch} {e : Env} {s : State} {m : MethodId} {args : Array Value} {below : List Frame} {meth : Method} {c : Code} {g : fy_G} (C : fy_C g X_Y p s m args meth c yX8_add.cls cX8_add 2 none) {S : fy_S} {v0 : Nat} {v1 : Int32} {Sr : fy_S}  (q0 : X_is X_Y 8 v0) {H : Heap} {locs : List Loc} {ls : Array Slot} (h : X8_add S v0 v1 = some Sr) (w : fy_W g X_Y S s H locs) (hl : lv_has ls 2 [(0, .ref (g.2.2.1 v0)), (1, .int v1)]) : W p l e (fy_rm 0) s m args below meth c H locs 0 0 (MQ below (fy_QV g X_Y Sr) args s 0 0 (fy_A g X_Y)) (F0 m 0 ls []) := by
  obtain ⟨hx, hb, hr, hts, hown, hlk, hml, hK, hD, hE, hN⟩ := id C
  rw [X8_add] at h
  refine lv_aload_n hx hb dX8_add_0 rfl (lv_at hl 0 rfl) ?_
  refine gfX8_7 X_full C w q0 dX8_add_1 ?_
  refine lv_aload_n hx hb dX8_add_4 rfl (lv_at hl 0 rfl) ?_
  refine gfX8_19 X_full C w q0 dX8_add_5 ?_
  refine fy_alen C w (X_f8_letters X_full q0) (by decide) dX8_add_8 ?_
  refine lv_icmp_ge (tgt := 33) hx hb dX8_add_9 (by decide) (fun hc => ?_) (fun hc => ?_)
  · have h := fy_if_t h hc
    cases h
    exact fy_retV C w dX8_add_33
  · have h := fy_if_f h hc
    refine lv_aload_n hx hb dX8_add_12 rfl (lv_at hl 0 rfl) ?_
    refine gfX8_19 X_full C w q0 dX8_add_13 ?_
    refine lv_aload_n hx hb dX8_add_16 rfl (lv_at hl 0 rfl) ?_
    refine gfX8_7 X_full C w q0 dX8_add_17 ?_
    refine lv_iload_n hx hb dX8_add_20 rfl (lv_at hl 1 rfl) ?_
    refine lv_i2b (v := (v1.toInt8.toInt32)) hx hb dX8_add_21 rfl ?_
    obtain ⟨g22, h⟩ := fy_gd_some h
    refine fy_bast C w (X_f8_letters X_full q0) g22 dX8_add_22 (fun H locs w => ?_)
    obtain ⟨S22, e22⟩ : ∃ z, z = fy_sI S (v0 + 1) (S.1 v0 1).toNatClampNeg (vp_nar .byte (v1.toInt8.toInt32)) := ⟨_, rfl⟩
    have h := fy_bl_some e22 h
    rw [← e22] at w
    refine lv_aload_n hx hb dX8_add_23 rfl (lv_at hl 0 rfl) ?_
    refine lv_dup hx hb dX8_add_24 rfl ?_
    refine gfX8_7 X_full C w q0 dX8_add_25 ?_
    refine lv_iconst (v := (1 : Int32)) hx hb dX8_add_28 (by decide) ?_
    refine lv_iadd hx hb dX8_add_29 ?_
    refine pfX8_7 X_full C w q0 dX8_add_30 (fun H locs w => ?_)
    obtain ⟨S30, e30⟩ : ∃ z, z = fy_sI S22 v0 1 ((S22.1 v0 1) + (1 : Int32)) := ⟨_, rfl⟩
    have h := fy_bl_some e30 h
    rw [← e30] at w
    cases h
    exact fy_retV C w dX8_add_33

set_option maxHeartbeats 4000000 in
set_option maxRecDepth 100000 in
theorem c_X8_add (l : Launch) (g : fy_G) {S : fy_S} {v0 : Nat} {v1 : Int32} {Sr : fy_S}  (q0 : X_is X_Y 8 v0) (h : X8_add S v0 v1 = some Sr) : fy_M g X_Y l yX8_add cX8_add 2 none (fy_rm 0) [.ref (g.2.2.1 v0), .int v1] S (fy_QV g X_Y Sr) :=
  fy_entry (by decide +kernel) (Nat.le_of_ble_eq_true rfl) (fun p e s m args below meth c ls C w hl => t_X8_add C q0 h w hl)
def X9_push (S : fy_S) (v1 : Int32) : Option (fy_S × Int32) :=
  fy_bd (X9_isWithin S v1 (0 : Int32) (2 : Int32)) fun r3 =>
  if r3 = 0 then (
    some (S, (-2 : Int32)))
  else (
    if (S.1 12 1) < (12 : Int32) then (
      fy_bd (X8_add S 12 v1) fun S32 =>
      some (S32, (S32.1 12 1)))
    else (
      some (S, (-3 : Int32))))
set_option maxHeartbeats 4000000 in
set_option maxRecDepth 100000 in
theorem t_X9_push {p : Program} {l : Launch} {e : Env} {s : State} {m : MethodId} {args : Array Value} {below : List Frame} {meth : Method} {c : Code} {g : fy_G} (C : fy_C g X_Y p s m args meth c yX9_push.cls cX9_push 2 (some .int)) {S : fy_S} {v1 : Int32} {Sr : fy_S} {rr : Int32}  {H : Heap} {locs : List Loc} {ls : Array Slot} (h : X9_push S v1 = some (Sr, rr)) (w : fy_W g X_Y S s H locs) (hl : lv_has ls 2 [(0, .ref (g.2.2.1 0)), (1, .int v1)]) : W p l e (fy_rm 1) s m args below meth c H locs 0 0 (MQ below (fy_QI g X_Y rr Sr) args s 0 0 (fy_A g X_Y)) (F0 m 0 ls []) := by
  obtain ⟨hx, hb, hr, hts, hown, hlk, hml, hK, hD, hE, hN⟩ := id C
  rw [X9_push] at h
  refine lv_iload_n hx hb dX9_push_0 rfl (lv_at hl 1 rfl) ?_
  refine lv_iconst (v := (0 : Int32)) hx hb dX9_push_1 (by decide) ?_
  refine lv_iconst (v := (2 : Int32)) hx hb dX9_push_2 (by decide) ?_
  obtain ⟨r3, h3, h⟩ := fy_bd_some h
  refine fy_calI w (fy_runS (As := [.int v1, .int (0 : Int32), .int (2 : Int32)]) (rest := []) C w (c_X9_isWithin l g X_full  h3) ksX9_92 ⟨Nat.le_of_ble_eq_true rfl, Nat.le_of_ble_eq_true rfl⟩ rfl hl.1 rfl (Nat.le_of_ble_eq_true rfl) ⟨Nat.le_refl _, Nat.le_refl _⟩ dX9_push_3) (fun H locs w => ?_)
  refine lv_if_ne (tgt := 12) hx hb dX9_push_6 (by decide) (fun hc => ?_) (fun hc => ?_)
  · have h := fy_if_f h hc
    refine lv_aload_n hx hb dX9_push_12 rfl (lv_at hl 0 rfl) ?_
    refine gfX9_42 X_full C w (X_i0) dX9_push_13 ?_
    refine gfX9_170 X_full C w X_i12 dX9_push_16 ?_
    refine lv_bipush (v := (12 : Int32)) hx hb dX9_push_19 (by decide) ?_
    refine lv_icmp_lt (tgt := 27) hx hb dX9_push_21 (by decide) (fun hc => ?_) (fun hc => ?_)
    · have h := fy_if_t h hc
      refine lv_aload_n hx hb dX9_push_27 rfl (lv_at hl 0 rfl) ?_
      refine gfX9_42 X_full C w (X_i0) dX9_push_28 ?_
      refine lv_iload_n hx hb dX9_push_31 rfl (lv_at hl 1 rfl) ?_
      obtain ⟨S32, h32, h⟩ := fy_bd_some h
      refine fy_calV w (fy_runV (As := [.int v1]) (rest := []) C w (c_X8_add l g X_i12 h32) (X_o8 X_full X_i12) ksX9_171 rfl ⟨Nat.le_of_ble_eq_true rfl, Nat.le_of_ble_eq_true rfl⟩ rfl hl.1 rfl (Nat.le_of_ble_eq_true rfl) ⟨Nat.le_refl _, Nat.le_refl _⟩ dX9_push_32) (fun H locs w => ?_)
      refine lv_aload_n hx hb dX9_push_35 rfl (lv_at hl 0 rfl) ?_
      refine gfX9_42 X_full C w (X_i0) dX9_push_36 ?_
      refine gfX9_170 X_full C w X_i12 dX9_push_39 ?_
      cases h
      exact fy_retI C w dX9_push_42
    · have h := fy_if_f h hc
      refine lv_bipush (v := (-3 : Int32)) hx hb dX9_push_24 (by decide) ?_
      cases h
      exact fy_retI C w dX9_push_26
  · have h := fy_if_t h hc
    refine lv_bipush (v := (-2 : Int32)) hx hb dX9_push_9 (by decide) ?_
    cases h
    exact fy_retI C w dX9_push_11

set_option maxHeartbeats 4000000 in
set_option maxRecDepth 100000 in
theorem c_X9_push (l : Launch) (g : fy_G) {S : fy_S} {v1 : Int32} {Sr : fy_S} {rr : Int32}  (h : X9_push S v1 = some (Sr, rr)) : fy_M g X_Y l yX9_push cX9_push 2 (some .int) (fy_rm 1) [.ref (g.2.2.1 0), .int v1] S (fy_QI g X_Y rr Sr) :=
  fy_entry (by decide +kernel) (Nat.le_of_ble_eq_true rfl) (fun p e s m args below meth c ls C w hl => t_X9_push C  h w hl)
def X9_clearWord (S : fy_S)  : Option (fy_S × Int32) :=
  fy_bl (S.1 12 1) fun x7 =>
  fy_bl (fy_sI S 12 1 (0 : Int32)) fun S13 =>
  some (S13, x7)
set_option maxHeartbeats 4000000 in
set_option maxRecDepth 100000 in
theorem t_X9_clearWord {p : Program} {l : Launch} {e : Env} {s : State} {m : MethodId} {args : Array Value} {below : List Frame} {meth : Method} {c : Code} {g : fy_G} (C : fy_C g X_Y p s m args meth c yX9_clearWord.cls cX9_clearWord 2 (some .int)) {S : fy_S}  {Sr : fy_S} {rr : Int32}  {H : Heap} {locs : List Loc} {ls : Array Slot} (h : X9_clearWord S  = some (Sr, rr)) (w : fy_W g X_Y S s H locs) (hl : lv_has ls 2 [(0, .ref (g.2.2.1 0))]) : W p l e (fy_rm 0) s m args below meth c H locs 0 0 (MQ below (fy_QI g X_Y rr Sr) args s 0 0 (fy_A g X_Y)) (F0 m 0 ls []) := by
  obtain ⟨hx, hb, hr, hts, hown, hlk, hml, hK, hD, hE, hN⟩ := id C
  rw [X9_clearWord] at h
  refine lv_aload_n hx hb dX9_clearWord_0 rfl (lv_at hl 0 rfl) ?_
  refine gfX9_42 X_full C w (X_i0) dX9_clearWord_1 ?_
  refine gfX9_170 X_full C w X_i12 dX9_clearWord_4 ?_
  refine lv_topi (fun x7 e7 => ?_)
  have h := fy_bl_some e7 h
  refine lv_istore_n (lv' := [(1, .int x7), (0, .ref (g.2.2.1 0))]) hx hb dX9_clearWord_7 rfl hl (by decide) rfl (fun ls hl => ?_)
  refine lv_aload_n hx hb dX9_clearWord_8 rfl (lv_at hl 1 rfl) ?_
  refine gfX9_42 X_full C w (X_i0) dX9_clearWord_9 ?_
  refine lv_iconst (v := (0 : Int32)) hx hb dX9_clearWord_12 (by decide) ?_
  refine pfX9_170 X_full C w X_i12 dX9_clearWord_13 (fun H locs w => ?_)
  obtain ⟨S13, e13⟩ : ∃ z, z = fy_sI S 12 1 (0 : Int32) := ⟨_, rfl⟩
  have h := fy_bl_some e13 h
  rw [← e13] at w
  refine lv_iload_n hx hb dX9_clearWord_16 rfl (lv_at hl 0 rfl) ?_
  cases h
  exact fy_retI C w dX9_clearWord_17

set_option maxHeartbeats 4000000 in
set_option maxRecDepth 100000 in
theorem c_X9_clearWord (l : Launch) (g : fy_G) {S : fy_S}  {Sr : fy_S} {rr : Int32}  (h : X9_clearWord S  = some (Sr, rr)) : fy_M g X_Y l yX9_clearWord cX9_clearWord 2 (some .int) (fy_rm 0) [.ref (g.2.2.1 0)] S (fy_QI g X_Y rr Sr) :=
  fy_entry (by decide +kernel) (Nat.le_of_ble_eq_true rfl) (fun p e s m args below meth c ls C w hl => t_X9_clearWord C  h w hl)
def X8_fits_2 (S : fy_S) : Nat → Nat → Nat → Int32 → Option (Int32)
  | 0, _, _, _ => none
  | fu + 1, v0, v1, v2 =>
    if (S.1 v0 1) ≤ v2 then (
      some (1 : Int32))
    else (
      fy_gd (fy_ix v2 (X_al (v0 + 1))) <|
      fy_bd (X0_hasLetter S v1 (S.1 (v0 + 1) v2.toNatClampNeg)) fun r17 =>
      if r17 = 0 then (
        some (0 : Int32))
      else (
        fy_bl (v2 + (1 : Int32)) fun x25 =>
        X8_fits_2 S fu v0 v1 x25))
def X8_fits (S : fy_S) (v0 : Nat) (v1 : Nat) : Option (Int32) :=
  X8_fits_2 S fy_fu v0 v1 (0 : Int32)
set_option maxHeartbeats 4000000 in
set_option maxRecDepth 100000 in
theorem t_X8_fits_2 {p : Program} {l : Launch} {e : Env} {s : State} {m : MethodId} {args : Array Value} {below : List Frame} {meth : Method} {c : Code} {g : fy_G} (C : fy_C g X_Y p s m args meth c yX8_fits.cls cX8_fits 3 (some .boolean)) {S : fy_S} {rr : Int32} : ∀ (fu : Nat) (v0 : Nat) (v1 : Nat) (v2 : Int32) (H : Heap) (locs : List Loc) (ls : Array Slot), X8_fits_2 S fu v0 v1 v2 = some rr → fy_W g X_Y S s H locs → X_is X_Y 8 v0 → X_is X_Y 0 v1 → lv_has ls 3 [(0, .ref (g.2.2.1 v0)), (1, .ref (g.2.2.1 v1)), (2, .int v2)] → W p l e (fy_rm 1) s m args below meth c H locs 0 0 (MQ below (fy_QI g X_Y rr S) args s 0 0 (fy_A g X_Y)) (F0 m 2 ls []) := by
  obtain ⟨hx, hb, hr, hts, hown, hlk, hml, hK, hD, hE, hN⟩ := id C
  intro fu
  induction fu with
  | zero => intro v0 v1 v2 H locs ls h; cases h
  | succ fu ih =>
    intro v0 v1 v2 H locs ls h w q0 q1 hl
    rw [X8_fits_2] at h
    refine lv_iload_n hx hb dX8_fits_2 rfl (lv_at hl 2 rfl) ?_
    refine lv_aload_n hx hb dX8_fits_3 rfl (lv_at hl 0 rfl) ?_
    refine gfX8_7 X_full C w q0 dX8_fits_4 ?_
    refine lv_icmp_ge (tgt := 31) hx hb dX8_fits_7 (by decide) (fun hc => ?_) (fun hc => ?_)
    · have h := fy_if_t h hc
      refine lv_iconst (v := (1 : Int32)) hx hb dX8_fits_31 (by decide) ?_
      cases h
      exact fy_retZ C w (by decide +kernel) dX8_fits_32
    · have h := fy_if_f h hc
      refine lv_aload_n hx hb dX8_fits_10 rfl (lv_at hl 1 rfl) ?_
      refine lv_aload_n hx hb dX8_fits_11 rfl (lv_at hl 0 rfl) ?_
      refine gfX8_19 X_full C w q0 dX8_fits_12 ?_
      refine lv_iload_n hx hb dX8_fits_15 rfl (lv_at hl 2 rfl) ?_
      obtain ⟨g16, h⟩ := fy_gd_some h
      refine fy_bald C w (X_f8_letters X_full q0) g16 dX8_fits_16 ?_
      obtain ⟨r17, h17, h⟩ := fy_bd_some h
      refine fy_calI w (fy_runV (As := [.int (S.1 (v0 + 1) v2.toNatClampNeg)]) (rest := []) C w (c_X0_hasLetter l g X_full q1 h17) (X_o0 X_full q1) ksX8_23 rfl ⟨Nat.le_of_ble_eq_true rfl, Nat.le_of_ble_eq_true rfl⟩ rfl hl.1 rfl (Nat.le_of_ble_eq_true rfl) ⟨Nat.le_refl _, Nat.le_refl _⟩ dX8_fits_17) (fun H locs w => ?_)
      refine lv_if_ne (tgt := 25) hx hb dX8_fits_20 (by decide) (fun hc => ?_) (fun hc => ?_)
      · have h := fy_if_f h hc
        obtain ⟨x25, e25⟩ : ∃ z : Int32, z = v2 + (1 : Int32) := ⟨_, rfl⟩
        have h := fy_bl_some e25 h
        refine lv_iinc (k := 2) (v := x25) (lv' := [(2, .int x25), (0, .ref (g.2.2.1 v0)), (1, .ref (g.2.2.1 v1))]) hx hb dX8_fits_25 hl rfl (by rw [e25]; rfl) (by decide) rfl (fun ls hl => ?_)
        refine lv_goto (tgt := 2) hx hb dX8_fits_28 (by decide) ?_
        exact ih _ _ _ _ _ _ h w q0 q1 (lv_sub hl [1, 2, 0] rfl)
      · have h := fy_if_t h hc
        refine lv_iconst (v := (0 : Int32)) hx hb dX8_fits_23 (by decide) ?_
        cases h
        exact fy_retZ C w (by decide +kernel) dX8_fits_24

set_option maxHeartbeats 4000000 in
set_option maxRecDepth 100000 in
theorem t_X8_fits {p : Program} {l : Launch} {e : Env} {s : State} {m : MethodId} {args : Array Value} {below : List Frame} {meth : Method} {c : Code} {g : fy_G} (C : fy_C g X_Y p s m args meth c yX8_fits.cls cX8_fits 3 (some .boolean)) {S : fy_S} {v0 : Nat} {v1 : Nat} {rr : Int32} (q0 : X_is X_Y 8 v0) (q1 : X_is X_Y 0 v1) {H : Heap} {locs : List Loc} {ls : Array Slot} (h : X8_fits S v0 v1 = some rr) (w : fy_W g X_Y S s H locs) (hl : lv_has ls 3 [(0, .ref (g.2.2.1 v0)), (1, .ref (g.2.2.1 v1))]) : W p l e (fy_rm 1) s m args below meth c H locs 0 0 (MQ below (fy_QI g X_Y rr S) args s 0 0 (fy_A g X_Y)) (F0 m 0 ls []) := by
  obtain ⟨hx, hb, hr, hts, hown, hlk, hml, hK, hD, hE, hN⟩ := id C
  rw [X8_fits] at h
  refine lv_iconst (v := (0 : Int32)) hx hb dX8_fits_0 (by decide) ?_
  refine lv_istore_n (lv' := [(2, .int (0 : Int32)), (0, .ref (g.2.2.1 v0)), (1, .ref (g.2.2.1 v1))]) hx hb dX8_fits_1 rfl hl (by decide) rfl (fun ls hl => ?_)
  exact t_X8_fits_2 C fy_fu _ _ _ _ _ _ h w q0 q1 (lv_sub hl [1, 2, 0] rfl)

set_option maxHeartbeats 4000000 in
set_option maxRecDepth 100000 in
theorem c_X8_fits (l : Launch) (g : fy_G) {S : fy_S} {v0 : Nat} {v1 : Nat} {rr : Int32} (q0 : X_is X_Y 8 v0) (q1 : X_is X_Y 0 v1) (h : X8_fits S v0 v1 = some rr) : fy_M g X_Y l yX8_fits cX8_fits 3 (some .boolean) (fy_rm 1) [.ref (g.2.2.1 v0), .ref (g.2.2.1 v1)] S (fy_QI g X_Y rr S) :=
  fy_entry (by decide +kernel) (Nat.le_of_ble_eq_true rfl) (fun p e s m args below meth c ls C w hl => t_X8_fits C q0 q1 h w hl)
def X0_statesBefore_5 (S : fy_S) : Nat → Nat → Int32 → Int32 → Int32 → Int32 → Option (Int32)
  | 0, _, _, _, _, _ => none
  | fu + 1, v0, v1, v2, v3, v4 =>
    if (S.1 v0 3) ≤ v4 then (
      some v3)
    else (
      fy_bd (X0_move S v0 v4 v1) fun r18 =>
      match r18 with
      | none => (
        none)
      | some r18_ => (
        fy_bd (X2_holdsIn S r18_ v2) fun r22 =>
        if r22 = 0 then (
          fy_bl (v4 + (1 : Int32)) fun x35 =>
          X0_statesBefore_5 S fu v0 v1 v2 v3 x35)
        else (
          fy_bl (v3 ||| ((1 : Int32) <<< (v4 &&& 31))) fun x34 =>
          fy_bl (v4 + (1 : Int32)) fun x35 =>
          X0_statesBefore_5 S fu v0 v1 v2 x34 x35)))
def X0_statesBefore (S : fy_S) (v0 : Nat) (v1 : Int32) (v2 : Int32) : Option (Int32) :=
  X0_statesBefore_5 S fy_fu v0 v1 v2 (0 : Int32) (0 : Int32)
set_option maxHeartbeats 4000000 in
set_option maxRecDepth 100000 in
theorem t_X0_statesBefore_5 {p : Program} {l : Launch} {e : Env} {s : State} {m : MethodId} {args : Array Value} {below : List Frame} {meth : Method} {c : Code} {g : fy_G} {y : fy_Y} (C : fy_C g y p s m args meth c yX0_statesBefore.cls cX0_statesBefore 5 (some .int)) (hcl : X_clo y) {S : fy_S} {rr : Int32} : ∀ (fu : Nat) (v0 : Nat) (v1 : Int32) (v2 : Int32) (v3 : Int32) (v4 : Int32) (H : Heap) (locs : List Loc) (ls : Array Slot), X0_statesBefore_5 S fu v0 v1 v2 v3 v4 = some rr → fy_W g y S s H locs → X_is y 0 v0 → lv_has ls 5 [(0, .ref (g.2.2.1 v0)), (1, .int v1), (2, .int v2), (3, .int v3), (4, .int v4)] → W p l e (fy_rm 2) s m args below meth c H locs 0 0 (MQ below (fy_QI g y rr S) args s 0 0 (fy_A g y)) (F0 m 5 ls []) := by
  obtain ⟨hx, hb, hr, hts, hown, hlk, hml, hK, hD, hE, hN⟩ := id C
  intro fu
  induction fu with
  | zero => intro v0 v1 v2 v3 v4 H locs ls h; cases h
  | succ fu ih =>
    intro v0 v1 v2 v3 v4 H locs ls h w q0 hl
    rw [X0_statesBefore_5] at h
    refine lv_iload hx hb dX0_statesBefore_5 (lv_at hl 4 rfl) ?_
    refine lv_aload_n hx hb dX0_statesBefore_7 rfl (lv_at hl 0 rfl) ?_
    refine gfX0_30 hcl C w q0 dX0_statesBefore_8 ?_
    refine lv_icmp_ge (tgt := 41) hx hb dX0_statesBefore_11 (by decide) (fun hc => ?_) (fun hc => ?_)
    · have h := fy_if_t h hc
      refine lv_iload_n hx hb dX0_statesBefore_41 rfl (lv_at hl 3 rfl) ?_
      cases h
      exact fy_retI C w dX0_statesBefore_42
    · have h := fy_if_f h hc
      refine lv_aload_n hx hb dX0_statesBefore_14 rfl (lv_at hl 0 rfl) ?_
      refine lv_iload hx hb dX0_statesBefore_15 (lv_at hl 4 rfl) ?_
      refine lv_iload_n hx hb dX0_statesBefore_17 rfl (lv_at hl 1 rfl) ?_
      obtain ⟨r18, h18, h⟩ := fy_bd_some h
      refine fy_calE w (fy_runV (As := [.int v4, .int v1]) (rest := []) C w (c_X0_move l g hcl q0 h18) (X_o0 hcl q0) ksX0_56 rfl ⟨Nat.le_of_ble_eq_true rfl, Nat.le_of_ble_eq_true rfl⟩ rfl hl.1 rfl (Nat.le_of_ble_eq_true rfl) ⟨Nat.le_refl _, Nat.le_refl _⟩ dX0_statesBefore_18) (fun H locs w => ?_)
      refine lv_iload_n hx hb dX0_statesBefore_21 rfl (lv_at hl 2 rfl) ?_
      cases r18 with
      | none =>
        dsimp only at h
        cases h
      | some r18_ =>
        dsimp only at h
        obtain ⟨r22, h22, h⟩ := fy_bd_some h
        refine fy_calI w (fy_runV (As := [.int v2]) (rest := []) C w (c_X2_holdsIn l g hcl (cls_X0_move hcl q0 h18) h22) (X_o2 hcl (cls_X0_move hcl q0 h18)) ksX0_89 rfl ⟨Nat.le_of_ble_eq_true rfl, Nat.le_of_ble_eq_true rfl⟩ rfl hl.1 rfl (Nat.le_of_ble_eq_true rfl) ⟨Nat.le_refl _, Nat.le_refl _⟩ dX0_statesBefore_22) (fun H locs w => ?_)
        refine lv_if_eq (tgt := 35) hx hb dX0_statesBefore_25 (by decide) (fun hc => ?_) (fun hc => ?_)
        · have h := fy_if_t h hc
          obtain ⟨x35, e35⟩ : ∃ z : Int32, z = v4 + (1 : Int32) := ⟨_, rfl⟩
          have h := fy_bl_some e35 h
          refine lv_iinc (k := 4) (v := x35) (lv' := [(4, .int x35), (0, .ref (g.2.2.1 v0)), (1, .int v1), (2, .int v2), (3, .int v3)]) hx hb dX0_statesBefore_35 hl rfl (by rw [e35]; rfl) (by decide) rfl (fun ls hl => ?_)
          refine lv_goto (tgt := 5) hx hb dX0_statesBefore_38 (by decide) ?_
          exact ih _ _ _ _ _ _ _ _ h w q0 (lv_sub hl [1, 2, 3, 4, 0] rfl)
        · have h := fy_if_f h hc
          refine lv_iload_n hx hb dX0_statesBefore_28 rfl (lv_at hl 3 rfl) ?_
          refine lv_iconst (v := (1 : Int32)) hx hb dX0_statesBefore_29 (by decide) ?_
          refine lv_iload hx hb dX0_statesBefore_30 (lv_at hl 4 rfl) ?_
          refine lv_ishl hx hb dX0_statesBefore_32 ?_
          refine lv_ior hx hb dX0_statesBefore_33 ?_
          refine lv_topi (fun x34 e34 => ?_)
          have h := fy_bl_some e34 h
          refine lv_istore_n (lv' := [(3, .int x34), (0, .ref (g.2.2.1 v0)), (1, .int v1), (2, .int v2), (4, .int v4)]) hx hb dX0_statesBefore_34 rfl hl (by decide) rfl (fun ls hl => ?_)
          obtain ⟨x35, e35⟩ : ∃ z : Int32, z = v4 + (1 : Int32) := ⟨_, rfl⟩
          have h := fy_bl_some e35 h
          refine lv_iinc (k := 4) (v := x35) (lv' := [(4, .int x35), (3, .int x34), (0, .ref (g.2.2.1 v0)), (1, .int v1), (2, .int v2)]) hx hb dX0_statesBefore_35 hl rfl (by rw [e35]; rfl) (by decide) rfl (fun ls hl => ?_)
          refine lv_goto (tgt := 5) hx hb dX0_statesBefore_38 (by decide) ?_
          exact ih _ _ _ _ _ _ _ _ h w q0 (lv_sub hl [2, 3, 4, 1, 0] rfl)

set_option maxHeartbeats 4000000 in
set_option maxRecDepth 100000 in
theorem t_X0_statesBefore {p : Program} {l : Launch} {e : Env} {s : State} {m : MethodId} {args : Array Value} {below : List Frame} {meth : Method} {c : Code} {g : fy_G} {y : fy_Y} (C : fy_C g y p s m args meth c yX0_statesBefore.cls cX0_statesBefore 5 (some .int)) (hcl : X_clo y) {S : fy_S} {v0 : Nat} {v1 : Int32} {v2 : Int32} {rr : Int32} (q0 : X_is y 0 v0) {H : Heap} {locs : List Loc} {ls : Array Slot} (h : X0_statesBefore S v0 v1 v2 = some rr) (w : fy_W g y S s H locs) (hl : lv_has ls 5 [(0, .ref (g.2.2.1 v0)), (1, .int v1), (2, .int v2)]) : W p l e (fy_rm 2) s m args below meth c H locs 0 0 (MQ below (fy_QI g y rr S) args s 0 0 (fy_A g y)) (F0 m 0 ls []) := by
  obtain ⟨hx, hb, hr, hts, hown, hlk, hml, hK, hD, hE, hN⟩ := id C
  rw [X0_statesBefore] at h
  refine lv_iconst (v := (0 : Int32)) hx hb dX0_statesBefore_0 (by decide) ?_
  refine lv_istore_n (lv' := [(3, .int (0 : Int32)), (0, .ref (g.2.2.1 v0)), (1, .int v1), (2, .int v2)]) hx hb dX0_statesBefore_1 rfl hl (by decide) rfl (fun ls hl => ?_)
  refine lv_iconst (v := (0 : Int32)) hx hb dX0_statesBefore_2 (by decide) ?_
  refine lv_istore (lv' := [(4, .int (0 : Int32)), (3, .int (0 : Int32)), (0, .ref (g.2.2.1 v0)), (1, .int v1), (2, .int v2)]) hx hb dX0_statesBefore_3 hl (by decide) rfl (fun ls hl => ?_)
  exact t_X0_statesBefore_5 C hcl fy_fu _ _ _ _ _ _ _ _ h w q0 (lv_sub hl [2, 3, 4, 1, 0] rfl)

set_option maxHeartbeats 4000000 in
set_option maxRecDepth 100000 in
theorem c_X0_statesBefore (l : Launch) (g : fy_G) {y : fy_Y} (hcl : X_clo y) {S : fy_S} {v0 : Nat} {v1 : Int32} {v2 : Int32} {rr : Int32} (q0 : X_is y 0 v0) (h : X0_statesBefore S v0 v1 v2 = some rr) : fy_M g y l yX0_statesBefore cX0_statesBefore 5 (some .int) (fy_rm 2) [.ref (g.2.2.1 v0), .int v1, .int v2] S (fy_QI g y rr S) :=
  fy_entry (by decide +kernel) (Nat.le_of_ble_eq_true rfl) (fun p e s m args below meth c ls C w hl => t_X0_statesBefore C hcl q0 h w hl)
def X8_acceptedFrom_13 (S : fy_S) : Nat → Nat → Nat → Int32 → Int32 → Int32 → Option (Int32)
  | 0, _, _, _, _, _ => none
  | fu + 1, v0, v1, v2, v3, v4 =>
    if v4 < v2 then (
      some v3)
    else (
      if v4 < 0 then (
        some v3)
      else (
        fy_gd (fy_ix v4 (X_al (v0 + 1))) <|
        fy_bd (X0_statesBefore S v1 (S.1 (v0 + 1) v4.toNatClampNeg) v3) fun r33 =>
        fy_bl (v4 + (-1 : Int32)) fun x37 =>
        X8_acceptedFrom_13 S fu v0 v1 v2 r33 x37))
def X8_acceptedFrom (S : fy_S) (v0 : Nat) (v1 : Nat) (v2 : Int32) : Option (Int32) :=
  fy_bl (S.1 v1 5) fun x4 =>
  fy_bl ((S.1 v0 1) - (1 : Int32)) fun x11 =>
  X8_acceptedFrom_13 S fy_fu v0 v1 v2 x4 x11
set_option maxHeartbeats 4000000 in
set_option maxRecDepth 100000 in
theorem t_X8_acceptedFrom_13 {p : Program} {l : Launch} {e : Env} {s : State} {m : MethodId} {args : Array Value} {below : List Frame} {meth : Method} {c : Code} {g : fy_G} (C : fy_C g X_Y p s m args meth c yX8_acceptedFrom.cls cX8_acceptedFrom 5 (some .int)) {S : fy_S} {rr : Int32} : ∀ (fu : Nat) (v0 : Nat) (v1 : Nat) (v2 : Int32) (v3 : Int32) (v4 : Int32) (H : Heap) (locs : List Loc) (ls : Array Slot), X8_acceptedFrom_13 S fu v0 v1 v2 v3 v4 = some rr → fy_W g X_Y S s H locs → X_is X_Y 8 v0 → X_is X_Y 0 v1 → lv_has ls 5 [(0, .ref (g.2.2.1 v0)), (1, .ref (g.2.2.1 v1)), (2, .int v2), (3, .int v3), (4, .int v4)] → W p l e (fy_rm 3) s m args below meth c H locs 0 0 (MQ below (fy_QI g X_Y rr S) args s 0 0 (fy_A g X_Y)) (F0 m 13 ls []) := by
  obtain ⟨hx, hb, hr, hts, hown, hlk, hml, hK, hD, hE, hN⟩ := id C
  intro fu
  induction fu with
  | zero => intro v0 v1 v2 v3 v4 H locs ls h; cases h
  | succ fu ih =>
    intro v0 v1 v2 v3 v4 H locs ls h w q0 q1 hl
    rw [X8_acceptedFrom_13] at h
    refine lv_iload hx hb dX8_acceptedFrom_13 (lv_at hl 4 rfl) ?_
    refine lv_iload_n hx hb dX8_acceptedFrom_15 rfl (lv_at hl 2 rfl) ?_
    refine lv_icmp_lt (tgt := 43) hx hb dX8_acceptedFrom_16 (by decide) (fun hc => ?_) (fun hc => ?_)
    · have h := fy_if_t h hc
      refine lv_iload_n hx hb dX8_acceptedFrom_43 rfl (lv_at hl 3 rfl) ?_
      cases h
      exact fy_retI C w dX8_acceptedFrom_44
    · have h := fy_if_f h hc
      refine lv_iload hx hb dX8_acceptedFrom_19 (lv_at hl 4 rfl) ?_
      refine lv_if_lt (tgt := 43) hx hb dX8_acceptedFrom_21 (by decide) (fun hc => ?_) (fun hc => ?_)
      · have h := fy_if_t h hc
        refine lv_iload_n hx hb dX8_acceptedFrom_43 rfl (lv_at hl 3 rfl) ?_
        cases h
        exact fy_retI C w dX8_acceptedFrom_44
      · have h := fy_if_f h hc
        refine lv_aload_n hx hb dX8_acceptedFrom_24 rfl (lv_at hl 1 rfl) ?_
        refine lv_aload_n hx hb dX8_acceptedFrom_25 rfl (lv_at hl 0 rfl) ?_
        refine gfX8_19 X_full C w q0 dX8_acceptedFrom_26 ?_
        refine lv_iload hx hb dX8_acceptedFrom_29 (lv_at hl 4 rfl) ?_
        obtain ⟨g31, h⟩ := fy_gd_some h
        refine fy_bald C w (X_f8_letters X_full q0) g31 dX8_acceptedFrom_31 ?_
        refine lv_iload_n hx hb dX8_acceptedFrom_32 rfl (lv_at hl 3 rfl) ?_
        obtain ⟨r33, h33, h⟩ := fy_bd_some h
        refine fy_calI w (fy_runV (As := [.int (S.1 (v0 + 1) v4.toNatClampNeg), .int v3]) (rest := []) C w (c_X0_statesBefore l g X_full q1 h33) (X_o0 X_full q1) ksX8_32 rfl ⟨Nat.le_of_ble_eq_true rfl, Nat.le_of_ble_eq_true rfl⟩ rfl hl.1 rfl (Nat.le_of_ble_eq_true rfl) ⟨Nat.le_refl _, Nat.le_refl _⟩ dX8_acceptedFrom_33) (fun H locs w => ?_)
        refine lv_istore_n (lv' := [(3, .int r33), (0, .ref (g.2.2.1 v0)), (1, .ref (g.2.2.1 v1)), (2, .int v2), (4, .int v4)]) hx hb dX8_acceptedFrom_36 rfl hl (by decide) rfl (fun ls hl => ?_)
        obtain ⟨x37, e37⟩ : ∃ z : Int32, z = v4 + (-1 : Int32) := ⟨_, rfl⟩
        have h := fy_bl_some e37 h
        refine lv_iinc (k := 4) (v := x37) (lv' := [(4, .int x37), (3, .int r33), (0, .ref (g.2.2.1 v0)), (1, .ref (g.2.2.1 v1)), (2, .int v2)]) hx hb dX8_acceptedFrom_37 hl rfl (by rw [e37]; rfl) (by decide) rfl (fun ls hl => ?_)
        refine lv_goto (tgt := 13) hx hb dX8_acceptedFrom_40 (by decide) ?_
        exact ih _ _ _ _ _ _ _ _ h w q0 q1 (lv_sub hl [2, 3, 4, 1, 0] rfl)

set_option maxHeartbeats 4000000 in
set_option maxRecDepth 100000 in
theorem t_X8_acceptedFrom {p : Program} {l : Launch} {e : Env} {s : State} {m : MethodId} {args : Array Value} {below : List Frame} {meth : Method} {c : Code} {g : fy_G} (C : fy_C g X_Y p s m args meth c yX8_acceptedFrom.cls cX8_acceptedFrom 5 (some .int)) {S : fy_S} {v0 : Nat} {v1 : Nat} {v2 : Int32} {rr : Int32} (q0 : X_is X_Y 8 v0) (q1 : X_is X_Y 0 v1) {H : Heap} {locs : List Loc} {ls : Array Slot} (h : X8_acceptedFrom S v0 v1 v2 = some rr) (w : fy_W g X_Y S s H locs) (hl : lv_has ls 5 [(0, .ref (g.2.2.1 v0)), (1, .ref (g.2.2.1 v1)), (2, .int v2)]) : W p l e (fy_rm 3) s m args below meth c H locs 0 0 (MQ below (fy_QI g X_Y rr S) args s 0 0 (fy_A g X_Y)) (F0 m 0 ls []) := by
  obtain ⟨hx, hb, hr, hts, hown, hlk, hml, hK, hD, hE, hN⟩ := id C
  rw [X8_acceptedFrom] at h
  refine lv_aload_n hx hb dX8_acceptedFrom_0 rfl (lv_at hl 1 rfl) ?_
  refine gfX8_29 X_full C w q1 dX8_acceptedFrom_1 ?_
  refine lv_topi (fun x4 e4 => ?_)
  have h := fy_bl_some e4 h
  refine lv_istore_n (lv' := [(3, .int x4), (0, .ref (g.2.2.1 v0)), (1, .ref (g.2.2.1 v1)), (2, .int v2)]) hx hb dX8_acceptedFrom_4 rfl hl (by decide) rfl (fun ls hl => ?_)
  refine lv_aload_n hx hb dX8_acceptedFrom_5 rfl (lv_at hl 1 rfl) ?_
  refine gfX8_7 X_full C w q0 dX8_acceptedFrom_6 ?_
  refine lv_iconst (v := (1 : Int32)) hx hb dX8_acceptedFrom_9 (by decide) ?_
  refine lv_isub hx hb dX8_acceptedFrom_10 ?_
  refine lv_topi (fun x11 e11 => ?_)
  have h := fy_bl_some e11 h
  refine lv_istore (lv' := [(4, .int x11), (3, .int x4), (0, .ref (g.2.2.1 v0)), (1, .ref (g.2.2.1 v1)), (2, .int v2)]) hx hb dX8_acceptedFrom_11 hl (by decide) rfl (fun ls hl => ?_)
  exact t_X8_acceptedFrom_13 C fy_fu _ _ _ _ _ _ _ _ h w q0 q1 (lv_sub hl [2, 3, 4, 1, 0] rfl)

set_option maxHeartbeats 4000000 in
set_option maxRecDepth 100000 in
theorem c_X8_acceptedFrom (l : Launch) (g : fy_G) {S : fy_S} {v0 : Nat} {v1 : Nat} {v2 : Int32} {rr : Int32} (q0 : X_is X_Y 8 v0) (q1 : X_is X_Y 0 v1) (h : X8_acceptedFrom S v0 v1 v2 = some rr) : fy_M g X_Y l yX8_acceptedFrom cX8_acceptedFrom 5 (some .int) (fy_rm 3) [.ref (g.2.2.1 v0), .ref (g.2.2.1 v1), .int v2] S (fy_QI g X_Y rr S) :=
  fy_entry (by decide +kernel) (Nat.le_of_ble_eq_true rfl) (fun p e s m args below meth c ls C w hl => t_X8_acceptedFrom C q0 q1 h w hl)
def X9_acceptingStates (S : fy_S) (v1 : Int32) (v2 : Int32) : Option (Int32) :=
  fy_bd (X9_automatonIn S v1) fun r2 =>
  match r2 with
  | none => (
    some (-2 : Int32))
  | some r2_ => (
    fy_bd (X9_isWithin S v2 (0 : Int32) (S.1 12 1)) fun r19 =>
    if r19 = 0 then (
      some (-2 : Int32))
    else (
      fy_bd (X8_fits S 12 r2_) fun r33 =>
      if r33 = 0 then (
        some (-4 : Int32))
      else (
        fy_bd (X8_acceptedFrom S 12 r2_ v2) fun r45 =>
        some r45)))
set_option maxHeartbeats 4000000 in
set_option maxRecDepth 100000 in
theorem t_X9_acceptingStates {p : Program} {l : Launch} {e : Env} {s : State} {m : MethodId} {args : Array Value} {below : List Frame} {meth : Method} {c : Code} {g : fy_G} (C : fy_C g X_Y p s m args meth c yX9_acceptingStates.cls cX9_acceptingStates 4 (some .int)) {S : fy_S} {v1 : Int32} {v2 : Int32} {rr : Int32}  {H : Heap} {locs : List Loc} {ls : Array Slot} (h : X9_acceptingStates S v1 v2 = some rr) (w : fy_W g X_Y S s H locs) (hl : lv_has ls 4 [(0, .ref (g.2.2.1 0)), (1, .int v1), (2, .int v2)]) : W p l e (fy_rm 4) s m args below meth c H locs 0 0 (MQ below (fy_QI g X_Y rr S) args s 0 0 (fy_A g X_Y)) (F0 m 0 ls []) := by
  obtain ⟨hx, hb, hr, hts, hown, hlk, hml, hK, hD, hE, hN⟩ := id C
  rw [X9_acceptingStates] at h
  refine lv_aload_n hx hb dX9_acceptingStates_0 rfl (lv_at hl 0 rfl) ?_
  refine lv_iload_n hx hb dX9_acceptingStates_1 rfl (lv_at hl 1 rfl) ?_
  obtain ⟨r2, h2, h⟩ := fy_bd_some h
  refine fy_calE w (fy_runV (As := [.int v1]) (rest := []) C w (c_X9_automatonIn l g  h2) (X_o9 X_full (X_i0)) ksX9_88 rfl ⟨Nat.le_of_ble_eq_true rfl, Nat.le_of_ble_eq_true rfl⟩ rfl hl.1 rfl (Nat.le_of_ble_eq_true rfl) ⟨Nat.le_refl _, Nat.le_refl _⟩ dX9_acceptingStates_2) (fun H locs w => ?_)
  refine fy_astoreO_n (lv' := [(3, va_re g.2.2.1 r2), (0, .ref (g.2.2.1 0)), (1, .int v1), (2, .int v2)]) hx hb dX9_acceptingStates_5 rfl hl (by decide) rfl (fun ls hl => ?_)
  cases r2 with
  | none =>
    dsimp only at h
    refine lv_aload_nN hx hb dX9_acceptingStates_6 rfl (lv_at hl 0 rfl) ?_
    refine lv_ifnullN (tgt := 25) hx hb dX9_acceptingStates_7 (by decide) ?_
    refine lv_bipush (v := (-2 : Int32)) hx hb dX9_acceptingStates_25 (by decide) ?_
    cases h
    exact fy_retI C w dX9_acceptingStates_27
  | some r2_ =>
    dsimp only at h
    refine lv_aload_n hx hb dX9_acceptingStates_6 rfl (lv_at hl 0 rfl) ?_
    refine lv_ifnull hx hb dX9_acceptingStates_7 ?_
    refine lv_iload_n hx hb dX9_acceptingStates_10 rfl (lv_at hl 3 rfl) ?_
    refine lv_iconst (v := (0 : Int32)) hx hb dX9_acceptingStates_11 (by decide) ?_
    refine lv_aload_n hx hb dX9_acceptingStates_12 rfl (lv_at hl 1 rfl) ?_
    refine gfX9_42 X_full C w (X_i0) dX9_acceptingStates_13 ?_
    refine gfX9_170 X_full C w X_i12 dX9_acceptingStates_16 ?_
    obtain ⟨r19, h19, h⟩ := fy_bd_some h
    refine fy_calI w (fy_runS (As := [.int v2, .int (0 : Int32), .int (S.1 12 1)]) (rest := []) C w (c_X9_isWithin l g X_full  h19) ksX9_92 ⟨Nat.le_of_ble_eq_true rfl, Nat.le_of_ble_eq_true rfl⟩ rfl hl.1 rfl (Nat.le_of_ble_eq_true rfl) ⟨Nat.le_refl _, Nat.le_refl _⟩ dX9_acceptingStates_19) (fun H locs w => ?_)
    refine lv_if_ne (tgt := 28) hx hb dX9_acceptingStates_22 (by decide) (fun hc => ?_) (fun hc => ?_)
    · have h := fy_if_f h hc
      refine lv_aload_n hx hb dX9_acceptingStates_28 rfl (lv_at hl 1 rfl) ?_
      refine gfX9_42 X_full C w (X_i0) dX9_acceptingStates_29 ?_
      refine lv_aload_n hx hb dX9_acceptingStates_32 rfl (lv_at hl 0 rfl) ?_
      obtain ⟨r33, h33, h⟩ := fy_bd_some h
      refine fy_calI w (fy_runV (As := [.ref (g.2.2.1 r2_)]) (rest := []) C w (c_X8_fits l g X_i12 (cls_X9_automatonIn  h2) h33) (X_o8 X_full X_i12) ksX9_173 rfl ⟨Nat.le_of_ble_eq_true rfl, Nat.le_of_ble_eq_true rfl⟩ rfl hl.1 rfl (Nat.le_of_ble_eq_true rfl) ⟨Nat.le_refl _, Nat.le_refl _⟩ dX9_acceptingStates_33) (fun H locs w => ?_)
      refine lv_if_eq (tgt := 51) hx hb dX9_acceptingStates_36 (by decide) (fun hc => ?_) (fun hc => ?_)
      · have h := fy_if_t h hc
        refine lv_bipush (v := (-4 : Int32)) hx hb dX9_acceptingStates_51 (by decide) ?_
        cases h
        exact fy_retI C w dX9_acceptingStates_53
      · have h := fy_if_f h hc
        refine lv_aload_n hx hb dX9_acceptingStates_39 rfl (lv_at hl 1 rfl) ?_
        refine gfX9_42 X_full C w (X_i0) dX9_acceptingStates_40 ?_
        refine lv_aload_n hx hb dX9_acceptingStates_43 rfl (lv_at hl 0 rfl) ?_
        refine lv_iload_n hx hb dX9_acceptingStates_44 rfl (lv_at hl 3 rfl) ?_
        obtain ⟨r45, h45, h⟩ := fy_bd_some h
        refine fy_calI w (fy_runV (As := [.ref (g.2.2.1 r2_), .int v2]) (rest := []) C w (c_X8_acceptedFrom l g X_i12 (cls_X9_automatonIn  h2) h45) (X_o8 X_full X_i12) ksX9_177 rfl ⟨Nat.le_of_ble_eq_true rfl, Nat.le_of_ble_eq_true rfl⟩ rfl hl.1 rfl (Nat.le_of_ble_eq_true rfl) ⟨Nat.le_refl _, Nat.le_refl _⟩ dX9_acceptingStates_45) (fun H locs w => ?_)
        refine lv_goto (tgt := 53) hx hb dX9_acceptingStates_48 (by decide) ?_
        cases h
        exact fy_retI C w dX9_acceptingStates_53
    · have h := fy_if_t h hc
      refine lv_bipush (v := (-2 : Int32)) hx hb dX9_acceptingStates_25 (by decide) ?_
      cases h
      exact fy_retI C w dX9_acceptingStates_27

set_option maxHeartbeats 4000000 in
set_option maxRecDepth 100000 in
theorem c_X9_acceptingStates (l : Launch) (g : fy_G) {S : fy_S} {v1 : Int32} {v2 : Int32} {rr : Int32}  (h : X9_acceptingStates S v1 v2 = some rr) : fy_M g X_Y l yX9_acceptingStates cX9_acceptingStates 4 (some .int) (fy_rm 4) [.ref (g.2.2.1 0), .int v1, .int v2] S (fy_QI g X_Y rr S) :=
  fy_entry (by decide +kernel) (Nat.le_of_ble_eq_true rfl) (fun p e s m args below meth c ls C w hl => t_X9_acceptingStates C  h w hl)
def X9_accepts (S : fy_S) (v1 : Int32) : Option (Int32) :=
  fy_bd (X9_automatonIn S v1) fun r2 =>
  match r2 with
  | none => (
    some (-2 : Int32))
  | some r2_ => (
    fy_bd (X8_fits S 12 r2_) fun r18 =>
    if r18 = 0 then (
      some (-4 : Int32))
    else (
      fy_bd (X8_acceptedFrom S 12 r2_ (0 : Int32)) fun r37 =>
      fy_bd (X2_holdsIn S (r2_ + 3) r37) fun r40 =>
      if r40 = 0 then (
        some (0 : Int32))
      else (
        some (1 : Int32))))
set_option maxHeartbeats 4000000 in
set_option maxRecDepth 100000 in
theorem t_X9_accepts {p : Program} {l : Launch} {e : Env} {s : State} {m : MethodId} {args : Array Value} {below : List Frame} {meth : Method} {c : Code} {g : fy_G} (C : fy_C g X_Y p s m args meth c yX9_accepts.cls cX9_accepts 3 (some .int)) {S : fy_S} {v1 : Int32} {rr : Int32}  {H : Heap} {locs : List Loc} {ls : Array Slot} (h : X9_accepts S v1 = some rr) (w : fy_W g X_Y S s H locs) (hl : lv_has ls 3 [(0, .ref (g.2.2.1 0)), (1, .int v1)]) : W p l e (fy_rm 4) s m args below meth c H locs 0 0 (MQ below (fy_QI g X_Y rr S) args s 0 0 (fy_A g X_Y)) (F0 m 0 ls []) := by
  obtain ⟨hx, hb, hr, hts, hown, hlk, hml, hK, hD, hE, hN⟩ := id C
  rw [X9_accepts] at h
  refine lv_aload_n hx hb dX9_accepts_0 rfl (lv_at hl 0 rfl) ?_
  refine lv_iload_n hx hb dX9_accepts_1 rfl (lv_at hl 1 rfl) ?_
  obtain ⟨r2, h2, h⟩ := fy_bd_some h
  refine fy_calE w (fy_runV (As := [.int v1]) (rest := []) C w (c_X9_automatonIn l g  h2) (X_o9 X_full (X_i0)) ksX9_88 rfl ⟨Nat.le_of_ble_eq_true rfl, Nat.le_of_ble_eq_true rfl⟩ rfl hl.1 rfl (Nat.le_of_ble_eq_true rfl) ⟨Nat.le_refl _, Nat.le_refl _⟩ dX9_accepts_2) (fun H locs w => ?_)
  refine fy_astoreO_n (lv' := [(2, va_re g.2.2.1 r2), (0, .ref (g.2.2.1 0)), (1, .int v1)]) hx hb dX9_accepts_5 rfl hl (by decide) rfl (fun ls hl => ?_)
  cases r2 with
  | none =>
    dsimp only at h
    refine lv_aload_nN hx hb dX9_accepts_6 rfl (lv_at hl 0 rfl) ?_
    refine lv_ifnonnullN hx hb dX9_accepts_7 ?_
    refine lv_bipush (v := (-2 : Int32)) hx hb dX9_accepts_10 (by decide) ?_
    cases h
    exact fy_retI C w dX9_accepts_12
  | some r2_ =>
    dsimp only at h
    refine lv_aload_n hx hb dX9_accepts_6 rfl (lv_at hl 0 rfl) ?_
    refine lv_ifnonnull (tgt := 13) hx hb dX9_accepts_7 (by decide) ?_
    refine lv_aload_n hx hb dX9_accepts_13 rfl (lv_at hl 1 rfl) ?_
    refine gfX9_42 X_full C w (X_i0) dX9_accepts_14 ?_
    refine lv_aload_n hx hb dX9_accepts_17 rfl (lv_at hl 0 rfl) ?_
    obtain ⟨r18, h18, h⟩ := fy_bd_some h
    refine fy_calI w (fy_runV (As := [.ref (g.2.2.1 r2_)]) (rest := []) C w (c_X8_fits l g X_i12 (cls_X9_automatonIn  h2) h18) (X_o8 X_full X_i12) ksX9_173 rfl ⟨Nat.le_of_ble_eq_true rfl, Nat.le_of_ble_eq_true rfl⟩ rfl hl.1 rfl (Nat.le_of_ble_eq_true rfl) ⟨Nat.le_refl _, Nat.le_refl _⟩ dX9_accepts_18) (fun H locs w => ?_)
    refine lv_if_ne (tgt := 27) hx hb dX9_accepts_21 (by decide) (fun hc => ?_) (fun hc => ?_)
    · have h := fy_if_f h hc
      refine lv_aload_n hx hb dX9_accepts_27 rfl (lv_at hl 0 rfl) ?_
      refine gfX9_181 X_full C w (cls_X9_automatonIn  h2) dX9_accepts_28 ?_
      refine lv_aload_n hx hb dX9_accepts_31 rfl (lv_at hl 1 rfl) ?_
      refine gfX9_42 X_full C w (X_i0) dX9_accepts_32 ?_
      refine lv_aload_n hx hb dX9_accepts_35 rfl (lv_at hl 0 rfl) ?_
      refine lv_iconst (v := (0 : Int32)) hx hb dX9_accepts_36 (by decide) ?_
      obtain ⟨r37, h37, h⟩ := fy_bd_some h
      refine fy_calI w (fy_runV (As := [.ref (g.2.2.1 r2_), .int (0 : Int32)]) (rest := [.ref (g.2.2.1 (r2_ + 3))]) C w (c_X8_acceptedFrom l g X_i12 (cls_X9_automatonIn  h2) h37) (X_o8 X_full X_i12) ksX9_177 rfl ⟨Nat.le_of_ble_eq_true rfl, Nat.le_of_ble_eq_true rfl⟩ rfl hl.1 rfl (Nat.le_of_ble_eq_true rfl) ⟨Nat.le_refl _, Nat.le_refl _⟩ dX9_accepts_37) (fun H locs w => ?_)
      obtain ⟨r40, h40, h⟩ := fy_bd_some h
      refine fy_calI w (fy_runV (As := [.int r37]) (rest := []) C w (c_X2_holdsIn l g X_full (X_f0_initial X_full (cls_X9_automatonIn  h2)) h40) (X_o2 X_full (X_f0_initial X_full (cls_X9_automatonIn  h2))) ksX9_147 rfl ⟨Nat.le_of_ble_eq_true rfl, Nat.le_of_ble_eq_true rfl⟩ rfl hl.1 rfl (Nat.le_of_ble_eq_true rfl) ⟨Nat.le_refl _, Nat.le_refl _⟩ dX9_accepts_40) (fun H locs w => ?_)
      refine lv_if_eq (tgt := 50) hx hb dX9_accepts_43 (by decide) (fun hc => ?_) (fun hc => ?_)
      · have h := fy_if_t h hc
        refine lv_iconst (v := (0 : Int32)) hx hb dX9_accepts_50 (by decide) ?_
        cases h
        exact fy_retI C w dX9_accepts_51
      · have h := fy_if_f h hc
        refine lv_iconst (v := (1 : Int32)) hx hb dX9_accepts_46 (by decide) ?_
        refine lv_goto (tgt := 51) hx hb dX9_accepts_47 (by decide) ?_
        cases h
        exact fy_retI C w dX9_accepts_51
    · have h := fy_if_t h hc
      refine lv_bipush (v := (-4 : Int32)) hx hb dX9_accepts_24 (by decide) ?_
      cases h
      exact fy_retI C w dX9_accepts_26

set_option maxHeartbeats 4000000 in
set_option maxRecDepth 100000 in
theorem c_X9_accepts (l : Launch) (g : fy_G) {S : fy_S} {v1 : Int32} {rr : Int32}  (h : X9_accepts S v1 = some rr) : fy_M g X_Y l yX9_accepts cX9_accepts 3 (some .int) (fy_rm 4) [.ref (g.2.2.1 0), .int v1] S (fy_QI g X_Y rr S) :=
  fy_entry (by decide +kernel) (Nat.le_of_ble_eq_true rfl) (fun p e s m args below meth c ls C w hl => t_X9_accepts C  h w hl)
def X5_isPosition (S : fy_S) (v0 : Int32) (v1 : Int32) : Option (Int32) :=
  if v0 < 0 then (
    some (0 : Int32))
  else (
    if (12 : Int32) < v0 then (
      some (0 : Int32))
    else (
      if v1 < 0 then (
        some (0 : Int32))
      else (
        if (6 : Int32) ≤ v1 then (
          some (0 : Int32))
        else (
          some (1 : Int32)))))
set_option maxHeartbeats 4000000 in
set_option maxRecDepth 100000 in
theorem t_X5_isPosition {p : Program} {l : Launch} {e : Env} {s : State} {m : MethodId} {args : Array Value} {below : List Frame} {meth : Method} {c : Code} {g : fy_G} (C : fy_C g X_Y p s m args meth c yX5_isPosition.cls cX5_isPosition 2 (some .boolean)) {S : fy_S} {v0 : Int32} {v1 : Int32} {rr : Int32}  {H : Heap} {locs : List Loc} {ls : Array Slot} (h : X5_isPosition S v0 v1 = some rr) (w : fy_W g X_Y S s H locs) (hl : lv_has ls 2 [(0, .int v0), (1, .int v1)]) : W p l e (fy_rm 0) s m args below meth c H locs 0 0 (MQ below (fy_QI g X_Y rr S) args s 0 0 (fy_A g X_Y)) (F0 m 0 ls []) := by
  obtain ⟨hx, hb, hr, hts, hown, hlk, hml, hK, hD, hE, hN⟩ := id C
  rw [X5_isPosition] at h
  refine lv_iload_n hx hb dX5_isPosition_0 rfl (lv_at hl 0 rfl) ?_
  refine lv_if_lt (tgt := 24) hx hb dX5_isPosition_1 (by decide) (fun hc => ?_) (fun hc => ?_)
  · have h := fy_if_t h hc
    refine lv_iconst (v := (0 : Int32)) hx hb dX5_isPosition_24 (by decide) ?_
    cases h
    exact fy_retZ C w (by decide +kernel) dX5_isPosition_25
  · have h := fy_if_f h hc
    refine lv_iload_n hx hb dX5_isPosition_4 rfl (lv_at hl 0 rfl) ?_
    refine lv_bipush (v := (12 : Int32)) hx hb dX5_isPosition_5 (by decide) ?_
    refine lv_icmp_gt (tgt := 24) hx hb dX5_isPosition_7 (by decide) (fun hc => ?_) (fun hc => ?_)
    · have h := fy_if_t h hc
      refine lv_iconst (v := (0 : Int32)) hx hb dX5_isPosition_24 (by decide) ?_
      cases h
      exact fy_retZ C w (by decide +kernel) dX5_isPosition_25
    · have h := fy_if_f h hc
      refine lv_iload_n hx hb dX5_isPosition_10 rfl (lv_at hl 1 rfl) ?_
      refine lv_if_lt (tgt := 24) hx hb dX5_isPosition_11 (by decide) (fun hc => ?_) (fun hc => ?_)
      · have h := fy_if_t h hc
        refine lv_iconst (v := (0 : Int32)) hx hb dX5_isPosition_24 (by decide) ?_
        cases h
        exact fy_retZ C w (by decide +kernel) dX5_isPosition_25
      · have h := fy_if_f h hc
        refine lv_iload_n hx hb dX5_isPosition_14 rfl (lv_at hl 1 rfl) ?_
        refine lv_bipush (v := (6 : Int32)) hx hb dX5_isPosition_15 (by decide) ?_
        refine lv_icmp_ge (tgt := 24) hx hb dX5_isPosition_17 (by decide) (fun hc => ?_) (fun hc => ?_)
        · have h := fy_if_t h hc
          refine lv_iconst (v := (0 : Int32)) hx hb dX5_isPosition_24 (by decide) ?_
          cases h
          exact fy_retZ C w (by decide +kernel) dX5_isPosition_25
        · have h := fy_if_f h hc
          refine lv_iconst (v := (1 : Int32)) hx hb dX5_isPosition_20 (by decide) ?_
          refine lv_goto (tgt := 25) hx hb dX5_isPosition_21 (by decide) ?_
          cases h
          exact fy_retZ C w (by decide +kernel) dX5_isPosition_25

set_option maxHeartbeats 4000000 in
set_option maxRecDepth 100000 in
theorem c_X5_isPosition (l : Launch) (g : fy_G) {S : fy_S} {v0 : Int32} {v1 : Int32} {rr : Int32}  (h : X5_isPosition S v0 v1 = some rr) : fy_M g X_Y l yX5_isPosition cX5_isPosition 2 (some .boolean) (fy_rm 0) [.int v0, .int v1] S (fy_QI g X_Y rr S) :=
  fy_entry (by decide +kernel) (Nat.le_of_ble_eq_true rfl) (fun p e s m args below meth c ls C w hl => t_X5_isPosition C  h w hl)
def X5_setValue (S : fy_S) (v1 : Int32) (v2 : Int32) (v3 : Int32) : Option (fy_S) :=
  fy_bd (X5_isPosition S v1 v2) fun r2 =>
  if r2 = 0 then (
    some S)
  else (
    fy_gd (fy_ix ((v1 * (6 : Int32)) + v2) 78) <|
    fy_bl (fy_sI S 17 ((v1 * (6 : Int32)) + v2).toNatClampNeg v3) fun S19 =>
    some S19)
set_option maxHeartbeats 4000000 in
set_option maxRecDepth 100000 in
theorem t_X5_setValue {p : Program} {l : Launch} {e : Env} {s : State} {m : MethodId} {args : Array Value} {below : List Frame} {meth : Method} {c : Code} {g : fy_G} (C : fy_C g X_Y p s m args meth c yX5_setValue.cls cX5_setValue 4 none) {S : fy_S} {v1 : Int32} {v2 : Int32} {v3 : Int32} {Sr : fy_S}   {H : Heap} {locs : List Loc} {ls : Array Slot} (h : X5_setValue S v1 v2 v3 = some Sr) (w : fy_W g X_Y S s H locs) (hl : lv_has ls 4 [(0, .ref (g.2.2.1 16)), (1, .int v1), (2, .int v2), (3, .int v3)]) : W p l e (fy_rm 1) s m args below meth c H locs 0 0 (MQ below (fy_QV g X_Y Sr) args s 0 0 (fy_A g X_Y)) (F0 m 0 ls []) := by
  obtain ⟨hx, hb, hr, hts, hown, hlk, hml, hK, hD, hE, hN⟩ := id C
  rw [X5_setValue] at h
  refine lv_iload_n hx hb dX5_setValue_0 rfl (lv_at hl 1 rfl) ?_
  refine lv_iload_n hx hb dX5_setValue_1 rfl (lv_at hl 2 rfl) ?_
  obtain ⟨r2, h2, h⟩ := fy_bd_some h
  refine fy_calI w (fy_runS (As := [.int v1, .int v2]) (rest := []) C w (c_X5_isPosition l g  h2) ksX5_51 ⟨Nat.le_of_ble_eq_true rfl, Nat.le_of_ble_eq_true rfl⟩ rfl hl.1 rfl (Nat.le_of_ble_eq_true rfl) ⟨Nat.le_refl _, Nat.le_refl _⟩ dX5_setValue_2) (fun H locs w => ?_)
  refine lv_if_eq (tgt := 20) hx hb dX5_setValue_5 (by decide) (fun hc => ?_) (fun hc => ?_)
  · have h := fy_if_t h hc
    cases h
    exact fy_retV C w dX5_setValue_20
  · have h := fy_if_f h hc
    refine lv_aload_n hx hb dX5_setValue_8 rfl (lv_at hl 0 rfl) ?_
    refine gfX5_9 X_full C w (X_i16) dX5_setValue_9 ?_
    refine lv_iload_n hx hb dX5_setValue_12 rfl (lv_at hl 1 rfl) ?_
    refine lv_bipush (v := (6 : Int32)) hx hb dX5_setValue_13 (by decide) ?_
    refine lv_imul hx hb dX5_setValue_15 ?_
    refine lv_iload_n hx hb dX5_setValue_16 rfl (lv_at hl 2 rfl) ?_
    refine lv_iadd hx hb dX5_setValue_17 ?_
    refine lv_iload_n hx hb dX5_setValue_18 rfl (lv_at hl 3 rfl) ?_
    obtain ⟨g19, h⟩ := fy_gd_some h
    refine fy_iast C w X_a17 g19 dX5_setValue_19 (fun H locs w => ?_)
    obtain ⟨S19, e19⟩ : ∃ z, z = fy_sI S 17 ((v1 * (6 : Int32)) + v2).toNatClampNeg v3 := ⟨_, rfl⟩
    have h := fy_bl_some e19 h
    rw [← e19] at w
    cases h
    exact fy_retV C w dX5_setValue_20

set_option maxHeartbeats 4000000 in
set_option maxRecDepth 100000 in
theorem c_X5_setValue (l : Launch) (g : fy_G) {S : fy_S} {v1 : Int32} {v2 : Int32} {v3 : Int32} {Sr : fy_S}   (h : X5_setValue S v1 v2 v3 = some Sr) : fy_M g X_Y l yX5_setValue cX5_setValue 4 none (fy_rm 1) [.ref (g.2.2.1 16), .int v1, .int v2, .int v3] S (fy_QV g X_Y Sr) :=
  fy_entry (by decide +kernel) (Nat.le_of_ble_eq_true rfl) (fun p e s m args below meth c ls C w hl => t_X5_setValue C  h w hl)
def X8_letterAt (S : fy_S) (v0 : Nat) (v1 : Int32) : Option (Int32) :=
  if v1 < 0 then (
    some (0 : Int32))
  else (
    if (S.1 v0 1) ≤ v1 then (
      some (0 : Int32))
    else (
      fy_gd (fy_ix v1 (X_al (v0 + 1))) <|
      some (S.1 (v0 + 1) v1.toNatClampNeg)))
set_option maxHeartbeats 4000000 in
set_option maxRecDepth 100000 in
theorem t_X8_letterAt {p : Program} {l : Launch} {e : Env} {s : State} {m : MethodId} {args : Array Value} {below : List Frame} {meth : Method} {c : Code} {g : fy_G} (C : fy_C g X_Y p s m args meth c yX8_letterAt.cls cX8_letterAt 2 (some .int)) {S : fy_S} {v0 : Nat} {v1 : Int32} {rr : Int32} (q0 : X_is X_Y 8 v0) {H : Heap} {locs : List Loc} {ls : Array Slot} (h : X8_letterAt S v0 v1 = some rr) (w : fy_W g X_Y S s H locs) (hl : lv_has ls 2 [(0, .ref (g.2.2.1 v0)), (1, .int v1)]) : W p l e (fy_rm 0) s m args below meth c H locs 0 0 (MQ below (fy_QI g X_Y rr S) args s 0 0 (fy_A g X_Y)) (F0 m 0 ls []) := by
  obtain ⟨hx, hb, hr, hts, hown, hlk, hml, hK, hD, hE, hN⟩ := id C
  rw [X8_letterAt] at h
  refine lv_iload_n hx hb dX8_letterAt_0 rfl (lv_at hl 1 rfl) ?_
  refine lv_if_lt (tgt := 21) hx hb dX8_letterAt_1 (by decide) (fun hc => ?_) (fun hc => ?_)
  · have h := fy_if_t h hc
    refine lv_iconst (v := (0 : Int32)) hx hb dX8_letterAt_21 (by decide) ?_
    cases h
    exact fy_retI C w dX8_letterAt_22
  · have h := fy_if_f h hc
    refine lv_iload_n hx hb dX8_letterAt_4 rfl (lv_at hl 1 rfl) ?_
    refine lv_aload_n hx hb dX8_letterAt_5 rfl (lv_at hl 0 rfl) ?_
    refine gfX8_7 X_full C w q0 dX8_letterAt_6 ?_
    refine lv_icmp_ge (tgt := 21) hx hb dX8_letterAt_9 (by decide) (fun hc => ?_) (fun hc => ?_)
    · have h := fy_if_t h hc
      refine lv_iconst (v := (0 : Int32)) hx hb dX8_letterAt_21 (by decide) ?_
      cases h
      exact fy_retI C w dX8_letterAt_22
    · have h := fy_if_f h hc
      refine lv_aload_n hx hb dX8_letterAt_12 rfl (lv_at hl 0 rfl) ?_
      refine gfX8_19 X_full C w q0 dX8_letterAt_13 ?_
      refine lv_iload_n hx hb dX8_letterAt_16 rfl (lv_at hl 1 rfl) ?_
      obtain ⟨g17, h⟩ := fy_gd_some h
      refine fy_bald C w (X_f8_letters X_full q0) g17 dX8_letterAt_17 ?_
      refine lv_goto (tgt := 22) hx hb dX8_letterAt_18 (by decide) ?_
      cases h
      exact fy_retI C w dX8_letterAt_22

set_option maxHeartbeats 4000000 in
set_option maxRecDepth 100000 in
theorem c_X8_letterAt (l : Launch) (g : fy_G) {S : fy_S} {v0 : Nat} {v1 : Int32} {rr : Int32} (q0 : X_is X_Y 8 v0) (h : X8_letterAt S v0 v1 = some rr) : fy_M g X_Y l yX8_letterAt cX8_letterAt 2 (some .int) (fy_rm 0) [.ref (g.2.2.1 v0), .int v1] S (fy_QI g X_Y rr S) :=
  fy_entry (by decide +kernel) (Nat.le_of_ble_eq_true rfl) (fun p e s m args below meth c ls C w hl => t_X8_letterAt C q0 h w hl)
def X5_valueAt (S : fy_S) (v1 : Int32) (v2 : Int32) : Option (Int32) :=
  fy_bd (X5_isPosition S v1 v2) fun r2 =>
  if r2 = 0 then (
    some (10000 : Int32))
  else (
    fy_gd (fy_ix ((v1 * (6 : Int32)) + v2) 78) <|
    some (S.1 17 ((v1 * (6 : Int32)) + v2).toNatClampNeg))
set_option maxHeartbeats 4000000 in
set_option maxRecDepth 100000 in
theorem t_X5_valueAt {p : Program} {l : Launch} {e : Env} {s : State} {m : MethodId} {args : Array Value} {below : List Frame} {meth : Method} {c : Code} {g : fy_G} (C : fy_C g X_Y p s m args meth c yX5_valueAt.cls cX5_valueAt 3 (some .int)) {S : fy_S} {v1 : Int32} {v2 : Int32} {rr : Int32}  {H : Heap} {locs : List Loc} {ls : Array Slot} (h : X5_valueAt S v1 v2 = some rr) (w : fy_W g X_Y S s H locs) (hl : lv_has ls 3 [(0, .ref (g.2.2.1 16)), (1, .int v1), (2, .int v2)]) : W p l e (fy_rm 1) s m args below meth c H locs 0 0 (MQ below (fy_QI g X_Y rr S) args s 0 0 (fy_A g X_Y)) (F0 m 0 ls []) := by
  obtain ⟨hx, hb, hr, hts, hown, hlk, hml, hK, hD, hE, hN⟩ := id C
  rw [X5_valueAt] at h
  refine lv_iload_n hx hb dX5_valueAt_0 rfl (lv_at hl 1 rfl) ?_
  refine lv_iload_n hx hb dX5_valueAt_1 rfl (lv_at hl 2 rfl) ?_
  obtain ⟨r2, h2, h⟩ := fy_bd_some h
  refine fy_calI w (fy_runS (As := [.int v1, .int v2]) (rest := []) C w (c_X5_isPosition l g  h2) ksX5_51 ⟨Nat.le_of_ble_eq_true rfl, Nat.le_of_ble_eq_true rfl⟩ rfl hl.1 rfl (Nat.le_of_ble_eq_true rfl) ⟨Nat.le_refl _, Nat.le_refl _⟩ dX5_valueAt_2) (fun H locs w => ?_)
  refine lv_if_eq (tgt := 22) hx hb dX5_valueAt_5 (by decide) (fun hc => ?_) (fun hc => ?_)
  · have h := fy_if_t h hc
    refine lv_sipush (v := (10000 : Int32)) hx hb dX5_valueAt_22 (by decide) ?_
    cases h
    exact fy_retI C w dX5_valueAt_25
  · have h := fy_if_f h hc
    refine lv_aload_n hx hb dX5_valueAt_8 rfl (lv_at hl 0 rfl) ?_
    refine gfX5_9 X_full C w (X_i16) dX5_valueAt_9 ?_
    refine lv_iload_n hx hb dX5_valueAt_12 rfl (lv_at hl 1 rfl) ?_
    refine lv_bipush (v := (6 : Int32)) hx hb dX5_valueAt_13 (by decide) ?_
    refine lv_imul hx hb dX5_valueAt_15 ?_
    refine lv_iload_n hx hb dX5_valueAt_16 rfl (lv_at hl 2 rfl) ?_
    refine lv_iadd hx hb dX5_valueAt_17 ?_
    obtain ⟨g18, h⟩ := fy_gd_some h
    refine fy_iald C w X_a17 g18 dX5_valueAt_18 ?_
    refine lv_goto (tgt := 25) hx hb dX5_valueAt_19 (by decide) ?_
    cases h
    exact fy_retI C w dX5_valueAt_25

set_option maxHeartbeats 4000000 in
set_option maxRecDepth 100000 in
theorem c_X5_valueAt (l : Launch) (g : fy_G) {S : fy_S} {v1 : Int32} {v2 : Int32} {rr : Int32}  (h : X5_valueAt S v1 v2 = some rr) : fy_M g X_Y l yX5_valueAt cX5_valueAt 3 (some .int) (fy_rm 1) [.ref (g.2.2.1 16), .int v1, .int v2] S (fy_QI g X_Y rr S) :=
  fy_entry (by decide +kernel) (Nat.le_of_ble_eq_true rfl) (fun p e s m args below meth c ls C w hl => t_X5_valueAt C  h w hl)
end
