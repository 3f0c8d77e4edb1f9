noncomputable section
def M_statesIn_5 (S : fy_S) : Nat → Int32 → Int32 → Int32 → Int32 → Option (Int32)
  | 0, _, _, _, _ => none
  | fu + 1, v1, v2, v3, v4 =>
    fy_bd (M_sizeOf S v1 v2) fun r10 =>
    if r10 ≤ v4 then (
      some v3)
    else (
      fy_bd (M_at S v1 v2) fun r24 =>
      fy_gd (fy_ix (r24 + v4) 5320) <|
      if (8 : Int32) ≤ (S.1 6 (r24 + v4).toNatClampNeg) then (
        fy_bl (v3 ||| (0 : Int32)) fun x57 =>
        fy_bl (v4 + (1 : Int32)) fun x58 =>
        M_statesIn_5 S fu v1 v2 x57 x58)
      else (
        fy_bd (M_at S v1 v2) fun r44 =>
        fy_gd (fy_ix (r44 + v4) 5320) <|
        fy_bl (v3 ||| ((1 : Int32) <<< ((S.1 6 (r44 + v4).toNatClampNeg) &&& 31))) fun x57 =>
        fy_bl (v4 + (1 : Int32)) fun x58 =>
        M_statesIn_5 S fu v1 v2 x57 x58))
def M_statesIn (S : fy_S) (v1 : Int32) (v2 : Int32) : Option (Int32) :=
  M_statesIn_5 S fy_fu v1 v2 (0 : Int32) (0 : Int32)
set_option maxHeartbeats 4000000 in
set_option maxRecDepth 100000 in
theorem t_M_statesIn_5 {p : Program} {l : Launch} {e : Env} {s : State} {m : MethodId} {args : Array Value} {below : List Frame} {meth : Method} {c : Code} {g : fy_G} (C : fy_C g M_Y p s m args meth c yX10_statesIn.cls cX10_statesIn 5 (some .int)) {S : fy_S} {rr : Int32} : ∀ (fu : Nat) (v1 : Int32) (v2 : Int32) (v3 : Int32) (v4 : Int32) (H : Heap) (locs : List Loc) (ls : Array Slot), M_statesIn_5 S fu v1 v2 v3 v4 = some rr → fy_W g M_Y S s H locs → lv_has ls 5 [(0, .ref (g.2.2.1 0)), (1, .int v1), (2, .int v2), (3, .int v3), (4, .int v4)] → W p l e (fy_rm 1) s m args below meth c H locs 0 0 (MQ below (fy_QI g M_Y rr S) args s 0 0 (fy_A g M_Y)) (F0 m 5 ls []) := by
  obtain ⟨hx, hb, hr, hts, hown, hlk, hml, hK, hD, hE, hN⟩ := id C
  intro fu
  induction fu with
  | zero => intro v1 v2 v3 v4 H locs ls h; cases h
  | succ fu ih =>
    intro v1 v2 v3 v4 H locs ls h w  hl
    rw [M_statesIn_5] at h
    refine lv_iload hx hb dX10_statesIn_5 (lv_at hl 4 rfl) ?_
    refine lv_aload_n hx hb dX10_statesIn_7 rfl (lv_at hl 0 rfl) ?_
    refine lv_iload_n hx hb dX10_statesIn_8 rfl (lv_at hl 1 rfl) ?_
    refine lv_iload_n hx hb dX10_statesIn_9 rfl (lv_at hl 2 rfl) ?_
    obtain ⟨r10, h10, h⟩ := fy_bd_some h
    refine fy_calI w (fy_runV (As := [.int v1, .int v2]) (rest := [.int v4]) C w (c_M_sizeOf l g  h10) M_o ksX10_196 rfl ⟨Nat.le_of_ble_eq_true rfl, Nat.le_of_ble_eq_true rfl⟩ rfl hl.1 rfl (Nat.le_of_ble_eq_true rfl) ⟨Nat.le_refl _, Nat.le_refl _⟩ dX10_statesIn_10) (fun H locs w => ?_)
    refine lv_icmp_ge (tgt := 64) hx hb dX10_statesIn_13 (by decide) (fun hc => ?_) (fun hc => ?_)
    · have h := fy_if_t h hc
      refine lv_iload_n hx hb dX10_statesIn_64 rfl (lv_at hl 3 rfl) ?_
      cases h
      exact fy_retI C w dX10_statesIn_65
    · have h := fy_if_f h hc
      refine lv_iload_n hx hb dX10_statesIn_16 rfl (lv_at hl 3 rfl) ?_
      refine lv_aload_n hx hb dX10_statesIn_17 rfl (lv_at hl 0 rfl) ?_
      refine gfX10_25 C w dX10_statesIn_18 ?_
      refine lv_aload_n hx hb dX10_statesIn_21 rfl (lv_at hl 0 rfl) ?_
      refine lv_iload_n hx hb dX10_statesIn_22 rfl (lv_at hl 1 rfl) ?_
      refine lv_iload_n hx hb dX10_statesIn_23 rfl (lv_at hl 2 rfl) ?_
      obtain ⟨r24, h24, h⟩ := fy_bd_some h
      refine fy_calI w (fy_runV (As := [.int v1, .int v2]) (rest := [.ref (g.2.2.1 6), .int v3]) C w (c_M_at l g  h24) M_o ksX10_119 rfl ⟨Nat.le_of_ble_eq_true rfl, Nat.le_of_ble_eq_true rfl⟩ rfl hl.1 rfl (Nat.le_of_ble_eq_true rfl) ⟨Nat.le_refl _, Nat.le_refl _⟩ dX10_statesIn_24) (fun H locs w => ?_)
      refine lv_iload hx hb dX10_statesIn_27 (lv_at hl 4 rfl) ?_
      refine lv_iadd hx hb dX10_statesIn_29 ?_
      obtain ⟨g30, h⟩ := fy_gd_some h
      refine fy_iald C w M_a6 g30 dX10_statesIn_30 ?_
      refine lv_bipush (v := (8 : Int32)) hx hb dX10_statesIn_31 (by decide) ?_
      refine lv_icmp_ge (tgt := 55) hx hb dX10_statesIn_33 (by decide) (fun hc => ?_) (fun hc => ?_)
      · have h := fy_if_t h hc
        refine lv_iconst (v := (0 : Int32)) hx hb dX10_statesIn_55 (by decide) ?_
        refine lv_ior hx hb dX10_statesIn_56 ?_
        refine lv_topi (fun x57 e57 => ?_)
        have h := fy_bl_some e57 h
        refine lv_istore_n (lv' := [(3, .int x57), (0, .ref (g.2.2.1 0)), (1, .int v1), (2, .int v2), (4, .int v4)]) hx hb dX10_statesIn_57 rfl hl (by decide) rfl (fun ls hl => ?_)
        obtain ⟨x58, e58⟩ : ∃ z : Int32, z = v4 + (1 : Int32) := ⟨_, rfl⟩
        have h := fy_bl_some e58 h
        refine lv_iinc (k := 4) (v := x58) (lv' := [(4, .int x58), (3, .int x57), (0, .ref (g.2.2.1 0)), (1, .int v1), (2, .int v2)]) hx hb dX10_statesIn_58 hl rfl (by rw [e58]; rfl) (by decide) rfl (fun ls hl => ?_)
        refine lv_goto (tgt := 5) hx hb dX10_statesIn_61 (by decide) ?_
        exact ih _ _ _ _ _ _ _ h w (lv_sub hl [2, 3, 4, 1, 0] rfl)
      · have h := fy_if_f h hc
        refine lv_iconst (v := (1 : Int32)) hx hb dX10_statesIn_36 (by decide) ?_
        refine lv_aload_n hx hb dX10_statesIn_37 rfl (lv_at hl 0 rfl) ?_
        refine gfX10_25 C w dX10_statesIn_38 ?_
        refine lv_aload_n hx hb dX10_statesIn_41 rfl (lv_at hl 0 rfl) ?_
        refine lv_iload_n hx hb dX10_statesIn_42 rfl (lv_at hl 1 rfl) ?_
        refine lv_iload_n hx hb dX10_statesIn_43 rfl (lv_at hl 2 rfl) ?_
        obtain ⟨r44, h44, h⟩ := fy_bd_some h
        refine fy_calI w (fy_runV (As := [.int v1, .int v2]) (rest := [.ref (g.2.2.1 6), .int (1 : Int32), .int v3]) C w (c_M_at l g  h44) M_o ksX10_119 rfl ⟨Nat.le_of_ble_eq_true rfl, Nat.le_of_ble_eq_true rfl⟩ rfl hl.1 rfl (Nat.le_of_ble_eq_true rfl) ⟨Nat.le_refl _, Nat.le_refl _⟩ dX10_statesIn_44) (fun H locs w => ?_)
        refine lv_iload hx hb dX10_statesIn_47 (lv_at hl 4 rfl) ?_
        refine lv_iadd hx hb dX10_statesIn_49 ?_
        obtain ⟨g50, h⟩ := fy_gd_some h
        refine fy_iald C w M_a6 g50 dX10_statesIn_50 ?_
        refine lv_ishl hx hb dX10_statesIn_51 ?_
        refine lv_goto (tgt := 56) hx hb dX10_statesIn_52 (by decide) ?_
        refine lv_ior hx hb dX10_statesIn_56 ?_
        refine lv_topi (fun x57 e57 => ?_)
        have h := fy_bl_some e57 h
        refine lv_istore_n (lv' := [(3, .int x57), (0, .ref (g.2.2.1 0)), (1, .int v1), (2, .int v2), (4, .int v4)]) hx hb dX10_statesIn_57 rfl hl (by decide) rfl (fun ls hl => ?_)
        obtain ⟨x58, e58⟩ : ∃ z : Int32, z = v4 + (1 : Int32) := ⟨_, rfl⟩
        have h := fy_bl_some e58 h
        refine lv_iinc (k := 4) (v := x58) (lv' := [(4, .int x58), (3, .int x57), (0, .ref (g.2.2.1 0)), (1, .int v1), (2, .int v2)]) hx hb dX10_statesIn_58 hl rfl (by rw [e58]; rfl) (by decide) rfl (fun ls hl => ?_)
        refine lv_goto (tgt := 5) hx hb dX10_statesIn_61 (by decide) ?_
        exact ih _ _ _ _ _ _ _ h w (lv_sub hl [2, 3, 4, 1, 0] rfl)

set_option maxHeartbeats 4000000 in
set_option maxRecDepth 100000 in
theorem t_M_statesIn {p : Program} {l : Launch} {e : Env} {s : State} {m : MethodId} {args : Array Value} {below : List Frame} {meth : Method} {c : Code} {g : fy_G} (C : fy_C g M_Y p s m args meth c yX10_statesIn.cls cX10_statesIn 5 (some .int)) {S : fy_S} {v1 : Int32} {v2 : Int32} {rr : Int32}  {H : Heap} {locs : List Loc} {ls : Array Slot} (h : M_statesIn S v1 v2 = some rr) (w : fy_W g M_Y S s H locs) (hl : lv_has ls 5 [(0, .ref (g.2.2.1 0)), (1, .int v1), (2, .int v2)]) : W p l e (fy_rm 1) s m args below meth c H locs 0 0 (MQ below (fy_QI g M_Y rr S) args s 0 0 (fy_A g M_Y)) (F0 m 0 ls []) := by
  obtain ⟨hx, hb, hr, hts, hown, hlk, hml, hK, hD, hE, hN⟩ := id C
  rw [M_statesIn] at h
  refine lv_iconst (v := (0 : Int32)) hx hb dX10_statesIn_0 (by decide) ?_
  refine lv_istore_n (lv' := [(3, .int (0 : Int32)), (0, .ref (g.2.2.1 0)), (1, .int v1), (2, .int v2)]) hx hb dX10_statesIn_1 rfl hl (by decide) rfl (fun ls hl => ?_)
  refine lv_iconst (v := (0 : Int32)) hx hb dX10_statesIn_2 (by decide) ?_
  refine lv_istore (lv' := [(4, .int (0 : Int32)), (3, .int (0 : Int32)), (0, .ref (g.2.2.1 0)), (1, .int v1), (2, .int v2)]) hx hb dX10_statesIn_3 hl (by decide) rfl (fun ls hl => ?_)
  exact t_M_statesIn_5 C fy_fu _ _ _ _ _ _ _ h w (lv_sub hl [2, 3, 4, 1, 0] rfl)

set_option maxHeartbeats 4000000 in
set_option maxRecDepth 100000 in
theorem c_M_statesIn (l : Launch) (g : fy_G) {S : fy_S} {v1 : Int32} {v2 : Int32} {rr : Int32}  (h : M_statesIn S v1 v2 = some rr) : fy_M g M_Y l yX10_statesIn cX10_statesIn 5 (some .int) (fy_rm 1) [.ref (g.2.2.1 0), .int v1, .int v2] S (fy_QI g M_Y rr S) :=
  fy_entry (by decide +kernel) (Nat.le_of_ble_eq_true rfl) (fun p e s m args below meth c ls C w hl => t_M_statesIn C  h w hl)
def M_relevantStates_43 (S : fy_S) (k19 : Int32 → Int32 → Int32 → Option (Int32)) (k29 : Int32 → Int32 → Int32 → Int32 → Option (Int32)) : Nat → Int32 → Int32 → Int32 → Int32 → Int32 → Option (Int32)
  | 0, _, _, _, _, _ => none
  | fu + 1, v1, v2, v3, v4, v5 =>
    fy_gd (fy_ix v1 7) <|
    if (S.1 2 v1.toNatClampNeg) ≤ v5 then (
      fy_bl (v4 + (1 : Int32)) fun x85 =>
      k29 v1 v2 v3 x85)
    else (
      if ((v3 >>> (v4 &&& 31)) &&& (1 : Int32)) = (1 : Int32) then (
        fy_bd (M_formulaOf S v4 v5) fun r71 =>
        fy_bd (M_statesIn S v1 r71) fun r74 =>
        fy_bl (v2 ||| r74) fun x78 =>
        fy_bl (v5 + (1 : Int32)) fun x79 =>
        M_relevantStates_43 S k19 k29 fu v1 x78 v3 v4 x79)
      else (
        fy_bl (v4 + (1 : Int32)) fun x85 =>
        k29 v1 v2 v3 x85))
def M_relevantStates_29 (S : fy_S) (k19 : Int32 → Int32 → Int32 → Option (Int32)) : Nat → Int32 → Int32 → Int32 → Int32 → Option (Int32)
  | 0, _, _, _, _ => none
  | fu + 1, v1, v2, v3, v4 =>
    fy_gd (fy_ix v1 7) <|
    if (S.1 1 v1.toNatClampNeg) ≤ v4 then (
      k19 v1 v2 v3)
    else (
      M_relevantStates_43 S k19 (fun v1 v2 v3 v4 => M_relevantStates_29 S k19 fu v1 v2 v3 v4) fy_fu v1 v2 v3 v4 (0 : Int32))
def M_relevantStates_19 (S : fy_S) : Nat → Int32 → Int32 → Int32 → Option (Int32)
  | 0, _, _, _ => none
  | fu + 1, v1, v2, v3 =>
    if v3 = v2 then (
      some v2)
    else (
      M_relevantStates_29 S (fun v1 v2 v3 => M_relevantStates_19 S fu v1 v2 v3) fy_fu v1 v2 v2 (0 : Int32))
def M_relevantStates (S : fy_S) (v1 : Int32) : Option (Int32) :=
  fy_bd (M_isSlot S v1) fun r1 =>
  if r1 = 0 then (
    some (-2 : Int32))
  else (
    fy_bd (M_statesIn S v1 (0 : Int32)) fun r13 =>
    M_relevantStates_19 S fy_fu v1 r13 (-1 : Int32))
set_option maxHeartbeats 4000000 in
set_option maxRecDepth 100000 in
theorem t_M_relevantStates_43 {p : Program} {l : Launch} {e : Env} {s : State} {m : MethodId} {args : Array Value} {below : List Frame} {meth : Method} {c : Code} {g : fy_G} (C : fy_C g M_Y p s m args meth c yX10_relevantStates.cls cX10_relevantStates 6 (some .int)) {S : fy_S} {rr : Int32} {k19 : Int32 → Int32 → Int32 → Option (Int32)} {k29 : Int32 → Int32 → Int32 → Int32 → Option (Int32)} (hk19 : ∀ (v1 : Int32) (v2 : Int32) (v3 : Int32) (H : Heap) (locs : List Loc) (ls : Array Slot), k19 v1 v2 v3 = some rr → fy_W g M_Y S s H locs → lv_has ls 6 [(0, .ref (g.2.2.1 0)), (1, .int v1), (2, .int v2), (3, .int v3)] → W p l e (fy_rm 2) s m args below meth c H locs 0 0 (MQ below (fy_QI g M_Y rr S) args s 0 0 (fy_A g M_Y)) (F0 m 19 ls [])) (hk29 : ∀ (v1 : Int32) (v2 : Int32) (v3 : Int32) (v4 : Int32) (H : Heap) (locs : List Loc) (ls : Array Slot), k29 v1 v2 v3 v4 = some rr → fy_W g M_Y S s H locs → lv_has ls 6 [(0, .ref (g.2.2.1 0)), (1, .int v1), (2, .int v2), (3, .int v3), (4, .int v4)] → W p l e (fy_rm 2) s m args below meth c H locs 0 0 (MQ below (fy_QI g M_Y rr S) args s 0 0 (fy_A g M_Y)) (F0 m 29 ls [])) : ∀ (fu : Nat) (v1 : Int32) (v2 : Int32) (v3 : Int32) (v4 : Int32) (v5 : Int32) (H : Heap) (locs : List Loc) (ls : Array Slot), M_relevantStates_43 S k19 k29 fu v1 v2 v3 v4 v5 = some rr → fy_W g M_Y S s H locs → lv_has ls 6 [(0, .ref (g.2.2.1 0)), (1, .int v1), (2, .int v2), (3, .int v3), (4, .int v4), (5, .int v5)] → W p l e (fy_rm 2) s m args below meth c H locs 0 0 (MQ below (fy_QI g M_Y rr S) args s 0 0 (fy_A g M_Y)) (F0 m 43 ls []) := by
  obtain ⟨hx, hb, hr, hts, hown, hlk, hml, hK, hD, hE, hN⟩ := id C
  intro fu
  induction fu with
  | zero => intro v1 v2 v3 v4 v5 H locs ls h; cases h
  | succ fu ih =>
    intro v1 v2 v3 v4 v5 H locs ls h w  hl
    rw [M_relevantStates_43] at h
    refine lv_iload hx hb dX10_relevantStates_43 (lv_at hl 5 rfl) ?_
    refine lv_aload_n hx hb dX10_relevantStates_45 rfl (lv_at hl 0 rfl) ?_
    refine gfX10_13 C w dX10_relevantStates_46 ?_
    refine lv_iload_n hx hb dX10_relevantStates_49 rfl (lv_at hl 1 rfl) ?_
    obtain ⟨g50, h⟩ := fy_gd_some h
    refine fy_iald C w M_a2 g50 dX10_relevantStates_50 ?_
    refine lv_icmp_ge (tgt := 85) hx hb dX10_relevantStates_51 (by decide) (fun hc => ?_) (fun hc => ?_)
    · have h := fy_if_t h hc
      obtain ⟨x85, e85⟩ : ∃ z : Int32, z = v4 + (1 : Int32) := ⟨_, rfl⟩
      have h := fy_bl_some e85 h
      refine lv_iinc (k := 4) (v := x85) (lv' := [(4, .int x85), (0, .ref (g.2.2.1 0)), (1, .int v1), (2, .int v2), (3, .int v3), (5, .int v5)]) hx hb dX10_relevantStates_85 hl rfl (by rw [e85]; rfl) (by decide) rfl (fun ls hl => ?_)
      refine lv_goto (tgt := 29) hx hb dX10_relevantStates_88 (by decide) ?_
      exact hk29 _ _ _ _ _ _ _ h w (lv_sub hl [1, 2, 3, 4, 0] rfl)
    · have h := fy_if_f h hc
      refine lv_iload_n hx hb dX10_relevantStates_54 rfl (lv_at hl 3 rfl) ?_
      refine lv_iload hx hb dX10_relevantStates_55 (lv_at hl 4 rfl) ?_
      refine lv_ishr hx hb dX10_relevantStates_57 ?_
      refine lv_iconst (v := (1 : Int32)) hx hb dX10_relevantStates_58 (by decide) ?_
      refine lv_iand hx hb dX10_relevantStates_59 ?_
      refine lv_iconst (v := (1 : Int32)) hx hb dX10_relevantStates_60 (by decide) ?_
      refine lv_icmp_ne (tgt := 85) hx hb dX10_relevantStates_61 (by decide) (fun hc => ?_) (fun hc => ?_)
      · have h := fy_if_f h hc
        obtain ⟨x85, e85⟩ : ∃ z : Int32, z = v4 + (1 : Int32) := ⟨_, rfl⟩
        have h := fy_bl_some e85 h
        refine lv_iinc (k := 4) (v := x85) (lv' := [(4, .int x85), (0, .ref (g.2.2.1 0)), (1, .int v1), (2, .int v2), (3, .int v3), (5, .int v5)]) hx hb dX10_relevantStates_85 hl rfl (by rw [e85]; rfl) (by decide) rfl (fun ls hl => ?_)
        refine lv_goto (tgt := 29) hx hb dX10_relevantStates_88 (by decide) ?_
        exact hk29 _ _ _ _ _ _ _ h w (lv_sub hl [1, 2, 3, 4, 0] rfl)
      · have h := fy_if_t h hc
        refine lv_iload_n hx hb dX10_relevantStates_64 rfl (lv_at hl 2 rfl) ?_
        refine lv_aload_n hx hb dX10_relevantStates_65 rfl (lv_at hl 0 rfl) ?_
        refine lv_iload_n hx hb dX10_relevantStates_66 rfl (lv_at hl 1 rfl) ?_
        refine lv_iload hx hb dX10_relevantStates_67 (lv_at hl 4 rfl) ?_
        refine lv_iload hx hb dX10_relevantStates_69 (lv_at hl 5 rfl) ?_
        obtain ⟨r71, h71, h⟩ := fy_bd_some h
        refine fy_calI w (fy_runS (As := [.int v4, .int v5]) (rest := [.int v1, .ref (g.2.2.1 0), .int v2]) C w (c_M_formulaOf l g  h71) ksX10_176 ⟨Nat.le_of_ble_eq_true rfl, Nat.le_of_ble_eq_true rfl⟩ rfl hl.1 rfl (Nat.le_of_ble_eq_true rfl) ⟨Nat.le_refl _, Nat.le_refl _⟩ dX10_relevantStates_71) (fun H locs w => ?_)
        obtain ⟨r74, h74, h⟩ := fy_bd_some h
        refine fy_calI w (fy_runV (As := [.int v1, .int r71]) (rest := [.int v2]) C w (c_M_statesIn l g  h74) M_o ksX10_282 rfl ⟨Nat.le_of_ble_eq_true rfl, Nat.le_of_ble_eq_true rfl⟩ rfl hl.1 rfl (Nat.le_of_ble_eq_true rfl) ⟨Nat.le_refl _, Nat.le_refl _⟩ dX10_relevantStates_74) (fun H locs w => ?_)
        refine lv_ior hx hb dX10_relevantStates_77 ?_
        refine lv_topi (fun x78 e78 => ?_)
        have h := fy_bl_some e78 h
        refine lv_istore_n (lv' := [(2, .int x78), (0, .ref (g.2.2.1 0)), (1, .int v1), (3, .int v3), (4, .int v4), (5, .int v5)]) hx hb dX10_relevantStates_78 rfl hl (by decide) rfl (fun ls hl => ?_)
        obtain ⟨x79, e79⟩ : ∃ z : Int32, z = v5 + (1 : Int32) := ⟨_, rfl⟩
        have h := fy_bl_some e79 h
        refine lv_iinc (k := 5) (v := x79) (lv' := [(5, .int x79), (2, .int x78), (0, .ref (g.2.2.1 0)), (1, .int v1), (3, .int v3), (4, .int v4)]) hx hb dX10_relevantStates_79 hl rfl (by rw [e79]; rfl) (by decide) rfl (fun ls hl => ?_)
        refine lv_goto (tgt := 43) hx hb dX10_relevantStates_82 (by decide) ?_
        exact ih _ _ _ _ _ _ _ _ h w (lv_sub hl [2, 3, 1, 4, 5, 0] rfl)

set_option maxHeartbeats 4000000 in
set_option maxRecDepth 100000 in
theorem t_M_relevantStates_29 {p : Program} {l : Launch} {e : Env} {s : State} {m : MethodId} {args : Array Value} {below : List Frame} {meth : Method} {c : Code} {g : fy_G} (C : fy_C g M_Y p s m args meth c yX10_relevantStates.cls cX10_relevantStates 6 (some .int)) {S : fy_S} {rr : Int32} {k19 : Int32 → Int32 → Int32 → Option (Int32)} (hk19 : ∀ (v1 : Int32) (v2 : Int32) (v3 : Int32) (H : Heap) (locs : List Loc) (ls : Array Slot), k19 v1 v2 v3 = some rr → fy_W g M_Y S s H locs → lv_has ls 6 [(0, .ref (g.2.2.1 0)), (1, .int v1), (2, .int v2), (3, .int v3)] → W p l e (fy_rm 2) s m args below meth c H locs 0 0 (MQ below (fy_QI g M_Y rr S) args s 0 0 (fy_A g M_Y)) (F0 m 19 ls [])) : ∀ (fu : Nat) (v1 : Int32) (v2 : Int32) (v3 : Int32) (v4 : Int32) (H : Heap) (locs : List Loc) (ls : Array Slot), M_relevantStates_29 S k19 fu v1 v2 v3 v4 = some rr → fy_W g M_Y S s H locs → lv_has ls 6 [(0, .ref (g.2.2.1 0)), (1, .int v1), (2, .int v2), (3, .int v3), (4, .int v4)] → W p l e (fy_rm 2) s m args below meth c H locs 0 0 (MQ below (fy_QI g M_Y rr S) args s 0 0 (fy_A g M_Y)) (F0 m 29 ls []) := by
  obtain ⟨hx, hb, hr, hts, hown, hlk, hml, hK, hD, hE, hN⟩ := id C
  intro fu
  induction fu with
  | zero => intro v1 v2 v3 v4 H locs ls h; cases h
  | succ fu ih =>
    intro v1 v2 v3 v4 H locs ls h w  hl
    rw [M_relevantStates_29] at h
    refine lv_iload hx hb dX10_relevantStates_29 (lv_at hl 4 rfl) ?_
    refine lv_aload_n hx hb dX10_relevantStates_31 rfl (lv_at hl 0 rfl) ?_
    refine gfX10_7 C w dX10_relevantStates_32 ?_
    refine lv_iload_n hx hb dX10_relevantStates_35 rfl (lv_at hl 1 rfl) ?_
    obtain ⟨g36, h⟩ := fy_gd_some h
    refine fy_iald C w M_a1 g36 dX10_relevantStates_36 ?_
    refine lv_icmp_ge (tgt := 91) hx hb dX10_relevantStates_37 (by decide) (fun hc => ?_) (fun hc => ?_)
    · have h := fy_if_t h hc
      refine lv_goto (tgt := 19) hx hb dX10_relevantStates_91 (by decide) ?_
      exact hk19 _ _ _ _ _ _ h w (lv_sub hl [0, 1, 2, 3] rfl)
    · have h := fy_if_f h hc
      refine lv_iconst (v := (0 : Int32)) hx hb dX10_relevantStates_40 (by decide) ?_
      refine lv_istore (lv' := [(5, .int (0 : Int32)), (0, .ref (g.2.2.1 0)), (1, .int v1), (2, .int v2), (3, .int v3), (4, .int v4)]) hx hb dX10_relevantStates_41 hl (by decide) rfl (fun ls hl => ?_)
      exact t_M_relevantStates_43 C hk19 ih fy_fu _ _ _ _ _ _ _ _ h w (lv_sub hl [1, 2, 3, 4, 5, 0] rfl)

set_option maxHeartbeats 4000000 in
set_option maxRecDepth 100000 in
theorem t_M_relevantStates_19 {p : Program} {l : Launch} {e : Env} {s : State} {m : MethodId} {args : Array Value} {below : List Frame} {meth : Method} {c : Code} {g : fy_G} (C : fy_C g M_Y p s m args meth c yX10_relevantStates.cls cX10_relevantStates 6 (some .int)) {S : fy_S} {rr : Int32} : ∀ (fu : Nat) (v1 : Int32) (v2 : Int32) (v3 : Int32) (H : Heap) (locs : List Loc) (ls : Array Slot), M_relevantStates_19 S fu v1 v2 v3 = some rr → fy_W g M_Y S s H locs → lv_has ls 6 [(0, .ref (g.2.2.1 0)), (1, .int v1), (2, .int v2), (3, .int v3)] → W p l e (fy_rm 2) s m args below meth c H locs 0 0 (MQ below (fy_QI g M_Y rr S) args s 0 0 (fy_A g M_Y)) (F0 m 19 ls []) := by
  obtain ⟨hx, hb, hr, hts, hown, hlk, hml, hK, hD, hE, hN⟩ := id C
  intro fu
  induction fu with
  | zero => intro v1 v2 v3 H locs ls h; cases h
  | succ fu ih =>
    intro v1 v2 v3 H locs ls h w  hl
    rw [M_relevantStates_19] at h
    refine lv_iload_n hx hb dX10_relevantStates_19 rfl (lv_at hl 3 rfl) ?_
    refine lv_iload_n hx hb dX10_relevantStates_20 rfl (lv_at hl 2 rfl) ?_
    refine lv_icmp_eq (tgt := 94) hx hb dX10_relevantStates_21 (by decide) (fun hc => ?_) (fun hc => ?_)
    · have h := fy_if_t h hc
      refine lv_iload_n hx hb dX10_relevantStates_94 rfl (lv_at hl 2 rfl) ?_
      cases h
      exact fy_retI C w dX10_relevantStates_95
    · have h := fy_if_f h hc
      refine lv_iload_n hx hb dX10_relevantStates_24 rfl (lv_at hl 2 rfl) ?_
      refine lv_istore_n (lv' := [(3, .int v2), (0, .ref (g.2.2.1 0)), (1, .int v1), (2, .int v2)]) hx hb dX10_relevantStates_25 rfl hl (by decide) rfl (fun ls hl => ?_)
      refine lv_iconst (v := (0 : Int32)) hx hb dX10_relevantStates_26 (by decide) ?_
      refine lv_istore (lv' := [(4, .int (0 : Int32)), (3, .int v2), (0, .ref (g.2.2.1 0)), (1, .int v1), (2, .int v2)]) hx hb dX10_relevantStates_27 hl (by decide) rfl (fun ls hl => ?_)
      exact t_M_relevantStates_29 C ih fy_fu _ _ _ _ _ _ _ h w (lv_sub hl [2, 3, 4, 1, 0] rfl)

set_option maxHeartbeats 4000000 in
set_option maxRecDepth 100000 in
theorem t_M_relevantStates {p : Program} {l : Launch} {e : Env} {s : State} {m : MethodId} {args : Array Value} {below : List Frame} {meth : Method} {c : Code} {g : fy_G} (C : fy_C g M_Y p s m args meth c yX10_relevantStates.cls cX10_relevantStates 6 (some .int)) {S : fy_S} {v1 : Int32} {rr : Int32}  {H : Heap} {locs : List Loc} {ls : Array Slot} (h : M_relevantStates S v1 = some rr) (w : fy_W g M_Y S s H locs) (hl : lv_has ls 6 [(0, .ref (g.2.2.1 0)), (1, .int v1)]) : W p l e (fy_rm 2) s m args below meth c H locs 0 0 (MQ below (fy_QI g M_Y rr S) args s 0 0 (fy_A g M_Y)) (F0 m 0 ls []) := by
  obtain ⟨hx, hb, hr, hts, hown, hlk, hml, hK, hD, hE, hN⟩ := id C
  rw [M_relevantStates] at h
  refine lv_iload_n hx hb dX10_relevantStates_0 rfl (lv_at hl 1 rfl) ?_
  obtain ⟨r1, h1, h⟩ := fy_bd_some h
  refine fy_calI w (fy_runS (As := [.int v1]) (rest := []) C w (c_M_isSlot l g  h1) ksX10_123 ⟨Nat.le_of_ble_eq_true rfl, Nat.le_of_ble_eq_true rfl⟩ rfl hl.1 rfl (Nat.le_of_ble_eq_true rfl) ⟨Nat.le_refl _, Nat.le_refl _⟩ dX10_relevantStates_1) (fun H locs w => ?_)
  refine lv_if_ne (tgt := 10) hx hb dX10_relevantStates_4 (by decide) (fun hc => ?_) (fun hc => ?_)
  · have h := fy_if_f h hc
    refine lv_aload_n hx hb dX10_relevantStates_10 rfl (lv_at hl 0 rfl) ?_
    refine lv_iload_n hx hb dX10_relevantStates_11 rfl (lv_at hl 1 rfl) ?_
    refine lv_iconst (v := (0 : Int32)) hx hb dX10_relevantStates_12 (by decide) ?_
    obtain ⟨r13, h13, h⟩ := fy_bd_some h
    refine fy_calI w (fy_runV (As := [.int v1, .int (0 : Int32)]) (rest := []) C w (c_M_statesIn l g  h13) M_o ksX10_282 rfl ⟨Nat.le_of_ble_eq_true rfl, Nat.le_of_ble_eq_true rfl⟩ rfl hl.1 rfl (Nat.le_of_ble_eq_true rfl) ⟨Nat.le_refl _, Nat.le_refl _⟩ dX10_relevantStates_13) (fun H locs w => ?_)
    refine lv_istore_n (lv' := [(2, .int r13), (0, .ref (g.2.2.1 0)), (1, .int v1)]) hx hb dX10_relevantStates_16 rfl hl (by decide) rfl (fun ls hl => ?_)
    refine lv_iconst (v := (-1 : Int32)) hx hb dX10_relevantStates_17 (by decide) ?_
    refine lv_istore_n (lv' := [(3, .int (-1 : Int32)), (2, .int r13), (0, .ref (g.2.2.1 0)), (1, .int v1)]) hx hb dX10_relevantStates_18 rfl hl (by decide) rfl (fun ls hl => ?_)
    exact t_M_relevantStates_19 C fy_fu _ _ _ _ _ _ h w (lv_sub hl [2, 3, 1, 0] rfl)
  · have h := fy_if_t h hc
    refine lv_bipush (v := (-2 : Int32)) hx hb dX10_relevantStates_7 (by decide) ?_
    cases h
    exact fy_retI C w dX10_relevantStates_9

set_option maxHeartbeats 4000000 in
set_option maxRecDepth 100000 in
theorem c_M_relevantStates (l : Launch) (g : fy_G) {S : fy_S} {v1 : Int32} {rr : Int32}  (h : M_relevantStates S v1 = some rr) : fy_M g M_Y l yX10_relevantStates cX10_relevantStates 6 (some .int) (fy_rm 2) [.ref (g.2.2.1 0), .int v1] S (fy_QI g M_Y rr S) :=
  fy_entry (by decide +kernel) (Nat.le_of_ble_eq_true rfl) (fun p e s m args below meth c ls C w hl => t_M_relevantStates C  h w hl)
def M_isBetter_21 (S : fy_S) (v1 : Int32) (v5 : Int32) : Option (Int32) :=
  fy_gd (fy_ix v5 64) <|
  if (S.1 27 v5.toNatClampNeg) < 0 then (
    some (1 : Int32))
  else (
    fy_gd (fy_ix v5 64) <|
    if (S.1 27 v5.toNatClampNeg) ≤ v1 then (
      some (0 : Int32))
    else (
      some (1 : Int32)))
def M_isBetter_120 (S : fy_S) : Nat → Int32 → Int32 → Int32 → Int32 → Option (Int32)
  | 0, _, _, _, _ => none
  | fu + 1, v2, v6, v7, v8 =>
    if v2 ≤ v8 then (
      some (0 : Int32))
    else (
      fy_gd (fy_ix v6 64) <|
      fy_gd (fy_ix v7 64) <|
      if (S.1 29 v6.toNatClampNeg) = (S.1 29 v7.toNatClampNeg) then (
        fy_gd (fy_ix v6 64) <|
        fy_bl (S.1 30 v6.toNatClampNeg) fun x173 =>
        fy_gd (fy_ix v7 64) <|
        fy_bl (S.1 30 v7.toNatClampNeg) fun x182 =>
        fy_bl (v8 + (1 : Int32)) fun x184 =>
        M_isBetter_120 S fu v2 x173 x182 x184)
      else (
        fy_gd (fy_ix v6 64) <|
        fy_gd (fy_ix v7 64) <|
        if (S.1 29 v7.toNatClampNeg) ≤ (S.1 29 v6.toNatClampNeg) then (
          some (0 : Int32))
        else (
          some (1 : Int32))))
def M_isBetter (S : fy_S) (v1 : Int32) (v2 : Int32) (v3 : Int32) (v4 : Int32) (v5 : Int32) : Option (Int32) :=
  fy_gd (fy_ix v5 64) <|
  if (S.1 27 v5.toNatClampNeg) < 0 then (
    M_isBetter_21 S v1 v5)
  else (
    fy_gd (fy_ix v5 64) <|
    if v1 = (S.1 27 v5.toNatClampNeg) then (
      fy_gd (fy_ix v5 64) <|
      if v2 = (S.1 28 v5.toNatClampNeg) then (
        fy_gd (fy_ix v5 64) <|
        if v3 = (S.1 29 v5.toNatClampNeg) then (
          fy_gd (fy_ix v5 64) <|
          fy_bl (S.1 30 v5.toNatClampNeg) fun x115 =>
          M_isBetter_120 S fy_fu v2 v4 x115 (1 : Int32))
        else (
          fy_gd (fy_ix v5 64) <|
          if (S.1 29 v5.toNatClampNeg) ≤ v3 then (
            some (0 : Int32))
          else (
            some (1 : Int32))))
      else (
        fy_gd (fy_ix v5 64) <|
        if (S.1 28 v5.toNatClampNeg) ≤ v2 then (
          some (0 : Int32))
        else (
          some (1 : Int32))))
    else (
      M_isBetter_21 S v1 v5))
set_option maxHeartbeats 4000000 in
set_option maxRecDepth 100000 in
theorem t_M_isBetter_21 {p : Program} {l : Launch} {e : Env} {s : State} {m : MethodId} {args : Array Value} {below : List Frame} {meth : Method} {c : Code} {g : fy_G} (C : fy_C g M_Y p s m args meth c yX10_isBetter.cls cX10_isBetter 9 (some .boolean)) {S : fy_S} {rr : Int32} : ∀ (v1 : Int32) (v5 : Int32) (H : Heap) (locs : List Loc) (ls : Array Slot), M_isBetter_21 S v1 v5 = some rr → fy_W g M_Y S s H locs → lv_has ls 9 [(0, .ref (g.2.2.1 0)), (1, .int v1), (5, .int v5)] → W p l e (fy_rm 0) s m args below meth c H locs 0 0 (MQ below (fy_QI g M_Y rr S) args s 0 0 (fy_A g M_Y)) (F0 m 21 ls []) := by
  obtain ⟨hx, hb, hr, hts, hown, hlk, hml, hK, hD, hE, hN⟩ := id C
  intro v1 v5 H locs ls h w  hl
  rw [M_isBetter_21] at h
  refine lv_aload_n hx hb dX10_isBetter_21 rfl (lv_at hl 0 rfl) ?_
  refine gfX10_88 C w dX10_isBetter_22 ?_
  refine lv_iload hx hb dX10_isBetter_25 (lv_at hl 2 rfl) ?_
  obtain ⟨g27, h⟩ := fy_gd_some h
  refine fy_iald C w M_a27 g27 dX10_isBetter_27 ?_
  refine lv_if_lt (tgt := 42) hx hb dX10_isBetter_28 (by decide) (fun hc => ?_) (fun hc => ?_)
  · have h := fy_if_t h hc
    refine lv_iconst (v := (1 : Int32)) hx hb dX10_isBetter_42 (by decide) ?_
    refine lv_goto (tgt := 47) hx hb dX10_isBetter_43 (by decide) ?_
    cases h
    exact fy_retZ C w (by decide +kernel) dX10_isBetter_47
  · have h := fy_if_f h hc
    refine lv_iload_n hx hb dX10_isBetter_31 rfl (lv_at hl 1 rfl) ?_
    refine lv_aload_n hx hb dX10_isBetter_32 rfl (lv_at hl 0 rfl) ?_
    refine gfX10_88 C w dX10_isBetter_33 ?_
    refine lv_iload hx hb dX10_isBetter_36 (lv_at hl 2 rfl) ?_
    obtain ⟨g38, h⟩ := fy_gd_some h
    refine fy_iald C w M_a27 g38 dX10_isBetter_38 ?_
    refine lv_icmp_ge (tgt := 46) hx hb dX10_isBetter_39 (by decide) (fun hc => ?_) (fun hc => ?_)
    · have h := fy_if_t h hc
      refine lv_iconst (v := (0 : Int32)) hx hb dX10_isBetter_46 (by decide) ?_
      cases h
      exact fy_retZ C w (by decide +kernel) dX10_isBetter_47
    · have h := fy_if_f h hc
      refine lv_iconst (v := (1 : Int32)) hx hb dX10_isBetter_42 (by decide) ?_
      refine lv_goto (tgt := 47) hx hb dX10_isBetter_43 (by decide) ?_
      cases h
      exact fy_retZ C w (by decide +kernel) dX10_isBetter_47

set_option maxHeartbeats 4000000 in
set_option maxRecDepth 100000 in
theorem t_M_isBetter_120 {p : Program} {l : Launch} {e : Env} {s : State} {m : MethodId} {args : Array Value} {below : List Frame} {meth : Method} {c : Code} {g : fy_G} (C : fy_C g M_Y p s m args meth c yX10_isBetter.cls cX10_isBetter 9 (some .boolean)) {S : fy_S} {rr : Int32} : ∀ (fu : Nat) (v2 : Int32) (v6 : Int32) (v7 : Int32) (v8 : Int32) (H : Heap) (locs : List Loc) (ls : Array Slot), M_isBetter_120 S fu v2 v6 v7 v8 = some rr → fy_W g M_Y S s H locs → lv_has ls 9 [(0, .ref (g.2.2.1 0)), (2, .int v2), (6, .int v6), (7, .int v7), (8, .int v8)] → W p l e (fy_rm 0) s m args below meth c H locs 0 0 (MQ below (fy_QI g M_Y rr S) args s 0 0 (fy_A g M_Y)) (F0 m 120 ls []) := by
  obtain ⟨hx, hb, hr, hts, hown, hlk, hml, hK, hD, hE, hN⟩ := id C
  intro fu
  induction fu with
  | zero => intro v2 v6 v7 v8 H locs ls h; cases h
  | succ fu ih =>
    intro v2 v6 v7 v8 H locs ls h w  hl
    rw [M_isBetter_120] at h
    refine lv_iload hx hb dX10_isBetter_120 (lv_at hl 4 rfl) ?_
    refine lv_iload_n hx hb dX10_isBetter_122 rfl (lv_at hl 1 rfl) ?_
    refine lv_icmp_ge (tgt := 190) hx hb dX10_isBetter_123 (by decide) (fun hc => ?_) (fun hc => ?_)
    · have h := fy_if_t h hc
      refine lv_iconst (v := (0 : Int32)) hx hb dX10_isBetter_190 (by decide) ?_
      cases h
      exact fy_retZ C w (by decide +kernel) dX10_isBetter_191
    · have h := fy_if_f h hc
      refine lv_aload_n hx hb dX10_isBetter_126 rfl (lv_at hl 0 rfl) ?_
      refine gfX10_94 C w dX10_isBetter_127 ?_
      refine lv_iload hx hb dX10_isBetter_130 (lv_at hl 2 rfl) ?_
      obtain ⟨g132, h⟩ := fy_gd_some h
      refine fy_iald C w M_a29 g132 dX10_isBetter_132 ?_
      refine lv_aload_n hx hb dX10_isBetter_133 rfl (lv_at hl 0 rfl) ?_
      refine gfX10_94 C w dX10_isBetter_134 ?_
      refine lv_iload hx hb dX10_isBetter_137 (lv_at hl 3 rfl) ?_
      obtain ⟨g139, h⟩ := fy_gd_some h
      refine fy_iald C w M_a29 g139 dX10_isBetter_139 ?_
      refine lv_icmp_eq (tgt := 166) hx hb dX10_isBetter_140 (by decide) (fun hc => ?_) (fun hc => ?_)
      · have h := fy_if_t h hc
        refine lv_aload_n hx hb dX10_isBetter_166 rfl (lv_at hl 0 rfl) ?_
        refine gfX10_97 C w dX10_isBetter_167 ?_
        refine lv_iload hx hb dX10_isBetter_170 (lv_at hl 2 rfl) ?_
        obtain ⟨g172, h⟩ := fy_gd_some h
        refine fy_iald C w M_a30 g172 dX10_isBetter_172 ?_
        refine lv_topi (fun x173 e173 => ?_)
        have h := fy_bl_some e173 h
        refine lv_istore (lv' := [(6, .int x173), (0, .ref (g.2.2.1 0)), (2, .int v2), (7, .int v7), (8, .int v8)]) hx hb dX10_isBetter_173 hl (by decide) rfl (fun ls hl => ?_)
        refine lv_aload_n hx hb dX10_isBetter_175 rfl (lv_at hl 1 rfl) ?_
        refine gfX10_97 C w dX10_isBetter_176 ?_
        refine lv_iload hx hb dX10_isBetter_179 (lv_at hl 3 rfl) ?_
        obtain ⟨g181, h⟩ := fy_gd_some h
        refine fy_iald C w M_a30 g181 dX10_isBetter_181 ?_
        refine lv_topi (fun x182 e182 => ?_)
        have h := fy_bl_some e182 h
        refine lv_istore (lv' := [(7, .int x182), (6, .int x173), (0, .ref (g.2.2.1 0)), (2, .int v2), (8, .int v8)]) hx hb dX10_isBetter_182 hl (by decide) rfl (fun ls hl => ?_)
        obtain ⟨x184, e184⟩ : ∃ z : Int32, z = v8 + (1 : Int32) := ⟨_, rfl⟩
        have h := fy_bl_some e184 h
        refine lv_iinc (k := 4) (v := x184) (lv' := [(8, .int x184), (7, .int x182), (6, .int x173), (0, .ref (g.2.2.1 0)), (2, .int v2)]) hx hb dX10_isBetter_184 hl rfl (by rw [e184]; rfl) (by decide) rfl (fun ls hl => ?_)
        refine lv_goto (tgt := 120) hx hb dX10_isBetter_187 (by decide) ?_
        exact ih _ _ _ _ _ _ _ h w (lv_sub hl [3, 4, 2, 1, 0] rfl)
      · have h := fy_if_f h hc
        refine lv_aload_n hx hb dX10_isBetter_143 rfl (lv_at hl 0 rfl) ?_
        refine gfX10_94 C w dX10_isBetter_144 ?_
        refine lv_iload hx hb dX10_isBetter_147 (lv_at hl 2 rfl) ?_
        obtain ⟨g149, h⟩ := fy_gd_some h
        refine fy_iald C w M_a29 g149 dX10_isBetter_149 ?_
        refine lv_aload_n hx hb dX10_isBetter_150 rfl (lv_at hl 0 rfl) ?_
        refine gfX10_94 C w dX10_isBetter_151 ?_
        refine lv_iload hx hb dX10_isBetter_154 (lv_at hl 3 rfl) ?_
        obtain ⟨g156, h⟩ := fy_gd_some h
        refine fy_iald C w M_a29 g156 dX10_isBetter_156 ?_
        refine lv_icmp_ge (tgt := 164) hx hb dX10_isBetter_157 (by decide) (fun hc => ?_) (fun hc => ?_)
        · have h := fy_if_t h hc
          refine lv_iconst (v := (0 : Int32)) hx hb dX10_isBetter_164 (by decide) ?_
          cases h
          exact fy_retZ C w (by decide +kernel) dX10_isBetter_165
        · have h := fy_if_f h hc
          refine lv_iconst (v := (1 : Int32)) hx hb dX10_isBetter_160 (by decide) ?_
          refine lv_goto (tgt := 165) hx hb dX10_isBetter_161 (by decide) ?_
          cases h
          exact fy_retZ C w (by decide +kernel) dX10_isBetter_165

set_option maxHeartbeats 4000000 in
set_option maxRecDepth 100000 in
theorem t_M_isBetter {p : Program} {l : Launch} {e : Env} {s : State} {m : MethodId} {args : Array Value} {below : List Frame} {meth : Method} {c : Code} {g : fy_G} (C : fy_C g M_Y p s m args meth c yX10_isBetter.cls cX10_isBetter 9 (some .boolean)) {S : fy_S} {v1 : Int32} {v2 : Int32} {v3 : Int32} {v4 : Int32} {v5 : Int32} {rr : Int32}  {H : Heap} {locs : List Loc} {ls : Array Slot} (h : M_isBetter S v1 v2 v3 v4 v5 = some rr) (w : fy_W g M_Y S s H locs) (hl : lv_has ls 9 [(0, .ref (g.2.2.1 0)), (1, .int v1), (2, .int v2), (3, .int v3), (4, .int v4), (5, .int v5)]) : W p l e (fy_rm 0) s m args below meth c H locs 0 0 (MQ below (fy_QI g M_Y rr S) args s 0 0 (fy_A g M_Y)) (F0 m 0 ls []) := by
  obtain ⟨hx, hb, hr, hts, hown, hlk, hml, hK, hD, hE, hN⟩ := id C
  rw [M_isBetter] at h
  refine lv_aload_n hx hb dX10_isBetter_0 rfl (lv_at hl 0 rfl) ?_
  refine gfX10_88 C w dX10_isBetter_1 ?_
  refine lv_iload hx hb dX10_isBetter_4 (lv_at hl 5 rfl) ?_
  obtain ⟨g6, h⟩ := fy_gd_some h
  refine fy_iald C w M_a27 g6 dX10_isBetter_6 ?_
  refine lv_if_lt (tgt := 21) hx hb dX10_isBetter_7 (by decide) (fun hc => ?_) (fun hc => ?_)
  · have h := fy_if_t h hc
    exact t_M_isBetter_21 C _ _ _ _ _ h w (lv_sub hl [0, 1, 5] rfl)
  · have h := fy_if_f h hc
    refine lv_iload_n hx hb dX10_isBetter_10 rfl (lv_at hl 1 rfl) ?_
    refine lv_aload_n hx hb dX10_isBetter_11 rfl (lv_at hl 0 rfl) ?_
    refine gfX10_88 C w dX10_isBetter_12 ?_
    refine lv_iload hx hb dX10_isBetter_15 (lv_at hl 5 rfl) ?_
    obtain ⟨g17, h⟩ := fy_gd_some h
    refine fy_iald C w M_a27 g17 dX10_isBetter_17 ?_
    refine lv_icmp_eq (tgt := 48) hx hb dX10_isBetter_18 (by decide) (fun hc => ?_) (fun hc => ?_)
    · have h := fy_if_t h hc
      refine lv_iload_n hx hb dX10_isBetter_48 rfl (lv_at hl 2 rfl) ?_
      refine lv_aload_n hx hb dX10_isBetter_49 rfl (lv_at hl 0 rfl) ?_
      refine gfX10_91 C w dX10_isBetter_50 ?_
      refine lv_iload hx hb dX10_isBetter_53 (lv_at hl 5 rfl) ?_
      obtain ⟨g55, h⟩ := fy_gd_some h
      refine fy_iald C w M_a28 g55 dX10_isBetter_55 ?_
      refine lv_icmp_eq (tgt := 76) hx hb dX10_isBetter_56 (by decide) (fun hc => ?_) (fun hc => ?_)
      · have h := fy_if_t h hc
        refine lv_iload_n hx hb dX10_isBetter_76 rfl (lv_at hl 3 rfl) ?_
        refine lv_aload_n hx hb dX10_isBetter_77 rfl (lv_at hl 0 rfl) ?_
        refine gfX10_94 C w dX10_isBetter_78 ?_
        refine lv_iload hx hb dX10_isBetter_81 (lv_at hl 5 rfl) ?_
        obtain ⟨g83, h⟩ := fy_gd_some h
        refine fy_iald C w M_a29 g83 dX10_isBetter_83 ?_
        refine lv_icmp_eq (tgt := 104) hx hb dX10_isBetter_84 (by decide) (fun hc => ?_) (fun hc => ?_)
        · have h := fy_if_t h hc
          refine lv_iload hx hb dX10_isBetter_104 (lv_at hl 4 rfl) ?_
          refine lv_istore (lv' := [(6, .int v4), (0, .ref (g.2.2.1 0)), (1, .int v1), (2, .int v2), (3, .int v3), (4, .int v4), (5, .int v5)]) hx hb dX10_isBetter_106 hl (by decide) rfl (fun ls hl => ?_)
          refine lv_aload_n hx hb dX10_isBetter_108 rfl (lv_at hl 1 rfl) ?_
          refine gfX10_97 C w dX10_isBetter_109 ?_
          refine lv_iload hx hb dX10_isBetter_112 (lv_at hl 6 rfl) ?_
          obtain ⟨g114, h⟩ := fy_gd_some h
          refine fy_iald C w M_a30 g114 dX10_isBetter_114 ?_
          refine lv_topi (fun x115 e115 => ?_)
          have h := fy_bl_some e115 h
          refine lv_istore (lv' := [(7, .int x115), (6, .int v4), (0, .ref (g.2.2.1 0)), (1, .int v1), (2, .int v2), (3, .int v3), (4, .int v4), (5, .int v5)]) hx hb dX10_isBetter_115 hl (by decide) rfl (fun ls hl => ?_)
          refine lv_iconst (v := (1 : Int32)) hx hb dX10_isBetter_117 (by decide) ?_
          refine lv_istore (lv' := [(8, .int (1 : Int32)), (7, .int x115), (6, .int v4), (0, .ref (g.2.2.1 0)), (1, .int v1), (2, .int v2), (3, .int v3), (4, .int v4), (5, .int v5)]) hx hb dX10_isBetter_118 hl (by decide) rfl (fun ls hl => ?_)
          exact t_M_isBetter_120 C fy_fu _ _ _ _ _ _ _ h w (lv_sub hl [3, 5, 2, 1, 0] rfl)
        · have h := fy_if_f h hc
          refine lv_iload_n hx hb dX10_isBetter_87 rfl (lv_at hl 3 rfl) ?_
          refine lv_aload_n hx hb dX10_isBetter_88 rfl (lv_at hl 0 rfl) ?_
          refine gfX10_94 C w dX10_isBetter_89 ?_
          refine lv_iload hx hb dX10_isBetter_92 (lv_at hl 5 rfl) ?_
          obtain ⟨g94, h⟩ := fy_gd_some h
          refine fy_iald C w M_a29 g94 dX10_isBetter_94 ?_
          refine lv_icmp_ge (tgt := 102) hx hb dX10_isBetter_95 (by decide) (fun hc => ?_) (fun hc => ?_)
          · have h := fy_if_t h hc
            refine lv_iconst (v := (0 : Int32)) hx hb dX10_isBetter_102 (by decide) ?_
            cases h
            exact fy_retZ C w (by decide +kernel) dX10_isBetter_103
          · have h := fy_if_f h hc
            refine lv_iconst (v := (1 : Int32)) hx hb dX10_isBetter_98 (by decide) ?_
            refine lv_goto (tgt := 103) hx hb dX10_isBetter_99 (by decide) ?_
            cases h
            exact fy_retZ C w (by decide +kernel) dX10_isBetter_103
      · have h := fy_if_f h hc
        refine lv_iload_n hx hb dX10_isBetter_59 rfl (lv_at hl 2 rfl) ?_
        refine lv_aload_n hx hb dX10_isBetter_60 rfl (lv_at hl 0 rfl) ?_
        refine gfX10_91 C w dX10_isBetter_61 ?_
        refine lv_iload hx hb dX10_isBetter_64 (lv_at hl 5 rfl) ?_
        obtain ⟨g66, h⟩ := fy_gd_some h
        refine fy_iald C w M_a28 g66 dX10_isBetter_66 ?_
        refine lv_icmp_ge (tgt := 74) hx hb dX10_isBetter_67 (by decide) (fun hc => ?_) (fun hc => ?_)
        · have h := fy_if_t h hc
          refine lv_iconst (v := (0 : Int32)) hx hb dX10_isBetter_74 (by decide) ?_
          cases h
          exact fy_retZ C w (by decide +kernel) dX10_isBetter_75
        · have h := fy_if_f h hc
          refine lv_iconst (v := (1 : Int32)) hx hb dX10_isBetter_70 (by decide) ?_
          refine lv_goto (tgt := 75) hx hb dX10_isBetter_71 (by decide) ?_
          cases h
          exact fy_retZ C w (by decide +kernel) dX10_isBetter_75
    · have h := fy_if_f h hc
      exact t_M_isBetter_21 C _ _ _ _ _ h w (lv_sub hl [0, 1, 5] rfl)

set_option maxHeartbeats 4000000 in
set_option maxRecDepth 100000 in
theorem c_M_isBetter (l : Launch) (g : fy_G) {S : fy_S} {v1 : Int32} {v2 : Int32} {v3 : Int32} {v4 : Int32} {v5 : Int32} {rr : Int32}  (h : M_isBetter S v1 v2 v3 v4 v5 = some rr) : fy_M g M_Y l yX10_isBetter cX10_isBetter 9 (some .boolean) (fy_rm 0) [.ref (g.2.2.1 0), .int v1, .int v2, .int v3, .int v4, .int v5] S (fy_QI g M_Y rr S) :=
  fy_entry (by decide +kernel) (Nat.le_of_ble_eq_true rfl) (fun p e s m args below meth c ls C w hl => t_M_isBetter C  h w hl)
def M_nearest_4 (S : fy_S) : Nat → Int32 → Int32 → Option (Int32)
  | 0, _, _ => none
  | fu + 1, v1, v2 =>
    if (64 : Int32) ≤ v2 then (
      some v1)
    else (
      fy_gd (fy_ix v2 64) <|
      if (S.1 27 v2.toNatClampNeg) < 0 then (
        fy_bl (v2 + (1 : Int32)) fun x52 =>
        M_nearest_4 S fu v1 x52)
      else (
        fy_gd (fy_ix v2 64) <|
        if (S.1 31 v2.toNatClampNeg) = 0 then (
          if v1 < 0 then (
            fy_bl (v2 + (1 : Int32)) fun x52 =>
            M_nearest_4 S fu v2 x52)
          else (
            fy_gd (fy_ix v2 64) <|
            fy_gd (fy_ix v1 64) <|
            if (S.1 27 v1.toNatClampNeg) ≤ (S.1 27 v2.toNatClampNeg) then (
              fy_bl (v2 + (1 : Int32)) fun x52 =>
              M_nearest_4 S fu v1 x52)
            else (
              fy_bl (v2 + (1 : Int32)) fun x52 =>
              M_nearest_4 S fu v2 x52)))
        else (
          fy_bl (v2 + (1 : Int32)) fun x52 =>
          M_nearest_4 S fu v1 x52)))
def M_nearest (S : fy_S)  : Option (Int32) :=
  M_nearest_4 S fy_fu (-1 : Int32) (0 : Int32)
set_option maxHeartbeats 4000000 in
set_option maxRecDepth 100000 in
theorem t_M_nearest_4 {p : Program} {l : Launch} {e : Env} {s : State} {m : MethodId} {args : Array Value} {below : List Frame} {meth : Method} {c : Code} {g : fy_G} (C : fy_C g M_Y p s m args meth c yX10_nearest.cls cX10_nearest 3 (some .int)) {S : fy_S} {rr : Int32} : ∀ (fu : Nat) (v1 : Int32) (v2 : Int32) (H : Heap) (locs : List Loc) (ls : Array Slot), M_nearest_4 S fu v1 v2 = some rr → fy_W g M_Y S s H locs → lv_has ls 3 [(0, .ref (g.2.2.1 0)), (1, .int v1), (2, .int v2)] → W p l e (fy_rm 0) s m args below meth c H locs 0 0 (MQ below (fy_QI g M_Y rr S) args s 0 0 (fy_A g M_Y)) (F0 m 4 ls []) := by
  obtain ⟨hx, hb, hr, hts, hown, hlk, hml, hK, hD, hE, hN⟩ := id C
  intro fu
  induction fu with
  | zero => intro v1 v2 H locs ls h; cases h
  | succ fu ih =>
    intro v1 v2 H locs ls h w  hl
    rw [M_nearest_4] at h
    refine lv_iload_n hx hb dX10_nearest_4 rfl (lv_at hl 2 rfl) ?_
    refine lv_bipush (v := (64 : Int32)) hx hb dX10_nearest_5 (by decide) ?_
    refine lv_icmp_ge (tgt := 58) hx hb dX10_nearest_7 (by decide) (fun hc => ?_) (fun hc => ?_)
    · have h := fy_if_t h hc
      refine lv_iload_n hx hb dX10_nearest_58 rfl (lv_at hl 1 rfl) ?_
      cases h
      exact fy_retI C w dX10_nearest_59
    · have h := fy_if_f h hc
      refine lv_aload_n hx hb dX10_nearest_10 rfl (lv_at hl 0 rfl) ?_
      refine gfX10_88 C w dX10_nearest_11 ?_
      refine lv_iload_n hx hb dX10_nearest_14 rfl (lv_at hl 2 rfl) ?_
      obtain ⟨g15, h⟩ := fy_gd_some h
      refine fy_iald C w M_a27 g15 dX10_nearest_15 ?_
      refine lv_if_lt (tgt := 52) hx hb dX10_nearest_16 (by decide) (fun hc => ?_) (fun hc => ?_)
      · have h := fy_if_t h hc
        obtain ⟨x52, e52⟩ : ∃ z : Int32, z = v2 + (1 : Int32) := ⟨_, rfl⟩
        have h := fy_bl_some e52 h
        refine lv_iinc (k := 2) (v := x52) (lv' := [(2, .int x52), (0, .ref (g.2.2.1 0)), (1, .int v1)]) hx hb dX10_nearest_52 hl rfl (by rw [e52]; rfl) (by decide) rfl (fun ls hl => ?_)
        refine lv_goto (tgt := 4) hx hb dX10_nearest_55 (by decide) ?_
        exact ih _ _ _ _ _ h w (lv_sub hl [1, 2, 0] rfl)
      · have h := fy_if_f h hc
        refine lv_aload_n hx hb dX10_nearest_19 rfl (lv_at hl 0 rfl) ?_
        refine gfX10_100 C w dX10_nearest_20 ?_
        refine lv_iload_n hx hb dX10_nearest_23 rfl (lv_at hl 2 rfl) ?_
        obtain ⟨g24, h⟩ := fy_gd_some h
        refine fy_zald C w M_a31 g24 dX10_nearest_24 ?_
        refine lv_if_eq (tgt := 31) hx hb dX10_nearest_25 (by decide) (fun hc => ?_) (fun hc => ?_)
        · have h := fy_if_t h hc
          refine lv_iload_n hx hb dX10_nearest_31 rfl (lv_at hl 1 rfl) ?_
          refine lv_if_lt (tgt := 50) hx hb dX10_nearest_32 (by decide) (fun hc => ?_) (fun hc => ?_)
          · have h := fy_if_t h hc
            refine lv_iload_n hx hb dX10_nearest_50 rfl (lv_at hl 2 rfl) ?_
            refine lv_istore_n (lv' := [(1, .int v2), (0, .ref (g.2.2.1 0)), (2, .int v2)]) hx hb dX10_nearest_51 rfl hl (by decide) rfl (fun ls hl => ?_)
            obtain ⟨x52, e52⟩ : ∃ z : Int32, z = v2 + (1 : Int32) := ⟨_, rfl⟩
            have h := fy_bl_some e52 h
            refine lv_iinc (k := 2) (v := x52) (lv' := [(2, .int x52), (1, .int v2), (0, .ref (g.2.2.1 0))]) hx hb dX10_nearest_52 hl rfl (by rw [e52]; rfl) (by decide) rfl (fun ls hl => ?_)
            refine lv_goto (tgt := 4) hx hb dX10_nearest_55 (by decide) ?_
            exact ih _ _ _ _ _ h w (lv_sub hl [2, 1, 0] rfl)
          · have h := fy_if_f h hc
            refine lv_aload_n hx hb dX10_nearest_35 rfl (lv_at hl 0 rfl) ?_
            refine gfX10_88 C w dX10_nearest_36 ?_
            refine lv_iload_n hx hb dX10_nearest_39 rfl (lv_at hl 2 rfl) ?_
            obtain ⟨g40, h⟩ := fy_gd_some h
            refine fy_iald C w M_a27 g40 dX10_nearest_40 ?_
            refine lv_aload_n hx hb dX10_nearest_41 rfl (lv_at hl 0 rfl) ?_
            refine gfX10_88 C w dX10_nearest_42 ?_
            refine lv_iload_n hx hb dX10_nearest_45 rfl (lv_at hl 1 rfl) ?_
            obtain ⟨g46, h⟩ := fy_gd_some h
            refine fy_iald C w M_a27 g46 dX10_nearest_46 ?_
            refine lv_icmp_ge (tgt := 52) hx hb dX10_nearest_47 (by decide) (fun hc => ?_) (fun hc => ?_)
            · have h := fy_if_t h hc
              obtain ⟨x52, e52⟩ : ∃ z : Int32, z = v2 + (1 : Int32) := ⟨_, rfl⟩
              have h := fy_bl_some e52 h
              refine lv_iinc (k := 2) (v := x52) (lv' := [(2, .int x52), (0, .ref (g.2.2.1 0)), (1, .int v1)]) hx hb dX10_nearest_52 hl rfl (by rw [e52]; rfl) (by decide) rfl (fun ls hl => ?_)
              refine lv_goto (tgt := 4) hx hb dX10_nearest_55 (by decide) ?_
              exact ih _ _ _ _ _ h w (lv_sub hl [1, 2, 0] rfl)
            · have h := fy_if_f h hc
              refine lv_iload_n hx hb dX10_nearest_50 rfl (lv_at hl 2 rfl) ?_
              refine lv_istore_n (lv' := [(1, .int v2), (0, .ref (g.2.2.1 0)), (2, .int v2)]) hx hb dX10_nearest_51 rfl hl (by decide) rfl (fun ls hl => ?_)
              obtain ⟨x52, e52⟩ : ∃ z : Int32, z = v2 + (1 : Int32) := ⟨_, rfl⟩
              have h := fy_bl_some e52 h
              refine lv_iinc (k := 2) (v := x52) (lv' := [(2, .int x52), (1, .int v2), (0, .ref (g.2.2.1 0))]) hx hb dX10_nearest_52 hl rfl (by rw [e52]; rfl) (by decide) rfl (fun ls hl => ?_)
              refine lv_goto (tgt := 4) hx hb dX10_nearest_55 (by decide) ?_
              exact ih _ _ _ _ _ h w (lv_sub hl [2, 1, 0] rfl)
        · have h := fy_if_f h hc
          refine lv_goto (tgt := 52) hx hb dX10_nearest_28 (by decide) ?_
          obtain ⟨x52, e52⟩ : ∃ z : Int32, z = v2 + (1 : Int32) := ⟨_, rfl⟩
          have h := fy_bl_some e52 h
          refine lv_iinc (k := 2) (v := x52) (lv' := [(2, .int x52), (0, .ref (g.2.2.1 0)), (1, .int v1)]) hx hb dX10_nearest_52 hl rfl (by rw [e52]; rfl) (by decide) rfl (fun ls hl => ?_)
          refine lv_goto (tgt := 4) hx hb dX10_nearest_55 (by decide) ?_
          exact ih _ _ _ _ _ h w (lv_sub hl [1, 2, 0] rfl)

set_option maxHeartbeats 4000000 in
set_option maxRecDepth 100000 in
theorem t_M_nearest {p : Program} {l : Launch} {e : Env} {s : State} {m : MethodId} {args : Array Value} {below : List Frame} {meth : Method} {c : Code} {g : fy_G} (C : fy_C g M_Y p s m args meth c yX10_nearest.cls cX10_nearest 3 (some .int)) {S : fy_S}  {rr : Int32}  {H : Heap} {locs : List Loc} {ls : Array Slot} (h : M_nearest S  = some rr) (w : fy_W g M_Y S s H locs) (hl : lv_has ls 3 [(0, .ref (g.2.2.1 0))]) : W p l e (fy_rm 0) s m args below meth c H locs 0 0 (MQ below (fy_QI g M_Y rr S) args s 0 0 (fy_A g M_Y)) (F0 m 0 ls []) := by
  obtain ⟨hx, hb, hr, hts, hown, hlk, hml, hK, hD, hE, hN⟩ := id C
  rw [M_nearest] at h
  refine lv_iconst (v := (-1 : Int32)) hx hb dX10_nearest_0 (by decide) ?_
  refine lv_istore_n (lv' := [(1, .int (-1 : Int32)), (0, .ref (g.2.2.1 0))]) hx hb dX10_nearest_1 rfl hl (by decide) rfl (fun ls hl => ?_)
  refine lv_iconst (v := (0 : Int32)) hx hb dX10_nearest_2 (by decide) ?_
  refine lv_istore_n (lv' := [(2, .int (0 : Int32)), (1, .int (-1 : Int32)), (0, .ref (g.2.2.1 0))]) hx hb dX10_nearest_3 rfl hl (by decide) rfl (fun ls hl => ?_)
  exact t_M_nearest_4 C fy_fu _ _ _ _ _ h w (lv_sub hl [2, 1, 0] rfl)

set_option maxHeartbeats 4000000 in
set_option maxRecDepth 100000 in
theorem c_M_nearest (l : Launch) (g : fy_G) {S : fy_S}  {rr : Int32}  (h : M_nearest S  = some rr) : fy_M g M_Y l yX10_nearest cX10_nearest 3 (some .int) (fy_rm 0) [.ref (g.2.2.1 0)] S (fy_QI g M_Y rr S) :=
  fy_entry (by decide +kernel) (Nat.le_of_ble_eq_true rfl) (fun p e s m args below meth c ls C w hl => t_M_nearest C  h w hl)
def M_findBest_72 (k59 : fy_S → Int32 → Int32 → Option (fy_S)) : Nat → fy_S → Int32 → Int32 → Int32 → Option (fy_S)
  | 0, _, _, _, _ => none
  | fu + 1, S, v1, v2, v3 =>
    fy_gd (fy_ix v1 7) <|
    if (S.1 2 v1.toNatClampNeg) ≤ v3 then (
      fy_bd (M_nearest S ) fun r191 =>
      k59 S v1 r191)
    else (
      fy_bd (M_stepOf S v1 v3 v2) fun r86 =>
      fy_gd (fy_ix v2 64) <|
      fy_gd (fy_ix (((3 : Int32) * v1) + v3) 21) <|
      fy_bl ((S.1 27 v2.toNatClampNeg) + (S.1 4 (((3 : Int32) * v1) + v3).toNatClampNeg)) fun x108 =>
      fy_gd (fy_ix r86 64) <|
      if (S.1 31 r86.toNatClampNeg) = 0 then (
        fy_gd (fy_ix v2 64) <|
        fy_bd (M_isBetter S x108 ((S.1 28 v2.toNatClampNeg) + (1 : Int32)) v3 v2 r86) fun r135 =>
        if r135 = 0 then (
          fy_bl (v3 + (1 : Int32)) fun x184 =>
          M_findBest_72 k59 fu S v1 v2 x184)
        else (
          fy_gd (fy_ix r86 64) <|
          fy_bl (fy_sI S 27 r86.toNatClampNeg x108) fun S152 =>
          fy_gd (fy_ix v2 64) <|
          fy_gd (fy_ix r86 64) <|
          fy_bl (fy_sI S152 28 r86.toNatClampNeg ((S152.1 28 v2.toNatClampNeg) + (1 : Int32))) fun S167 =>
          fy_gd (fy_ix r86 64) <|
          fy_bl (fy_sI S167 29 r86.toNatClampNeg v3) fun S175 =>
          fy_gd (fy_ix r86 64) <|
          fy_bl (fy_sI S175 30 r86.toNatClampNeg v2) fun S183 =>
          fy_bl (v3 + (1 : Int32)) fun x184 =>
          M_findBest_72 k59 fu S183 v1 v2 x184))
      else (
        fy_bl (v3 + (1 : Int32)) fun x184 =>
        M_findBest_72 k59 fu S v1 v2 x184))
def M_findBest_59 : Nat → fy_S → Int32 → Int32 → Option (fy_S)
  | 0, _, _, _ => none
  | fu + 1, S, v1, v2 =>
    if v2 < 0 then (
      some S)
    else (
      fy_gd (fy_ix v2 64) <|
      fy_bl (fy_sI S 31 v2.toNatClampNeg (vp_nar .boolean (1 : Int32))) fun S69 =>
      M_findBest_72 (fun S v1 v2 => M_findBest_59 fu S v1 v2) fy_fu S69 v1 v2 (0 : Int32))
def M_findBest_2 : Nat → fy_S → Int32 → Int32 → Option (fy_S)
  | 0, _, _, _ => none
  | fu + 1, S, v1, v2 =>
    if (64 : Int32) ≤ v2 then (
      fy_gd (fy_ix v1 7) <|
      fy_gd (fy_ix (S.1 3 v1.toNatClampNeg) 64) <|
      fy_bl (fy_sI S 27 (S.1 3 v1.toNatClampNeg).toNatClampNeg (0 : Int32)) fun S39 =>
      fy_gd (fy_ix v1 7) <|
      fy_gd (fy_ix (S39.1 3 v1.toNatClampNeg) 64) <|
      fy_bl (fy_sI S39 28 (S39.1 3 v1.toNatClampNeg).toNatClampNeg (0 : Int32)) fun S51 =>
      fy_gd (fy_ix v1 7) <|
      fy_bl (S51.1 3 v1.toNatClampNeg) fun x58 =>
      M_findBest_59 fy_fu S51 v1 x58)
    else (
      fy_gd (fy_ix v2 64) <|
      fy_bl (fy_sI S 27 v2.toNatClampNeg (-1 : Int32)) fun S14 =>
      fy_gd (fy_ix v2 64) <|
      fy_bl (fy_sI S14 31 v2.toNatClampNeg (vp_nar .boolean (0 : Int32))) fun S21 =>
      fy_bl (v2 + (1 : Int32)) fun x22 =>
      M_findBest_2 fu S21 v1 x22)
def M_findBest (S : fy_S) (v1 : Int32) : Option (fy_S) :=
  M_findBest_2 fy_fu S v1 (0 : Int32)
set_option maxHeartbeats 4000000 in
set_option maxRecDepth 100000 in
theorem t_M_findBest_72 {p : Program} {l : Launch} {e : Env} {s : State} {m : MethodId} {args : Array Value} {below : List Frame} {meth : Method} {c : Code} {g : fy_G} (C : fy_C g M_Y p s m args meth c yX10_findBest.cls cX10_findBest 6 none) {Sr : fy_S}  {k59 : fy_S → Int32 → Int32 → Option (fy_S)} (hk59 : ∀ (S : fy_S) (v1 : Int32) (v2 : Int32) (H : Heap) (locs : List Loc) (ls : Array Slot), k59 S v1 v2 = some Sr → fy_W g M_Y S s H locs → lv_has ls 6 [(0, .ref (g.2.2.1 0)), (1, .int v1), (2, .int v2)] → W p l e (fy_rm 3) s m args below meth c H locs 0 0 (MQ below (fy_QV g M_Y Sr) args s 0 0 (fy_A g M_Y)) (F0 m 59 ls [])) : ∀ (fu : Nat) (S : fy_S) (v1 : Int32) (v2 : Int32) (v3 : Int32) (H : Heap) (locs : List Loc) (ls : Array Slot), M_findBest_72 k59 fu S v1 v2 v3 = some Sr → fy_W g M_Y S s H locs → lv_has ls 6 [(0, .ref (g.2.2.1 0)), (1, .int v1), (2, .int v2), (3, .int v3)] → W p l e (fy_rm 3) s m args below meth c H locs 0 0 (MQ below (fy_QV g M_Y Sr) args s 0 0 (fy_A g M_Y)) (F0 m 72 ls []) := by
  obtain ⟨hx, hb, hr, hts, hown, hlk, hml, hK, hD, hE, hN⟩ := id C
  intro fu
  induction fu with
  | zero => intro S v1 v2 v3 H locs ls h; cases h
  | succ fu ih =>
    intro S v1 v2 v3 H locs ls h w  hl
    rw [M_findBest_72] at h
    refine lv_iload_n hx hb dX10_findBest_72 rfl (lv_at hl 3 rfl) ?_
    refine lv_aload_n hx hb dX10_findBest_73 rfl (lv_at hl 0 rfl) ?_
    refine gfX10_13 C w dX10_findBest_74 ?_
    refine lv_iload_n hx hb dX10_findBest_77 rfl (lv_at hl 1 rfl) ?_
    obtain ⟨g78, h⟩ := fy_gd_some h
    refine fy_iald C w M_a2 g78 dX10_findBest_78 ?_
    refine lv_icmp_ge (tgt := 190) hx hb dX10_findBest_79 (by decide) (fun hc => ?_) (fun hc => ?_)
    · have h := fy_if_t h hc
      refine lv_aload_n hx hb dX10_findBest_190 rfl (lv_at hl 0 rfl) ?_
      obtain ⟨r191, h191, h⟩ := fy_bd_some h
      refine fy_calI w (fy_runV (As := []) (rest := []) C w (c_M_nearest l g  h191) M_o ksX10_289 rfl ⟨Nat.le_of_ble_eq_true rfl, Nat.le_of_ble_eq_true rfl⟩ rfl hl.1 rfl (Nat.le_of_ble_eq_true rfl) ⟨Nat.le_refl _, Nat.le_refl _⟩ dX10_findBest_191) (fun H locs w => ?_)
      refine lv_istore_n (lv' := [(2, .int r191), (0, .ref (g.2.2.1 0)), (1, .int v1), (3, .int v3)]) hx hb dX10_findBest_194 rfl hl (by decide) rfl (fun ls hl => ?_)
      refine lv_goto (tgt := 59) hx hb dX10_findBest_195 (by decide) ?_
      exact hk59 _ _ _ _ _ _ h w (lv_sub hl [1, 2, 0] rfl)
    · have h := fy_if_f h hc
      refine lv_aload_n hx hb dX10_findBest_82 rfl (lv_at hl 0 rfl) ?_
      refine lv_iload_n hx hb dX10_findBest_83 rfl (lv_at hl 1 rfl) ?_
      refine lv_iload_n hx hb dX10_findBest_84 rfl (lv_at hl 3 rfl) ?_
      refine lv_iload_n hx hb dX10_findBest_85 rfl (lv_at hl 2 rfl) ?_
      obtain ⟨r86, h86, h⟩ := fy_bd_some h
      refine fy_calI w (fy_runV (As := [.int v1, .int v3, .int v2]) (rest := []) C w (c_M_stepOf l g  h86) M_o ksX10_240 rfl ⟨Nat.le_of_ble_eq_true rfl, Nat.le_of_ble_eq_true rfl⟩ rfl hl.1 rfl (Nat.le_of_ble_eq_true rfl) ⟨Nat.le_refl _, Nat.le_refl _⟩ dX10_findBest_86) (fun H locs w => ?_)
      refine lv_istore (lv' := [(4, .int r86), (0, .ref (g.2.2.1 0)), (1, .int v1), (2, .int v2), (3, .int v3)]) hx hb dX10_findBest_89 hl (by decide) rfl (fun ls hl => ?_)
      refine lv_aload_n hx hb dX10_findBest_91 rfl (lv_at hl 1 rfl) ?_
      refine gfX10_88 C w dX10_findBest_92 ?_
      refine lv_iload_n hx hb dX10_findBest_95 rfl (lv_at hl 3 rfl) ?_
      obtain ⟨g96, h⟩ := fy_gd_some h
      refine fy_iald C w M_a27 g96 dX10_findBest_96 ?_
      refine lv_aload_n hx hb dX10_findBest_97 rfl (lv_at hl 1 rfl) ?_
      refine gfX10_19 C w dX10_findBest_98 ?_
      refine lv_iconst (v := (3 : Int32)) hx hb dX10_findBest_101 (by decide) ?_
      refine lv_iload_n hx hb dX10_findBest_102 rfl (lv_at hl 2 rfl) ?_
      refine lv_imul hx hb dX10_findBest_103 ?_
      refine lv_iload_n hx hb dX10_findBest_104 rfl (lv_at hl 4 rfl) ?_
      refine lv_iadd hx hb dX10_findBest_105 ?_
      obtain ⟨g106, h⟩ := fy_gd_some h
      refine fy_iald C w M_a4 g106 dX10_findBest_106 ?_
      refine lv_iadd hx hb dX10_findBest_107 ?_
      refine lv_topi (fun x108 e108 => ?_)
      have h := fy_bl_some e108 h
      refine lv_istore (lv' := [(5, .int x108), (4, .int r86), (0, .ref (g.2.2.1 0)), (1, .int v1), (2, .int v2), (3, .int v3)]) hx hb dX10_findBest_108 hl (by decide) rfl (fun ls hl => ?_)
      refine lv_aload_n hx hb dX10_findBest_110 rfl (lv_at hl 2 rfl) ?_
      refine gfX10_100 C w dX10_findBest_111 ?_
      refine lv_iload hx hb dX10_findBest_114 (lv_at hl 1 rfl) ?_
      obtain ⟨g116, h⟩ := fy_gd_some h
      refine fy_zald C w M_a31 g116 dX10_findBest_116 ?_
      refine lv_if_ne (tgt := 184) hx hb dX10_findBest_117 (by decide) (fun hc => ?_) (fun hc => ?_)
      · have h := fy_if_f h hc
        obtain ⟨x184, e184⟩ : ∃ z : Int32, z = v3 + (1 : Int32) := ⟨_, rfl⟩
        have h := fy_bl_some e184 h
        refine lv_iinc (k := 5) (v := x184) (lv' := [(3, .int x184), (5, .int x108), (4, .int r86), (0, .ref (g.2.2.1 0)), (1, .int v1), (2, .int v2)]) hx hb dX10_findBest_184 hl rfl (by rw [e184]; rfl) (by decide) rfl (fun ls hl => ?_)
        refine lv_goto (tgt := 72) hx hb dX10_findBest_187 (by decide) ?_
        exact ih _ _ _ _ _ _ _ h w (lv_sub hl [3, 4, 5, 0] rfl)
      · have h := fy_if_t h hc
        refine lv_aload_n hx hb dX10_findBest_120 rfl (lv_at hl 2 rfl) ?_
        refine lv_iload hx hb dX10_findBest_121 (lv_at hl 0 rfl) ?_
        refine lv_aload_n hx hb dX10_findBest_123 rfl (lv_at hl 2 rfl) ?_
        refine gfX10_91 C w dX10_findBest_124 ?_
        refine lv_iload_n hx hb dX10_findBest_127 rfl (lv_at hl 4 rfl) ?_
        obtain ⟨g128, h⟩ := fy_gd_some h
        refine fy_iald C w M_a28 g128 dX10_findBest_128 ?_
        refine lv_iconst (v := (1 : Int32)) hx hb dX10_findBest_129 (by decide) ?_
        refine lv_iadd hx hb dX10_findBest_130 ?_
        refine lv_iload_n hx hb dX10_findBest_131 rfl (lv_at hl 5 rfl) ?_
        refine lv_iload_n hx hb dX10_findBest_132 rfl (lv_at hl 4 rfl) ?_
        refine lv_iload hx hb dX10_findBest_133 (lv_at hl 1 rfl) ?_
        obtain ⟨r135, h135, h⟩ := fy_bd_some h
        refine fy_calI w (fy_runV (As := [.int x108, .int ((S.1 28 v2.toNatClampNeg) + (1 : Int32)), .int v3, .int v2, .int r86]) (rest := []) C w (c_M_isBetter l g  h135) M_o ksX10_285 rfl ⟨Nat.le_of_ble_eq_true rfl, Nat.le_of_ble_eq_true rfl⟩ rfl hl.1 rfl (Nat.le_of_ble_eq_true rfl) ⟨Nat.le_refl _, Nat.le_refl _⟩ dX10_findBest_135) (fun H locs w => ?_)
        refine lv_if_ne (tgt := 144) hx hb dX10_findBest_138 (by decide) (fun hc => ?_) (fun hc => ?_)
        · have h := fy_if_f h hc
          refine lv_aload_n hx hb dX10_findBest_144 rfl (lv_at hl 2 rfl) ?_
          refine gfX10_88 C w dX10_findBest_145 ?_
          refine lv_iload hx hb dX10_findBest_148 (lv_at hl 1 rfl) ?_
          refine lv_iload hx hb dX10_findBest_150 (lv_at hl 0 rfl) ?_
          obtain ⟨g152, h⟩ := fy_gd_some h
          refine fy_iast C w M_a27 g152 dX10_findBest_152 (fun H locs w => ?_)
          obtain ⟨S152, e152⟩ : ∃ z, z = fy_sI S 27 r86.toNatClampNeg x108 := ⟨_, rfl⟩
          have h := fy_bl_some e152 h
          rw [← e152] at w
          refine lv_aload_n hx hb dX10_findBest_153 rfl (lv_at hl 2 rfl) ?_
          refine gfX10_91 C w dX10_findBest_154 ?_
          refine lv_iload hx hb dX10_findBest_157 (lv_at hl 1 rfl) ?_
          refine lv_aload_n hx hb dX10_findBest_159 rfl (lv_at hl 2 rfl) ?_
          refine gfX10_91 C w dX10_findBest_160 ?_
          refine lv_iload_n hx hb dX10_findBest_163 rfl (lv_at hl 4 rfl) ?_
          obtain ⟨g164, h⟩ := fy_gd_some h
          refine fy_iald C w M_a28 g164 dX10_findBest_164 ?_
          refine lv_iconst (v := (1 : Int32)) hx hb dX10_findBest_165 (by decide) ?_
          refine lv_iadd hx hb dX10_findBest_166 ?_
          obtain ⟨g167, h⟩ := fy_gd_some h
          refine fy_iast C w M_a28 g167 dX10_findBest_167 (fun H locs w => ?_)
          obtain ⟨S167, e167⟩ : ∃ z, z = fy_sI S152 28 r86.toNatClampNeg ((S152.1 28 v2.toNatClampNeg) + (1 : Int32)) := ⟨_, rfl⟩
          have h := fy_bl_some e167 h
          rw [← e167] at w
          refine lv_aload_n hx hb dX10_findBest_168 rfl (lv_at hl 2 rfl) ?_
          refine gfX10_94 C w dX10_findBest_169 ?_
          refine lv_iload hx hb dX10_findBest_172 (lv_at hl 1 rfl) ?_
          refine lv_iload_n hx hb dX10_findBest_174 rfl (lv_at hl 5 rfl) ?_
          obtain ⟨g175, h⟩ := fy_gd_some h
          refine fy_iast C w M_a29 g175 dX10_findBest_175 (fun H locs w => ?_)
          obtain ⟨S175, e175⟩ : ∃ z, z = fy_sI S167 29 r86.toNatClampNeg v3 := ⟨_, rfl⟩
          have h := fy_bl_some e175 h
          rw [← e175] at w
          refine lv_aload_n hx hb dX10_findBest_176 rfl (lv_at hl 2 rfl) ?_
          refine gfX10_97 C w dX10_findBest_177 ?_
          refine lv_iload hx hb dX10_findBest_180 (lv_at hl 1 rfl) ?_
          refine lv_iload_n hx hb dX10_findBest_182 rfl (lv_at hl 4 rfl) ?_
          obtain ⟨g183, h⟩ := fy_gd_some h
          refine fy_iast C w M_a30 g183 dX10_findBest_183 (fun H locs w => ?_)
          obtain ⟨S183, e183⟩ : ∃ z, z = fy_sI S175 30 r86.toNatClampNeg v2 := ⟨_, rfl⟩
          have h := fy_bl_some e183 h
          rw [← e183] at w
          obtain ⟨x184, e184⟩ : ∃ z : Int32, z = v3 + (1 : Int32) := ⟨_, rfl⟩
          have h := fy_bl_some e184 h
          refine lv_iinc (k := 5) (v := x184) (lv' := [(3, .int x184), (5, .int x108), (4, .int r86), (0, .ref (g.2.2.1 0)), (1, .int v1), (2, .int v2)]) hx hb dX10_findBest_184 hl rfl (by rw [e184]; rfl) (by decide) rfl (fun ls hl => ?_)
          refine lv_goto (tgt := 72) hx hb dX10_findBest_187 (by decide) ?_
          exact ih _ _ _ _ _ _ _ h w (lv_sub hl [3, 4, 5, 0] rfl)
        · have h := fy_if_t h hc
          refine lv_goto (tgt := 184) hx hb dX10_findBest_141 (by decide) ?_
          obtain ⟨x184, e184⟩ : ∃ z : Int32, z = v3 + (1 : Int32) := ⟨_, rfl⟩
          have h := fy_bl_some e184 h
          refine lv_iinc (k := 5) (v := x184) (lv' := [(3, .int x184), (5, .int x108), (4, .int r86), (0, .ref (g.2.2.1 0)), (1, .int v1), (2, .int v2)]) hx hb dX10_findBest_184 hl rfl (by rw [e184]; rfl) (by decide) rfl (fun ls hl => ?_)
          refine lv_goto (tgt := 72) hx hb dX10_findBest_187 (by decide) ?_
          exact ih _ _ _ _ _ _ _ h w (lv_sub hl [3, 4, 5, 0] rfl)

set_option maxHeartbeats 4000000 in
set_option maxRecDepth 100000 in
theorem t_M_findBest_59 {p : Program} {l : Launch} {e : Env} {s : State} {m : MethodId} {args : Array Value} {below : List Frame} {meth : Method} {c : Code} {g : fy_G} (C : fy_C g M_Y p s m args meth c yX10_findBest.cls cX10_findBest 6 none) {Sr : fy_S}  : ∀ (fu : Nat) (S : fy_S) (v1 : Int32) (v2 : Int32) (H : Heap) (locs : List Loc) (ls : Array Slot), M_findBest_59 fu S v1 v2 = some Sr → fy_W g M_Y S s H locs → lv_has ls 6 [(0, .ref (g.2.2.1 0)), (1, .int v1), (2, .int v2)] → W p l e (fy_rm 3) s m args below meth c H locs 0 0 (MQ below (fy_QV g M_Y Sr) args s 0 0 (fy_A g M_Y)) (F0 m 59 ls []) := by
  obtain ⟨hx, hb, hr, hts, hown, hlk, hml, hK, hD, hE, hN⟩ := id C
  intro fu
  induction fu with
  | zero => intro S v1 v2 H locs ls h; cases h
  | succ fu ih =>
    intro S v1 v2 H locs ls h w  hl
    rw [M_findBest_59] at h
    refine lv_iload_n hx hb dX10_findBest_59 rfl (lv_at hl 2 rfl) ?_
    refine lv_if_lt (tgt := 198) hx hb dX10_findBest_60 (by decide) (fun hc => ?_) (fun hc => ?_)
    · have h := fy_if_t h hc
      cases h
      exact fy_retV C w dX10_findBest_198
    · have h := fy_if_f h hc
      refine lv_aload_n hx hb dX10_findBest_63 rfl (lv_at hl 0 rfl) ?_
      refine gfX10_100 C w dX10_findBest_64 ?_
      refine lv_iload_n hx hb dX10_findBest_67 rfl (lv_at hl 2 rfl) ?_
      refine lv_iconst (v := (1 : Int32)) hx hb dX10_findBest_68 (by decide) ?_
      obtain ⟨g69, h⟩ := fy_gd_some h
      refine fy_zast C w M_a31 g69 dX10_findBest_69 (fun H locs w => ?_)
      obtain ⟨S69, e69⟩ : ∃ z, z = fy_sI S 31 v2.toNatClampNeg (vp_nar .boolean (1 : Int32)) := ⟨_, rfl⟩
      have h := fy_bl_some e69 h
      rw [← e69] at w
      refine lv_iconst (v := (0 : Int32)) hx hb dX10_findBest_70 (by decide) ?_
      refine lv_istore_n (lv' := [(3, .int (0 : Int32)), (0, .ref (g.2.2.1 0)), (1, .int v1), (2, .int v2)]) hx hb dX10_findBest_71 rfl hl (by decide) rfl (fun ls hl => ?_)
      exact t_M_findBest_72 C ih fy_fu _ _ _ _ _ _ _ h w (lv_sub hl [1, 2, 3, 0] rfl)

set_option maxHeartbeats 4000000 in
set_option maxRecDepth 100000 in
theorem t_M_findBest_2 {p : Program} {l : Launch} {e : Env} {s : State} {m : MethodId} {args : Array Value} {below : List Frame} {meth : Method} {c : Code} {g : fy_G} (C : fy_C g M_Y p s m args meth c yX10_findBest.cls cX10_findBest 6 none) {Sr : fy_S}  : ∀ (fu : Nat) (S : fy_S) (v1 : Int32) (v2 : Int32) (H : Heap) (locs : List Loc) (ls : Array Slot), M_findBest_2 fu S v1 v2 = some Sr → fy_W g M_Y S s H locs → lv_has ls 6 [(0, .ref (g.2.2.1 0)), (1, .int v1), (2, .int v2)] → W p l e (fy_rm 3) s m args below meth c H locs 0 0 (MQ below (fy_QV g M_Y Sr) args s 0 0 (fy_A g M_Y)) (F0 m 2 ls []) := by
  obtain ⟨hx, hb, hr, hts, hown, hlk, hml, hK, hD, hE, hN⟩ := id C
  intro fu
  induction fu with
  | zero => intro S v1 v2 H locs ls h; cases h
  | succ fu ih =>
    intro S v1 v2 H locs ls h w  hl
    rw [M_findBest_2] at h
    refine lv_iload_n hx hb dX10_findBest_2 rfl (lv_at hl 2 rfl) ?_
    refine lv_bipush (v := (64 : Int32)) hx hb dX10_findBest_3 (by decide) ?_
    refine lv_icmp_ge (tgt := 28) hx hb dX10_findBest_5 (by decide) (fun hc => ?_) (fun hc => ?_)
    · have h := fy_if_t h hc
      refine lv_aload_n hx hb dX10_findBest_28 rfl (lv_at hl 0 rfl) ?_
      refine gfX10_88 C w dX10_findBest_29 ?_
      refine lv_aload_n hx hb dX10_findBest_32 rfl (lv_at hl 0 rfl) ?_
      refine gfX10_16 C w dX10_findBest_33 ?_
      refine lv_iload_n hx hb dX10_findBest_36 rfl (lv_at hl 1 rfl) ?_
      obtain ⟨g37, h⟩ := fy_gd_some h
      refine fy_iald C w M_a3 g37 dX10_findBest_37 ?_
      refine lv_iconst (v := (0 : Int32)) hx hb dX10_findBest_38 (by decide) ?_
      obtain ⟨g39, h⟩ := fy_gd_some h
      refine fy_iast C w M_a27 g39 dX10_findBest_39 (fun H locs w => ?_)
      obtain ⟨S39, e39⟩ : ∃ z, z = fy_sI S 27 (S.1 3 v1.toNatClampNeg).toNatClampNeg (0 : Int32) := ⟨_, rfl⟩
      have h := fy_bl_some e39 h
      rw [← e39] at w
      refine lv_aload_n hx hb dX10_findBest_40 rfl (lv_at hl 0 rfl) ?_
      refine gfX10_91 C w dX10_findBest_41 ?_
      refine lv_aload_n hx hb dX10_findBest_44 rfl (lv_at hl 0 rfl) ?_
      refine gfX10_16 C w dX10_findBest_45 ?_
      refine lv_iload_n hx hb dX10_findBest_48 rfl (lv_at hl 1 rfl) ?_
      obtain ⟨g49, h⟩ := fy_gd_some h
      refine fy_iald C w M_a3 g49 dX10_findBest_49 ?_
      refine lv_iconst (v := (0 : Int32)) hx hb dX10_findBest_50 (by decide) ?_
      obtain ⟨g51, h⟩ := fy_gd_some h
      refine fy_iast C w M_a28 g51 dX10_findBest_51 (fun H locs w => ?_)
      obtain ⟨S51, e51⟩ : ∃ z, z = fy_sI S39 28 (S39.1 3 v1.toNatClampNeg).toNatClampNeg (0 : Int32) := ⟨_, rfl⟩
      have h := fy_bl_some e51 h
      rw [← e51] at w
      refine lv_aload_n hx hb dX10_findBest_52 rfl (lv_at hl 0 rfl) ?_
      refine gfX10_16 C w dX10_findBest_53 ?_
      refine lv_iload_n hx hb dX10_findBest_56 rfl (lv_at hl 1 rfl) ?_
      obtain ⟨g57, h⟩ := fy_gd_some h
      refine fy_iald C w M_a3 g57 dX10_findBest_57 ?_
      refine lv_topi (fun x58 e58 => ?_)
      have h := fy_bl_some e58 h
      refine lv_istore_n (lv' := [(2, .int x58), (0, .ref (g.2.2.1 0)), (1, .int v1)]) hx hb dX10_findBest_58 rfl hl (by decide) rfl (fun ls hl => ?_)
      exact t_M_findBest_59 C fy_fu _ _ _ _ _ _ h w (lv_sub hl [1, 2, 0] rfl)
    · have h := fy_if_f h hc
      refine lv_aload_n hx hb dX10_findBest_8 rfl (lv_at hl 0 rfl) ?_
      refine gfX10_88 C w dX10_findBest_9 ?_
      refine lv_iload_n hx hb dX10_findBest_12 rfl (lv_at hl 2 rfl) ?_
      refine lv_iconst (v := (-1 : Int32)) hx hb dX10_findBest_13 (by decide) ?_
      obtain ⟨g14, h⟩ := fy_gd_some h
      refine fy_iast C w M_a27 g14 dX10_findBest_14 (fun H locs w => ?_)
      obtain ⟨S14, e14⟩ : ∃ z, z = fy_sI S 27 v2.toNatClampNeg (-1 : Int32) := ⟨_, rfl⟩
      have h := fy_bl_some e14 h
      rw [← e14] at w
      refine lv_aload_n hx hb dX10_findBest_15 rfl (lv_at hl 0 rfl) ?_
      refine gfX10_100 C w dX10_findBest_16 ?_
      refine lv_iload_n hx hb dX10_findBest_19 rfl (lv_at hl 2 rfl) ?_
      refine lv_iconst (v := (0 : Int32)) hx hb dX10_findBest_20 (by decide) ?_
      obtain ⟨g21, h⟩ := fy_gd_some h
      refine fy_zast C w M_a31 g21 dX10_findBest_21 (fun H locs w => ?_)
      obtain ⟨S21, e21⟩ : ∃ z, z = fy_sI S14 31 v2.toNatClampNeg (vp_nar .boolean (0 : Int32)) := ⟨_, rfl⟩
      have h := fy_bl_some e21 h
      rw [← e21] at w
      obtain ⟨x22, e22⟩ : ∃ z : Int32, z = v2 + (1 : Int32) := ⟨_, rfl⟩
      have h := fy_bl_some e22 h
      refine lv_iinc (k := 2) (v := x22) (lv' := [(2, .int x22), (0, .ref (g.2.2.1 0)), (1, .int v1)]) hx hb dX10_findBest_22 hl rfl (by rw [e22]; rfl) (by decide) rfl (fun ls hl => ?_)
      refine lv_goto (tgt := 2) hx hb dX10_findBest_25 (by decide) ?_
      exact ih _ _ _ _ _ _ h w (lv_sub hl [1, 2, 0] rfl)

set_option maxHeartbeats 4000000 in
set_option maxRecDepth 100000 in
theorem t_M_findBest {p : Program} {l : Launch} {e : Env} {s : State} {m : MethodId} {args : Array Value} {below : List Frame} {meth : Method} {c : Code} {g : fy_G} (C : fy_C g M_Y p s m args meth c yX10_findBest.cls cX10_findBest 6 none) {S : fy_S} {v1 : Int32} {Sr : fy_S}   {H : Heap} {locs : List Loc} {ls : Array Slot} (h : M_findBest S v1 = some Sr) (w : fy_W g M_Y S s H locs) (hl : lv_has ls 6 [(0, .ref (g.2.2.1 0)), (1, .int v1)]) : W p l e (fy_rm 3) s m args below meth c H locs 0 0 (MQ below (fy_QV g M_Y Sr) args s 0 0 (fy_A g M_Y)) (F0 m 0 ls []) := by
  obtain ⟨hx, hb, hr, hts, hown, hlk, hml, hK, hD, hE, hN⟩ := id C
  rw [M_findBest] at h
  refine lv_iconst (v := (0 : Int32)) hx hb dX10_findBest_0 (by decide) ?_
  refine lv_istore_n (lv' := [(2, .int (0 : Int32)), (0, .ref (g.2.2.1 0)), (1, .int v1)]) hx hb dX10_findBest_1 rfl hl (by decide) rfl (fun ls hl => ?_)
  exact t_M_findBest_2 C fy_fu _ _ _ _ _ _ h w (lv_sub hl [1, 2, 0] rfl)

set_option maxHeartbeats 4000000 in
set_option maxRecDepth 100000 in
theorem c_M_findBest (l : Launch) (g : fy_G) {S : fy_S} {v1 : Int32} {Sr : fy_S}   (h : M_findBest S v1 = some Sr) : fy_M g M_Y l yX10_findBest cX10_findBest 6 none (fy_rm 3) [.ref (g.2.2.1 0), .int v1] S (fy_QV g M_Y Sr) :=
  fy_entry (by decide +kernel) (Nat.le_of_ble_eq_true rfl) (fun p e s m args below meth c ls C w hl => t_M_findBest C  h w hl)
end
