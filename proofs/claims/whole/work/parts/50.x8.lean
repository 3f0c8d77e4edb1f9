noncomputable section
def X6_forgetLast_47 (S : fy_S)  : Option (fy_S) :=
  fy_bl (fy_sI S 34 3 (0 : Int32)) fun S49 =>
  some S49
def X6_forgetLast_2 : Nat → fy_S → Int32 → Option (fy_S)
  | 0, _, _ => none
  | fu + 1, S, v1 =>
    if (S.1 34 3) ≤ v1 then (
      X6_forgetLast_47 S )
    else (
      if (4096 : Int32) ≤ v1 then (
        X6_forgetLast_47 S )
      else (
        fy_gd (fy_ix v1 4096) <|
        fy_gd (fy_ix (S.1 35 v1.toNatClampNeg) 4096) <|
        fy_bl (fy_sI S 36 (S.1 35 v1.toNatClampNeg).toNatClampNeg (vp_nar .short (-1 : Int32))) fun S28 =>
        fy_gd (fy_ix v1 4096) <|
        fy_gd (fy_ix (S28.1 35 v1.toNatClampNeg) 4096) <|
        fy_bl (fy_sI S28 37 (S28.1 35 v1.toNatClampNeg).toNatClampNeg (vp_nar .boolean (0 : Int32))) fun S40 =>
        fy_bl (v1 + (1 : Int32)) fun x41 =>
        X6_forgetLast_2 fu S40 x41))
def X6_forgetLast (S : fy_S)  : Option (fy_S) :=
  X6_forgetLast_2 fy_fu S (0 : Int32)
set_option maxHeartbeats 4000000 in
set_option maxRecDepth 100000 in
theorem t_X6_forgetLast_47 {p : Program} {l : Launch} {e : Env} {s : State} {m : MethodId} {args : Array Value} {below : List Frame} {meth : Method} {c : Code} {g : fy_G} (C : fy_C g X_Y p s m args meth c yX6_forgetLast.cls cX6_forgetLast 2 none) {Sr : fy_S}  : ∀ (S : fy_S)  (H : Heap) (locs : List Loc) (ls : Array Slot), X6_forgetLast_47 S  = some Sr → fy_W g X_Y S s H locs → lv_has ls 2 [(0, .ref (g.2.2.1 34))] → W p l e (fy_rm 0) s m args below meth c H locs 0 0 (MQ below (fy_QV g X_Y Sr) args s 0 0 (fy_A g X_Y)) (F0 m 47 ls []) := by
  obtain ⟨hx, hb, hr, hts, hown, hlk, hml, hK, hD, hE, hN⟩ := id C
  intro S  H locs ls h w  hl
  rw [X6_forgetLast_47] at h
  refine lv_aload_n hx hb dX6_forgetLast_47 rfl (lv_at hl 0 rfl) ?_
  refine lv_iconst (v := (0 : Int32)) hx hb dX6_forgetLast_48 (by decide) ?_
  refine pfX6_22 X_full C w (X_i34) dX6_forgetLast_49 (fun H locs w => ?_)
  obtain ⟨S49, e49⟩ : ∃ z, z = fy_sI S 34 3 (0 : Int32) := ⟨_, rfl⟩
  have h := fy_bl_some e49 h
  rw [← e49] at w
  cases h
  exact fy_retV C w dX6_forgetLast_52

set_option maxHeartbeats 4000000 in
set_option maxRecDepth 100000 in
theorem t_X6_forgetLast_2 {p : Program} {l : Launch} {e : Env} {s : State} {m : MethodId} {args : Array Value} {below : List Frame} {meth : Method} {c : Code} {g : fy_G} (C : fy_C g X_Y p s m args meth c yX6_forgetLast.cls cX6_forgetLast 2 none) {Sr : fy_S}  : ∀ (fu : Nat) (S : fy_S) (v1 : Int32) (H : Heap) (locs : List Loc) (ls : Array Slot), X6_forgetLast_2 fu S v1 = some Sr → fy_W g X_Y S s H locs → lv_has ls 2 [(0, .ref (g.2.2.1 34)), (1, .int v1)] → W p l e (fy_rm 0) s m args below meth c H locs 0 0 (MQ below (fy_QV g X_Y Sr) args s 0 0 (fy_A g X_Y)) (F0 m 2 ls []) := by
  obtain ⟨hx, hb, hr, hts, hown, hlk, hml, hK, hD, hE, hN⟩ := id C
  intro fu
  induction fu with
  | zero => intro S v1 H locs ls h; cases h
  | succ fu ih =>
    intro S v1 H locs ls h w  hl
    rw [X6_forgetLast_2] at h
    refine lv_iload_n hx hb dX6_forgetLast_2 rfl (lv_at hl 1 rfl) ?_
    refine lv_aload_n hx hb dX6_forgetLast_3 rfl (lv_at hl 0 rfl) ?_
    refine gfX6_22 X_full C w (X_i34) dX6_forgetLast_4 ?_
    refine lv_icmp_ge (tgt := 47) hx hb dX6_forgetLast_7 (by decide) (fun hc => ?_) (fun hc => ?_)
    · have h := fy_if_t h hc
      exact t_X6_forgetLast_47 C _ _ _ _ h w (lv_sub hl [0] rfl)
    · have h := fy_if_f h hc
      refine lv_iload_n hx hb dX6_forgetLast_10 rfl (lv_at hl 1 rfl) ?_
      refine lv_sipush (v := (4096 : Int32)) hx hb dX6_forgetLast_11 (by decide) ?_
      refine lv_icmp_ge (tgt := 47) hx hb dX6_forgetLast_14 (by decide) (fun hc => ?_) (fun hc => ?_)
      · have h := fy_if_t h hc
        exact t_X6_forgetLast_47 C _ _ _ _ h w (lv_sub hl [0] rfl)
      · have h := fy_if_f h hc
        refine lv_aload_n hx hb dX6_forgetLast_17 rfl (lv_at hl 0 rfl) ?_
        refine gfX6_15 X_full C w (X_i34) dX6_forgetLast_18 ?_
        refine lv_aload_n hx hb dX6_forgetLast_21 rfl (lv_at hl 0 rfl) ?_
        refine gfX6_9 X_full C w (X_i34) dX6_forgetLast_22 ?_
        refine lv_iload_n hx hb dX6_forgetLast_25 rfl (lv_at hl 1 rfl) ?_
        obtain ⟨g26, h⟩ := fy_gd_some h
        refine fy_sald C w X_a35 g26 dX6_forgetLast_26 ?_
        refine lv_iconst (v := (-1 : Int32)) hx hb dX6_forgetLast_27 (by decide) ?_
        obtain ⟨g28, h⟩ := fy_gd_some h
        refine fy_sast C w X_a36 g28 dX6_forgetLast_28 (fun H locs w => ?_)
        obtain ⟨S28, e28⟩ : ∃ z, z = fy_sI S 36 (S.1 35 v1.toNatClampNeg).toNatClampNeg (vp_nar .short (-1 : Int32)) := ⟨_, rfl⟩
        have h := fy_bl_some e28 h
        rw [← e28] at w
        refine lv_aload_n hx hb dX6_forgetLast_29 rfl (lv_at hl 0 rfl) ?_
        refine gfX6_18 X_full C w (X_i34) dX6_forgetLast_30 ?_
        refine lv_aload_n hx hb dX6_forgetLast_33 rfl (lv_at hl 0 rfl) ?_
        refine gfX6_9 X_full C w (X_i34) dX6_forgetLast_34 ?_
        refine lv_iload_n hx hb dX6_forgetLast_37 rfl (lv_at hl 1 rfl) ?_
        obtain ⟨g38, h⟩ := fy_gd_some h
        refine fy_sald C w X_a35 g38 dX6_forgetLast_38 ?_
        refine lv_iconst (v := (0 : Int32)) hx hb dX6_forgetLast_39 (by decide) ?_
        obtain ⟨g40, h⟩ := fy_gd_some h
        refine fy_zast C w X_a37 g40 dX6_forgetLast_40 (fun H locs w => ?_)
        obtain ⟨S40, e40⟩ : ∃ z, z = fy_sI S28 37 (S28.1 35 v1.toNatClampNeg).toNatClampNeg (vp_nar .boolean (0 : Int32)) := ⟨_, rfl⟩
        have h := fy_bl_some e40 h
        rw [← e40] at w
        obtain ⟨x41, e41⟩ : ∃ z : Int32, z = v1 + (1 : Int32) := ⟨_, rfl⟩
        have h := fy_bl_some e41 h
        refine lv_iinc (k := 1) (v := x41) (lv' := [(1, .int x41), (0, .ref (g.2.2.1 34))]) hx hb dX6_forgetLast_41 hl rfl (by rw [e41]; rfl) (by decide) rfl (fun ls hl => ?_)
        refine lv_goto (tgt := 2) hx hb dX6_forgetLast_44 (by decide) ?_
        exact ih _ _ _ _ _ h w (lv_sub hl [1, 0] rfl)

set_option maxHeartbeats 4000000 in
set_option maxRecDepth 100000 in
theorem t_X6_forgetLast {p : Program} {l : Launch} {e : Env} {s : State} {m : MethodId} {args : Array Value} {below : List Frame} {meth : Method} {c : Code} {g : fy_G} (C : fy_C g X_Y p s m args meth c yX6_forgetLast.cls cX6_forgetLast 2 none) {S : fy_S}  {Sr : fy_S}   {H : Heap} {locs : List Loc} {ls : Array Slot} (h : X6_forgetLast S  = some Sr) (w : fy_W g X_Y S s H locs) (hl : lv_has ls 2 [(0, .ref (g.2.2.1 34))]) : W p l e (fy_rm 0) s m args below meth c H locs 0 0 (MQ below (fy_QV g X_Y Sr) args s 0 0 (fy_A g X_Y)) (F0 m 0 ls []) := by
  obtain ⟨hx, hb, hr, hts, hown, hlk, hml, hK, hD, hE, hN⟩ := id C
  rw [X6_forgetLast] at h
  refine lv_iconst (v := (0 : Int32)) hx hb dX6_forgetLast_0 (by decide) ?_
  refine lv_istore_n (lv' := [(1, .int (0 : Int32)), (0, .ref (g.2.2.1 34))]) hx hb dX6_forgetLast_1 rfl hl (by decide) rfl (fun ls hl => ?_)
  exact t_X6_forgetLast_2 C fy_fu _ _ _ _ _ h w (lv_sub hl [1, 0] rfl)

set_option maxHeartbeats 4000000 in
set_option maxRecDepth 100000 in
theorem c_X6_forgetLast (l : Launch) (g : fy_G) {S : fy_S}  {Sr : fy_S}   (h : X6_forgetLast S  = some Sr) : fy_M g X_Y l yX6_forgetLast cX6_forgetLast 2 none (fy_rm 0) [.ref (g.2.2.1 34)] S (fy_QV g X_Y Sr) :=
  fy_entry (by decide +kernel) (Nat.le_of_ble_eq_true rfl) (fun p e s m args below meth c ls C w hl => t_X6_forgetLast C  h w hl)
def X6_reach (S : fy_S) (v1 : Int32) (v2 : Int32) : Option (fy_S) :=
  if v1 < 0 then (
    some S)
  else (
    if (4096 : Int32) ≤ v1 then (
      some S)
    else (
      if (4096 : Int32) ≤ (S.1 34 3) then (
        some S)
      else (
        fy_gd (fy_ix v1 4096) <|
        if (S.1 36 v1.toNatClampNeg) = (-1 : Int32) then (
          fy_gd (fy_ix v1 4096) <|
          fy_bl (fy_sI S 36 v1.toNatClampNeg (vp_nar .short (v2.toInt16.toInt32))) fun S38 =>
          fy_gd (fy_ix (S38.1 34 3) 4096) <|
          fy_bl (fy_sI S38 35 (S38.1 34 3).toNatClampNeg (vp_nar .short (v1.toInt16.toInt32))) fun S49 =>
          fy_bl (fy_sI S49 34 3 ((S49.1 34 3) + (1 : Int32))) fun S57 =>
          some S57)
        else (
          some S))))
set_option maxHeartbeats 4000000 in
set_option maxRecDepth 100000 in
theorem t_X6_reach {p : Program} {l : Launch} {e : Env} {s : State} {m : MethodId} {args : Array Value} {below : List Frame} {meth : Method} {c : Code} {g : fy_G} (C : fy_C g X_Y p s m args meth c yX6_reach.cls cX6_reach 3 none) {S : fy_S} {v1 : Int32} {v2 : Int32} {Sr : fy_S}   {H : Heap} {locs : List Loc} {ls : Array Slot} (h : X6_reach S v1 v2 = some Sr) (w : fy_W g X_Y S s H locs) (hl : lv_has ls 3 [(0, .ref (g.2.2.1 34)), (1, .int v1), (2, .int v2)]) : W p l e (fy_rm 0) s m args below meth c H locs 0 0 (MQ below (fy_QV g X_Y Sr) args s 0 0 (fy_A g X_Y)) (F0 m 0 ls []) := by
  obtain ⟨hx, hb, hr, hts, hown, hlk, hml, hK, hD, hE, hN⟩ := id C
  rw [X6_reach] at h
  refine lv_iload_n hx hb dX6_reach_0 rfl (lv_at hl 1 rfl) ?_
  refine lv_if_lt (tgt := 60) hx hb dX6_reach_1 (by decide) (fun hc => ?_) (fun hc => ?_)
  · have h := fy_if_t h hc
    cases h
    exact fy_retV C w dX6_reach_60
  · have h := fy_if_f h hc
    refine lv_iload_n hx hb dX6_reach_4 rfl (lv_at hl 1 rfl) ?_
    refine lv_sipush (v := (4096 : Int32)) hx hb dX6_reach_5 (by decide) ?_
    refine lv_icmp_ge (tgt := 60) hx hb dX6_reach_8 (by decide) (fun hc => ?_) (fun hc => ?_)
    · have h := fy_if_t h hc
      cases h
      exact fy_retV C w dX6_reach_60
    · have h := fy_if_f h hc
      refine lv_aload_n hx hb dX6_reach_11 rfl (lv_at hl 0 rfl) ?_
      refine gfX6_22 X_full C w (X_i34) dX6_reach_12 ?_
      refine lv_sipush (v := (4096 : Int32)) hx hb dX6_reach_15 (by decide) ?_
      refine lv_icmp_ge (tgt := 60) hx hb dX6_reach_18 (by decide) (fun hc => ?_) (fun hc => ?_)
      · have h := fy_if_t h hc
        cases h
        exact fy_retV C w dX6_reach_60
      · have h := fy_if_f h hc
        refine lv_aload_n hx hb dX6_reach_21 rfl (lv_at hl 0 rfl) ?_
        refine gfX6_15 X_full C w (X_i34) dX6_reach_22 ?_
        refine lv_iload_n hx hb dX6_reach_25 rfl (lv_at hl 1 rfl) ?_
        obtain ⟨g26, h⟩ := fy_gd_some h
        refine fy_sald C w X_a36 g26 dX6_reach_26 ?_
        refine lv_iconst (v := (-1 : Int32)) hx hb dX6_reach_27 (by decide) ?_
        refine lv_icmp_ne (tgt := 60) hx hb dX6_reach_28 (by decide) (fun hc => ?_) (fun hc => ?_)
        · have h := fy_if_f h hc
          cases h
          exact fy_retV C w dX6_reach_60
        · have h := fy_if_t h hc
          refine lv_aload_n hx hb dX6_reach_31 rfl (lv_at hl 0 rfl) ?_
          refine gfX6_15 X_full C w (X_i34) dX6_reach_32 ?_
          refine lv_iload_n hx hb dX6_reach_35 rfl (lv_at hl 1 rfl) ?_
          refine lv_iload_n hx hb dX6_reach_36 rfl (lv_at hl 2 rfl) ?_
          refine lv_i2s (v := (v2.toInt16.toInt32)) hx hb dX6_reach_37 rfl ?_
          obtain ⟨g38, h⟩ := fy_gd_some h
          refine fy_sast C w X_a36 g38 dX6_reach_38 (fun H locs w => ?_)
          obtain ⟨S38, e38⟩ : ∃ z, z = fy_sI S 36 v1.toNatClampNeg (vp_nar .short (v2.toInt16.toInt32)) := ⟨_, rfl⟩
          have h := fy_bl_some e38 h
          rw [← e38] at w
          refine lv_aload_n hx hb dX6_reach_39 rfl (lv_at hl 0 rfl) ?_
          refine gfX6_9 X_full C w (X_i34) dX6_reach_40 ?_
          refine lv_aload_n hx hb dX6_reach_43 rfl (lv_at hl 0 rfl) ?_
          refine gfX6_22 X_full C w (X_i34) dX6_reach_44 ?_
          refine lv_iload_n hx hb dX6_reach_47 rfl (lv_at hl 1 rfl) ?_
          refine lv_i2s (v := (v1.toInt16.toInt32)) hx hb dX6_reach_48 rfl ?_
          obtain ⟨g49, h⟩ := fy_gd_some h
          refine fy_sast C w X_a35 g49 dX6_reach_49 (fun H locs w => ?_)
          obtain ⟨S49, e49⟩ : ∃ z, z = fy_sI S38 35 (S38.1 34 3).toNatClampNeg (vp_nar .short (v1.toInt16.toInt32)) := ⟨_, rfl⟩
          have h := fy_bl_some e49 h
          rw [← e49] at w
          refine lv_aload_n hx hb dX6_reach_50 rfl (lv_at hl 0 rfl) ?_
          refine lv_dup hx hb dX6_reach_51 rfl ?_
          refine gfX6_22 X_full C w (X_i34) dX6_reach_52 ?_
          refine lv_iconst (v := (1 : Int32)) hx hb dX6_reach_55 (by decide) ?_
          refine lv_iadd hx hb dX6_reach_56 ?_
          refine pfX6_22 X_full C w (X_i34) dX6_reach_57 (fun H locs w => ?_)
          obtain ⟨S57, e57⟩ : ∃ z, z = fy_sI S49 34 3 ((S49.1 34 3) + (1 : Int32)) := ⟨_, rfl⟩
          have h := fy_bl_some e57 h
          rw [← e57] at w
          cases h
          exact fy_retV C w dX6_reach_60

set_option maxHeartbeats 4000000 in
set_option maxRecDepth 100000 in
theorem c_X6_reach (l : Launch) (g : fy_G) {S : fy_S} {v1 : Int32} {v2 : Int32} {Sr : fy_S}   (h : X6_reach S v1 v2 = some Sr) : fy_M g X_Y l yX6_reach cX6_reach 3 none (fy_rm 0) [.ref (g.2.2.1 34), .int v1, .int v2] S (fy_QV g X_Y Sr) :=
  fy_entry (by decide +kernel) (Nat.le_of_ble_eq_true rfl) (fun p e s m args below meth c ls C w hl => t_X6_reach C  h w hl)
def X6_differs (S : fy_S) (v0 : Nat) (v1 : Nat) (v2 : Int32) : Option (Int32) :=
  fy_bd (X7_isAccepting S v0 (v2 / (64 : Int32))) fun r5 =>
  fy_bd (X7_isAccepting S v1 (v2 - v2 / (64 : Int32) * (64 : Int32))) fun r13 =>
  if r5 = r13 then (
    some (0 : Int32))
  else (
    some (1 : Int32))
set_option maxHeartbeats 4000000 in
set_option maxRecDepth 100000 in
theorem t_X6_differs {p : Program} {l : Launch} {e : Env} {s : State} {m : MethodId} {args : Array Value} {below : List Frame} {meth : Method} {c : Code} {g : fy_G} (C : fy_C g X_Y p s m args meth c yX6_differs.cls cX6_differs 3 (some .boolean)) {S : fy_S} {v0 : Nat} {v1 : Nat} {v2 : Int32} {rr : Int32} (q0 : X_is X_Y 7 v0) (q1 : X_is X_Y 7 v1) {H : Heap} {locs : List Loc} {ls : Array Slot} (h : X6_differs S v0 v1 v2 = some rr) (w : fy_W g X_Y S s H locs) (hl : lv_has ls 3 [(0, .ref (g.2.2.1 v0)), (1, .ref (g.2.2.1 v1)), (2, .int v2)]) : W p l e (fy_rm 2) s m args below meth c H locs 0 0 (MQ below (fy_QI g X_Y rr S) args s 0 0 (fy_A g X_Y)) (F0 m 0 ls []) := by
  obtain ⟨hx, hb, hr, hts, hown, hlk, hml, hK, hD, hE, hN⟩ := id C
  rw [X6_differs] at h
  refine lv_aload_n hx hb dX6_differs_0 rfl (lv_at hl 0 rfl) ?_
  refine lv_iload_n hx hb dX6_differs_1 rfl (lv_at hl 2 rfl) ?_
  refine lv_bipush (v := (64 : Int32)) hx hb dX6_differs_2 (by decide) ?_
  refine lv_idiv hx hb dX6_differs_4 (by decide) ?_
  obtain ⟨r5, h5, h⟩ := fy_bd_some h
  refine fy_calI w (fy_runV (As := [.int (v2 / (64 : Int32))]) (rest := []) C w (c_X7_isAccepting l g q0 h5) (X_o7 X_full q0) ksX6_51 rfl ⟨Nat.le_of_ble_eq_true rfl, Nat.le_of_ble_eq_true rfl⟩ rfl hl.1 rfl (Nat.le_of_ble_eq_true rfl) ⟨Nat.le_refl _, Nat.le_refl _⟩ dX6_differs_5) (fun H locs w => ?_)
  refine lv_aload_n hx hb dX6_differs_8 rfl (lv_at hl 1 rfl) ?_
  refine lv_iload_n hx hb dX6_differs_9 rfl (lv_at hl 2 rfl) ?_
  refine lv_bipush (v := (64 : Int32)) hx hb dX6_differs_10 (by decide) ?_
  refine lv_irem hx hb dX6_differs_12 (by decide) ?_
  obtain ⟨r13, h13, h⟩ := fy_bd_some h
  refine fy_calI w (fy_runV (As := [.int (v2 - v2 / (64 : Int32) * (64 : Int32))]) (rest := [.int r5]) C w (c_X7_isAccepting l g q1 h13) (X_o7 X_full q1) ksX6_51 rfl ⟨Nat.le_of_ble_eq_true rfl, Nat.le_of_ble_eq_true rfl⟩ rfl hl.1 rfl (Nat.le_of_ble_eq_true rfl) ⟨Nat.le_refl _, Nat.le_refl _⟩ dX6_differs_13) (fun H locs w => ?_)
  refine lv_icmp_eq (tgt := 23) hx hb dX6_differs_16 (by decide) (fun hc => ?_) (fun hc => ?_)
  · have h := fy_if_t h hc
    refine lv_iconst (v := (0 : Int32)) hx hb dX6_differs_23 (by decide) ?_
    cases h
    exact fy_retZ C w (by decide +kernel) dX6_differs_24
  · have h := fy_if_f h hc
    refine lv_iconst (v := (1 : Int32)) hx hb dX6_differs_19 (by decide) ?_
    refine lv_goto (tgt := 24) hx hb dX6_differs_20 (by decide) ?_
    cases h
    exact fy_retZ C w (by decide +kernel) dX6_differs_24

set_option maxHeartbeats 4000000 in
set_option maxRecDepth 100000 in
theorem c_X6_differs (l : Launch) (g : fy_G) {S : fy_S} {v0 : Nat} {v1 : Nat} {v2 : Int32} {rr : Int32} (q0 : X_is X_Y 7 v0) (q1 : X_is X_Y 7 v1) (h : X6_differs S v0 v1 v2 = some rr) : fy_M g X_Y l yX6_differs cX6_differs 3 (some .boolean) (fy_rm 2) [.ref (g.2.2.1 v0), .ref (g.2.2.1 v1), .int v2] S (fy_QI g X_Y rr S) :=
  fy_entry (by decide +kernel) (Nat.le_of_ble_eq_true rfl) (fun p e s m args below meth c ls C w hl => t_X6_differs C q0 q1 h w hl)
def X6_stepPair (S : fy_S) (v0 : Nat) (v1 : Nat) (v2 : Int32) (v3 : Int32) : Option (Int32) :=
  fy_bd (X7_step S v0 (v2 / (64 : Int32)) v3) fun r6 =>
  fy_bd (X7_step S v1 (v2 - v2 / (64 : Int32) * (64 : Int32)) v3) fun r18 =>
  some ((r6 * (64 : Int32)) + r18)
set_option maxHeartbeats 4000000 in
set_option maxRecDepth 100000 in
theorem t_X6_stepPair {p : Program} {l : Launch} {e : Env} {s : State} {m : MethodId} {args : Array Value} {below : List Frame} {meth : Method} {c : Code} {g : fy_G} (C : fy_C g X_Y p s m args meth c yX6_stepPair.cls cX6_stepPair 4 (some .int)) {S : fy_S} {v0 : Nat} {v1 : Nat} {v2 : Int32} {v3 : Int32} {rr : Int32} (q0 : X_is X_Y 7 v0) (q1 : X_is X_Y 7 v1) {H : Heap} {locs : List Loc} {ls : Array Slot} (h : X6_stepPair S v0 v1 v2 v3 = some rr) (w : fy_W g X_Y S s H locs) (hl : lv_has ls 4 [(0, .ref (g.2.2.1 v0)), (1, .ref (g.2.2.1 v1)), (2, .int v2), (3, .int v3)]) : W p l e (fy_rm 1) s m args below meth c H locs 0 0 (MQ below (fy_QI g X_Y rr S) args s 0 0 (fy_A g X_Y)) (F0 m 0 ls []) := by
  obtain ⟨hx, hb, hr, hts, hown, hlk, hml, hK, hD, hE, hN⟩ := id C
  rw [X6_stepPair] at h
  refine lv_aload_n hx hb dX6_stepPair_0 rfl (lv_at hl 0 rfl) ?_
  refine lv_iload_n hx hb dX6_stepPair_1 rfl (lv_at hl 2 rfl) ?_
  refine lv_bipush (v := (64 : Int32)) hx hb dX6_stepPair_2 (by decide) ?_
  refine lv_idiv hx hb dX6_stepPair_4 (by decide) ?_
  refine lv_iload_n hx hb dX6_stepPair_5 rfl (lv_at hl 3 rfl) ?_
  obtain ⟨r6, h6, h⟩ := fy_bd_some h
  refine fy_calI w (fy_runV (As := [.int (v2 / (64 : Int32)), .int v3]) (rest := []) C w (c_X7_step l g q0 h6) (X_o7 X_full q0) ksX6_62 rfl ⟨Nat.le_of_ble_eq_true rfl, Nat.le_of_ble_eq_true rfl⟩ rfl hl.1 rfl (Nat.le_of_ble_eq_true rfl) ⟨Nat.le_refl _, Nat.le_refl _⟩ dX6_stepPair_6) (fun H locs w => ?_)
  refine lv_bipush (v := (64 : Int32)) hx hb dX6_stepPair_9 (by decide) ?_
  refine lv_imul hx hb dX6_stepPair_11 ?_
  refine lv_aload_n hx hb dX6_stepPair_12 rfl (lv_at hl 1 rfl) ?_
  refine lv_iload_n hx hb dX6_stepPair_13 rfl (lv_at hl 2 rfl) ?_
  refine lv_bipush (v := (64 : Int32)) hx hb dX6_stepPair_14 (by decide) ?_
  refine lv_irem hx hb dX6_stepPair_16 (by decide) ?_
  refine lv_iload_n hx hb dX6_stepPair_17 rfl (lv_at hl 3 rfl) ?_
  obtain ⟨r18, h18, h⟩ := fy_bd_some h
  refine fy_calI w (fy_runV (As := [.int (v2 - v2 / (64 : Int32) * (64 : Int32)), .int v3]) (rest := [.int (r6 * (64 : Int32))]) C w (c_X7_step l g q1 h18) (X_o7 X_full q1) ksX6_62 rfl ⟨Nat.le_of_ble_eq_true rfl, Nat.le_of_ble_eq_true rfl⟩ rfl hl.1 rfl (Nat.le_of_ble_eq_true rfl) ⟨Nat.le_refl _, Nat.le_refl _⟩ dX6_stepPair_18) (fun H locs w => ?_)
  refine lv_iadd hx hb dX6_stepPair_21 ?_
  cases h
  exact fy_retI C w dX6_stepPair_22

set_option maxHeartbeats 4000000 in
set_option maxRecDepth 100000 in
theorem c_X6_stepPair (l : Launch) (g : fy_G) {S : fy_S} {v0 : Nat} {v1 : Nat} {v2 : Int32} {v3 : Int32} {rr : Int32} (q0 : X_is X_Y 7 v0) (q1 : X_is X_Y 7 v1) (h : X6_stepPair S v0 v1 v2 v3 = some rr) : fy_M g X_Y l yX6_stepPair cX6_stepPair 4 (some .int) (fy_rm 1) [.ref (g.2.2.1 v0), .ref (g.2.2.1 v1), .int v2, .int v3] S (fy_QI g X_Y rr S) :=
  fy_entry (by decide +kernel) (Nat.le_of_ble_eq_true rfl) (fun p e s m args below meth c ls C w hl => t_X6_stepPair C q0 q1 h w hl)
def X6_search_87 (k24 : fy_S → Nat → Nat → Int32 → Int32 → Option (fy_S × Int32)) : Nat → fy_S → Nat → Nat → Int32 → Int32 → Int32 → Int32 → Option (fy_S × Int32)
  | 0, _, _, _, _, _, _, _ => none
  | fu + 1, S, v1, v2, v3, v4, v5, v6 =>
    if (S.1 v1 5) ≤ v6 then (
      fy_bl (v4 + (1 : Int32)) fun x124 =>
      k24 S v1 v2 v3 x124)
    else (
      fy_bd (X6_stepPair S v1 v2 v5 v6) fun r103 =>
      fy_gd (fy_ix v5 4096) <|
      fy_bd (X6_reach S r103 ((S.1 36 v5.toNatClampNeg) + (1 : Int32))) fun S115 =>
      fy_bl (v6 + (1 : Int32)) fun x118 =>
      X6_search_87 k24 fu S115 v1 v2 v3 v4 v5 x118)
def X6_search_76 (S : fy_S) (v4 : Int32) : Option (fy_S × Int32) :=
  fy_bl (fy_sI S 34 4 v4) fun S79 =>
  some (S79, (1 : Int32))
def X6_search_24 : Nat → fy_S → Nat → Nat → Int32 → Int32 → Option (fy_S × Int32)
  | 0, _, _, _, _, _ => none
  | fu + 1, S, v1, v2, v3, v4 =>
    if (S.1 34 3) ≤ v4 then (
      some (S, (0 : Int32)))
    else (
      if (4096 : Int32) ≤ v4 then (
        some (S, (0 : Int32)))
      else (
        fy_gd (fy_ix v4 4096) <|
        fy_bl (S.1 35 v4.toNatClampNeg) fun x48 =>
        fy_bd (X6_differs S v1 v2 x48) fun r54 =>
        if r54 = 0 then (
          X6_search_87 (fun S v1 v2 v3 v4 => X6_search_24 fu S v1 v2 v3 v4) fy_fu S v1 v2 v3 v4 x48 (0 : Int32))
        else (
          if v3 = 0 then (
            X6_search_76 S v4)
          else (
            fy_bd (X7_isAccepting S v1 (x48 / (64 : Int32))) fun r70 =>
            if r70 = 0 then (
              X6_search_87 (fun S v1 v2 v3 v4 => X6_search_24 fu S v1 v2 v3 v4) fy_fu S v1 v2 v3 v4 x48 (0 : Int32))
            else (
              X6_search_76 S v4)))))
def X6_search (S : fy_S) (v1 : Nat) (v2 : Nat) (v3 : Int32) : Option (fy_S × Int32) :=
  fy_bd (X6_forgetLast S ) fun S1 =>
  fy_bd (X6_reach S1 (((S1.1 v1 6) * (64 : Int32)) + (S1.1 v2 6)) (0 : Int32)) fun S18 =>
  X6_search_24 fy_fu S18 v1 v2 v3 (0 : Int32)
set_option maxHeartbeats 4000000 in
set_option maxRecDepth 100000 in
theorem t_X6_search_87 {p : Program} {l : Launch} {e : Env} {s : State} {m : MethodId} {args : Array Value} {below : List Frame} {meth : Method} {c : Code} {g : fy_G} (C : fy_C g X_Y p s m args meth c yX6_search.cls cX6_search 7 (some .boolean)) {Sr : fy_S} {rr : Int32} {k24 : fy_S → Nat → Nat → Int32 → Int32 → Option (fy_S × Int32)} (hk24 : ∀ (S : fy_S) (v1 : Nat) (v2 : Nat) (v3 : Int32) (v4 : Int32) (H : Heap) (locs : List Loc) (ls : Array Slot), k24 S v1 v2 v3 v4 = some (Sr, rr) → fy_W g X_Y S s H locs → X_is X_Y 7 v1 → X_is X_Y 7 v2 → lv_has ls 7 [(0, .ref (g.2.2.1 34)), (1, .ref (g.2.2.1 v1)), (2, .ref (g.2.2.1 v2)), (3, .int v3), (4, .int v4)] → W p l e (fy_rm 3) s m args below meth c H locs 0 0 (MQ below (fy_QI g X_Y rr Sr) args s 0 0 (fy_A g X_Y)) (F0 m 24 ls [])) : ∀ (fu : Nat) (S : fy_S) (v1 : Nat) (v2 : Nat) (v3 : Int32) (v4 : Int32) (v5 : Int32) (v6 : Int32) (H : Heap) (locs : List Loc) (ls : Array Slot), X6_search_87 k24 fu S v1 v2 v3 v4 v5 v6 = some (Sr, rr) → fy_W g X_Y S s H locs → X_is X_Y 7 v1 → X_is X_Y 7 v2 → lv_has ls 7 [(0, .ref (g.2.2.1 34)), (1, .ref (g.2.2.1 v1)), (2, .ref (g.2.2.1 v2)), (3, .int v3), (4, .int v4), (5, .int v5), (6, .int v6)] → W p l e (fy_rm 3) s m args below meth c H locs 0 0 (MQ below (fy_QI g X_Y rr Sr) args s 0 0 (fy_A g X_Y)) (F0 m 87 ls []) := by
  obtain ⟨hx, hb, hr, hts, hown, hlk, hml, hK, hD, hE, hN⟩ := id C
  intro fu
  induction fu with
  | zero => intro S v1 v2 v3 v4 v5 v6 H locs ls h; cases h
  | succ fu ih =>
    intro S v1 v2 v3 v4 v5 v6 H locs ls h w q1 q2 hl
    rw [X6_search_87] at h
    refine lv_iload hx hb dX6_search_87 (lv_at hl 6 rfl) ?_
    refine lv_aload_n hx hb dX6_search_89 rfl (lv_at hl 1 rfl) ?_
    refine gfX6_55 X_full C w q1 dX6_search_90 ?_
    refine lv_icmp_ge (tgt := 124) hx hb dX6_search_93 (by decide) (fun hc => ?_) (fun hc => ?_)
    · have h := fy_if_t h hc
      obtain ⟨x124, e124⟩ : ∃ z : Int32, z = v4 + (1 : Int32) := ⟨_, rfl⟩
      have h := fy_bl_some e124 h
      refine lv_iinc (k := 4) (v := x124) (lv' := [(4, .int x124), (0, .ref (g.2.2.1 34)), (1, .ref (g.2.2.1 v1)), (2, .ref (g.2.2.1 v2)), (3, .int v3), (5, .int v5), (6, .int v6)]) hx hb dX6_search_124 hl rfl (by rw [e124]; rfl) (by decide) rfl (fun ls hl => ?_)
      refine lv_goto (tgt := 24) hx hb dX6_search_127 (by decide) ?_
      exact hk24 _ _ _ _ _ _ _ _ h w q1 q2 (lv_sub hl [1, 2, 3, 4, 0] rfl)
    · have h := fy_if_f h hc
      refine lv_aload_n hx hb dX6_search_96 rfl (lv_at hl 0 rfl) ?_
      refine lv_aload_n hx hb dX6_search_97 rfl (lv_at hl 1 rfl) ?_
      refine lv_aload_n hx hb dX6_search_98 rfl (lv_at hl 2 rfl) ?_
      refine lv_iload hx hb dX6_search_99 (lv_at hl 5 rfl) ?_
      refine lv_iload hx hb dX6_search_101 (lv_at hl 6 rfl) ?_
      obtain ⟨r103, h103, h⟩ := fy_bd_some h
      refine fy_calI w (fy_runS (As := [.ref (g.2.2.1 v1), .ref (g.2.2.1 v2), .int v5, .int v6]) (rest := [.ref (g.2.2.1 34)]) C w (c_X6_stepPair l g q1 q2 h103) ksX6_58 ⟨Nat.le_of_ble_eq_true rfl, Nat.le_of_ble_eq_true rfl⟩ rfl hl.1 rfl (Nat.le_of_ble_eq_true rfl) ⟨Nat.le_refl _, Nat.le_refl _⟩ dX6_search_103) (fun H locs w => ?_)
      refine lv_aload_n hx hb dX6_search_106 rfl (lv_at hl 0 rfl) ?_
      refine gfX6_15 X_full C w (X_i34) dX6_search_107 ?_
      refine lv_iload hx hb dX6_search_110 (lv_at hl 5 rfl) ?_
      obtain ⟨g112, h⟩ := fy_gd_some h
      refine fy_sald C w X_a36 g112 dX6_search_112 ?_
      refine lv_iconst (v := (1 : Int32)) hx hb dX6_search_113 (by decide) ?_
      refine lv_iadd hx hb dX6_search_114 ?_
      obtain ⟨S115, h115, h⟩ := fy_bd_some h
      refine fy_calV w (fy_runV (As := [.int r103, .int ((S.1 36 v5.toNatClampNeg) + (1 : Int32))]) (rest := []) C w (c_X6_reach l g  h115) (X_o6 X_full (X_i34)) ksX6_43 rfl ⟨Nat.le_of_ble_eq_true rfl, Nat.le_of_ble_eq_true rfl⟩ rfl hl.1 rfl (Nat.le_of_ble_eq_true rfl) ⟨Nat.le_refl _, Nat.le_refl _⟩ dX6_search_115) (fun H locs w => ?_)
      obtain ⟨x118, e118⟩ : ∃ z : Int32, z = v6 + (1 : Int32) := ⟨_, rfl⟩
      have h := fy_bl_some e118 h
      refine lv_iinc (k := 6) (v := x118) (lv' := [(6, .int x118), (0, .ref (g.2.2.1 34)), (1, .ref (g.2.2.1 v1)), (2, .ref (g.2.2.1 v2)), (3, .int v3), (4, .int v4), (5, .int v5)]) hx hb dX6_search_118 hl rfl (by rw [e118]; rfl) (by decide) rfl (fun ls hl => ?_)
      refine lv_goto (tgt := 87) hx hb dX6_search_121 (by decide) ?_
      exact ih _ _ _ _ _ _ _ _ _ _ h w q1 q2 (lv_sub hl [1, 2, 3, 4, 5, 6, 0] rfl)

set_option maxHeartbeats 4000000 in
set_option maxRecDepth 100000 in
theorem t_X6_search_76 {p : Program} {l : Launch} {e : Env} {s : State} {m : MethodId} {args : Array Value} {below : List Frame} {meth : Method} {c : Code} {g : fy_G} (C : fy_C g X_Y p s m args meth c yX6_search.cls cX6_search 7 (some .boolean)) {Sr : fy_S} {rr : Int32} : ∀ (S : fy_S) (v4 : Int32) (H : Heap) (locs : List Loc) (ls : Array Slot), X6_search_76 S v4 = some (Sr, rr) → fy_W g X_Y S s H locs → lv_has ls 7 [(0, .ref (g.2.2.1 34)), (4, .int v4)] → W p l e (fy_rm 3) s m args below meth c H locs 0 0 (MQ below (fy_QI g X_Y rr Sr) args s 0 0 (fy_A g X_Y)) (F0 m 76 ls []) := by
  obtain ⟨hx, hb, hr, hts, hown, hlk, hml, hK, hD, hE, hN⟩ := id C
  intro S v4 H locs ls h w  hl
  rw [X6_search_76] at h
  refine lv_aload_n hx hb dX6_search_76 rfl (lv_at hl 0 rfl) ?_
  refine lv_iload hx hb dX6_search_77 (lv_at hl 1 rfl) ?_
  refine pfX6_26 X_full C w (X_i34) dX6_search_79 (fun H locs w => ?_)
  obtain ⟨S79, e79⟩ : ∃ z, z = fy_sI S 34 4 v4 := ⟨_, rfl⟩
  have h := fy_bl_some e79 h
  rw [← e79] at w
  refine lv_iconst (v := (1 : Int32)) hx hb dX6_search_82 (by decide) ?_
  cases h
  exact fy_retZ C w (by decide +kernel) dX6_search_83

set_option maxHeartbeats 4000000 in
set_option maxRecDepth 100000 in
theorem t_X6_search_24 {p : Program} {l : Launch} {e : Env} {s : State} {m : MethodId} {args : Array Value} {below : List Frame} {meth : Method} {c : Code} {g : fy_G} (C : fy_C g X_Y p s m args meth c yX6_search.cls cX6_search 7 (some .boolean)) {Sr : fy_S} {rr : Int32} : ∀ (fu : Nat) (S : fy_S) (v1 : Nat) (v2 : Nat) (v3 : Int32) (v4 : Int32) (H : Heap) (locs : List Loc) (ls : Array Slot), X6_search_24 fu S v1 v2 v3 v4 = some (Sr, rr) → fy_W g X_Y S s H locs → X_is X_Y 7 v1 → X_is X_Y 7 v2 → lv_has ls 7 [(0, .ref (g.2.2.1 34)), (1, .ref (g.2.2.1 v1)), (2, .ref (g.2.2.1 v2)), (3, .int v3), (4, .int v4)] → W p l e (fy_rm 3) s m args below meth c H locs 0 0 (MQ below (fy_QI g X_Y rr Sr) args s 0 0 (fy_A g X_Y)) (F0 m 24 ls []) := by
  obtain ⟨hx, hb, hr, hts, hown, hlk, hml, hK, hD, hE, hN⟩ := id C
  intro fu
  induction fu with
  | zero => intro S v1 v2 v3 v4 H locs ls h; cases h
  | succ fu ih =>
    intro S v1 v2 v3 v4 H locs ls h w q1 q2 hl
    rw [X6_search_24] at h
    refine lv_iload hx hb dX6_search_24 (lv_at hl 4 rfl) ?_
    refine lv_aload_n hx hb dX6_search_26 rfl (lv_at hl 0 rfl) ?_
    refine gfX6_22 X_full C w (X_i34) dX6_search_27 ?_
    refine lv_icmp_ge (tgt := 130) hx hb dX6_search_30 (by decide) (fun hc => ?_) (fun hc => ?_)
    · have h := fy_if_t h hc
      refine lv_iconst (v := (0 : Int32)) hx hb dX6_search_130 (by decide) ?_
      cases h
      exact fy_retZ C w (by decide +kernel) dX6_search_131
    · have h := fy_if_f h hc
      refine lv_iload hx hb dX6_search_33 (lv_at hl 4 rfl) ?_
      refine lv_sipush (v := (4096 : Int32)) hx hb dX6_search_35 (by decide) ?_
      refine lv_icmp_ge (tgt := 130) hx hb dX6_search_38 (by decide) (fun hc => ?_) (fun hc => ?_)
      · have h := fy_if_t h hc
        refine lv_iconst (v := (0 : Int32)) hx hb dX6_search_130 (by decide) ?_
        cases h
        exact fy_retZ C w (by decide +kernel) dX6_search_131
      · have h := fy_if_f h hc
        refine lv_aload_n hx hb dX6_search_41 rfl (lv_at hl 0 rfl) ?_
        refine gfX6_9 X_full C w (X_i34) dX6_search_42 ?_
        refine lv_iload hx hb dX6_search_45 (lv_at hl 4 rfl) ?_
        obtain ⟨g47, h⟩ := fy_gd_some h
        refine fy_sald C w X_a35 g47 dX6_search_47 ?_
        refine lv_topi (fun x48 e48 => ?_)
        have h := fy_bl_some e48 h
        refine lv_istore (lv' := [(5, .int x48), (0, .ref (g.2.2.1 34)), (1, .ref (g.2.2.1 v1)), (2, .ref (g.2.2.1 v2)), (3, .int v3), (4, .int v4)]) hx hb dX6_search_48 hl (by decide) rfl (fun ls hl => ?_)
        refine lv_aload_n hx hb dX6_search_50 rfl (lv_at hl 2 rfl) ?_
        refine lv_aload_n hx hb dX6_search_51 rfl (lv_at hl 3 rfl) ?_
        refine lv_iload hx hb dX6_search_52 (lv_at hl 0 rfl) ?_
        obtain ⟨r54, h54, h⟩ := fy_bd_some h
        refine fy_calI w (fy_runS (As := [.ref (g.2.2.1 v1), .ref (g.2.2.1 v2), .int x48]) (rest := []) C w (c_X6_differs l g q1 q2 h54) ksX6_47 ⟨Nat.le_of_ble_eq_true rfl, Nat.le_of_ble_eq_true rfl⟩ rfl hl.1 rfl (Nat.le_of_ble_eq_true rfl) ⟨Nat.le_refl _, Nat.le_refl _⟩ dX6_search_54) (fun H locs w => ?_)
        refine lv_if_eq (tgt := 84) hx hb dX6_search_57 (by decide) (fun hc => ?_) (fun hc => ?_)
        · have h := fy_if_t h hc
          refine lv_iconst (v := (0 : Int32)) hx hb dX6_search_84 (by decide) ?_
          refine lv_istore (lv' := [(6, .int (0 : Int32)), (5, .int x48), (0, .ref (g.2.2.1 34)), (1, .ref (g.2.2.1 v1)), (2, .ref (g.2.2.1 v2)), (3, .int v3), (4, .int v4)]) hx hb dX6_search_85 hl (by decide) rfl (fun ls hl => ?_)
          exact t_X6_search_87 C ih fy_fu _ _ _ _ _ _ _ _ _ _ h w q1 q2 (lv_sub hl [2, 3, 4, 5, 6, 1, 0] rfl)
        · have h := fy_if_f h hc
          refine lv_iload_n hx hb dX6_search_60 rfl (lv_at hl 4 rfl) ?_
          refine lv_if_eq (tgt := 76) hx hb dX6_search_61 (by decide) (fun hc => ?_) (fun hc => ?_)
          · have h := fy_if_t h hc
            exact t_X6_search_76 C _ _ _ _ _ h w (lv_sub hl [1, 5] rfl)
          · have h := fy_if_f h hc
            refine lv_aload_n hx hb dX6_search_64 rfl (lv_at hl 2 rfl) ?_
            refine lv_iload hx hb dX6_search_65 (lv_at hl 0 rfl) ?_
            refine lv_bipush (v := (64 : Int32)) hx hb dX6_search_67 (by decide) ?_
            refine lv_idiv hx hb dX6_search_69 (by decide) ?_
            obtain ⟨r70, h70, h⟩ := fy_bd_some h
            refine fy_calI w (fy_runV (As := [.int (x48 / (64 : Int32))]) (rest := []) C w (c_X7_isAccepting l g q1 h70) (X_o7 X_full q1) ksX6_51 rfl ⟨Nat.le_of_ble_eq_true rfl, Nat.le_of_ble_eq_true rfl⟩ rfl hl.1 rfl (Nat.le_of_ble_eq_true rfl) ⟨Nat.le_refl _, Nat.le_refl _⟩ dX6_search_70) (fun H locs w => ?_)
            refine lv_if_eq (tgt := 84) hx hb dX6_search_73 (by decide) (fun hc => ?_) (fun hc => ?_)
            · have h := fy_if_t h hc
              refine lv_iconst (v := (0 : Int32)) hx hb dX6_search_84 (by decide) ?_
              refine lv_istore (lv' := [(6, .int (0 : Int32)), (5, .int x48), (0, .ref (g.2.2.1 34)), (1, .ref (g.2.2.1 v1)), (2, .ref (g.2.2.1 v2)), (3, .int v3), (4, .int v4)]) hx hb dX6_search_85 hl (by decide) rfl (fun ls hl => ?_)
              exact t_X6_search_87 C ih fy_fu _ _ _ _ _ _ _ _ _ _ h w q1 q2 (lv_sub hl [2, 3, 4, 5, 6, 1, 0] rfl)
            · have h := fy_if_f h hc
              exact t_X6_search_76 C _ _ _ _ _ h w (lv_sub hl [1, 5] rfl)

set_option maxHeartbeats 4000000 in
set_option maxRecDepth 100000 in
theorem t_X6_search {p : Program} {l : Launch} {e : Env} {s : State} {m : MethodId} {args : Array Value} {below : List Frame} {meth : Method} {c : Code} {g : fy_G} (C : fy_C g X_Y p s m args meth c yX6_search.cls cX6_search 7 (some .boolean)) {S : fy_S} {v1 : Nat} {v2 : Nat} {v3 : Int32} {Sr : fy_S} {rr : Int32} (q1 : X_is X_Y 7 v1) (q2 : X_is X_Y 7 v2) {H : Heap} {locs : List Loc} {ls : Array Slot} (h : X6_search S v1 v2 v3 = some (Sr, rr)) (w : fy_W g X_Y S s H locs) (hl : lv_has ls 7 [(0, .ref (g.2.2.1 34)), (1, .ref (g.2.2.1 v1)), (2, .ref (g.2.2.1 v2)), (3, .int v3)]) : W p l e (fy_rm 3) s m args below meth c H locs 0 0 (MQ below (fy_QI g X_Y rr Sr) args s 0 0 (fy_A g X_Y)) (F0 m 0 ls []) := by
  obtain ⟨hx, hb, hr, hts, hown, hlk, hml, hK, hD, hE, hN⟩ := id C
  rw [X6_search] at h
  refine lv_aload_n hx hb dX6_search_0 rfl (lv_at hl 0 rfl) ?_
  obtain ⟨S1, h1, h⟩ := fy_bd_some h
  refine fy_calV w (fy_runV (As := []) (rest := []) C w (c_X6_forgetLast l g  h1) (X_o6 X_full (X_i34)) ksX6_35 rfl ⟨Nat.le_of_ble_eq_true rfl, Nat.le_of_ble_eq_true rfl⟩ rfl hl.1 rfl (Nat.le_of_ble_eq_true rfl) ⟨Nat.le_refl _, Nat.le_refl _⟩ dX6_search_1) (fun H locs w => ?_)
  refine lv_aload_n hx hb dX6_search_4 rfl (lv_at hl 0 rfl) ?_
  refine lv_aload_n hx hb dX6_search_5 rfl (lv_at hl 1 rfl) ?_
  refine gfX6_38 X_full C w q1 dX6_search_6 ?_
  refine lv_bipush (v := (64 : Int32)) hx hb dX6_search_9 (by decide) ?_
  refine lv_imul hx hb dX6_search_11 ?_
  refine lv_aload_n hx hb dX6_search_12 rfl (lv_at hl 2 rfl) ?_
  refine gfX6_38 X_full C w q2 dX6_search_13 ?_
  refine lv_iadd hx hb dX6_search_16 ?_
  refine lv_iconst (v := (0 : Int32)) hx hb dX6_search_17 (by decide) ?_
  obtain ⟨S18, h18, h⟩ := fy_bd_some h
  refine fy_calV w (fy_runV (As := [.int (((S1.1 v1 6) * (64 : Int32)) + (S1.1 v2 6)), .int (0 : Int32)]) (rest := []) C w (c_X6_reach l g  h18) (X_o6 X_full (X_i34)) ksX6_43 rfl ⟨Nat.le_of_ble_eq_true rfl, Nat.le_of_ble_eq_true rfl⟩ rfl hl.1 rfl (Nat.le_of_ble_eq_true rfl) ⟨Nat.le_refl _, Nat.le_refl _⟩ dX6_search_18) (fun H locs w => ?_)
  refine lv_iconst (v := (0 : Int32)) hx hb dX6_search_21 (by decide) ?_
  refine lv_istore (lv' := [(4, .int (0 : Int32)), (0, .ref (g.2.2.1 34)), (1, .ref (g.2.2.1 v1)), (2, .ref (g.2.2.1 v2)), (3, .int v3)]) hx hb dX6_search_22 hl (by decide) rfl (fun ls hl => ?_)
  exact t_X6_search_24 C fy_fu _ _ _ _ _ _ _ _ h w q1 q2 (lv_sub hl [1, 2, 3, 4, 0] rfl)

set_option maxHeartbeats 4000000 in
set_option maxRecDepth 100000 in
theorem c_X6_search (l : Launch) (g : fy_G) {S : fy_S} {v1 : Nat} {v2 : Nat} {v3 : Int32} {Sr : fy_S} {rr : Int32} (q1 : X_is X_Y 7 v1) (q2 : X_is X_Y 7 v2) (h : X6_search S v1 v2 v3 = some (Sr, rr)) : fy_M g X_Y l yX6_search cX6_search 7 (some .boolean) (fy_rm 3) [.ref (g.2.2.1 34), .ref (g.2.2.1 v1), .ref (g.2.2.1 v2), .int v3] S (fy_QI g X_Y rr Sr) :=
  fy_entry (by decide +kernel) (Nat.le_of_ble_eq_true rfl) (fun p e s m args below meth c ls C w hl => t_X6_search C q1 q2 h w hl)
def X9_searchPairs (S : fy_S) (v1 : Nat) (v2 : Nat) (v3 : Int32) : Option (fy_S × Int32) :=
  fy_bd (X7_load S 20 v1) fun S5 =>
  fy_bd (X7_load S5 26 v2) fun S13 =>
  fy_bp (X6_search S13 20 26 v3) fun S29 r29 =>
  fy_gd (fy_nr .boolean r29) <| some (S29, r29)
set_option maxHeartbeats 4000000 in
set_option maxRecDepth 100000 in
theorem t_X9_searchPairs {p : Program} {l : Launch} {e : Env} {s : State} {m : MethodId} {args : Array Value} {below : List Frame} {meth : Method} {c : Code} {g : fy_G} (C : fy_C g X_Y p s m args meth c yX9_searchPairs.cls cX9_searchPairs 4 (some .boolean)) {S : fy_S} {v1 : Nat} {v2 : Nat} {v3 : Int32} {Sr : fy_S} {rr : Int32} (q1 : X_is X_Y 0 v1) (q2 : X_is X_Y 0 v2) {H : Heap} {locs : List Loc} {ls : Array Slot} (h : X9_searchPairs S v1 v2 v3 = some (Sr, rr)) (w : fy_W g X_Y S s H locs) (hl : lv_has ls 4 [(0, .ref (g.2.2.1 0)), (1, .ref (g.2.2.1 v1)), (2, .ref (g.2.2.1 v2)), (3, .int v3)]) : W p l e (fy_rm 4) s m args below meth c H locs 0 0 (MQ below (fy_QI g X_Y rr Sr) args s 0 0 (fy_A g X_Y)) (F0 m 0 ls []) := by
  obtain ⟨hx, hb, hr, hts, hown, hlk, hml, hK, hD, hE, hN⟩ := id C
  rw [X9_searchPairs] at h
  refine lv_aload_n hx hb dX9_searchPairs_0 rfl (lv_at hl 0 rfl) ?_
  refine gfX9_59 X_full C w (X_i0) dX9_searchPairs_1 ?_
  refine lv_aload_n hx hb dX9_searchPairs_4 rfl (lv_at hl 1 rfl) ?_
  obtain ⟨S5, h5, h⟩ := fy_bd_some h
  refine fy_calV w (fy_runV (As := [.ref (g.2.2.1 v1)]) (rest := []) C w (c_X7_load l g X_i20 q1 h5) (X_o7 X_full X_i20) ksX9_208 rfl ⟨Nat.le_of_ble_eq_true rfl, Nat.le_of_ble_eq_true rfl⟩ rfl hl.1 rfl (Nat.le_of_ble_eq_true rfl) ⟨Nat.le_refl _, Nat.le_refl _⟩ dX9_searchPairs_5) (fun H locs w => ?_)
  refine lv_aload_n hx hb dX9_searchPairs_8 rfl (lv_at hl 0 rfl) ?_
  refine gfX9_63 X_full C w (X_i0) dX9_searchPairs_9 ?_
  refine lv_aload_n hx hb dX9_searchPairs_12 rfl (lv_at hl 2 rfl) ?_
  obtain ⟨S13, h13, h⟩ := fy_bd_some h
  refine fy_calV w (fy_runV (As := [.ref (g.2.2.1 v2)]) (rest := []) C w (c_X7_load l g X_i26 q2 h13) (X_o7 X_full X_i26) ksX9_208 rfl ⟨Nat.le_of_ble_eq_true rfl, Nat.le_of_ble_eq_true rfl⟩ rfl hl.1 rfl (Nat.le_of_ble_eq_true rfl) ⟨Nat.le_refl _, Nat.le_refl _⟩ dX9_searchPairs_13) (fun H locs w => ?_)
  refine lv_aload_n hx hb dX9_searchPairs_16 rfl (lv_at hl 0 rfl) ?_
  refine gfX9_76 X_full C w (X_i0) dX9_searchPairs_17 ?_
  refine lv_aload_n hx hb dX9_searchPairs_20 rfl (lv_at hl 0 rfl) ?_
  refine gfX9_59 X_full C w (X_i0) dX9_searchPairs_21 ?_
  refine lv_aload_n hx hb dX9_searchPairs_24 rfl (lv_at hl 0 rfl) ?_
  refine gfX9_63 X_full C w (X_i0) dX9_searchPairs_25 ?_
  refine lv_iload_n hx hb dX9_searchPairs_28 rfl (lv_at hl 3 rfl) ?_
  obtain ⟨S29, r29, h29, h⟩ := fy_bp_some h
  refine fy_calI w (fy_runV (As := [.ref (g.2.2.1 20), .ref (g.2.2.1 26), .int v3]) (rest := []) C w (c_X6_search l g X_i20 X_i26 h29) (X_o6 X_full X_i34) ksX9_281 rfl ⟨Nat.le_of_ble_eq_true rfl, Nat.le_of_ble_eq_true rfl⟩ rfl hl.1 rfl (Nat.le_of_ble_eq_true rfl) ⟨Nat.le_refl _, Nat.le_refl _⟩ dX9_searchPairs_29) (fun H locs w => ?_)
  obtain ⟨gg, h⟩ := fy_gd_some h
  cases h
  exact fy_retZ C w (fy_nr_ok gg) dX9_searchPairs_32

set_option maxHeartbeats 4000000 in
set_option maxRecDepth 100000 in
theorem c_X9_searchPairs (l : Launch) (g : fy_G) {S : fy_S} {v1 : Nat} {v2 : Nat} {v3 : Int32} {Sr : fy_S} {rr : Int32} (q1 : X_is X_Y 0 v1) (q2 : X_is X_Y 0 v2) (h : X9_searchPairs S v1 v2 v3 = some (Sr, rr)) : fy_M g X_Y l yX9_searchPairs cX9_searchPairs 4 (some .boolean) (fy_rm 4) [.ref (g.2.2.1 0), .ref (g.2.2.1 v1), .ref (g.2.2.1 v2), .int v3] S (fy_QI g X_Y rr Sr) :=
  fy_entry (by decide +kernel) (Nat.le_of_ble_eq_true rfl) (fun p e s m args below meth c ls C w hl => t_X9_searchPairs C q1 q2 h w hl)
def X6_levelBegin_7 (S : fy_S) : Nat → Int32 → Int32 → Int32 → Option (Int32)
  | 0, _, _, _ => none
  | fu + 1, v2, v3, v4 =>
    if v4 < 0 then (
      some v3)
    else (
      fy_gd (fy_ix v4 4096) <|
      fy_gd (fy_ix (S.1 35 v4.toNatClampNeg) 4096) <|
      if (S.1 36 (S.1 35 v4.toNatClampNeg).toNatClampNeg) = v2 then (
        fy_bl (v4 + (-1 : Int32)) fun x31 =>
        X6_levelBegin_7 S fu v2 v4 x31)
      else (
        some v3))
def X6_levelBegin (S : fy_S) (v1 : Int32) (v2 : Int32) : Option (Int32) :=
  fy_bl (v1 - (1 : Int32)) fun x5 =>
  X6_levelBegin_7 S fy_fu v2 v1 x5
set_option maxHeartbeats 4000000 in
set_option maxRecDepth 100000 in
theorem t_X6_levelBegin_7 {p : Program} {l : Launch} {e : Env} {s : State} {m : MethodId} {args : Array Value} {below : List Frame} {meth : Method} {c : Code} {g : fy_G} (C : fy_C g X_Y p s m args meth c yX6_levelBegin.cls cX6_levelBegin 5 (some .int)) {S : fy_S} {rr : Int32} : ∀ (fu : Nat) (v2 : Int32) (v3 : Int32) (v4 : Int32) (H : Heap) (locs : List Loc) (ls : Array Slot), X6_levelBegin_7 S fu v2 v3 v4 = some rr → fy_W g X_Y S s H locs → lv_has ls 5 [(0, .ref (g.2.2.1 34)), (2, .int v2), (3, .int v3), (4, .int v4)] → W p l e (fy_rm 0) s m args below meth c H locs 0 0 (MQ below (fy_QI g X_Y rr S) args s 0 0 (fy_A g X_Y)) (F0 m 7 ls []) := by
  obtain ⟨hx, hb, hr, hts, hown, hlk, hml, hK, hD, hE, hN⟩ := id C
  intro fu
  induction fu with
  | zero => intro v2 v3 v4 H locs ls h; cases h
  | succ fu ih =>
    intro v2 v3 v4 H locs ls h w  hl
    rw [X6_levelBegin_7] at h
    refine lv_iload hx hb dX6_levelBegin_7 (lv_at hl 3 rfl) ?_
    refine lv_if_lt (tgt := 37) hx hb dX6_levelBegin_9 (by decide) (fun hc => ?_) (fun hc => ?_)
    · have h := fy_if_t h hc
      refine lv_iload_n hx hb dX6_levelBegin_37 rfl (lv_at hl 2 rfl) ?_
      cases h
      exact fy_retI C w dX6_levelBegin_38
    · have h := fy_if_f h hc
      refine lv_aload_n hx hb dX6_levelBegin_12 rfl (lv_at hl 0 rfl) ?_
      refine gfX6_15 X_full C w (X_i34) dX6_levelBegin_13 ?_
      refine lv_aload_n hx hb dX6_levelBegin_16 rfl (lv_at hl 0 rfl) ?_
      refine gfX6_9 X_full C w (X_i34) dX6_levelBegin_17 ?_
      refine lv_iload hx hb dX6_levelBegin_20 (lv_at hl 3 rfl) ?_
      obtain ⟨g22, h⟩ := fy_gd_some h
      refine fy_sald C w X_a35 g22 dX6_levelBegin_22 ?_
      obtain ⟨g23, h⟩ := fy_gd_some h
      refine fy_sald C w X_a36 g23 dX6_levelBegin_23 ?_
      refine lv_iload_n hx hb dX6_levelBegin_24 rfl (lv_at hl 1 rfl) ?_
      refine lv_icmp_ne (tgt := 37) hx hb dX6_levelBegin_25 (by decide) (fun hc => ?_) (fun hc => ?_)
      · have h := fy_if_f h hc
        refine lv_iload_n hx hb dX6_levelBegin_37 rfl (lv_at hl 2 rfl) ?_
        cases h
        exact fy_retI C w dX6_levelBegin_38
      · have h := fy_if_t h hc
        refine lv_iload hx hb dX6_levelBegin_28 (lv_at hl 3 rfl) ?_
        refine lv_istore_n (lv' := [(3, .int v4), (0, .ref (g.2.2.1 34)), (2, .int v2), (4, .int v4)]) hx hb dX6_levelBegin_30 rfl hl (by decide) rfl (fun ls hl => ?_)
        obtain ⟨x31, e31⟩ : ∃ z : Int32, z = v4 + (-1 : Int32) := ⟨_, rfl⟩
        have h := fy_bl_some e31 h
        refine lv_iinc (k := 3) (v := x31) (lv' := [(4, .int x31), (3, .int v4), (0, .ref (g.2.2.1 34)), (2, .int v2)]) hx hb dX6_levelBegin_31 hl rfl (by rw [e31]; rfl) (by decide) rfl (fun ls hl => ?_)
        refine lv_goto (tgt := 7) hx hb dX6_levelBegin_34 (by decide) ?_
        exact ih _ _ _ _ _ _ h w (lv_sub hl [2, 3, 1, 0] rfl)

set_option maxHeartbeats 4000000 in
set_option maxRecDepth 100000 in
theorem t_X6_levelBegin {p : Program} {l : Launch} {e : Env} {s : State} {m : MethodId} {args : Array Value} {below : List Frame} {meth : Method} {c : Code} {g : fy_G} (C : fy_C g X_Y p s m args meth c yX6_levelBegin.cls cX6_levelBegin 5 (some .int)) {S : fy_S} {v1 : Int32} {v2 : Int32} {rr : Int32}  {H : Heap} {locs : List Loc} {ls : Array Slot} (h : X6_levelBegin S v1 v2 = some rr) (w : fy_W g X_Y S s H locs) (hl : lv_has ls 5 [(0, .ref (g.2.2.1 34)), (1, .int v1), (2, .int v2)]) : W p l e (fy_rm 0) s m args below meth c H locs 0 0 (MQ below (fy_QI g X_Y rr S) args s 0 0 (fy_A g X_Y)) (F0 m 0 ls []) := by
  obtain ⟨hx, hb, hr, hts, hown, hlk, hml, hK, hD, hE, hN⟩ := id C
  rw [X6_levelBegin] at h
  refine lv_iload_n hx hb dX6_levelBegin_0 rfl (lv_at hl 1 rfl) ?_
  refine lv_istore_n (lv' := [(3, .int v1), (0, .ref (g.2.2.1 34)), (1, .int v1), (2, .int v2)]) hx hb dX6_levelBegin_1 rfl hl (by decide) rfl (fun ls hl => ?_)
  refine lv_iload_n hx hb dX6_levelBegin_2 rfl (lv_at hl 2 rfl) ?_
  refine lv_iconst (v := (1 : Int32)) hx hb dX6_levelBegin_3 (by decide) ?_
  refine lv_isub hx hb dX6_levelBegin_4 ?_
  refine lv_topi (fun x5 e5 => ?_)
  have h := fy_bl_some e5 h
  refine lv_istore (lv' := [(4, .int x5), (3, .int v1), (0, .ref (g.2.2.1 34)), (1, .int v1), (2, .int v2)]) hx hb dX6_levelBegin_5 hl (by decide) rfl (fun ls hl => ?_)
  exact t_X6_levelBegin_7 C fy_fu _ _ _ _ _ _ h w (lv_sub hl [2, 4, 1, 0] rfl)

set_option maxHeartbeats 4000000 in
set_option maxRecDepth 100000 in
theorem c_X6_levelBegin (l : Launch) (g : fy_G) {S : fy_S} {v1 : Int32} {v2 : Int32} {rr : Int32}  (h : X6_levelBegin S v1 v2 = some rr) : fy_M g X_Y l yX6_levelBegin cX6_levelBegin 5 (some .int) (fy_rm 0) [.ref (g.2.2.1 34), .int v1, .int v2] S (fy_QI g X_Y rr S) :=
  fy_entry (by decide +kernel) (Nat.le_of_ble_eq_true rfl) (fun p e s m args below meth c ls C w hl => t_X6_levelBegin C  h w hl)
def X6_markLeading_7 : Nat → fy_S → Nat → Nat → Int32 → Int32 → Int32 → Int32 → Option (fy_S × Int32)
  | 0, _, _, _, _, _, _, _ => none
  | fu + 1, S, v1, v2, v3, v5, v6, v7 =>
    if v5 ≤ v7 then (
      fy_gd (fy_nr .boolean v6) <| some (S, v6))
    else (
      if (S.1 34 3) ≤ v7 then (
        fy_gd (fy_nr .boolean v6) <| some (S, v6))
      else (
        fy_gd (fy_ix v7 4096) <|
        fy_bl (S.1 35 v7.toNatClampNeg) fun x30 =>
        fy_bd (X6_stepPair S v1 v2 x30 v3) fun r37 =>
        fy_gd (fy_ix r37 4096) <|
        if (S.1 37 r37.toNatClampNeg) = 0 then (
          fy_bl (v7 + (1 : Int32)) fun x82 =>
          X6_markLeading_7 fu S v1 v2 v3 v5 v6 x82)
        else (
          fy_gd (fy_ix r37 4096) <|
          fy_gd (fy_ix x30 4096) <|
          if (S.1 36 r37.toNatClampNeg) = ((S.1 36 x30.toNatClampNeg) + (1 : Int32)) then (
            fy_gd (fy_ix x30 4096) <|
            fy_bl (fy_sI S 37 x30.toNatClampNeg (vp_nar .boolean (1 : Int32))) fun S78 =>
            fy_bl (v7 + (1 : Int32)) fun x82 =>
            X6_markLeading_7 fu S78 v1 v2 v3 v5 (1 : Int32) x82)
          else (
            fy_bl (v7 + (1 : Int32)) fun x82 =>
            X6_markLeading_7 fu S v1 v2 v3 v5 v6 x82))))
def X6_markLeading (S : fy_S) (v1 : Nat) (v2 : Nat) (v3 : Int32) (v4 : Int32) (v5 : Int32) : Option (fy_S × Int32) :=
  X6_markLeading_7 fy_fu S v1 v2 v3 v5 (0 : Int32) v4
set_option maxHeartbeats 4000000 in
set_option maxRecDepth 100000 in
theorem t_X6_markLeading_7 {p : Program} {l : Launch} {e : Env} {s : State} {m : MethodId} {args : Array Value} {below : List Frame} {meth : Method} {c : Code} {g : fy_G} (C : fy_C g X_Y p s m args meth c yX6_markLeading.cls cX6_markLeading 10 (some .boolean)) {Sr : fy_S} {rr : Int32} : ∀ (fu : Nat) (S : fy_S) (v1 : Nat) (v2 : Nat) (v3 : Int32) (v5 : Int32) (v6 : Int32) (v7 : Int32) (H : Heap) (locs : List Loc) (ls : Array Slot), X6_markLeading_7 fu S v1 v2 v3 v5 v6 v7 = some (Sr, rr) → fy_W g X_Y S s H locs → X_is X_Y 7 v1 → X_is X_Y 7 v2 → lv_has ls 10 [(0, .ref (g.2.2.1 34)), (1, .ref (g.2.2.1 v1)), (2, .ref (g.2.2.1 v2)), (3, .int v3), (5, .int v5), (6, .int v6), (7, .int v7)] → W p l e (fy_rm 2) s m args below meth c H locs 0 0 (MQ below (fy_QI g X_Y rr Sr) args s 0 0 (fy_A g X_Y)) (F0 m 7 ls []) := by
  obtain ⟨hx, hb, hr, hts, hown, hlk, hml, hK, hD, hE, hN⟩ := id C
  intro fu
  induction fu with
  | zero => intro S v1 v2 v3 v5 v6 v7 H locs ls h; cases h
  | succ fu ih =>
    intro S v1 v2 v3 v5 v6 v7 H locs ls h w q1 q2 hl
    rw [X6_markLeading_7] at h
    refine lv_iload hx hb dX6_markLeading_7 (lv_at hl 6 rfl) ?_
    refine lv_iload hx hb dX6_markLeading_9 (lv_at hl 4 rfl) ?_
    refine lv_icmp_ge (tgt := 88) hx hb dX6_markLeading_11 (by decide) (fun hc => ?_) (fun hc => ?_)
    · have h := fy_if_t h hc
      refine lv_iload hx hb dX6_markLeading_88 (lv_at hl 5 rfl) ?_
      obtain ⟨gg, h⟩ := fy_gd_some h
      cases h
      exact fy_retZ C w (fy_nr_ok gg) dX6_markLeading_90
    · have h := fy_if_f h hc
      refine lv_iload hx hb dX6_markLeading_14 (lv_at hl 6 rfl) ?_
      refine lv_aload_n hx hb dX6_markLeading_16 rfl (lv_at hl 0 rfl) ?_
      refine gfX6_22 X_full C w (X_i34) dX6_markLeading_17 ?_
      refine lv_icmp_ge (tgt := 88) hx hb dX6_markLeading_20 (by decide) (fun hc => ?_) (fun hc => ?_)
      · have h := fy_if_t h hc
        refine lv_iload hx hb dX6_markLeading_88 (lv_at hl 5 rfl) ?_
        obtain ⟨gg, h⟩ := fy_gd_some h
        cases h
        exact fy_retZ C w (fy_nr_ok gg) dX6_markLeading_90
      · have h := fy_if_f h hc
        refine lv_aload_n hx hb dX6_markLeading_23 rfl (lv_at hl 0 rfl) ?_
        refine gfX6_9 X_full C w (X_i34) dX6_markLeading_24 ?_
        refine lv_iload hx hb dX6_markLeading_27 (lv_at hl 6 rfl) ?_
        obtain ⟨g29, h⟩ := fy_gd_some h
        refine fy_sald C w X_a35 g29 dX6_markLeading_29 ?_
        refine lv_topi (fun x30 e30 => ?_)
        have h := fy_bl_some e30 h
        refine lv_istore (lv' := [(8, .int x30), (0, .ref (g.2.2.1 34)), (1, .ref (g.2.2.1 v1)), (2, .ref (g.2.2.1 v2)), (3, .int v3), (5, .int v5), (6, .int v6), (7, .int v7)]) hx hb dX6_markLeading_30 hl (by decide) rfl (fun ls hl => ?_)
        refine lv_aload_n hx hb dX6_markLeading_32 rfl (lv_at hl 2 rfl) ?_
        refine lv_aload_n hx hb dX6_markLeading_33 rfl (lv_at hl 3 rfl) ?_
        refine lv_iload hx hb dX6_markLeading_34 (lv_at hl 0 rfl) ?_
        refine lv_iload_n hx hb dX6_markLeading_36 rfl (lv_at hl 4 rfl) ?_
        obtain ⟨r37, h37, h⟩ := fy_bd_some h
        refine fy_calI w (fy_runS (As := [.ref (g.2.2.1 v1), .ref (g.2.2.1 v2), .int x30, .int v3]) (rest := []) C w (c_X6_stepPair l g q1 q2 h37) ksX6_58 ⟨Nat.le_of_ble_eq_true rfl, Nat.le_of_ble_eq_true rfl⟩ rfl hl.1 rfl (Nat.le_of_ble_eq_true rfl) ⟨Nat.le_refl _, Nat.le_refl _⟩ dX6_markLeading_37) (fun H locs w => ?_)
        refine lv_istore (lv' := [(9, .int r37), (8, .int x30), (0, .ref (g.2.2.1 34)), (1, .ref (g.2.2.1 v1)), (2, .ref (g.2.2.1 v2)), (3, .int v3), (5, .int v5), (6, .int v6), (7, .int v7)]) hx hb dX6_markLeading_40 hl (by decide) rfl (fun ls hl => ?_)
        refine lv_aload_n hx hb dX6_markLeading_42 rfl (lv_at hl 2 rfl) ?_
        refine gfX6_18 X_full C w (X_i34) dX6_markLeading_43 ?_
        refine lv_iload hx hb dX6_markLeading_46 (lv_at hl 0 rfl) ?_
        obtain ⟨g48, h⟩ := fy_gd_some h
        refine fy_zald C w X_a37 g48 dX6_markLeading_48 ?_
        refine lv_if_eq (tgt := 82) hx hb dX6_markLeading_49 (by decide) (fun hc => ?_) (fun hc => ?_)
        · have h := fy_if_t h hc
          obtain ⟨x82, e82⟩ : ∃ z : Int32, z = v7 + (1 : Int32) := ⟨_, rfl⟩
          have h := fy_bl_some e82 h
          refine lv_iinc (k := 8) (v := x82) (lv' := [(7, .int x82), (9, .int r37), (8, .int x30), (0, .ref (g.2.2.1 34)), (1, .ref (g.2.2.1 v1)), (2, .ref (g.2.2.1 v2)), (3, .int v3), (5, .int v5), (6, .int v6)]) hx hb dX6_markLeading_82 hl rfl (by rw [e82]; rfl) (by decide) rfl (fun ls hl => ?_)
          refine lv_goto (tgt := 7) hx hb dX6_markLeading_85 (by decide) ?_
          exact ih _ _ _ _ _ _ _ _ _ _ h w q1 q2 (lv_sub hl [3, 4, 5, 6, 7, 8, 0] rfl)
        · have h := fy_if_f h hc
          refine lv_aload_n hx hb dX6_markLeading_52 rfl (lv_at hl 2 rfl) ?_
          refine gfX6_15 X_full C w (X_i34) dX6_markLeading_53 ?_
          refine lv_iload hx hb dX6_markLeading_56 (lv_at hl 0 rfl) ?_
          obtain ⟨g58, h⟩ := fy_gd_some h
          refine fy_sald C w X_a36 g58 dX6_markLeading_58 ?_
          refine lv_aload_n hx hb dX6_markLeading_59 rfl (lv_at hl 2 rfl) ?_
          refine gfX6_15 X_full C w (X_i34) dX6_markLeading_60 ?_
          refine lv_iload hx hb dX6_markLeading_63 (lv_at hl 1 rfl) ?_
          obtain ⟨g65, h⟩ := fy_gd_some h
          refine fy_sald C w X_a36 g65 dX6_markLeading_65 ?_
          refine lv_iconst (v := (1 : Int32)) hx hb dX6_markLeading_66 (by decide) ?_
          refine lv_iadd hx hb dX6_markLeading_67 ?_
          refine lv_icmp_ne (tgt := 82) hx hb dX6_markLeading_68 (by decide) (fun hc => ?_) (fun hc => ?_)
          · have h := fy_if_f h hc
            obtain ⟨x82, e82⟩ : ∃ z : Int32, z = v7 + (1 : Int32) := ⟨_, rfl⟩
            have h := fy_bl_some e82 h
            refine lv_iinc (k := 8) (v := x82) (lv' := [(7, .int x82), (9, .int r37), (8, .int x30), (0, .ref (g.2.2.1 34)), (1, .ref (g.2.2.1 v1)), (2, .ref (g.2.2.1 v2)), (3, .int v3), (5, .int v5), (6, .int v6)]) hx hb dX6_markLeading_82 hl rfl (by rw [e82]; rfl) (by decide) rfl (fun ls hl => ?_)
            refine lv_goto (tgt := 7) hx hb dX6_markLeading_85 (by decide) ?_
            exact ih _ _ _ _ _ _ _ _ _ _ h w q1 q2 (lv_sub hl [3, 4, 5, 6, 7, 8, 0] rfl)
          · have h := fy_if_t h hc
            refine lv_aload_n hx hb dX6_markLeading_71 rfl (lv_at hl 2 rfl) ?_
            refine gfX6_18 X_full C w (X_i34) dX6_markLeading_72 ?_
            refine lv_iload hx hb dX6_markLeading_75 (lv_at hl 1 rfl) ?_
            refine lv_iconst (v := (1 : Int32)) hx hb dX6_markLeading_77 (by decide) ?_
            obtain ⟨g78, h⟩ := fy_gd_some h
            refine fy_zast C w X_a37 g78 dX6_markLeading_78 (fun H locs w => ?_)
            obtain ⟨S78, e78⟩ : ∃ z, z = fy_sI S 37 x30.toNatClampNeg (vp_nar .boolean (1 : Int32)) := ⟨_, rfl⟩
            have h := fy_bl_some e78 h
            rw [← e78] at w
            refine lv_iconst (v := (1 : Int32)) hx hb dX6_markLeading_79 (by decide) ?_
            refine lv_istore (lv' := [(6, .int (1 : Int32)), (9, .int r37), (8, .int x30), (0, .ref (g.2.2.1 34)), (1, .ref (g.2.2.1 v1)), (2, .ref (g.2.2.1 v2)), (3, .int v3), (5, .int v5), (7, .int v7)]) hx hb dX6_markLeading_80 hl (by decide) rfl (fun ls hl => ?_)
            obtain ⟨x82, e82⟩ : ∃ z : Int32, z = v7 + (1 : Int32) := ⟨_, rfl⟩
            have h := fy_bl_some e82 h
            refine lv_iinc (k := 8) (v := x82) (lv' := [(7, .int x82), (6, .int (1 : Int32)), (9, .int r37), (8, .int x30), (0, .ref (g.2.2.1 34)), (1, .ref (g.2.2.1 v1)), (2, .ref (g.2.2.1 v2)), (3, .int v3), (5, .int v5)]) hx hb dX6_markLeading_82 hl rfl (by rw [e82]; rfl) (by decide) rfl (fun ls hl => ?_)
            refine lv_goto (tgt := 7) hx hb dX6_markLeading_85 (by decide) ?_
            exact ih _ _ _ _ _ _ _ _ _ _ h w q1 q2 (lv_sub hl [4, 5, 6, 7, 8, 1, 0] rfl)

set_option maxHeartbeats 4000000 in
set_option maxRecDepth 100000 in
theorem t_X6_markLeading {p : Program} {l : Launch} {e : Env} {s : State} {m : MethodId} {args : Array Value} {below : List Frame} {meth : Method} {c : Code} {g : fy_G} (C : fy_C g X_Y p s m args meth c yX6_markLeading.cls cX6_markLeading 10 (some .boolean)) {S : fy_S} {v1 : Nat} {v2 : Nat} {v3 : Int32} {v4 : Int32} {v5 : Int32} {Sr : fy_S} {rr : Int32} (q1 : X_is X_Y 7 v1) (q2 : X_is X_Y 7 v2) {H : Heap} {locs : List Loc} {ls : Array Slot} (h : X6_markLeading S v1 v2 v3 v4 v5 = some (Sr, rr)) (w : fy_W g X_Y S s H locs) (hl : lv_has ls 10 [(0, .ref (g.2.2.1 34)), (1, .ref (g.2.2.1 v1)), (2, .ref (g.2.2.1 v2)), (3, .int v3), (4, .int v4), (5, .int v5)]) : W p l e (fy_rm 2) s m args below meth c H locs 0 0 (MQ below (fy_QI g X_Y rr Sr) args s 0 0 (fy_A g X_Y)) (F0 m 0 ls []) := by
  obtain ⟨hx, hb, hr, hts, hown, hlk, hml, hK, hD, hE, hN⟩ := id C
  rw [X6_markLeading] at h
  refine lv_iconst (v := (0 : Int32)) hx hb dX6_markLeading_0 (by decide) ?_
  refine lv_istore (lv' := [(6, .int (0 : Int32)), (0, .ref (g.2.2.1 34)), (1, .ref (g.2.2.1 v1)), (2, .ref (g.2.2.1 v2)), (3, .int v3), (4, .int v4), (5, .int v5)]) hx hb dX6_markLeading_1 hl (by decide) rfl (fun ls hl => ?_)
  refine lv_iload hx hb dX6_markLeading_3 (lv_at hl 5 rfl) ?_
  refine lv_istore (lv' := [(7, .int v4), (6, .int (0 : Int32)), (0, .ref (g.2.2.1 34)), (1, .ref (g.2.2.1 v1)), (2, .ref (g.2.2.1 v2)), (3, .int v3), (4, .int v4), (5, .int v5)]) hx hb dX6_markLeading_5 hl (by decide) rfl (fun ls hl => ?_)
  exact t_X6_markLeading_7 C fy_fu _ _ _ _ _ _ _ _ _ _ h w q1 q2 (lv_sub hl [2, 3, 4, 5, 7, 1, 0] rfl)

set_option maxHeartbeats 4000000 in
set_option maxRecDepth 100000 in
theorem c_X6_markLeading (l : Launch) (g : fy_G) {S : fy_S} {v1 : Nat} {v2 : Nat} {v3 : Int32} {v4 : Int32} {v5 : Int32} {Sr : fy_S} {rr : Int32} (q1 : X_is X_Y 7 v1) (q2 : X_is X_Y 7 v2) (h : X6_markLeading S v1 v2 v3 v4 v5 = some (Sr, rr)) : fy_M g X_Y l yX6_markLeading cX6_markLeading 10 (some .boolean) (fy_rm 2) [.ref (g.2.2.1 34), .ref (g.2.2.1 v1), .ref (g.2.2.1 v2), .int v3, .int v4, .int v5] S (fy_QI g X_Y rr Sr) :=
  fy_entry (by decide +kernel) (Nat.le_of_ble_eq_true rfl) (fun p e s m args below meth c ls C w hl => t_X6_markLeading C q1 q2 h w hl)
def X6_spell_122 (k101 : fy_S → Nat → Nat → Nat → Int32 → Int32 → Option (fy_S)) : Nat → fy_S → Nat → Nat → Nat → Int32 → Int32 → Int32 → Int32 → Int32 → Option (fy_S)
  | 0, _, _, _, _, _, _, _, _, _ => none
  | fu + 1, S, v1, v2, v3, v5, v6, v7, v8, v9 =>
    if (S.1 v1 5) ≤ v9 then (
      fy_bl (v6 + (-1 : Int32)) fun x171 =>
      k101 S v1 v2 v3 v7 x171)
    else (
      if v8 = 0 then (
        fy_bp (X6_markLeading S v1 v2 v9 v7 v5) fun S145 r145 =>
        if r145 = 0 then (
          fy_bl (v9 + (1 : Int32)) fun x161 =>
          X6_spell_122 k101 fu S145 v1 v2 v3 v5 v6 v7 r145 x161)
        else (
          fy_bd (X8_add S145 v3 v9) fun S158 =>
          fy_bl (v9 + (1 : Int32)) fun x161 =>
          X6_spell_122 k101 fu S158 v1 v2 v3 v5 v6 v7 r145 x161))
      else (
        fy_bl (v6 + (-1 : Int32)) fun x171 =>
        k101 S v1 v2 v3 v7 x171))
def X6_spell_101 : Nat → fy_S → Nat → Nat → Nat → Int32 → Int32 → Option (fy_S)
  | 0, _, _, _, _, _, _ => none
  | fu + 1, S, v1, v2, v3, v5, v6 =>
    if v6 < 0 then (
      some S)
    else (
      fy_bd (X6_levelBegin S v5 v6) fun r111 =>
      X6_spell_122 (fun S v1 v2 v3 v5 v6 => X6_spell_101 fu S v1 v2 v3 v5 v6) fy_fu S v1 v2 v3 v5 v6 r111 (0 : Int32) (0 : Int32))
def X6_spell_83 (S : fy_S) (v1 : Nat) (v2 : Nat) (v3 : Nat) (v4 : Int32) : Option (fy_S) :=
  fy_bd (X6_levelBegin S (S.1 34 4) v4) fun r90 =>
  fy_bl (v4 - (1 : Int32)) fun x99 =>
  X6_spell_101 fy_fu S v1 v2 v3 r90 x99
def X6_spell_27 : Nat → fy_S → Nat → Nat → Nat → Int32 → Int32 → Option (fy_S)
  | 0, _, _, _, _, _, _ => none
  | fu + 1, S, v1, v2, v3, v4, v5 =>
    if (S.1 34 3) ≤ v5 then (
      X6_spell_83 S v1 v2 v3 v4)
    else (
      fy_gd (fy_ix v5 4096) <|
      fy_gd (fy_ix (S.1 35 v5.toNatClampNeg) 4096) <|
      if (S.1 36 (S.1 35 v5.toNatClampNeg).toNatClampNeg) = v4 then (
        fy_gd (fy_ix v5 4096) <|
        fy_gd (fy_ix v5 4096) <|
        fy_bd (X6_differs S v1 v2 (S.1 35 v5.toNatClampNeg)) fun r73 =>
        fy_gd (fy_ix (S.1 35 v5.toNatClampNeg) 4096) <|
        fy_bl (fy_sI S 37 (S.1 35 v5.toNatClampNeg).toNatClampNeg (vp_nar .boolean r73)) fun S76 =>
        fy_bl (v5 + (1 : Int32)) fun x77 =>
        X6_spell_27 fu S76 v1 v2 v3 v4 x77)
      else (
        X6_spell_83 S v1 v2 v3 v4))
def X6_spell (S : fy_S) (v1 : Nat) (v2 : Nat) (v3 : Nat) : Option (fy_S) :=
  fy_bl (fy_sI S v3 1 (0 : Int32)) fun S2 =>
  fy_gd (fy_ix (S2.1 34 4) 4096) <|
  fy_gd (fy_ix (S2.1 35 (S2.1 34 4).toNatClampNeg) 4096) <|
  fy_bl (S2.1 36 (S2.1 35 (S2.1 34 4).toNatClampNeg).toNatClampNeg) fun x19 =>
  fy_bl (S2.1 34 4) fun x25 =>
  X6_spell_27 fy_fu S2 v1 v2 v3 x19 x25
set_option maxHeartbeats 4000000 in
set_option maxRecDepth 100000 in
theorem t_X6_spell_122 {p : Program} {l : Launch} {e : Env} {s : State} {m : MethodId} {args : Array Value} {below : List Frame} {meth : Method} {c : Code} {g : fy_G} (C : fy_C g X_Y p s m args meth c yX6_spell.cls cX6_spell 10 none) {Sr : fy_S}  {k101 : fy_S → Nat → Nat → Nat → Int32 → Int32 → Option (fy_S)} (hk101 : ∀ (S : fy_S) (v1 : Nat) (v2 : Nat) (v3 : Nat) (v5 : Int32) (v6 : Int32) (H : Heap) (locs : List Loc) (ls : Array Slot), k101 S v1 v2 v3 v5 v6 = some Sr → fy_W g X_Y S s H locs → X_is X_Y 7 v1 → X_is X_Y 7 v2 → X_is X_Y 8 v3 → lv_has ls 10 [(0, .ref (g.2.2.1 34)), (1, .ref (g.2.2.1 v1)), (2, .ref (g.2.2.1 v2)), (3, .ref (g.2.2.1 v3)), (5, .int v5), (6, .int v6)] → W p l e (fy_rm 3) s m args below meth c H locs 0 0 (MQ below (fy_QV g X_Y Sr) args s 0 0 (fy_A g X_Y)) (F0 m 101 ls [])) : ∀ (fu : Nat) (S : fy_S) (v1 : Nat) (v2 : Nat) (v3 : Nat) (v5 : Int32) (v6 : Int32) (v7 : Int32) (v8 : Int32) (v9 : Int32) (H : Heap) (locs : List Loc) (ls : Array Slot), X6_spell_122 k101 fu S v1 v2 v3 v5 v6 v7 v8 v9 = some Sr → fy_W g X_Y S s H locs → X_is X_Y 7 v1 → X_is X_Y 7 v2 → X_is X_Y 8 v3 → lv_has ls 10 [(0, .ref (g.2.2.1 34)), (1, .ref (g.2.2.1 v1)), (2, .ref (g.2.2.1 v2)), (3, .ref (g.2.2.1 v3)), (5, .int v5), (6, .int v6), (7, .int v7), (8, .int v8), (9, .int v9)] → W p l e (fy_rm 3) s m args below meth c H locs 0 0 (MQ below (fy_QV g X_Y Sr) args s 0 0 (fy_A g X_Y)) (F0 m 122 ls []) := by
  obtain ⟨hx, hb, hr, hts, hown, hlk, hml, hK, hD, hE, hN⟩ := id C
  intro fu
  induction fu with
  | zero => intro S v1 v2 v3 v5 v6 v7 v8 v9 H locs ls h; cases h
  | succ fu ih =>
    intro S v1 v2 v3 v5 v6 v7 v8 v9 H locs ls h w q1 q2 q3 hl
    rw [X6_spell_122] at h
    refine lv_iload hx hb dX6_spell_122 (lv_at hl 8 rfl) ?_
    refine lv_aload_n hx hb dX6_spell_124 rfl (lv_at hl 1 rfl) ?_
    refine gfX6_55 X_full C w q1 dX6_spell_125 ?_
    refine lv_icmp_ge (tgt := 167) hx hb dX6_spell_128 (by decide) (fun hc => ?_) (fun hc => ?_)
    · have h := fy_if_t h hc
      refine lv_iload hx hb dX6_spell_167 (lv_at hl 6 rfl) ?_
      refine lv_istore (lv' := [(5, .int v7), (0, .ref (g.2.2.1 34)), (1, .ref (g.2.2.1 v1)), (2, .ref (g.2.2.1 v2)), (3, .ref (g.2.2.1 v3)), (6, .int v6), (7, .int v7), (8, .int v8), (9, .int v9)]) hx hb dX6_spell_169 hl (by decide) rfl (fun ls hl => ?_)
      obtain ⟨x171, e171⟩ : ∃ z : Int32, z = v6 + (-1 : Int32) := ⟨_, rfl⟩
      have h := fy_bl_some e171 h
      refine lv_iinc (k := 5) (v := x171) (lv' := [(6, .int x171), (5, .int v7), (0, .ref (g.2.2.1 34)), (1, .ref (g.2.2.1 v1)), (2, .ref (g.2.2.1 v2)), (3, .ref (g.2.2.1 v3)), (7, .int v7), (8, .int v8), (9, .int v9)]) hx hb dX6_spell_171 hl rfl (by rw [e171]; rfl) (by decide) rfl (fun ls hl => ?_)
      refine lv_goto (tgt := 101) hx hb dX6_spell_174 (by decide) ?_
      exact hk101 _ _ _ _ _ _ _ _ _ h w q1 q2 q3 (lv_sub hl [2, 3, 4, 5, 1, 0] rfl)
    · have h := fy_if_f h hc
      refine lv_iload hx hb dX6_spell_131 (lv_at hl 7 rfl) ?_
      refine lv_if_ne (tgt := 167) hx hb dX6_spell_133 (by decide) (fun hc => ?_) (fun hc => ?_)
      · have h := fy_if_f h hc
        refine lv_iload hx hb dX6_spell_167 (lv_at hl 6 rfl) ?_
        refine lv_istore (lv' := [(5, .int v7), (0, .ref (g.2.2.1 34)), (1, .ref (g.2.2.1 v1)), (2, .ref (g.2.2.1 v2)), (3, .ref (g.2.2.1 v3)), (6, .int v6), (7, .int v7), (8, .int v8), (9, .int v9)]) hx hb dX6_spell_169 hl (by decide) rfl (fun ls hl => ?_)
        obtain ⟨x171, e171⟩ : ∃ z : Int32, z = v6 + (-1 : Int32) := ⟨_, rfl⟩
        have h := fy_bl_some e171 h
        refine lv_iinc (k := 5) (v := x171) (lv' := [(6, .int x171), (5, .int v7), (0, .ref (g.2.2.1 34)), (1, .ref (g.2.2.1 v1)), (2, .ref (g.2.2.1 v2)), (3, .ref (g.2.2.1 v3)), (7, .int v7), (8, .int v8), (9, .int v9)]) hx hb dX6_spell_171 hl rfl (by rw [e171]; rfl) (by decide) rfl (fun ls hl => ?_)
        refine lv_goto (tgt := 101) hx hb dX6_spell_174 (by decide) ?_
        exact hk101 _ _ _ _ _ _ _ _ _ h w q1 q2 q3 (lv_sub hl [2, 3, 4, 5, 1, 0] rfl)
      · have h := fy_if_t h hc
        refine lv_aload_n hx hb dX6_spell_136 rfl (lv_at hl 0 rfl) ?_
        refine lv_aload_n hx hb dX6_spell_137 rfl (lv_at hl 1 rfl) ?_
        refine lv_aload_n hx hb dX6_spell_138 rfl (lv_at hl 2 rfl) ?_
        refine lv_iload hx hb dX6_spell_139 (lv_at hl 8 rfl) ?_
        refine lv_iload hx hb dX6_spell_141 (lv_at hl 6 rfl) ?_
        refine lv_iload hx hb dX6_spell_143 (lv_at hl 4 rfl) ?_
        obtain ⟨S145, r145, h145, h⟩ := fy_bp_some h
        refine fy_calI w (fy_runV (As := [.ref (g.2.2.1 v1), .ref (g.2.2.1 v2), .int v9, .int v7, .int v5]) (rest := []) C w (c_X6_markLeading l g q1 q2 h145) (X_o6 X_full (X_i34)) ksX6_74 rfl ⟨Nat.le_of_ble_eq_true rfl, Nat.le_of_ble_eq_true rfl⟩ rfl hl.1 rfl (Nat.le_of_ble_eq_true rfl) ⟨Nat.le_refl _, Nat.le_refl _⟩ dX6_spell_145) (fun H locs w => ?_)
        refine lv_istore (lv' := [(8, .int r145), (0, .ref (g.2.2.1 34)), (1, .ref (g.2.2.1 v1)), (2, .ref (g.2.2.1 v2)), (3, .ref (g.2.2.1 v3)), (5, .int v5), (6, .int v6), (7, .int v7), (9, .int v9)]) hx hb dX6_spell_148 hl (by decide) rfl (fun ls hl => ?_)
        refine lv_iload hx hb dX6_spell_150 (lv_at hl 0 rfl) ?_
        refine lv_if_eq (tgt := 161) hx hb dX6_spell_152 (by decide) (fun hc => ?_) (fun hc => ?_)
        · have h := fy_if_t h hc
          obtain ⟨x161, e161⟩ : ∃ z : Int32, z = v9 + (1 : Int32) := ⟨_, rfl⟩
          have h := fy_bl_some e161 h
          refine lv_iinc (k := 8) (v := x161) (lv' := [(9, .int x161), (8, .int r145), (0, .ref (g.2.2.1 34)), (1, .ref (g.2.2.1 v1)), (2, .ref (g.2.2.1 v2)), (3, .ref (g.2.2.1 v3)), (5, .int v5), (6, .int v6), (7, .int v7)]) hx hb dX6_spell_161 hl rfl (by rw [e161]; rfl) (by decide) rfl (fun ls hl => ?_)
          refine lv_goto (tgt := 122) hx hb dX6_spell_164 (by decide) ?_
          exact ih _ _ _ _ _ _ _ _ _ _ _ _ h w q1 q2 q3 (lv_sub hl [2, 3, 4, 5, 6, 7, 8, 1, 0] rfl)
        · have h := fy_if_f h hc
          refine lv_aload_n hx hb dX6_spell_155 rfl (lv_at hl 4 rfl) ?_
          refine lv_iload hx hb dX6_spell_156 (lv_at hl 8 rfl) ?_
          obtain ⟨S158, h158, h⟩ := fy_bd_some h
          refine fy_calV w (fy_runV (As := [.int v9]) (rest := []) C w (c_X8_add l g q3 h158) (X_o8 X_full q3) ksX6_78 rfl ⟨Nat.le_of_ble_eq_true rfl, Nat.le_of_ble_eq_true rfl⟩ rfl hl.1 rfl (Nat.le_of_ble_eq_true rfl) ⟨Nat.le_refl _, Nat.le_refl _⟩ dX6_spell_158) (fun H locs w => ?_)
          obtain ⟨x161, e161⟩ : ∃ z : Int32, z = v9 + (1 : Int32) := ⟨_, rfl⟩
          have h := fy_bl_some e161 h
          refine lv_iinc (k := 8) (v := x161) (lv' := [(9, .int x161), (8, .int r145), (0, .ref (g.2.2.1 34)), (1, .ref (g.2.2.1 v1)), (2, .ref (g.2.2.1 v2)), (3, .ref (g.2.2.1 v3)), (5, .int v5), (6, .int v6), (7, .int v7)]) hx hb dX6_spell_161 hl rfl (by rw [e161]; rfl) (by decide) rfl (fun ls hl => ?_)
          refine lv_goto (tgt := 122) hx hb dX6_spell_164 (by decide) ?_
          exact ih _ _ _ _ _ _ _ _ _ _ _ _ h w q1 q2 q3 (lv_sub hl [2, 3, 4, 5, 6, 7, 8, 1, 0] rfl)

set_option maxHeartbeats 4000000 in
set_option maxRecDepth 100000 in
theorem t_X6_spell_101 {p : Program} {l : Launch} {e : Env} {s : State} {m : MethodId} {args : Array Value} {below : List Frame} {meth : Method} {c : Code} {g : fy_G} (C : fy_C g X_Y p s m args meth c yX6_spell.cls cX6_spell 10 none) {Sr : fy_S}  : ∀ (fu : Nat) (S : fy_S) (v1 : Nat) (v2 : Nat) (v3 : Nat) (v5 : Int32) (v6 : Int32) (H : Heap) (locs : List Loc) (ls : Array Slot), X6_spell_101 fu S v1 v2 v3 v5 v6 = some Sr → fy_W g X_Y S s H locs → X_is X_Y 7 v1 → X_is X_Y 7 v2 → X_is X_Y 8 v3 → lv_has ls 10 [(0, .ref (g.2.2.1 34)), (1, .ref (g.2.2.1 v1)), (2, .ref (g.2.2.1 v2)), (3, .ref (g.2.2.1 v3)), (5, .int v5), (6, .int v6)] → W p l e (fy_rm 3) s m args below meth c H locs 0 0 (MQ below (fy_QV g X_Y Sr) args s 0 0 (fy_A g X_Y)) (F0 m 101 ls []) := by
  obtain ⟨hx, hb, hr, hts, hown, hlk, hml, hK, hD, hE, hN⟩ := id C
  intro fu
  induction fu with
  | zero => intro S v1 v2 v3 v5 v6 H locs ls h; cases h
  | succ fu ih =>
    intro S v1 v2 v3 v5 v6 H locs ls h w q1 q2 q3 hl
    rw [X6_spell_101] at h
    refine lv_iload hx hb dX6_spell_101 (lv_at hl 5 rfl) ?_
    refine lv_if_lt (tgt := 177) hx hb dX6_spell_103 (by decide) (fun hc => ?_) (fun hc => ?_)
    · have h := fy_if_t h hc
      cases h
      exact fy_retV C w dX6_spell_177
    · have h := fy_if_f h hc
      refine lv_aload_n hx hb dX6_spell_106 rfl (lv_at hl 0 rfl) ?_
      refine lv_iload hx hb dX6_spell_107 (lv_at hl 4 rfl) ?_
      refine lv_iload hx hb dX6_spell_109 (lv_at hl 5 rfl) ?_
      obtain ⟨r111, h111, h⟩ := fy_bd_some h
      refine fy_calI w (fy_runV (As := [.int v5, .int v6]) (rest := []) C w (c_X6_levelBegin l g  h111) (X_o6 X_full (X_i34)) ksX6_71 rfl ⟨Nat.le_of_ble_eq_true rfl, Nat.le_of_ble_eq_true rfl⟩ rfl hl.1 rfl (Nat.le_of_ble_eq_true rfl) ⟨Nat.le_refl _, Nat.le_refl _⟩ dX6_spell_111) (fun H locs w => ?_)
      refine lv_istore (lv' := [(7, .int r111), (0, .ref (g.2.2.1 34)), (1, .ref (g.2.2.1 v1)), (2, .ref (g.2.2.1 v2)), (3, .ref (g.2.2.1 v3)), (5, .int v5), (6, .int v6)]) hx hb dX6_spell_114 hl (by decide) rfl (fun ls hl => ?_)
      refine lv_iconst (v := (0 : Int32)) hx hb dX6_spell_116 (by decide) ?_
      refine lv_istore (lv' := [(8, .int (0 : Int32)), (7, .int r111), (0, .ref (g.2.2.1 34)), (1, .ref (g.2.2.1 v1)), (2, .ref (g.2.2.1 v2)), (3, .ref (g.2.2.1 v3)), (5, .int v5), (6, .int v6)]) hx hb dX6_spell_117 hl (by decide) rfl (fun ls hl => ?_)
      refine lv_iconst (v := (0 : Int32)) hx hb dX6_spell_119 (by decide) ?_
      refine lv_istore (lv' := [(9, .int (0 : Int32)), (8, .int (0 : Int32)), (7, .int r111), (0, .ref (g.2.2.1 34)), (1, .ref (g.2.2.1 v1)), (2, .ref (g.2.2.1 v2)), (3, .ref (g.2.2.1 v3)), (5, .int v5), (6, .int v6)]) hx hb dX6_spell_120 hl (by decide) rfl (fun ls hl => ?_)
      exact t_X6_spell_122 C ih fy_fu _ _ _ _ _ _ _ _ _ _ _ _ h w q1 q2 q3 (lv_sub hl [3, 4, 5, 6, 7, 8, 2, 1, 0] rfl)

set_option maxHeartbeats 4000000 in
set_option maxRecDepth 100000 in
theorem t_X6_spell_83 {p : Program} {l : Launch} {e : Env} {s : State} {m : MethodId} {args : Array Value} {below : List Frame} {meth : Method} {c : Code} {g : fy_G} (C : fy_C g X_Y p s m args meth c yX6_spell.cls cX6_spell 10 none) {Sr : fy_S}  : ∀ (S : fy_S) (v1 : Nat) (v2 : Nat) (v3 : Nat) (v4 : Int32) (H : Heap) (locs : List Loc) (ls : Array Slot), X6_spell_83 S v1 v2 v3 v4 = some Sr → fy_W g X_Y S s H locs → X_is X_Y 7 v1 → X_is X_Y 7 v2 → X_is X_Y 8 v3 → lv_has ls 10 [(0, .ref (g.2.2.1 34)), (1, .ref (g.2.2.1 v1)), (2, .ref (g.2.2.1 v2)), (3, .ref (g.2.2.1 v3)), (4, .int v4)] → W p l e (fy_rm 3) s m args below meth c H locs 0 0 (MQ below (fy_QV g X_Y Sr) args s 0 0 (fy_A g X_Y)) (F0 m 83 ls []) := by
  obtain ⟨hx, hb, hr, hts, hown, hlk, hml, hK, hD, hE, hN⟩ := id C
  intro S v1 v2 v3 v4 H locs ls h w q1 q2 q3 hl
  rw [X6_spell_83] at h
  refine lv_aload_n hx hb dX6_spell_83 rfl (lv_at hl 0 rfl) ?_
  refine lv_aload_n hx hb dX6_spell_84 rfl (lv_at hl 0 rfl) ?_
  refine gfX6_26 X_full C w (X_i34) dX6_spell_85 ?_
  refine lv_iload hx hb dX6_spell_88 (lv_at hl 4 rfl) ?_
  obtain ⟨r90, h90, h⟩ := fy_bd_some h
  refine fy_calI w (fy_runV (As := [.int (S.1 34 4), .int v4]) (rest := []) C w (c_X6_levelBegin l g  h90) (X_o6 X_full (X_i34)) ksX6_71 rfl ⟨Nat.le_of_ble_eq_true rfl, Nat.le_of_ble_eq_true rfl⟩ rfl hl.1 rfl (Nat.le_of_ble_eq_true rfl) ⟨Nat.le_refl _, Nat.le_refl _⟩ dX6_spell_90) (fun H locs w => ?_)
  refine lv_istore (lv' := [(5, .int r90), (0, .ref (g.2.2.1 34)), (1, .ref (g.2.2.1 v1)), (2, .ref (g.2.2.1 v2)), (3, .ref (g.2.2.1 v3)), (4, .int v4)]) hx hb dX6_spell_93 hl (by decide) rfl (fun ls hl => ?_)
  refine lv_iload hx hb dX6_spell_95 (lv_at hl 5 rfl) ?_
  refine lv_iconst (v := (1 : Int32)) hx hb dX6_spell_97 (by decide) ?_
  refine lv_isub hx hb dX6_spell_98 ?_
  refine lv_topi (fun x99 e99 => ?_)
  have h := fy_bl_some e99 h
  refine lv_istore (lv' := [(6, .int x99), (5, .int r90), (0, .ref (g.2.2.1 34)), (1, .ref (g.2.2.1 v1)), (2, .ref (g.2.2.1 v2)), (3, .ref (g.2.2.1 v3)), (4, .int v4)]) hx hb dX6_spell_99 hl (by decide) rfl (fun ls hl => ?_)
  exact t_X6_spell_101 C fy_fu _ _ _ _ _ _ _ _ _ h w q1 q2 q3 (lv_sub hl [2, 3, 4, 5, 1, 0] rfl)

set_option maxHeartbeats 4000000 in
set_option maxRecDepth 100000 in
theorem t_X6_spell_27 {p : Program} {l : Launch} {e : Env} {s : State} {m : MethodId} {args : Array Value} {below : List Frame} {meth : Method} {c : Code} {g : fy_G} (C : fy_C g X_Y p s m args meth c yX6_spell.cls cX6_spell 10 none) {Sr : fy_S}  : ∀ (fu : Nat) (S : fy_S) (v1 : Nat) (v2 : Nat) (v3 : Nat) (v4 : Int32) (v5 : Int32) (H : Heap) (locs : List Loc) (ls : Array Slot), X6_spell_27 fu S v1 v2 v3 v4 v5 = some Sr → fy_W g X_Y S s H locs → X_is X_Y 7 v1 → X_is X_Y 7 v2 → X_is X_Y 8 v3 → lv_has ls 10 [(0, .ref (g.2.2.1 34)), (1, .ref (g.2.2.1 v1)), (2, .ref (g.2.2.1 v2)), (3, .ref (g.2.2.1 v3)), (4, .int v4), (5, .int v5)] → W p l e (fy_rm 3) s m args below meth c H locs 0 0 (MQ below (fy_QV g X_Y Sr) args s 0 0 (fy_A g X_Y)) (F0 m 27 ls []) := by
  obtain ⟨hx, hb, hr, hts, hown, hlk, hml, hK, hD, hE, hN⟩ := id C
  intro fu
  induction fu with
  | zero => intro S v1 v2 v3 v4 v5 H locs ls h; cases h
  | succ fu ih =>
    intro S v1 v2 v3 v4 v5 H locs ls h w q1 q2 q3 hl
    rw [X6_spell_27] at h
    refine lv_iload hx hb dX6_spell_27 (lv_at hl 5 rfl) ?_
    refine lv_aload_n hx hb dX6_spell_29 rfl (lv_at hl 0 rfl) ?_
    refine gfX6_22 X_full C w (X_i34) dX6_spell_30 ?_
    refine lv_icmp_ge (tgt := 83) hx hb dX6_spell_33 (by decide) (fun hc => ?_) (fun hc => ?_)
    · have h := fy_if_t h hc
      exact t_X6_spell_83 C _ _ _ _ _ _ _ _ h w q1 q2 q3 (lv_sub hl [0, 1, 2, 3, 4] rfl)
    · have h := fy_if_f h hc
      refine lv_aload_n hx hb dX6_spell_36 rfl (lv_at hl 0 rfl) ?_
      refine gfX6_15 X_full C w (X_i34) dX6_spell_37 ?_
      refine lv_aload_n hx hb dX6_spell_40 rfl (lv_at hl 0 rfl) ?_
      refine gfX6_9 X_full C w (X_i34) dX6_spell_41 ?_
      refine lv_iload hx hb dX6_spell_44 (lv_at hl 5 rfl) ?_
      obtain ⟨g46, h⟩ := fy_gd_some h
      refine fy_sald C w X_a35 g46 dX6_spell_46 ?_
      obtain ⟨g47, h⟩ := fy_gd_some h
      refine fy_sald C w X_a36 g47 dX6_spell_47 ?_
      refine lv_iload hx hb dX6_spell_48 (lv_at hl 4 rfl) ?_
      refine lv_icmp_ne (tgt := 83) hx hb dX6_spell_50 (by decide) (fun hc => ?_) (fun hc => ?_)
      · have h := fy_if_f h hc
        exact t_X6_spell_83 C _ _ _ _ _ _ _ _ h w q1 q2 q3 (lv_sub hl [0, 1, 2, 3, 4] rfl)
      · have h := fy_if_t h hc
        refine lv_aload_n hx hb dX6_spell_53 rfl (lv_at hl 0 rfl) ?_
        refine gfX6_18 X_full C w (X_i34) dX6_spell_54 ?_
        refine lv_aload_n hx hb dX6_spell_57 rfl (lv_at hl 0 rfl) ?_
        refine gfX6_9 X_full C w (X_i34) dX6_spell_58 ?_
        refine lv_iload hx hb dX6_spell_61 (lv_at hl 5 rfl) ?_
        obtain ⟨g63, h⟩ := fy_gd_some h
        refine fy_sald C w X_a35 g63 dX6_spell_63 ?_
        refine lv_aload_n hx hb dX6_spell_64 rfl (lv_at hl 1 rfl) ?_
        refine lv_aload_n hx hb dX6_spell_65 rfl (lv_at hl 2 rfl) ?_
        refine lv_aload_n hx hb dX6_spell_66 rfl (lv_at hl 0 rfl) ?_
        refine gfX6_9 X_full C w (X_i34) dX6_spell_67 ?_
        refine lv_iload hx hb dX6_spell_70 (lv_at hl 5 rfl) ?_
        obtain ⟨g72, h⟩ := fy_gd_some h
        refine fy_sald C w X_a35 g72 dX6_spell_72 ?_
        obtain ⟨r73, h73, h⟩ := fy_bd_some h
        refine fy_calI w (fy_runS (As := [.ref (g.2.2.1 v1), .ref (g.2.2.1 v2), .int (S.1 35 v5.toNatClampNeg)]) (rest := [.int (S.1 35 v5.toNatClampNeg), .ref (g.2.2.1 37)]) C w (c_X6_differs l g q1 q2 h73) ksX6_47 ⟨Nat.le_of_ble_eq_true rfl, Nat.le_of_ble_eq_true rfl⟩ rfl hl.1 rfl (Nat.le_of_ble_eq_true rfl) ⟨Nat.le_refl _, Nat.le_refl _⟩ dX6_spell_73) (fun H locs w => ?_)
        obtain ⟨g76, h⟩ := fy_gd_some h
        refine fy_zast C w X_a37 g76 dX6_spell_76 (fun H locs w => ?_)
        obtain ⟨S76, e76⟩ : ∃ z, z = fy_sI S 37 (S.1 35 v5.toNatClampNeg).toNatClampNeg (vp_nar .boolean r73) := ⟨_, rfl⟩
        have h := fy_bl_some e76 h
        rw [← e76] at w
        obtain ⟨x77, e77⟩ : ∃ z : Int32, z = v5 + (1 : Int32) := ⟨_, rfl⟩
        have h := fy_bl_some e77 h
        refine lv_iinc (k := 5) (v := x77) (lv' := [(5, .int x77), (0, .ref (g.2.2.1 34)), (1, .ref (g.2.2.1 v1)), (2, .ref (g.2.2.1 v2)), (3, .ref (g.2.2.1 v3)), (4, .int v4)]) hx hb dX6_spell_77 hl rfl (by rw [e77]; rfl) (by decide) rfl (fun ls hl => ?_)
        refine lv_goto (tgt := 27) hx hb dX6_spell_80 (by decide) ?_
        exact ih _ _ _ _ _ _ _ _ _ h w q1 q2 q3 (lv_sub hl [1, 2, 3, 4, 5, 0] rfl)

set_option maxHeartbeats 4000000 in
set_option maxRecDepth 100000 in
theorem t_X6_spell {p : Program} {l : Launch} {e : Env} {s : State} {m : MethodId} {args : Array Value} {below : List Frame} {meth : Method} {c : Code} {g : fy_G} (C : fy_C g X_Y p s m args meth c yX6_spell.cls cX6_spell 10 none) {S : fy_S} {v1 : Nat} {v2 : Nat} {v3 : Nat} {Sr : fy_S}  (q1 : X_is X_Y 7 v1) (q2 : X_is X_Y 7 v2) (q3 : X_is X_Y 8 v3) {H : Heap} {locs : List Loc} {ls : Array Slot} (h : X6_spell S v1 v2 v3 = some Sr) (w : fy_W g X_Y S s H locs) (hl : lv_has ls 10 [(0, .ref (g.2.2.1 34)), (1, .ref (g.2.2.1 v1)), (2, .ref (g.2.2.1 v2)), (3, .ref (g.2.2.1 v3))]) : W p l e (fy_rm 3) s m args below meth c H locs 0 0 (MQ below (fy_QV g X_Y Sr) args s 0 0 (fy_A g X_Y)) (F0 m 0 ls []) := by
  obtain ⟨hx, hb, hr, hts, hown, hlk, hml, hK, hD, hE, hN⟩ := id C
  rw [X6_spell] at h
  refine lv_aload_n hx hb dX6_spell_0 rfl (lv_at hl 3 rfl) ?_
  refine lv_iconst (v := (0 : Int32)) hx hb dX6_spell_1 (by decide) ?_
  refine pfX6_66 X_full C w q3 dX6_spell_2 (fun H locs w => ?_)
  obtain ⟨S2, e2⟩ : ∃ z, z = fy_sI S v3 1 (0 : Int32) := ⟨_, rfl⟩
  have h := fy_bl_some e2 h
  rw [← e2] at w
  refine lv_aload_n hx hb dX6_spell_5 rfl (lv_at hl 0 rfl) ?_
  refine gfX6_15 X_full C w (X_i34) dX6_spell_6 ?_
  refine lv_aload_n hx hb dX6_spell_9 rfl (lv_at hl 0 rfl) ?_
  refine gfX6_9 X_full C w (X_i34) dX6_spell_10 ?_
  refine lv_aload_n hx hb dX6_spell_13 rfl (lv_at hl 0 rfl) ?_
  refine gfX6_26 X_full C w (X_i34) dX6_spell_14 ?_
  obtain ⟨g17, h⟩ := fy_gd_some h
  refine fy_sald C w X_a35 g17 dX6_spell_17 ?_
  obtain ⟨g18, h⟩ := fy_gd_some h
  refine fy_sald C w X_a36 g18 dX6_spell_18 ?_
  refine lv_topi (fun x19 e19 => ?_)
  have h := fy_bl_some e19 h
  refine lv_istore (lv' := [(4, .int x19), (0, .ref (g.2.2.1 34)), (1, .ref (g.2.2.1 v1)), (2, .ref (g.2.2.1 v2)), (3, .ref (g.2.2.1 v3))]) hx hb dX6_spell_19 hl (by decide) rfl (fun ls hl => ?_)
  refine lv_aload_n hx hb dX6_spell_21 rfl (lv_at hl 1 rfl) ?_
  refine gfX6_26 X_full C w (X_i34) dX6_spell_22 ?_
  refine lv_topi (fun x25 e25 => ?_)
  have h := fy_bl_some e25 h
  refine lv_istore (lv' := [(5, .int x25), (4, .int x19), (0, .ref (g.2.2.1 34)), (1, .ref (g.2.2.1 v1)), (2, .ref (g.2.2.1 v2)), (3, .ref (g.2.2.1 v3))]) hx hb dX6_spell_25 hl (by decide) rfl (fun ls hl => ?_)
  exact t_X6_spell_27 C fy_fu _ _ _ _ _ _ _ _ _ h w q1 q2 q3 (lv_sub hl [2, 3, 4, 5, 1, 0] rfl)

set_option maxHeartbeats 4000000 in
set_option maxRecDepth 100000 in
theorem c_X6_spell (l : Launch) (g : fy_G) {S : fy_S} {v1 : Nat} {v2 : Nat} {v3 : Nat} {Sr : fy_S}  (q1 : X_is X_Y 7 v1) (q2 : X_is X_Y 7 v2) (q3 : X_is X_Y 8 v3) (h : X6_spell S v1 v2 v3 = some Sr) : fy_M g X_Y l yX6_spell cX6_spell 10 none (fy_rm 3) [.ref (g.2.2.1 34), .ref (g.2.2.1 v1), .ref (g.2.2.1 v2), .ref (g.2.2.1 v3)] S (fy_QV g X_Y Sr) :=
  fy_entry (by decide +kernel) (Nat.le_of_ble_eq_true rfl) (fun p e s m args below meth c ls C w hl => t_X6_spell C q1 q2 q3 h w hl)
end
