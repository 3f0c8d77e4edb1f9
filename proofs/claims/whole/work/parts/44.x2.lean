noncomputable section
def X9_property (S : fy_S) (v1 : Int32) (v2 : Int32) : Option (Int32) :=
  fy_bd (X9_automatonIn S v1) fun r2 =>
  match r2 with
  | none => (
    some (-2 : Int32))
  | some r2_ => (
    fy_bd (X9_isWithin S v2 (0 : Int32) (5 : Int32)) fun r13 =>
    if r13 = 0 then (
      some (-2 : Int32))
    else (
      if v2 = (0 : Int32) then (
        some (S.1 r2_ 3))
      else (
        if v2 = (1 : Int32) then (
          some (S.1 r2_ 4))
        else (
          if v2 = (2 : Int32) then (
            some (S.1 r2_ 5))
          else (
            fy_bd (X0_hasLetter S r2_ (v2 - (3 : Int32))) fun r67 =>
            if r67 = 0 then (
              some (-1 : Int32))
            else (
              fy_gd (fy_ix (v2 - (3 : Int32)) 3) <|
              some (S.1 (r2_ + 1) (v2 - (3 : Int32)).toNatClampNeg)))))))
set_option maxHeartbeats 4000000 in
set_option maxRecDepth 100000 in
theorem t_X9_property {p : Program} {l : Launch} {e : Env} {s : State} {m : MethodId} {args : Array Value} {below : List Frame} {meth : Method} {c : Code} {g : fy_G} (C : fy_C g X_Y p s m args meth c yX9_property.cls cX9_property 4 (some .int)) {S : fy_S} {v1 : Int32} {v2 : Int32} {rr : Int32}  {H : Heap} {locs : List Loc} {ls : Array Slot} (h : X9_property S v1 v2 = some rr) (w : fy_W g X_Y S s H locs) (hl : lv_has ls 4 [(0, .ref (g.2.2.1 0)), (1, .int v1), (2, .int v2)]) : W p l e (fy_rm 1) s m args below meth c H locs 0 0 (MQ below (fy_QI g X_Y rr S) args s 0 0 (fy_A g X_Y)) (F0 m 0 ls []) := by
  obtain ⟨hx, hb, hr, hts, hown, hlk, hml, hK, hD, hE, hN⟩ := id C
  rw [X9_property] at h
  refine lv_aload_n hx hb dX9_property_0 rfl (lv_at hl 0 rfl) ?_
  refine lv_iload_n hx hb dX9_property_1 rfl (lv_at hl 1 rfl) ?_
  obtain ⟨r2, h2, h⟩ := fy_bd_some h
  refine fy_calE w (fy_runV (As := [.int v1]) (rest := []) C w (c_X9_automatonIn l g  h2) (X_o9 X_full (X_i0)) ksX9_88 rfl ⟨Nat.le_of_ble_eq_true rfl, Nat.le_of_ble_eq_true rfl⟩ rfl hl.1 rfl (Nat.le_of_ble_eq_true rfl) ⟨Nat.le_refl _, Nat.le_refl _⟩ dX9_property_2) (fun H locs w => ?_)
  refine fy_astoreO_n (lv' := [(3, va_re g.2.2.1 r2), (0, .ref (g.2.2.1 0)), (1, .int v1), (2, .int v2)]) hx hb dX9_property_5 rfl hl (by decide) rfl (fun ls hl => ?_)
  cases r2 with
  | none =>
    dsimp only at h
    refine lv_aload_nN hx hb dX9_property_6 rfl (lv_at hl 0 rfl) ?_
    refine lv_ifnullN (tgt := 19) hx hb dX9_property_7 (by decide) ?_
    refine lv_bipush (v := (-2 : Int32)) hx hb dX9_property_19 (by decide) ?_
    cases h
    exact fy_retI C w dX9_property_21
  | some r2_ =>
    dsimp only at h
    refine lv_aload_n hx hb dX9_property_6 rfl (lv_at hl 0 rfl) ?_
    refine lv_ifnull hx hb dX9_property_7 ?_
    refine lv_iload_n hx hb dX9_property_10 rfl (lv_at hl 3 rfl) ?_
    refine lv_iconst (v := (0 : Int32)) hx hb dX9_property_11 (by decide) ?_
    refine lv_iconst (v := (5 : Int32)) hx hb dX9_property_12 (by decide) ?_
    obtain ⟨r13, h13, h⟩ := fy_bd_some h
    refine fy_calI w (fy_runS (As := [.int v2, .int (0 : Int32), .int (5 : Int32)]) (rest := []) C w (c_X9_isWithin l g X_full  h13) ksX9_92 ⟨Nat.le_of_ble_eq_true rfl, Nat.le_of_ble_eq_true rfl⟩ rfl hl.1 rfl (Nat.le_of_ble_eq_true rfl) ⟨Nat.le_refl _, Nat.le_refl _⟩ dX9_property_13) (fun H locs w => ?_)
    refine lv_if_ne (tgt := 22) hx hb dX9_property_16 (by decide) (fun hc => ?_) (fun hc => ?_)
    · have h := fy_if_f h hc
      refine lv_iload_n hx hb dX9_property_22 rfl (lv_at hl 3 rfl) ?_
      by_cases hs0 : v2 = (0 : Int32)
      · have h := fy_if_t h hs0
        refine lv_tableIn (tgt := 48) (off := 25) hx hb dX9_property_23 (by rw [hs0]; decide) (by rw [hs0]; decide) (by rw [hs0]; decide) (by decide) ?_
        refine lv_aload_n hx hb dX9_property_48 rfl (lv_at hl 0 rfl) ?_
        refine gfX9_96 X_full C w (cls_X9_automatonIn  h2) dX9_property_49 ?_
        cases h
        exact fy_retI C w dX9_property_52
      · have h := fy_if_f h hs0
        by_cases hs1 : v2 = (1 : Int32)
        · have h := fy_if_t h hs1
          refine lv_tableIn (tgt := 53) (off := 30) hx hb dX9_property_23 (by rw [hs1]; decide) (by rw [hs1]; decide) (by rw [hs1]; decide) (by decide) ?_
          refine lv_aload_n hx hb dX9_property_53 rfl (lv_at hl 0 rfl) ?_
          refine gfX9_128 X_full C w (cls_X9_automatonIn  h2) dX9_property_54 ?_
          cases h
          exact fy_retI C w dX9_property_57
        · have h := fy_if_f h hs1
          by_cases hs2 : v2 = (2 : Int32)
          · have h := fy_if_t h hs2
            refine lv_tableIn (tgt := 58) (off := 35) hx hb dX9_property_23 (by rw [hs2]; decide) (by rw [hs2]; decide) (by rw [hs2]; decide) (by decide) ?_
            refine lv_aload_n hx hb dX9_property_58 rfl (lv_at hl 0 rfl) ?_
            refine gfX9_107 X_full C w (cls_X9_automatonIn  h2) dX9_property_59 ?_
            cases h
            exact fy_retI C w dX9_property_62
          · have h := fy_if_f h hs2
            refine lv_tableOut (tgt := 63) hx hb dX9_property_23 (fy_sw3 hs0 hs1 hs2) (by decide) ?_
            refine lv_aload_n hx hb dX9_property_63 rfl (lv_at hl 0 rfl) ?_
            refine lv_iload_n hx hb dX9_property_64 rfl (lv_at hl 3 rfl) ?_
            refine lv_iconst (v := (3 : Int32)) hx hb dX9_property_65 (by decide) ?_
            refine lv_isub hx hb dX9_property_66 ?_
            obtain ⟨r67, h67, h⟩ := fy_bd_some h
            refine fy_calI w (fy_runV (As := [.int (v2 - (3 : Int32))]) (rest := []) C w (c_X0_hasLetter l g X_full (cls_X9_automatonIn  h2) h67) (X_o0 X_full (cls_X9_automatonIn  h2)) ksX9_110 rfl ⟨Nat.le_of_ble_eq_true rfl, Nat.le_of_ble_eq_true rfl⟩ rfl hl.1 rfl (Nat.le_of_ble_eq_true rfl) ⟨Nat.le_refl _, Nat.le_refl _⟩ dX9_property_67) (fun H locs w => ?_)
            refine lv_if_eq (tgt := 84) hx hb dX9_property_70 (by decide) (fun hc => ?_) (fun hc => ?_)
            · have h := fy_if_t h hc
              refine lv_iconst (v := (-1 : Int32)) hx hb dX9_property_84 (by decide) ?_
              cases h
              exact fy_retI C w dX9_property_85
            · have h := fy_if_f h hc
              refine lv_aload_n hx hb dX9_property_73 rfl (lv_at hl 0 rfl) ?_
              refine gfX9_113 X_full C w (cls_X9_automatonIn  h2) dX9_property_74 ?_
              refine lv_iload_n hx hb dX9_property_77 rfl (lv_at hl 3 rfl) ?_
              refine lv_iconst (v := (3 : Int32)) hx hb dX9_property_78 (by decide) ?_
              refine lv_isub hx hb dX9_property_79 ?_
              obtain ⟨g80, h⟩ := fy_gd_some h
              refine fy_iald C w (X_f0_weights X_full (cls_X9_automatonIn  h2)) g80 dX9_property_80 ?_
              refine lv_goto (tgt := 85) hx hb dX9_property_81 (by decide) ?_
              cases h
              exact fy_retI C w dX9_property_85
    · have h := fy_if_t h hc
      refine lv_bipush (v := (-2 : Int32)) hx hb dX9_property_19 (by decide) ?_
      cases h
      exact fy_retI C w dX9_property_21

set_option maxHeartbeats 4000000 in
set_option maxRecDepth 100000 in
theorem c_X9_property (l : Launch) (g : fy_G) {S : fy_S} {v1 : Int32} {v2 : Int32} {rr : Int32}  (h : X9_property S v1 v2 = some rr) : fy_M g X_Y l yX9_property cX9_property 4 (some .int) (fy_rm 1) [.ref (g.2.2.1 0), .int v1, .int v2] S (fy_QI g X_Y rr S) :=
  fy_entry (by decide +kernel) (Nat.le_of_ble_eq_true rfl) (fun p e s m args below meth c ls C w hl => t_X9_property C  h w hl)
def X2_nodeAt (S : fy_S) (v0 : Nat) (v1 : Int32) : Option (Int32) :=
  if v1 < 0 then (
    some (7 : Int32))
  else (
    if (S.1 v0 1) ≤ v1 then (
      some (7 : Int32))
    else (
      fy_gd (fy_ix v1 40) <|
      some (S.1 (v0 + 1) v1.toNatClampNeg)))
set_option maxHeartbeats 4000000 in
set_option maxRecDepth 100000 in
theorem t_X2_nodeAt {p : Program} {l : Launch} {e : Env} {s : State} {m : MethodId} {args : Array Value} {below : List Frame} {meth : Method} {c : Code} {g : fy_G} {y : fy_Y} (C : fy_C g y p s m args meth c yX2_nodeAt.cls cX2_nodeAt 2 (some .int)) (hcl : X_clo y) {S : fy_S} {v0 : Nat} {v1 : Int32} {rr : Int32} (q0 : X_is y 2 v0) {H : Heap} {locs : List Loc} {ls : Array Slot} (h : X2_nodeAt S v0 v1 = some rr) (w : fy_W g y S s H locs) (hl : lv_has ls 2 [(0, .ref (g.2.2.1 v0)), (1, .int v1)]) : W p l e (fy_rm 0) s m args below meth c H locs 0 0 (MQ below (fy_QI g y rr S) args s 0 0 (fy_A g y)) (F0 m 0 ls []) := by
  obtain ⟨hx, hb, hr, hts, hown, hlk, hml, hK, hD, hE, hN⟩ := id C
  rw [X2_nodeAt] at h
  refine lv_iload_n hx hb dX2_nodeAt_0 rfl (lv_at hl 1 rfl) ?_
  refine lv_if_lt (tgt := 21) hx hb dX2_nodeAt_1 (by decide) (fun hc => ?_) (fun hc => ?_)
  · have h := fy_if_t h hc
    refine lv_bipush (v := (7 : Int32)) hx hb dX2_nodeAt_21 (by decide) ?_
    cases h
    exact fy_retI C w dX2_nodeAt_23
  · have h := fy_if_f h hc
    refine lv_iload_n hx hb dX2_nodeAt_4 rfl (lv_at hl 1 rfl) ?_
    refine lv_aload_n hx hb dX2_nodeAt_5 rfl (lv_at hl 0 rfl) ?_
    refine gfX2_18 hcl C w q0 dX2_nodeAt_6 ?_
    refine lv_icmp_ge (tgt := 21) hx hb dX2_nodeAt_9 (by decide) (fun hc => ?_) (fun hc => ?_)
    · have h := fy_if_t h hc
      refine lv_bipush (v := (7 : Int32)) hx hb dX2_nodeAt_21 (by decide) ?_
      cases h
      exact fy_retI C w dX2_nodeAt_23
    · have h := fy_if_f h hc
      refine lv_aload_n hx hb dX2_nodeAt_12 rfl (lv_at hl 0 rfl) ?_
      refine gfX2_9 hcl C w q0 dX2_nodeAt_13 ?_
      refine lv_iload_n hx hb dX2_nodeAt_16 rfl (lv_at hl 1 rfl) ?_
      obtain ⟨g17, h⟩ := fy_gd_some h
      refine fy_bald C w (X_f2_nodes hcl q0) g17 dX2_nodeAt_17 ?_
      refine lv_goto (tgt := 23) hx hb dX2_nodeAt_18 (by decide) ?_
      cases h
      exact fy_retI C w dX2_nodeAt_23

set_option maxHeartbeats 4000000 in
set_option maxRecDepth 100000 in
theorem c_X2_nodeAt (l : Launch) (g : fy_G) {y : fy_Y} (hcl : X_clo y) {S : fy_S} {v0 : Nat} {v1 : Int32} {rr : Int32} (q0 : X_is y 2 v0) (h : X2_nodeAt S v0 v1 = some rr) : fy_M g y l yX2_nodeAt cX2_nodeAt 2 (some .int) (fy_rm 0) [.ref (g.2.2.1 v0), .int v1] S (fy_QI g y rr S) :=
  fy_entry (by decide +kernel) (Nat.le_of_ble_eq_true rfl) (fun p e s m args below meth c ls C w hl => t_X2_nodeAt C hcl q0 h w hl)
def X3_insert_27 : Nat → fy_S → Int32 → Int32 → Int32 → Option (fy_S)
  | 0, _, _, _, _ => none
  | fu + 1, S, v1, v2, v3 =>
    if v3 ≤ v1 then (
      fy_gd (fy_ix v1 120) <|
      fy_bl (fy_sI S 9 v1.toNatClampNeg (vp_nar .char v2)) fun S58 =>
      fy_bl (fy_sI S58 8 1 ((S58.1 8 1) + (1 : Int32))) fun S66 =>
      some S66)
    else (
      fy_gd (fy_ix (v3 - (1 : Int32)) 120) <|
      fy_gd (fy_ix v3 120) <|
      fy_bl (fy_sI S 9 v3.toNatClampNeg (vp_nar .char (S.1 9 (v3 - (1 : Int32)).toNatClampNeg))) fun S45 =>
      fy_bl (v3 + (-1 : Int32)) fun x46 =>
      X3_insert_27 fu S45 v1 v2 x46)
def X3_insert (S : fy_S) (v1 : Int32) (v2 : Int32) : Option (fy_S) :=
  if v1 < 0 then (
    some S)
  else (
    if (S.1 8 1) < v1 then (
      some S)
    else (
      if (S.1 8 1) < (120 : Int32) then (
        fy_bl (S.1 8 1) fun x26 =>
        X3_insert_27 fy_fu S v1 v2 x26)
      else (
        some S)))
set_option maxHeartbeats 4000000 in
set_option maxRecDepth 100000 in
theorem t_X3_insert_27 {p : Program} {l : Launch} {e : Env} {s : State} {m : MethodId} {args : Array Value} {below : List Frame} {meth : Method} {c : Code} {g : fy_G} (C : fy_C g X_Y p s m args meth c yX3_insert.cls cX3_insert 4 none) {Sr : fy_S}  : ∀ (fu : Nat) (S : fy_S) (v1 : Int32) (v2 : Int32) (v3 : Int32) (H : Heap) (locs : List Loc) (ls : Array Slot), X3_insert_27 fu S v1 v2 v3 = some Sr → fy_W g X_Y S s H locs → lv_has ls 4 [(0, .ref (g.2.2.1 8)), (1, .int v1), (2, .int v2), (3, .int v3)] → W p l e (fy_rm 0) s m args below meth c H locs 0 0 (MQ below (fy_QV g X_Y Sr) args s 0 0 (fy_A g X_Y)) (F0 m 27 ls []) := by
  obtain ⟨hx, hb, hr, hts, hown, hlk, hml, hK, hD, hE, hN⟩ := id C
  intro fu
  induction fu with
  | zero => intro S v1 v2 v3 H locs ls h; cases h
  | succ fu ih =>
    intro S v1 v2 v3 H locs ls h w  hl
    rw [X3_insert_27] at h
    refine lv_iload_n hx hb dX3_insert_27 rfl (lv_at hl 3 rfl) ?_
    refine lv_iload_n hx hb dX3_insert_28 rfl (lv_at hl 1 rfl) ?_
    refine lv_icmp_le (tgt := 52) hx hb dX3_insert_29 (by decide) (fun hc => ?_) (fun hc => ?_)
    · have h := fy_if_t h hc
      refine lv_aload_n hx hb dX3_insert_52 rfl (lv_at hl 0 rfl) ?_
      refine gfX3_9 X_full C w (X_i8) dX3_insert_53 ?_
      refine lv_iload_n hx hb dX3_insert_56 rfl (lv_at hl 1 rfl) ?_
      refine lv_iload_n hx hb dX3_insert_57 rfl (lv_at hl 2 rfl) ?_
      obtain ⟨g58, h⟩ := fy_gd_some h
      refine fy_cast C w X_a9 g58 dX3_insert_58 (fun H locs w => ?_)
      obtain ⟨S58, e58⟩ : ∃ z, z = fy_sI S 9 v1.toNatClampNeg (vp_nar .char v2) := ⟨_, rfl⟩
      have h := fy_bl_some e58 h
      rw [← e58] at w
      refine lv_aload_n hx hb dX3_insert_59 rfl (lv_at hl 0 rfl) ?_
      refine lv_dup hx hb dX3_insert_60 rfl ?_
      refine gfX3_15 X_full C w (X_i8) dX3_insert_61 ?_
      refine lv_iconst (v := (1 : Int32)) hx hb dX3_insert_64 (by decide) ?_
      refine lv_iadd hx hb dX3_insert_65 ?_
      refine pfX3_15 X_full C w (X_i8) dX3_insert_66 (fun H locs w => ?_)
      obtain ⟨S66, e66⟩ : ∃ z, z = fy_sI S58 8 1 ((S58.1 8 1) + (1 : Int32)) := ⟨_, rfl⟩
      have h := fy_bl_some e66 h
      rw [← e66] at w
      cases h
      exact fy_retV C w dX3_insert_69
    · have h := fy_if_f h hc
      refine lv_aload_n hx hb dX3_insert_32 rfl (lv_at hl 0 rfl) ?_
      refine gfX3_9 X_full C w (X_i8) dX3_insert_33 ?_
      refine lv_iload_n hx hb dX3_insert_36 rfl (lv_at hl 3 rfl) ?_
      refine lv_aload_n hx hb dX3_insert_37 rfl (lv_at hl 0 rfl) ?_
      refine gfX3_9 X_full C w (X_i8) dX3_insert_38 ?_
      refine lv_iload_n hx hb dX3_insert_41 rfl (lv_at hl 3 rfl) ?_
      refine lv_iconst (v := (1 : Int32)) hx hb dX3_insert_42 (by decide) ?_
      refine lv_isub hx hb dX3_insert_43 ?_
      obtain ⟨g44, h⟩ := fy_gd_some h
      refine fy_cald C w X_a9 g44 dX3_insert_44 ?_
      obtain ⟨g45, h⟩ := fy_gd_some h
      refine fy_cast C w X_a9 g45 dX3_insert_45 (fun H locs w => ?_)
      obtain ⟨S45, e45⟩ : ∃ z, z = fy_sI S 9 v3.toNatClampNeg (vp_nar .char (S.1 9 (v3 - (1 : Int32)).toNatClampNeg)) := ⟨_, rfl⟩
      have h := fy_bl_some e45 h
      rw [← e45] at w
      obtain ⟨x46, e46⟩ : ∃ z : Int32, z = v3 + (-1 : Int32) := ⟨_, rfl⟩
      have h := fy_bl_some e46 h
      refine lv_iinc (k := 3) (v := x46) (lv' := [(3, .int x46), (0, .ref (g.2.2.1 8)), (1, .int v1), (2, .int v2)]) hx hb dX3_insert_46 hl rfl (by rw [e46]; rfl) (by decide) rfl (fun ls hl => ?_)
      refine lv_goto (tgt := 27) hx hb dX3_insert_49 (by decide) ?_
      exact ih _ _ _ _ _ _ _ h w (lv_sub hl [1, 2, 3, 0] rfl)

set_option maxHeartbeats 4000000 in
set_option maxRecDepth 100000 in
theorem t_X3_insert {p : Program} {l : Launch} {e : Env} {s : State} {m : MethodId} {args : Array Value} {below : List Frame} {meth : Method} {c : Code} {g : fy_G} (C : fy_C g X_Y p s m args meth c yX3_insert.cls cX3_insert 4 none) {S : fy_S} {v1 : Int32} {v2 : Int32} {Sr : fy_S}   {H : Heap} {locs : List Loc} {ls : Array Slot} (h : X3_insert S v1 v2 = some Sr) (w : fy_W g X_Y S s H locs) (hl : lv_has ls 4 [(0, .ref (g.2.2.1 8)), (1, .int v1), (2, .int v2)]) : W p l e (fy_rm 0) s m args below meth c H locs 0 0 (MQ below (fy_QV g X_Y Sr) args s 0 0 (fy_A g X_Y)) (F0 m 0 ls []) := by
  obtain ⟨hx, hb, hr, hts, hown, hlk, hml, hK, hD, hE, hN⟩ := id C
  rw [X3_insert] at h
  refine lv_iload_n hx hb dX3_insert_0 rfl (lv_at hl 1 rfl) ?_
  refine lv_if_lt (tgt := 21) hx hb dX3_insert_1 (by decide) (fun hc => ?_) (fun hc => ?_)
  · have h := fy_if_t h hc
    cases h
    exact fy_retV C w dX3_insert_21
  · have h := fy_if_f h hc
    refine lv_iload_n hx hb dX3_insert_4 rfl (lv_at hl 1 rfl) ?_
    refine lv_aload_n hx hb dX3_insert_5 rfl (lv_at hl 0 rfl) ?_
    refine gfX3_15 X_full C w (X_i8) dX3_insert_6 ?_
    refine lv_icmp_gt (tgt := 21) hx hb dX3_insert_9 (by decide) (fun hc => ?_) (fun hc => ?_)
    · have h := fy_if_t h hc
      cases h
      exact fy_retV C w dX3_insert_21
    · have h := fy_if_f h hc
      refine lv_aload_n hx hb dX3_insert_12 rfl (lv_at hl 0 rfl) ?_
      refine gfX3_15 X_full C w (X_i8) dX3_insert_13 ?_
      refine lv_bipush (v := (120 : Int32)) hx hb dX3_insert_16 (by decide) ?_
      refine lv_icmp_lt (tgt := 22) hx hb dX3_insert_18 (by decide) (fun hc => ?_) (fun hc => ?_)
      · have h := fy_if_t h hc
        refine lv_aload_n hx hb dX3_insert_22 rfl (lv_at hl 0 rfl) ?_
        refine gfX3_15 X_full C w (X_i8) dX3_insert_23 ?_
        refine lv_topi (fun x26 e26 => ?_)
        have h := fy_bl_some e26 h
        refine lv_istore_n (lv' := [(3, .int x26), (0, .ref (g.2.2.1 8)), (1, .int v1), (2, .int v2)]) hx hb dX3_insert_26 rfl hl (by decide) rfl (fun ls hl => ?_)
        exact t_X3_insert_27 C fy_fu _ _ _ _ _ _ _ h w (lv_sub hl [1, 2, 3, 0] rfl)
      · have h := fy_if_f h hc
        cases h
        exact fy_retV C w dX3_insert_21

set_option maxHeartbeats 4000000 in
set_option maxRecDepth 100000 in
theorem c_X3_insert (l : Launch) (g : fy_G) {S : fy_S} {v1 : Int32} {v2 : Int32} {Sr : fy_S}   (h : X3_insert S v1 v2 = some Sr) : fy_M g X_Y l yX3_insert cX3_insert 4 none (fy_rm 0) [.ref (g.2.2.1 8), .int v1, .int v2] S (fy_QV g X_Y Sr) :=
  fy_entry (by decide +kernel) (Nat.le_of_ble_eq_true rfl) (fun p e s m args below meth c ls C w hl => t_X3_insert C  h w hl)
def X3_joinParts_145 (S : fy_S) (v1 : Int32) (v2 : Int32) : Option (fy_S) :=
  fy_gd (fy_ix v2 40) <|
  fy_bl (fy_sI S 11 v2.toNatClampNeg v1) fun S151 =>
  some S151
def X3_joinParts_101 (S : fy_S) (v1 : Int32) (v2 : Int32) (v3 : Int32) (z0 : Int32) (z1 : Int32) : Option (fy_S) :=
  fy_bd (X3_insert S z1 z0) fun S101 =>
  fy_gd (fy_ix v2 40) <|
  if (S101.1 11 v2.toNatClampNeg) = (8 : Int32) then (
    if v1 = (9 : Int32) then (
      fy_gd (fy_ix v3 40) <|
      fy_bd (X3_insert S101 (S101.1 10 v3.toNatClampNeg) (41 : Int32)) fun S130 =>
      fy_gd (fy_ix v2 40) <|
      fy_bd (X3_insert S130 (S130.1 10 v2.toNatClampNeg) (40 : Int32)) fun S142 =>
      X3_joinParts_145 S142 v1 v2)
    else (
      X3_joinParts_145 S101 v1 v2))
  else (
    X3_joinParts_145 S101 v1 v2)
def X3_joinParts_81 (S : fy_S) (v1 : Int32) (v2 : Int32) (v3 : Int32) : Option (fy_S) :=
  fy_gd (fy_ix v3 40) <|
  if v1 = (9 : Int32) then (
    X3_joinParts_101 S v1 v2 v3 (38 : Int32) (S.1 10 v3.toNatClampNeg))
  else (
    X3_joinParts_101 S v1 v2 v3 (124 : Int32) (S.1 10 v3.toNatClampNeg))
def X3_joinParts_59 (S : fy_S) (v1 : Int32) (v2 : Int32) (v3 : Int32) : Option (fy_S) :=
  fy_bd (X3_insert S (S.1 8 1) (41 : Int32)) fun S66 =>
  fy_gd (fy_ix v3 40) <|
  fy_bd (X3_insert S66 (S66.1 10 v3.toNatClampNeg) (40 : Int32)) fun S78 =>
  X3_joinParts_81 S78 v1 v2 v3
def X3_joinParts (S : fy_S) (v1 : Int32) : Option (fy_S) :=
  if (2 : Int32) ≤ (S.1 8 4) then (
    fy_bl (fy_sI S 8 4 ((S.1 8 4) - (1 : Int32))) fun S16 =>
    fy_bl ((S16.1 8 4) - (1 : Int32)) fun x25 =>
    fy_bl (S16.1 8 4) fun x30 =>
    fy_gd (fy_ix x30 40) <|
    if (S16.1 11 x30.toNatClampNeg) = (8 : Int32) then (
      X3_joinParts_59 S16 v1 x25 x30)
    else (
      fy_gd (fy_ix x30 40) <|
      if (S16.1 11 x30.toNatClampNeg) = (9 : Int32) then (
        if v1 = (9 : Int32) then (
          X3_joinParts_59 S16 v1 x25 x30)
        else (
          X3_joinParts_81 S16 v1 x25 x30))
      else (
        X3_joinParts_81 S16 v1 x25 x30)))
  else (
    some S)
set_option maxHeartbeats 4000000 in
set_option maxRecDepth 100000 in
theorem t_X3_joinParts_145 {p : Program} {l : Launch} {e : Env} {s : State} {m : MethodId} {args : Array Value} {below : List Frame} {meth : Method} {c : Code} {g : fy_G} (C : fy_C g X_Y p s m args meth c yX3_joinParts.cls cX3_joinParts 4 none) {Sr : fy_S}  : ∀ (S : fy_S) (v1 : Int32) (v2 : Int32) (H : Heap) (locs : List Loc) (ls : Array Slot), X3_joinParts_145 S v1 v2 = some Sr → fy_W g X_Y S s H locs → lv_has ls 4 [(0, .ref (g.2.2.1 8)), (1, .int v1), (2, .int v2)] → W p l e (fy_rm 1) s m args below meth c H locs 0 0 (MQ below (fy_QV g X_Y Sr) args s 0 0 (fy_A g X_Y)) (F0 m 145 ls []) := by
  obtain ⟨hx, hb, hr, hts, hown, hlk, hml, hK, hD, hE, hN⟩ := id C
  intro S v1 v2 H locs ls h w  hl
  rw [X3_joinParts_145] at h
  refine lv_aload_n hx hb dX3_joinParts_145 rfl (lv_at hl 0 rfl) ?_
  refine gfX3_23 X_full C w (X_i8) dX3_joinParts_146 ?_
  refine lv_iload_n hx hb dX3_joinParts_149 rfl (lv_at hl 2 rfl) ?_
  refine lv_iload_n hx hb dX3_joinParts_150 rfl (lv_at hl 1 rfl) ?_
  obtain ⟨g151, h⟩ := fy_gd_some h
  refine fy_iast C w X_a11 g151 dX3_joinParts_151 (fun H locs w => ?_)
  obtain ⟨S151, e151⟩ : ∃ z, z = fy_sI S 11 v2.toNatClampNeg v1 := ⟨_, rfl⟩
  have h := fy_bl_some e151 h
  rw [← e151] at w
  cases h
  exact fy_retV C w dX3_joinParts_152

set_option maxHeartbeats 4000000 in
set_option maxRecDepth 100000 in
theorem t_X3_joinParts_101 {p : Program} {l : Launch} {e : Env} {s : State} {m : MethodId} {args : Array Value} {below : List Frame} {meth : Method} {c : Code} {g : fy_G} (C : fy_C g X_Y p s m args meth c yX3_joinParts.cls cX3_joinParts 4 none) {Sr : fy_S}  : ∀ (S : fy_S) (v1 : Int32) (v2 : Int32) (v3 : Int32) (z0 : Int32) (z1 : Int32) (H : Heap) (locs : List Loc) (ls : Array Slot), X3_joinParts_101 S v1 v2 v3 z0 z1 = some Sr → fy_W g X_Y S s H locs → lv_has ls 4 [(0, .ref (g.2.2.1 8)), (1, .int v1), (2, .int v2), (3, .int v3)] → W p l e (fy_rm 1) s m args below meth c H locs 0 0 (MQ below (fy_QV g X_Y Sr) args s 0 0 (fy_A g X_Y)) (F0 m 101 ls [.int z0, .int z1, .ref (g.2.2.1 8)]) := by
  obtain ⟨hx, hb, hr, hts, hown, hlk, hml, hK, hD, hE, hN⟩ := id C
  intro S v1 v2 v3 z0 z1 H locs ls h w  hl
  rw [X3_joinParts_101] at h
  obtain ⟨S101, h101, h⟩ := fy_bd_some h
  refine fy_calV w (fy_runV (As := [.int z1, .int z0]) (rest := []) C w (c_X3_insert l g  h101) (X_o3 X_full (X_i8)) ksX3_49 rfl ⟨Nat.le_of_ble_eq_true rfl, Nat.le_of_ble_eq_true rfl⟩ rfl hl.1 rfl (Nat.le_of_ble_eq_true rfl) ⟨Nat.le_refl _, Nat.le_refl _⟩ dX3_joinParts_101) (fun H locs w => ?_)
  refine lv_aload_n hx hb dX3_joinParts_104 rfl (lv_at hl 0 rfl) ?_
  refine gfX3_23 X_full C w (X_i8) dX3_joinParts_105 ?_
  refine lv_iload_n hx hb dX3_joinParts_108 rfl (lv_at hl 2 rfl) ?_
  obtain ⟨g109, h⟩ := fy_gd_some h
  refine fy_iald C w X_a11 g109 dX3_joinParts_109 ?_
  refine lv_bipush (v := (8 : Int32)) hx hb dX3_joinParts_110 (by decide) ?_
  refine lv_icmp_ne (tgt := 145) hx hb dX3_joinParts_112 (by decide) (fun hc => ?_) (fun hc => ?_)
  · have h := fy_if_f h hc
    exact t_X3_joinParts_145 C _ _ _ _ _ _ h w (lv_sub hl [0, 1, 2] rfl)
  · have h := fy_if_t h hc
    refine lv_iload_n hx hb dX3_joinParts_115 rfl (lv_at hl 1 rfl) ?_
    refine lv_bipush (v := (9 : Int32)) hx hb dX3_joinParts_116 (by decide) ?_
    refine lv_icmp_ne (tgt := 145) hx hb dX3_joinParts_118 (by decide) (fun hc => ?_) (fun hc => ?_)
    · have h := fy_if_f h hc
      exact t_X3_joinParts_145 C _ _ _ _ _ _ h w (lv_sub hl [0, 1, 2] rfl)
    · have h := fy_if_t h hc
      refine lv_aload_n hx hb dX3_joinParts_121 rfl (lv_at hl 0 rfl) ?_
      refine lv_aload_n hx hb dX3_joinParts_122 rfl (lv_at hl 0 rfl) ?_
      refine gfX3_19 X_full C w (X_i8) dX3_joinParts_123 ?_
      refine lv_iload_n hx hb dX3_joinParts_126 rfl (lv_at hl 3 rfl) ?_
      obtain ⟨g127, h⟩ := fy_gd_some h
      refine fy_iald C w X_a10 g127 dX3_joinParts_127 ?_
      refine lv_bipush (v := (41 : Int32)) hx hb dX3_joinParts_128 (by decide) ?_
      obtain ⟨S130, h130, h⟩ := fy_bd_some h
      refine fy_calV w (fy_runV (As := [.int (S101.1 10 v3.toNatClampNeg), .int (41 : Int32)]) (rest := []) C w (c_X3_insert l g  h130) (X_o3 X_full (X_i8)) ksX3_49 rfl ⟨Nat.le_of_ble_eq_true rfl, Nat.le_of_ble_eq_true rfl⟩ rfl hl.1 rfl (Nat.le_of_ble_eq_true rfl) ⟨Nat.le_refl _, Nat.le_refl _⟩ dX3_joinParts_130) (fun H locs w => ?_)
      refine lv_aload_n hx hb dX3_joinParts_133 rfl (lv_at hl 0 rfl) ?_
      refine lv_aload_n hx hb dX3_joinParts_134 rfl (lv_at hl 0 rfl) ?_
      refine gfX3_19 X_full C w (X_i8) dX3_joinParts_135 ?_
      refine lv_iload_n hx hb dX3_joinParts_138 rfl (lv_at hl 2 rfl) ?_
      obtain ⟨g139, h⟩ := fy_gd_some h
      refine fy_iald C w X_a10 g139 dX3_joinParts_139 ?_
      refine lv_bipush (v := (40 : Int32)) hx hb dX3_joinParts_140 (by decide) ?_
      obtain ⟨S142, h142, h⟩ := fy_bd_some h
      refine fy_calV w (fy_runV (As := [.int (S130.1 10 v2.toNatClampNeg), .int (40 : Int32)]) (rest := []) C w (c_X3_insert l g  h142) (X_o3 X_full (X_i8)) ksX3_49 rfl ⟨Nat.le_of_ble_eq_true rfl, Nat.le_of_ble_eq_true rfl⟩ rfl hl.1 rfl (Nat.le_of_ble_eq_true rfl) ⟨Nat.le_refl _, Nat.le_refl _⟩ dX3_joinParts_142) (fun H locs w => ?_)
      exact t_X3_joinParts_145 C _ _ _ _ _ _ h w (lv_sub hl [0, 1, 2] rfl)

set_option maxHeartbeats 4000000 in
set_option maxRecDepth 100000 in
theorem t_X3_joinParts_81 {p : Program} {l : Launch} {e : Env} {s : State} {m : MethodId} {args : Array Value} {below : List Frame} {meth : Method} {c : Code} {g : fy_G} (C : fy_C g X_Y p s m args meth c yX3_joinParts.cls cX3_joinParts 4 none) {Sr : fy_S}  : ∀ (S : fy_S) (v1 : Int32) (v2 : Int32) (v3 : Int32) (H : Heap) (locs : List Loc) (ls : Array Slot), X3_joinParts_81 S v1 v2 v3 = some Sr → fy_W g X_Y S s H locs → lv_has ls 4 [(0, .ref (g.2.2.1 8)), (1, .int v1), (2, .int v2), (3, .int v3)] → W p l e (fy_rm 1) s m args below meth c H locs 0 0 (MQ below (fy_QV g X_Y Sr) args s 0 0 (fy_A g X_Y)) (F0 m 81 ls []) := by
  obtain ⟨hx, hb, hr, hts, hown, hlk, hml, hK, hD, hE, hN⟩ := id C
  intro S v1 v2 v3 H locs ls h w  hl
  rw [X3_joinParts_81] at h
  refine lv_aload_n hx hb dX3_joinParts_81 rfl (lv_at hl 0 rfl) ?_
  refine lv_aload_n hx hb dX3_joinParts_82 rfl (lv_at hl 0 rfl) ?_
  refine gfX3_19 X_full C w (X_i8) dX3_joinParts_83 ?_
  refine lv_iload_n hx hb dX3_joinParts_86 rfl (lv_at hl 3 rfl) ?_
  obtain ⟨g87, h⟩ := fy_gd_some h
  refine fy_iald C w X_a10 g87 dX3_joinParts_87 ?_
  refine lv_iload_n hx hb dX3_joinParts_88 rfl (lv_at hl 1 rfl) ?_
  refine lv_bipush (v := (9 : Int32)) hx hb dX3_joinParts_89 (by decide) ?_
  refine lv_icmp_ne (tgt := 99) hx hb dX3_joinParts_91 (by decide) (fun hc => ?_) (fun hc => ?_)
  · have h := fy_if_f h hc
    refine lv_bipush (v := (124 : Int32)) hx hb dX3_joinParts_99 (by decide) ?_
    exact t_X3_joinParts_101 C _ _ _ _ _ _ _ _ _ h w (lv_sub hl [0, 1, 2, 3] rfl)
  · have h := fy_if_t h hc
    refine lv_bipush (v := (38 : Int32)) hx hb dX3_joinParts_94 (by decide) ?_
    refine lv_goto (tgt := 101) hx hb dX3_joinParts_96 (by decide) ?_
    exact t_X3_joinParts_101 C _ _ _ _ _ _ _ _ _ h w (lv_sub hl [0, 1, 2, 3] rfl)

set_option maxHeartbeats 4000000 in
set_option maxRecDepth 100000 in
theorem t_X3_joinParts_59 {p : Program} {l : Launch} {e : Env} {s : State} {m : MethodId} {args : Array Value} {below : List Frame} {meth : Method} {c : Code} {g : fy_G} (C : fy_C g X_Y p s m args meth c yX3_joinParts.cls cX3_joinParts 4 none) {Sr : fy_S}  : ∀ (S : fy_S) (v1 : Int32) (v2 : Int32) (v3 : Int32) (H : Heap) (locs : List Loc) (ls : Array Slot), X3_joinParts_59 S v1 v2 v3 = some Sr → fy_W g X_Y S s H locs → lv_has ls 4 [(0, .ref (g.2.2.1 8)), (1, .int v1), (2, .int v2), (3, .int v3)] → W p l e (fy_rm 1) s m args below meth c H locs 0 0 (MQ below (fy_QV g X_Y Sr) args s 0 0 (fy_A g X_Y)) (F0 m 59 ls []) := by
  obtain ⟨hx, hb, hr, hts, hown, hlk, hml, hK, hD, hE, hN⟩ := id C
  intro S v1 v2 v3 H locs ls h w  hl
  rw [X3_joinParts_59] at h
  refine lv_aload_n hx hb dX3_joinParts_59 rfl (lv_at hl 0 rfl) ?_
  refine lv_aload_n hx hb dX3_joinParts_60 rfl (lv_at hl 0 rfl) ?_
  refine gfX3_15 X_full C w (X_i8) dX3_joinParts_61 ?_
  refine lv_bipush (v := (41 : Int32)) hx hb dX3_joinParts_64 (by decide) ?_
  obtain ⟨S66, h66, h⟩ := fy_bd_some h
  refine fy_calV w (fy_runV (As := [.int (S.1 8 1), .int (41 : Int32)]) (rest := []) C w (c_X3_insert l g  h66) (X_o3 X_full (X_i8)) ksX3_49 rfl ⟨Nat.le_of_ble_eq_true rfl, Nat.le_of_ble_eq_true rfl⟩ rfl hl.1 rfl (Nat.le_of_ble_eq_true rfl) ⟨Nat.le_refl _, Nat.le_refl _⟩ dX3_joinParts_66) (fun H locs w => ?_)
  refine lv_aload_n hx hb dX3_joinParts_69 rfl (lv_at hl 0 rfl) ?_
  refine lv_aload_n hx hb dX3_joinParts_70 rfl (lv_at hl 0 rfl) ?_
  refine gfX3_19 X_full C w (X_i8) dX3_joinParts_71 ?_
  refine lv_iload_n hx hb dX3_joinParts_74 rfl (lv_at hl 3 rfl) ?_
  obtain ⟨g75, h⟩ := fy_gd_some h
  refine fy_iald C w X_a10 g75 dX3_joinParts_75 ?_
  refine lv_bipush (v := (40 : Int32)) hx hb dX3_joinParts_76 (by decide) ?_
  obtain ⟨S78, h78, h⟩ := fy_bd_some h
  refine fy_calV w (fy_runV (As := [.int (S66.1 10 v3.toNatClampNeg), .int (40 : Int32)]) (rest := []) C w (c_X3_insert l g  h78) (X_o3 X_full (X_i8)) ksX3_49 rfl ⟨Nat.le_of_ble_eq_true rfl, Nat.le_of_ble_eq_true rfl⟩ rfl hl.1 rfl (Nat.le_of_ble_eq_true rfl) ⟨Nat.le_refl _, Nat.le_refl _⟩ dX3_joinParts_78) (fun H locs w => ?_)
  exact t_X3_joinParts_81 C _ _ _ _ _ _ _ h w (lv_sub hl [0, 1, 2, 3] rfl)

set_option maxHeartbeats 4000000 in
set_option maxRecDepth 100000 in
theorem t_X3_joinParts {p : Program} {l : Launch} {e : Env} {s : State} {m : MethodId} {args : Array Value} {below : List Frame} {meth : Method} {c : Code} {g : fy_G} (C : fy_C g X_Y p s m args meth c yX3_joinParts.cls cX3_joinParts 4 none) {S : fy_S} {v1 : Int32} {Sr : fy_S}   {H : Heap} {locs : List Loc} {ls : Array Slot} (h : X3_joinParts S v1 = some Sr) (w : fy_W g X_Y S s H locs) (hl : lv_has ls 4 [(0, .ref (g.2.2.1 8)), (1, .int v1)]) : W p l e (fy_rm 1) s m args below meth c H locs 0 0 (MQ below (fy_QV g X_Y Sr) args s 0 0 (fy_A g X_Y)) (F0 m 0 ls []) := by
  obtain ⟨hx, hb, hr, hts, hown, hlk, hml, hK, hD, hE, hN⟩ := id C
  rw [X3_joinParts] at h
  refine lv_aload_n hx hb dX3_joinParts_0 rfl (lv_at hl 0 rfl) ?_
  refine gfX3_26 X_full C w (X_i8) dX3_joinParts_1 ?_
  refine lv_iconst (v := (2 : Int32)) hx hb dX3_joinParts_4 (by decide) ?_
  refine lv_icmp_ge (tgt := 9) hx hb dX3_joinParts_5 (by decide) (fun hc => ?_) (fun hc => ?_)
  · have h := fy_if_t h hc
    refine lv_aload_n hx hb dX3_joinParts_9 rfl (lv_at hl 0 rfl) ?_
    refine lv_dup hx hb dX3_joinParts_10 rfl ?_
    refine gfX3_26 X_full C w (X_i8) dX3_joinParts_11 ?_
    refine lv_iconst (v := (1 : Int32)) hx hb dX3_joinParts_14 (by decide) ?_
    refine lv_isub hx hb dX3_joinParts_15 ?_
    refine pfX3_26 X_full C w (X_i8) dX3_joinParts_16 (fun H locs w => ?_)
    obtain ⟨S16, e16⟩ : ∃ z, z = fy_sI S 8 4 ((S.1 8 4) - (1 : Int32)) := ⟨_, rfl⟩
    have h := fy_bl_some e16 h
    rw [← e16] at w
    refine lv_aload_n hx hb dX3_joinParts_19 rfl (lv_at hl 0 rfl) ?_
    refine gfX3_26 X_full C w (X_i8) dX3_joinParts_20 ?_
    refine lv_iconst (v := (1 : Int32)) hx hb dX3_joinParts_23 (by decide) ?_
    refine lv_isub hx hb dX3_joinParts_24 ?_
    refine lv_topi (fun x25 e25 => ?_)
    have h := fy_bl_some e25 h
    refine lv_istore_n (lv' := [(2, .int x25), (0, .ref (g.2.2.1 8)), (1, .int v1)]) hx hb dX3_joinParts_25 rfl hl (by decide) rfl (fun ls hl => ?_)
    refine lv_aload_n hx hb dX3_joinParts_26 rfl (lv_at hl 1 rfl) ?_
    refine gfX3_26 X_full C w (X_i8) dX3_joinParts_27 ?_
    refine lv_topi (fun x30 e30 => ?_)
    have h := fy_bl_some e30 h
    refine lv_istore_n (lv' := [(3, .int x30), (2, .int x25), (0, .ref (g.2.2.1 8)), (1, .int v1)]) hx hb dX3_joinParts_30 rfl hl (by decide) rfl (fun ls hl => ?_)
    refine lv_aload_n hx hb dX3_joinParts_31 rfl (lv_at hl 2 rfl) ?_
    refine gfX3_23 X_full C w (X_i8) dX3_joinParts_32 ?_
    refine lv_iload_n hx hb dX3_joinParts_35 rfl (lv_at hl 0 rfl) ?_
    obtain ⟨g36, h⟩ := fy_gd_some h
    refine fy_iald C w X_a11 g36 dX3_joinParts_36 ?_
    refine lv_bipush (v := (8 : Int32)) hx hb dX3_joinParts_37 (by decide) ?_
    refine lv_icmp_eq (tgt := 59) hx hb dX3_joinParts_39 (by decide) (fun hc => ?_) (fun hc => ?_)
    · have h := fy_if_t h hc
      exact t_X3_joinParts_59 C _ _ _ _ _ _ _ h w (lv_sub hl [2, 3, 1, 0] rfl)
    · have h := fy_if_f h hc
      refine lv_aload_n hx hb dX3_joinParts_42 rfl (lv_at hl 2 rfl) ?_
      refine gfX3_23 X_full C w (X_i8) dX3_joinParts_43 ?_
      refine lv_iload_n hx hb dX3_joinParts_46 rfl (lv_at hl 0 rfl) ?_
      obtain ⟨g47, h⟩ := fy_gd_some h
      refine fy_iald C w X_a11 g47 dX3_joinParts_47 ?_
      refine lv_bipush (v := (9 : Int32)) hx hb dX3_joinParts_48 (by decide) ?_
      refine lv_icmp_ne (tgt := 81) hx hb dX3_joinParts_50 (by decide) (fun hc => ?_) (fun hc => ?_)
      · have h := fy_if_f h hc
        exact t_X3_joinParts_81 C _ _ _ _ _ _ _ h w (lv_sub hl [2, 3, 1, 0] rfl)
      · have h := fy_if_t h hc
        refine lv_iload_n hx hb dX3_joinParts_53 rfl (lv_at hl 3 rfl) ?_
        refine lv_bipush (v := (9 : Int32)) hx hb dX3_joinParts_54 (by decide) ?_
        refine lv_icmp_ne (tgt := 81) hx hb dX3_joinParts_56 (by decide) (fun hc => ?_) (fun hc => ?_)
        · have h := fy_if_f h hc
          exact t_X3_joinParts_81 C _ _ _ _ _ _ _ h w (lv_sub hl [2, 3, 1, 0] rfl)
        · have h := fy_if_t h hc
          exact t_X3_joinParts_59 C _ _ _ _ _ _ _ h w (lv_sub hl [2, 3, 1, 0] rfl)
  · have h := fy_if_f h hc
    cases h
    exact fy_retV C w dX3_joinParts_8

set_option maxHeartbeats 4000000 in
set_option maxRecDepth 100000 in
theorem c_X3_joinParts (l : Launch) (g : fy_G) {S : fy_S} {v1 : Int32} {Sr : fy_S}   (h : X3_joinParts S v1 = some Sr) : fy_M g X_Y l yX3_joinParts cX3_joinParts 4 none (fy_rm 1) [.ref (g.2.2.1 8), .int v1] S (fy_QV g X_Y Sr) :=
  fy_entry (by decide +kernel) (Nat.le_of_ble_eq_true rfl) (fun p e s m args below meth c ls C w hl => t_X3_joinParts C  h w hl)
def X3_leafSign (S : fy_S) (v0 : Int32) : Option (Int32) :=
  if v0 = (6 : Int32) then (
    some (116 : Int32))
  else (
    if v0 = (7 : Int32) then (
      some (102 : Int32))
    else (
      fy_gd (fy_nr .char ((((48 : Int32) + v0).toUInt32 % 65536).toInt32)) <| some ((((48 : Int32) + v0).toUInt32 % 65536).toInt32)))
set_option maxHeartbeats 4000000 in
set_option maxRecDepth 100000 in
theorem t_X3_leafSign {p : Program} {l : Launch} {e : Env} {s : State} {m : MethodId} {args : Array Value} {below : List Frame} {meth : Method} {c : Code} {g : fy_G} (C : fy_C g X_Y p s m args meth c yX3_leafSign.cls cX3_leafSign 1 (some .char)) {S : fy_S} {v0 : Int32} {rr : Int32}  {H : Heap} {locs : List Loc} {ls : Array Slot} (h : X3_leafSign S v0 = some rr) (w : fy_W g X_Y S s H locs) (hl : lv_has ls 1 [(0, .int v0)]) : W p l e (fy_rm 0) s m args below meth c H locs 0 0 (MQ below (fy_QI g X_Y rr S) args s 0 0 (fy_A g X_Y)) (F0 m 0 ls []) := by
  obtain ⟨hx, hb, hr, hts, hown, hlk, hml, hK, hD, hE, hN⟩ := id C
  rw [X3_leafSign] at h
  refine lv_iload_n hx hb dX3_leafSign_0 rfl (lv_at hl 0 rfl) ?_
  refine lv_bipush (v := (6 : Int32)) hx hb dX3_leafSign_1 (by decide) ?_
  refine lv_icmp_ne (tgt := 9) hx hb dX3_leafSign_3 (by decide) (fun hc => ?_) (fun hc => ?_)
  · have h := fy_if_f h hc
    refine lv_iload_n hx hb dX3_leafSign_9 rfl (lv_at hl 0 rfl) ?_
    refine lv_bipush (v := (7 : Int32)) hx hb dX3_leafSign_10 (by decide) ?_
    refine lv_icmp_ne (tgt := 20) hx hb dX3_leafSign_12 (by decide) (fun hc => ?_) (fun hc => ?_)
    · have h := fy_if_f h hc
      refine lv_bipush (v := (48 : Int32)) hx hb dX3_leafSign_20 (by decide) ?_
      refine lv_iload_n hx hb dX3_leafSign_22 rfl (lv_at hl 0 rfl) ?_
      refine lv_iadd hx hb dX3_leafSign_23 ?_
      refine lv_i2c (v := ((((48 : Int32) + v0).toUInt32 % 65536).toInt32)) hx hb dX3_leafSign_24 rfl ?_
      obtain ⟨gg, h⟩ := fy_gd_some h
      cases h
      exact fy_retZ C w (fy_nr_ok gg) dX3_leafSign_25
    · have h := fy_if_t h hc
      refine lv_bipush (v := (102 : Int32)) hx hb dX3_leafSign_15 (by decide) ?_
      refine lv_goto (tgt := 25) hx hb dX3_leafSign_17 (by decide) ?_
      cases h
      exact fy_retZ C w (by decide +kernel) dX3_leafSign_25
  · have h := fy_if_t h hc
    refine lv_bipush (v := (116 : Int32)) hx hb dX3_leafSign_6 (by decide) ?_
    cases h
    exact fy_retZ C w (by decide +kernel) dX3_leafSign_8

set_option maxHeartbeats 4000000 in
set_option maxRecDepth 100000 in
theorem c_X3_leafSign (l : Launch) (g : fy_G) {S : fy_S} {v0 : Int32} {rr : Int32}  (h : X3_leafSign S v0 = some rr) : fy_M g X_Y l yX3_leafSign cX3_leafSign 1 (some .char) (fy_rm 0) [.int v0] S (fy_QI g X_Y rr S) :=
  fy_entry (by decide +kernel) (Nat.le_of_ble_eq_true rfl) (fun p e s m args below meth c ls C w hl => t_X3_leafSign C  h w hl)
def X3_addPart (S : fy_S) (v1 : Int32) : Option (fy_S) :=
  if (40 : Int32) ≤ (S.1 8 4) then (
    some S)
  else (
    fy_gd (fy_ix (S.1 8 4) 40) <|
    fy_bl (fy_sI S 10 (S.1 8 4).toNatClampNeg (S.1 8 1)) fun S21 =>
    fy_gd (fy_ix (S21.1 8 4) 40) <|
    fy_bl (fy_sI S21 11 (S21.1 8 4).toNatClampNeg v1) fun S31 =>
    fy_bl (fy_sI S31 8 4 ((S31.1 8 4) + (1 : Int32))) fun S39 =>
    fy_bd (X3_leafSign S39 v1) fun r48 =>
    fy_bd (X3_insert S39 (S39.1 8 1) r48) fun S51 =>
    some S51)
set_option maxHeartbeats 4000000 in
set_option maxRecDepth 100000 in
theorem t_X3_addPart {p : Program} {l : Launch} {e : Env} {s : State} {m : MethodId} {args : Array Value} {below : List Frame} {meth : Method} {c : Code} {g : fy_G} (C : fy_C g X_Y p s m args meth c yX3_addPart.cls cX3_addPart 2 none) {S : fy_S} {v1 : Int32} {Sr : fy_S}   {H : Heap} {locs : List Loc} {ls : Array Slot} (h : X3_addPart S v1 = some Sr) (w : fy_W g X_Y S s H locs) (hl : lv_has ls 2 [(0, .ref (g.2.2.1 8)), (1, .int v1)]) : W p l e (fy_rm 1) s m args below meth c H locs 0 0 (MQ below (fy_QV g X_Y Sr) args s 0 0 (fy_A g X_Y)) (F0 m 0 ls []) := by
  obtain ⟨hx, hb, hr, hts, hown, hlk, hml, hK, hD, hE, hN⟩ := id C
  rw [X3_addPart] at h
  refine lv_aload_n hx hb dX3_addPart_0 rfl (lv_at hl 0 rfl) ?_
  refine gfX3_26 X_full C w (X_i8) dX3_addPart_1 ?_
  refine lv_bipush (v := (40 : Int32)) hx hb dX3_addPart_4 (by decide) ?_
  refine lv_icmp_ge (tgt := 54) hx hb dX3_addPart_6 (by decide) (fun hc => ?_) (fun hc => ?_)
  · have h := fy_if_t h hc
    cases h
    exact fy_retV C w dX3_addPart_54
  · have h := fy_if_f h hc
    refine lv_aload_n hx hb dX3_addPart_9 rfl (lv_at hl 0 rfl) ?_
    refine gfX3_19 X_full C w (X_i8) dX3_addPart_10 ?_
    refine lv_aload_n hx hb dX3_addPart_13 rfl (lv_at hl 0 rfl) ?_
    refine gfX3_26 X_full C w (X_i8) dX3_addPart_14 ?_
    refine lv_aload_n hx hb dX3_addPart_17 rfl (lv_at hl 0 rfl) ?_
    refine gfX3_15 X_full C w (X_i8) dX3_addPart_18 ?_
    obtain ⟨g21, h⟩ := fy_gd_some h
    refine fy_iast C w X_a10 g21 dX3_addPart_21 (fun H locs w => ?_)
    obtain ⟨S21, e21⟩ : ∃ z, z = fy_sI S 10 (S.1 8 4).toNatClampNeg (S.1 8 1) := ⟨_, rfl⟩
    have h := fy_bl_some e21 h
    rw [← e21] at w
    refine lv_aload_n hx hb dX3_addPart_22 rfl (lv_at hl 0 rfl) ?_
    refine gfX3_23 X_full C w (X_i8) dX3_addPart_23 ?_
    refine lv_aload_n hx hb dX3_addPart_26 rfl (lv_at hl 0 rfl) ?_
    refine gfX3_26 X_full C w (X_i8) dX3_addPart_27 ?_
    refine lv_iload_n hx hb dX3_addPart_30 rfl (lv_at hl 1 rfl) ?_
    obtain ⟨g31, h⟩ := fy_gd_some h
    refine fy_iast C w X_a11 g31 dX3_addPart_31 (fun H locs w => ?_)
    obtain ⟨S31, e31⟩ : ∃ z, z = fy_sI S21 11 (S21.1 8 4).toNatClampNeg v1 := ⟨_, rfl⟩
    have h := fy_bl_some e31 h
    rw [← e31] at w
    refine lv_aload_n hx hb dX3_addPart_32 rfl (lv_at hl 0 rfl) ?_
    refine lv_dup hx hb dX3_addPart_33 rfl ?_
    refine gfX3_26 X_full C w (X_i8) dX3_addPart_34 ?_
    refine lv_iconst (v := (1 : Int32)) hx hb dX3_addPart_37 (by decide) ?_
    refine lv_iadd hx hb dX3_addPart_38 ?_
    refine pfX3_26 X_full C w (X_i8) dX3_addPart_39 (fun H locs w => ?_)
    obtain ⟨S39, e39⟩ : ∃ z, z = fy_sI S31 8 4 ((S31.1 8 4) + (1 : Int32)) := ⟨_, rfl⟩
    have h := fy_bl_some e39 h
    rw [← e39] at w
    refine lv_aload_n hx hb dX3_addPart_42 rfl (lv_at hl 0 rfl) ?_
    refine lv_aload_n hx hb dX3_addPart_43 rfl (lv_at hl 0 rfl) ?_
    refine gfX3_15 X_full C w (X_i8) dX3_addPart_44 ?_
    refine lv_iload_n hx hb dX3_addPart_47 rfl (lv_at hl 1 rfl) ?_
    obtain ⟨r48, h48, h⟩ := fy_bd_some h
    refine fy_calI w (fy_runS (As := [.int v1]) (rest := [.int (S39.1 8 1), .ref (g.2.2.1 8)]) C w (c_X3_leafSign l g  h48) ksX3_45 ⟨Nat.le_of_ble_eq_true rfl, Nat.le_of_ble_eq_true rfl⟩ rfl hl.1 rfl (Nat.le_of_ble_eq_true rfl) ⟨Nat.le_refl _, Nat.le_refl _⟩ dX3_addPart_48) (fun H locs w => ?_)
    obtain ⟨S51, h51, h⟩ := fy_bd_some h
    refine fy_calV w (fy_runV (As := [.int (S39.1 8 1), .int r48]) (rest := []) C w (c_X3_insert l g  h51) (X_o3 X_full (X_i8)) ksX3_49 rfl ⟨Nat.le_of_ble_eq_true rfl, Nat.le_of_ble_eq_true rfl⟩ rfl hl.1 rfl (Nat.le_of_ble_eq_true rfl) ⟨Nat.le_refl _, Nat.le_refl _⟩ dX3_addPart_51) (fun H locs w => ?_)
    cases h
    exact fy_retV C w dX3_addPart_54

set_option maxHeartbeats 4000000 in
set_option maxRecDepth 100000 in
theorem c_X3_addPart (l : Launch) (g : fy_G) {S : fy_S} {v1 : Int32} {Sr : fy_S}   (h : X3_addPart S v1 = some Sr) : fy_M g X_Y l yX3_addPart cX3_addPart 2 none (fy_rm 1) [.ref (g.2.2.1 8), .int v1] S (fy_QV g X_Y Sr) :=
  fy_entry (by decide +kernel) (Nat.le_of_ble_eq_true rfl) (fun p e s m args below meth c ls C w hl => t_X3_addPart C  h w hl)
def X3_write_38 (k12 : fy_S → Nat → Int32 → Option (fy_S)) (S : fy_S) (v1 : Nat) (v2 : Int32) (v3 : Int32) : Option (fy_S) :=
  fy_bd (X3_joinParts S v3) fun S40 =>
  fy_bl (v2 + (1 : Int32)) fun x51 =>
  k12 S40 v1 x51
def X3_write_12 : Nat → fy_S → Nat → Int32 → Option (fy_S)
  | 0, _, _, _ => none
  | fu + 1, S, v1, v2 =>
    if (S.1 v1 1) ≤ v2 then (
      some S)
    else (
      fy_bd (X2_nodeAt S v1 v2) fun r22 =>
      if r22 = (9 : Int32) then (
        X3_write_38 (fun S v1 v2 => X3_write_12 fu S v1 v2) S v1 v2 r22)
      else (
        if r22 = (8 : Int32) then (
          X3_write_38 (fun S v1 v2 => X3_write_12 fu S v1 v2) S v1 v2 r22)
        else (
          fy_bd (X3_addPart S r22) fun S48 =>
          fy_bl (v2 + (1 : Int32)) fun x51 =>
          X3_write_12 fu S48 v1 x51)))
def X3_write (S : fy_S) (v1 : Nat) : Option (fy_S) :=
  fy_bl (fy_sI S 8 1 (0 : Int32)) fun S2 =>
  fy_bl (fy_sI S2 8 4 (0 : Int32)) fun S7 =>
  X3_write_12 fy_fu S7 v1 (0 : Int32)
set_option maxHeartbeats 4000000 in
set_option maxRecDepth 100000 in
theorem t_X3_write_38 {p : Program} {l : Launch} {e : Env} {s : State} {m : MethodId} {args : Array Value} {below : List Frame} {meth : Method} {c : Code} {g : fy_G} (C : fy_C g X_Y p s m args meth c yX3_write.cls cX3_write 4 none) {Sr : fy_S}  {k12 : fy_S → Nat → Int32 → Option (fy_S)} (hk12 : ∀ (S : fy_S) (v1 : Nat) (v2 : Int32) (H : Heap) (locs : List Loc) (ls : Array Slot), k12 S v1 v2 = some Sr → fy_W g X_Y S s H locs → X_is X_Y 2 v1 → lv_has ls 4 [(0, .ref (g.2.2.1 8)), (1, .ref (g.2.2.1 v1)), (2, .int v2)] → W p l e (fy_rm 2) s m args below meth c H locs 0 0 (MQ below (fy_QV g X_Y Sr) args s 0 0 (fy_A g X_Y)) (F0 m 12 ls [])) : ∀ (S : fy_S) (v1 : Nat) (v2 : Int32) (v3 : Int32) (H : Heap) (locs : List Loc) (ls : Array Slot), X3_write_38 k12 S v1 v2 v3 = some Sr → fy_W g X_Y S s H locs → X_is X_Y 2 v1 → lv_has ls 4 [(0, .ref (g.2.2.1 8)), (1, .ref (g.2.2.1 v1)), (2, .int v2), (3, .int v3)] → W p l e (fy_rm 2) s m args below meth c H locs 0 0 (MQ below (fy_QV g X_Y Sr) args s 0 0 (fy_A g X_Y)) (F0 m 38 ls []) := by
  obtain ⟨hx, hb, hr, hts, hown, hlk, hml, hK, hD, hE, hN⟩ := id C
  intro S v1 v2 v3 H locs ls h w q1 hl
  rw [X3_write_38] at h
  refine lv_aload_n hx hb dX3_write_38 rfl (lv_at hl 0 rfl) ?_
  refine lv_iload_n hx hb dX3_write_39 rfl (lv_at hl 3 rfl) ?_
  obtain ⟨S40, h40, h⟩ := fy_bd_some h
  refine fy_calV w (fy_runV (As := [.int v3]) (rest := []) C w (c_X3_joinParts l g  h40) (X_o3 X_full (X_i8)) ksX3_38 rfl ⟨Nat.le_of_ble_eq_true rfl, Nat.le_of_ble_eq_true rfl⟩ rfl hl.1 rfl (Nat.le_of_ble_eq_true rfl) ⟨Nat.le_refl _, Nat.le_refl _⟩ dX3_write_40) (fun H locs w => ?_)
  refine lv_goto (tgt := 51) hx hb dX3_write_43 (by decide) ?_
  obtain ⟨x51, e51⟩ : ∃ z : Int32, z = v2 + (1 : Int32) := ⟨_, rfl⟩
  have h := fy_bl_some e51 h
  refine lv_iinc (k := 2) (v := x51) (lv' := [(2, .int x51), (0, .ref (g.2.2.1 8)), (1, .ref (g.2.2.1 v1)), (3, .int v3)]) hx hb dX3_write_51 hl rfl (by rw [e51]; rfl) (by decide) rfl (fun ls hl => ?_)
  refine lv_goto (tgt := 12) hx hb dX3_write_54 (by decide) ?_
  exact hk12 _ _ _ _ _ _ h w q1 (lv_sub hl [1, 2, 0] rfl)

set_option maxHeartbeats 4000000 in
set_option maxRecDepth 100000 in
theorem t_X3_write_12 {p : Program} {l : Launch} {e : Env} {s : State} {m : MethodId} {args : Array Value} {below : List Frame} {meth : Method} {c : Code} {g : fy_G} (C : fy_C g X_Y p s m args meth c yX3_write.cls cX3_write 4 none) {Sr : fy_S}  : ∀ (fu : Nat) (S : fy_S) (v1 : Nat) (v2 : Int32) (H : Heap) (locs : List Loc) (ls : Array Slot), X3_write_12 fu S v1 v2 = some Sr → fy_W g X_Y S s H locs → X_is X_Y 2 v1 → lv_has ls 4 [(0, .ref (g.2.2.1 8)), (1, .ref (g.2.2.1 v1)), (2, .int v2)] → W p l e (fy_rm 2) s m args below meth c H locs 0 0 (MQ below (fy_QV g X_Y Sr) args s 0 0 (fy_A g X_Y)) (F0 m 12 ls []) := by
  obtain ⟨hx, hb, hr, hts, hown, hlk, hml, hK, hD, hE, hN⟩ := id C
  intro fu
  induction fu with
  | zero => intro S v1 v2 H locs ls h; cases h
  | succ fu ih =>
    intro S v1 v2 H locs ls h w q1 hl
    rw [X3_write_12] at h
    refine lv_iload_n hx hb dX3_write_12 rfl (lv_at hl 2 rfl) ?_
    refine lv_aload_n hx hb dX3_write_13 rfl (lv_at hl 1 rfl) ?_
    refine gfX3_29 X_full C w q1 dX3_write_14 ?_
    refine lv_icmp_ge (tgt := 57) hx hb dX3_write_17 (by decide) (fun hc => ?_) (fun hc => ?_)
    · have h := fy_if_t h hc
      cases h
      exact fy_retV C w dX3_write_57
    · have h := fy_if_f h hc
      refine lv_aload_n hx hb dX3_write_20 rfl (lv_at hl 1 rfl) ?_
      refine lv_iload_n hx hb dX3_write_21 rfl (lv_at hl 2 rfl) ?_
      obtain ⟨r22, h22, h⟩ := fy_bd_some h
      refine fy_calI w (fy_runV (As := [.int v2]) (rest := []) C w (c_X2_nodeAt l g X_full q1 h22) (X_o2 X_full q1) ksX3_34 rfl ⟨Nat.le_of_ble_eq_true rfl, Nat.le_of_ble_eq_true rfl⟩ rfl hl.1 rfl (Nat.le_of_ble_eq_true rfl) ⟨Nat.le_refl _, Nat.le_refl _⟩ dX3_write_22) (fun H locs w => ?_)
      refine lv_istore_n (lv' := [(3, .int r22), (0, .ref (g.2.2.1 8)), (1, .ref (g.2.2.1 v1)), (2, .int v2)]) hx hb dX3_write_25 rfl hl (by decide) rfl (fun ls hl => ?_)
      refine lv_iload_n hx hb dX3_write_26 rfl (lv_at hl 0 rfl) ?_
      refine lv_bipush (v := (9 : Int32)) hx hb dX3_write_27 (by decide) ?_
      refine lv_icmp_eq (tgt := 38) hx hb dX3_write_29 (by decide) (fun hc => ?_) (fun hc => ?_)
      · have h := fy_if_t h hc
        exact t_X3_write_38 C ih _ _ _ _ _ _ _ h w q1 (lv_sub hl [1, 2, 3, 0] rfl)
      · have h := fy_if_f h hc
        refine lv_iload_n hx hb dX3_write_32 rfl (lv_at hl 0 rfl) ?_
        refine lv_bipush (v := (8 : Int32)) hx hb dX3_write_33 (by decide) ?_
        refine lv_icmp_ne (tgt := 46) hx hb dX3_write_35 (by decide) (fun hc => ?_) (fun hc => ?_)
        · have h := fy_if_f h hc
          refine lv_aload_n hx hb dX3_write_46 rfl (lv_at hl 1 rfl) ?_
          refine lv_iload_n hx hb dX3_write_47 rfl (lv_at hl 0 rfl) ?_
          obtain ⟨S48, h48, h⟩ := fy_bd_some h
          refine fy_calV w (fy_runV (As := [.int r22]) (rest := []) C w (c_X3_addPart l g  h48) (X_o3 X_full (X_i8)) ksX3_42 rfl ⟨Nat.le_of_ble_eq_true rfl, Nat.le_of_ble_eq_true rfl⟩ rfl hl.1 rfl (Nat.le_of_ble_eq_true rfl) ⟨Nat.le_refl _, Nat.le_refl _⟩ dX3_write_48) (fun H locs w => ?_)
          obtain ⟨x51, e51⟩ : ∃ z : Int32, z = v2 + (1 : Int32) := ⟨_, rfl⟩
          have h := fy_bl_some e51 h
          refine lv_iinc (k := 3) (v := x51) (lv' := [(2, .int x51), (3, .int r22), (0, .ref (g.2.2.1 8)), (1, .ref (g.2.2.1 v1))]) hx hb dX3_write_51 hl rfl (by rw [e51]; rfl) (by decide) rfl (fun ls hl => ?_)
          refine lv_goto (tgt := 12) hx hb dX3_write_54 (by decide) ?_
          exact ih _ _ _ _ _ _ h w q1 (lv_sub hl [2, 3, 0] rfl)
        · have h := fy_if_t h hc
          exact t_X3_write_38 C ih _ _ _ _ _ _ _ h w q1 (lv_sub hl [1, 2, 3, 0] rfl)

set_option maxHeartbeats 4000000 in
set_option maxRecDepth 100000 in
theorem t_X3_write {p : Program} {l : Launch} {e : Env} {s : State} {m : MethodId} {args : Array Value} {below : List Frame} {meth : Method} {c : Code} {g : fy_G} (C : fy_C g X_Y p s m args meth c yX3_write.cls cX3_write 4 none) {S : fy_S} {v1 : Nat} {Sr : fy_S}  (q1 : X_is X_Y 2 v1) {H : Heap} {locs : List Loc} {ls : Array Slot} (h : X3_write S v1 = some Sr) (w : fy_W g X_Y S s H locs) (hl : lv_has ls 4 [(0, .ref (g.2.2.1 8)), (1, .ref (g.2.2.1 v1))]) : W p l e (fy_rm 2) s m args below meth c H locs 0 0 (MQ below (fy_QV g X_Y Sr) args s 0 0 (fy_A g X_Y)) (F0 m 0 ls []) := by
  obtain ⟨hx, hb, hr, hts, hown, hlk, hml, hK, hD, hE, hN⟩ := id C
  rw [X3_write] at h
  refine lv_aload_n hx hb dX3_write_0 rfl (lv_at hl 0 rfl) ?_
  refine lv_iconst (v := (0 : Int32)) hx hb dX3_write_1 (by decide) ?_
  refine pfX3_15 X_full C w (X_i8) dX3_write_2 (fun H locs w => ?_)
  obtain ⟨S2, e2⟩ : ∃ z, z = fy_sI S 8 1 (0 : Int32) := ⟨_, rfl⟩
  have h := fy_bl_some e2 h
  rw [← e2] at w
  refine lv_aload_n hx hb dX3_write_5 rfl (lv_at hl 0 rfl) ?_
  refine lv_iconst (v := (0 : Int32)) hx hb dX3_write_6 (by decide) ?_
  refine pfX3_26 X_full C w (X_i8) dX3_write_7 (fun H locs w => ?_)
  obtain ⟨S7, e7⟩ : ∃ z, z = fy_sI S2 8 4 (0 : Int32) := ⟨_, rfl⟩
  have h := fy_bl_some e7 h
  rw [← e7] at w
  refine lv_iconst (v := (0 : Int32)) hx hb dX3_write_10 (by decide) ?_
  refine lv_istore_n (lv' := [(2, .int (0 : Int32)), (0, .ref (g.2.2.1 8)), (1, .ref (g.2.2.1 v1))]) hx hb dX3_write_11 rfl hl (by decide) rfl (fun ls hl => ?_)
  exact t_X3_write_12 C fy_fu _ _ _ _ _ _ h w q1 (lv_sub hl [1, 2, 0] rfl)

set_option maxHeartbeats 4000000 in
set_option maxRecDepth 100000 in
theorem c_X3_write (l : Launch) (g : fy_G) {S : fy_S} {v1 : Nat} {Sr : fy_S}  (q1 : X_is X_Y 2 v1) (h : X3_write S v1 = some Sr) : fy_M g X_Y l yX3_write cX3_write 4 none (fy_rm 2) [.ref (g.2.2.1 8), .ref (g.2.2.1 v1)] S (fy_QV g X_Y Sr) :=
  fy_entry (by decide +kernel) (Nat.le_of_ble_eq_true rfl) (fun p e s m args below meth c ls C w hl => t_X3_write C q1 h w hl)
def X9_print (S : fy_S) (v1 : Int32) (v2 : Int32) (v3 : Int32) : Option (fy_S × Int32) :=
  fy_bd (X9_formulaIn S v1 v2 v3) fun r4 =>
  match r4 with
  | none => (
    some (S, (-2 : Int32)))
  | some r4_ => (
    fy_bd (X3_write S r4_) fun S23 =>
    some (S23, (S23.1 8 1)))
set_option maxHeartbeats 4000000 in
set_option maxRecDepth 100000 in
theorem t_X9_print {p : Program} {l : Launch} {e : Env} {s : State} {m : MethodId} {args : Array Value} {below : List Frame} {meth : Method} {c : Code} {g : fy_G} (C : fy_C g X_Y p s m args meth c yX9_print.cls cX9_print 5 (some .int)) {S : fy_S} {v1 : Int32} {v2 : Int32} {v3 : Int32} {Sr : fy_S} {rr : Int32}  {H : Heap} {locs : List Loc} {ls : Array Slot} (h : X9_print S v1 v2 v3 = some (Sr, rr)) (w : fy_W g X_Y S s H locs) (hl : lv_has ls 5 [(0, .ref (g.2.2.1 0)), (1, .int v1), (2, .int v2), (3, .int v3)]) : W p l e (fy_rm 4) s m args below meth c H locs 0 0 (MQ below (fy_QI g X_Y rr Sr) args s 0 0 (fy_A g X_Y)) (F0 m 0 ls []) := by
  obtain ⟨hx, hb, hr, hts, hown, hlk, hml, hK, hD, hE, hN⟩ := id C
  rw [X9_print] at h
  refine lv_aload_n hx hb dX9_print_0 rfl (lv_at hl 0 rfl) ?_
  refine lv_iload_n hx hb dX9_print_1 rfl (lv_at hl 1 rfl) ?_
  refine lv_iload_n hx hb dX9_print_2 rfl (lv_at hl 2 rfl) ?_
  refine lv_iload_n hx hb dX9_print_3 rfl (lv_at hl 3 rfl) ?_
  obtain ⟨r4, h4, h⟩ := fy_bd_some h
  refine fy_calE w (fy_runV (As := [.int v1, .int v2, .int v3]) (rest := []) C w (c_X9_formulaIn l g  h4) (X_o9 X_full (X_i0)) ksX9_131 rfl ⟨Nat.le_of_ble_eq_true rfl, Nat.le_of_ble_eq_true rfl⟩ rfl hl.1 rfl (Nat.le_of_ble_eq_true rfl) ⟨Nat.le_refl _, Nat.le_refl _⟩ dX9_print_4) (fun H locs w => ?_)
  refine fy_astoreO (lv' := [(4, va_re g.2.2.1 r4), (0, .ref (g.2.2.1 0)), (1, .int v1), (2, .int v2), (3, .int v3)]) hx hb dX9_print_7 hl (by decide) rfl (fun ls hl => ?_)
  cases r4 with
  | none =>
    dsimp only at h
    refine lv_aloadN hx hb dX9_print_9 (lv_at hl 0 rfl) ?_
    refine lv_ifnonnullN hx hb dX9_print_11 ?_
    refine lv_bipush (v := (-2 : Int32)) hx hb dX9_print_14 (by decide) ?_
    cases h
    exact fy_retI C w dX9_print_16
  | some r4_ =>
    dsimp only at h
    refine lv_aload hx hb dX9_print_9 (lv_at hl 0 rfl) ?_
    refine lv_ifnonnull (tgt := 17) hx hb dX9_print_11 (by decide) ?_
    refine lv_aload_n hx hb dX9_print_17 rfl (lv_at hl 1 rfl) ?_
    refine gfX9_33 X_full C w (X_i0) dX9_print_18 ?_
    refine lv_aload hx hb dX9_print_21 (lv_at hl 0 rfl) ?_
    obtain ⟨S23, h23, h⟩ := fy_bd_some h
    refine fy_calV w (fy_runV (As := [.ref (g.2.2.1 r4_)]) (rest := []) C w (c_X3_write l g (cls_X9_formulaIn  h4) h23) (X_o3 X_full X_i8) ksX9_135 rfl ⟨Nat.le_of_ble_eq_true rfl, Nat.le_of_ble_eq_true rfl⟩ rfl hl.1 rfl (Nat.le_of_ble_eq_true rfl) ⟨Nat.le_refl _, Nat.le_refl _⟩ dX9_print_23) (fun H locs w => ?_)
    refine lv_aload_n hx hb dX9_print_26 rfl (lv_at hl 1 rfl) ?_
    refine gfX9_33 X_full C w (X_i0) dX9_print_27 ?_
    refine gfX9_139 X_full C w X_i8 dX9_print_30 ?_
    cases h
    exact fy_retI C w dX9_print_33

set_option maxHeartbeats 4000000 in
set_option maxRecDepth 100000 in
theorem c_X9_print (l : Launch) (g : fy_G) {S : fy_S} {v1 : Int32} {v2 : Int32} {v3 : Int32} {Sr : fy_S} {rr : Int32}  (h : X9_print S v1 v2 v3 = some (Sr, rr)) : fy_M g X_Y l yX9_print cX9_print 5 (some .int) (fy_rm 4) [.ref (g.2.2.1 0), .int v1, .int v2, .int v3] S (fy_QI g X_Y rr Sr) :=
  fy_entry (by decide +kernel) (Nat.le_of_ble_eq_true rfl) (fun p e s m args below meth c ls C w hl => t_X9_print C  h w hl)
def X9_printed (S : fy_S) (v1 : Int32) : Option (Int32) :=
  if v1 < 0 then (
    some (-1 : Int32))
  else (
    if (S.1 8 1) ≤ v1 then (
      some (-1 : Int32))
    else (
      fy_gd (fy_ix v1 120) <|
      some (S.1 9 v1.toNatClampNeg)))
set_option maxHeartbeats 4000000 in
set_option maxRecDepth 100000 in
theorem t_X9_printed {p : Program} {l : Launch} {e : Env} {s : State} {m : MethodId} {args : Array Value} {below : List Frame} {meth : Method} {c : Code} {g : fy_G} (C : fy_C g X_Y p s m args meth c yX9_printed.cls cX9_printed 2 (some .int)) {S : fy_S} {v1 : Int32} {rr : Int32}  {H : Heap} {locs : List Loc} {ls : Array Slot} (h : X9_printed S v1 = some rr) (w : fy_W g X_Y S s H locs) (hl : lv_has ls 2 [(0, .ref (g.2.2.1 0)), (1, .int v1)]) : W p l e (fy_rm 0) s m args below meth c H locs 0 0 (MQ below (fy_QI g X_Y rr S) args s 0 0 (fy_A g X_Y)) (F0 m 0 ls []) := by
  obtain ⟨hx, hb, hr, hts, hown, hlk, hml, hK, hD, hE, hN⟩ := id C
  rw [X9_printed] at h
  refine lv_iload_n hx hb dX9_printed_0 rfl (lv_at hl 1 rfl) ?_
  refine lv_if_lt (tgt := 27) hx hb dX9_printed_1 (by decide) (fun hc => ?_) (fun hc => ?_)
  · have h := fy_if_t h hc
    refine lv_iconst (v := (-1 : Int32)) hx hb dX9_printed_27 (by decide) ?_
    cases h
    exact fy_retI C w dX9_printed_28
  · have h := fy_if_f h hc
    refine lv_iload_n hx hb dX9_printed_4 rfl (lv_at hl 1 rfl) ?_
    refine lv_aload_n hx hb dX9_printed_5 rfl (lv_at hl 0 rfl) ?_
    refine gfX9_33 X_full C w (X_i0) dX9_printed_6 ?_
    refine gfX9_139 X_full C w X_i8 dX9_printed_9 ?_
    refine lv_icmp_ge (tgt := 27) hx hb dX9_printed_12 (by decide) (fun hc => ?_) (fun hc => ?_)
    · have h := fy_if_t h hc
      refine lv_iconst (v := (-1 : Int32)) hx hb dX9_printed_27 (by decide) ?_
      cases h
      exact fy_retI C w dX9_printed_28
    · have h := fy_if_f h hc
      refine lv_aload_n hx hb dX9_printed_15 rfl (lv_at hl 0 rfl) ?_
      refine gfX9_33 X_full C w (X_i0) dX9_printed_16 ?_
      refine gfX9_140 X_full C w X_i8 dX9_printed_19 ?_
      refine lv_iload_n hx hb dX9_printed_22 rfl (lv_at hl 1 rfl) ?_
      obtain ⟨g23, h⟩ := fy_gd_some h
      refine fy_cald C w X_a9 g23 dX9_printed_23 ?_
      refine lv_goto (tgt := 28) hx hb dX9_printed_24 (by decide) ?_
      cases h
      exact fy_retI C w dX9_printed_28

set_option maxHeartbeats 4000000 in
set_option maxRecDepth 100000 in
theorem c_X9_printed (l : Launch) (g : fy_G) {S : fy_S} {v1 : Int32} {rr : Int32}  (h : X9_printed S v1 = some rr) : fy_M g X_Y l yX9_printed cX9_printed 2 (some .int) (fy_rm 0) [.ref (g.2.2.1 0), .int v1] S (fy_QI g X_Y rr S) :=
  fy_entry (by decide +kernel) (Nat.le_of_ble_eq_true rfl) (fun p e s m args below meth c ls C w hl => t_X9_printed C  h w hl)
def X0_hasSet (S : fy_S) (v0 : Nat) (v1 : Int32) : Option (Int32) :=
  if v1 < 0 then (
    some (0 : Int32))
  else (
    if ((1 : Int32) <<< ((S.1 v0 3) &&& 31)) ≤ v1 then (
      some (0 : Int32))
    else (
      some (1 : Int32)))
set_option maxHeartbeats 4000000 in
set_option maxRecDepth 100000 in
theorem t_X0_hasSet {p : Program} {l : Launch} {e : Env} {s : State} {m : MethodId} {args : Array Value} {below : List Frame} {meth : Method} {c : Code} {g : fy_G} {y : fy_Y} (C : fy_C g y p s m args meth c yX0_hasSet.cls cX0_hasSet 2 (some .boolean)) (hcl : X_clo y) {S : fy_S} {v0 : Nat} {v1 : Int32} {rr : Int32} (q0 : X_is y 0 v0) {H : Heap} {locs : List Loc} {ls : Array Slot} (h : X0_hasSet S v0 v1 = some rr) (w : fy_W g y S s H locs) (hl : lv_has ls 2 [(0, .ref (g.2.2.1 v0)), (1, .int v1)]) : W p l e (fy_rm 0) s m args below meth c H locs 0 0 (MQ below (fy_QI g y rr S) args s 0 0 (fy_A g y)) (F0 m 0 ls []) := by
  obtain ⟨hx, hb, hr, hts, hown, hlk, hml, hK, hD, hE, hN⟩ := id C
  rw [X0_hasSet] at h
  refine lv_iload_n hx hb dX0_hasSet_0 rfl (lv_at hl 1 rfl) ?_
  refine lv_if_lt (tgt := 18) hx hb dX0_hasSet_1 (by decide) (fun hc => ?_) (fun hc => ?_)
  · have h := fy_if_t h hc
    refine lv_iconst (v := (0 : Int32)) hx hb dX0_hasSet_18 (by decide) ?_
    cases h
    exact fy_retZ C w (by decide +kernel) dX0_hasSet_19
  · have h := fy_if_f h hc
    refine lv_iload_n hx hb dX0_hasSet_4 rfl (lv_at hl 1 rfl) ?_
    refine lv_iconst (v := (1 : Int32)) hx hb dX0_hasSet_5 (by decide) ?_
    refine lv_aload_n hx hb dX0_hasSet_6 rfl (lv_at hl 0 rfl) ?_
    refine gfX0_30 hcl C w q0 dX0_hasSet_7 ?_
    refine lv_ishl hx hb dX0_hasSet_10 ?_
    refine lv_icmp_ge (tgt := 18) hx hb dX0_hasSet_11 (by decide) (fun hc => ?_) (fun hc => ?_)
    · have h := fy_if_t h hc
      refine lv_iconst (v := (0 : Int32)) hx hb dX0_hasSet_18 (by decide) ?_
      cases h
      exact fy_retZ C w (by decide +kernel) dX0_hasSet_19
    · have h := fy_if_f h hc
      refine lv_iconst (v := (1 : Int32)) hx hb dX0_hasSet_14 (by decide) ?_
      refine lv_goto (tgt := 19) hx hb dX0_hasSet_15 (by decide) ?_
      cases h
      exact fy_retZ C w (by decide +kernel) dX0_hasSet_19

set_option maxHeartbeats 4000000 in
set_option maxRecDepth 100000 in
theorem c_X0_hasSet (l : Launch) (g : fy_G) {y : fy_Y} (hcl : X_clo y) {S : fy_S} {v0 : Nat} {v1 : Int32} {rr : Int32} (q0 : X_is y 0 v0) (h : X0_hasSet S v0 v1 = some rr) : fy_M g y l yX0_hasSet cX0_hasSet 2 (some .boolean) (fy_rm 0) [.ref (g.2.2.1 v0), .int v1] S (fy_QI g y rr S) :=
  fy_entry (by decide +kernel) (Nat.le_of_ble_eq_true rfl) (fun p e s m args below meth c ls C w hl => t_X0_hasSet C hcl q0 h w hl)
def X9_isIn (S : fy_S) (v0 : Int64) (v2 : Int32) : Option (Int32) :=
  if (lg_cmp ((fy_lus v0 v2) &&& (1 : Int64)) (0 : Int64)) = 0 then (
    some (0 : Int32))
  else (
    some (1 : Int32))
set_option maxHeartbeats 4000000 in
set_option maxRecDepth 100000 in
theorem t_X9_isIn {p : Program} {l : Launch} {e : Env} {s : State} {m : MethodId} {args : Array Value} {below : List Frame} {meth : Method} {c : Code} {g : fy_G} {y : fy_Y} (C : fy_C g y p s m args meth c yX9_isIn.cls cX9_isIn 3 (some .boolean)) (hcl : X_clo y) {S : fy_S} {v0 : Int64} {v2 : Int32} {rr : Int32}  {H : Heap} {locs : List Loc} {ls : Array Slot} (h : X9_isIn S v0 v2 = some rr) (w : fy_W g y S s H locs) (hl : lv_has ls 3 [(0, .long v0), (2, .int v2)]) : W p l e (fy_rm 0) s m args below meth c H locs 0 0 (MQ below (fy_QI g y rr S) args s 0 0 (fy_A g y)) (F0 m 0 ls []) := by
  obtain ⟨hx, hb, hr, hts, hown, hlk, hml, hK, hD, hE, hN⟩ := id C
  rw [X9_isIn] at h
  refine lv_lload_n hx hb dX9_isIn_0 rfl (lv_at hl 0 rfl) ?_
  refine lv_iload_n hx hb dX9_isIn_1 rfl (lv_at hl 1 rfl) ?_
  refine lv_lushr (v := fy_lus v0 v2) hx hb dX9_isIn_2 rfl ?_
  refine lv_lconst (v := (1 : Int64)) hx hb dX9_isIn_3 (by decide) ?_
  refine lv_land hx hb dX9_isIn_4 ?_
  refine lv_lconst (v := (0 : Int64)) hx hb dX9_isIn_5 (by decide) ?_
  refine W.lcmp hx hb dX9_isIn_6 ?_
  refine lv_if_eq (tgt := 14) hx hb dX9_isIn_7 (by decide) (fun hc => ?_) (fun hc => ?_)
  · have h := fy_if_t h hc
    refine lv_iconst (v := (0 : Int32)) hx hb dX9_isIn_14 (by decide) ?_
    cases h
    exact fy_retZ C w (by decide +kernel) dX9_isIn_15
  · have h := fy_if_f h hc
    refine lv_iconst (v := (1 : Int32)) hx hb dX9_isIn_10 (by decide) ?_
    refine lv_goto (tgt := 15) hx hb dX9_isIn_11 (by decide) ?_
    cases h
    exact fy_retZ C w (by decide +kernel) dX9_isIn_15

set_option maxHeartbeats 4000000 in
set_option maxRecDepth 100000 in
theorem c_X9_isIn (l : Launch) (g : fy_G) {y : fy_Y} (hcl : X_clo y) {S : fy_S} {v0 : Int64} {v2 : Int32} {rr : Int32}  (h : X9_isIn S v0 v2 = some rr) : fy_M g y l yX9_isIn cX9_isIn 3 (some .boolean) (fy_rm 0) [.long v0, .int v2] S (fy_QI g y rr S) :=
  fy_entry (by decide +kernel) (Nat.le_of_ble_eq_true rfl) (fun p e s m args below meth c ls C w hl => t_X9_isIn C hcl  h w hl)
def X2_holdsIn (S : fy_S) (v0 : Nat) (v1 : Int32) : Option (Int32) :=
  fy_bd (X9_isIn S (S.2 v0 2) v1) fun r5 =>
  fy_gd (fy_nr .boolean r5) <| some r5
set_option maxHeartbeats 4000000 in
set_option maxRecDepth 100000 in
theorem t_X2_holdsIn {p : Program} {l : Launch} {e : Env} {s : State} {m : MethodId} {args : Array Value} {below : List Frame} {meth : Method} {c : Code} {g : fy_G} {y : fy_Y} (C : fy_C g y p s m args meth c yX2_holdsIn.cls cX2_holdsIn 2 (some .boolean)) (hcl : X_clo y) {S : fy_S} {v0 : Nat} {v1 : Int32} {rr : Int32} (q0 : X_is y 2 v0) {H : Heap} {locs : List Loc} {ls : Array Slot} (h : X2_holdsIn S v0 v1 = some rr) (w : fy_W g y S s H locs) (hl : lv_has ls 2 [(0, .ref (g.2.2.1 v0)), (1, .int v1)]) : W p l e (fy_rm 1) s m args below meth c H locs 0 0 (MQ below (fy_QI g y rr S) args s 0 0 (fy_A g y)) (F0 m 0 ls []) := by
  obtain ⟨hx, hb, hr, hts, hown, hlk, hml, hK, hD, hE, hN⟩ := id C
  rw [X2_holdsIn] at h
  refine lv_aload_n hx hb dX2_holdsIn_0 rfl (lv_at hl 0 rfl) ?_
  refine gfX2_22 hcl C w q0 dX2_holdsIn_1 ?_
  refine lv_iload_n hx hb dX2_holdsIn_4 rfl (lv_at hl 1 rfl) ?_
  obtain ⟨r5, h5, h⟩ := fy_bd_some h
  refine fy_calI w (fy_runN (As := [.long (S.2 v0 2), .int v1]) (rest := []) C w (c_X9_isIn l g hcl  h5) ksX2_26 ⟨Nat.le_of_ble_eq_true rfl, Nat.le_of_ble_eq_true rfl⟩ rfl hl.1 rfl (Nat.le_of_ble_eq_true rfl) ⟨Nat.le_refl _, Nat.le_refl _⟩ dX2_holdsIn_5) (fun H locs w => ?_)
  obtain ⟨gg, h⟩ := fy_gd_some h
  cases h
  exact fy_retZ C w (fy_nr_ok gg) dX2_holdsIn_8

set_option maxHeartbeats 4000000 in
set_option maxRecDepth 100000 in
theorem c_X2_holdsIn (l : Launch) (g : fy_G) {y : fy_Y} (hcl : X_clo y) {S : fy_S} {v0 : Nat} {v1 : Int32} {rr : Int32} (q0 : X_is y 2 v0) (h : X2_holdsIn S v0 v1 = some rr) : fy_M g y l yX2_holdsIn cX2_holdsIn 2 (some .boolean) (fy_rm 1) [.ref (g.2.2.1 v0), .int v1] S (fy_QI g y rr S) :=
  fy_entry (by decide +kernel) (Nat.le_of_ble_eq_true rfl) (fun p e s m args below meth c ls C w hl => t_X2_holdsIn C hcl q0 h w hl)
def X9_isSatisfied (S : fy_S) (v1 : Int32) (v2 : Int32) (v3 : Int32) (v4 : Int32) : Option (Int32) :=
  fy_bd (X9_automatonIn S v1) fun r2 =>
  fy_bd (X9_formulaIn S v1 v2 v3) fun r11 =>
  match r2 with
  | none => (
    some (-2 : Int32))
  | some r2_ => (
    match r11 with
    | none => (
      some (-2 : Int32))
    | some r11_ => (
      fy_bd (X0_hasSet S r2_ v4) fun r30 =>
      if r30 = 0 then (
        some (-2 : Int32))
      else (
        fy_bd (X2_holdsIn S r11_ v4) fun r43 =>
        if r43 = 0 then (
          some (0 : Int32))
        else (
          some (1 : Int32)))))
set_option maxHeartbeats 4000000 in
set_option maxRecDepth 100000 in
theorem t_X9_isSatisfied {p : Program} {l : Launch} {e : Env} {s : State} {m : MethodId} {args : Array Value} {below : List Frame} {meth : Method} {c : Code} {g : fy_G} (C : fy_C g X_Y p s m args meth c yX9_isSatisfied.cls cX9_isSatisfied 7 (some .int)) {S : fy_S} {v1 : Int32} {v2 : Int32} {v3 : Int32} {v4 : Int32} {rr : Int32}  {H : Heap} {locs : List Loc} {ls : Array Slot} (h : X9_isSatisfied S v1 v2 v3 v4 = some rr) (w : fy_W g X_Y S s H locs) (hl : lv_has ls 7 [(0, .ref (g.2.2.1 0)), (1, .int v1), (2, .int v2), (3, .int v3), (4, .int v4)]) : W p l e (fy_rm 4) s m args below meth c H locs 0 0 (MQ below (fy_QI g X_Y rr S) args s 0 0 (fy_A g X_Y)) (F0 m 0 ls []) := by
  obtain ⟨hx, hb, hr, hts, hown, hlk, hml, hK, hD, hE, hN⟩ := id C
  rw [X9_isSatisfied] at h
  refine lv_aload_n hx hb dX9_isSatisfied_0 rfl (lv_at hl 0 rfl) ?_
  refine lv_iload_n hx hb dX9_isSatisfied_1 rfl (lv_at hl 1 rfl) ?_
  obtain ⟨r2, h2, h⟩ := fy_bd_some h
  refine fy_calE w (fy_runV (As := [.int v1]) (rest := []) C w (c_X9_automatonIn l g  h2) (X_o9 X_full (X_i0)) ksX9_88 rfl ⟨Nat.le_of_ble_eq_true rfl, Nat.le_of_ble_eq_true rfl⟩ rfl hl.1 rfl (Nat.le_of_ble_eq_true rfl) ⟨Nat.le_refl _, Nat.le_refl _⟩ dX9_isSatisfied_2) (fun H locs w => ?_)
  refine fy_astoreO (lv' := [(5, va_re g.2.2.1 r2), (0, .ref (g.2.2.1 0)), (1, .int v1), (2, .int v2), (3, .int v3), (4, .int v4)]) hx hb dX9_isSatisfied_5 hl (by decide) rfl (fun ls hl => ?_)
  refine lv_aload_n hx hb dX9_isSatisfied_7 rfl (lv_at hl 1 rfl) ?_
  refine lv_iload_n hx hb dX9_isSatisfied_8 rfl (lv_at hl 2 rfl) ?_
  refine lv_iload_n hx hb dX9_isSatisfied_9 rfl (lv_at hl 3 rfl) ?_
  refine lv_iload_n hx hb dX9_isSatisfied_10 rfl (lv_at hl 4 rfl) ?_
  obtain ⟨r11, h11, h⟩ := fy_bd_some h
  refine fy_calE w (fy_runV (As := [.int v1, .int v2, .int v3]) (rest := []) C w (c_X9_formulaIn l g  h11) (X_o9 X_full (X_i0)) ksX9_131 rfl ⟨Nat.le_of_ble_eq_true rfl, Nat.le_of_ble_eq_true rfl⟩ rfl hl.1 rfl (Nat.le_of_ble_eq_true rfl) ⟨Nat.le_refl _, Nat.le_refl _⟩ dX9_isSatisfied_11) (fun H locs w => ?_)
  refine fy_astoreO (lv' := [(6, va_re g.2.2.1 r11), (5, va_re g.2.2.1 r2), (0, .ref (g.2.2.1 0)), (1, .int v1), (2, .int v2), (3, .int v3), (4, .int v4)]) hx hb dX9_isSatisfied_14 hl (by decide) (by simp [fy_recat]) (fun ls hl => ?_)
  cases r2 with
  | none =>
    dsimp only at h
    refine lv_aloadN hx hb dX9_isSatisfied_16 (lv_at hl 1 rfl) ?_
    refine lv_ifnullN (tgt := 36) hx hb dX9_isSatisfied_18 (by decide) ?_
    refine lv_bipush (v := (-2 : Int32)) hx hb dX9_isSatisfied_36 (by decide) ?_
    cases h
    exact fy_retI C w dX9_isSatisfied_38
  | some r2_ =>
    dsimp only at h
    refine lv_aload hx hb dX9_isSatisfied_16 (lv_at hl 1 rfl) ?_
    refine lv_ifnull hx hb dX9_isSatisfied_18 ?_
    cases r11 with
    | none =>
      dsimp only at h
      refine lv_aloadN hx hb dX9_isSatisfied_21 (lv_at hl 0 rfl) ?_
      refine lv_ifnullN (tgt := 36) hx hb dX9_isSatisfied_23 (by decide) ?_
      refine lv_bipush (v := (-2 : Int32)) hx hb dX9_isSatisfied_36 (by decide) ?_
      cases h
      exact fy_retI C w dX9_isSatisfied_38
    | some r11_ =>
      dsimp only at h
      refine lv_aload hx hb dX9_isSatisfied_21 (lv_at hl 0 rfl) ?_
      refine lv_ifnull hx hb dX9_isSatisfied_23 ?_
      refine lv_aload hx hb dX9_isSatisfied_26 (lv_at hl 1 rfl) ?_
      refine lv_iload hx hb dX9_isSatisfied_28 (lv_at hl 6 rfl) ?_
      obtain ⟨r30, h30, h⟩ := fy_bd_some h
      refine fy_calI w (fy_runV (As := [.int v4]) (rest := []) C w (c_X0_hasSet l g X_full (cls_X9_automatonIn  h2) h30) (X_o0 X_full (cls_X9_automatonIn  h2)) ksX9_144 rfl ⟨Nat.le_of_ble_eq_true rfl, Nat.le_of_ble_eq_true rfl⟩ rfl hl.1 rfl (Nat.le_of_ble_eq_true rfl) ⟨Nat.le_refl _, Nat.le_refl _⟩ dX9_isSatisfied_30) (fun H locs w => ?_)
      refine lv_if_ne (tgt := 39) hx hb dX9_isSatisfied_33 (by decide) (fun hc => ?_) (fun hc => ?_)
      · have h := fy_if_f h hc
        refine lv_aload hx hb dX9_isSatisfied_39 (lv_at hl 0 rfl) ?_
        refine lv_iload hx hb dX9_isSatisfied_41 (lv_at hl 6 rfl) ?_
        obtain ⟨r43, h43, h⟩ := fy_bd_some h
        refine fy_calI w (fy_runV (As := [.int v4]) (rest := []) C w (c_X2_holdsIn l g X_full (cls_X9_formulaIn  h11) h43) (X_o2 X_full (cls_X9_formulaIn  h11)) ksX9_147 rfl ⟨Nat.le_of_ble_eq_true rfl, Nat.le_of_ble_eq_true rfl⟩ rfl hl.1 rfl (Nat.le_of_ble_eq_true rfl) ⟨Nat.le_refl _, Nat.le_refl _⟩ dX9_isSatisfied_43) (fun H locs w => ?_)
        refine lv_if_eq (tgt := 53) hx hb dX9_isSatisfied_46 (by decide) (fun hc => ?_) (fun hc => ?_)
        · have h := fy_if_t h hc
          refine lv_iconst (v := (0 : Int32)) hx hb dX9_isSatisfied_53 (by decide) ?_
          cases h
          exact fy_retI C w dX9_isSatisfied_54
        · have h := fy_if_f h hc
          refine lv_iconst (v := (1 : Int32)) hx hb dX9_isSatisfied_49 (by decide) ?_
          refine lv_goto (tgt := 54) hx hb dX9_isSatisfied_50 (by decide) ?_
          cases h
          exact fy_retI C w dX9_isSatisfied_54
      · have h := fy_if_t h hc
        refine lv_bipush (v := (-2 : Int32)) hx hb dX9_isSatisfied_36 (by decide) ?_
        cases h
        exact fy_retI C w dX9_isSatisfied_38

set_option maxHeartbeats 4000000 in
set_option maxRecDepth 100000 in
theorem c_X9_isSatisfied (l : Launch) (g : fy_G) {S : fy_S} {v1 : Int32} {v2 : Int32} {v3 : Int32} {v4 : Int32} {rr : Int32}  (h : X9_isSatisfied S v1 v2 v3 v4 = some rr) : fy_M g X_Y l yX9_isSatisfied cX9_isSatisfied 7 (some .int) (fy_rm 4) [.ref (g.2.2.1 0), .int v1, .int v2, .int v3, .int v4] S (fy_QI g X_Y rr S) :=
  fy_entry (by decide +kernel) (Nat.le_of_ble_eq_true rfl) (fun p e s m args below meth c ls C w hl => t_X9_isSatisfied C  h w hl)
def X9_minimalSets_5 (S : fy_S) : Nat → Int64 → Int64 → Int32 → Option (Int64)
  | 0, _, _, _ => none
  | fu + 1, v0, v2, v4 =>
    if (6 : Int32) ≤ v4 then (
      some (v0 &&& (v2 ^^^ (-1 : Int64))))
    else (
      fy_gd (fy_ix v4 6) <|
      fy_bl (v2 ||| ((v0 &&& ((fy_cont v4.toNatClampNeg) ^^^ (-1 : Int64))) <<< (((1 : Int32) <<< (v4 &&& 31)).toInt64 &&& 63))) fun x31 =>
      fy_bl (v4 + (1 : Int32)) fun x32 =>
      X9_minimalSets_5 S fu v0 x31 x32)
def X9_minimalSets (S : fy_S) (v0 : Int64) : Option (Int64) :=
  X9_minimalSets_5 S fy_fu v0 (0 : Int64) (0 : Int32)
set_option maxHeartbeats 4000000 in
set_option maxRecDepth 100000 in
theorem t_X9_minimalSets_5 {p : Program} {l : Launch} {e : Env} {s : State} {m : MethodId} {args : Array Value} {below : List Frame} {meth : Method} {c : Code} {g : fy_G} {y : fy_Y} (C : fy_C g y p s m args meth c yX9_minimalSets.cls cX9_minimalSets 5 (some .long)) {tt : Nat} (hst : g.2.2.2 = some tt) (hcl : X_clo y) {S : fy_S} {rr : Int64} : ∀ (fu : Nat) (v0 : Int64) (v2 : Int64) (v4 : Int32) (H : Heap) (locs : List Loc) (ls : Array Slot), X9_minimalSets_5 S fu v0 v2 v4 = some rr → fy_W g y S s H locs → lv_has ls 5 [(0, .long v0), (2, .long v2), (4, .int v4)] → W p l e (fy_rm 0) s m args below meth c H locs 0 0 (MQ below (fy_QL g y rr S) args s 0 0 (fy_A g y)) (F0 m 5 ls []) := by
  obtain ⟨hx, hb, hr, hts, hown, hlk, hml, hK, hD, hE, hN⟩ := id C
  intro fu
  induction fu with
  | zero => intro v0 v2 v4 H locs ls h; cases h
  | succ fu ih =>
    intro v0 v2 v4 H locs ls h w  hl
    rw [X9_minimalSets_5] at h
    refine lv_iload hx hb dX9_minimalSets_5 (lv_at hl 2 rfl) ?_
    refine lv_bipush (v := (6 : Int32)) hx hb dX9_minimalSets_7 (by decide) ?_
    refine lv_icmp_ge (tgt := 38) hx hb dX9_minimalSets_9 (by decide) (fun hc => ?_) (fun hc => ?_)
    · have h := fy_if_t h hc
      refine lv_lload_n hx hb dX9_minimalSets_38 rfl (lv_at hl 0 rfl) ?_
      refine lv_lload_n hx hb dX9_minimalSets_39 rfl (lv_at hl 1 rfl) ?_
      refine lv_ldc2 (v := (-1 : Int64)) hx hb hown (hts _ tw428) dX9_minimalSets_40 ?_
      refine lv_lxor hx hb dX9_minimalSets_43 ?_
      refine lv_land hx hb dX9_minimalSets_44 ?_
      cases h
      exact fy_retL C w dX9_minimalSets_45
    · have h := fy_if_f h hc
      refine lv_lload_n hx hb dX9_minimalSets_12 rfl (lv_at hl 1 rfl) ?_
      refine lv_lload_n hx hb dX9_minimalSets_13 rfl (lv_at hl 0 rfl) ?_
      refine va_gets hx hb (hE tt hst).1 w.2 hown (hts _ tw429) (fun _ h => h) dX9_minimalSets_14 ?_
      refine lv_iload hx hb dX9_minimalSets_17 (lv_at hl 2 rfl) ?_
      obtain ⟨g19, h⟩ := fy_gd_some h
      refine va_tl hx hb (hE tt hst).2 w.2 (fy_ix_in g19) (v := .long (fy_cont v4.toNatClampNeg)) rfl dX9_minimalSets_19 ?_
      refine lv_ldc2 (v := (-1 : Int64)) hx hb hown (hts _ tw428) dX9_minimalSets_20 ?_
      refine lv_lxor hx hb dX9_minimalSets_23 ?_
      refine lv_land hx hb dX9_minimalSets_24 ?_
      refine lv_iconst (v := (1 : Int32)) hx hb dX9_minimalSets_25 (by decide) ?_
      refine lv_iload hx hb dX9_minimalSets_26 (lv_at hl 2 rfl) ?_
      refine lv_ishl hx hb dX9_minimalSets_28 ?_
      refine lv_lshl (v := (v0 &&& ((fy_cont v4.toNatClampNeg) ^^^ (-1 : Int64))) <<< (((1 : Int32) <<< (v4 &&& 31)).toInt64 &&& 63)) hx hb dX9_minimalSets_29 rfl ?_
      refine lv_lor hx hb dX9_minimalSets_30 ?_
      refine lv_topl (fun x31 e31 => ?_)
      have h := fy_bl_some e31 h
      refine lv_lstore_n (lv' := [(2, .long x31), (0, .long v0), (4, .int v4)]) hx hb dX9_minimalSets_31 rfl hl (by decide) rfl (fun ls hl => ?_)
      obtain ⟨x32, e32⟩ : ∃ z : Int32, z = v4 + (1 : Int32) := ⟨_, rfl⟩
      have h := fy_bl_some e32 h
      refine lv_iinc (k := 2) (v := x32) (lv' := [(4, .int x32), (2, .long x31), (0, .long v0)]) hx hb dX9_minimalSets_32 hl rfl (by rw [e32]; rfl) (by decide) rfl (fun ls hl => ?_)
      refine lv_goto (tgt := 5) hx hb dX9_minimalSets_35 (by decide) ?_
      exact ih _ _ _ _ _ _ h w (lv_sub hl [2, 1, 0] rfl)

set_option maxHeartbeats 4000000 in
set_option maxRecDepth 100000 in
theorem t_X9_minimalSets {p : Program} {l : Launch} {e : Env} {s : State} {m : MethodId} {args : Array Value} {below : List Frame} {meth : Method} {c : Code} {g : fy_G} {y : fy_Y} (C : fy_C g y p s m args meth c yX9_minimalSets.cls cX9_minimalSets 5 (some .long)) {tt : Nat} (hst : g.2.2.2 = some tt) (hcl : X_clo y) {S : fy_S} {v0 : Int64} {rr : Int64}  {H : Heap} {locs : List Loc} {ls : Array Slot} (h : X9_minimalSets S v0 = some rr) (w : fy_W g y S s H locs) (hl : lv_has ls 5 [(0, .long v0)]) : W p l e (fy_rm 0) s m args below meth c H locs 0 0 (MQ below (fy_QL g y rr S) args s 0 0 (fy_A g y)) (F0 m 0 ls []) := by
  obtain ⟨hx, hb, hr, hts, hown, hlk, hml, hK, hD, hE, hN⟩ := id C
  rw [X9_minimalSets] at h
  refine lv_lconst (v := (0 : Int64)) hx hb dX9_minimalSets_0 (by decide) ?_
  refine lv_lstore_n (lv' := [(2, .long (0 : Int64)), (0, .long v0)]) hx hb dX9_minimalSets_1 rfl hl (by decide) rfl (fun ls hl => ?_)
  refine lv_iconst (v := (0 : Int32)) hx hb dX9_minimalSets_2 (by decide) ?_
  refine lv_istore (lv' := [(4, .int (0 : Int32)), (2, .long (0 : Int64)), (0, .long v0)]) hx hb dX9_minimalSets_3 hl (by decide) rfl (fun ls hl => ?_)
  exact t_X9_minimalSets_5 C hst hcl fy_fu _ _ _ _ _ _ h w (lv_sub hl [2, 1, 0] rfl)

set_option maxHeartbeats 4000000 in
set_option maxRecDepth 100000 in
theorem c_X9_minimalSets (l : Launch) (g : fy_G) {tt : Nat} (hst : g.2.2.2 = some tt) {y : fy_Y} (hcl : X_clo y) {S : fy_S} {v0 : Int64} {rr : Int64}  (h : X9_minimalSets S v0 = some rr) : fy_M g y l yX9_minimalSets cX9_minimalSets 5 (some .long) (fy_rm 0) [.long v0] S (fy_QL g y rr S) :=
  fy_entry (by decide +kernel) (Nat.le_of_ble_eq_true rfl) (fun p e s m args below meth c ls C w hl => t_X9_minimalSets C hst hcl  h w hl)
end
