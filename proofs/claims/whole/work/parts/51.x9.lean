noncomputable section
def X9_findDifference (S : fy_S) (v1 : Int32) (v2 : Int32) : Option (fy_S × Int32) :=
  fy_bd (X9_automatonIn S v1) fun r2 =>
  fy_bd (X9_automatonIn S v2) fun r8 =>
  match r2 with
  | none => (
    some (S, (-2 : Int32)))
  | some r2_ => (
    match r8 with
    | none => (
      some (S, (-2 : Int32)))
    | some r8_ => (
      if (S.1 r2_ 4) = (S.1 r8_ 4) then (
        fy_bp (X9_searchPairs S r2_ r8_ (0 : Int32)) fun S45 r45 =>
        if r45 = 0 then (
          some (S45, (-1 : Int32)))
        else (
          fy_bd (X6_spell S45 20 26 14) fun S69 =>
          fy_bd (X8_costIn S69 14 r2_) fun r78 =>
          fy_bl (fy_sI S69 0 13 r78) fun S81 =>
          some (S81, (S81.1 14 1))))
      else (
        some (S, (-4 : Int32)))))
set_option maxHeartbeats 4000000 in
set_option maxRecDepth 100000 in
theorem t_X9_findDifference {p : Program} {l : Launch} {e : Env} {s : State} {m : MethodId} {args : Array Value} {below : List Frame} {meth : Method} {c : Code} {g : fy_G} (C : fy_C g X_Y p s m args meth c yX9_findDifference.cls cX9_findDifference 5 (some .int)) {S : fy_S} {v1 : Int32} {v2 : Int32} {Sr : fy_S} {rr : Int32}  {H : Heap} {locs : List Loc} {ls : Array Slot} (h : X9_findDifference S v1 v2 = some (Sr, rr)) (w : fy_W g X_Y S s H locs) (hl : lv_has ls 5 [(0, .ref (g.2.2.1 0)), (1, .int v1), (2, .int v2)]) : W p l e (fy_rm 5) s m args below meth c H locs 0 0 (MQ below (fy_QI g X_Y rr Sr) args s 0 0 (fy_A g X_Y)) (F0 m 0 ls []) := by
  obtain ⟨hx, hb, hr, hts, hown, hlk, hml, hK, hD, hE, hN⟩ := id C
  rw [X9_findDifference] at h
  refine lv_aload_n hx hb dX9_findDifference_0 rfl (lv_at hl 0 rfl) ?_
  refine lv_iload_n hx hb dX9_findDifference_1 rfl (lv_at hl 1 rfl) ?_
  obtain ⟨r2, h2, h⟩ := fy_bd_some h
  refine fy_calE w (fy_runV (As := [.int v1]) (rest := []) C w (c_X9_automatonIn l g  h2) (X_o9 X_full (X_i0)) ksX9_88 rfl ⟨Nat.le_of_ble_eq_true rfl, Nat.le_of_ble_eq_true rfl⟩ rfl hl.1 rfl (Nat.le_of_ble_eq_true rfl) ⟨Nat.le_refl _, Nat.le_refl _⟩ dX9_findDifference_2) (fun H locs w => ?_)
  refine fy_astoreO_n (lv' := [(3, va_re g.2.2.1 r2), (0, .ref (g.2.2.1 0)), (1, .int v1), (2, .int v2)]) hx hb dX9_findDifference_5 rfl hl (by decide) rfl (fun ls hl => ?_)
  refine lv_aload_n hx hb dX9_findDifference_6 rfl (lv_at hl 1 rfl) ?_
  refine lv_iload_n hx hb dX9_findDifference_7 rfl (lv_at hl 3 rfl) ?_
  obtain ⟨r8, h8, h⟩ := fy_bd_some h
  refine fy_calE w (fy_runV (As := [.int v2]) (rest := []) C w (c_X9_automatonIn l g  h8) (X_o9 X_full (X_i0)) ksX9_88 rfl ⟨Nat.le_of_ble_eq_true rfl, Nat.le_of_ble_eq_true rfl⟩ rfl hl.1 rfl (Nat.le_of_ble_eq_true rfl) ⟨Nat.le_refl _, Nat.le_refl _⟩ dX9_findDifference_8) (fun H locs w => ?_)
  refine fy_astoreO (lv' := [(4, va_re g.2.2.1 r8), (3, va_re g.2.2.1 r2), (0, .ref (g.2.2.1 0)), (1, .int v1), (2, .int v2)]) hx hb dX9_findDifference_11 hl (by decide) (by simp [fy_recat]) (fun ls hl => ?_)
  cases r2 with
  | none =>
    dsimp only at h
    refine lv_aload_nN hx hb dX9_findDifference_13 rfl (lv_at hl 1 rfl) ?_
    refine lv_ifnullN (tgt := 22) hx hb dX9_findDifference_14 (by decide) ?_
    refine lv_bipush (v := (-2 : Int32)) hx hb dX9_findDifference_22 (by decide) ?_
    cases h
    exact fy_retI C w dX9_findDifference_24
  | some r2_ =>
    dsimp only at h
    refine lv_aload_n hx hb dX9_findDifference_13 rfl (lv_at hl 1 rfl) ?_
    refine lv_ifnull hx hb dX9_findDifference_14 ?_
    cases r8 with
    | none =>
      dsimp only at h
      refine lv_aloadN hx hb dX9_findDifference_17 (lv_at hl 0 rfl) ?_
      refine lv_ifnonnullN hx hb dX9_findDifference_19 ?_
      refine lv_bipush (v := (-2 : Int32)) hx hb dX9_findDifference_22 (by decide) ?_
      cases h
      exact fy_retI C w dX9_findDifference_24
    | some r8_ =>
      dsimp only at h
      refine lv_aload hx hb dX9_findDifference_17 (lv_at hl 0 rfl) ?_
      refine lv_ifnonnull (tgt := 25) hx hb dX9_findDifference_19 (by decide) ?_
      refine lv_aload_n hx hb dX9_findDifference_25 rfl (lv_at hl 1 rfl) ?_
      refine gfX9_128 X_full C w (cls_X9_automatonIn  h2) dX9_findDifference_26 ?_
      refine lv_aload hx hb dX9_findDifference_29 (lv_at hl 0 rfl) ?_
      refine gfX9_128 X_full C w (cls_X9_automatonIn  h8) dX9_findDifference_31 ?_
      refine lv_icmp_eq (tgt := 40) hx hb dX9_findDifference_34 (by decide) (fun hc => ?_) (fun hc => ?_)
      · have h := fy_if_t h hc
        refine lv_aload_n hx hb dX9_findDifference_40 rfl (lv_at hl 2 rfl) ?_
        refine lv_aload_n hx hb dX9_findDifference_41 rfl (lv_at hl 1 rfl) ?_
        refine lv_aload hx hb dX9_findDifference_42 (lv_at hl 0 rfl) ?_
        refine lv_iconst (v := (0 : Int32)) hx hb dX9_findDifference_44 (by decide) ?_
        obtain ⟨S45, r45, h45, h⟩ := fy_bp_some h
        refine fy_calI w (fy_runV (As := [.ref (g.2.2.1 r2_), .ref (g.2.2.1 r8_), .int (0 : Int32)]) (rest := []) C w (c_X9_searchPairs l g (cls_X9_automatonIn  h2) (cls_X9_automatonIn  h8) h45) (X_o9 X_full (X_i0)) ksX9_245 rfl ⟨Nat.le_of_ble_eq_true rfl, Nat.le_of_ble_eq_true rfl⟩ rfl hl.1 rfl (Nat.le_of_ble_eq_true rfl) ⟨Nat.le_refl _, Nat.le_refl _⟩ dX9_findDifference_45) (fun H locs w => ?_)
        refine lv_if_ne (tgt := 53) hx hb dX9_findDifference_48 (by decide) (fun hc => ?_) (fun hc => ?_)
        · have h := fy_if_f h hc
          refine lv_aload_n hx hb dX9_findDifference_53 rfl (lv_at hl 2 rfl) ?_
          refine gfX9_76 X_full C w (X_i0) dX9_findDifference_54 ?_
          refine lv_aload_n hx hb dX9_findDifference_57 rfl (lv_at hl 2 rfl) ?_
          refine gfX9_59 X_full C w (X_i0) dX9_findDifference_58 ?_
          refine lv_aload_n hx hb dX9_findDifference_61 rfl (lv_at hl 2 rfl) ?_
          refine gfX9_63 X_full C w (X_i0) dX9_findDifference_62 ?_
          refine lv_aload_n hx hb dX9_findDifference_65 rfl (lv_at hl 2 rfl) ?_
          refine gfX9_46 X_full C w (X_i0) dX9_findDifference_66 ?_
          obtain ⟨S69, h69, h⟩ := fy_bd_some h
          refine fy_calV w (fy_runV (As := [.ref (g.2.2.1 20), .ref (g.2.2.1 26), .ref (g.2.2.1 14)]) (rest := []) C w (c_X6_spell l g X_i20 X_i26 X_i14 h69) (X_o6 X_full X_i34) ksX9_249 rfl ⟨Nat.le_of_ble_eq_true rfl, Nat.le_of_ble_eq_true rfl⟩ rfl hl.1 rfl (Nat.le_of_ble_eq_true rfl) ⟨Nat.le_refl _, Nat.le_refl _⟩ dX9_findDifference_69) (fun H locs w => ?_)
          refine lv_aload_n hx hb dX9_findDifference_72 rfl (lv_at hl 2 rfl) ?_
          refine lv_aload_n hx hb dX9_findDifference_73 rfl (lv_at hl 2 rfl) ?_
          refine gfX9_46 X_full C w (X_i0) dX9_findDifference_74 ?_
          refine lv_aload_n hx hb dX9_findDifference_77 rfl (lv_at hl 1 rfl) ?_
          obtain ⟨r78, h78, h⟩ := fy_bd_some h
          refine fy_calI w (fy_runV (As := [.ref (g.2.2.1 r2_)]) (rest := [.ref (g.2.2.1 0)]) C w (c_X8_costIn l g X_i14 (cls_X9_automatonIn  h2) h78) (X_o8 X_full X_i14) ksX9_241 rfl ⟨Nat.le_of_ble_eq_true rfl, Nat.le_of_ble_eq_true rfl⟩ rfl hl.1 rfl (Nat.le_of_ble_eq_true rfl) ⟨Nat.le_refl _, Nat.le_refl _⟩ dX9_findDifference_78) (fun H locs w => ?_)
          refine pfX9_84 X_full C w (X_i0) dX9_findDifference_81 (fun H locs w => ?_)
          obtain ⟨S81, e81⟩ : ∃ z, z = fy_sI S69 0 13 r78 := ⟨_, rfl⟩
          have h := fy_bl_some e81 h
          rw [← e81] at w
          refine lv_aload_n hx hb dX9_findDifference_84 rfl (lv_at hl 2 rfl) ?_
          refine gfX9_46 X_full C w (X_i0) dX9_findDifference_85 ?_
          refine gfX9_170 X_full C w X_i14 dX9_findDifference_88 ?_
          cases h
          exact fy_retI C w dX9_findDifference_91
        · have h := fy_if_t h hc
          refine lv_iconst (v := (-1 : Int32)) hx hb dX9_findDifference_51 (by decide) ?_
          cases h
          exact fy_retI C w dX9_findDifference_52
      · have h := fy_if_f h hc
        refine lv_bipush (v := (-4 : Int32)) hx hb dX9_findDifference_37 (by decide) ?_
        cases h
        exact fy_retI C w dX9_findDifference_39

set_option maxHeartbeats 4000000 in
set_option maxRecDepth 100000 in
theorem c_X9_findDifference (l : Launch) (g : fy_G) {S : fy_S} {v1 : Int32} {v2 : Int32} {Sr : fy_S} {rr : Int32}  (h : X9_findDifference S v1 v2 = some (Sr, rr)) : fy_M g X_Y l yX9_findDifference cX9_findDifference 5 (some .int) (fy_rm 5) [.ref (g.2.2.1 0), .int v1, .int v2] S (fy_QI g X_Y rr Sr) :=
  fy_entry (by decide +kernel) (Nat.le_of_ble_eq_true rfl) (fun p e s m args below meth c ls C w hl => t_X9_findDifference C  h w hl)
def X9_foundLetter (S : fy_S) (v1 : Int32) : Option (Int32) :=
  if v1 < 0 then (
    some (-1 : Int32))
  else (
    if (S.1 14 1) ≤ v1 then (
      some (-1 : Int32))
    else (
      fy_bd (X8_letterAt S 14 v1) fun r20 =>
      some r20))
set_option maxHeartbeats 4000000 in
set_option maxRecDepth 100000 in
theorem t_X9_foundLetter {p : Program} {l : Launch} {e : Env} {s : State} {m : MethodId} {args : Array Value} {below : List Frame} {meth : Method} {c : Code} {g : fy_G} (C : fy_C g X_Y p s m args meth c yX9_foundLetter.cls cX9_foundLetter 2 (some .int)) {S : fy_S} {v1 : Int32} {rr : Int32}  {H : Heap} {locs : List Loc} {ls : Array Slot} (h : X9_foundLetter S v1 = some rr) (w : fy_W g X_Y S s H locs) (hl : lv_has ls 2 [(0, .ref (g.2.2.1 0)), (1, .int v1)]) : W p l e (fy_rm 1) s m args below meth c H locs 0 0 (MQ below (fy_QI g X_Y rr S) args s 0 0 (fy_A g X_Y)) (F0 m 0 ls []) := by
  obtain ⟨hx, hb, hr, hts, hown, hlk, hml, hK, hD, hE, hN⟩ := id C
  rw [X9_foundLetter] at h
  refine lv_iload_n hx hb dX9_foundLetter_0 rfl (lv_at hl 1 rfl) ?_
  refine lv_if_lt (tgt := 26) hx hb dX9_foundLetter_1 (by decide) (fun hc => ?_) (fun hc => ?_)
  · have h := fy_if_t h hc
    refine lv_iconst (v := (-1 : Int32)) hx hb dX9_foundLetter_26 (by decide) ?_
    cases h
    exact fy_retI C w dX9_foundLetter_27
  · have h := fy_if_f h hc
    refine lv_iload_n hx hb dX9_foundLetter_4 rfl (lv_at hl 1 rfl) ?_
    refine lv_aload_n hx hb dX9_foundLetter_5 rfl (lv_at hl 0 rfl) ?_
    refine gfX9_46 X_full C w (X_i0) dX9_foundLetter_6 ?_
    refine gfX9_170 X_full C w X_i14 dX9_foundLetter_9 ?_
    refine lv_icmp_ge (tgt := 26) hx hb dX9_foundLetter_12 (by decide) (fun hc => ?_) (fun hc => ?_)
    · have h := fy_if_t h hc
      refine lv_iconst (v := (-1 : Int32)) hx hb dX9_foundLetter_26 (by decide) ?_
      cases h
      exact fy_retI C w dX9_foundLetter_27
    · have h := fy_if_f h hc
      refine lv_aload_n hx hb dX9_foundLetter_15 rfl (lv_at hl 0 rfl) ?_
      refine gfX9_46 X_full C w (X_i0) dX9_foundLetter_16 ?_
      refine lv_iload_n hx hb dX9_foundLetter_19 rfl (lv_at hl 1 rfl) ?_
      obtain ⟨r20, h20, h⟩ := fy_bd_some h
      refine fy_calI w (fy_runV (As := [.int v1]) (rest := []) C w (c_X8_letterAt l g X_i14 h20) (X_o8 X_full X_i14) ksX9_193 rfl ⟨Nat.le_of_ble_eq_true rfl, Nat.le_of_ble_eq_true rfl⟩ rfl hl.1 rfl (Nat.le_of_ble_eq_true rfl) ⟨Nat.le_refl _, Nat.le_refl _⟩ dX9_foundLetter_20) (fun H locs w => ?_)
      refine lv_goto (tgt := 27) hx hb dX9_foundLetter_23 (by decide) ?_
      cases h
      exact fy_retI C w dX9_foundLetter_27

set_option maxHeartbeats 4000000 in
set_option maxRecDepth 100000 in
theorem c_X9_foundLetter (l : Launch) (g : fy_G) {S : fy_S} {v1 : Int32} {rr : Int32}  (h : X9_foundLetter S v1 = some rr) : fy_M g X_Y l yX9_foundLetter cX9_foundLetter 2 (some .int) (fy_rm 1) [.ref (g.2.2.1 0), .int v1] S (fy_QI g X_Y rr S) :=
  fy_entry (by decide +kernel) (Nat.le_of_ble_eq_true rfl) (fun p e s m args below meth c ls C w hl => t_X9_foundLetter C  h w hl)
def X9_foundCost (S : fy_S)  : Option (Int32) :=
  some (S.1 0 13)
set_option maxHeartbeats 4000000 in
set_option maxRecDepth 100000 in
theorem t_X9_foundCost {p : Program} {l : Launch} {e : Env} {s : State} {m : MethodId} {args : Array Value} {below : List Frame} {meth : Method} {c : Code} {g : fy_G} (C : fy_C g X_Y p s m args meth c yX9_foundCost.cls cX9_foundCost 1 (some .int)) {S : fy_S}  {rr : Int32}  {H : Heap} {locs : List Loc} {ls : Array Slot} (h : X9_foundCost S  = some rr) (w : fy_W g X_Y S s H locs) (hl : lv_has ls 1 [(0, .ref (g.2.2.1 0))]) : W p l e (fy_rm 0) s m args below meth c H locs 0 0 (MQ below (fy_QI g X_Y rr S) args s 0 0 (fy_A g X_Y)) (F0 m 0 ls []) := by
  obtain ⟨hx, hb, hr, hts, hown, hlk, hml, hK, hD, hE, hN⟩ := id C
  rw [X9_foundCost] at h
  refine lv_aload_n hx hb dX9_foundCost_0 rfl (lv_at hl 0 rfl) ?_
  refine gfX9_84 X_full C w (X_i0) dX9_foundCost_1 ?_
  cases h
  exact fy_retI C w dX9_foundCost_4

set_option maxHeartbeats 4000000 in
set_option maxRecDepth 100000 in
theorem c_X9_foundCost (l : Launch) (g : fy_G) {S : fy_S}  {rr : Int32}  (h : X9_foundCost S  = some rr) : fy_M g X_Y l yX9_foundCost cX9_foundCost 1 (some .int) (fy_rm 0) [.ref (g.2.2.1 0)] S (fy_QI g X_Y rr S) :=
  fy_entry (by decide +kernel) (Nat.le_of_ble_eq_true rfl) (fun p e s m args below meth c ls C w hl => t_X9_foundCost C  h w hl)
def X9_isContained (S : fy_S) (v1 : Int32) (v2 : Int32) : Option (fy_S × Int32) :=
  fy_bd (X9_automatonIn S v1) fun r2 =>
  fy_bd (X9_automatonIn S v2) fun r8 =>
  match r2 with
  | none => (
    some (S, (-2 : Int32)))
  | some r2_ => (
    match r8 with
    | none => (
      some (S, (-2 : Int32)))
    | some r8_ => (
      if (S.1 r2_ 4) = (S.1 r8_ 4) then (
        fy_bp (X9_searchPairs S r2_ r8_ (1 : Int32)) fun S45 r45 =>
        if r45 = 0 then (
          some (S45, (1 : Int32)))
        else (
          some (S45, (0 : Int32))))
      else (
        some (S, (-4 : Int32)))))
set_option maxHeartbeats 4000000 in
set_option maxRecDepth 100000 in
theorem t_X9_isContained {p : Program} {l : Launch} {e : Env} {s : State} {m : MethodId} {args : Array Value} {below : List Frame} {meth : Method} {c : Code} {g : fy_G} (C : fy_C g X_Y p s m args meth c yX9_isContained.cls cX9_isContained 5 (some .int)) {S : fy_S} {v1 : Int32} {v2 : Int32} {Sr : fy_S} {rr : Int32}  {H : Heap} {locs : List Loc} {ls : Array Slot} (h : X9_isContained S v1 v2 = some (Sr, rr)) (w : fy_W g X_Y S s H locs) (hl : lv_has ls 5 [(0, .ref (g.2.2.1 0)), (1, .int v1), (2, .int v2)]) : W p l e (fy_rm 5) s m args below meth c H locs 0 0 (MQ below (fy_QI g X_Y rr Sr) args s 0 0 (fy_A g X_Y)) (F0 m 0 ls []) := by
  obtain ⟨hx, hb, hr, hts, hown, hlk, hml, hK, hD, hE, hN⟩ := id C
  rw [X9_isContained] at h
  refine lv_aload_n hx hb dX9_isContained_0 rfl (lv_at hl 0 rfl) ?_
  refine lv_iload_n hx hb dX9_isContained_1 rfl (lv_at hl 1 rfl) ?_
  obtain ⟨r2, h2, h⟩ := fy_bd_some h
  refine fy_calE w (fy_runV (As := [.int v1]) (rest := []) C w (c_X9_automatonIn l g  h2) (X_o9 X_full (X_i0)) ksX9_88 rfl ⟨Nat.le_of_ble_eq_true rfl, Nat.le_of_ble_eq_true rfl⟩ rfl hl.1 rfl (Nat.le_of_ble_eq_true rfl) ⟨Nat.le_refl _, Nat.le_refl _⟩ dX9_isContained_2) (fun H locs w => ?_)
  refine fy_astoreO_n (lv' := [(3, va_re g.2.2.1 r2), (0, .ref (g.2.2.1 0)), (1, .int v1), (2, .int v2)]) hx hb dX9_isContained_5 rfl hl (by decide) rfl (fun ls hl => ?_)
  refine lv_aload_n hx hb dX9_isContained_6 rfl (lv_at hl 1 rfl) ?_
  refine lv_iload_n hx hb dX9_isContained_7 rfl (lv_at hl 3 rfl) ?_
  obtain ⟨r8, h8, h⟩ := fy_bd_some h
  refine fy_calE w (fy_runV (As := [.int v2]) (rest := []) C w (c_X9_automatonIn l g  h8) (X_o9 X_full (X_i0)) ksX9_88 rfl ⟨Nat.le_of_ble_eq_true rfl, Nat.le_of_ble_eq_true rfl⟩ rfl hl.1 rfl (Nat.le_of_ble_eq_true rfl) ⟨Nat.le_refl _, Nat.le_refl _⟩ dX9_isContained_8) (fun H locs w => ?_)
  refine fy_astoreO (lv' := [(4, va_re g.2.2.1 r8), (3, va_re g.2.2.1 r2), (0, .ref (g.2.2.1 0)), (1, .int v1), (2, .int v2)]) hx hb dX9_isContained_11 hl (by decide) (by simp [fy_recat]) (fun ls hl => ?_)
  cases r2 with
  | none =>
    dsimp only at h
    refine lv_aload_nN hx hb dX9_isContained_13 rfl (lv_at hl 1 rfl) ?_
    refine lv_ifnullN (tgt := 22) hx hb dX9_isContained_14 (by decide) ?_
    refine lv_bipush (v := (-2 : Int32)) hx hb dX9_isContained_22 (by decide) ?_
    cases h
    exact fy_retI C w dX9_isContained_24
  | some r2_ =>
    dsimp only at h
    refine lv_aload_n hx hb dX9_isContained_13 rfl (lv_at hl 1 rfl) ?_
    refine lv_ifnull hx hb dX9_isContained_14 ?_
    cases r8 with
    | none =>
      dsimp only at h
      refine lv_aloadN hx hb dX9_isContained_17 (lv_at hl 0 rfl) ?_
      refine lv_ifnonnullN hx hb dX9_isContained_19 ?_
      refine lv_bipush (v := (-2 : Int32)) hx hb dX9_isContained_22 (by decide) ?_
      cases h
      exact fy_retI C w dX9_isContained_24
    | some r8_ =>
      dsimp only at h
      refine lv_aload hx hb dX9_isContained_17 (lv_at hl 0 rfl) ?_
      refine lv_ifnonnull (tgt := 25) hx hb dX9_isContained_19 (by decide) ?_
      refine lv_aload_n hx hb dX9_isContained_25 rfl (lv_at hl 1 rfl) ?_
      refine gfX9_128 X_full C w (cls_X9_automatonIn  h2) dX9_isContained_26 ?_
      refine lv_aload hx hb dX9_isContained_29 (lv_at hl 0 rfl) ?_
      refine gfX9_128 X_full C w (cls_X9_automatonIn  h8) dX9_isContained_31 ?_
      refine lv_icmp_eq (tgt := 40) hx hb dX9_isContained_34 (by decide) (fun hc => ?_) (fun hc => ?_)
      · have h := fy_if_t h hc
        refine lv_aload_n hx hb dX9_isContained_40 rfl (lv_at hl 2 rfl) ?_
        refine lv_aload_n hx hb dX9_isContained_41 rfl (lv_at hl 1 rfl) ?_
        refine lv_aload hx hb dX9_isContained_42 (lv_at hl 0 rfl) ?_
        refine lv_iconst (v := (1 : Int32)) hx hb dX9_isContained_44 (by decide) ?_
        obtain ⟨S45, r45, h45, h⟩ := fy_bp_some h
        refine fy_calI w (fy_runV (As := [.ref (g.2.2.1 r2_), .ref (g.2.2.1 r8_), .int (1 : Int32)]) (rest := []) C w (c_X9_searchPairs l g (cls_X9_automatonIn  h2) (cls_X9_automatonIn  h8) h45) (X_o9 X_full (X_i0)) ksX9_245 rfl ⟨Nat.le_of_ble_eq_true rfl, Nat.le_of_ble_eq_true rfl⟩ rfl hl.1 rfl (Nat.le_of_ble_eq_true rfl) ⟨Nat.le_refl _, Nat.le_refl _⟩ dX9_isContained_45) (fun H locs w => ?_)
        refine lv_if_eq (tgt := 55) hx hb dX9_isContained_48 (by decide) (fun hc => ?_) (fun hc => ?_)
        · have h := fy_if_t h hc
          refine lv_iconst (v := (1 : Int32)) hx hb dX9_isContained_55 (by decide) ?_
          cases h
          exact fy_retI C w dX9_isContained_56
        · have h := fy_if_f h hc
          refine lv_iconst (v := (0 : Int32)) hx hb dX9_isContained_51 (by decide) ?_
          refine lv_goto (tgt := 56) hx hb dX9_isContained_52 (by decide) ?_
          cases h
          exact fy_retI C w dX9_isContained_56
      · have h := fy_if_f h hc
        refine lv_bipush (v := (-4 : Int32)) hx hb dX9_isContained_37 (by decide) ?_
        cases h
        exact fy_retI C w dX9_isContained_39

set_option maxHeartbeats 4000000 in
set_option maxRecDepth 100000 in
theorem c_X9_isContained (l : Launch) (g : fy_G) {S : fy_S} {v1 : Int32} {v2 : Int32} {Sr : fy_S} {rr : Int32}  (h : X9_isContained S v1 v2 = some (Sr, rr)) : fy_M g X_Y l yX9_isContained cX9_isContained 5 (some .int) (fy_rm 5) [.ref (g.2.2.1 0), .int v1, .int v2] S (fy_QI g X_Y rr Sr) :=
  fy_entry (by decide +kernel) (Nat.le_of_ble_eq_true rfl) (fun p e s m args below meth c ls C w hl => t_X9_isContained C  h w hl)
def J7_fill_d0a16_6 : Nat → fy_S → Nat → Int64 → Int32 → Int32 → Option (fy_S)
  | 0, _, _, _, _, _ => none
  | fu + 1, S, v0, v1, v3, v4 =>
    if v4 ≤ v3 then (
      some S)
    else (
      fy_gd (fy_ix v3 (X_al v0)) <|
      fy_bl (fy_sL S v0 v3.toNatClampNeg v1) fun S15 =>
      fy_bl (v3 + (1 : Int32)) fun x16 =>
      J7_fill_d0a16_6 fu S15 v0 v1 x16 v4)
def J7_fill_d0a16 (S : fy_S) (v0 : Nat) (v1 : Int64) : Option (fy_S) :=
  fy_bl (Int32.ofNat (X_al v0)) fun x4 =>
  J7_fill_d0a16_6 fy_fu S v0 v1 (0 : Int32) x4
set_option maxHeartbeats 4000000 in
set_option maxRecDepth 100000 in
theorem t_J7_fill_d0a16_6 {p : Program} {l : Launch} {e : Env} {s : State} {m : MethodId} {args : Array Value} {below : List Frame} {meth : Method} {c : Code} {g : fy_G} {y : fy_Y} (C : fy_C g y p s m args meth c yJ7_fill_d0a16.cls cJ7_fill_d0a16 5 none) (hcl : X_clo y) {Sr : fy_S}  : ∀ (fu : Nat) (S : fy_S) (v0 : Nat) (v1 : Int64) (v3 : Int32) (v4 : Int32) (H : Heap) (locs : List Loc) (ls : Array Slot), J7_fill_d0a16_6 fu S v0 v1 v3 v4 = some Sr → fy_W g y S s H locs → v0 ∈ y.2 ∧ y.1 v0 = .inl (5, (X_al v0), X_ar v0) → lv_has ls 5 [(0, .ref (g.2.2.1 v0)), (1, .long v1), (3, .int v3), (4, .int v4)] → W p l e (fy_rm 0) s m args below meth c H locs 0 0 (MQ below (fy_QV g y Sr) args s 0 0 (fy_A g y)) (F0 m 6 ls []) := by
  obtain ⟨hx, hb, hr, hts, hown, hlk, hml, hK, hD, hE, hN⟩ := id C
  intro fu
  induction fu with
  | zero => intro S v0 v1 v3 v4 H locs ls h; cases h
  | succ fu ih =>
    intro S v0 v1 v3 v4 H locs ls h w q0 hl
    rw [J7_fill_d0a16_6] at h
    refine lv_iload_n hx hb dJ7_fill_d0a16_6 rfl (lv_at hl 2 rfl) ?_
    refine lv_iload hx hb dJ7_fill_d0a16_7 (lv_at hl 3 rfl) ?_
    refine lv_icmp_ge (tgt := 22) hx hb dJ7_fill_d0a16_9 (by decide) (fun hc => ?_) (fun hc => ?_)
    · have h := fy_if_t h hc
      cases h
      exact fy_retV C w dJ7_fill_d0a16_22
    · have h := fy_if_f h hc
      refine lv_aload_n hx hb dJ7_fill_d0a16_12 rfl (lv_at hl 0 rfl) ?_
      refine lv_iload_n hx hb dJ7_fill_d0a16_13 rfl (lv_at hl 2 rfl) ?_
      refine lv_lload_n hx hb dJ7_fill_d0a16_14 rfl (lv_at hl 1 rfl) ?_
      obtain ⟨g15, h⟩ := fy_gd_some h
      refine fy_last C w q0 g15 dJ7_fill_d0a16_15 (fun H locs w => ?_)
      obtain ⟨S15, e15⟩ : ∃ z, z = fy_sL S v0 v3.toNatClampNeg v1 := ⟨_, rfl⟩
      have h := fy_bl_some e15 h
      rw [← e15] at w
      obtain ⟨x16, e16⟩ : ∃ z : Int32, z = v3 + (1 : Int32) := ⟨_, rfl⟩
      have h := fy_bl_some e16 h
      refine lv_iinc (k := 2) (v := x16) (lv' := [(3, .int x16), (0, .ref (g.2.2.1 v0)), (1, .long v1), (4, .int v4)]) hx hb dJ7_fill_d0a16_16 hl rfl (by rw [e16]; rfl) (by decide) rfl (fun ls hl => ?_)
      refine lv_goto (tgt := 6) hx hb dJ7_fill_d0a16_19 (by decide) ?_
      exact ih _ _ _ _ _ _ _ _ h w q0 (lv_sub hl [1, 2, 0, 3] rfl)

set_option maxHeartbeats 4000000 in
set_option maxRecDepth 100000 in
theorem t_J7_fill_d0a16 {p : Program} {l : Launch} {e : Env} {s : State} {m : MethodId} {args : Array Value} {below : List Frame} {meth : Method} {c : Code} {g : fy_G} {y : fy_Y} (C : fy_C g y p s m args meth c yJ7_fill_d0a16.cls cJ7_fill_d0a16 5 none) (hcl : X_clo y) {S : fy_S} {v0 : Nat} {v1 : Int64} {Sr : fy_S}  (q0 : v0 ∈ y.2 ∧ y.1 v0 = .inl (5, X_al v0, X_ar v0)) {H : Heap} {locs : List Loc} {ls : Array Slot} (h : J7_fill_d0a16 S v0 v1 = some Sr) (w : fy_W g y S s H locs) (hl : lv_has ls 5 [(0, .ref (g.2.2.1 v0)), (1, .long v1)]) : W p l e (fy_rm 0) s m args below meth c H locs 0 0 (MQ below (fy_QV g y Sr) args s 0 0 (fy_A g y)) (F0 m 0 ls []) := by
  obtain ⟨hx, hb, hr, hts, hown, hlk, hml, hK, hD, hE, hN⟩ := id C
  rw [J7_fill_d0a16] at h
  refine lv_iconst (v := (0 : Int32)) hx hb dJ7_fill_d0a16_0 (by decide) ?_
  refine lv_istore_n (lv' := [(3, .int (0 : Int32)), (0, .ref (g.2.2.1 v0)), (1, .long v1)]) hx hb dJ7_fill_d0a16_1 rfl hl (by decide) rfl (fun ls hl => ?_)
  refine lv_aload_n hx hb dJ7_fill_d0a16_2 rfl (lv_at hl 1 rfl) ?_
  refine fy_alen C w q0 (by decide) dJ7_fill_d0a16_3 ?_
  refine lv_topi (fun x4 e4 => ?_)
  have h := fy_bl_some e4 h
  refine lv_istore (lv' := [(4, .int x4), (3, .int (0 : Int32)), (0, .ref (g.2.2.1 v0)), (1, .long v1)]) hx hb dJ7_fill_d0a16_4 hl (by decide) rfl (fun ls hl => ?_)
  exact t_J7_fill_d0a16_6 C hcl fy_fu _ _ _ _ _ _ _ _ h w q0 (lv_sub hl [2, 3, 1, 0] rfl)

set_option maxHeartbeats 4000000 in
set_option maxRecDepth 100000 in
theorem c_J7_fill_d0a16 (l : Launch) (g : fy_G) {y : fy_Y} (hcl : X_clo y) {S : fy_S} {v0 : Nat} {v1 : Int64} {Sr : fy_S}  (q0 : v0 ∈ y.2 ∧ y.1 v0 = .inl (5, X_al v0, X_ar v0)) (h : J7_fill_d0a16 S v0 v1 = some Sr) : fy_M g y l yJ7_fill_d0a16 cJ7_fill_d0a16 5 none (fy_rm 0) [.ref (g.2.2.1 v0), .long v1] S (fy_QV g y Sr) :=
  fy_entry (by decide +kernel) (Nat.le_of_ble_eq_true rfl) (fun p e s m args below meth c ls C w hl => t_J7_fill_d0a16 C hcl q0 h w hl)
def X7_countOneLetterMore_29 (k10 : fy_S → Nat → Int32 → Option (fy_S)) : Nat → fy_S → Nat → Int32 → Int32 → Option (fy_S)
  | 0, _, _, _, _ => none
  | fu + 1, S, v0, v1, v2 =>
    if (S.1 v0 5) ≤ v2 then (
      fy_bl (v1 + (1 : Int32)) fun x63 =>
      k10 S v0 x63)
    else (
      fy_bd (X7_step S v0 v1 v2) fun r44 =>
      fy_gd (fy_ix r44 64) <|
      fy_gd (fy_ix v1 64) <|
      fy_gd (fy_ix r44 64) <|
      fy_bl (fy_sL S (v0 + 5) r44.toNatClampNeg ((S.2 (v0 + 5) r44.toNatClampNeg) + (S.2 (v0 + 4) v1.toNatClampNeg))) fun S56 =>
      fy_bl (v2 + (1 : Int32)) fun x57 =>
      X7_countOneLetterMore_29 k10 fu S56 v0 v1 x57)
def X7_countOneLetterMore_10 : Nat → fy_S → Nat → Int32 → Option (fy_S)
  | 0, _, _, _ => none
  | fu + 1, S, v0, v1 =>
    if (64 : Int32) ≤ v1 then (
      fy_gd (fy_cpL (0 : Int32) (0 : Int32) (64 : Int32) 64 64) <|
      fy_bl (fy_sB S (v0 + 4) (va_cpy (S.2 (v0 + 5)) (S.2 (v0 + 4)) (0 : Int32).toNatClampNeg (0 : Int32).toNatClampNeg (64 : Int32).toNatClampNeg)) fun S81 =>
      some S81)
    else (
      fy_gd (fy_ix v1 64) <|
      if (lg_cmp (S.2 (v0 + 4) v1.toNatClampNeg) (0 : Int64)) = 0 then (
        fy_bl (v1 + (1 : Int32)) fun x63 =>
        X7_countOneLetterMore_10 fu S v0 x63)
      else (
        X7_countOneLetterMore_29 (fun S v0 v1 => X7_countOneLetterMore_10 fu S v0 v1) fy_fu S v0 v1 (0 : Int32)))
def X7_countOneLetterMore (S : fy_S) (v0 : Nat) : Option (fy_S) :=
  fy_bd (J7_fill_d0a16 S (v0 + 5) (0 : Int64)) fun S5 =>
  X7_countOneLetterMore_10 fy_fu S5 v0 (0 : Int32)
set_option maxHeartbeats 4000000 in
set_option maxRecDepth 100000 in
theorem t_X7_countOneLetterMore_29 {p : Program} {l : Launch} {e : Env} {s : State} {m : MethodId} {args : Array Value} {below : List Frame} {meth : Method} {c : Code} {g : fy_G} (C : fy_C g X_Y p s m args meth c yX7_countOneLetterMore.cls cX7_countOneLetterMore 3 none) {Sr : fy_S}  {k10 : fy_S → Nat → Int32 → Option (fy_S)} (hk10 : ∀ (S : fy_S) (v0 : Nat) (v1 : Int32) (H : Heap) (locs : List Loc) (ls : Array Slot), k10 S v0 v1 = some Sr → fy_W g X_Y S s H locs → X_is X_Y 7 v0 → lv_has ls 3 [(0, .ref (g.2.2.1 v0)), (1, .int v1)] → W p l e (fy_rm 1) s m args below meth c H locs 0 0 (MQ below (fy_QV g X_Y Sr) args s 0 0 (fy_A g X_Y)) (F0 m 10 ls [])) : ∀ (fu : Nat) (S : fy_S) (v0 : Nat) (v1 : Int32) (v2 : Int32) (H : Heap) (locs : List Loc) (ls : Array Slot), X7_countOneLetterMore_29 k10 fu S v0 v1 v2 = some Sr → fy_W g X_Y S s H locs → X_is X_Y 7 v0 → lv_has ls 3 [(0, .ref (g.2.2.1 v0)), (1, .int v1), (2, .int v2)] → W p l e (fy_rm 1) s m args below meth c H locs 0 0 (MQ below (fy_QV g X_Y Sr) args s 0 0 (fy_A g X_Y)) (F0 m 29 ls []) := by
  obtain ⟨hx, hb, hr, hts, hown, hlk, hml, hK, hD, hE, hN⟩ := id C
  intro fu
  induction fu with
  | zero => intro S v0 v1 v2 H locs ls h; cases h
  | succ fu ih =>
    intro S v0 v1 v2 H locs ls h w q0 hl
    rw [X7_countOneLetterMore_29] at h
    refine lv_iload_n hx hb dX7_countOneLetterMore_29 rfl (lv_at hl 2 rfl) ?_
    refine lv_aload_n hx hb dX7_countOneLetterMore_30 rfl (lv_at hl 0 rfl) ?_
    refine gfX7_28 X_full C w q0 dX7_countOneLetterMore_31 ?_
    refine lv_icmp_ge (tgt := 63) hx hb dX7_countOneLetterMore_34 (by decide) (fun hc => ?_) (fun hc => ?_)
    · have h := fy_if_t h hc
      obtain ⟨x63, e63⟩ : ∃ z : Int32, z = v1 + (1 : Int32) := ⟨_, rfl⟩
      have h := fy_bl_some e63 h
      refine lv_iinc (k := 1) (v := x63) (lv' := [(1, .int x63), (0, .ref (g.2.2.1 v0)), (2, .int v2)]) hx hb dX7_countOneLetterMore_63 hl rfl (by rw [e63]; rfl) (by decide) rfl (fun ls hl => ?_)
      refine lv_goto (tgt := 10) hx hb dX7_countOneLetterMore_66 (by decide) ?_
      exact hk10 _ _ _ _ _ _ h w q0 (lv_sub hl [1, 0] rfl)
    · have h := fy_if_f h hc
      refine lv_aload_n hx hb dX7_countOneLetterMore_37 rfl (lv_at hl 0 rfl) ?_
      refine gfX7_25 X_full C w q0 dX7_countOneLetterMore_38 ?_
      refine lv_aload_n hx hb dX7_countOneLetterMore_41 rfl (lv_at hl 0 rfl) ?_
      refine lv_iload_n hx hb dX7_countOneLetterMore_42 rfl (lv_at hl 1 rfl) ?_
      refine lv_iload_n hx hb dX7_countOneLetterMore_43 rfl (lv_at hl 2 rfl) ?_
      obtain ⟨r44, h44, h⟩ := fy_bd_some h
      refine fy_calI w (fy_runV (As := [.int v1, .int v2]) (rest := [.ref (g.2.2.1 (v0 + 5))]) C w (c_X7_step l g q0 h44) (X_o7 X_full q0) ksX7_71 rfl ⟨Nat.le_of_ble_eq_true rfl, Nat.le_of_ble_eq_true rfl⟩ rfl hl.1 rfl (Nat.le_of_ble_eq_true rfl) ⟨Nat.le_refl _, Nat.le_refl _⟩ dX7_countOneLetterMore_44) (fun H locs w => ?_)
      refine lv_dup2_11 hx hb dX7_countOneLetterMore_47 rfl rfl ?_
      obtain ⟨g48, h⟩ := fy_gd_some h
      refine fy_lald C w (X_f7_nextCounts X_full q0) g48 dX7_countOneLetterMore_48 ?_
      refine lv_aload_n hx hb dX7_countOneLetterMore_49 rfl (lv_at hl 0 rfl) ?_
      refine gfX7_21 X_full C w q0 dX7_countOneLetterMore_50 ?_
      refine lv_iload_n hx hb dX7_countOneLetterMore_53 rfl (lv_at hl 1 rfl) ?_
      obtain ⟨g54, h⟩ := fy_gd_some h
      refine fy_lald C w (X_f7_counts X_full q0) g54 dX7_countOneLetterMore_54 ?_
      refine lv_ladd hx hb dX7_countOneLetterMore_55 ?_
      obtain ⟨g56, h⟩ := fy_gd_some h
      refine fy_last C w (X_f7_nextCounts X_full q0) g56 dX7_countOneLetterMore_56 (fun H locs w => ?_)
      obtain ⟨S56, e56⟩ : ∃ z, z = fy_sL S (v0 + 5) r44.toNatClampNeg ((S.2 (v0 + 5) r44.toNatClampNeg) + (S.2 (v0 + 4) v1.toNatClampNeg)) := ⟨_, rfl⟩
      have h := fy_bl_some e56 h
      rw [← e56] at w
      obtain ⟨x57, e57⟩ : ∃ z : Int32, z = v2 + (1 : Int32) := ⟨_, rfl⟩
      have h := fy_bl_some e57 h
      refine lv_iinc (k := 2) (v := x57) (lv' := [(2, .int x57), (0, .ref (g.2.2.1 v0)), (1, .int v1)]) hx hb dX7_countOneLetterMore_57 hl rfl (by rw [e57]; rfl) (by decide) rfl (fun ls hl => ?_)
      refine lv_goto (tgt := 29) hx hb dX7_countOneLetterMore_60 (by decide) ?_
      exact ih _ _ _ _ _ _ _ h w q0 (lv_sub hl [1, 2, 0] rfl)

set_option maxHeartbeats 4000000 in
set_option maxRecDepth 100000 in
theorem t_X7_countOneLetterMore_10 {p : Program} {l : Launch} {e : Env} {s : State} {m : MethodId} {args : Array Value} {below : List Frame} {meth : Method} {c : Code} {g : fy_G} (C : fy_C g X_Y p s m args meth c yX7_countOneLetterMore.cls cX7_countOneLetterMore 3 none) {Sr : fy_S}  : ∀ (fu : Nat) (S : fy_S) (v0 : Nat) (v1 : Int32) (H : Heap) (locs : List Loc) (ls : Array Slot), X7_countOneLetterMore_10 fu S v0 v1 = some Sr → fy_W g X_Y S s H locs → X_is X_Y 7 v0 → lv_has ls 3 [(0, .ref (g.2.2.1 v0)), (1, .int v1)] → W p l e (fy_rm 1) s m args below meth c H locs 0 0 (MQ below (fy_QV g X_Y Sr) args s 0 0 (fy_A g X_Y)) (F0 m 10 ls []) := by
  obtain ⟨hx, hb, hr, hts, hown, hlk, hml, hK, hD, hE, hN⟩ := id C
  intro fu
  induction fu with
  | zero => intro S v0 v1 H locs ls h; cases h
  | succ fu ih =>
    intro S v0 v1 H locs ls h w q0 hl
    rw [X7_countOneLetterMore_10] at h
    refine lv_iload_n hx hb dX7_countOneLetterMore_10 rfl (lv_at hl 1 rfl) ?_
    refine lv_bipush (v := (64 : Int32)) hx hb dX7_countOneLetterMore_11 (by decide) ?_
    refine lv_icmp_ge (tgt := 69) hx hb dX7_countOneLetterMore_13 (by decide) (fun hc => ?_) (fun hc => ?_)
    · have h := fy_if_t h hc
      refine lv_aload_n hx hb dX7_countOneLetterMore_69 rfl (lv_at hl 0 rfl) ?_
      refine gfX7_25 X_full C w q0 dX7_countOneLetterMore_70 ?_
      refine lv_iconst (v := (0 : Int32)) hx hb dX7_countOneLetterMore_73 (by decide) ?_
      refine lv_aload_n hx hb dX7_countOneLetterMore_74 rfl (lv_at hl 0 rfl) ?_
      refine gfX7_21 X_full C w q0 dX7_countOneLetterMore_75 ?_
      refine lv_iconst (v := (0 : Int32)) hx hb dX7_countOneLetterMore_78 (by decide) ?_
      refine lv_bipush (v := (64 : Int32)) hx hb dX7_countOneLetterMore_79 (by decide) ?_
      obtain ⟨g81, h⟩ := fy_gd_some h
      refine fy_cpy5 (l := l) C w (X_f7_nextCounts X_full q0) (X_f7_counts X_full q0) g81 tw570 tw360 tw361 tw362 hl.1 (Nat.le_of_ble_eq_true rfl) (Nat.le_of_ble_eq_true rfl) dX7_countOneLetterMore_81 (fun H locs w => ?_)
      obtain ⟨S81, e81⟩ : ∃ z, z = fy_sB S (v0 + 4) (va_cpy (S.2 (v0 + 5)) (S.2 (v0 + 4)) (0 : Int32).toNatClampNeg (0 : Int32).toNatClampNeg (64 : Int32).toNatClampNeg) := ⟨_, rfl⟩
      have h := fy_bl_some e81 h
      rw [← e81] at w
      cases h
      exact fy_retV C w dX7_countOneLetterMore_84
    · have h := fy_if_f h hc
      refine lv_aload_n hx hb dX7_countOneLetterMore_16 rfl (lv_at hl 0 rfl) ?_
      refine gfX7_21 X_full C w q0 dX7_countOneLetterMore_17 ?_
      refine lv_iload_n hx hb dX7_countOneLetterMore_20 rfl (lv_at hl 1 rfl) ?_
      obtain ⟨g21, h⟩ := fy_gd_some h
      refine fy_lald C w (X_f7_counts X_full q0) g21 dX7_countOneLetterMore_21 ?_
      refine lv_lconst (v := (0 : Int64)) hx hb dX7_countOneLetterMore_22 (by decide) ?_
      refine W.lcmp hx hb dX7_countOneLetterMore_23 ?_
      refine lv_if_eq (tgt := 63) hx hb dX7_countOneLetterMore_24 (by decide) (fun hc => ?_) (fun hc => ?_)
      · have h := fy_if_t h hc
        obtain ⟨x63, e63⟩ : ∃ z : Int32, z = v1 + (1 : Int32) := ⟨_, rfl⟩
        have h := fy_bl_some e63 h
        refine lv_iinc (k := 1) (v := x63) (lv' := [(1, .int x63), (0, .ref (g.2.2.1 v0))]) hx hb dX7_countOneLetterMore_63 hl rfl (by rw [e63]; rfl) (by decide) rfl (fun ls hl => ?_)
        refine lv_goto (tgt := 10) hx hb dX7_countOneLetterMore_66 (by decide) ?_
        exact ih _ _ _ _ _ _ h w q0 (lv_sub hl [1, 0] rfl)
      · have h := fy_if_f h hc
        refine lv_iconst (v := (0 : Int32)) hx hb dX7_countOneLetterMore_27 (by decide) ?_
        refine lv_istore_n (lv' := [(2, .int (0 : Int32)), (0, .ref (g.2.2.1 v0)), (1, .int v1)]) hx hb dX7_countOneLetterMore_28 rfl hl (by decide) rfl (fun ls hl => ?_)
        exact t_X7_countOneLetterMore_29 C ih fy_fu _ _ _ _ _ _ _ h w q0 (lv_sub hl [1, 2, 0] rfl)

set_option maxHeartbeats 4000000 in
set_option maxRecDepth 100000 in
theorem t_X7_countOneLetterMore {p : Program} {l : Launch} {e : Env} {s : State} {m : MethodId} {args : Array Value} {below : List Frame} {meth : Method} {c : Code} {g : fy_G} (C : fy_C g X_Y p s m args meth c yX7_countOneLetterMore.cls cX7_countOneLetterMore 3 none) {S : fy_S} {v0 : Nat} {Sr : fy_S}  (q0 : X_is X_Y 7 v0) {H : Heap} {locs : List Loc} {ls : Array Slot} (h : X7_countOneLetterMore S v0 = some Sr) (w : fy_W g X_Y S s H locs) (hl : lv_has ls 3 [(0, .ref (g.2.2.1 v0))]) : W p l e (fy_rm 1) s m args below meth c H locs 0 0 (MQ below (fy_QV g X_Y Sr) args s 0 0 (fy_A g X_Y)) (F0 m 0 ls []) := by
  obtain ⟨hx, hb, hr, hts, hown, hlk, hml, hK, hD, hE, hN⟩ := id C
  rw [X7_countOneLetterMore] at h
  refine lv_aload_n hx hb dX7_countOneLetterMore_0 rfl (lv_at hl 0 rfl) ?_
  refine gfX7_25 X_full C w q0 dX7_countOneLetterMore_1 ?_
  refine lv_lconst (v := (0 : Int64)) hx hb dX7_countOneLetterMore_4 (by decide) ?_
  obtain ⟨S5, h5, h⟩ := fy_bd_some h
  refine fy_calV w (fy_runS (As := [.ref (g.2.2.1 (v0 + 5)), .long (0 : Int64)]) (rest := []) C w (c_J7_fill_d0a16 l g X_full (X_an X_full (X_f7_nextCounts X_full q0)) h5) ksX7_96 ⟨Nat.le_of_ble_eq_true rfl, Nat.le_of_ble_eq_true rfl⟩ rfl hl.1 rfl (Nat.le_of_ble_eq_true rfl) ⟨Nat.le_refl _, Nat.le_refl _⟩ dX7_countOneLetterMore_5) (fun H locs w => ?_)
  refine lv_iconst (v := (0 : Int32)) hx hb dX7_countOneLetterMore_8 (by decide) ?_
  refine lv_istore_n (lv' := [(1, .int (0 : Int32)), (0, .ref (g.2.2.1 v0))]) hx hb dX7_countOneLetterMore_9 rfl hl (by decide) rfl (fun ls hl => ?_)
  exact t_X7_countOneLetterMore_10 C fy_fu _ _ _ _ _ _ h w q0 (lv_sub hl [1, 0] rfl)

set_option maxHeartbeats 4000000 in
set_option maxRecDepth 100000 in
theorem c_X7_countOneLetterMore (l : Launch) (g : fy_G) {S : fy_S} {v0 : Nat} {Sr : fy_S}  (q0 : X_is X_Y 7 v0) (h : X7_countOneLetterMore S v0 = some Sr) : fy_M g X_Y l yX7_countOneLetterMore cX7_countOneLetterMore 3 none (fy_rm 1) [.ref (g.2.2.1 v0)] S (fy_QV g X_Y Sr) :=
  fy_entry (by decide +kernel) (Nat.le_of_ble_eq_true rfl) (fun p e s m args below meth c ls C w hl => t_X7_countOneLetterMore C q0 h w hl)
def X7_countAccepted_40 : Nat → fy_S → Nat → Int64 → Int32 → Option (fy_S × Int64)
  | 0, _, _, _, _ => none
  | fu + 1, S, v0, v2, v4 =>
    if (64 : Int32) ≤ v4 then (
      some (S, v2))
    else (
      fy_bd (X9_isIn S (S.2 v0 7) v4) fun r53 =>
      if r53 = 0 then (
        fy_bl (v4 + (1 : Int32)) fun x69 =>
        X7_countAccepted_40 fu S v0 v2 x69)
      else (
        fy_gd (fy_ix v4 64) <|
        fy_bl (v2 + (S.2 (v0 + 4) v4.toNatClampNeg)) fun x68 =>
        fy_bl (v4 + (1 : Int32)) fun x69 =>
        X7_countAccepted_40 fu S v0 x68 x69))
def X7_countAccepted_20 : Nat → fy_S → Nat → Int32 → Int32 → Option (fy_S × Int64)
  | 0, _, _, _, _ => none
  | fu + 1, S, v0, v1, v2 =>
    if v1 ≤ v2 then (
      X7_countAccepted_40 fy_fu S v0 (0 : Int64) (0 : Int32))
    else (
      fy_bd (X7_countOneLetterMore S v0) fun S26 =>
      fy_bl (v2 + (1 : Int32)) fun x29 =>
      X7_countAccepted_20 fu S26 v0 v1 x29)
def X7_countAccepted (S : fy_S) (v0 : Nat) (v1 : Int32) : Option (fy_S × Int64) :=
  fy_bd (J7_fill_d0a16 S (v0 + 4) (0 : Int64)) fun S5 =>
  fy_gd (fy_ix (S5.1 v0 6) 64) <|
  fy_bl (fy_sL S5 (v0 + 4) (S5.1 v0 6).toNatClampNeg (1 : Int64)) fun S17 =>
  X7_countAccepted_20 fy_fu S17 v0 v1 (0 : Int32)
set_option maxHeartbeats 4000000 in
set_option maxRecDepth 100000 in
theorem t_X7_countAccepted_40 {p : Program} {l : Launch} {e : Env} {s : State} {m : MethodId} {args : Array Value} {below : List Frame} {meth : Method} {c : Code} {g : fy_G} (C : fy_C g X_Y p s m args meth c yX7_countAccepted.cls cX7_countAccepted 5 (some .long)) {Sr : fy_S} {rr : Int64} : ∀ (fu : Nat) (S : fy_S) (v0 : Nat) (v2 : Int64) (v4 : Int32) (H : Heap) (locs : List Loc) (ls : Array Slot), X7_countAccepted_40 fu S v0 v2 v4 = some (Sr, rr) → fy_W g X_Y S s H locs → X_is X_Y 7 v0 → lv_has ls 5 [(0, .ref (g.2.2.1 v0)), (2, .long v2), (4, .int v4)] → W p l e (fy_rm 2) s m args below meth c H locs 0 0 (MQ below (fy_QL g X_Y rr Sr) args s 0 0 (fy_A g X_Y)) (F0 m 40 ls []) := by
  obtain ⟨hx, hb, hr, hts, hown, hlk, hml, hK, hD, hE, hN⟩ := id C
  intro fu
  induction fu with
  | zero => intro S v0 v2 v4 H locs ls h; cases h
  | succ fu ih =>
    intro S v0 v2 v4 H locs ls h w q0 hl
    rw [X7_countAccepted_40] at h
    refine lv_iload hx hb dX7_countAccepted_40 (lv_at hl 2 rfl) ?_
    refine lv_bipush (v := (64 : Int32)) hx hb dX7_countAccepted_42 (by decide) ?_
    refine lv_icmp_ge (tgt := 75) hx hb dX7_countAccepted_44 (by decide) (fun hc => ?_) (fun hc => ?_)
    · have h := fy_if_t h hc
      refine lv_lload_n hx hb dX7_countAccepted_75 rfl (lv_at hl 1 rfl) ?_
      cases h
      exact fy_retL C w dX7_countAccepted_76
    · have h := fy_if_f h hc
      refine lv_aload_n hx hb dX7_countAccepted_47 rfl (lv_at hl 0 rfl) ?_
      refine gfX7_35 X_full C w q0 dX7_countAccepted_48 ?_
      refine lv_iload hx hb dX7_countAccepted_51 (lv_at hl 2 rfl) ?_
      obtain ⟨r53, h53, h⟩ := fy_bd_some h
      refine fy_calI w (fy_runN (As := [.long (S.2 v0 7), .int v4]) (rest := []) C w (c_X9_isIn l g X_full  h53) ksX7_61 ⟨Nat.le_of_ble_eq_true rfl, Nat.le_of_ble_eq_true rfl⟩ rfl hl.1 rfl (Nat.le_of_ble_eq_true rfl) ⟨Nat.le_refl _, Nat.le_refl _⟩ dX7_countAccepted_53) (fun H locs w => ?_)
      refine lv_if_eq (tgt := 69) hx hb dX7_countAccepted_56 (by decide) (fun hc => ?_) (fun hc => ?_)
      · have h := fy_if_t h hc
        obtain ⟨x69, e69⟩ : ∃ z : Int32, z = v4 + (1 : Int32) := ⟨_, rfl⟩
        have h := fy_bl_some e69 h
        refine lv_iinc (k := 2) (v := x69) (lv' := [(4, .int x69), (0, .ref (g.2.2.1 v0)), (2, .long v2)]) hx hb dX7_countAccepted_69 hl rfl (by rw [e69]; rfl) (by decide) rfl (fun ls hl => ?_)
        refine lv_goto (tgt := 40) hx hb dX7_countAccepted_72 (by decide) ?_
        exact ih _ _ _ _ _ _ _ h w q0 (lv_sub hl [1, 2, 0] rfl)
      · have h := fy_if_f h hc
        refine lv_lload_n hx hb dX7_countAccepted_59 rfl (lv_at hl 1 rfl) ?_
        refine lv_aload_n hx hb dX7_countAccepted_60 rfl (lv_at hl 0 rfl) ?_
        refine gfX7_21 X_full C w q0 dX7_countAccepted_61 ?_
        refine lv_iload hx hb dX7_countAccepted_64 (lv_at hl 2 rfl) ?_
        obtain ⟨g66, h⟩ := fy_gd_some h
        refine fy_lald C w (X_f7_counts X_full q0) g66 dX7_countAccepted_66 ?_
        refine lv_ladd hx hb dX7_countAccepted_67 ?_
        refine lv_topl (fun x68 e68 => ?_)
        have h := fy_bl_some e68 h
        refine lv_lstore_n (lv' := [(2, .long x68), (0, .ref (g.2.2.1 v0)), (4, .int v4)]) hx hb dX7_countAccepted_68 rfl hl (by decide) rfl (fun ls hl => ?_)
        obtain ⟨x69, e69⟩ : ∃ z : Int32, z = v4 + (1 : Int32) := ⟨_, rfl⟩
        have h := fy_bl_some e69 h
        refine lv_iinc (k := 2) (v := x69) (lv' := [(4, .int x69), (2, .long x68), (0, .ref (g.2.2.1 v0))]) hx hb dX7_countAccepted_69 hl rfl (by rw [e69]; rfl) (by decide) rfl (fun ls hl => ?_)
        refine lv_goto (tgt := 40) hx hb dX7_countAccepted_72 (by decide) ?_
        exact ih _ _ _ _ _ _ _ h w q0 (lv_sub hl [2, 1, 0] rfl)

set_option maxHeartbeats 4000000 in
set_option maxRecDepth 100000 in
theorem t_X7_countAccepted_20 {p : Program} {l : Launch} {e : Env} {s : State} {m : MethodId} {args : Array Value} {below : List Frame} {meth : Method} {c : Code} {g : fy_G} (C : fy_C g X_Y p s m args meth c yX7_countAccepted.cls cX7_countAccepted 5 (some .long)) {Sr : fy_S} {rr : Int64} : ∀ (fu : Nat) (S : fy_S) (v0 : Nat) (v1 : Int32) (v2 : Int32) (H : Heap) (locs : List Loc) (ls : Array Slot), X7_countAccepted_20 fu S v0 v1 v2 = some (Sr, rr) → fy_W g X_Y S s H locs → X_is X_Y 7 v0 → lv_has ls 5 [(0, .ref (g.2.2.1 v0)), (1, .int v1), (2, .int v2)] → W p l e (fy_rm 2) s m args below meth c H locs 0 0 (MQ below (fy_QL g X_Y rr Sr) args s 0 0 (fy_A g X_Y)) (F0 m 20 ls []) := by
  obtain ⟨hx, hb, hr, hts, hown, hlk, hml, hK, hD, hE, hN⟩ := id C
  intro fu
  induction fu with
  | zero => intro S v0 v1 v2 H locs ls h; cases h
  | succ fu ih =>
    intro S v0 v1 v2 H locs ls h w q0 hl
    rw [X7_countAccepted_20] at h
    refine lv_iload_n hx hb dX7_countAccepted_20 rfl (lv_at hl 2 rfl) ?_
    refine lv_iload_n hx hb dX7_countAccepted_21 rfl (lv_at hl 1 rfl) ?_
    refine lv_icmp_ge (tgt := 35) hx hb dX7_countAccepted_22 (by decide) (fun hc => ?_) (fun hc => ?_)
    · have h := fy_if_t h hc
      refine lv_lconst (v := (0 : Int64)) hx hb dX7_countAccepted_35 (by decide) ?_
      refine lv_lstore_n (lv' := [(2, .long (0 : Int64)), (0, .ref (g.2.2.1 v0)), (1, .int v1)]) hx hb dX7_countAccepted_36 rfl hl (by decide) rfl (fun ls hl => ?_)
      refine lv_iconst (v := (0 : Int32)) hx hb dX7_countAccepted_37 (by decide) ?_
      refine lv_istore (lv' := [(4, .int (0 : Int32)), (2, .long (0 : Int64)), (0, .ref (g.2.2.1 v0)), (1, .int v1)]) hx hb dX7_countAccepted_38 hl (by decide) rfl (fun ls hl => ?_)
      exact t_X7_countAccepted_40 C fy_fu _ _ _ _ _ _ _ h w q0 (lv_sub hl [2, 1, 0] rfl)
    · have h := fy_if_f h hc
      refine lv_aload_n hx hb dX7_countAccepted_25 rfl (lv_at hl 0 rfl) ?_
      obtain ⟨S26, h26, h⟩ := fy_bd_some h
      refine fy_calV w (fy_runV (As := []) (rest := []) C w (c_X7_countOneLetterMore l g q0 h26) (X_o7 X_full q0) ksX7_102 rfl ⟨Nat.le_of_ble_eq_true rfl, Nat.le_of_ble_eq_true rfl⟩ rfl hl.1 rfl (Nat.le_of_ble_eq_true rfl) ⟨Nat.le_refl _, Nat.le_refl _⟩ dX7_countAccepted_26) (fun H locs w => ?_)
      obtain ⟨x29, e29⟩ : ∃ z : Int32, z = v2 + (1 : Int32) := ⟨_, rfl⟩
      have h := fy_bl_some e29 h
      refine lv_iinc (k := 2) (v := x29) (lv' := [(2, .int x29), (0, .ref (g.2.2.1 v0)), (1, .int v1)]) hx hb dX7_countAccepted_29 hl rfl (by rw [e29]; rfl) (by decide) rfl (fun ls hl => ?_)
      refine lv_goto (tgt := 20) hx hb dX7_countAccepted_32 (by decide) ?_
      exact ih _ _ _ _ _ _ _ h w q0 (lv_sub hl [1, 2, 0] rfl)

set_option maxHeartbeats 4000000 in
set_option maxRecDepth 100000 in
theorem t_X7_countAccepted {p : Program} {l : Launch} {e : Env} {s : State} {m : MethodId} {args : Array Value} {below : List Frame} {meth : Method} {c : Code} {g : fy_G} (C : fy_C g X_Y p s m args meth c yX7_countAccepted.cls cX7_countAccepted 5 (some .long)) {S : fy_S} {v0 : Nat} {v1 : Int32} {Sr : fy_S} {rr : Int64} (q0 : X_is X_Y 7 v0) {H : Heap} {locs : List Loc} {ls : Array Slot} (h : X7_countAccepted S v0 v1 = some (Sr, rr)) (w : fy_W g X_Y S s H locs) (hl : lv_has ls 5 [(0, .ref (g.2.2.1 v0)), (1, .int v1)]) : W p l e (fy_rm 2) s m args below meth c H locs 0 0 (MQ below (fy_QL g X_Y rr Sr) args s 0 0 (fy_A g X_Y)) (F0 m 0 ls []) := by
  obtain ⟨hx, hb, hr, hts, hown, hlk, hml, hK, hD, hE, hN⟩ := id C
  rw [X7_countAccepted] at h
  refine lv_aload_n hx hb dX7_countAccepted_0 rfl (lv_at hl 0 rfl) ?_
  refine gfX7_21 X_full C w q0 dX7_countAccepted_1 ?_
  refine lv_lconst (v := (0 : Int64)) hx hb dX7_countAccepted_4 (by decide) ?_
  obtain ⟨S5, h5, h⟩ := fy_bd_some h
  refine fy_calV w (fy_runS (As := [.ref (g.2.2.1 (v0 + 4)), .long (0 : Int64)]) (rest := []) C w (c_J7_fill_d0a16 l g X_full (X_an X_full (X_f7_counts X_full q0)) h5) ksX7_96 ⟨Nat.le_of_ble_eq_true rfl, Nat.le_of_ble_eq_true rfl⟩ rfl hl.1 rfl (Nat.le_of_ble_eq_true rfl) ⟨Nat.le_refl _, Nat.le_refl _⟩ dX7_countAccepted_5) (fun H locs w => ?_)
  refine lv_aload_n hx hb dX7_countAccepted_8 rfl (lv_at hl 0 rfl) ?_
  refine gfX7_21 X_full C w q0 dX7_countAccepted_9 ?_
  refine lv_aload_n hx hb dX7_countAccepted_12 rfl (lv_at hl 0 rfl) ?_
  refine gfX7_32 X_full C w q0 dX7_countAccepted_13 ?_
  refine lv_lconst (v := (1 : Int64)) hx hb dX7_countAccepted_16 (by decide) ?_
  obtain ⟨g17, h⟩ := fy_gd_some h
  refine fy_last C w (X_f7_counts X_full q0) g17 dX7_countAccepted_17 (fun H locs w => ?_)
  obtain ⟨S17, e17⟩ : ∃ z, z = fy_sL S5 (v0 + 4) (S5.1 v0 6).toNatClampNeg (1 : Int64) := ⟨_, rfl⟩
  have h := fy_bl_some e17 h
  rw [← e17] at w
  refine lv_iconst (v := (0 : Int32)) hx hb dX7_countAccepted_18 (by decide) ?_
  refine lv_istore_n (lv' := [(2, .int (0 : Int32)), (0, .ref (g.2.2.1 v0)), (1, .int v1)]) hx hb dX7_countAccepted_19 rfl hl (by decide) rfl (fun ls hl => ?_)
  exact t_X7_countAccepted_20 C fy_fu _ _ _ _ _ _ _ h w q0 (lv_sub hl [1, 2, 0] rfl)

set_option maxHeartbeats 4000000 in
set_option maxRecDepth 100000 in
theorem c_X7_countAccepted (l : Launch) (g : fy_G) {S : fy_S} {v0 : Nat} {v1 : Int32} {Sr : fy_S} {rr : Int64} (q0 : X_is X_Y 7 v0) (h : X7_countAccepted S v0 v1 = some (Sr, rr)) : fy_M g X_Y l yX7_countAccepted cX7_countAccepted 5 (some .long) (fy_rm 2) [.ref (g.2.2.1 v0), .int v1] S (fy_QL g X_Y rr Sr) :=
  fy_entry (by decide +kernel) (Nat.le_of_ble_eq_true rfl) (fun p e s m args below meth c ls C w hl => t_X7_countAccepted C q0 h w hl)
def X9_countWords (S : fy_S) (v1 : Int32) (v2 : Int32) : Option (fy_S × Int64) :=
  fy_bd (X9_automatonIn S v1) fun r2 =>
  match r2 with
  | none => (
    some (S, (-1 : Int64)))
  | some r2_ => (
    fy_bd (X9_isWithin S v2 (0 : Int32) (20 : Int32)) fun r14 =>
    if r14 = 0 then (
      some (S, (-1 : Int64)))
    else (
      fy_bd (X7_load S 20 r2_) fun S29 =>
      fy_bp (X7_countAccepted S29 20 v2) fun S37 r37 =>
      some (S37, r37)))
set_option maxHeartbeats 4000000 in
set_option maxRecDepth 100000 in
theorem t_X9_countWords {p : Program} {l : Launch} {e : Env} {s : State} {m : MethodId} {args : Array Value} {below : List Frame} {meth : Method} {c : Code} {g : fy_G} (C : fy_C g X_Y p s m args meth c yX9_countWords.cls cX9_countWords 4 (some .long)) {S : fy_S} {v1 : Int32} {v2 : Int32} {Sr : fy_S} {rr : Int64}  {H : Heap} {locs : List Loc} {ls : Array Slot} (h : X9_countWords S v1 v2 = some (Sr, rr)) (w : fy_W g X_Y S s H locs) (hl : lv_has ls 4 [(0, .ref (g.2.2.1 0)), (1, .int v1), (2, .int v2)]) : W p l e (fy_rm 4) s m args below meth c H locs 0 0 (MQ below (fy_QL g X_Y rr Sr) args s 0 0 (fy_A g X_Y)) (F0 m 0 ls []) := by
  obtain ⟨hx, hb, hr, hts, hown, hlk, hml, hK, hD, hE, hN⟩ := id C
  rw [X9_countWords] at h
  refine lv_aload_n hx hb dX9_countWords_0 rfl (lv_at hl 0 rfl) ?_
  refine lv_iload_n hx hb dX9_countWords_1 rfl (lv_at hl 1 rfl) ?_
  obtain ⟨r2, h2, h⟩ := fy_bd_some h
  refine fy_calE w (fy_runV (As := [.int v1]) (rest := []) C w (c_X9_automatonIn l g  h2) (X_o9 X_full (X_i0)) ksX9_88 rfl ⟨Nat.le_of_ble_eq_true rfl, Nat.le_of_ble_eq_true rfl⟩ rfl hl.1 rfl (Nat.le_of_ble_eq_true rfl) ⟨Nat.le_refl _, Nat.le_refl _⟩ dX9_countWords_2) (fun H locs w => ?_)
  refine fy_astoreO_n (lv' := [(3, va_re g.2.2.1 r2), (0, .ref (g.2.2.1 0)), (1, .int v1), (2, .int v2)]) hx hb dX9_countWords_5 rfl hl (by decide) rfl (fun ls hl => ?_)
  cases r2 with
  | none =>
    dsimp only at h
    refine lv_aload_nN hx hb dX9_countWords_6 rfl (lv_at hl 0 rfl) ?_
    refine lv_ifnullN (tgt := 20) hx hb dX9_countWords_7 (by decide) ?_
    refine lv_ldc2 (v := (-1 : Int64)) hx hb hown (hts _ tw428) dX9_countWords_20 ?_
    cases h
    exact fy_retL C w dX9_countWords_23
  | some r2_ =>
    dsimp only at h
    refine lv_aload_n hx hb dX9_countWords_6 rfl (lv_at hl 0 rfl) ?_
    refine lv_ifnull hx hb dX9_countWords_7 ?_
    refine lv_iload_n hx hb dX9_countWords_10 rfl (lv_at hl 3 rfl) ?_
    refine lv_iconst (v := (0 : Int32)) hx hb dX9_countWords_11 (by decide) ?_
    refine lv_bipush (v := (20 : Int32)) hx hb dX9_countWords_12 (by decide) ?_
    obtain ⟨r14, h14, h⟩ := fy_bd_some h
    refine fy_calI w (fy_runS (As := [.int v2, .int (0 : Int32), .int (20 : Int32)]) (rest := []) C w (c_X9_isWithin l g X_full  h14) ksX9_92 ⟨Nat.le_of_ble_eq_true rfl, Nat.le_of_ble_eq_true rfl⟩ rfl hl.1 rfl (Nat.le_of_ble_eq_true rfl) ⟨Nat.le_refl _, Nat.le_refl _⟩ dX9_countWords_14) (fun H locs w => ?_)
    refine lv_if_ne (tgt := 24) hx hb dX9_countWords_17 (by decide) (fun hc => ?_) (fun hc => ?_)
    · have h := fy_if_f h hc
      refine lv_aload_n hx hb dX9_countWords_24 rfl (lv_at hl 1 rfl) ?_
      refine gfX9_59 X_full C w (X_i0) dX9_countWords_25 ?_
      refine lv_aload_n hx hb dX9_countWords_28 rfl (lv_at hl 0 rfl) ?_
      obtain ⟨S29, h29, h⟩ := fy_bd_some h
      refine fy_calV w (fy_runV (As := [.ref (g.2.2.1 r2_)]) (rest := []) C w (c_X7_load l g X_i20 (cls_X9_automatonIn  h2) h29) (X_o7 X_full X_i20) ksX9_208 rfl ⟨Nat.le_of_ble_eq_true rfl, Nat.le_of_ble_eq_true rfl⟩ rfl hl.1 rfl (Nat.le_of_ble_eq_true rfl) ⟨Nat.le_refl _, Nat.le_refl _⟩ dX9_countWords_29) (fun H locs w => ?_)
      refine lv_aload_n hx hb dX9_countWords_32 rfl (lv_at hl 1 rfl) ?_
      refine gfX9_59 X_full C w (X_i0) dX9_countWords_33 ?_
      refine lv_iload_n hx hb dX9_countWords_36 rfl (lv_at hl 3 rfl) ?_
      obtain ⟨S37, r37, h37, h⟩ := fy_bp_some h
      refine fy_calL w (fy_runV (As := [.int v2]) (rest := []) C w (c_X7_countAccepted l g X_i20 h37) (X_o7 X_full X_i20) ksX9_254 rfl ⟨Nat.le_of_ble_eq_true rfl, Nat.le_of_ble_eq_true rfl⟩ rfl hl.1 rfl (Nat.le_of_ble_eq_true rfl) ⟨Nat.le_refl _, Nat.le_refl _⟩ dX9_countWords_37) (fun H locs w => ?_)
      cases h
      exact fy_retL C w dX9_countWords_40
    · have h := fy_if_t h hc
      refine lv_ldc2 (v := (-1 : Int64)) hx hb hown (hts _ tw428) dX9_countWords_20 ?_
      cases h
      exact fy_retL C w dX9_countWords_23

set_option maxHeartbeats 4000000 in
set_option maxRecDepth 100000 in
theorem c_X9_countWords (l : Launch) (g : fy_G) {S : fy_S} {v1 : Int32} {v2 : Int32} {Sr : fy_S} {rr : Int64}  (h : X9_countWords S v1 v2 = some (Sr, rr)) : fy_M g X_Y l yX9_countWords cX9_countWords 4 (some .long) (fy_rm 4) [.ref (g.2.2.1 0), .int v1, .int v2] S (fy_QL g X_Y rr Sr) :=
  fy_entry (by decide +kernel) (Nat.le_of_ble_eq_true rfl) (fun p e s m args below meth c ls C w hl => t_X9_countWords C  h w hl)
def X0_takeShape (S : fy_S) (v0 : Nat) (v1 : Nat) (v2 : Int32) : Option (fy_S) :=
  fy_bl (fy_sI S v0 3 v2) fun S2 =>
  fy_bl (fy_sI S2 v0 4 (S2.1 v1 4)) fun S10 =>
  fy_gd (fy_cpI .int (S10.1 (v1 + 1)) (0 : Int32) (0 : Int32) (3 : Int32) 3 3) <|
  fy_bl (fy_sA S10 (v0 + 1) (va_cpy (S10.1 (v1 + 1)) (S10.1 (v0 + 1)) (0 : Int32).toNatClampNeg (0 : Int32).toNatClampNeg (3 : Int32).toNatClampNeg)) fun S24 =>
  some S24
set_option maxHeartbeats 4000000 in
set_option maxRecDepth 100000 in
theorem t_X0_takeShape {p : Program} {l : Launch} {e : Env} {s : State} {m : MethodId} {args : Array Value} {below : List Frame} {meth : Method} {c : Code} {g : fy_G} {y : fy_Y} (C : fy_C g y p s m args meth c yX0_takeShape.cls cX0_takeShape 3 none) (hcl : X_clo y) {S : fy_S} {v0 : Nat} {v1 : Nat} {v2 : Int32} {Sr : fy_S}  (q0 : X_is y 0 v0) (q1 : X_is y 0 v1) {H : Heap} {locs : List Loc} {ls : Array Slot} (h : X0_takeShape S v0 v1 v2 = some Sr) (w : fy_W g y S s H locs) (hl : lv_has ls 3 [(0, .ref (g.2.2.1 v0)), (1, .ref (g.2.2.1 v1)), (2, .int v2)]) : W p l e (fy_rm 1) s m args below meth c H locs 0 0 (MQ below (fy_QV g y Sr) args s 0 0 (fy_A g y)) (F0 m 0 ls []) := by
  obtain ⟨hx, hb, hr, hts, hown, hlk, hml, hK, hD, hE, hN⟩ := id C
  rw [X0_takeShape] at h
  refine lv_aload_n hx hb dX0_takeShape_0 rfl (lv_at hl 0 rfl) ?_
  refine lv_iload_n hx hb dX0_takeShape_1 rfl (lv_at hl 2 rfl) ?_
  refine pfX0_30 hcl C w q0 dX0_takeShape_2 (fun H locs w => ?_)
  obtain ⟨S2, e2⟩ : ∃ z, z = fy_sI S v0 3 v2 := ⟨_, rfl⟩
  have h := fy_bl_some e2 h
  rw [← e2] at w
  refine lv_aload_n hx hb dX0_takeShape_5 rfl (lv_at hl 0 rfl) ?_
  refine lv_aload_n hx hb dX0_takeShape_6 rfl (lv_at hl 1 rfl) ?_
  refine gfX0_34 hcl C w q1 dX0_takeShape_7 ?_
  refine pfX0_34 hcl C w q0 dX0_takeShape_10 (fun H locs w => ?_)
  obtain ⟨S10, e10⟩ : ∃ z, z = fy_sI S2 v0 4 (S2.1 v1 4) := ⟨_, rfl⟩
  have h := fy_bl_some e10 h
  rw [← e10] at w
  refine lv_aload_n hx hb dX0_takeShape_13 rfl (lv_at hl 1 rfl) ?_
  refine gfX0_9 hcl C w q1 dX0_takeShape_14 ?_
  refine lv_iconst (v := (0 : Int32)) hx hb dX0_takeShape_17 (by decide) ?_
  refine lv_aload_n hx hb dX0_takeShape_18 rfl (lv_at hl 0 rfl) ?_
  refine gfX0_9 hcl C w q0 dX0_takeShape_19 ?_
  refine lv_iconst (v := (0 : Int32)) hx hb dX0_takeShape_22 (by decide) ?_
  refine lv_iconst (v := (3 : Int32)) hx hb dX0_takeShape_23 (by decide) ?_
  obtain ⟨g24, h⟩ := fy_gd_some h
  refine fy_cpy0 (l := l) C w (X_f0_weights hcl q1) (X_f0_weights hcl q0) g24 tw721 tw360 tw361 tw362 hl.1 (Nat.le_of_ble_eq_true rfl) (Nat.le_of_ble_eq_true rfl) dX0_takeShape_24 (fun H locs w => ?_)
  obtain ⟨S24, e24⟩ : ∃ z, z = fy_sA S10 (v0 + 1) (va_cpy (S10.1 (v1 + 1)) (S10.1 (v0 + 1)) (0 : Int32).toNatClampNeg (0 : Int32).toNatClampNeg (3 : Int32).toNatClampNeg) := ⟨_, rfl⟩
  have h := fy_bl_some e24 h
  rw [← e24] at w
  cases h
  exact fy_retV C w dX0_takeShape_27

set_option maxHeartbeats 4000000 in
set_option maxRecDepth 100000 in
theorem c_X0_takeShape (l : Launch) (g : fy_G) {y : fy_Y} (hcl : X_clo y) {S : fy_S} {v0 : Nat} {v1 : Nat} {v2 : Int32} {Sr : fy_S}  (q0 : X_is y 0 v0) (q1 : X_is y 0 v1) (h : X0_takeShape S v0 v1 v2 = some Sr) : fy_M g y l yX0_takeShape cX0_takeShape 3 none (fy_rm 1) [.ref (g.2.2.1 v0), .ref (g.2.2.1 v1), .int v2] S (fy_QV g y Sr) :=
  fy_entry (by decide +kernel) (Nat.le_of_ble_eq_true rfl) (fun p e s m args below meth c ls C w hl => t_X0_takeShape C hcl q0 q1 h w hl)
def X2_dualNode (S : fy_S) (v0 : Int32) : Option (Int32) :=
  if v0 = (6 : Int32) then (
    some (7 : Int32))
  else (
    if v0 = (7 : Int32) then (
      some (6 : Int32))
    else (
      if v0 = (8 : Int32) then (
        some (9 : Int32))
      else (
        if v0 = (9 : Int32) then (
          some (8 : Int32))
        else (
          fy_gd (fy_nr .byte v0) <| some v0))))
set_option maxHeartbeats 4000000 in
set_option maxRecDepth 100000 in
theorem t_X2_dualNode {p : Program} {l : Launch} {e : Env} {s : State} {m : MethodId} {args : Array Value} {below : List Frame} {meth : Method} {c : Code} {g : fy_G} {y : fy_Y} (C : fy_C g y p s m args meth c yX2_dualNode.cls cX2_dualNode 1 (some .byte)) (hcl : X_clo y) {S : fy_S} {v0 : Int32} {rr : Int32}  {H : Heap} {locs : List Loc} {ls : Array Slot} (h : X2_dualNode S v0 = some rr) (w : fy_W g y S s H locs) (hl : lv_has ls 1 [(0, .int v0)]) : W p l e (fy_rm 0) s m args below meth c H locs 0 0 (MQ below (fy_QI g y rr S) args s 0 0 (fy_A g y)) (F0 m 0 ls []) := by
  obtain ⟨hx, hb, hr, hts, hown, hlk, hml, hK, hD, hE, hN⟩ := id C
  rw [X2_dualNode] at h
  refine lv_iload_n hx hb dX2_dualNode_0 rfl (lv_at hl 0 rfl) ?_
  by_cases hs6 : v0 = (6 : Int32)
  · have h := fy_if_t h hs6
    refine lv_tableIn (tgt := 32) (off := 31) hx hb dX2_dualNode_1 (by rw [hs6]; decide) (by rw [hs6]; decide) (by rw [hs6]; decide) (by decide) ?_
    refine lv_bipush (v := (7 : Int32)) hx hb dX2_dualNode_32 (by decide) ?_
    cases h
    exact fy_retZ C w (by decide +kernel) dX2_dualNode_34
  · have h := fy_if_f h hs6
    by_cases hs7 : v0 = (7 : Int32)
    · have h := fy_if_t h hs7
      refine lv_tableIn (tgt := 35) (off := 34) hx hb dX2_dualNode_1 (by rw [hs7]; decide) (by rw [hs7]; decide) (by rw [hs7]; decide) (by decide) ?_
      refine lv_bipush (v := (6 : Int32)) hx hb dX2_dualNode_35 (by decide) ?_
      cases h
      exact fy_retZ C w (by decide +kernel) dX2_dualNode_37
    · have h := fy_if_f h hs7
      by_cases hs8 : v0 = (8 : Int32)
      · have h := fy_if_t h hs8
        refine lv_tableIn (tgt := 41) (off := 40) hx hb dX2_dualNode_1 (by rw [hs8]; decide) (by rw [hs8]; decide) (by rw [hs8]; decide) (by decide) ?_
        refine lv_bipush (v := (9 : Int32)) hx hb dX2_dualNode_41 (by decide) ?_
        cases h
        exact fy_retZ C w (by decide +kernel) dX2_dualNode_43
      · have h := fy_if_f h hs8
        by_cases hs9 : v0 = (9 : Int32)
        · have h := fy_if_t h hs9
          refine lv_tableIn (tgt := 38) (off := 37) hx hb dX2_dualNode_1 (by rw [hs9]; decide) (by rw [hs9]; decide) (by rw [hs9]; decide) (by decide) ?_
          refine lv_bipush (v := (8 : Int32)) hx hb dX2_dualNode_38 (by decide) ?_
          cases h
          exact fy_retZ C w (by decide +kernel) dX2_dualNode_40
        · have h := fy_if_f h hs9
          refine lv_tableOut (tgt := 44) hx hb dX2_dualNode_1 (fy_sw4 hs6 hs7 hs8 hs9) (by decide) ?_
          refine lv_iload_n hx hb dX2_dualNode_44 rfl (lv_at hl 0 rfl) ?_
          obtain ⟨gg, h⟩ := fy_gd_some h
          cases h
          exact fy_retZ C w (fy_nr_ok gg) dX2_dualNode_45

set_option maxHeartbeats 4000000 in
set_option maxRecDepth 100000 in
theorem c_X2_dualNode (l : Launch) (g : fy_G) {y : fy_Y} (hcl : X_clo y) {S : fy_S} {v0 : Int32} {rr : Int32}  (h : X2_dualNode S v0 = some rr) : fy_M g y l yX2_dualNode cX2_dualNode 1 (some .byte) (fy_rm 0) [.int v0] S (fy_QI g y rr S) :=
  fy_entry (by decide +kernel) (Nat.le_of_ble_eq_true rfl) (fun p e s m args below meth c ls C w hl => t_X2_dualNode C hcl  h w hl)
def X2_dualTable_5 (S : fy_S) : Nat → Int64 → Int64 → Int32 → Option (Int64)
  | 0, _, _, _ => none
  | fu + 1, v0, v2, v4 =>
    if (64 : Int32) ≤ v4 then (
      some v2)
    else (
      fy_bd (X9_isIn S v0 ((63 : Int32) - v4)) fun r18 =>
      if r18 = 0 then (
        fy_bl (v2 ||| ((1 : Int64) <<< (v4.toInt64 &&& 63))) fun x30 =>
        fy_bl (v4 + (1 : Int32)) fun x31 =>
        X2_dualTable_5 S fu v0 x30 x31)
      else (
        fy_bl (v4 + (1 : Int32)) fun x31 =>
        X2_dualTable_5 S fu v0 v2 x31))
def X2_dualTable (S : fy_S) (v0 : Int64) : Option (Int64) :=
  X2_dualTable_5 S fy_fu v0 (0 : Int64) (0 : Int32)
set_option maxHeartbeats 4000000 in
set_option maxRecDepth 100000 in
theorem t_X2_dualTable_5 {p : Program} {l : Launch} {e : Env} {s : State} {m : MethodId} {args : Array Value} {below : List Frame} {meth : Method} {c : Code} {g : fy_G} {y : fy_Y} (C : fy_C g y p s m args meth c yX2_dualTable.cls cX2_dualTable 5 (some .long)) (hcl : X_clo y) {S : fy_S} {rr : Int64} : ∀ (fu : Nat) (v0 : Int64) (v2 : Int64) (v4 : Int32) (H : Heap) (locs : List Loc) (ls : Array Slot), X2_dualTable_5 S fu v0 v2 v4 = some rr → fy_W g y S s H locs → lv_has ls 5 [(0, .long v0), (2, .long v2), (4, .int v4)] → W p l e (fy_rm 1) s m args below meth c H locs 0 0 (MQ below (fy_QL g y rr S) args s 0 0 (fy_A g y)) (F0 m 5 ls []) := by
  obtain ⟨hx, hb, hr, hts, hown, hlk, hml, hK, hD, hE, hN⟩ := id C
  intro fu
  induction fu with
  | zero => intro v0 v2 v4 H locs ls h; cases h
  | succ fu ih =>
    intro v0 v2 v4 H locs ls h w  hl
    rw [X2_dualTable_5] at h
    refine lv_iload hx hb dX2_dualTable_5 (lv_at hl 2 rfl) ?_
    refine lv_bipush (v := (64 : Int32)) hx hb dX2_dualTable_7 (by decide) ?_
    refine lv_icmp_ge (tgt := 37) hx hb dX2_dualTable_9 (by decide) (fun hc => ?_) (fun hc => ?_)
    · have h := fy_if_t h hc
      refine lv_lload_n hx hb dX2_dualTable_37 rfl (lv_at hl 1 rfl) ?_
      cases h
      exact fy_retL C w dX2_dualTable_38
    · have h := fy_if_f h hc
      refine lv_lload_n hx hb dX2_dualTable_12 rfl (lv_at hl 0 rfl) ?_
      refine lv_bipush (v := (63 : Int32)) hx hb dX2_dualTable_13 (by decide) ?_
      refine lv_iload hx hb dX2_dualTable_15 (lv_at hl 2 rfl) ?_
      refine lv_isub hx hb dX2_dualTable_17 ?_
      obtain ⟨r18, h18, h⟩ := fy_bd_some h
      refine fy_calI w (fy_runN (As := [.long v0, .int ((63 : Int32) - v4)]) (rest := []) C w (c_X9_isIn l g hcl  h18) ksX2_26 ⟨Nat.le_of_ble_eq_true rfl, Nat.le_of_ble_eq_true rfl⟩ rfl hl.1 rfl (Nat.le_of_ble_eq_true rfl) ⟨Nat.le_refl _, Nat.le_refl _⟩ dX2_dualTable_18) (fun H locs w => ?_)
      refine lv_if_ne (tgt := 31) hx hb dX2_dualTable_21 (by decide) (fun hc => ?_) (fun hc => ?_)
      · have h := fy_if_f h hc
        obtain ⟨x31, e31⟩ : ∃ z : Int32, z = v4 + (1 : Int32) := ⟨_, rfl⟩
        have h := fy_bl_some e31 h
        refine lv_iinc (k := 2) (v := x31) (lv' := [(4, .int x31), (0, .long v0), (2, .long v2)]) hx hb dX2_dualTable_31 hl rfl (by rw [e31]; rfl) (by decide) rfl (fun ls hl => ?_)
        refine lv_goto (tgt := 5) hx hb dX2_dualTable_34 (by decide) ?_
        exact ih _ _ _ _ _ _ h w (lv_sub hl [1, 2, 0] rfl)
      · have h := fy_if_t h hc
        refine lv_lload_n hx hb dX2_dualTable_24 rfl (lv_at hl 1 rfl) ?_
        refine lv_lconst (v := (1 : Int64)) hx hb dX2_dualTable_25 (by decide) ?_
        refine lv_iload hx hb dX2_dualTable_26 (lv_at hl 2 rfl) ?_
        refine lv_lshl (v := (1 : Int64) <<< (v4.toInt64 &&& 63)) hx hb dX2_dualTable_28 rfl ?_
        refine lv_lor hx hb dX2_dualTable_29 ?_
        refine lv_topl (fun x30 e30 => ?_)
        have h := fy_bl_some e30 h
        refine lv_lstore_n (lv' := [(2, .long x30), (0, .long v0), (4, .int v4)]) hx hb dX2_dualTable_30 rfl hl (by decide) rfl (fun ls hl => ?_)
        obtain ⟨x31, e31⟩ : ∃ z : Int32, z = v4 + (1 : Int32) := ⟨_, rfl⟩
        have h := fy_bl_some e31 h
        refine lv_iinc (k := 2) (v := x31) (lv' := [(4, .int x31), (2, .long x30), (0, .long v0)]) hx hb dX2_dualTable_31 hl rfl (by rw [e31]; rfl) (by decide) rfl (fun ls hl => ?_)
        refine lv_goto (tgt := 5) hx hb dX2_dualTable_34 (by decide) ?_
        exact ih _ _ _ _ _ _ h w (lv_sub hl [2, 1, 0] rfl)

set_option maxHeartbeats 4000000 in
set_option maxRecDepth 100000 in
theorem t_X2_dualTable {p : Program} {l : Launch} {e : Env} {s : State} {m : MethodId} {args : Array Value} {below : List Frame} {meth : Method} {c : Code} {g : fy_G} {y : fy_Y} (C : fy_C g y p s m args meth c yX2_dualTable.cls cX2_dualTable 5 (some .long)) (hcl : X_clo y) {S : fy_S} {v0 : Int64} {rr : Int64}  {H : Heap} {locs : List Loc} {ls : Array Slot} (h : X2_dualTable S v0 = some rr) (w : fy_W g y S s H locs) (hl : lv_has ls 5 [(0, .long v0)]) : W p l e (fy_rm 1) s m args below meth c H locs 0 0 (MQ below (fy_QL g y rr S) args s 0 0 (fy_A g y)) (F0 m 0 ls []) := by
  obtain ⟨hx, hb, hr, hts, hown, hlk, hml, hK, hD, hE, hN⟩ := id C
  rw [X2_dualTable] at h
  refine lv_lconst (v := (0 : Int64)) hx hb dX2_dualTable_0 (by decide) ?_
  refine lv_lstore_n (lv' := [(2, .long (0 : Int64)), (0, .long v0)]) hx hb dX2_dualTable_1 rfl hl (by decide) rfl (fun ls hl => ?_)
  refine lv_iconst (v := (0 : Int32)) hx hb dX2_dualTable_2 (by decide) ?_
  refine lv_istore (lv' := [(4, .int (0 : Int32)), (2, .long (0 : Int64)), (0, .long v0)]) hx hb dX2_dualTable_3 hl (by decide) rfl (fun ls hl => ?_)
  exact t_X2_dualTable_5 C hcl fy_fu _ _ _ _ _ _ h w (lv_sub hl [2, 1, 0] rfl)

set_option maxHeartbeats 4000000 in
set_option maxRecDepth 100000 in
theorem c_X2_dualTable (l : Launch) (g : fy_G) {y : fy_Y} (hcl : X_clo y) {S : fy_S} {v0 : Int64} {rr : Int64}  (h : X2_dualTable S v0 = some rr) : fy_M g y l yX2_dualTable cX2_dualTable 5 (some .long) (fy_rm 1) [.long v0] S (fy_QL g y rr S) :=
  fy_entry (by decide +kernel) (Nat.le_of_ble_eq_true rfl) (fun p e s m args below meth c ls C w hl => t_X2_dualTable C hcl  h w hl)
def X2_becomeDual_2 : Nat → fy_S → Nat → Nat → Int32 → Option (fy_S)
  | 0, _, _, _, _ => none
  | fu + 1, S, v0, v1, v2 =>
    if (S.1 v1 1) ≤ v2 then (
      fy_bl (fy_sI S v0 1 (S.1 v1 1)) fun S36 =>
      fy_bd (X2_dualTable S36 (S36.2 v1 2)) fun r44 =>
      fy_bl (fy_sL S36 v0 2 r44) fun S47 =>
      some S47)
    else (
      fy_gd (fy_ix v2 40) <|
      fy_bd (X2_dualNode S (S.1 (v1 + 1) v2.toNatClampNeg)) fun r21 =>
      fy_gd (fy_ix v2 40) <|
      fy_bl (fy_sI S (v0 + 1) v2.toNatClampNeg (vp_nar .byte r21)) fun S24 =>
      fy_bl (v2 + (1 : Int32)) fun x25 =>
      X2_becomeDual_2 fu S24 v0 v1 x25)
def X2_becomeDual (S : fy_S) (v0 : Nat) (v1 : Nat) : Option (fy_S) :=
  X2_becomeDual_2 fy_fu S v0 v1 (0 : Int32)
set_option maxHeartbeats 4000000 in
set_option maxRecDepth 100000 in
theorem t_X2_becomeDual_2 {p : Program} {l : Launch} {e : Env} {s : State} {m : MethodId} {args : Array Value} {below : List Frame} {meth : Method} {c : Code} {g : fy_G} {y : fy_Y} (C : fy_C g y p s m args meth c yX2_becomeDual.cls cX2_becomeDual 3 none) (hcl : X_clo y) {Sr : fy_S}  : ∀ (fu : Nat) (S : fy_S) (v0 : Nat) (v1 : Nat) (v2 : Int32) (H : Heap) (locs : List Loc) (ls : Array Slot), X2_becomeDual_2 fu S v0 v1 v2 = some Sr → fy_W g y S s H locs → X_is y 2 v0 → X_is y 2 v1 → lv_has ls 3 [(0, .ref (g.2.2.1 v0)), (1, .ref (g.2.2.1 v1)), (2, .int v2)] → W p l e (fy_rm 2) s m args below meth c H locs 0 0 (MQ below (fy_QV g y Sr) args s 0 0 (fy_A g y)) (F0 m 2 ls []) := by
  obtain ⟨hx, hb, hr, hts, hown, hlk, hml, hK, hD, hE, hN⟩ := id C
  intro fu
  induction fu with
  | zero => intro S v0 v1 v2 H locs ls h; cases h
  | succ fu ih =>
    intro S v0 v1 v2 H locs ls h w q0 q1 hl
    rw [X2_becomeDual_2] at h
    refine lv_iload_n hx hb dX2_becomeDual_2 rfl (lv_at hl 2 rfl) ?_
    refine lv_aload_n hx hb dX2_becomeDual_3 rfl (lv_at hl 1 rfl) ?_
    refine gfX2_18 hcl C w q1 dX2_becomeDual_4 ?_
    refine lv_icmp_ge (tgt := 31) hx hb dX2_becomeDual_7 (by decide) (fun hc => ?_) (fun hc => ?_)
    · have h := fy_if_t h hc
      refine lv_aload_n hx hb dX2_becomeDual_31 rfl (lv_at hl 0 rfl) ?_
      refine lv_aload_n hx hb dX2_becomeDual_32 rfl (lv_at hl 1 rfl) ?_
      refine gfX2_18 hcl C w q1 dX2_becomeDual_33 ?_
      refine pfX2_18 hcl C w q0 dX2_becomeDual_36 (fun H locs w => ?_)
      obtain ⟨S36, e36⟩ : ∃ z, z = fy_sI S v0 1 (S.1 v1 1) := ⟨_, rfl⟩
      have h := fy_bl_some e36 h
      rw [← e36] at w
      refine lv_aload_n hx hb dX2_becomeDual_39 rfl (lv_at hl 0 rfl) ?_
      refine lv_aload_n hx hb dX2_becomeDual_40 rfl (lv_at hl 1 rfl) ?_
      refine gfX2_22 hcl C w q1 dX2_becomeDual_41 ?_
      obtain ⟨r44, h44, h⟩ := fy_bd_some h
      refine fy_calL w (fy_runS (As := [.long (S36.2 v1 2)]) (rest := [.ref (g.2.2.1 v0)]) C w (c_X2_dualTable l g hcl  h44) ksX2_44 ⟨Nat.le_of_ble_eq_true rfl, Nat.le_of_ble_eq_true rfl⟩ rfl hl.1 rfl (Nat.le_of_ble_eq_true rfl) ⟨Nat.le_refl _, Nat.le_refl _⟩ dX2_becomeDual_44) (fun H locs w => ?_)
      refine pfX2_22 hcl C w q0 dX2_becomeDual_47 (fun H locs w => ?_)
      obtain ⟨S47, e47⟩ : ∃ z, z = fy_sL S36 v0 2 r44 := ⟨_, rfl⟩
      have h := fy_bl_some e47 h
      rw [← e47] at w
      cases h
      exact fy_retV C w dX2_becomeDual_50
    · have h := fy_if_f h hc
      refine lv_aload_n hx hb dX2_becomeDual_10 rfl (lv_at hl 0 rfl) ?_
      refine gfX2_9 hcl C w q0 dX2_becomeDual_11 ?_
      refine lv_iload_n hx hb dX2_becomeDual_14 rfl (lv_at hl 2 rfl) ?_
      refine lv_aload_n hx hb dX2_becomeDual_15 rfl (lv_at hl 1 rfl) ?_
      refine gfX2_9 hcl C w q1 dX2_becomeDual_16 ?_
      refine lv_iload_n hx hb dX2_becomeDual_19 rfl (lv_at hl 2 rfl) ?_
      obtain ⟨g20, h⟩ := fy_gd_some h
      refine fy_bald C w (X_f2_nodes hcl q1) g20 dX2_becomeDual_20 ?_
      obtain ⟨r21, h21, h⟩ := fy_bd_some h
      refine fy_calI w (fy_runS (As := [.int (S.1 (v1 + 1) v2.toNatClampNeg)]) (rest := [.int v2, .ref (g.2.2.1 (v0 + 1))]) C w (c_X2_dualNode l g hcl  h21) ksX2_40 ⟨Nat.le_of_ble_eq_true rfl, Nat.le_of_ble_eq_true rfl⟩ rfl hl.1 rfl (Nat.le_of_ble_eq_true rfl) ⟨Nat.le_refl _, Nat.le_refl _⟩ dX2_becomeDual_21) (fun H locs w => ?_)
      obtain ⟨g24, h⟩ := fy_gd_some h
      refine fy_bast C w (X_f2_nodes hcl q0) g24 dX2_becomeDual_24 (fun H locs w => ?_)
      obtain ⟨S24, e24⟩ : ∃ z, z = fy_sI S (v0 + 1) v2.toNatClampNeg (vp_nar .byte r21) := ⟨_, rfl⟩
      have h := fy_bl_some e24 h
      rw [← e24] at w
      obtain ⟨x25, e25⟩ : ∃ z : Int32, z = v2 + (1 : Int32) := ⟨_, rfl⟩
      have h := fy_bl_some e25 h
      refine lv_iinc (k := 2) (v := x25) (lv' := [(2, .int x25), (0, .ref (g.2.2.1 v0)), (1, .ref (g.2.2.1 v1))]) hx hb dX2_becomeDual_25 hl rfl (by rw [e25]; rfl) (by decide) rfl (fun ls hl => ?_)
      refine lv_goto (tgt := 2) hx hb dX2_becomeDual_28 (by decide) ?_
      exact ih _ _ _ _ _ _ _ h w q0 q1 (lv_sub hl [1, 2, 0] rfl)

set_option maxHeartbeats 4000000 in
set_option maxRecDepth 100000 in
theorem t_X2_becomeDual {p : Program} {l : Launch} {e : Env} {s : State} {m : MethodId} {args : Array Value} {below : List Frame} {meth : Method} {c : Code} {g : fy_G} {y : fy_Y} (C : fy_C g y p s m args meth c yX2_becomeDual.cls cX2_becomeDual 3 none) (hcl : X_clo y) {S : fy_S} {v0 : Nat} {v1 : Nat} {Sr : fy_S}  (q0 : X_is y 2 v0) (q1 : X_is y 2 v1) {H : Heap} {locs : List Loc} {ls : Array Slot} (h : X2_becomeDual S v0 v1 = some Sr) (w : fy_W g y S s H locs) (hl : lv_has ls 3 [(0, .ref (g.2.2.1 v0)), (1, .ref (g.2.2.1 v1))]) : W p l e (fy_rm 2) s m args below meth c H locs 0 0 (MQ below (fy_QV g y Sr) args s 0 0 (fy_A g y)) (F0 m 0 ls []) := by
  obtain ⟨hx, hb, hr, hts, hown, hlk, hml, hK, hD, hE, hN⟩ := id C
  rw [X2_becomeDual] at h
  refine lv_iconst (v := (0 : Int32)) hx hb dX2_becomeDual_0 (by decide) ?_
  refine lv_istore_n (lv' := [(2, .int (0 : Int32)), (0, .ref (g.2.2.1 v0)), (1, .ref (g.2.2.1 v1))]) hx hb dX2_becomeDual_1 rfl hl (by decide) rfl (fun ls hl => ?_)
  exact t_X2_becomeDual_2 C hcl fy_fu _ _ _ _ _ _ _ h w q0 q1 (lv_sub hl [1, 2, 0] rfl)

set_option maxHeartbeats 4000000 in
set_option maxRecDepth 100000 in
theorem c_X2_becomeDual (l : Launch) (g : fy_G) {y : fy_Y} (hcl : X_clo y) {S : fy_S} {v0 : Nat} {v1 : Nat} {Sr : fy_S}  (q0 : X_is y 2 v0) (q1 : X_is y 2 v1) (h : X2_becomeDual S v0 v1 = some Sr) : fy_M g y l yX2_becomeDual cX2_becomeDual 3 none (fy_rm 2) [.ref (g.2.2.1 v0), .ref (g.2.2.1 v1)] S (fy_QV g y Sr) :=
  fy_entry (by decide +kernel) (Nat.le_of_ble_eq_true rfl) (fun p e s m args below meth c ls C w hl => t_X2_becomeDual C hcl q0 q1 h w hl)
end
