noncomputable section
def X4_leafFor (S : fy_S) (v0 : Int32) (v1 : Int32) : Option (Int32) :=
  if v0 = (116 : Int32) then (
    some (6 : Int32))
  else (
    if v0 = (102 : Int32) then (
      some (7 : Int32))
    else (
      fy_bl (v0 - (48 : Int32)) fun x22 =>
      if x22 < 0 then (
        some (-1 : Int32))
      else (
        if v1 ≤ x22 then (
          some (-1 : Int32))
        else (
          some x22))))
set_option maxHeartbeats 4000000 in
set_option maxRecDepth 100000 in
theorem t_X4_leafFor {p : Program} {l : Launch} {e : Env} {s : State} {m : MethodId} {args : Array Value} {below : List Frame} {meth : Method} {c : Code} {g : fy_G} (C : fy_C g X_Y p s m args meth c yX4_leafFor.cls cX4_leafFor 3 (some .int)) {S : fy_S} {v0 : Int32} {v1 : Int32} {rr : Int32}  {H : Heap} {locs : List Loc} {ls : Array Slot} (h : X4_leafFor S v0 v1 = some rr) (w : fy_W g X_Y S s H locs) (hl : lv_has ls 3 [(0, .int v0), (1, .int v1)]) : W p l e (fy_rm 0) s m args below meth c H locs 0 0 (MQ below (fy_QI g X_Y rr S) args s 0 0 (fy_A g X_Y)) (F0 m 0 ls []) := by
  obtain ⟨hx, hb, hr, hts, hown, hlk, hml, hK, hD, hE, hN⟩ := id C
  rw [X4_leafFor] at h
  refine lv_iload_n hx hb dX4_leafFor_0 rfl (lv_at hl 0 rfl) ?_
  refine lv_bipush (v := (116 : Int32)) hx hb dX4_leafFor_1 (by decide) ?_
  refine lv_icmp_ne (tgt := 9) hx hb dX4_leafFor_3 (by decide) (fun hc => ?_) (fun hc => ?_)
  · have h := fy_if_f h hc
    refine lv_iload_n hx hb dX4_leafFor_9 rfl (lv_at hl 0 rfl) ?_
    refine lv_bipush (v := (102 : Int32)) hx hb dX4_leafFor_10 (by decide) ?_
    refine lv_icmp_ne (tgt := 18) hx hb dX4_leafFor_12 (by decide) (fun hc => ?_) (fun hc => ?_)
    · have h := fy_if_f h hc
      refine lv_iload_n hx hb dX4_leafFor_18 rfl (lv_at hl 0 rfl) ?_
      refine lv_bipush (v := (48 : Int32)) hx hb dX4_leafFor_19 (by decide) ?_
      refine lv_isub hx hb dX4_leafFor_21 ?_
      refine lv_topi (fun x22 e22 => ?_)
      have h := fy_bl_some e22 h
      refine lv_istore_n (lv' := [(2, .int x22), (0, .int v0), (1, .int v1)]) hx hb dX4_leafFor_22 rfl hl (by decide) rfl (fun ls hl => ?_)
      refine lv_iload_n hx hb dX4_leafFor_23 rfl (lv_at hl 0 rfl) ?_
      refine lv_if_lt (tgt := 36) hx hb dX4_leafFor_24 (by decide) (fun hc => ?_) (fun hc => ?_)
      · have h := fy_if_t h hc
        refine lv_iconst (v := (-1 : Int32)) hx hb dX4_leafFor_36 (by decide) ?_
        cases h
        exact fy_retI C w dX4_leafFor_37
      · have h := fy_if_f h hc
        refine lv_iload_n hx hb dX4_leafFor_27 rfl (lv_at hl 0 rfl) ?_
        refine lv_iload_n hx hb dX4_leafFor_28 rfl (lv_at hl 2 rfl) ?_
        refine lv_icmp_ge (tgt := 36) hx hb dX4_leafFor_29 (by decide) (fun hc => ?_) (fun hc => ?_)
        · have h := fy_if_t h hc
          refine lv_iconst (v := (-1 : Int32)) hx hb dX4_leafFor_36 (by decide) ?_
          cases h
          exact fy_retI C w dX4_leafFor_37
        · have h := fy_if_f h hc
          refine lv_iload_n hx hb dX4_leafFor_32 rfl (lv_at hl 0 rfl) ?_
          refine lv_goto (tgt := 37) hx hb dX4_leafFor_33 (by decide) ?_
          cases h
          exact fy_retI C w dX4_leafFor_37
    · have h := fy_if_t h hc
      refine lv_bipush (v := (7 : Int32)) hx hb dX4_leafFor_15 (by decide) ?_
      cases h
      exact fy_retI C w dX4_leafFor_17
  · have h := fy_if_t h hc
    refine lv_bipush (v := (6 : Int32)) hx hb dX4_leafFor_6 (by decide) ?_
    cases h
    exact fy_retI C w dX4_leafFor_8

set_option maxHeartbeats 4000000 in
set_option maxRecDepth 100000 in
theorem c_X4_leafFor (l : Launch) (g : fy_G) {S : fy_S} {v0 : Int32} {v1 : Int32} {rr : Int32}  (h : X4_leafFor S v0 v1 = some rr) : fy_M g X_Y l yX4_leafFor cX4_leafFor 3 (some .int) (fy_rm 0) [.int v0, .int v1] S (fy_QI g X_Y rr S) :=
  fy_entry (by decide +kernel) (Nat.le_of_ble_eq_true rfl) (fun p e s m args below meth c ls C w hl => t_X4_leafFor C  h w hl)
def X4_addNode (S : fy_S) (v1 : Int32) : Option (fy_S) :=
  if (60 : Int32) ≤ (S.1 3 5) then (
    some S)
  else (
    fy_gd (fy_ix (S.1 3 5) 60) <|
    fy_bl (fy_sI S 5 (S.1 3 5).toNatClampNeg (vp_nar .byte (v1.toInt8.toInt32))) fun S19 =>
    fy_bl (fy_sI S19 3 5 ((S19.1 3 5) + (1 : Int32))) fun S27 =>
    some S27)
set_option maxHeartbeats 4000000 in
set_option maxRecDepth 100000 in
theorem t_X4_addNode {p : Program} {l : Launch} {e : Env} {s : State} {m : MethodId} {args : Array Value} {below : List Frame} {meth : Method} {c : Code} {g : fy_G} (C : fy_C g X_Y p s m args meth c yX4_addNode.cls cX4_addNode 2 none) {S : fy_S} {v1 : Int32} {Sr : fy_S}   {H : Heap} {locs : List Loc} {ls : Array Slot} (h : X4_addNode S v1 = some Sr) (w : fy_W g X_Y S s H locs) (hl : lv_has ls 2 [(0, .ref (g.2.2.1 3)), (1, .int v1)]) : W p l e (fy_rm 0) s m args below meth c H locs 0 0 (MQ below (fy_QV g X_Y Sr) args s 0 0 (fy_A g X_Y)) (F0 m 0 ls []) := by
  obtain ⟨hx, hb, hr, hts, hown, hlk, hml, hK, hD, hE, hN⟩ := id C
  rw [X4_addNode] at h
  refine lv_aload_n hx hb dX4_addNode_0 rfl (lv_at hl 0 rfl) ?_
  refine gfX4_30 X_full C w (X_i3) dX4_addNode_1 ?_
  refine lv_bipush (v := (60 : Int32)) hx hb dX4_addNode_4 (by decide) ?_
  refine lv_icmp_ge (tgt := 30) hx hb dX4_addNode_6 (by decide) (fun hc => ?_) (fun hc => ?_)
  · have h := fy_if_t h hc
    cases h
    exact fy_retV C w dX4_addNode_30
  · have h := fy_if_f h hc
    refine lv_aload_n hx hb dX4_addNode_9 rfl (lv_at hl 0 rfl) ?_
    refine gfX4_15 X_full C w (X_i3) dX4_addNode_10 ?_
    refine lv_aload_n hx hb dX4_addNode_13 rfl (lv_at hl 0 rfl) ?_
    refine gfX4_30 X_full C w (X_i3) dX4_addNode_14 ?_
    refine lv_iload_n hx hb dX4_addNode_17 rfl (lv_at hl 1 rfl) ?_
    refine lv_i2b (v := (v1.toInt8.toInt32)) hx hb dX4_addNode_18 rfl ?_
    obtain ⟨g19, h⟩ := fy_gd_some h
    refine fy_bast C w X_a5 g19 dX4_addNode_19 (fun H locs w => ?_)
    obtain ⟨S19, e19⟩ : ∃ z, z = fy_sI S 5 (S.1 3 5).toNatClampNeg (vp_nar .byte (v1.toInt8.toInt32)) := ⟨_, rfl⟩
    have h := fy_bl_some e19 h
    rw [← e19] at w
    refine lv_aload_n hx hb dX4_addNode_20 rfl (lv_at hl 0 rfl) ?_
    refine lv_dup hx hb dX4_addNode_21 rfl ?_
    refine gfX4_30 X_full C w (X_i3) dX4_addNode_22 ?_
    refine lv_iconst (v := (1 : Int32)) hx hb dX4_addNode_25 (by decide) ?_
    refine lv_iadd hx hb dX4_addNode_26 ?_
    refine pfX4_30 X_full C w (X_i3) dX4_addNode_27 (fun H locs w => ?_)
    obtain ⟨S27, e27⟩ : ∃ z, z = fy_sI S19 3 5 ((S19.1 3 5) + (1 : Int32)) := ⟨_, rfl⟩
    have h := fy_bl_some e27 h
    rw [← e27] at w
    cases h
    exact fy_retV C w dX4_addNode_30

set_option maxHeartbeats 4000000 in
set_option maxRecDepth 100000 in
theorem c_X4_addNode (l : Launch) (g : fy_G) {S : fy_S} {v1 : Int32} {Sr : fy_S}   (h : X4_addNode S v1 = some Sr) : fy_M g X_Y l yX4_addNode cX4_addNode 2 none (fy_rm 0) [.ref (g.2.2.1 3), .int v1] S (fy_QV g X_Y Sr) :=
  fy_entry (by decide +kernel) (Nat.le_of_ble_eq_true rfl) (fun p e s m args below meth c ls C w hl => t_X4_addNode C  h w hl)
def X4_leafTable_16 (S : fy_S) (v0 : Int32) : Option (Int64) :=
  if v0 = (6 : Int32) then (
    some (-1 : Int64))
  else (
    some (0 : Int64))
def X4_leafTable (S : fy_S) (v0 : Int32) : Option (Int64) :=
  if v0 < 0 then (
    X4_leafTable_16 S v0)
  else (
    if (6 : Int32) ≤ v0 then (
      X4_leafTable_16 S v0)
    else (
      fy_gd (fy_ix v0 6) <|
      some (fy_cont v0.toNatClampNeg)))
set_option maxHeartbeats 4000000 in
set_option maxRecDepth 100000 in
theorem t_X4_leafTable_16 {p : Program} {l : Launch} {e : Env} {s : State} {m : MethodId} {args : Array Value} {below : List Frame} {meth : Method} {c : Code} {g : fy_G} (C : fy_C g X_Y p s m args meth c yX4_leafTable.cls cX4_leafTable 1 (some .long)) {tt : Nat} (hst : g.2.2.2 = some tt) {S : fy_S} {rr : Int64} : ∀ (v0 : Int32) (H : Heap) (locs : List Loc) (ls : Array Slot), X4_leafTable_16 S v0 = some rr → fy_W g X_Y S s H locs → lv_has ls 1 [(0, .int v0)] → W p l e (fy_rm 0) s m args below meth c H locs 0 0 (MQ below (fy_QL g X_Y rr S) args s 0 0 (fy_A g X_Y)) (F0 m 16 ls []) := by
  obtain ⟨hx, hb, hr, hts, hown, hlk, hml, hK, hD, hE, hN⟩ := id C
  intro v0 H locs ls h w  hl
  rw [X4_leafTable_16] at h
  refine lv_iload_n hx hb dX4_leafTable_16 rfl (lv_at hl 0 rfl) ?_
  refine lv_bipush (v := (6 : Int32)) hx hb dX4_leafTable_17 (by decide) ?_
  refine lv_icmp_ne (tgt := 28) hx hb dX4_leafTable_19 (by decide) (fun hc => ?_) (fun hc => ?_)
  · have h := fy_if_f h hc
    refine lv_lconst (v := (0 : Int64)) hx hb dX4_leafTable_28 (by decide) ?_
    cases h
    exact fy_retL C w dX4_leafTable_29
  · have h := fy_if_t h hc
    refine lv_ldc2 (v := (-1 : Int64)) hx hb hown (hts _ tw319) dX4_leafTable_22 ?_
    refine lv_goto (tgt := 29) hx hb dX4_leafTable_25 (by decide) ?_
    cases h
    exact fy_retL C w dX4_leafTable_29

set_option maxHeartbeats 4000000 in
set_option maxRecDepth 100000 in
theorem t_X4_leafTable {p : Program} {l : Launch} {e : Env} {s : State} {m : MethodId} {args : Array Value} {below : List Frame} {meth : Method} {c : Code} {g : fy_G} (C : fy_C g X_Y p s m args meth c yX4_leafTable.cls cX4_leafTable 1 (some .long)) {tt : Nat} (hst : g.2.2.2 = some tt) {S : fy_S} {v0 : Int32} {rr : Int64}  {H : Heap} {locs : List Loc} {ls : Array Slot} (h : X4_leafTable S v0 = some rr) (w : fy_W g X_Y S s H locs) (hl : lv_has ls 1 [(0, .int v0)]) : W p l e (fy_rm 0) s m args below meth c H locs 0 0 (MQ below (fy_QL g X_Y rr S) args s 0 0 (fy_A g X_Y)) (F0 m 0 ls []) := by
  obtain ⟨hx, hb, hr, hts, hown, hlk, hml, hK, hD, hE, hN⟩ := id C
  rw [X4_leafTable] at h
  refine lv_iload_n hx hb dX4_leafTable_0 rfl (lv_at hl 0 rfl) ?_
  refine lv_if_lt (tgt := 16) hx hb dX4_leafTable_1 (by decide) (fun hc => ?_) (fun hc => ?_)
  · have h := fy_if_t h hc
    exact t_X4_leafTable_16 C hst _ _ _ _ h w (lv_sub hl [0] rfl)
  · have h := fy_if_f h hc
    refine lv_iload_n hx hb dX4_leafTable_4 rfl (lv_at hl 0 rfl) ?_
    refine lv_bipush (v := (6 : Int32)) hx hb dX4_leafTable_5 (by decide) ?_
    refine lv_icmp_ge (tgt := 16) hx hb dX4_leafTable_7 (by decide) (fun hc => ?_) (fun hc => ?_)
    · have h := fy_if_t h hc
      exact t_X4_leafTable_16 C hst _ _ _ _ h w (lv_sub hl [0] rfl)
    · have h := fy_if_f h hc
      refine va_getsN hx hb (hE tt hst).1 w.2 hown (va_Nw.use rfl (hN _ tw_cont rfl)) (fun _ h => h) dX4_leafTable_10 ?_
      refine lv_iload_n hx hb dX4_leafTable_13 rfl (lv_at hl 0 rfl) ?_
      obtain ⟨g14, h⟩ := fy_gd_some h
      refine va_tl hx hb (hE tt hst).2 w.2 (fy_ix_in g14) (v := .long (fy_cont v0.toNatClampNeg)) rfl dX4_leafTable_14 ?_
      cases h
      exact fy_retL C w dX4_leafTable_15

set_option maxHeartbeats 4000000 in
set_option maxRecDepth 100000 in
theorem c_X4_leafTable (l : Launch) (g : fy_G) {tt : Nat} (hst : g.2.2.2 = some tt) {S : fy_S} {v0 : Int32} {rr : Int64}  (h : X4_leafTable S v0 = some rr) : fy_M g X_Y l yX4_leafTable cX4_leafTable 1 (some .long) (fy_rm 0) [.int v0] S (fy_QL g X_Y rr S) :=
  fy_entry (by decide +kernel) (Nat.le_of_ble_eq_true rfl) (fun p e s m args below meth c ls C w hl => t_X4_leafTable C hst  h w hl)
def X4_addLeaf (S : fy_S) (v1 : Int32) : Option (fy_S) :=
  fy_bd (X4_addNode S v1) fun S2 =>
  if (60 : Int32) ≤ (S2.1 3 6) then (
    some S2)
  else (
    fy_bd (X4_leafTable S2 v1) fun r23 =>
    fy_gd (fy_ix (S2.1 3 6) 60) <|
    fy_bl (fy_sL S2 6 (S2.1 3 6).toNatClampNeg r23) fun S26 =>
    fy_bl (fy_sI S26 3 6 ((S26.1 3 6) + (1 : Int32))) fun S34 =>
    some S34)
set_option maxHeartbeats 4000000 in
set_option maxRecDepth 100000 in
theorem t_X4_addLeaf {p : Program} {l : Launch} {e : Env} {s : State} {m : MethodId} {args : Array Value} {below : List Frame} {meth : Method} {c : Code} {g : fy_G} (C : fy_C g X_Y p s m args meth c yX4_addLeaf.cls cX4_addLeaf 2 none) {tt : Nat} (hst : g.2.2.2 = some tt) {S : fy_S} {v1 : Int32} {Sr : fy_S}   {H : Heap} {locs : List Loc} {ls : Array Slot} (h : X4_addLeaf S v1 = some Sr) (w : fy_W g X_Y S s H locs) (hl : lv_has ls 2 [(0, .ref (g.2.2.1 3)), (1, .int v1)]) : W p l e (fy_rm 1) s m args below meth c H locs 0 0 (MQ below (fy_QV g X_Y Sr) args s 0 0 (fy_A g X_Y)) (F0 m 0 ls []) := by
  obtain ⟨hx, hb, hr, hts, hown, hlk, hml, hK, hD, hE, hN⟩ := id C
  rw [X4_addLeaf] at h
  refine lv_aload_n hx hb dX4_addLeaf_0 rfl (lv_at hl 0 rfl) ?_
  refine lv_iload_n hx hb dX4_addLeaf_1 rfl (lv_at hl 1 rfl) ?_
  obtain ⟨S2, h2, h⟩ := fy_bd_some h
  refine fy_calV w (fy_runV (As := [.int v1]) (rest := []) C w (c_X4_addNode l g  h2) (X_o4 X_full (X_i3)) ksX4_72 rfl ⟨Nat.le_of_ble_eq_true rfl, Nat.le_of_ble_eq_true rfl⟩ rfl hl.1 rfl (Nat.le_of_ble_eq_true rfl) ⟨Nat.le_refl _, Nat.le_refl _⟩ dX4_addLeaf_2) (fun H locs w => ?_)
  refine lv_aload_n hx hb dX4_addLeaf_5 rfl (lv_at hl 0 rfl) ?_
  refine gfX4_33 X_full C w (X_i3) dX4_addLeaf_6 ?_
  refine lv_bipush (v := (60 : Int32)) hx hb dX4_addLeaf_9 (by decide) ?_
  refine lv_icmp_ge (tgt := 37) hx hb dX4_addLeaf_11 (by decide) (fun hc => ?_) (fun hc => ?_)
  · have h := fy_if_t h hc
    cases h
    exact fy_retV C w dX4_addLeaf_37
  · have h := fy_if_f h hc
    refine lv_aload_n hx hb dX4_addLeaf_14 rfl (lv_at hl 0 rfl) ?_
    refine gfX4_19 X_full C w (X_i3) dX4_addLeaf_15 ?_
    refine lv_aload_n hx hb dX4_addLeaf_18 rfl (lv_at hl 0 rfl) ?_
    refine gfX4_33 X_full C w (X_i3) dX4_addLeaf_19 ?_
    refine lv_iload_n hx hb dX4_addLeaf_22 rfl (lv_at hl 1 rfl) ?_
    obtain ⟨r23, h23, h⟩ := fy_bd_some h
    refine fy_calL w (fy_runS (As := [.int v1]) (rest := [.int (S2.1 3 6), .ref (g.2.2.1 6)]) C w (c_X4_leafTable l g hst  h23) ksX4_75 ⟨Nat.le_of_ble_eq_true rfl, Nat.le_of_ble_eq_true rfl⟩ rfl hl.1 rfl (Nat.le_of_ble_eq_true rfl) ⟨Nat.le_refl _, Nat.le_refl _⟩ dX4_addLeaf_23) (fun H locs w => ?_)
    obtain ⟨g26, h⟩ := fy_gd_some h
    refine fy_last C w X_a6 g26 dX4_addLeaf_26 (fun H locs w => ?_)
    obtain ⟨S26, e26⟩ : ∃ z, z = fy_sL S2 6 (S2.1 3 6).toNatClampNeg r23 := ⟨_, rfl⟩
    have h := fy_bl_some e26 h
    rw [← e26] at w
    refine lv_aload_n hx hb dX4_addLeaf_27 rfl (lv_at hl 0 rfl) ?_
    refine lv_dup hx hb dX4_addLeaf_28 rfl ?_
    refine gfX4_33 X_full C w (X_i3) dX4_addLeaf_29 ?_
    refine lv_iconst (v := (1 : Int32)) hx hb dX4_addLeaf_32 (by decide) ?_
    refine lv_iadd hx hb dX4_addLeaf_33 ?_
    refine pfX4_33 X_full C w (X_i3) dX4_addLeaf_34 (fun H locs w => ?_)
    obtain ⟨S34, e34⟩ : ∃ z, z = fy_sI S26 3 6 ((S26.1 3 6) + (1 : Int32)) := ⟨_, rfl⟩
    have h := fy_bl_some e34 h
    rw [← e34] at w
    cases h
    exact fy_retV C w dX4_addLeaf_37

set_option maxHeartbeats 4000000 in
set_option maxRecDepth 100000 in
theorem c_X4_addLeaf (l : Launch) (g : fy_G) {tt : Nat} (hst : g.2.2.2 = some tt) {S : fy_S} {v1 : Int32} {Sr : fy_S}   (h : X4_addLeaf S v1 = some Sr) : fy_M g X_Y l yX4_addLeaf cX4_addLeaf 2 none (fy_rm 1) [.ref (g.2.2.1 3), .int v1] S (fy_QV g X_Y Sr) :=
  fy_entry (by decide +kernel) (Nat.le_of_ble_eq_true rfl) (fun p e s m args below meth c ls C w hl => t_X4_addLeaf C hst  h w hl)
def X9_joinTables (S : fy_S) (v0 : Int32) (v1 : Int64) (v3 : Int64) : Option (Int64) :=
  if v0 = (9 : Int32) then (
    some (v1 &&& v3))
  else (
    some (v1 ||| v3))
set_option maxHeartbeats 4000000 in
set_option maxRecDepth 100000 in
theorem t_X9_joinTables {p : Program} {l : Launch} {e : Env} {s : State} {m : MethodId} {args : Array Value} {below : List Frame} {meth : Method} {c : Code} {g : fy_G} {y : fy_Y} (C : fy_C g y p s m args meth c yX9_joinTables.cls cX9_joinTables 5 (some .long)) (hcl : X_clo y) {S : fy_S} {v0 : Int32} {v1 : Int64} {v3 : Int64} {rr : Int64}  {H : Heap} {locs : List Loc} {ls : Array Slot} (h : X9_joinTables S v0 v1 v3 = some rr) (w : fy_W g y S s H locs) (hl : lv_has ls 5 [(0, .int v0), (1, .long v1), (3, .long v3)]) : W p l e (fy_rm 0) s m args below meth c H locs 0 0 (MQ below (fy_QL g y rr S) args s 0 0 (fy_A g y)) (F0 m 0 ls []) := by
  obtain ⟨hx, hb, hr, hts, hown, hlk, hml, hK, hD, hE, hN⟩ := id C
  rw [X9_joinTables] at h
  refine lv_iload_n hx hb dX9_joinTables_0 rfl (lv_at hl 0 rfl) ?_
  refine lv_bipush (v := (9 : Int32)) hx hb dX9_joinTables_1 (by decide) ?_
  refine lv_icmp_ne (tgt := 12) hx hb dX9_joinTables_3 (by decide) (fun hc => ?_) (fun hc => ?_)
  · have h := fy_if_f h hc
    refine lv_lload_n hx hb dX9_joinTables_12 rfl (lv_at hl 1 rfl) ?_
    refine lv_lload_n hx hb dX9_joinTables_13 rfl (lv_at hl 2 rfl) ?_
    refine lv_lor hx hb dX9_joinTables_14 ?_
    cases h
    exact fy_retL C w dX9_joinTables_15
  · have h := fy_if_t h hc
    refine lv_lload_n hx hb dX9_joinTables_6 rfl (lv_at hl 1 rfl) ?_
    refine lv_lload_n hx hb dX9_joinTables_7 rfl (lv_at hl 2 rfl) ?_
    refine lv_land hx hb dX9_joinTables_8 ?_
    refine lv_goto (tgt := 15) hx hb dX9_joinTables_9 (by decide) ?_
    cases h
    exact fy_retL C w dX9_joinTables_15

set_option maxHeartbeats 4000000 in
set_option maxRecDepth 100000 in
theorem c_X9_joinTables (l : Launch) (g : fy_G) {y : fy_Y} (hcl : X_clo y) {S : fy_S} {v0 : Int32} {v1 : Int64} {v3 : Int64} {rr : Int64}  (h : X9_joinTables S v0 v1 v3 = some rr) : fy_M g y l yX9_joinTables cX9_joinTables 5 (some .long) (fy_rm 0) [.int v0, .long v1, .long v3] S (fy_QL g y rr S) :=
  fy_entry (by decide +kernel) (Nat.le_of_ble_eq_true rfl) (fun p e s m args below meth c ls C w hl => t_X9_joinTables C hcl  h w hl)
def X4_applyOperator (S : fy_S) (v1 : Int32) : Option (fy_S) :=
  fy_bd (X4_addNode S v1) fun S2 =>
  if (S2.1 3 6) < (2 : Int32) then (
    some S2)
  else (
    fy_bl (fy_sI S2 3 6 ((S2.1 3 6) - (1 : Int32))) fun S20 =>
    fy_gd (fy_ix ((S20.1 3 6) - (1 : Int32)) 60) <|
    fy_gd (fy_ix (S20.1 3 6) 60) <|
    fy_bd (X9_joinTables S20 v1 (S20.2 6 ((S20.1 3 6) - (1 : Int32)).toNatClampNeg) (S20.2 6 (S20.1 3 6).toNatClampNeg)) fun r54 =>
    fy_gd (fy_ix ((S20.1 3 6) - (1 : Int32)) 60) <|
    fy_bl (fy_sL S20 6 ((S20.1 3 6) - (1 : Int32)).toNatClampNeg r54) fun S57 =>
    some S57)
set_option maxHeartbeats 4000000 in
set_option maxRecDepth 100000 in
theorem t_X4_applyOperator {p : Program} {l : Launch} {e : Env} {s : State} {m : MethodId} {args : Array Value} {below : List Frame} {meth : Method} {c : Code} {g : fy_G} (C : fy_C g X_Y p s m args meth c yX4_applyOperator.cls cX4_applyOperator 2 none) {S : fy_S} {v1 : Int32} {Sr : fy_S}   {H : Heap} {locs : List Loc} {ls : Array Slot} (h : X4_applyOperator S v1 = some Sr) (w : fy_W g X_Y S s H locs) (hl : lv_has ls 2 [(0, .ref (g.2.2.1 3)), (1, .int v1)]) : W p l e (fy_rm 1) s m args below meth c H locs 0 0 (MQ below (fy_QV g X_Y Sr) args s 0 0 (fy_A g X_Y)) (F0 m 0 ls []) := by
  obtain ⟨hx, hb, hr, hts, hown, hlk, hml, hK, hD, hE, hN⟩ := id C
  rw [X4_applyOperator] at h
  refine lv_aload_n hx hb dX4_applyOperator_0 rfl (lv_at hl 0 rfl) ?_
  refine lv_iload_n hx hb dX4_applyOperator_1 rfl (lv_at hl 1 rfl) ?_
  obtain ⟨S2, h2, h⟩ := fy_bd_some h
  refine fy_calV w (fy_runV (As := [.int v1]) (rest := []) C w (c_X4_addNode l g  h2) (X_o4 X_full (X_i3)) ksX4_72 rfl ⟨Nat.le_of_ble_eq_true rfl, Nat.le_of_ble_eq_true rfl⟩ rfl hl.1 rfl (Nat.le_of_ble_eq_true rfl) ⟨Nat.le_refl _, Nat.le_refl _⟩ dX4_applyOperator_2) (fun H locs w => ?_)
  refine lv_aload_n hx hb dX4_applyOperator_5 rfl (lv_at hl 0 rfl) ?_
  refine gfX4_33 X_full C w (X_i3) dX4_applyOperator_6 ?_
  refine lv_iconst (v := (2 : Int32)) hx hb dX4_applyOperator_9 (by decide) ?_
  refine lv_icmp_lt (tgt := 58) hx hb dX4_applyOperator_10 (by decide) (fun hc => ?_) (fun hc => ?_)
  · have h := fy_if_t h hc
    cases h
    exact fy_retV C w dX4_applyOperator_58
  · have h := fy_if_f h hc
    refine lv_aload_n hx hb dX4_applyOperator_13 rfl (lv_at hl 0 rfl) ?_
    refine lv_dup hx hb dX4_applyOperator_14 rfl ?_
    refine gfX4_33 X_full C w (X_i3) dX4_applyOperator_15 ?_
    refine lv_iconst (v := (1 : Int32)) hx hb dX4_applyOperator_18 (by decide) ?_
    refine lv_isub hx hb dX4_applyOperator_19 ?_
    refine pfX4_33 X_full C w (X_i3) dX4_applyOperator_20 (fun H locs w => ?_)
    obtain ⟨S20, e20⟩ : ∃ z, z = fy_sI S2 3 6 ((S2.1 3 6) - (1 : Int32)) := ⟨_, rfl⟩
    have h := fy_bl_some e20 h
    rw [← e20] at w
    refine lv_aload_n hx hb dX4_applyOperator_23 rfl (lv_at hl 0 rfl) ?_
    refine gfX4_19 X_full C w (X_i3) dX4_applyOperator_24 ?_
    refine lv_aload_n hx hb dX4_applyOperator_27 rfl (lv_at hl 0 rfl) ?_
    refine gfX4_33 X_full C w (X_i3) dX4_applyOperator_28 ?_
    refine lv_iconst (v := (1 : Int32)) hx hb dX4_applyOperator_31 (by decide) ?_
    refine lv_isub hx hb dX4_applyOperator_32 ?_
    refine lv_iload_n hx hb dX4_applyOperator_33 rfl (lv_at hl 1 rfl) ?_
    refine lv_aload_n hx hb dX4_applyOperator_34 rfl (lv_at hl 0 rfl) ?_
    refine gfX4_19 X_full C w (X_i3) dX4_applyOperator_35 ?_
    refine lv_aload_n hx hb dX4_applyOperator_38 rfl (lv_at hl 0 rfl) ?_
    refine gfX4_33 X_full C w (X_i3) dX4_applyOperator_39 ?_
    refine lv_iconst (v := (1 : Int32)) hx hb dX4_applyOperator_42 (by decide) ?_
    refine lv_isub hx hb dX4_applyOperator_43 ?_
    obtain ⟨g44, h⟩ := fy_gd_some h
    refine fy_lald C w X_a6 g44 dX4_applyOperator_44 ?_
    refine lv_aload_n hx hb dX4_applyOperator_45 rfl (lv_at hl 0 rfl) ?_
    refine gfX4_19 X_full C w (X_i3) dX4_applyOperator_46 ?_
    refine lv_aload_n hx hb dX4_applyOperator_49 rfl (lv_at hl 0 rfl) ?_
    refine gfX4_33 X_full C w (X_i3) dX4_applyOperator_50 ?_
    obtain ⟨g53, h⟩ := fy_gd_some h
    refine fy_lald C w X_a6 g53 dX4_applyOperator_53 ?_
    obtain ⟨r54, h54, h⟩ := fy_bd_some h
    refine fy_calL w (fy_runN (As := [.int v1, .long (S20.2 6 ((S20.1 3 6) - (1 : Int32)).toNatClampNeg), .long (S20.2 6 (S20.1 3 6).toNatClampNeg)]) (rest := [.int ((S20.1 3 6) - (1 : Int32)), .ref (g.2.2.1 6)]) C w (c_X9_joinTables l g X_full  h54) ksX4_90 ⟨Nat.le_of_ble_eq_true rfl, Nat.le_of_ble_eq_true rfl⟩ rfl hl.1 rfl (Nat.le_of_ble_eq_true rfl) ⟨Nat.le_refl _, Nat.le_refl _⟩ dX4_applyOperator_54) (fun H locs w => ?_)
    obtain ⟨g57, h⟩ := fy_gd_some h
    refine fy_last C w X_a6 g57 dX4_applyOperator_57 (fun H locs w => ?_)
    obtain ⟨S57, e57⟩ : ∃ z, z = fy_sL S20 6 ((S20.1 3 6) - (1 : Int32)).toNatClampNeg r54 := ⟨_, rfl⟩
    have h := fy_bl_some e57 h
    rw [← e57] at w
    cases h
    exact fy_retV C w dX4_applyOperator_58

set_option maxHeartbeats 4000000 in
set_option maxRecDepth 100000 in
theorem c_X4_applyOperator (l : Launch) (g : fy_G) {S : fy_S} {v1 : Int32} {Sr : fy_S}   (h : X4_applyOperator S v1 = some Sr) : fy_M g X_Y l yX4_applyOperator cX4_applyOperator 2 none (fy_rm 1) [.ref (g.2.2.1 3), .int v1] S (fy_QV g X_Y Sr) :=
  fy_entry (by decide +kernel) (Nat.le_of_ble_eq_true rfl) (fun p e s m args below meth c ls C w hl => t_X4_applyOperator C  h w hl)
def X4_applyWaiting_7 : Nat → fy_S → Int32 → Int32 → Option (fy_S)
  | 0, _, _, _ => none
  | fu + 1, S, v1, v2 =>
    if v2 < 0 then (
      some S)
    else (
      fy_gd (fy_ix v2 60) <|
      if (S.1 7 v2.toNatClampNeg) < v1 then (
        some S)
      else (
        fy_gd (fy_ix v2 60) <|
        fy_bd (X4_applyOperator S (S.1 7 v2.toNatClampNeg)) fun S28 =>
        fy_bl (fy_sI S28 3 7 v2) fun S33 =>
        fy_bl (v2 + (-1 : Int32)) fun x36 =>
        X4_applyWaiting_7 fu S33 v1 x36))
def X4_applyWaiting (S : fy_S) (v1 : Int32) : Option (fy_S) :=
  fy_bl ((S.1 3 7) - (1 : Int32)) fun x6 =>
  X4_applyWaiting_7 fy_fu S v1 x6
set_option maxHeartbeats 4000000 in
set_option maxRecDepth 100000 in
theorem t_X4_applyWaiting_7 {p : Program} {l : Launch} {e : Env} {s : State} {m : MethodId} {args : Array Value} {below : List Frame} {meth : Method} {c : Code} {g : fy_G} (C : fy_C g X_Y p s m args meth c yX4_applyWaiting.cls cX4_applyWaiting 3 none) {Sr : fy_S}  : ∀ (fu : Nat) (S : fy_S) (v1 : Int32) (v2 : Int32) (H : Heap) (locs : List Loc) (ls : Array Slot), X4_applyWaiting_7 fu S v1 v2 = some Sr → fy_W g X_Y S s H locs → lv_has ls 3 [(0, .ref (g.2.2.1 3)), (1, .int v1), (2, .int v2)] → W p l e (fy_rm 2) s m args below meth c H locs 0 0 (MQ below (fy_QV g X_Y Sr) args s 0 0 (fy_A g X_Y)) (F0 m 7 ls []) := by
  obtain ⟨hx, hb, hr, hts, hown, hlk, hml, hK, hD, hE, hN⟩ := id C
  intro fu
  induction fu with
  | zero => intro S v1 v2 H locs ls h; cases h
  | succ fu ih =>
    intro S v1 v2 H locs ls h w  hl
    rw [X4_applyWaiting_7] at h
    refine lv_iload_n hx hb dX4_applyWaiting_7 rfl (lv_at hl 2 rfl) ?_
    refine lv_if_lt (tgt := 42) hx hb dX4_applyWaiting_8 (by decide) (fun hc => ?_) (fun hc => ?_)
    · have h := fy_if_t h hc
      cases h
      exact fy_retV C w dX4_applyWaiting_42
    · have h := fy_if_f h hc
      refine lv_aload_n hx hb dX4_applyWaiting_11 rfl (lv_at hl 0 rfl) ?_
      refine gfX4_23 X_full C w (X_i3) dX4_applyWaiting_12 ?_
      refine lv_iload_n hx hb dX4_applyWaiting_15 rfl (lv_at hl 2 rfl) ?_
      obtain ⟨g16, h⟩ := fy_gd_some h
      refine fy_bald C w X_a7 g16 dX4_applyWaiting_16 ?_
      refine lv_iload_n hx hb dX4_applyWaiting_17 rfl (lv_at hl 1 rfl) ?_
      refine lv_icmp_lt (tgt := 42) hx hb dX4_applyWaiting_18 (by decide) (fun hc => ?_) (fun hc => ?_)
      · have h := fy_if_t h hc
        cases h
        exact fy_retV C w dX4_applyWaiting_42
      · have h := fy_if_f h hc
        refine lv_aload_n hx hb dX4_applyWaiting_21 rfl (lv_at hl 0 rfl) ?_
        refine lv_aload_n hx hb dX4_applyWaiting_22 rfl (lv_at hl 0 rfl) ?_
        refine gfX4_23 X_full C w (X_i3) dX4_applyWaiting_23 ?_
        refine lv_iload_n hx hb dX4_applyWaiting_26 rfl (lv_at hl 2 rfl) ?_
        obtain ⟨g27, h⟩ := fy_gd_some h
        refine fy_bald C w X_a7 g27 dX4_applyWaiting_27 ?_
        obtain ⟨S28, h28, h⟩ := fy_bd_some h
        refine fy_calV w (fy_runV (As := [.int (S.1 7 v2.toNatClampNeg)]) (rest := []) C w (c_X4_applyOperator l g  h28) (X_o4 X_full (X_i3)) ksX4_87 rfl ⟨Nat.le_of_ble_eq_true rfl, Nat.le_of_ble_eq_true rfl⟩ rfl hl.1 rfl (Nat.le_of_ble_eq_true rfl) ⟨Nat.le_refl _, Nat.le_refl _⟩ dX4_applyWaiting_28) (fun H locs w => ?_)
        refine lv_aload_n hx hb dX4_applyWaiting_31 rfl (lv_at hl 0 rfl) ?_
        refine lv_iload_n hx hb dX4_applyWaiting_32 rfl (lv_at hl 2 rfl) ?_
        refine pfX4_36 X_full C w (X_i3) dX4_applyWaiting_33 (fun H locs w => ?_)
        obtain ⟨S33, e33⟩ : ∃ z, z = fy_sI S28 3 7 v2 := ⟨_, rfl⟩
        have h := fy_bl_some e33 h
        rw [← e33] at w
        obtain ⟨x36, e36⟩ : ∃ z : Int32, z = v2 + (-1 : Int32) := ⟨_, rfl⟩
        have h := fy_bl_some e36 h
        refine lv_iinc (k := 2) (v := x36) (lv' := [(2, .int x36), (0, .ref (g.2.2.1 3)), (1, .int v1)]) hx hb dX4_applyWaiting_36 hl rfl (by rw [e36]; rfl) (by decide) rfl (fun ls hl => ?_)
        refine lv_goto (tgt := 7) hx hb dX4_applyWaiting_39 (by decide) ?_
        exact ih _ _ _ _ _ _ h w (lv_sub hl [1, 2, 0] rfl)

set_option maxHeartbeats 4000000 in
set_option maxRecDepth 100000 in
theorem t_X4_applyWaiting {p : Program} {l : Launch} {e : Env} {s : State} {m : MethodId} {args : Array Value} {below : List Frame} {meth : Method} {c : Code} {g : fy_G} (C : fy_C g X_Y p s m args meth c yX4_applyWaiting.cls cX4_applyWaiting 3 none) {S : fy_S} {v1 : Int32} {Sr : fy_S}   {H : Heap} {locs : List Loc} {ls : Array Slot} (h : X4_applyWaiting S v1 = some Sr) (w : fy_W g X_Y S s H locs) (hl : lv_has ls 3 [(0, .ref (g.2.2.1 3)), (1, .int v1)]) : W p l e (fy_rm 2) s m args below meth c H locs 0 0 (MQ below (fy_QV g X_Y Sr) args s 0 0 (fy_A g X_Y)) (F0 m 0 ls []) := by
  obtain ⟨hx, hb, hr, hts, hown, hlk, hml, hK, hD, hE, hN⟩ := id C
  rw [X4_applyWaiting] at h
  refine lv_aload_n hx hb dX4_applyWaiting_0 rfl (lv_at hl 0 rfl) ?_
  refine gfX4_36 X_full C w (X_i3) dX4_applyWaiting_1 ?_
  refine lv_iconst (v := (1 : Int32)) hx hb dX4_applyWaiting_4 (by decide) ?_
  refine lv_isub hx hb dX4_applyWaiting_5 ?_
  refine lv_topi (fun x6 e6 => ?_)
  have h := fy_bl_some e6 h
  refine lv_istore_n (lv' := [(2, .int x6), (0, .ref (g.2.2.1 3)), (1, .int v1)]) hx hb dX4_applyWaiting_6 rfl hl (by decide) rfl (fun ls hl => ?_)
  exact t_X4_applyWaiting_7 C fy_fu _ _ _ _ _ _ h w (lv_sub hl [1, 2, 0] rfl)

set_option maxHeartbeats 4000000 in
set_option maxRecDepth 100000 in
theorem c_X4_applyWaiting (l : Launch) (g : fy_G) {S : fy_S} {v1 : Int32} {Sr : fy_S}   (h : X4_applyWaiting S v1 = some Sr) : fy_M g X_Y l yX4_applyWaiting cX4_applyWaiting 3 none (fy_rm 2) [.ref (g.2.2.1 3), .int v1] S (fy_QV g X_Y Sr) :=
  fy_entry (by decide +kernel) (Nat.le_of_ble_eq_true rfl) (fun p e s m args below meth c ls C w hl => t_X4_applyWaiting C  h w hl)
def X4_closeGroup_23 (S : fy_S)  : Option (fy_S) :=
  fy_bl (fy_sI S 3 8 ((S.1 3 8) - (1 : Int32))) fun S30 =>
  some S30
def X4_closeGroup (S : fy_S)  : Option (fy_S) :=
  fy_bd (X4_applyWaiting S (8 : Int32)) fun S3 =>
  if (S3.1 3 7) ≤ 0 then (
    X4_closeGroup_23 S3 )
  else (
    fy_bl (fy_sI S3 3 7 ((S3.1 3 7) - (1 : Int32))) fun S20 =>
    X4_closeGroup_23 S20 )
set_option maxHeartbeats 4000000 in
set_option maxRecDepth 100000 in
theorem t_X4_closeGroup_23 {p : Program} {l : Launch} {e : Env} {s : State} {m : MethodId} {args : Array Value} {below : List Frame} {meth : Method} {c : Code} {g : fy_G} (C : fy_C g X_Y p s m args meth c yX4_closeGroup.cls cX4_closeGroup 1 none) {Sr : fy_S}  : ∀ (S : fy_S)  (H : Heap) (locs : List Loc) (ls : Array Slot), X4_closeGroup_23 S  = some Sr → fy_W g X_Y S s H locs → lv_has ls 1 [(0, .ref (g.2.2.1 3))] → W p l e (fy_rm 3) s m args below meth c H locs 0 0 (MQ below (fy_QV g X_Y Sr) args s 0 0 (fy_A g X_Y)) (F0 m 23 ls []) := by
  obtain ⟨hx, hb, hr, hts, hown, hlk, hml, hK, hD, hE, hN⟩ := id C
  intro S  H locs ls h w  hl
  rw [X4_closeGroup_23] at h
  refine lv_aload_n hx hb dX4_closeGroup_23 rfl (lv_at hl 0 rfl) ?_
  refine lv_dup hx hb dX4_closeGroup_24 rfl ?_
  refine gfX4_39 X_full C w (X_i3) dX4_closeGroup_25 ?_
  refine lv_iconst (v := (1 : Int32)) hx hb dX4_closeGroup_28 (by decide) ?_
  refine lv_isub hx hb dX4_closeGroup_29 ?_
  refine pfX4_39 X_full C w (X_i3) dX4_closeGroup_30 (fun H locs w => ?_)
  obtain ⟨S30, e30⟩ : ∃ z, z = fy_sI S 3 8 ((S.1 3 8) - (1 : Int32)) := ⟨_, rfl⟩
  have h := fy_bl_some e30 h
  rw [← e30] at w
  cases h
  exact fy_retV C w dX4_closeGroup_33

set_option maxHeartbeats 4000000 in
set_option maxRecDepth 100000 in
theorem t_X4_closeGroup {p : Program} {l : Launch} {e : Env} {s : State} {m : MethodId} {args : Array Value} {below : List Frame} {meth : Method} {c : Code} {g : fy_G} (C : fy_C g X_Y p s m args meth c yX4_closeGroup.cls cX4_closeGroup 1 none) {S : fy_S}  {Sr : fy_S}   {H : Heap} {locs : List Loc} {ls : Array Slot} (h : X4_closeGroup S  = some Sr) (w : fy_W g X_Y S s H locs) (hl : lv_has ls 1 [(0, .ref (g.2.2.1 3))]) : W p l e (fy_rm 3) s m args below meth c H locs 0 0 (MQ below (fy_QV g X_Y Sr) args s 0 0 (fy_A g X_Y)) (F0 m 0 ls []) := by
  obtain ⟨hx, hb, hr, hts, hown, hlk, hml, hK, hD, hE, hN⟩ := id C
  rw [X4_closeGroup] at h
  refine lv_aload_n hx hb dX4_closeGroup_0 rfl (lv_at hl 0 rfl) ?_
  refine lv_bipush (v := (8 : Int32)) hx hb dX4_closeGroup_1 (by decide) ?_
  obtain ⟨S3, h3, h⟩ := fy_bd_some h
  refine fy_calV w (fy_runV (As := [.int (8 : Int32)]) (rest := []) C w (c_X4_applyWaiting l g  h3) (X_o4 X_full (X_i3)) ksX4_69 rfl ⟨Nat.le_of_ble_eq_true rfl, Nat.le_of_ble_eq_true rfl⟩ rfl hl.1 rfl (Nat.le_of_ble_eq_true rfl) ⟨Nat.le_refl _, Nat.le_refl _⟩ dX4_closeGroup_3) (fun H locs w => ?_)
  refine lv_aload_n hx hb dX4_closeGroup_6 rfl (lv_at hl 0 rfl) ?_
  refine gfX4_36 X_full C w (X_i3) dX4_closeGroup_7 ?_
  refine lv_if_le (tgt := 23) hx hb dX4_closeGroup_10 (by decide) (fun hc => ?_) (fun hc => ?_)
  · have h := fy_if_t h hc
    exact t_X4_closeGroup_23 C _ _ _ _ h w (lv_sub hl [0] rfl)
  · have h := fy_if_f h hc
    refine lv_aload_n hx hb dX4_closeGroup_13 rfl (lv_at hl 0 rfl) ?_
    refine lv_dup hx hb dX4_closeGroup_14 rfl ?_
    refine gfX4_36 X_full C w (X_i3) dX4_closeGroup_15 ?_
    refine lv_iconst (v := (1 : Int32)) hx hb dX4_closeGroup_18 (by decide) ?_
    refine lv_isub hx hb dX4_closeGroup_19 ?_
    refine pfX4_36 X_full C w (X_i3) dX4_closeGroup_20 (fun H locs w => ?_)
    obtain ⟨S20, e20⟩ : ∃ z, z = fy_sI S3 3 7 ((S3.1 3 7) - (1 : Int32)) := ⟨_, rfl⟩
    have h := fy_bl_some e20 h
    rw [← e20] at w
    exact t_X4_closeGroup_23 C _ _ _ _ h w (lv_sub hl [0] rfl)

set_option maxHeartbeats 4000000 in
set_option maxRecDepth 100000 in
theorem c_X4_closeGroup (l : Launch) (g : fy_G) {S : fy_S}  {Sr : fy_S}   (h : X4_closeGroup S  = some Sr) : fy_M g X_Y l yX4_closeGroup cX4_closeGroup 1 none (fy_rm 3) [.ref (g.2.2.1 3)] S (fy_QV g X_Y Sr) :=
  fy_entry (by decide +kernel) (Nat.le_of_ble_eq_true rfl) (fun p e s m args below meth c ls C w hl => t_X4_closeGroup C  h w hl)
def X4_addOperator (S : fy_S) (v1 : Int32) : Option (fy_S) :=
  fy_bd (X4_applyWaiting S v1) fun S2 =>
  fy_bd (X4_addWaiting S2 v1) fun S7 =>
  some S7
set_option maxHeartbeats 4000000 in
set_option maxRecDepth 100000 in
theorem t_X4_addOperator {p : Program} {l : Launch} {e : Env} {s : State} {m : MethodId} {args : Array Value} {below : List Frame} {meth : Method} {c : Code} {g : fy_G} (C : fy_C g X_Y p s m args meth c yX4_addOperator.cls cX4_addOperator 2 none) {S : fy_S} {v1 : Int32} {Sr : fy_S}   {H : Heap} {locs : List Loc} {ls : Array Slot} (h : X4_addOperator S v1 = some Sr) (w : fy_W g X_Y S s H locs) (hl : lv_has ls 2 [(0, .ref (g.2.2.1 3)), (1, .int v1)]) : W p l e (fy_rm 3) s m args below meth c H locs 0 0 (MQ below (fy_QV g X_Y Sr) args s 0 0 (fy_A g X_Y)) (F0 m 0 ls []) := by
  obtain ⟨hx, hb, hr, hts, hown, hlk, hml, hK, hD, hE, hN⟩ := id C
  rw [X4_addOperator] at h
  refine lv_aload_n hx hb dX4_addOperator_0 rfl (lv_at hl 0 rfl) ?_
  refine lv_iload_n hx hb dX4_addOperator_1 rfl (lv_at hl 1 rfl) ?_
  obtain ⟨S2, h2, h⟩ := fy_bd_some h
  refine fy_calV w (fy_runV (As := [.int v1]) (rest := []) C w (c_X4_applyWaiting l g  h2) (X_o4 X_full (X_i3)) ksX4_69 rfl ⟨Nat.le_of_ble_eq_true rfl, Nat.le_of_ble_eq_true rfl⟩ rfl hl.1 rfl (Nat.le_of_ble_eq_true rfl) ⟨Nat.le_refl _, Nat.le_refl _⟩ dX4_addOperator_2) (fun H locs w => ?_)
  refine lv_aload_n hx hb dX4_addOperator_5 rfl (lv_at hl 0 rfl) ?_
  refine lv_iload_n hx hb dX4_addOperator_6 rfl (lv_at hl 1 rfl) ?_
  obtain ⟨S7, h7, h⟩ := fy_bd_some h
  refine fy_calV w (fy_runV (As := [.int v1]) (rest := []) C w (c_X4_addWaiting l g  h7) (X_o4 X_full (X_i3)) ksX4_84 rfl ⟨Nat.le_of_ble_eq_true rfl, Nat.le_of_ble_eq_true rfl⟩ rfl hl.1 rfl (Nat.le_of_ble_eq_true rfl) ⟨Nat.le_refl _, Nat.le_refl _⟩ dX4_addOperator_7) (fun H locs w => ?_)
  cases h
  exact fy_retV C w dX4_addOperator_10

set_option maxHeartbeats 4000000 in
set_option maxRecDepth 100000 in
theorem c_X4_addOperator (l : Launch) (g : fy_G) {S : fy_S} {v1 : Int32} {Sr : fy_S}   (h : X4_addOperator S v1 = some Sr) : fy_M g X_Y l yX4_addOperator cX4_addOperator 2 none (fy_rm 3) [.ref (g.2.2.1 3), .int v1] S (fy_QV g X_Y Sr) :=
  fy_entry (by decide +kernel) (Nat.le_of_ble_eq_true rfl) (fun p e s m args below meth c ls C w hl => t_X4_addOperator C  h w hl)
def X4_parse_139 (k24 : fy_S → Int32 → Int32 → Int32 → Option (fy_S × Int32)) (S : fy_S) (v1 : Int32) (v3 : Int32) (z0 : Int32) : Option (fy_S × Int32) :=
  fy_bd (X4_addOperator S z0) fun S139 =>
  fy_bl (v3 + (1 : Int32)) fun x149 =>
  k24 S139 v1 (1 : Int32) x149
def X4_parse_124 (k24 : fy_S → Int32 → Int32 → Int32 → Option (fy_S × Int32)) (S : fy_S) (v1 : Int32) (v3 : Int32) (v4 : Int32) : Option (fy_S × Int32) :=
  if v4 = (38 : Int32) then (
    X4_parse_139 k24 S v1 v3 (9 : Int32))
  else (
    X4_parse_139 k24 S v1 v3 (8 : Int32))
def X4_parse_110 (k24 : fy_S → Int32 → Int32 → Int32 → Option (fy_S × Int32)) (S : fy_S) (v1 : Int32) (v3 : Int32) (v4 : Int32) : Option (fy_S × Int32) :=
  if v4 = (38 : Int32) then (
    X4_parse_124 k24 S v1 v3 v4)
  else (
    if v4 = (124 : Int32) then (
      X4_parse_124 k24 S v1 v3 v4)
    else (
      some (S, v3)))
def X4_parse_58 (k24 : fy_S → Int32 → Int32 → Int32 → Option (fy_S × Int32)) (S : fy_S) (v1 : Int32) (v2 : Int32) (v3 : Int32) (v4 : Int32) : Option (fy_S × Int32) :=
  if v2 = 0 then (
    if v4 = (41 : Int32) then (
      if (S.1 3 8) ≤ 0 then (
        X4_parse_110 k24 S v1 v3 v4)
      else (
        fy_bd (X4_closeGroup S ) fun S104 =>
        fy_bl (v3 + (1 : Int32)) fun x149 =>
        k24 S104 v1 v2 x149))
    else (
      X4_parse_110 k24 S v1 v3 v4))
  else (
    fy_bd (X4_leafFor S v4 v1) fun r65 =>
    if r65 = (-1 : Int32) then (
      some (S, v3))
    else (
      fy_bd (X4_addLeaf S r65) fun S81 =>
      fy_bl (v3 + (1 : Int32)) fun x149 =>
      k24 S81 v1 (0 : Int32) x149))
def X4_parse_24 : Nat → fy_S → Int32 → Int32 → Int32 → Option (fy_S × Int32)
  | 0, _, _, _, _ => none
  | fu + 1, S, v1, v2, v3 =>
    if (S.1 3 4) ≤ v3 then (
      if v2 = 0 then (
        if (S.1 3 8) ≤ 0 then (
          fy_bd (X4_applyWaiting S (8 : Int32)) fun S174 =>
          some (S174, (-1 : Int32)))
        else (
          some (S, (S.1 3 4))))
      else (
        some (S, (S.1 3 4))))
    else (
      fy_gd (fy_ix v3 60) <|
      fy_bl (S.1 4 v3.toNatClampNeg) fun x38 =>
      if v2 = 0 then (
        X4_parse_58 (fun S v1 v2 v3 => X4_parse_24 fu S v1 v2 v3) S v1 v2 v3 x38)
      else (
        if x38 = (40 : Int32) then (
          fy_bd (X4_openGroup S ) fun S52 =>
          fy_bl (v3 + (1 : Int32)) fun x149 =>
          X4_parse_24 fu S52 v1 v2 x149)
        else (
          X4_parse_58 (fun S v1 v2 v3 => X4_parse_24 fu S v1 v2 v3) S v1 v2 v3 x38)))
def X4_parse (S : fy_S) (v1 : Int32) : Option (fy_S × Int32) :=
  fy_bl (fy_sI S 3 5 (0 : Int32)) fun S2 =>
  fy_bl (fy_sI S2 3 6 (0 : Int32)) fun S7 =>
  fy_bl (fy_sI S7 3 7 (0 : Int32)) fun S12 =>
  fy_bl (fy_sI S12 3 8 (0 : Int32)) fun S17 =>
  X4_parse_24 fy_fu S17 v1 (1 : Int32) (0 : Int32)
set_option maxHeartbeats 4000000 in
set_option maxRecDepth 100000 in
theorem t_X4_parse_139 {p : Program} {l : Launch} {e : Env} {s : State} {m : MethodId} {args : Array Value} {below : List Frame} {meth : Method} {c : Code} {g : fy_G} (C : fy_C g X_Y p s m args meth c yX4_parse.cls cX4_parse 6 (some .int)) {tt : Nat} (hst : g.2.2.2 = some tt) {Sr : fy_S} {rr : Int32} {k24 : fy_S → Int32 → Int32 → Int32 → Option (fy_S × Int32)} (hk24 : ∀ (S : fy_S) (v1 : Int32) (v2 : Int32) (v3 : Int32) (H : Heap) (locs : List Loc) (ls : Array Slot), k24 S v1 v2 v3 = some (Sr, rr) → fy_W g X_Y S s H locs → lv_has ls 6 [(0, .ref (g.2.2.1 3)), (1, .int v1), (2, .int v2), (3, .int v3)] → W p l e (fy_rm 4) s m args below meth c H locs 0 0 (MQ below (fy_QI g X_Y rr Sr) args s 0 0 (fy_A g X_Y)) (F0 m 24 ls [])) : ∀ (S : fy_S) (v1 : Int32) (v3 : Int32) (z0 : Int32) (H : Heap) (locs : List Loc) (ls : Array Slot), X4_parse_139 k24 S v1 v3 z0 = some (Sr, rr) → fy_W g X_Y S s H locs → lv_has ls 6 [(0, .ref (g.2.2.1 3)), (1, .int v1), (3, .int v3)] → W p l e (fy_rm 4) s m args below meth c H locs 0 0 (MQ below (fy_QI g X_Y rr Sr) args s 0 0 (fy_A g X_Y)) (F0 m 139 ls [.int z0, .ref (g.2.2.1 3)]) := by
  obtain ⟨hx, hb, hr, hts, hown, hlk, hml, hK, hD, hE, hN⟩ := id C
  intro S v1 v3 z0 H locs ls h w  hl
  rw [X4_parse_139] at h
  obtain ⟨S139, h139, h⟩ := fy_bd_some h
  refine fy_calV w (fy_runV (As := [.int z0]) (rest := []) C w (c_X4_addOperator l g  h139) (X_o4 X_full (X_i3)) ksX4_66 rfl ⟨Nat.le_of_ble_eq_true rfl, Nat.le_of_ble_eq_true rfl⟩ rfl hl.1 rfl (Nat.le_of_ble_eq_true rfl) ⟨Nat.le_refl _, Nat.le_refl _⟩ dX4_parse_139) (fun H locs w => ?_)
  refine lv_iconst (v := (1 : Int32)) hx hb dX4_parse_142 (by decide) ?_
  refine lv_istore_n (lv' := [(2, .int (1 : Int32)), (0, .ref (g.2.2.1 3)), (1, .int v1), (3, .int v3)]) hx hb dX4_parse_143 rfl hl (by decide) rfl (fun ls hl => ?_)
  refine lv_goto (tgt := 149) hx hb dX4_parse_144 (by decide) ?_
  obtain ⟨x149, e149⟩ : ∃ z : Int32, z = v3 + (1 : Int32) := ⟨_, rfl⟩
  have h := fy_bl_some e149 h
  refine lv_iinc (k := 3) (v := x149) (lv' := [(3, .int x149), (2, .int (1 : Int32)), (0, .ref (g.2.2.1 3)), (1, .int v1)]) hx hb dX4_parse_149 hl rfl (by rw [e149]; rfl) (by decide) rfl (fun ls hl => ?_)
  refine lv_goto (tgt := 24) hx hb dX4_parse_152 (by decide) ?_
  exact hk24 _ _ _ _ _ _ _ h w (lv_sub hl [2, 3, 1, 0] rfl)

set_option maxHeartbeats 4000000 in
set_option maxRecDepth 100000 in
theorem t_X4_parse_124 {p : Program} {l : Launch} {e : Env} {s : State} {m : MethodId} {args : Array Value} {below : List Frame} {meth : Method} {c : Code} {g : fy_G} (C : fy_C g X_Y p s m args meth c yX4_parse.cls cX4_parse 6 (some .int)) {tt : Nat} (hst : g.2.2.2 = some tt) {Sr : fy_S} {rr : Int32} {k24 : fy_S → Int32 → Int32 → Int32 → Option (fy_S × Int32)} (hk24 : ∀ (S : fy_S) (v1 : Int32) (v2 : Int32) (v3 : Int32) (H : Heap) (locs : List Loc) (ls : Array Slot), k24 S v1 v2 v3 = some (Sr, rr) → fy_W g X_Y S s H locs → lv_has ls 6 [(0, .ref (g.2.2.1 3)), (1, .int v1), (2, .int v2), (3, .int v3)] → W p l e (fy_rm 4) s m args below meth c H locs 0 0 (MQ below (fy_QI g X_Y rr Sr) args s 0 0 (fy_A g X_Y)) (F0 m 24 ls [])) : ∀ (S : fy_S) (v1 : Int32) (v3 : Int32) (v4 : Int32) (H : Heap) (locs : List Loc) (ls : Array Slot), X4_parse_124 k24 S v1 v3 v4 = some (Sr, rr) → fy_W g X_Y S s H locs → lv_has ls 6 [(0, .ref (g.2.2.1 3)), (1, .int v1), (3, .int v3), (4, .int v4)] → W p l e (fy_rm 4) s m args below meth c H locs 0 0 (MQ below (fy_QI g X_Y rr Sr) args s 0 0 (fy_A g X_Y)) (F0 m 124 ls []) := by
  obtain ⟨hx, hb, hr, hts, hown, hlk, hml, hK, hD, hE, hN⟩ := id C
  intro S v1 v3 v4 H locs ls h w  hl
  rw [X4_parse_124] at h
  refine lv_aload_n hx hb dX4_parse_124 rfl (lv_at hl 0 rfl) ?_
  refine lv_iload hx hb dX4_parse_125 (lv_at hl 3 rfl) ?_
  refine lv_bipush (v := (38 : Int32)) hx hb dX4_parse_127 (by decide) ?_
  refine lv_icmp_ne (tgt := 137) hx hb dX4_parse_129 (by decide) (fun hc => ?_) (fun hc => ?_)
  · have h := fy_if_f h hc
    refine lv_bipush (v := (8 : Int32)) hx hb dX4_parse_137 (by decide) ?_
    exact t_X4_parse_139 C hst hk24 _ _ _ _ _ _ _ h w (lv_sub hl [0, 1, 2] rfl)
  · have h := fy_if_t h hc
    refine lv_bipush (v := (9 : Int32)) hx hb dX4_parse_132 (by decide) ?_
    refine lv_goto (tgt := 139) hx hb dX4_parse_134 (by decide) ?_
    exact t_X4_parse_139 C hst hk24 _ _ _ _ _ _ _ h w (lv_sub hl [0, 1, 2] rfl)

set_option maxHeartbeats 4000000 in
set_option maxRecDepth 100000 in
theorem t_X4_parse_110 {p : Program} {l : Launch} {e : Env} {s : State} {m : MethodId} {args : Array Value} {below : List Frame} {meth : Method} {c : Code} {g : fy_G} (C : fy_C g X_Y p s m args meth c yX4_parse.cls cX4_parse 6 (some .int)) {tt : Nat} (hst : g.2.2.2 = some tt) {Sr : fy_S} {rr : Int32} {k24 : fy_S → Int32 → Int32 → Int32 → Option (fy_S × Int32)} (hk24 : ∀ (S : fy_S) (v1 : Int32) (v2 : Int32) (v3 : Int32) (H : Heap) (locs : List Loc) (ls : Array Slot), k24 S v1 v2 v3 = some (Sr, rr) → fy_W g X_Y S s H locs → lv_has ls 6 [(0, .ref (g.2.2.1 3)), (1, .int v1), (2, .int v2), (3, .int v3)] → W p l e (fy_rm 4) s m args below meth c H locs 0 0 (MQ below (fy_QI g X_Y rr Sr) args s 0 0 (fy_A g X_Y)) (F0 m 24 ls [])) : ∀ (S : fy_S) (v1 : Int32) (v3 : Int32) (v4 : Int32) (H : Heap) (locs : List Loc) (ls : Array Slot), X4_parse_110 k24 S v1 v3 v4 = some (Sr, rr) → fy_W g X_Y S s H locs → lv_has ls 6 [(0, .ref (g.2.2.1 3)), (1, .int v1), (3, .int v3), (4, .int v4)] → W p l e (fy_rm 4) s m args below meth c H locs 0 0 (MQ below (fy_QI g X_Y rr Sr) args s 0 0 (fy_A g X_Y)) (F0 m 110 ls []) := by
  obtain ⟨hx, hb, hr, hts, hown, hlk, hml, hK, hD, hE, hN⟩ := id C
  intro S v1 v3 v4 H locs ls h w  hl
  rw [X4_parse_110] at h
  refine lv_iload hx hb dX4_parse_110 (lv_at hl 3 rfl) ?_
  refine lv_bipush (v := (38 : Int32)) hx hb dX4_parse_112 (by decide) ?_
  refine lv_icmp_eq (tgt := 124) hx hb dX4_parse_114 (by decide) (fun hc => ?_) (fun hc => ?_)
  · have h := fy_if_t h hc
    exact t_X4_parse_124 C hst hk24 _ _ _ _ _ _ _ h w (lv_sub hl [0, 1, 2, 3] rfl)
  · have h := fy_if_f h hc
    refine lv_iload hx hb dX4_parse_117 (lv_at hl 3 rfl) ?_
    refine lv_bipush (v := (124 : Int32)) hx hb dX4_parse_119 (by decide) ?_
    refine lv_icmp_ne (tgt := 147) hx hb dX4_parse_121 (by decide) (fun hc => ?_) (fun hc => ?_)
    · have h := fy_if_f h hc
      refine lv_iload_n hx hb dX4_parse_147 rfl (lv_at hl 2 rfl) ?_
      cases h
      exact fy_retI C w dX4_parse_148
    · have h := fy_if_t h hc
      exact t_X4_parse_124 C hst hk24 _ _ _ _ _ _ _ h w (lv_sub hl [0, 1, 2, 3] rfl)

set_option maxHeartbeats 4000000 in
set_option maxRecDepth 100000 in
theorem t_X4_parse_58 {p : Program} {l : Launch} {e : Env} {s : State} {m : MethodId} {args : Array Value} {below : List Frame} {meth : Method} {c : Code} {g : fy_G} (C : fy_C g X_Y p s m args meth c yX4_parse.cls cX4_parse 6 (some .int)) {tt : Nat} (hst : g.2.2.2 = some tt) {Sr : fy_S} {rr : Int32} {k24 : fy_S → Int32 → Int32 → Int32 → Option (fy_S × Int32)} (hk24 : ∀ (S : fy_S) (v1 : Int32) (v2 : Int32) (v3 : Int32) (H : Heap) (locs : List Loc) (ls : Array Slot), k24 S v1 v2 v3 = some (Sr, rr) → fy_W g X_Y S s H locs → lv_has ls 6 [(0, .ref (g.2.2.1 3)), (1, .int v1), (2, .int v2), (3, .int v3)] → W p l e (fy_rm 4) s m args below meth c H locs 0 0 (MQ below (fy_QI g X_Y rr Sr) args s 0 0 (fy_A g X_Y)) (F0 m 24 ls [])) : ∀ (S : fy_S) (v1 : Int32) (v2 : Int32) (v3 : Int32) (v4 : Int32) (H : Heap) (locs : List Loc) (ls : Array Slot), X4_parse_58 k24 S v1 v2 v3 v4 = some (Sr, rr) → fy_W g X_Y S s H locs → lv_has ls 6 [(0, .ref (g.2.2.1 3)), (1, .int v1), (2, .int v2), (3, .int v3), (4, .int v4)] → W p l e (fy_rm 4) s m args below meth c H locs 0 0 (MQ below (fy_QI g X_Y rr Sr) args s 0 0 (fy_A g X_Y)) (F0 m 58 ls []) := by
  obtain ⟨hx, hb, hr, hts, hown, hlk, hml, hK, hD, hE, hN⟩ := id C
  intro S v1 v2 v3 v4 H locs ls h w  hl
  rw [X4_parse_58] at h
  refine lv_iload_n hx hb dX4_parse_58 rfl (lv_at hl 2 rfl) ?_
  refine lv_if_eq (tgt := 89) hx hb dX4_parse_59 (by decide) (fun hc => ?_) (fun hc => ?_)
  · have h := fy_if_t h hc
    refine lv_iload hx hb dX4_parse_89 (lv_at hl 4 rfl) ?_
    refine lv_bipush (v := (41 : Int32)) hx hb dX4_parse_91 (by decide) ?_
    refine lv_icmp_ne (tgt := 110) hx hb dX4_parse_93 (by decide) (fun hc => ?_) (fun hc => ?_)
    · have h := fy_if_f h hc
      exact t_X4_parse_110 C hst hk24 _ _ _ _ _ _ _ h w (lv_sub hl [0, 1, 3, 4] rfl)
    · have h := fy_if_t h hc
      refine lv_aload_n hx hb dX4_parse_96 rfl (lv_at hl 0 rfl) ?_
      refine gfX4_39 X_full C w (X_i3) dX4_parse_97 ?_
      refine lv_if_le (tgt := 110) hx hb dX4_parse_100 (by decide) (fun hc => ?_) (fun hc => ?_)
      · have h := fy_if_t h hc
        exact t_X4_parse_110 C hst hk24 _ _ _ _ _ _ _ h w (lv_sub hl [0, 1, 3, 4] rfl)
      · have h := fy_if_f h hc
        refine lv_aload_n hx hb dX4_parse_103 rfl (lv_at hl 0 rfl) ?_
        obtain ⟨S104, h104, h⟩ := fy_bd_some h
        refine fy_calV w (fy_runV (As := []) (rest := []) C w (c_X4_closeGroup l g  h104) (X_o4 X_full (X_i3)) ksX4_63 rfl ⟨Nat.le_of_ble_eq_true rfl, Nat.le_of_ble_eq_true rfl⟩ rfl hl.1 rfl (Nat.le_of_ble_eq_true rfl) ⟨Nat.le_refl _, Nat.le_refl _⟩ dX4_parse_104) (fun H locs w => ?_)
        refine lv_goto (tgt := 149) hx hb dX4_parse_107 (by decide) ?_
        obtain ⟨x149, e149⟩ : ∃ z : Int32, z = v3 + (1 : Int32) := ⟨_, rfl⟩
        have h := fy_bl_some e149 h
        refine lv_iinc (k := 3) (v := x149) (lv' := [(3, .int x149), (0, .ref (g.2.2.1 3)), (1, .int v1), (2, .int v2), (4, .int v4)]) hx hb dX4_parse_149 hl rfl (by rw [e149]; rfl) (by decide) rfl (fun ls hl => ?_)
        refine lv_goto (tgt := 24) hx hb dX4_parse_152 (by decide) ?_
        exact hk24 _ _ _ _ _ _ _ h w (lv_sub hl [1, 2, 3, 0] rfl)
  · have h := fy_if_f h hc
    refine lv_iload hx hb dX4_parse_62 (lv_at hl 4 rfl) ?_
    refine lv_iload_n hx hb dX4_parse_64 rfl (lv_at hl 1 rfl) ?_
    obtain ⟨r65, h65, h⟩ := fy_bd_some h
    refine fy_calI w (fy_runS (As := [.int v4, .int v1]) (rest := []) C w (c_X4_leafFor l g  h65) ksX4_55 ⟨Nat.le_of_ble_eq_true rfl, Nat.le_of_ble_eq_true rfl⟩ rfl hl.1 rfl (Nat.le_of_ble_eq_true rfl) ⟨Nat.le_refl _, Nat.le_refl _⟩ dX4_parse_65) (fun H locs w => ?_)
    refine lv_istore (lv' := [(5, .int r65), (0, .ref (g.2.2.1 3)), (1, .int v1), (2, .int v2), (3, .int v3), (4, .int v4)]) hx hb dX4_parse_68 hl (by decide) rfl (fun ls hl => ?_)
    refine lv_iload hx hb dX4_parse_70 (lv_at hl 0 rfl) ?_
    refine lv_iconst (v := (-1 : Int32)) hx hb dX4_parse_72 (by decide) ?_
    refine lv_icmp_ne (tgt := 78) hx hb dX4_parse_73 (by decide) (fun hc => ?_) (fun hc => ?_)
    · have h := fy_if_f h hc
      refine lv_aload_n hx hb dX4_parse_78 rfl (lv_at hl 1 rfl) ?_
      refine lv_iload hx hb dX4_parse_79 (lv_at hl 0 rfl) ?_
      obtain ⟨S81, h81, h⟩ := fy_bd_some h
      refine fy_calV w (fy_runV (As := [.int r65]) (rest := []) C w (c_X4_addLeaf l g hst  h81) (X_o4 X_full (X_i3)) ksX4_59 rfl ⟨Nat.le_of_ble_eq_true rfl, Nat.le_of_ble_eq_true rfl⟩ rfl hl.1 rfl (Nat.le_of_ble_eq_true rfl) ⟨Nat.le_refl _, Nat.le_refl _⟩ dX4_parse_81) (fun H locs w => ?_)
      refine lv_iconst (v := (0 : Int32)) hx hb dX4_parse_84 (by decide) ?_
      refine lv_istore_n (lv' := [(2, .int (0 : Int32)), (5, .int r65), (0, .ref (g.2.2.1 3)), (1, .int v1), (3, .int v3), (4, .int v4)]) hx hb dX4_parse_85 rfl hl (by decide) rfl (fun ls hl => ?_)
      refine lv_goto (tgt := 149) hx hb dX4_parse_86 (by decide) ?_
      obtain ⟨x149, e149⟩ : ∃ z : Int32, z = v3 + (1 : Int32) := ⟨_, rfl⟩
      have h := fy_bl_some e149 h
      refine lv_iinc (k := 4) (v := x149) (lv' := [(3, .int x149), (2, .int (0 : Int32)), (5, .int r65), (0, .ref (g.2.2.1 3)), (1, .int v1), (4, .int v4)]) hx hb dX4_parse_149 hl rfl (by rw [e149]; rfl) (by decide) rfl (fun ls hl => ?_)
      refine lv_goto (tgt := 24) hx hb dX4_parse_152 (by decide) ?_
      exact hk24 _ _ _ _ _ _ _ h w (lv_sub hl [3, 4, 1, 0] rfl)
    · have h := fy_if_t h hc
      refine lv_iload_n hx hb dX4_parse_76 rfl (lv_at hl 4 rfl) ?_
      cases h
      exact fy_retI C w dX4_parse_77

set_option maxHeartbeats 4000000 in
set_option maxRecDepth 100000 in
theorem t_X4_parse_24 {p : Program} {l : Launch} {e : Env} {s : State} {m : MethodId} {args : Array Value} {below : List Frame} {meth : Method} {c : Code} {g : fy_G} (C : fy_C g X_Y p s m args meth c yX4_parse.cls cX4_parse 6 (some .int)) {tt : Nat} (hst : g.2.2.2 = some tt) {Sr : fy_S} {rr : Int32} : ∀ (fu : Nat) (S : fy_S) (v1 : Int32) (v2 : Int32) (v3 : Int32) (H : Heap) (locs : List Loc) (ls : Array Slot), X4_parse_24 fu S v1 v2 v3 = some (Sr, rr) → fy_W g X_Y S s H locs → lv_has ls 6 [(0, .ref (g.2.2.1 3)), (1, .int v1), (2, .int v2), (3, .int v3)] → W p l e (fy_rm 4) s m args below meth c H locs 0 0 (MQ below (fy_QI g X_Y rr Sr) args s 0 0 (fy_A g X_Y)) (F0 m 24 ls []) := by
  obtain ⟨hx, hb, hr, hts, hown, hlk, hml, hK, hD, hE, hN⟩ := id C
  intro fu
  induction fu with
  | zero => intro S v1 v2 v3 H locs ls h; cases h
  | succ fu ih =>
    intro S v1 v2 v3 H locs ls h w  hl
    rw [X4_parse_24] at h
    refine lv_iload_n hx hb dX4_parse_24 rfl (lv_at hl 3 rfl) ?_
    refine lv_aload_n hx hb dX4_parse_25 rfl (lv_at hl 0 rfl) ?_
    refine gfX4_26 X_full C w (X_i3) dX4_parse_26 ?_
    refine lv_icmp_ge (tgt := 155) hx hb dX4_parse_29 (by decide) (fun hc => ?_) (fun hc => ?_)
    · have h := fy_if_t h hc
      refine lv_iload_n hx hb dX4_parse_155 rfl (lv_at hl 2 rfl) ?_
      refine lv_if_ne (tgt := 166) hx hb dX4_parse_156 (by decide) (fun hc => ?_) (fun hc => ?_)
      · have h := fy_if_f h hc
        refine lv_aload_n hx hb dX4_parse_166 rfl (lv_at hl 0 rfl) ?_
        refine gfX4_26 X_full C w (X_i3) dX4_parse_167 ?_
        cases h
        exact fy_retI C w dX4_parse_170
      · have h := fy_if_t h hc
        refine lv_aload_n hx hb dX4_parse_159 rfl (lv_at hl 0 rfl) ?_
        refine gfX4_39 X_full C w (X_i3) dX4_parse_160 ?_
        refine lv_if_le (tgt := 171) hx hb dX4_parse_163 (by decide) (fun hc => ?_) (fun hc => ?_)
        · have h := fy_if_t h hc
          refine lv_aload_n hx hb dX4_parse_171 rfl (lv_at hl 0 rfl) ?_
          refine lv_bipush (v := (8 : Int32)) hx hb dX4_parse_172 (by decide) ?_
          obtain ⟨S174, h174, h⟩ := fy_bd_some h
          refine fy_calV w (fy_runV (As := [.int (8 : Int32)]) (rest := []) C w (c_X4_applyWaiting l g  h174) (X_o4 X_full (X_i3)) ksX4_69 rfl ⟨Nat.le_of_ble_eq_true rfl, Nat.le_of_ble_eq_true rfl⟩ rfl hl.1 rfl (Nat.le_of_ble_eq_true rfl) ⟨Nat.le_refl _, Nat.le_refl _⟩ dX4_parse_174) (fun H locs w => ?_)
          refine lv_iconst (v := (-1 : Int32)) hx hb dX4_parse_177 (by decide) ?_
          cases h
          exact fy_retI C w dX4_parse_178
        · have h := fy_if_f h hc
          refine lv_aload_n hx hb dX4_parse_166 rfl (lv_at hl 0 rfl) ?_
          refine gfX4_26 X_full C w (X_i3) dX4_parse_167 ?_
          cases h
          exact fy_retI C w dX4_parse_170
    · have h := fy_if_f h hc
      refine lv_aload_n hx hb dX4_parse_32 rfl (lv_at hl 0 rfl) ?_
      refine gfX4_9 X_full C w (X_i3) dX4_parse_33 ?_
      refine lv_iload_n hx hb dX4_parse_36 rfl (lv_at hl 3 rfl) ?_
      obtain ⟨g37, h⟩ := fy_gd_some h
      refine fy_cald C w X_a4 g37 dX4_parse_37 ?_
      refine lv_topi (fun x38 e38 => ?_)
      have h := fy_bl_some e38 h
      refine lv_istore (lv' := [(4, .int x38), (0, .ref (g.2.2.1 3)), (1, .int v1), (2, .int v2), (3, .int v3)]) hx hb dX4_parse_38 hl (by decide) rfl (fun ls hl => ?_)
      refine lv_iload_n hx hb dX4_parse_40 rfl (lv_at hl 3 rfl) ?_
      refine lv_if_eq (tgt := 58) hx hb dX4_parse_41 (by decide) (fun hc => ?_) (fun hc => ?_)
      · have h := fy_if_t h hc
        exact t_X4_parse_58 C hst ih _ _ _ _ _ _ _ _ h w (lv_sub hl [1, 2, 3, 4, 0] rfl)
      · have h := fy_if_f h hc
        refine lv_iload hx hb dX4_parse_44 (lv_at hl 0 rfl) ?_
        refine lv_bipush (v := (40 : Int32)) hx hb dX4_parse_46 (by decide) ?_
        refine lv_icmp_ne (tgt := 58) hx hb dX4_parse_48 (by decide) (fun hc => ?_) (fun hc => ?_)
        · have h := fy_if_f h hc
          exact t_X4_parse_58 C hst ih _ _ _ _ _ _ _ _ h w (lv_sub hl [1, 2, 3, 4, 0] rfl)
        · have h := fy_if_t h hc
          refine lv_aload_n hx hb dX4_parse_51 rfl (lv_at hl 1 rfl) ?_
          obtain ⟨S52, h52, h⟩ := fy_bd_some h
          refine fy_calV w (fy_runV (As := []) (rest := []) C w (c_X4_openGroup l g  h52) (X_o4 X_full (X_i3)) ksX4_52 rfl ⟨Nat.le_of_ble_eq_true rfl, Nat.le_of_ble_eq_true rfl⟩ rfl hl.1 rfl (Nat.le_of_ble_eq_true rfl) ⟨Nat.le_refl _, Nat.le_refl _⟩ dX4_parse_52) (fun H locs w => ?_)
          refine lv_goto (tgt := 149) hx hb dX4_parse_55 (by decide) ?_
          obtain ⟨x149, e149⟩ : ∃ z : Int32, z = v3 + (1 : Int32) := ⟨_, rfl⟩
          have h := fy_bl_some e149 h
          refine lv_iinc (k := 4) (v := x149) (lv' := [(3, .int x149), (4, .int x38), (0, .ref (g.2.2.1 3)), (1, .int v1), (2, .int v2)]) hx hb dX4_parse_149 hl rfl (by rw [e149]; rfl) (by decide) rfl (fun ls hl => ?_)
          refine lv_goto (tgt := 24) hx hb dX4_parse_152 (by decide) ?_
          exact ih _ _ _ _ _ _ _ h w (lv_sub hl [2, 3, 4, 0] rfl)

set_option maxHeartbeats 4000000 in
set_option maxRecDepth 100000 in
theorem t_X4_parse {p : Program} {l : Launch} {e : Env} {s : State} {m : MethodId} {args : Array Value} {below : List Frame} {meth : Method} {c : Code} {g : fy_G} (C : fy_C g X_Y p s m args meth c yX4_parse.cls cX4_parse 6 (some .int)) {tt : Nat} (hst : g.2.2.2 = some tt) {S : fy_S} {v1 : Int32} {Sr : fy_S} {rr : Int32}  {H : Heap} {locs : List Loc} {ls : Array Slot} (h : X4_parse S v1 = some (Sr, rr)) (w : fy_W g X_Y S s H locs) (hl : lv_has ls 6 [(0, .ref (g.2.2.1 3)), (1, .int v1)]) : W p l e (fy_rm 4) s m args below meth c H locs 0 0 (MQ below (fy_QI g X_Y rr Sr) args s 0 0 (fy_A g X_Y)) (F0 m 0 ls []) := by
  obtain ⟨hx, hb, hr, hts, hown, hlk, hml, hK, hD, hE, hN⟩ := id C
  rw [X4_parse] at h
  refine lv_aload_n hx hb dX4_parse_0 rfl (lv_at hl 0 rfl) ?_
  refine lv_iconst (v := (0 : Int32)) hx hb dX4_parse_1 (by decide) ?_
  refine pfX4_30 X_full C w (X_i3) dX4_parse_2 (fun H locs w => ?_)
  obtain ⟨S2, e2⟩ : ∃ z, z = fy_sI S 3 5 (0 : Int32) := ⟨_, rfl⟩
  have h := fy_bl_some e2 h
  rw [← e2] at w
  refine lv_aload_n hx hb dX4_parse_5 rfl (lv_at hl 0 rfl) ?_
  refine lv_iconst (v := (0 : Int32)) hx hb dX4_parse_6 (by decide) ?_
  refine pfX4_33 X_full C w (X_i3) dX4_parse_7 (fun H locs w => ?_)
  obtain ⟨S7, e7⟩ : ∃ z, z = fy_sI S2 3 6 (0 : Int32) := ⟨_, rfl⟩
  have h := fy_bl_some e7 h
  rw [← e7] at w
  refine lv_aload_n hx hb dX4_parse_10 rfl (lv_at hl 0 rfl) ?_
  refine lv_iconst (v := (0 : Int32)) hx hb dX4_parse_11 (by decide) ?_
  refine pfX4_36 X_full C w (X_i3) dX4_parse_12 (fun H locs w => ?_)
  obtain ⟨S12, e12⟩ : ∃ z, z = fy_sI S7 3 7 (0 : Int32) := ⟨_, rfl⟩
  have h := fy_bl_some e12 h
  rw [← e12] at w
  refine lv_aload_n hx hb dX4_parse_15 rfl (lv_at hl 0 rfl) ?_
  refine lv_iconst (v := (0 : Int32)) hx hb dX4_parse_16 (by decide) ?_
  refine pfX4_39 X_full C w (X_i3) dX4_parse_17 (fun H locs w => ?_)
  obtain ⟨S17, e17⟩ : ∃ z, z = fy_sI S12 3 8 (0 : Int32) := ⟨_, rfl⟩
  have h := fy_bl_some e17 h
  rw [← e17] at w
  refine lv_iconst (v := (1 : Int32)) hx hb dX4_parse_20 (by decide) ?_
  refine lv_istore_n (lv' := [(2, .int (1 : Int32)), (0, .ref (g.2.2.1 3)), (1, .int v1)]) hx hb dX4_parse_21 rfl hl (by decide) rfl (fun ls hl => ?_)
  refine lv_iconst (v := (0 : Int32)) hx hb dX4_parse_22 (by decide) ?_
  refine lv_istore_n (lv' := [(3, .int (0 : Int32)), (2, .int (1 : Int32)), (0, .ref (g.2.2.1 3)), (1, .int v1)]) hx hb dX4_parse_23 rfl hl (by decide) rfl (fun ls hl => ?_)
  exact t_X4_parse_24 C hst fy_fu _ _ _ _ _ _ _ h w (lv_sub hl [2, 3, 1, 0] rfl)

set_option maxHeartbeats 4000000 in
set_option maxRecDepth 100000 in
theorem c_X4_parse (l : Launch) (g : fy_G) {tt : Nat} (hst : g.2.2.2 = some tt) {S : fy_S} {v1 : Int32} {Sr : fy_S} {rr : Int32}  (h : X4_parse S v1 = some (Sr, rr)) : fy_M g X_Y l yX4_parse cX4_parse 6 (some .int) (fy_rm 4) [.ref (g.2.2.1 3), .int v1] S (fy_QI g X_Y rr Sr) :=
  fy_entry (by decide +kernel) (Nat.le_of_ble_eq_true rfl) (fun p e s m args below meth c ls C w hl => t_X4_parse C hst  h w hl)
def X2_become (S : fy_S) (v0 : Nat) (v1 : Nat) (v2 : Int32) (v3 : Int64) : Option (fy_S) :=
  if v2 < (1 : Int32) then (
    some S)
  else (
    if (40 : Int32) < v2 then (
      some S)
    else (
      if v2 ≤ (Int32.ofNat (X_al v1)) then (
        fy_gd (fy_cpI .byte (S.1 v1) (0 : Int32) (0 : Int32) v2 (X_al v1) 40) <|
        fy_bl (fy_sA S (v0 + 1) (va_cpy (S.1 v1) (S.1 (v0 + 1)) (0 : Int32).toNatClampNeg (0 : Int32).toNatClampNeg v2.toNatClampNeg)) fun S26 =>
        fy_bl (fy_sI S26 v0 1 v2) fun S31 =>
        fy_bl (fy_sL S31 v0 2 v3) fun S36 =>
        some S36)
      else (
        some S)))
set_option maxHeartbeats 4000000 in
set_option maxRecDepth 100000 in
theorem t_X2_become {p : Program} {l : Launch} {e : Env} {s : State} {m : MethodId} {args : Array Value} {below : List Frame} {meth : Method} {c : Code} {g : fy_G} {y : fy_Y} (C : fy_C g y p s m args meth c yX2_become.cls cX2_become 5 none) (hcl : X_clo y) {S : fy_S} {v0 : Nat} {v1 : Nat} {v2 : Int32} {v3 : Int64} {Sr : fy_S}  (q0 : X_is y 2 v0) (q1 : v1 ∈ y.2 ∧ y.1 v1 = .inl (1, X_al v1, X_ar v1)) {H : Heap} {locs : List Loc} {ls : Array Slot} (h : X2_become S v0 v1 v2 v3 = some Sr) (w : fy_W g y S s H locs) (hl : lv_has ls 5 [(0, .ref (g.2.2.1 v0)), (1, .ref (g.2.2.1 v1)), (2, .int v2), (3, .long v3)]) : W p l e (fy_rm 1) s m args below meth c H locs 0 0 (MQ below (fy_QV g y Sr) args s 0 0 (fy_A g y)) (F0 m 0 ls []) := by
  obtain ⟨hx, hb, hr, hts, hown, hlk, hml, hK, hD, hE, hN⟩ := id C
  rw [X2_become] at h
  refine lv_iload_n hx hb dX2_become_0 rfl (lv_at hl 2 rfl) ?_
  refine lv_iconst (v := (1 : Int32)) hx hb dX2_become_1 (by decide) ?_
  refine lv_icmp_lt (tgt := 17) hx hb dX2_become_2 (by decide) (fun hc => ?_) (fun hc => ?_)
  · have h := fy_if_t h hc
    cases h
    exact fy_retV C w dX2_become_17
  · have h := fy_if_f h hc
    refine lv_iload_n hx hb dX2_become_5 rfl (lv_at hl 2 rfl) ?_
    refine lv_bipush (v := (40 : Int32)) hx hb dX2_become_6 (by decide) ?_
    refine lv_icmp_gt (tgt := 17) hx hb dX2_become_8 (by decide) (fun hc => ?_) (fun hc => ?_)
    · have h := fy_if_t h hc
      cases h
      exact fy_retV C w dX2_become_17
    · have h := fy_if_f h hc
      refine lv_iload_n hx hb dX2_become_11 rfl (lv_at hl 2 rfl) ?_
      refine lv_aload_n hx hb dX2_become_12 rfl (lv_at hl 1 rfl) ?_
      refine fy_alen C w q1 (by decide) dX2_become_13 ?_
      refine lv_icmp_le (tgt := 18) hx hb dX2_become_14 (by decide) (fun hc => ?_) (fun hc => ?_)
      · have h := fy_if_t h hc
        refine lv_aload_n hx hb dX2_become_18 rfl (lv_at hl 1 rfl) ?_
        refine lv_iconst (v := (0 : Int32)) hx hb dX2_become_19 (by decide) ?_
        refine lv_aload_n hx hb dX2_become_20 rfl (lv_at hl 0 rfl) ?_
        refine gfX2_9 hcl C w q0 dX2_become_21 ?_
        refine lv_iconst (v := (0 : Int32)) hx hb dX2_become_24 (by decide) ?_
        refine lv_iload_n hx hb dX2_become_25 rfl (lv_at hl 2 rfl) ?_
        obtain ⟨g26, h⟩ := fy_gd_some h
        refine fy_cpy1 (l := l) C w q1 (X_f2_nodes hcl q0) g26 tw359 tw360 tw361 tw362 hl.1 (Nat.le_of_ble_eq_true rfl) (Nat.le_of_ble_eq_true rfl) dX2_become_26 (fun H locs w => ?_)
        obtain ⟨S26, e26⟩ : ∃ z, z = fy_sA S (v0 + 1) (va_cpy (S.1 v1) (S.1 (v0 + 1)) (0 : Int32).toNatClampNeg (0 : Int32).toNatClampNeg v2.toNatClampNeg) := ⟨_, rfl⟩
        have h := fy_bl_some e26 h
        rw [← e26] at w
        refine lv_aload_n hx hb dX2_become_29 rfl (lv_at hl 0 rfl) ?_
        refine lv_iload_n hx hb dX2_become_30 rfl (lv_at hl 2 rfl) ?_
        refine pfX2_18 hcl C w q0 dX2_become_31 (fun H locs w => ?_)
        obtain ⟨S31, e31⟩ : ∃ z, z = fy_sI S26 v0 1 v2 := ⟨_, rfl⟩
        have h := fy_bl_some e31 h
        rw [← e31] at w
        refine lv_aload_n hx hb dX2_become_34 rfl (lv_at hl 0 rfl) ?_
        refine lv_lload_n hx hb dX2_become_35 rfl (lv_at hl 3 rfl) ?_
        refine pfX2_22 hcl C w q0 dX2_become_36 (fun H locs w => ?_)
        obtain ⟨S36, e36⟩ : ∃ z, z = fy_sL S31 v0 2 v3 := ⟨_, rfl⟩
        have h := fy_bl_some e36 h
        rw [← e36] at w
        cases h
        exact fy_retV C w dX2_become_39
      · have h := fy_if_f h hc
        cases h
        exact fy_retV C w dX2_become_17

set_option maxHeartbeats 4000000 in
set_option maxRecDepth 100000 in
theorem c_X2_become (l : Launch) (g : fy_G) {y : fy_Y} (hcl : X_clo y) {S : fy_S} {v0 : Nat} {v1 : Nat} {v2 : Int32} {v3 : Int64} {Sr : fy_S}  (q0 : X_is y 2 v0) (q1 : v1 ∈ y.2 ∧ y.1 v1 = .inl (1, X_al v1, X_ar v1)) (h : X2_become S v0 v1 v2 v3 = some Sr) : fy_M g y l yX2_become cX2_become 5 none (fy_rm 1) [.ref (g.2.2.1 v0), .ref (g.2.2.1 v1), .int v2, .long v3] S (fy_QV g y Sr) :=
  fy_entry (by decide +kernel) (Nat.le_of_ble_eq_true rfl) (fun p e s m args below meth c ls C w hl => t_X2_become C hcl q0 q1 h w hl)
def X4_readInto (S : fy_S) (v1 : Nat) (v2 : Int32) : Option (fy_S × Int32) :=
  fy_bp (X4_parse S v2) fun S2 r2 =>
  if r2 = (-1 : Int32) then (
    if (S2.1 3 5) ≤ (40 : Int32) then (
      fy_gd (fy_ix (0 : Int32) 60) <|
      fy_bd (X2_become S2 v1 5 (S2.1 3 5) (S2.2 6 (0 : Int32).toNatClampNeg)) fun S43 =>
      some (S43, (S43.1 3 5)))
    else (
      some (S2, (-3 : Int32))))
  else (
    some (S2, ((-100 : Int32) - r2)))
set_option maxHeartbeats 4000000 in
set_option maxRecDepth 100000 in
theorem t_X4_readInto {p : Program} {l : Launch} {e : Env} {s : State} {m : MethodId} {args : Array Value} {below : List Frame} {meth : Method} {c : Code} {g : fy_G} (C : fy_C g X_Y p s m args meth c yX4_readInto.cls cX4_readInto 4 (some .int)) {tt : Nat} (hst : g.2.2.2 = some tt) {S : fy_S} {v1 : Nat} {v2 : Int32} {Sr : fy_S} {rr : Int32} (q1 : X_is X_Y 2 v1) {H : Heap} {locs : List Loc} {ls : Array Slot} (h : X4_readInto S v1 v2 = some (Sr, rr)) (w : fy_W g X_Y S s H locs) (hl : lv_has ls 4 [(0, .ref (g.2.2.1 3)), (1, .ref (g.2.2.1 v1)), (2, .int v2)]) : W p l e (fy_rm 5) s m args below meth c H locs 0 0 (MQ below (fy_QI g X_Y rr Sr) args s 0 0 (fy_A g X_Y)) (F0 m 0 ls []) := by
  obtain ⟨hx, hb, hr, hts, hown, hlk, hml, hK, hD, hE, hN⟩ := id C
  rw [X4_readInto] at h
  refine lv_aload_n hx hb dX4_readInto_0 rfl (lv_at hl 0 rfl) ?_
  refine lv_iload_n hx hb dX4_readInto_1 rfl (lv_at hl 2 rfl) ?_
  obtain ⟨S2, r2, h2, h⟩ := fy_bp_some h
  refine fy_calI w (fy_runV (As := [.int v2]) (rest := []) C w (c_X4_parse l g hst  h2) (X_o4 X_full (X_i3)) ksX4_42 rfl ⟨Nat.le_of_ble_eq_true rfl, Nat.le_of_ble_eq_true rfl⟩ rfl hl.1 rfl (Nat.le_of_ble_eq_true rfl) ⟨Nat.le_refl _, Nat.le_refl _⟩ dX4_readInto_2) (fun H locs w => ?_)
  refine lv_istore_n (lv' := [(3, .int r2), (0, .ref (g.2.2.1 3)), (1, .ref (g.2.2.1 v1)), (2, .int v2)]) hx hb dX4_readInto_5 rfl hl (by decide) rfl (fun ls hl => ?_)
  refine lv_iload_n hx hb dX4_readInto_6 rfl (lv_at hl 0 rfl) ?_
  refine lv_iconst (v := (-1 : Int32)) hx hb dX4_readInto_7 (by decide) ?_
  refine lv_icmp_eq (tgt := 16) hx hb dX4_readInto_8 (by decide) (fun hc => ?_) (fun hc => ?_)
  · have h := fy_if_t h hc
    refine lv_aload_n hx hb dX4_readInto_16 rfl (lv_at hl 1 rfl) ?_
    refine gfX4_30 X_full C w (X_i3) dX4_readInto_17 ?_
    refine lv_bipush (v := (40 : Int32)) hx hb dX4_readInto_20 (by decide) ?_
    refine lv_icmp_le (tgt := 28) hx hb dX4_readInto_22 (by decide) (fun hc => ?_) (fun hc => ?_)
    · have h := fy_if_t h hc
      refine lv_aload_n hx hb dX4_readInto_28 rfl (lv_at hl 2 rfl) ?_
      refine lv_aload_n hx hb dX4_readInto_29 rfl (lv_at hl 1 rfl) ?_
      refine gfX4_15 X_full C w (X_i3) dX4_readInto_30 ?_
      refine lv_aload_n hx hb dX4_readInto_33 rfl (lv_at hl 1 rfl) ?_
      refine gfX4_30 X_full C w (X_i3) dX4_readInto_34 ?_
      refine lv_aload_n hx hb dX4_readInto_37 rfl (lv_at hl 1 rfl) ?_
      refine gfX4_19 X_full C w (X_i3) dX4_readInto_38 ?_
      refine lv_iconst (v := (0 : Int32)) hx hb dX4_readInto_41 (by decide) ?_
      obtain ⟨g42, h⟩ := fy_gd_some h
      refine fy_lald C w X_a6 g42 dX4_readInto_42 ?_
      obtain ⟨S43, h43, h⟩ := fy_bd_some h
      refine fy_calV w (fy_runV (As := [.ref (g.2.2.1 5), .int (S2.1 3 5), .long (S2.2 6 (0 : Int32).toNatClampNeg)]) (rest := []) C w (c_X2_become l g X_full q1 (X_an X_full X_a5) h43) (X_o2 X_full q1) ksX4_46 rfl ⟨Nat.le_of_ble_eq_true rfl, Nat.le_of_ble_eq_true rfl⟩ rfl hl.1 rfl (Nat.le_of_ble_eq_true rfl) ⟨Nat.le_refl _, Nat.le_refl _⟩ dX4_readInto_43) (fun H locs w => ?_)
      refine lv_aload_n hx hb dX4_readInto_46 rfl (lv_at hl 1 rfl) ?_
      refine gfX4_30 X_full C w (X_i3) dX4_readInto_47 ?_
      cases h
      exact fy_retI C w dX4_readInto_50
    · have h := fy_if_f h hc
      refine lv_bipush (v := (-3 : Int32)) hx hb dX4_readInto_25 (by decide) ?_
      cases h
      exact fy_retI C w dX4_readInto_27
  · have h := fy_if_f h hc
    refine lv_bipush (v := (-100 : Int32)) hx hb dX4_readInto_11 (by decide) ?_
    refine lv_iload_n hx hb dX4_readInto_13 rfl (lv_at hl 0 rfl) ?_
    refine lv_isub hx hb dX4_readInto_14 ?_
    cases h
    exact fy_retI C w dX4_readInto_15

set_option maxHeartbeats 4000000 in
set_option maxRecDepth 100000 in
theorem c_X4_readInto (l : Launch) (g : fy_G) {tt : Nat} (hst : g.2.2.2 = some tt) {S : fy_S} {v1 : Nat} {v2 : Int32} {Sr : fy_S} {rr : Int32} (q1 : X_is X_Y 2 v1) (h : X4_readInto S v1 v2 = some (Sr, rr)) : fy_M g X_Y l yX4_readInto cX4_readInto 4 (some .int) (fy_rm 5) [.ref (g.2.2.1 3), .ref (g.2.2.1 v1), .int v2] S (fy_QI g X_Y rr Sr) :=
  fy_entry (by decide +kernel) (Nat.le_of_ble_eq_true rfl) (fun p e s m args below meth c ls C w hl => t_X4_readInto C hst q1 h w hl)
def X9_readFormula_46 (S : fy_S) (v6 : Int32) : Option (fy_S × Int32) :=
  fy_bl (fy_sI S 3 4 (0 : Int32)) fun S51 =>
  some (S51, v6)
def X9_readFormula (S : fy_S) (v1 : Int32) (v2 : Int32) (v3 : Int32) : Option (fy_S × Int32) :=
  fy_bd (X9_automatonIn S v1) fun r2 =>
  fy_bd (X9_formulaIn S v1 v2 v3) fun r11 =>
  match r2 with
  | none => (
    X9_readFormula_46 S (-2 : Int32))
  | some r2_ => (
    match r11 with
    | none => (
      X9_readFormula_46 S (-2 : Int32))
    | some r11_ => (
      fy_bp (X4_readInto S r11_ (S.1 r2_ 3)) fun S41 r41 =>
      X9_readFormula_46 S41 r41))
set_option maxHeartbeats 4000000 in
set_option maxRecDepth 100000 in
theorem t_X9_readFormula_46 {p : Program} {l : Launch} {e : Env} {s : State} {m : MethodId} {args : Array Value} {below : List Frame} {meth : Method} {c : Code} {g : fy_G} (C : fy_C g X_Y p s m args meth c yX9_readFormula.cls cX9_readFormula 7 (some .int)) {tt : Nat} (hst : g.2.2.2 = some tt) {Sr : fy_S} {rr : Int32} : ∀ (S : fy_S) (v6 : Int32) (H : Heap) (locs : List Loc) (ls : Array Slot), X9_readFormula_46 S v6 = some (Sr, rr) → fy_W g X_Y S s H locs → lv_has ls 7 [(0, .ref (g.2.2.1 0)), (6, .int v6)] → W p l e (fy_rm 6) s m args below meth c H locs 0 0 (MQ below (fy_QI g X_Y rr Sr) args s 0 0 (fy_A g X_Y)) (F0 m 46 ls []) := by
  obtain ⟨hx, hb, hr, hts, hown, hlk, hml, hK, hD, hE, hN⟩ := id C
  intro S v6 H locs ls h w  hl
  rw [X9_readFormula_46] at h
  refine lv_aload_n hx hb dX9_readFormula_46 rfl (lv_at hl 0 rfl) ?_
  refine gfX9_26 X_full C w (X_i0) dX9_readFormula_47 ?_
  refine lv_iconst (v := (0 : Int32)) hx hb dX9_readFormula_50 (by decide) ?_
  refine pfX9_117 X_full C w X_i3 dX9_readFormula_51 (fun H locs w => ?_)
  obtain ⟨S51, e51⟩ : ∃ z, z = fy_sI S 3 4 (0 : Int32) := ⟨_, rfl⟩
  have h := fy_bl_some e51 h
  rw [← e51] at w
  refine lv_iload hx hb dX9_readFormula_54 (lv_at hl 1 rfl) ?_
  cases h
  exact fy_retI C w dX9_readFormula_56

set_option maxHeartbeats 4000000 in
set_option maxRecDepth 100000 in
theorem t_X9_readFormula {p : Program} {l : Launch} {e : Env} {s : State} {m : MethodId} {args : Array Value} {below : List Frame} {meth : Method} {c : Code} {g : fy_G} (C : fy_C g X_Y p s m args meth c yX9_readFormula.cls cX9_readFormula 7 (some .int)) {tt : Nat} (hst : g.2.2.2 = some tt) {S : fy_S} {v1 : Int32} {v2 : Int32} {v3 : Int32} {Sr : fy_S} {rr : Int32}  {H : Heap} {locs : List Loc} {ls : Array Slot} (h : X9_readFormula S v1 v2 v3 = some (Sr, rr)) (w : fy_W g X_Y S s H locs) (hl : lv_has ls 7 [(0, .ref (g.2.2.1 0)), (1, .int v1), (2, .int v2), (3, .int v3)]) : W p l e (fy_rm 6) s m args below meth c H locs 0 0 (MQ below (fy_QI g X_Y rr Sr) args s 0 0 (fy_A g X_Y)) (F0 m 0 ls []) := by
  obtain ⟨hx, hb, hr, hts, hown, hlk, hml, hK, hD, hE, hN⟩ := id C
  rw [X9_readFormula] at h
  refine lv_aload_n hx hb dX9_readFormula_0 rfl (lv_at hl 0 rfl) ?_
  refine lv_iload_n hx hb dX9_readFormula_1 rfl (lv_at hl 1 rfl) ?_
  obtain ⟨r2, h2, h⟩ := fy_bd_some h
  refine fy_calE w (fy_runV (As := [.int v1]) (rest := []) C w (c_X9_automatonIn l g  h2) (X_o9 X_full (X_i0)) ksX9_88 rfl ⟨Nat.le_of_ble_eq_true rfl, Nat.le_of_ble_eq_true rfl⟩ rfl hl.1 rfl (Nat.le_of_ble_eq_true rfl) ⟨Nat.le_refl _, Nat.le_refl _⟩ dX9_readFormula_2) (fun H locs w => ?_)
  refine fy_astoreO (lv' := [(4, va_re g.2.2.1 r2), (0, .ref (g.2.2.1 0)), (1, .int v1), (2, .int v2), (3, .int v3)]) hx hb dX9_readFormula_5 hl (by decide) rfl (fun ls hl => ?_)
  refine lv_aload_n hx hb dX9_readFormula_7 rfl (lv_at hl 1 rfl) ?_
  refine lv_iload_n hx hb dX9_readFormula_8 rfl (lv_at hl 2 rfl) ?_
  refine lv_iload_n hx hb dX9_readFormula_9 rfl (lv_at hl 3 rfl) ?_
  refine lv_iload_n hx hb dX9_readFormula_10 rfl (lv_at hl 4 rfl) ?_
  obtain ⟨r11, h11, h⟩ := fy_bd_some h
  refine fy_calE w (fy_runV (As := [.int v1, .int v2, .int v3]) (rest := []) C w (c_X9_formulaIn l g  h11) (X_o9 X_full (X_i0)) ksX9_131 rfl ⟨Nat.le_of_ble_eq_true rfl, Nat.le_of_ble_eq_true rfl⟩ rfl hl.1 rfl (Nat.le_of_ble_eq_true rfl) ⟨Nat.le_refl _, Nat.le_refl _⟩ dX9_readFormula_11) (fun H locs w => ?_)
  refine fy_astoreO (lv' := [(5, va_re g.2.2.1 r11), (4, va_re g.2.2.1 r2), (0, .ref (g.2.2.1 0)), (1, .int v1), (2, .int v2), (3, .int v3)]) hx hb dX9_readFormula_14 hl (by decide) (by simp [fy_recat]) (fun ls hl => ?_)
  refine lv_bipush (v := (-2 : Int32)) hx hb dX9_readFormula_16 (by decide) ?_
  refine lv_istore (lv' := [(6, .int (-2 : Int32)), (5, va_re g.2.2.1 r11), (4, va_re g.2.2.1 r2), (0, .ref (g.2.2.1 0)), (1, .int v1), (2, .int v2), (3, .int v3)]) hx hb dX9_readFormula_18 hl (by decide) (by simp [fy_recat]) (fun ls hl => ?_)
  cases r2 with
  | none =>
    dsimp only at h
    refine lv_aloadN hx hb dX9_readFormula_20 (lv_at hl 2 rfl) ?_
    refine lv_ifnullN (tgt := 46) hx hb dX9_readFormula_22 (by decide) ?_
    exact t_X9_readFormula_46 C hst _ _ _ _ _ h w (lv_sub hl [3, 0] rfl)
  | some r2_ =>
    dsimp only at h
    refine lv_aload hx hb dX9_readFormula_20 (lv_at hl 2 rfl) ?_
    refine lv_ifnull hx hb dX9_readFormula_22 ?_
    cases r11 with
    | none =>
      dsimp only at h
      refine lv_aloadN hx hb dX9_readFormula_25 (lv_at hl 1 rfl) ?_
      refine lv_ifnullN (tgt := 46) hx hb dX9_readFormula_27 (by decide) ?_
      exact t_X9_readFormula_46 C hst _ _ _ _ _ h w (lv_sub hl [3, 0] rfl)
    | some r11_ =>
      dsimp only at h
      refine lv_aload hx hb dX9_readFormula_25 (lv_at hl 1 rfl) ?_
      refine lv_ifnull hx hb dX9_readFormula_27 ?_
      refine lv_aload_n hx hb dX9_readFormula_30 rfl (lv_at hl 3 rfl) ?_
      refine gfX9_26 X_full C w (X_i0) dX9_readFormula_31 ?_
      refine lv_aload hx hb dX9_readFormula_34 (lv_at hl 1 rfl) ?_
      refine lv_aload hx hb dX9_readFormula_36 (lv_at hl 2 rfl) ?_
      refine gfX9_96 X_full C w (cls_X9_automatonIn  h2) dX9_readFormula_38 ?_
      obtain ⟨S41, r41, h41, h⟩ := fy_bp_some h
      refine fy_calI w (fy_runV (As := [.ref (g.2.2.1 r11_), .int (S.1 r2_ 3)]) (rest := []) C w (c_X4_readInto l g hst (cls_X9_formulaIn  h11) h41) (X_o4 X_full X_i3) ksX9_278 rfl ⟨Nat.le_of_ble_eq_true rfl, Nat.le_of_ble_eq_true rfl⟩ rfl hl.1 rfl (Nat.le_of_ble_eq_true rfl) ⟨Nat.le_refl _, Nat.le_refl _⟩ dX9_readFormula_41) (fun H locs w => ?_)
      refine lv_istore (lv' := [(6, .int r41), (5, .ref (g.2.2.1 r11_)), (4, .ref (g.2.2.1 r2_)), (0, .ref (g.2.2.1 0)), (1, .int v1), (2, .int v2), (3, .int v3)]) hx hb dX9_readFormula_44 hl (by decide) rfl (fun ls hl => ?_)
      exact t_X9_readFormula_46 C hst _ _ _ _ _ h w (lv_sub hl [3, 0] rfl)

set_option maxHeartbeats 4000000 in
set_option maxRecDepth 100000 in
theorem c_X9_readFormula (l : Launch) (g : fy_G) {tt : Nat} (hst : g.2.2.2 = some tt) {S : fy_S} {v1 : Int32} {v2 : Int32} {v3 : Int32} {Sr : fy_S} {rr : Int32}  (h : X9_readFormula S v1 v2 v3 = some (Sr, rr)) : fy_M g X_Y l yX9_readFormula cX9_readFormula 7 (some .int) (fy_rm 6) [.ref (g.2.2.1 0), .int v1, .int v2, .int v3] S (fy_QI g X_Y rr Sr) :=
  fy_entry (by decide +kernel) (Nat.le_of_ble_eq_true rfl) (fun p e s m args below meth c ls C w hl => t_X9_readFormula C hst  h w hl)
def X9_setInitial (S : fy_S) (v1 : Int32) : Option (fy_S × Int32) :=
  fy_bp (X9_readFormula S v1 (-1 : Int32) (0 : Int32)) fun S4 r4 =>
  some (S4, r4)
set_option maxHeartbeats 4000000 in
set_option maxRecDepth 100000 in
theorem t_X9_setInitial {p : Program} {l : Launch} {e : Env} {s : State} {m : MethodId} {args : Array Value} {below : List Frame} {meth : Method} {c : Code} {g : fy_G} (C : fy_C g X_Y p s m args meth c yX9_setInitial.cls cX9_setInitial 2 (some .int)) {tt : Nat} (hst : g.2.2.2 = some tt) {S : fy_S} {v1 : Int32} {Sr : fy_S} {rr : Int32}  {H : Heap} {locs : List Loc} {ls : Array Slot} (h : X9_setInitial S v1 = some (Sr, rr)) (w : fy_W g X_Y S s H locs) (hl : lv_has ls 2 [(0, .ref (g.2.2.1 0)), (1, .int v1)]) : W p l e (fy_rm 7) s m args below meth c H locs 0 0 (MQ below (fy_QI g X_Y rr Sr) args s 0 0 (fy_A g X_Y)) (F0 m 0 ls []) := by
  obtain ⟨hx, hb, hr, hts, hown, hlk, hml, hK, hD, hE, hN⟩ := id C
  rw [X9_setInitial] at h
  refine lv_aload_n hx hb dX9_setInitial_0 rfl (lv_at hl 0 rfl) ?_
  refine lv_iload_n hx hb dX9_setInitial_1 rfl (lv_at hl 1 rfl) ?_
  refine lv_iconst (v := (-1 : Int32)) hx hb dX9_setInitial_2 (by decide) ?_
  refine lv_iconst (v := (0 : Int32)) hx hb dX9_setInitial_3 (by decide) ?_
  obtain ⟨S4, r4, h4, h⟩ := fy_bp_some h
  refine fy_calI w (fy_runV (As := [.int v1, .int (-1 : Int32), .int (0 : Int32)]) (rest := []) C w (c_X9_readFormula l g hst  h4) (X_o9 X_full (X_i0)) ksX9_124 rfl ⟨Nat.le_of_ble_eq_true rfl, Nat.le_of_ble_eq_true rfl⟩ rfl hl.1 rfl (Nat.le_of_ble_eq_true rfl) ⟨Nat.le_refl _, Nat.le_refl _⟩ dX9_setInitial_4) (fun H locs w => ?_)
  cases h
  exact fy_retI C w dX9_setInitial_7

set_option maxHeartbeats 4000000 in
set_option maxRecDepth 100000 in
theorem c_X9_setInitial (l : Launch) (g : fy_G) {tt : Nat} (hst : g.2.2.2 = some tt) {S : fy_S} {v1 : Int32} {Sr : fy_S} {rr : Int32}  (h : X9_setInitial S v1 = some (Sr, rr)) : fy_M g X_Y l yX9_setInitial cX9_setInitial 2 (some .int) (fy_rm 7) [.ref (g.2.2.1 0), .int v1] S (fy_QI g X_Y rr Sr) :=
  fy_entry (by decide +kernel) (Nat.le_of_ble_eq_true rfl) (fun p e s m args below meth c ls C w hl => t_X9_setInitial C hst  h w hl)
def X9_setTransition (S : fy_S) (v1 : Int32) (v2 : Int32) (v3 : Int32) : Option (fy_S × Int32) :=
  if v2 = (-1 : Int32) then (
    fy_bl (fy_sI S 3 4 (0 : Int32)) fun S10 =>
    some (S10, (-2 : Int32)))
  else (
    fy_bp (X9_readFormula S v1 v2 v3) fun S20 r20 =>
    some (S20, r20))
set_option maxHeartbeats 4000000 in
set_option maxRecDepth 100000 in
theorem t_X9_setTransition {p : Program} {l : Launch} {e : Env} {s : State} {m : MethodId} {args : Array Value} {below : List Frame} {meth : Method} {c : Code} {g : fy_G} (C : fy_C g X_Y p s m args meth c yX9_setTransition.cls cX9_setTransition 4 (some .int)) {tt : Nat} (hst : g.2.2.2 = some tt) {S : fy_S} {v1 : Int32} {v2 : Int32} {v3 : Int32} {Sr : fy_S} {rr : Int32}  {H : Heap} {locs : List Loc} {ls : Array Slot} (h : X9_setTransition S v1 v2 v3 = some (Sr, rr)) (w : fy_W g X_Y S s H locs) (hl : lv_has ls 4 [(0, .ref (g.2.2.1 0)), (1, .int v1), (2, .int v2), (3, .int v3)]) : W p l e (fy_rm 7) s m args below meth c H locs 0 0 (MQ below (fy_QI g X_Y rr Sr) args s 0 0 (fy_A g X_Y)) (F0 m 0 ls []) := by
  obtain ⟨hx, hb, hr, hts, hown, hlk, hml, hK, hD, hE, hN⟩ := id C
  rw [X9_setTransition] at h
  refine lv_iload_n hx hb dX9_setTransition_0 rfl (lv_at hl 2 rfl) ?_
  refine lv_iconst (v := (-1 : Int32)) hx hb dX9_setTransition_1 (by decide) ?_
  refine lv_icmp_ne (tgt := 16) hx hb dX9_setTransition_2 (by decide) (fun hc => ?_) (fun hc => ?_)
  · have h := fy_if_f h hc
    refine lv_aload_n hx hb dX9_setTransition_16 rfl (lv_at hl 0 rfl) ?_
    refine lv_iload_n hx hb dX9_setTransition_17 rfl (lv_at hl 1 rfl) ?_
    refine lv_iload_n hx hb dX9_setTransition_18 rfl (lv_at hl 2 rfl) ?_
    refine lv_iload_n hx hb dX9_setTransition_19 rfl (lv_at hl 3 rfl) ?_
    obtain ⟨S20, r20, h20, h⟩ := fy_bp_some h
    refine fy_calI w (fy_runV (As := [.int v1, .int v2, .int v3]) (rest := []) C w (c_X9_readFormula l g hst  h20) (X_o9 X_full (X_i0)) ksX9_124 rfl ⟨Nat.le_of_ble_eq_true rfl, Nat.le_of_ble_eq_true rfl⟩ rfl hl.1 rfl (Nat.le_of_ble_eq_true rfl) ⟨Nat.le_refl _, Nat.le_refl _⟩ dX9_setTransition_20) (fun H locs w => ?_)
    cases h
    exact fy_retI C w dX9_setTransition_23
  · have h := fy_if_t h hc
    refine lv_aload_n hx hb dX9_setTransition_5 rfl (lv_at hl 0 rfl) ?_
    refine gfX9_26 X_full C w (X_i0) dX9_setTransition_6 ?_
    refine lv_iconst (v := (0 : Int32)) hx hb dX9_setTransition_9 (by decide) ?_
    refine pfX9_117 X_full C w X_i3 dX9_setTransition_10 (fun H locs w => ?_)
    obtain ⟨S10, e10⟩ : ∃ z, z = fy_sI S 3 4 (0 : Int32) := ⟨_, rfl⟩
    have h := fy_bl_some e10 h
    rw [← e10] at w
    refine lv_bipush (v := (-2 : Int32)) hx hb dX9_setTransition_13 (by decide) ?_
    cases h
    exact fy_retI C w dX9_setTransition_15

set_option maxHeartbeats 4000000 in
set_option maxRecDepth 100000 in
theorem c_X9_setTransition (l : Launch) (g : fy_G) {tt : Nat} (hst : g.2.2.2 = some tt) {S : fy_S} {v1 : Int32} {v2 : Int32} {v3 : Int32} {Sr : fy_S} {rr : Int32}  (h : X9_setTransition S v1 v2 v3 = some (Sr, rr)) : fy_M g X_Y l yX9_setTransition cX9_setTransition 4 (some .int) (fy_rm 7) [.ref (g.2.2.1 0), .int v1, .int v2, .int v3] S (fy_QI g X_Y rr Sr) :=
  fy_entry (by decide +kernel) (Nat.le_of_ble_eq_true rfl) (fun p e s m args below meth c ls C w hl => t_X9_setTransition C hst  h w hl)
end
