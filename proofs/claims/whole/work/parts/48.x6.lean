noncomputable section
def X0_tableOfAll_7 (S : fy_S) : Nat → Nat → Int32 → Int32 → Int64 → Int32 → Option (Int64)
  | 0, _, _, _, _, _ => none
  | fu + 1, v0, v1, v2, v3, v5 =>
    if (S.1 v0 3) ≤ v5 then (
      some v3)
    else (
      if ((v1 >>> (v5 &&& 31)) &&& (1 : Int32)) = 0 then (
        fy_bl (v5 + (1 : Int32)) fun x38 =>
        X0_tableOfAll_7 S fu v0 v1 v2 v3 x38)
      else (
        fy_bd (X0_move S v0 v5 v2) fun r30 =>
        match r30 with
        | none => (
          none)
        | some r30_ => (
          fy_bl (v3 &&& (S.2 r30_ 2)) fun x37 =>
          fy_bl (v5 + (1 : Int32)) fun x38 =>
          X0_tableOfAll_7 S fu v0 v1 v2 x37 x38)))
def X0_tableOfAll (S : fy_S) (v0 : Nat) (v1 : Int32) (v2 : Int32) : Option (Int64) :=
  X0_tableOfAll_7 S fy_fu v0 v1 v2 (-1 : Int64) (0 : Int32)
set_option maxHeartbeats 4000000 in
set_option maxRecDepth 100000 in
theorem t_X0_tableOfAll_7 {p : Program} {l : Launch} {e : Env} {s : State} {m : MethodId} {args : Array Value} {below : List Frame} {meth : Method} {c : Code} {g : fy_G} {y : fy_Y} (C : fy_C g y p s m args meth c yX0_tableOfAll.cls cX0_tableOfAll 6 (some .long)) (hcl : X_clo y) {S : fy_S} {rr : Int64} : ∀ (fu : Nat) (v0 : Nat) (v1 : Int32) (v2 : Int32) (v3 : Int64) (v5 : Int32) (H : Heap) (locs : List Loc) (ls : Array Slot), X0_tableOfAll_7 S fu v0 v1 v2 v3 v5 = some rr → fy_W g y S s H locs → X_is y 0 v0 → lv_has ls 6 [(0, .ref (g.2.2.1 v0)), (1, .int v1), (2, .int v2), (3, .long v3), (5, .int v5)] → W p l e (fy_rm 2) s m args below meth c H locs 0 0 (MQ below (fy_QL g y rr S) args s 0 0 (fy_A g y)) (F0 m 7 ls []) := by
  obtain ⟨hx, hb, hr, hts, hown, hlk, hml, hK, hD, hE, hN⟩ := id C
  intro fu
  induction fu with
  | zero => intro v0 v1 v2 v3 v5 H locs ls h; cases h
  | succ fu ih =>
    intro v0 v1 v2 v3 v5 H locs ls h w q0 hl
    rw [X0_tableOfAll_7] at h
    refine lv_iload hx hb dX0_tableOfAll_7 (lv_at hl 4 rfl) ?_
    refine lv_aload_n hx hb dX0_tableOfAll_9 rfl (lv_at hl 0 rfl) ?_
    refine gfX0_30 hcl C w q0 dX0_tableOfAll_10 ?_
    refine lv_icmp_ge (tgt := 44) hx hb dX0_tableOfAll_13 (by decide) (fun hc => ?_) (fun hc => ?_)
    · have h := fy_if_t h hc
      refine lv_lload_n hx hb dX0_tableOfAll_44 rfl (lv_at hl 3 rfl) ?_
      cases h
      exact fy_retL C w dX0_tableOfAll_45
    · have h := fy_if_f h hc
      refine lv_iload_n hx hb dX0_tableOfAll_16 rfl (lv_at hl 1 rfl) ?_
      refine lv_iload hx hb dX0_tableOfAll_17 (lv_at hl 4 rfl) ?_
      refine lv_ishr hx hb dX0_tableOfAll_19 ?_
      refine lv_iconst (v := (1 : Int32)) hx hb dX0_tableOfAll_20 (by decide) ?_
      refine lv_iand hx hb dX0_tableOfAll_21 ?_
      refine lv_if_eq (tgt := 38) hx hb dX0_tableOfAll_22 (by decide) (fun hc => ?_) (fun hc => ?_)
      · have h := fy_if_t h hc
        obtain ⟨x38, e38⟩ : ∃ z : Int32, z = v5 + (1 : Int32) := ⟨_, rfl⟩
        have h := fy_bl_some e38 h
        refine lv_iinc (k := 4) (v := x38) (lv' := [(5, .int x38), (0, .ref (g.2.2.1 v0)), (1, .int v1), (2, .int v2), (3, .long v3)]) hx hb dX0_tableOfAll_38 hl rfl (by rw [e38]; rfl) (by decide) rfl (fun ls hl => ?_)
        refine lv_goto (tgt := 7) hx hb dX0_tableOfAll_41 (by decide) ?_
        exact ih _ _ _ _ _ _ _ _ h w q0 (lv_sub hl [1, 2, 3, 4, 0] rfl)
      · have h := fy_if_f h hc
        refine lv_lload_n hx hb dX0_tableOfAll_25 rfl (lv_at hl 3 rfl) ?_
        refine lv_aload_n hx hb dX0_tableOfAll_26 rfl (lv_at hl 0 rfl) ?_
        refine lv_iload hx hb dX0_tableOfAll_27 (lv_at hl 4 rfl) ?_
        refine lv_iload_n hx hb dX0_tableOfAll_29 rfl (lv_at hl 2 rfl) ?_
        obtain ⟨r30, h30, h⟩ := fy_bd_some h
        refine fy_calE w (fy_runV (As := [.int v5, .int v2]) (rest := [.long v3]) C w (c_X0_move l g hcl q0 h30) (X_o0 hcl q0) ksX0_56 rfl ⟨Nat.le_of_ble_eq_true rfl, Nat.le_of_ble_eq_true rfl⟩ rfl hl.1 rfl (Nat.le_of_ble_eq_true rfl) ⟨Nat.le_refl _, Nat.le_refl _⟩ dX0_tableOfAll_30) (fun H locs w => ?_)
        cases r30 with
        | none =>
          dsimp only at h
          cases h
        | some r30_ =>
          dsimp only at h
          refine gfX0_100 hcl C w (cls_X0_move hcl q0 h30) dX0_tableOfAll_33 ?_
          refine lv_land hx hb dX0_tableOfAll_36 ?_
          refine lv_topl (fun x37 e37 => ?_)
          have h := fy_bl_some e37 h
          refine lv_lstore_n (lv' := [(3, .long x37), (0, .ref (g.2.2.1 v0)), (1, .int v1), (2, .int v2), (5, .int v5)]) hx hb dX0_tableOfAll_37 rfl hl (by decide) rfl (fun ls hl => ?_)
          obtain ⟨x38, e38⟩ : ∃ z : Int32, z = v5 + (1 : Int32) := ⟨_, rfl⟩
          have h := fy_bl_some e38 h
          refine lv_iinc (k := 4) (v := x38) (lv' := [(5, .int x38), (3, .long x37), (0, .ref (g.2.2.1 v0)), (1, .int v1), (2, .int v2)]) hx hb dX0_tableOfAll_38 hl rfl (by rw [e38]; rfl) (by decide) rfl (fun ls hl => ?_)
          refine lv_goto (tgt := 7) hx hb dX0_tableOfAll_41 (by decide) ?_
          exact ih _ _ _ _ _ _ _ _ h w q0 (lv_sub hl [2, 3, 4, 1, 0] rfl)

set_option maxHeartbeats 4000000 in
set_option maxRecDepth 100000 in
theorem t_X0_tableOfAll {p : Program} {l : Launch} {e : Env} {s : State} {m : MethodId} {args : Array Value} {below : List Frame} {meth : Method} {c : Code} {g : fy_G} {y : fy_Y} (C : fy_C g y p s m args meth c yX0_tableOfAll.cls cX0_tableOfAll 6 (some .long)) (hcl : X_clo y) {S : fy_S} {v0 : Nat} {v1 : Int32} {v2 : Int32} {rr : Int64} (q0 : X_is y 0 v0) {H : Heap} {locs : List Loc} {ls : Array Slot} (h : X0_tableOfAll S v0 v1 v2 = some rr) (w : fy_W g y S s H locs) (hl : lv_has ls 6 [(0, .ref (g.2.2.1 v0)), (1, .int v1), (2, .int v2)]) : W p l e (fy_rm 2) s m args below meth c H locs 0 0 (MQ below (fy_QL g y rr S) args s 0 0 (fy_A g y)) (F0 m 0 ls []) := by
  obtain ⟨hx, hb, hr, hts, hown, hlk, hml, hK, hD, hE, hN⟩ := id C
  rw [X0_tableOfAll] at h
  refine lv_ldc2 (v := (-1 : Int64)) hx hb hown (hts _ tw584) dX0_tableOfAll_0 ?_
  refine lv_lstore_n (lv' := [(3, .long (-1 : Int64)), (0, .ref (g.2.2.1 v0)), (1, .int v1), (2, .int v2)]) hx hb dX0_tableOfAll_3 rfl hl (by decide) rfl (fun ls hl => ?_)
  refine lv_iconst (v := (0 : Int32)) hx hb dX0_tableOfAll_4 (by decide) ?_
  refine lv_istore (lv' := [(5, .int (0 : Int32)), (3, .long (-1 : Int64)), (0, .ref (g.2.2.1 v0)), (1, .int v1), (2, .int v2)]) hx hb dX0_tableOfAll_5 hl (by decide) rfl (fun ls hl => ?_)
  exact t_X0_tableOfAll_7 C hcl fy_fu _ _ _ _ _ _ _ _ h w q0 (lv_sub hl [2, 3, 4, 1, 0] rfl)

set_option maxHeartbeats 4000000 in
set_option maxRecDepth 100000 in
theorem c_X0_tableOfAll (l : Launch) (g : fy_G) {y : fy_Y} (hcl : X_clo y) {S : fy_S} {v0 : Nat} {v1 : Int32} {v2 : Int32} {rr : Int64} (q0 : X_is y 0 v0) (h : X0_tableOfAll S v0 v1 v2 = some rr) : fy_M g y l yX0_tableOfAll cX0_tableOfAll 6 (some .long) (fy_rm 2) [.ref (g.2.2.1 v0), .int v1, .int v2] S (fy_QL g y rr S) :=
  fy_entry (by decide +kernel) (Nat.le_of_ble_eq_true rfl) (fun p e s m args below meth c ls C w hl => t_X0_tableOfAll C hcl q0 h w hl)
def X0_existentialNext_6 (S : fy_S) : Nat → Nat → Int64 → Int32 → Int64 → Int32 → Option (Int64)
  | 0, _, _, _, _, _ => none
  | fu + 1, v0, v1, v3, v4, v6 =>
    if (64 : Int32) ≤ v6 then (
      some v4)
    else (
      fy_bd (X9_isIn S v1 v6) fun r16 =>
      if r16 = 0 then (
        fy_bl (v6 + (1 : Int32)) fun x37 =>
        X0_existentialNext_6 S fu v0 v1 v3 v4 x37)
      else (
        fy_bd (X0_tableOfAll S v0 v6 v3) fun r28 =>
        fy_bd (X9_minimalSets S r28) fun r31 =>
        fy_bl (v4 ||| r31) fun x35 =>
        fy_bl (v6 + (1 : Int32)) fun x37 =>
        X0_existentialNext_6 S fu v0 v1 v3 x35 x37))
def X0_existentialNext (S : fy_S) (v0 : Nat) (v1 : Int64) (v3 : Int32) : Option (Int64) :=
  X0_existentialNext_6 S fy_fu v0 v1 v3 (0 : Int64) (0 : Int32)
set_option maxHeartbeats 4000000 in
set_option maxRecDepth 100000 in
theorem t_X0_existentialNext_6 {p : Program} {l : Launch} {e : Env} {s : State} {m : MethodId} {args : Array Value} {below : List Frame} {meth : Method} {c : Code} {g : fy_G} {y : fy_Y} (C : fy_C g y p s m args meth c yX0_existentialNext.cls cX0_existentialNext 7 (some .long)) {tt : Nat} (hst : g.2.2.2 = some tt) (hcl : X_clo y) {S : fy_S} {rr : Int64} : ∀ (fu : Nat) (v0 : Nat) (v1 : Int64) (v3 : Int32) (v4 : Int64) (v6 : Int32) (H : Heap) (locs : List Loc) (ls : Array Slot), X0_existentialNext_6 S fu v0 v1 v3 v4 v6 = some rr → fy_W g y S s H locs → X_is y 0 v0 → lv_has ls 7 [(0, .ref (g.2.2.1 v0)), (1, .long v1), (3, .int v3), (4, .long v4), (6, .int v6)] → W p l e (fy_rm 3) s m args below meth c H locs 0 0 (MQ below (fy_QL g y rr S) args s 0 0 (fy_A g y)) (F0 m 6 ls []) := by
  obtain ⟨hx, hb, hr, hts, hown, hlk, hml, hK, hD, hE, hN⟩ := id C
  intro fu
  induction fu with
  | zero => intro v0 v1 v3 v4 v6 H locs ls h; cases h
  | succ fu ih =>
    intro v0 v1 v3 v4 v6 H locs ls h w q0 hl
    rw [X0_existentialNext_6] at h
    refine lv_iload hx hb dX0_existentialNext_6 (lv_at hl 4 rfl) ?_
    refine lv_bipush (v := (64 : Int32)) hx hb dX0_existentialNext_8 (by decide) ?_
    refine lv_icmp_ge (tgt := 43) hx hb dX0_existentialNext_10 (by decide) (fun hc => ?_) (fun hc => ?_)
    · have h := fy_if_t h hc
      refine lv_lload hx hb dX0_existentialNext_43 (lv_at hl 3 rfl) ?_
      cases h
      exact fy_retL C w dX0_existentialNext_45
    · have h := fy_if_f h hc
      refine lv_lload_n hx hb dX0_existentialNext_13 rfl (lv_at hl 1 rfl) ?_
      refine lv_iload hx hb dX0_existentialNext_14 (lv_at hl 4 rfl) ?_
      obtain ⟨r16, h16, h⟩ := fy_bd_some h
      refine fy_calI w (fy_runN (As := [.long v1, .int v6]) (rest := []) C w (c_X9_isIn l g hcl  h16) ksX0_114 ⟨Nat.le_of_ble_eq_true rfl, Nat.le_of_ble_eq_true rfl⟩ rfl hl.1 rfl (Nat.le_of_ble_eq_true rfl) ⟨Nat.le_refl _, Nat.le_refl _⟩ dX0_existentialNext_16) (fun H locs w => ?_)
      refine lv_if_eq (tgt := 37) hx hb dX0_existentialNext_19 (by decide) (fun hc => ?_) (fun hc => ?_)
      · have h := fy_if_t h hc
        obtain ⟨x37, e37⟩ : ∃ z : Int32, z = v6 + (1 : Int32) := ⟨_, rfl⟩
        have h := fy_bl_some e37 h
        refine lv_iinc (k := 4) (v := x37) (lv' := [(6, .int x37), (0, .ref (g.2.2.1 v0)), (1, .long v1), (3, .int v3), (4, .long v4)]) hx hb dX0_existentialNext_37 hl rfl (by rw [e37]; rfl) (by decide) rfl (fun ls hl => ?_)
        refine lv_goto (tgt := 6) hx hb dX0_existentialNext_40 (by decide) ?_
        exact ih _ _ _ _ _ _ _ _ h w q0 (lv_sub hl [1, 2, 3, 4, 0] rfl)
      · have h := fy_if_f h hc
        refine lv_lload hx hb dX0_existentialNext_22 (lv_at hl 3 rfl) ?_
        refine lv_aload_n hx hb dX0_existentialNext_24 rfl (lv_at hl 0 rfl) ?_
        refine lv_iload hx hb dX0_existentialNext_25 (lv_at hl 4 rfl) ?_
        refine lv_iload_n hx hb dX0_existentialNext_27 rfl (lv_at hl 2 rfl) ?_
        obtain ⟨r28, h28, h⟩ := fy_bd_some h
        refine fy_calL w (fy_runV (As := [.int v6, .int v3]) (rest := [.long v4]) C w (c_X0_tableOfAll l g hcl q0 h28) (X_o0 hcl q0) ksX0_118 rfl ⟨Nat.le_of_ble_eq_true rfl, Nat.le_of_ble_eq_true rfl⟩ rfl hl.1 rfl (Nat.le_of_ble_eq_true rfl) ⟨Nat.le_refl _, Nat.le_refl _⟩ dX0_existentialNext_28) (fun H locs w => ?_)
        obtain ⟨r31, h31, h⟩ := fy_bd_some h
        refine fy_calL w (fy_runN (As := [.long r28]) (rest := [.long v4]) C w (c_X9_minimalSets l g hst hcl  h31) ksX0_104 ⟨Nat.le_of_ble_eq_true rfl, Nat.le_of_ble_eq_true rfl⟩ rfl hl.1 rfl (Nat.le_of_ble_eq_true rfl) ⟨Nat.le_refl _, Nat.le_refl _⟩ dX0_existentialNext_31) (fun H locs w => ?_)
        refine lv_lor hx hb dX0_existentialNext_34 ?_
        refine lv_topl (fun x35 e35 => ?_)
        have h := fy_bl_some e35 h
        refine lv_lstore (lv' := [(4, .long x35), (0, .ref (g.2.2.1 v0)), (1, .long v1), (3, .int v3), (6, .int v6)]) hx hb dX0_existentialNext_35 hl (by decide) rfl (fun ls hl => ?_)
        obtain ⟨x37, e37⟩ : ∃ z : Int32, z = v6 + (1 : Int32) := ⟨_, rfl⟩
        have h := fy_bl_some e37 h
        refine lv_iinc (k := 4) (v := x37) (lv' := [(6, .int x37), (4, .long x35), (0, .ref (g.2.2.1 v0)), (1, .long v1), (3, .int v3)]) hx hb dX0_existentialNext_37 hl rfl (by rw [e37]; rfl) (by decide) rfl (fun ls hl => ?_)
        refine lv_goto (tgt := 6) hx hb dX0_existentialNext_40 (by decide) ?_
        exact ih _ _ _ _ _ _ _ _ h w q0 (lv_sub hl [2, 3, 4, 1, 0] rfl)

set_option maxHeartbeats 4000000 in
set_option maxRecDepth 100000 in
theorem t_X0_existentialNext {p : Program} {l : Launch} {e : Env} {s : State} {m : MethodId} {args : Array Value} {below : List Frame} {meth : Method} {c : Code} {g : fy_G} {y : fy_Y} (C : fy_C g y p s m args meth c yX0_existentialNext.cls cX0_existentialNext 7 (some .long)) {tt : Nat} (hst : g.2.2.2 = some tt) (hcl : X_clo y) {S : fy_S} {v0 : Nat} {v1 : Int64} {v3 : Int32} {rr : Int64} (q0 : X_is y 0 v0) {H : Heap} {locs : List Loc} {ls : Array Slot} (h : X0_existentialNext S v0 v1 v3 = some rr) (w : fy_W g y S s H locs) (hl : lv_has ls 7 [(0, .ref (g.2.2.1 v0)), (1, .long v1), (3, .int v3)]) : W p l e (fy_rm 3) s m args below meth c H locs 0 0 (MQ below (fy_QL g y rr S) args s 0 0 (fy_A g y)) (F0 m 0 ls []) := by
  obtain ⟨hx, hb, hr, hts, hown, hlk, hml, hK, hD, hE, hN⟩ := id C
  rw [X0_existentialNext] at h
  refine lv_lconst (v := (0 : Int64)) hx hb dX0_existentialNext_0 (by decide) ?_
  refine lv_lstore (lv' := [(4, .long (0 : Int64)), (0, .ref (g.2.2.1 v0)), (1, .long v1), (3, .int v3)]) hx hb dX0_existentialNext_1 hl (by decide) rfl (fun ls hl => ?_)
  refine lv_iconst (v := (0 : Int32)) hx hb dX0_existentialNext_3 (by decide) ?_
  refine lv_istore (lv' := [(6, .int (0 : Int32)), (4, .long (0 : Int64)), (0, .ref (g.2.2.1 v0)), (1, .long v1), (3, .int v3)]) hx hb dX0_existentialNext_4 hl (by decide) rfl (fun ls hl => ?_)
  exact t_X0_existentialNext_6 C hst hcl fy_fu _ _ _ _ _ _ _ _ h w q0 (lv_sub hl [2, 3, 4, 1, 0] rfl)

set_option maxHeartbeats 4000000 in
set_option maxRecDepth 100000 in
theorem c_X0_existentialNext (l : Launch) (g : fy_G) {tt : Nat} (hst : g.2.2.2 = some tt) {y : fy_Y} (hcl : X_clo y) {S : fy_S} {v0 : Nat} {v1 : Int64} {v3 : Int32} {rr : Int64} (q0 : X_is y 0 v0) (h : X0_existentialNext S v0 v1 v3 = some rr) : fy_M g y l yX0_existentialNext cX0_existentialNext 7 (some .long) (fy_rm 3) [.ref (g.2.2.1 v0), .long v1, .int v3] S (fy_QL g y rr S) :=
  fy_entry (by decide +kernel) (Nat.le_of_ble_eq_true rfl) (fun p e s m args below meth c ls C w hl => t_X0_existentialNext C hst hcl q0 h w hl)
def X0_existentialReach_39 (S : fy_S) (k16 : Nat → Int64 → Int64 → Int32 → Option (Int64)) : Nat → Nat → Int64 → Int64 → Int32 → Int64 → Int32 → Option (Int64)
  | 0, _, _, _, _, _, _ => none
  | fu + 1, v0, v1, v3, v5, v6, v8 =>
    if (S.1 v0 4) ≤ v8 then (
      fy_bl (v6 &&& (v1 ^^^ (-1 : Int64))) fun x74 =>
      fy_bl (v5 + (1 : Int32)) fun x75 =>
      k16 v0 v1 x74 x75)
    else (
      fy_bd (X0_existentialNext S v0 v3 v8) fun r54 =>
      fy_bl (v6 ||| r54) fun x58 =>
      fy_bl (v8 + (1 : Int32)) fun x60 =>
      X0_existentialReach_39 S k16 fu v0 v1 v3 v5 x58 x60)
def X0_existentialReach_16 (S : fy_S) : Nat → Nat → Int64 → Int64 → Int32 → Option (Int64)
  | 0, _, _, _, _ => none
  | fu + 1, v0, v1, v3, v5 =>
    if (64 : Int32) < v5 then (
      some v1)
    else (
      if (lg_cmp v3 (0 : Int64)) = 0 then (
        some v1)
      else (
        fy_bl (v1 ||| v3) fun x32 =>
        X0_existentialReach_39 S (fun v0 v1 v3 v5 => X0_existentialReach_16 S fu v0 v1 v3 v5) fy_fu v0 x32 v3 v5 (0 : Int64) (0 : Int32)))
def X0_existentialReach (S : fy_S) (v0 : Nat) : Option (Int64) :=
  fy_bd (X9_minimalSets S (S.2 (v0 + 3) 2)) fun r9 =>
  X0_existentialReach_16 S fy_fu v0 (0 : Int64) r9 (0 : Int32)
set_option maxHeartbeats 4000000 in
set_option maxRecDepth 100000 in
theorem t_X0_existentialReach_39 {p : Program} {l : Launch} {e : Env} {s : State} {m : MethodId} {args : Array Value} {below : List Frame} {meth : Method} {c : Code} {g : fy_G} {y : fy_Y} (C : fy_C g y p s m args meth c yX0_existentialReach.cls cX0_existentialReach 9 (some .long)) {tt : Nat} (hst : g.2.2.2 = some tt) (hcl : X_clo y) {S : fy_S} {rr : Int64} {k16 : Nat → Int64 → Int64 → Int32 → Option (Int64)} (hk16 : ∀ (v0 : Nat) (v1 : Int64) (v3 : Int64) (v5 : Int32) (H : Heap) (locs : List Loc) (ls : Array Slot), k16 v0 v1 v3 v5 = some rr → fy_W g y S s H locs → X_is y 0 v0 → lv_has ls 9 [(0, .ref (g.2.2.1 v0)), (1, .long v1), (3, .long v3), (5, .int v5)] → W p l e (fy_rm 4) s m args below meth c H locs 0 0 (MQ below (fy_QL g y rr S) args s 0 0 (fy_A g y)) (F0 m 16 ls [])) : ∀ (fu : Nat) (v0 : Nat) (v1 : Int64) (v3 : Int64) (v5 : Int32) (v6 : Int64) (v8 : Int32) (H : Heap) (locs : List Loc) (ls : Array Slot), X0_existentialReach_39 S k16 fu v0 v1 v3 v5 v6 v8 = some rr → fy_W g y S s H locs → X_is y 0 v0 → lv_has ls 9 [(0, .ref (g.2.2.1 v0)), (1, .long v1), (3, .long v3), (5, .int v5), (6, .long v6), (8, .int v8)] → W p l e (fy_rm 4) s m args below meth c H locs 0 0 (MQ below (fy_QL g y rr S) args s 0 0 (fy_A g y)) (F0 m 39 ls []) := by
  obtain ⟨hx, hb, hr, hts, hown, hlk, hml, hK, hD, hE, hN⟩ := id C
  intro fu
  induction fu with
  | zero => intro v0 v1 v3 v5 v6 v8 H locs ls h; cases h
  | succ fu ih =>
    intro v0 v1 v3 v5 v6 v8 H locs ls h w q0 hl
    rw [X0_existentialReach_39] at h
    refine lv_iload hx hb dX0_existentialReach_39 (lv_at hl 5 rfl) ?_
    refine lv_aload_n hx hb dX0_existentialReach_41 rfl (lv_at hl 0 rfl) ?_
    refine gfX0_34 hcl C w q0 dX0_existentialReach_42 ?_
    refine lv_icmp_ge (tgt := 66) hx hb dX0_existentialReach_45 (by decide) (fun hc => ?_) (fun hc => ?_)
    · have h := fy_if_t h hc
      refine lv_lload hx hb dX0_existentialReach_66 (lv_at hl 4 rfl) ?_
      refine lv_lload_n hx hb dX0_existentialReach_68 rfl (lv_at hl 1 rfl) ?_
      refine lv_ldc2 (v := (-1 : Int64)) hx hb hown (hts _ tw584) dX0_existentialReach_69 ?_
      refine lv_lxor hx hb dX0_existentialReach_72 ?_
      refine lv_land hx hb dX0_existentialReach_73 ?_
      refine lv_topl (fun x74 e74 => ?_)
      have h := fy_bl_some e74 h
      refine lv_lstore_n (lv' := [(3, .long x74), (0, .ref (g.2.2.1 v0)), (1, .long v1), (5, .int v5), (6, .long v6), (8, .int v8)]) hx hb dX0_existentialReach_74 rfl hl (by decide) rfl (fun ls hl => ?_)
      obtain ⟨x75, e75⟩ : ∃ z : Int32, z = v5 + (1 : Int32) := ⟨_, rfl⟩
      have h := fy_bl_some e75 h
      refine lv_iinc (k := 3) (v := x75) (lv' := [(5, .int x75), (3, .long x74), (0, .ref (g.2.2.1 v0)), (1, .long v1), (6, .long v6), (8, .int v8)]) hx hb dX0_existentialReach_75 hl rfl (by rw [e75]; rfl) (by decide) rfl (fun ls hl => ?_)
      refine lv_goto (tgt := 16) hx hb dX0_existentialReach_78 (by decide) ?_
      exact hk16 _ _ _ _ _ _ _ h w q0 (lv_sub hl [2, 3, 1, 0] rfl)
    · have h := fy_if_f h hc
      refine lv_lload hx hb dX0_existentialReach_48 (lv_at hl 4 rfl) ?_
      refine lv_aload_n hx hb dX0_existentialReach_50 rfl (lv_at hl 0 rfl) ?_
      refine lv_lload_n hx hb dX0_existentialReach_51 rfl (lv_at hl 2 rfl) ?_
      refine lv_iload hx hb dX0_existentialReach_52 (lv_at hl 5 rfl) ?_
      obtain ⟨r54, h54, h⟩ := fy_bd_some h
      refine fy_calL w (fy_runV (As := [.long v3, .int v8]) (rest := [.long v6]) C w (c_X0_existentialNext l g hst hcl q0 h54) (X_o0 hcl q0) ksX0_108 rfl ⟨Nat.le_of_ble_eq_true rfl, Nat.le_of_ble_eq_true rfl⟩ rfl hl.1 rfl (Nat.le_of_ble_eq_true rfl) ⟨Nat.le_refl _, Nat.le_refl _⟩ dX0_existentialReach_54) (fun H locs w => ?_)
      refine lv_lor hx hb dX0_existentialReach_57 ?_
      refine lv_topl (fun x58 e58 => ?_)
      have h := fy_bl_some e58 h
      refine lv_lstore (lv' := [(6, .long x58), (0, .ref (g.2.2.1 v0)), (1, .long v1), (3, .long v3), (5, .int v5), (8, .int v8)]) hx hb dX0_existentialReach_58 hl (by decide) rfl (fun ls hl => ?_)
      obtain ⟨x60, e60⟩ : ∃ z : Int32, z = v8 + (1 : Int32) := ⟨_, rfl⟩
      have h := fy_bl_some e60 h
      refine lv_iinc (k := 5) (v := x60) (lv' := [(8, .int x60), (6, .long x58), (0, .ref (g.2.2.1 v0)), (1, .long v1), (3, .long v3), (5, .int v5)]) hx hb dX0_existentialReach_60 hl rfl (by rw [e60]; rfl) (by decide) rfl (fun ls hl => ?_)
      refine lv_goto (tgt := 39) hx hb dX0_existentialReach_63 (by decide) ?_
      exact ih _ _ _ _ _ _ _ _ _ h w q0 (lv_sub hl [2, 3, 4, 5, 1, 0] rfl)

set_option maxHeartbeats 4000000 in
set_option maxRecDepth 100000 in
theorem t_X0_existentialReach_16 {p : Program} {l : Launch} {e : Env} {s : State} {m : MethodId} {args : Array Value} {below : List Frame} {meth : Method} {c : Code} {g : fy_G} {y : fy_Y} (C : fy_C g y p s m args meth c yX0_existentialReach.cls cX0_existentialReach 9 (some .long)) {tt : Nat} (hst : g.2.2.2 = some tt) (hcl : X_clo y) {S : fy_S} {rr : Int64} : ∀ (fu : Nat) (v0 : Nat) (v1 : Int64) (v3 : Int64) (v5 : Int32) (H : Heap) (locs : List Loc) (ls : Array Slot), X0_existentialReach_16 S fu v0 v1 v3 v5 = some rr → fy_W g y S s H locs → X_is y 0 v0 → lv_has ls 9 [(0, .ref (g.2.2.1 v0)), (1, .long v1), (3, .long v3), (5, .int v5)] → W p l e (fy_rm 4) s m args below meth c H locs 0 0 (MQ below (fy_QL g y rr S) args s 0 0 (fy_A g y)) (F0 m 16 ls []) := by
  obtain ⟨hx, hb, hr, hts, hown, hlk, hml, hK, hD, hE, hN⟩ := id C
  intro fu
  induction fu with
  | zero => intro v0 v1 v3 v5 H locs ls h; cases h
  | succ fu ih =>
    intro v0 v1 v3 v5 H locs ls h w q0 hl
    rw [X0_existentialReach_16] at h
    refine lv_iload hx hb dX0_existentialReach_16 (lv_at hl 3 rfl) ?_
    refine lv_bipush (v := (64 : Int32)) hx hb dX0_existentialReach_18 (by decide) ?_
    refine lv_icmp_gt (tgt := 81) hx hb dX0_existentialReach_20 (by decide) (fun hc => ?_) (fun hc => ?_)
    · have h := fy_if_t h hc
      refine lv_lload_n hx hb dX0_existentialReach_81 rfl (lv_at hl 1 rfl) ?_
      cases h
      exact fy_retL C w dX0_existentialReach_82
    · have h := fy_if_f h hc
      refine lv_lload_n hx hb dX0_existentialReach_23 rfl (lv_at hl 2 rfl) ?_
      refine lv_lconst (v := (0 : Int64)) hx hb dX0_existentialReach_24 (by decide) ?_
      refine W.lcmp hx hb dX0_existentialReach_25 ?_
      refine lv_if_eq (tgt := 81) hx hb dX0_existentialReach_26 (by decide) (fun hc => ?_) (fun hc => ?_)
      · have h := fy_if_t h hc
        refine lv_lload_n hx hb dX0_existentialReach_81 rfl (lv_at hl 1 rfl) ?_
        cases h
        exact fy_retL C w dX0_existentialReach_82
      · have h := fy_if_f h hc
        refine lv_lload_n hx hb dX0_existentialReach_29 rfl (lv_at hl 1 rfl) ?_
        refine lv_lload_n hx hb dX0_existentialReach_30 rfl (lv_at hl 2 rfl) ?_
        refine lv_lor hx hb dX0_existentialReach_31 ?_
        refine lv_topl (fun x32 e32 => ?_)
        have h := fy_bl_some e32 h
        refine lv_lstore_n (lv' := [(1, .long x32), (0, .ref (g.2.2.1 v0)), (3, .long v3), (5, .int v5)]) hx hb dX0_existentialReach_32 rfl hl (by decide) rfl (fun ls hl => ?_)
        refine lv_lconst (v := (0 : Int64)) hx hb dX0_existentialReach_33 (by decide) ?_
        refine lv_lstore (lv' := [(6, .long (0 : Int64)), (1, .long x32), (0, .ref (g.2.2.1 v0)), (3, .long v3), (5, .int v5)]) hx hb dX0_existentialReach_34 hl (by decide) rfl (fun ls hl => ?_)
        refine lv_iconst (v := (0 : Int32)) hx hb dX0_existentialReach_36 (by decide) ?_
        refine lv_istore (lv' := [(8, .int (0 : Int32)), (6, .long (0 : Int64)), (1, .long x32), (0, .ref (g.2.2.1 v0)), (3, .long v3), (5, .int v5)]) hx hb dX0_existentialReach_37 hl (by decide) rfl (fun ls hl => ?_)
        exact t_X0_existentialReach_39 C hst hcl ih fy_fu _ _ _ _ _ _ _ _ _ h w q0 (lv_sub hl [3, 2, 4, 5, 1, 0] rfl)

set_option maxHeartbeats 4000000 in
set_option maxRecDepth 100000 in
theorem t_X0_existentialReach {p : Program} {l : Launch} {e : Env} {s : State} {m : MethodId} {args : Array Value} {below : List Frame} {meth : Method} {c : Code} {g : fy_G} {y : fy_Y} (C : fy_C g y p s m args meth c yX0_existentialReach.cls cX0_existentialReach 9 (some .long)) {tt : Nat} (hst : g.2.2.2 = some tt) (hcl : X_clo y) {S : fy_S} {v0 : Nat} {rr : Int64} (q0 : X_is y 0 v0) {H : Heap} {locs : List Loc} {ls : Array Slot} (h : X0_existentialReach S v0 = some rr) (w : fy_W g y S s H locs) (hl : lv_has ls 9 [(0, .ref (g.2.2.1 v0))]) : W p l e (fy_rm 4) s m args below meth c H locs 0 0 (MQ below (fy_QL g y rr S) args s 0 0 (fy_A g y)) (F0 m 0 ls []) := by
  obtain ⟨hx, hb, hr, hts, hown, hlk, hml, hK, hD, hE, hN⟩ := id C
  rw [X0_existentialReach] at h
  refine lv_lconst (v := (0 : Int64)) hx hb dX0_existentialReach_0 (by decide) ?_
  refine lv_lstore_n (lv' := [(1, .long (0 : Int64)), (0, .ref (g.2.2.1 v0))]) hx hb dX0_existentialReach_1 rfl hl (by decide) rfl (fun ls hl => ?_)
  refine lv_aload_n hx hb dX0_existentialReach_2 rfl (lv_at hl 1 rfl) ?_
  refine gfX0_18 hcl C w q0 dX0_existentialReach_3 ?_
  refine gfX0_100 hcl C w (X_f0_initial hcl q0) dX0_existentialReach_6 ?_
  obtain ⟨r9, h9, h⟩ := fy_bd_some h
  refine fy_calL w (fy_runN (As := [.long (S.2 (v0 + 3) 2)]) (rest := []) C w (c_X9_minimalSets l g hst hcl  h9) ksX0_104 ⟨Nat.le_of_ble_eq_true rfl, Nat.le_of_ble_eq_true rfl⟩ rfl hl.1 rfl (Nat.le_of_ble_eq_true rfl) ⟨Nat.le_refl _, Nat.le_refl _⟩ dX0_existentialReach_9) (fun H locs w => ?_)
  refine lv_lstore_n (lv' := [(3, .long r9), (1, .long (0 : Int64)), (0, .ref (g.2.2.1 v0))]) hx hb dX0_existentialReach_12 rfl hl (by decide) rfl (fun ls hl => ?_)
  refine lv_iconst (v := (0 : Int32)) hx hb dX0_existentialReach_13 (by decide) ?_
  refine lv_istore (lv' := [(5, .int (0 : Int32)), (3, .long r9), (1, .long (0 : Int64)), (0, .ref (g.2.2.1 v0))]) hx hb dX0_existentialReach_14 hl (by decide) rfl (fun ls hl => ?_)
  exact t_X0_existentialReach_16 C hst hcl fy_fu _ _ _ _ _ _ _ h w q0 (lv_sub hl [3, 2, 1, 0] rfl)

set_option maxHeartbeats 4000000 in
set_option maxRecDepth 100000 in
theorem c_X0_existentialReach (l : Launch) (g : fy_G) {tt : Nat} (hst : g.2.2.2 = some tt) {y : fy_Y} (hcl : X_clo y) {S : fy_S} {v0 : Nat} {rr : Int64} (q0 : X_is y 0 v0) (h : X0_existentialReach S v0 = some rr) : fy_M g y l yX0_existentialReach cX0_existentialReach 9 (some .long) (fy_rm 4) [.ref (g.2.2.1 v0)] S (fy_QL g y rr S) :=
  fy_entry (by decide +kernel) (Nat.le_of_ble_eq_true rfl) (fun p e s m args below meth c ls C w hl => t_X0_existentialReach C hst hcl q0 h w hl)
def X9_existentialStates (S : fy_S) (v1 : Int32) : Option (Int32) :=
  fy_bd (X9_automatonIn S v1) fun r2 =>
  match r2 with
  | none => (
    some (-2 : Int32))
  | some r2_ => (
    fy_bd (X0_existentialReach S r2_) fun r14 =>
    fy_bd (J13_bitCount_95d88 S r14) fun r17 =>
    some r17)
set_option maxHeartbeats 4000000 in
set_option maxRecDepth 100000 in
theorem t_X9_existentialStates {p : Program} {l : Launch} {e : Env} {s : State} {m : MethodId} {args : Array Value} {below : List Frame} {meth : Method} {c : Code} {g : fy_G} (C : fy_C g X_Y p s m args meth c yX9_existentialStates.cls cX9_existentialStates 3 (some .int)) {tt : Nat} (hst : g.2.2.2 = some tt) {S : fy_S} {v1 : Int32} {rr : Int32}  {H : Heap} {locs : List Loc} {ls : Array Slot} (h : X9_existentialStates S v1 = some rr) (w : fy_W g X_Y S s H locs) (hl : lv_has ls 3 [(0, .ref (g.2.2.1 0)), (1, .int v1)]) : W p l e (fy_rm 5) s m args below meth c H locs 0 0 (MQ below (fy_QI g X_Y rr S) args s 0 0 (fy_A g X_Y)) (F0 m 0 ls []) := by
  obtain ⟨hx, hb, hr, hts, hown, hlk, hml, hK, hD, hE, hN⟩ := id C
  rw [X9_existentialStates] at h
  refine lv_aload_n hx hb dX9_existentialStates_0 rfl (lv_at hl 0 rfl) ?_
  refine lv_iload_n hx hb dX9_existentialStates_1 rfl (lv_at hl 1 rfl) ?_
  obtain ⟨r2, h2, h⟩ := fy_bd_some h
  refine fy_calE w (fy_runV (As := [.int v1]) (rest := []) C w (c_X9_automatonIn l g  h2) (X_o9 X_full (X_i0)) ksX9_88 rfl ⟨Nat.le_of_ble_eq_true rfl, Nat.le_of_ble_eq_true rfl⟩ rfl hl.1 rfl (Nat.le_of_ble_eq_true rfl) ⟨Nat.le_refl _, Nat.le_refl _⟩ dX9_existentialStates_2) (fun H locs w => ?_)
  refine fy_astoreO_n (lv' := [(2, va_re g.2.2.1 r2), (0, .ref (g.2.2.1 0)), (1, .int v1)]) hx hb dX9_existentialStates_5 rfl hl (by decide) rfl (fun ls hl => ?_)
  cases r2 with
  | none =>
    dsimp only at h
    refine lv_aload_nN hx hb dX9_existentialStates_6 rfl (lv_at hl 0 rfl) ?_
    refine lv_ifnonnullN hx hb dX9_existentialStates_7 ?_
    refine lv_bipush (v := (-2 : Int32)) hx hb dX9_existentialStates_10 (by decide) ?_
    cases h
    exact fy_retI C w dX9_existentialStates_12
  | some r2_ =>
    dsimp only at h
    refine lv_aload_n hx hb dX9_existentialStates_6 rfl (lv_at hl 0 rfl) ?_
    refine lv_ifnonnull (tgt := 13) hx hb dX9_existentialStates_7 (by decide) ?_
    refine lv_aload_n hx hb dX9_existentialStates_13 rfl (lv_at hl 0 rfl) ?_
    obtain ⟨r14, h14, h⟩ := fy_bd_some h
    refine fy_calL w (fy_runV (As := []) (rest := []) C w (c_X0_existentialReach l g hst X_full (cls_X9_automatonIn  h2) h14) (X_o0 X_full (cls_X9_automatonIn  h2)) ksX9_220 rfl ⟨Nat.le_of_ble_eq_true rfl, Nat.le_of_ble_eq_true rfl⟩ rfl hl.1 rfl (Nat.le_of_ble_eq_true rfl) ⟨Nat.le_refl _, Nat.le_refl _⟩ dX9_existentialStates_14) (fun H locs w => ?_)
    obtain ⟨r17, h17, h⟩ := fy_bd_some h
    refine fy_calI w (fy_runS (As := [.long r14]) (rest := []) C w (c_J13_bitCount_95d88 l g X_full  h17) ksX9_160 ⟨Nat.le_of_ble_eq_true rfl, Nat.le_of_ble_eq_true rfl⟩ rfl hl.1 rfl (Nat.le_of_ble_eq_true rfl) ⟨Nat.le_refl _, Nat.le_refl _⟩ dX9_existentialStates_17) (fun H locs w => ?_)
    cases h
    exact fy_retI C w dX9_existentialStates_20

set_option maxHeartbeats 4000000 in
set_option maxRecDepth 100000 in
theorem c_X9_existentialStates (l : Launch) (g : fy_G) {tt : Nat} (hst : g.2.2.2 = some tt) {S : fy_S} {v1 : Int32} {rr : Int32}  (h : X9_existentialStates S v1 = some rr) : fy_M g X_Y l yX9_existentialStates cX9_existentialStates 3 (some .int) (fy_rm 5) [.ref (g.2.2.1 0), .int v1] S (fy_QI g X_Y rr S) :=
  fy_entry (by decide +kernel) (Nat.le_of_ble_eq_true rfl) (fun p e s m args below meth c ls C w hl => t_X9_existentialStates C hst  h w hl)
def X0_acceptingSets_4 (S : fy_S) : Nat → Nat → Int64 → Int32 → Option (Int64)
  | 0, _, _, _ => none
  | fu + 1, v0, v1, v3 =>
    if (64 : Int32) ≤ v3 then (
      some v1)
    else (
      if (v3 &&& ((S.1 v0 5) ^^^ (-1 : Int32))) = 0 then (
        fy_bl (v1 ||| ((1 : Int64) <<< (v3.toInt64 &&& 63))) fun x26 =>
        fy_bl (v3 + (1 : Int32)) fun x27 =>
        X0_acceptingSets_4 S fu v0 x26 x27)
      else (
        fy_bl (v3 + (1 : Int32)) fun x27 =>
        X0_acceptingSets_4 S fu v0 v1 x27))
def X0_acceptingSets (S : fy_S) (v0 : Nat) : Option (Int64) :=
  X0_acceptingSets_4 S fy_fu v0 (0 : Int64) (0 : Int32)
set_option maxHeartbeats 4000000 in
set_option maxRecDepth 100000 in
theorem t_X0_acceptingSets_4 {p : Program} {l : Launch} {e : Env} {s : State} {m : MethodId} {args : Array Value} {below : List Frame} {meth : Method} {c : Code} {g : fy_G} {y : fy_Y} (C : fy_C g y p s m args meth c yX0_acceptingSets.cls cX0_acceptingSets 4 (some .long)) (hcl : X_clo y) {S : fy_S} {rr : Int64} : ∀ (fu : Nat) (v0 : Nat) (v1 : Int64) (v3 : Int32) (H : Heap) (locs : List Loc) (ls : Array Slot), X0_acceptingSets_4 S fu v0 v1 v3 = some rr → fy_W g y S s H locs → X_is y 0 v0 → lv_has ls 4 [(0, .ref (g.2.2.1 v0)), (1, .long v1), (3, .int v3)] → W p l e (fy_rm 0) s m args below meth c H locs 0 0 (MQ below (fy_QL g y rr S) args s 0 0 (fy_A g y)) (F0 m 4 ls []) := by
  obtain ⟨hx, hb, hr, hts, hown, hlk, hml, hK, hD, hE, hN⟩ := id C
  intro fu
  induction fu with
  | zero => intro v0 v1 v3 H locs ls h; cases h
  | succ fu ih =>
    intro v0 v1 v3 H locs ls h w q0 hl
    rw [X0_acceptingSets_4] at h
    refine lv_iload_n hx hb dX0_acceptingSets_4 rfl (lv_at hl 2 rfl) ?_
    refine lv_bipush (v := (64 : Int32)) hx hb dX0_acceptingSets_5 (by decide) ?_
    refine lv_icmp_ge (tgt := 33) hx hb dX0_acceptingSets_7 (by decide) (fun hc => ?_) (fun hc => ?_)
    · have h := fy_if_t h hc
      refine lv_lload_n hx hb dX0_acceptingSets_33 rfl (lv_at hl 1 rfl) ?_
      cases h
      exact fy_retL C w dX0_acceptingSets_34
    · have h := fy_if_f h hc
      refine lv_iload_n hx hb dX0_acceptingSets_10 rfl (lv_at hl 2 rfl) ?_
      refine lv_aload_n hx hb dX0_acceptingSets_11 rfl (lv_at hl 0 rfl) ?_
      refine gfX0_37 hcl C w q0 dX0_acceptingSets_12 ?_
      refine lv_iconst (v := (-1 : Int32)) hx hb dX0_acceptingSets_15 (by decide) ?_
      refine lv_ixor hx hb dX0_acceptingSets_16 ?_
      refine lv_iand hx hb dX0_acceptingSets_17 ?_
      refine lv_if_ne (tgt := 27) hx hb dX0_acceptingSets_18 (by decide) (fun hc => ?_) (fun hc => ?_)
      · have h := fy_if_f h hc
        obtain ⟨x27, e27⟩ : ∃ z : Int32, z = v3 + (1 : Int32) := ⟨_, rfl⟩
        have h := fy_bl_some e27 h
        refine lv_iinc (k := 2) (v := x27) (lv' := [(3, .int x27), (0, .ref (g.2.2.1 v0)), (1, .long v1)]) hx hb dX0_acceptingSets_27 hl rfl (by rw [e27]; rfl) (by decide) rfl (fun ls hl => ?_)
        refine lv_goto (tgt := 4) hx hb dX0_acceptingSets_30 (by decide) ?_
        exact ih _ _ _ _ _ _ h w q0 (lv_sub hl [1, 2, 0] rfl)
      · have h := fy_if_t h hc
        refine lv_lload_n hx hb dX0_acceptingSets_21 rfl (lv_at hl 1 rfl) ?_
        refine lv_lconst (v := (1 : Int64)) hx hb dX0_acceptingSets_22 (by decide) ?_
        refine lv_iload_n hx hb dX0_acceptingSets_23 rfl (lv_at hl 2 rfl) ?_
        refine lv_lshl (v := (1 : Int64) <<< (v3.toInt64 &&& 63)) hx hb dX0_acceptingSets_24 rfl ?_
        refine lv_lor hx hb dX0_acceptingSets_25 ?_
        refine lv_topl (fun x26 e26 => ?_)
        have h := fy_bl_some e26 h
        refine lv_lstore_n (lv' := [(1, .long x26), (0, .ref (g.2.2.1 v0)), (3, .int v3)]) hx hb dX0_acceptingSets_26 rfl hl (by decide) rfl (fun ls hl => ?_)
        obtain ⟨x27, e27⟩ : ∃ z : Int32, z = v3 + (1 : Int32) := ⟨_, rfl⟩
        have h := fy_bl_some e27 h
        refine lv_iinc (k := 2) (v := x27) (lv' := [(3, .int x27), (1, .long x26), (0, .ref (g.2.2.1 v0))]) hx hb dX0_acceptingSets_27 hl rfl (by rw [e27]; rfl) (by decide) rfl (fun ls hl => ?_)
        refine lv_goto (tgt := 4) hx hb dX0_acceptingSets_30 (by decide) ?_
        exact ih _ _ _ _ _ _ h w q0 (lv_sub hl [2, 1, 0] rfl)

set_option maxHeartbeats 4000000 in
set_option maxRecDepth 100000 in
theorem t_X0_acceptingSets {p : Program} {l : Launch} {e : Env} {s : State} {m : MethodId} {args : Array Value} {below : List Frame} {meth : Method} {c : Code} {g : fy_G} {y : fy_Y} (C : fy_C g y p s m args meth c yX0_acceptingSets.cls cX0_acceptingSets 4 (some .long)) (hcl : X_clo y) {S : fy_S} {v0 : Nat} {rr : Int64} (q0 : X_is y 0 v0) {H : Heap} {locs : List Loc} {ls : Array Slot} (h : X0_acceptingSets S v0 = some rr) (w : fy_W g y S s H locs) (hl : lv_has ls 4 [(0, .ref (g.2.2.1 v0))]) : W p l e (fy_rm 0) s m args below meth c H locs 0 0 (MQ below (fy_QL g y rr S) args s 0 0 (fy_A g y)) (F0 m 0 ls []) := by
  obtain ⟨hx, hb, hr, hts, hown, hlk, hml, hK, hD, hE, hN⟩ := id C
  rw [X0_acceptingSets] at h
  refine lv_lconst (v := (0 : Int64)) hx hb dX0_acceptingSets_0 (by decide) ?_
  refine lv_lstore_n (lv' := [(1, .long (0 : Int64)), (0, .ref (g.2.2.1 v0))]) hx hb dX0_acceptingSets_1 rfl hl (by decide) rfl (fun ls hl => ?_)
  refine lv_iconst (v := (0 : Int32)) hx hb dX0_acceptingSets_2 (by decide) ?_
  refine lv_istore_n (lv' := [(3, .int (0 : Int32)), (1, .long (0 : Int64)), (0, .ref (g.2.2.1 v0))]) hx hb dX0_acceptingSets_3 rfl hl (by decide) rfl (fun ls hl => ?_)
  exact t_X0_acceptingSets_4 C hcl fy_fu _ _ _ _ _ _ h w q0 (lv_sub hl [2, 1, 0] rfl)

set_option maxHeartbeats 4000000 in
set_option maxRecDepth 100000 in
theorem c_X0_acceptingSets (l : Launch) (g : fy_G) {y : fy_Y} (hcl : X_clo y) {S : fy_S} {v0 : Nat} {rr : Int64} (q0 : X_is y 0 v0) (h : X0_acceptingSets S v0 = some rr) : fy_M g y l yX0_acceptingSets cX0_acceptingSets 4 (some .long) (fy_rm 0) [.ref (g.2.2.1 v0)] S (fy_QL g y rr S) :=
  fy_entry (by decide +kernel) (Nat.le_of_ble_eq_true rfl) (fun p e s m args below meth c ls C w hl => t_X0_acceptingSets C hcl q0 h w hl)
def X9_existentialSets_103 (S : fy_S) (z0 : Int64) : Option (Int32) :=
  fy_bd (J13_bitCount_95d88 S z0) fun r103 =>
  some r103
def X9_existentialSets_51 (S : fy_S) : Nat → Int32 → Nat → Int64 → Int32 → Option (Int32)
  | 0, _, _, _, _ => none
  | fu + 1, v2, v3, v4, v6 =>
    if (S.1 12 1) ≤ v6 then (
      if v2 = (1 : Int32) then (
        fy_bd (X0_acceptingSets S v3) fun r94 =>
        X9_existentialSets_103 S (v4 &&& r94))
      else (
        X9_existentialSets_103 S v4))
    else (
      fy_bd (X8_letterAt S 12 v6) fun r72 =>
      fy_bd (X0_existentialNext S v3 v4 r72) fun r75 =>
      fy_bl (v6 + (1 : Int32)) fun x80 =>
      X9_existentialSets_51 S fu v2 v3 r75 x80)
def X9_existentialSets (S : fy_S) (v1 : Int32) (v2 : Int32) : Option (Int32) :=
  fy_bd (X9_automatonIn S v1) fun r2 =>
  match r2 with
  | none => (
    some (-2 : Int32))
  | some r2_ => (
    fy_bd (X9_isWithin S v2 (0 : Int32) (1 : Int32)) fun r13 =>
    if r13 = 0 then (
      some (-2 : Int32))
    else (
      fy_bd (X8_fits S 12 r2_) fun r27 =>
      if r27 = 0 then (
        some (-4 : Int32))
      else (
        fy_bd (X9_minimalSets S (S.2 (r2_ + 3) 2)) fun r43 =>
        X9_existentialSets_51 S fy_fu v2 r2_ r43 (0 : Int32))))
set_option maxHeartbeats 4000000 in
set_option maxRecDepth 100000 in
theorem t_X9_existentialSets_103 {p : Program} {l : Launch} {e : Env} {s : State} {m : MethodId} {args : Array Value} {below : List Frame} {meth : Method} {c : Code} {g : fy_G} (C : fy_C g X_Y p s m args meth c yX9_existentialSets.cls cX9_existentialSets 7 (some .int)) {tt : Nat} (hst : g.2.2.2 = some tt) {S : fy_S} {rr : Int32} : ∀ (z0 : Int64) (H : Heap) (locs : List Loc) (ls : Array Slot), X9_existentialSets_103 S z0 = some rr → fy_W g X_Y S s H locs → lv_has ls 7 [] → W p l e (fy_rm 4) s m args below meth c H locs 0 0 (MQ below (fy_QI g X_Y rr S) args s 0 0 (fy_A g X_Y)) (F0 m 103 ls [.long z0]) := by
  obtain ⟨hx, hb, hr, hts, hown, hlk, hml, hK, hD, hE, hN⟩ := id C
  intro z0 H locs ls h w  hl
  rw [X9_existentialSets_103] at h
  obtain ⟨r103, h103, h⟩ := fy_bd_some h
  refine fy_calI w (fy_runS (As := [.long z0]) (rest := []) C w (c_J13_bitCount_95d88 l g X_full  h103) ksX9_160 ⟨Nat.le_of_ble_eq_true rfl, Nat.le_of_ble_eq_true rfl⟩ rfl hl.1 rfl (Nat.le_of_ble_eq_true rfl) ⟨Nat.le_refl _, Nat.le_refl _⟩ dX9_existentialSets_103) (fun H locs w => ?_)
  cases h
  exact fy_retI C w dX9_existentialSets_106

set_option maxHeartbeats 4000000 in
set_option maxRecDepth 100000 in
theorem t_X9_existentialSets_51 {p : Program} {l : Launch} {e : Env} {s : State} {m : MethodId} {args : Array Value} {below : List Frame} {meth : Method} {c : Code} {g : fy_G} (C : fy_C g X_Y p s m args meth c yX9_existentialSets.cls cX9_existentialSets 7 (some .int)) {tt : Nat} (hst : g.2.2.2 = some tt) {S : fy_S} {rr : Int32} : ∀ (fu : Nat) (v2 : Int32) (v3 : Nat) (v4 : Int64) (v6 : Int32) (H : Heap) (locs : List Loc) (ls : Array Slot), X9_existentialSets_51 S fu v2 v3 v4 v6 = some rr → fy_W g X_Y S s H locs → X_is X_Y 0 v3 → lv_has ls 7 [(0, .ref (g.2.2.1 0)), (2, .int v2), (3, .ref (g.2.2.1 v3)), (4, .long v4), (6, .int v6)] → W p l e (fy_rm 4) s m args below meth c H locs 0 0 (MQ below (fy_QI g X_Y rr S) args s 0 0 (fy_A g X_Y)) (F0 m 51 ls []) := by
  obtain ⟨hx, hb, hr, hts, hown, hlk, hml, hK, hD, hE, hN⟩ := id C
  intro fu
  induction fu with
  | zero => intro v2 v3 v4 v6 H locs ls h; cases h
  | succ fu ih =>
    intro v2 v3 v4 v6 H locs ls h w q3 hl
    rw [X9_existentialSets_51] at h
    refine lv_iload hx hb dX9_existentialSets_51 (lv_at hl 4 rfl) ?_
    refine lv_aload_n hx hb dX9_existentialSets_53 rfl (lv_at hl 0 rfl) ?_
    refine gfX9_42 X_full C w (X_i0) dX9_existentialSets_54 ?_
    refine gfX9_170 X_full C w X_i12 dX9_existentialSets_57 ?_
    refine lv_icmp_ge (tgt := 86) hx hb dX9_existentialSets_60 (by decide) (fun hc => ?_) (fun hc => ?_)
    · have h := fy_if_t h hc
      refine lv_iload_n hx hb dX9_existentialSets_86 rfl (lv_at hl 1 rfl) ?_
      refine lv_iconst (v := (1 : Int32)) hx hb dX9_existentialSets_87 (by decide) ?_
      refine lv_icmp_ne (tgt := 101) hx hb dX9_existentialSets_88 (by decide) (fun hc => ?_) (fun hc => ?_)
      · have h := fy_if_f h hc
        refine lv_lload hx hb dX9_existentialSets_101 (lv_at hl 3 rfl) ?_
        exact t_X9_existentialSets_103 C hst _ _ _ _ h w (lv_sub hl [] rfl)
      · have h := fy_if_t h hc
        refine lv_lload hx hb dX9_existentialSets_91 (lv_at hl 3 rfl) ?_
        refine lv_aload_n hx hb dX9_existentialSets_93 rfl (lv_at hl 2 rfl) ?_
        obtain ⟨r94, h94, h⟩ := fy_bd_some h
        refine fy_calL w (fy_runV (As := []) (rest := [.long v4]) C w (c_X0_acceptingSets l g X_full q3 h94) (X_o0 X_full q3) ksX9_227 rfl ⟨Nat.le_of_ble_eq_true rfl, Nat.le_of_ble_eq_true rfl⟩ rfl hl.1 rfl (Nat.le_of_ble_eq_true rfl) ⟨Nat.le_refl _, Nat.le_refl _⟩ dX9_existentialSets_94) (fun H locs w => ?_)
        refine lv_land hx hb dX9_existentialSets_97 ?_
        refine lv_goto (tgt := 103) hx hb dX9_existentialSets_98 (by decide) ?_
        exact t_X9_existentialSets_103 C hst _ _ _ _ h w (lv_sub hl [] rfl)
    · have h := fy_if_f h hc
      refine lv_aload_n hx hb dX9_existentialSets_63 rfl (lv_at hl 2 rfl) ?_
      refine lv_lload hx hb dX9_existentialSets_64 (lv_at hl 3 rfl) ?_
      refine lv_aload_n hx hb dX9_existentialSets_66 rfl (lv_at hl 0 rfl) ?_
      refine gfX9_42 X_full C w (X_i0) dX9_existentialSets_67 ?_
      refine lv_iload hx hb dX9_existentialSets_70 (lv_at hl 4 rfl) ?_
      obtain ⟨r72, h72, h⟩ := fy_bd_some h
      refine fy_calI w (fy_runV (As := [.int v6]) (rest := [.long v4, .ref (g.2.2.1 v3)]) C w (c_X8_letterAt l g X_i12 h72) (X_o8 X_full X_i12) ksX9_193 rfl ⟨Nat.le_of_ble_eq_true rfl, Nat.le_of_ble_eq_true rfl⟩ rfl hl.1 rfl (Nat.le_of_ble_eq_true rfl) ⟨Nat.le_refl _, Nat.le_refl _⟩ dX9_existentialSets_72) (fun H locs w => ?_)
      obtain ⟨r75, h75, h⟩ := fy_bd_some h
      refine fy_calL w (fy_runV (As := [.long v4, .int r72]) (rest := []) C w (c_X0_existentialNext l g hst X_full q3 h75) (X_o0 X_full q3) ksX9_223 rfl ⟨Nat.le_of_ble_eq_true rfl, Nat.le_of_ble_eq_true rfl⟩ rfl hl.1 rfl (Nat.le_of_ble_eq_true rfl) ⟨Nat.le_refl _, Nat.le_refl _⟩ dX9_existentialSets_75) (fun H locs w => ?_)
      refine lv_lstore (lv' := [(4, .long r75), (0, .ref (g.2.2.1 0)), (2, .int v2), (3, .ref (g.2.2.1 v3)), (6, .int v6)]) hx hb dX9_existentialSets_78 hl (by decide) rfl (fun ls hl => ?_)
      obtain ⟨x80, e80⟩ : ∃ z : Int32, z = v6 + (1 : Int32) := ⟨_, rfl⟩
      have h := fy_bl_some e80 h
      refine lv_iinc (k := 4) (v := x80) (lv' := [(6, .int x80), (4, .long r75), (0, .ref (g.2.2.1 0)), (2, .int v2), (3, .ref (g.2.2.1 v3))]) hx hb dX9_existentialSets_80 hl rfl (by rw [e80]; rfl) (by decide) rfl (fun ls hl => ?_)
      refine lv_goto (tgt := 51) hx hb dX9_existentialSets_83 (by decide) ?_
      exact ih _ _ _ _ _ _ _ h w q3 (lv_sub hl [2, 3, 4, 1, 0] rfl)

set_option maxHeartbeats 4000000 in
set_option maxRecDepth 100000 in
theorem t_X9_existentialSets {p : Program} {l : Launch} {e : Env} {s : State} {m : MethodId} {args : Array Value} {below : List Frame} {meth : Method} {c : Code} {g : fy_G} (C : fy_C g X_Y p s m args meth c yX9_existentialSets.cls cX9_existentialSets 7 (some .int)) {tt : Nat} (hst : g.2.2.2 = some tt) {S : fy_S} {v1 : Int32} {v2 : Int32} {rr : Int32}  {H : Heap} {locs : List Loc} {ls : Array Slot} (h : X9_existentialSets S v1 v2 = some rr) (w : fy_W g X_Y S s H locs) (hl : lv_has ls 7 [(0, .ref (g.2.2.1 0)), (1, .int v1), (2, .int v2)]) : W p l e (fy_rm 4) s m args below meth c H locs 0 0 (MQ below (fy_QI g X_Y rr S) args s 0 0 (fy_A g X_Y)) (F0 m 0 ls []) := by
  obtain ⟨hx, hb, hr, hts, hown, hlk, hml, hK, hD, hE, hN⟩ := id C
  rw [X9_existentialSets] at h
  refine lv_aload_n hx hb dX9_existentialSets_0 rfl (lv_at hl 0 rfl) ?_
  refine lv_iload_n hx hb dX9_existentialSets_1 rfl (lv_at hl 1 rfl) ?_
  obtain ⟨r2, h2, h⟩ := fy_bd_some h
  refine fy_calE w (fy_runV (As := [.int v1]) (rest := []) C w (c_X9_automatonIn l g  h2) (X_o9 X_full (X_i0)) ksX9_88 rfl ⟨Nat.le_of_ble_eq_true rfl, Nat.le_of_ble_eq_true rfl⟩ rfl hl.1 rfl (Nat.le_of_ble_eq_true rfl) ⟨Nat.le_refl _, Nat.le_refl _⟩ dX9_existentialSets_2) (fun H locs w => ?_)
  refine fy_astoreO_n (lv' := [(3, va_re g.2.2.1 r2), (0, .ref (g.2.2.1 0)), (1, .int v1), (2, .int v2)]) hx hb dX9_existentialSets_5 rfl hl (by decide) rfl (fun ls hl => ?_)
  cases r2 with
  | none =>
    dsimp only at h
    refine lv_aload_nN hx hb dX9_existentialSets_6 rfl (lv_at hl 0 rfl) ?_
    refine lv_ifnullN (tgt := 19) hx hb dX9_existentialSets_7 (by decide) ?_
    refine lv_bipush (v := (-2 : Int32)) hx hb dX9_existentialSets_19 (by decide) ?_
    cases h
    exact fy_retI C w dX9_existentialSets_21
  | some r2_ =>
    dsimp only at h
    refine lv_aload_n hx hb dX9_existentialSets_6 rfl (lv_at hl 0 rfl) ?_
    refine lv_ifnull hx hb dX9_existentialSets_7 ?_
    refine lv_iload_n hx hb dX9_existentialSets_10 rfl (lv_at hl 3 rfl) ?_
    refine lv_iconst (v := (0 : Int32)) hx hb dX9_existentialSets_11 (by decide) ?_
    refine lv_iconst (v := (1 : Int32)) hx hb dX9_existentialSets_12 (by decide) ?_
    obtain ⟨r13, h13, h⟩ := fy_bd_some h
    refine fy_calI w (fy_runS (As := [.int v2, .int (0 : Int32), .int (1 : Int32)]) (rest := []) C w (c_X9_isWithin l g X_full  h13) ksX9_92 ⟨Nat.le_of_ble_eq_true rfl, Nat.le_of_ble_eq_true rfl⟩ rfl hl.1 rfl (Nat.le_of_ble_eq_true rfl) ⟨Nat.le_refl _, Nat.le_refl _⟩ dX9_existentialSets_13) (fun H locs w => ?_)
    refine lv_if_ne (tgt := 22) hx hb dX9_existentialSets_16 (by decide) (fun hc => ?_) (fun hc => ?_)
    · have h := fy_if_f h hc
      refine lv_aload_n hx hb dX9_existentialSets_22 rfl (lv_at hl 1 rfl) ?_
      refine gfX9_42 X_full C w (X_i0) dX9_existentialSets_23 ?_
      refine lv_aload_n hx hb dX9_existentialSets_26 rfl (lv_at hl 0 rfl) ?_
      obtain ⟨r27, h27, h⟩ := fy_bd_some h
      refine fy_calI w (fy_runV (As := [.ref (g.2.2.1 r2_)]) (rest := []) C w (c_X8_fits l g X_i12 (cls_X9_automatonIn  h2) h27) (X_o8 X_full X_i12) ksX9_173 rfl ⟨Nat.le_of_ble_eq_true rfl, Nat.le_of_ble_eq_true rfl⟩ rfl hl.1 rfl (Nat.le_of_ble_eq_true rfl) ⟨Nat.le_refl _, Nat.le_refl _⟩ dX9_existentialSets_27) (fun H locs w => ?_)
      refine lv_if_ne (tgt := 36) hx hb dX9_existentialSets_30 (by decide) (fun hc => ?_) (fun hc => ?_)
      · have h := fy_if_f h hc
        refine lv_aload_n hx hb dX9_existentialSets_36 rfl (lv_at hl 0 rfl) ?_
        refine gfX9_181 X_full C w (cls_X9_automatonIn  h2) dX9_existentialSets_37 ?_
        refine gfX9_152 X_full C w (X_f0_initial X_full (cls_X9_automatonIn  h2)) dX9_existentialSets_40 ?_
        obtain ⟨r43, h43, h⟩ := fy_bd_some h
        refine fy_calL w (fy_runS (As := [.long (S.2 (r2_ + 3) 2)]) (rest := []) C w (c_X9_minimalSets l g hst X_full  h43) ksX9_156 ⟨Nat.le_of_ble_eq_true rfl, Nat.le_of_ble_eq_true rfl⟩ rfl hl.1 rfl (Nat.le_of_ble_eq_true rfl) ⟨Nat.le_refl _, Nat.le_refl _⟩ dX9_existentialSets_43) (fun H locs w => ?_)
        refine lv_lstore (lv' := [(4, .long r43), (3, .ref (g.2.2.1 r2_)), (0, .ref (g.2.2.1 0)), (1, .int v1), (2, .int v2)]) hx hb dX9_existentialSets_46 hl (by decide) rfl (fun ls hl => ?_)
        refine lv_iconst (v := (0 : Int32)) hx hb dX9_existentialSets_48 (by decide) ?_
        refine lv_istore (lv' := [(6, .int (0 : Int32)), (4, .long r43), (3, .ref (g.2.2.1 r2_)), (0, .ref (g.2.2.1 0)), (1, .int v1), (2, .int v2)]) hx hb dX9_existentialSets_49 hl (by decide) rfl (fun ls hl => ?_)
        exact t_X9_existentialSets_51 C hst fy_fu _ _ _ _ _ _ _ h w (cls_X9_automatonIn h2) (lv_sub hl [3, 5, 2, 1, 0] rfl)
      · have h := fy_if_t h hc
        refine lv_bipush (v := (-4 : Int32)) hx hb dX9_existentialSets_33 (by decide) ?_
        cases h
        exact fy_retI C w dX9_existentialSets_35
    · have h := fy_if_t h hc
      refine lv_bipush (v := (-2 : Int32)) hx hb dX9_existentialSets_19 (by decide) ?_
      cases h
      exact fy_retI C w dX9_existentialSets_21

set_option maxHeartbeats 4000000 in
set_option maxRecDepth 100000 in
theorem c_X9_existentialSets (l : Launch) (g : fy_G) {tt : Nat} (hst : g.2.2.2 = some tt) {S : fy_S} {v1 : Int32} {v2 : Int32} {rr : Int32}  (h : X9_existentialSets S v1 v2 = some rr) : fy_M g X_Y l yX9_existentialSets cX9_existentialSets 7 (some .int) (fy_rm 4) [.ref (g.2.2.1 0), .int v1, .int v2] S (fy_QI g X_Y rr S) :=
  fy_entry (by decide +kernel) (Nat.le_of_ble_eq_true rfl) (fun p e s m args below meth c ls C w hl => t_X9_existentialSets C hst  h w hl)
def X2_statesInside_4 (S : fy_S) : Nat → Nat → Int32 → Int32 → Option (Int32)
  | 0, _, _, _ => none
  | fu + 1, v0, v1, v2 =>
    if (S.1 v0 1) ≤ v2 then (
      some v1)
    else (
      fy_gd (fy_ix v2 40) <|
      if (6 : Int32) ≤ (S.1 (v0 + 1) v2.toNatClampNeg) then (
        fy_bl (v2 + (1 : Int32)) fun x34 =>
        X2_statesInside_4 S fu v0 v1 x34)
      else (
        fy_gd (fy_ix v2 40) <|
        fy_bl (v1 ||| ((1 : Int32) <<< ((S.1 (v0 + 1) v2.toNatClampNeg) &&& 31))) fun x33 =>
        fy_bl (v2 + (1 : Int32)) fun x34 =>
        X2_statesInside_4 S fu v0 x33 x34))
def X2_statesInside (S : fy_S) (v0 : Nat) : Option (Int32) :=
  X2_statesInside_4 S fy_fu v0 (0 : Int32) (0 : Int32)
set_option maxHeartbeats 4000000 in
set_option maxRecDepth 100000 in
theorem t_X2_statesInside_4 {p : Program} {l : Launch} {e : Env} {s : State} {m : MethodId} {args : Array Value} {below : List Frame} {meth : Method} {c : Code} {g : fy_G} {y : fy_Y} (C : fy_C g y p s m args meth c yX2_statesInside.cls cX2_statesInside 3 (some .int)) (hcl : X_clo y) {S : fy_S} {rr : Int32} : ∀ (fu : Nat) (v0 : Nat) (v1 : Int32) (v2 : Int32) (H : Heap) (locs : List Loc) (ls : Array Slot), X2_statesInside_4 S fu v0 v1 v2 = some rr → fy_W g y S s H locs → X_is y 2 v0 → lv_has ls 3 [(0, .ref (g.2.2.1 v0)), (1, .int v1), (2, .int v2)] → W p l e (fy_rm 0) s m args below meth c H locs 0 0 (MQ below (fy_QI g y rr S) args s 0 0 (fy_A g y)) (F0 m 4 ls []) := by
  obtain ⟨hx, hb, hr, hts, hown, hlk, hml, hK, hD, hE, hN⟩ := id C
  intro fu
  induction fu with
  | zero => intro v0 v1 v2 H locs ls h; cases h
  | succ fu ih =>
    intro v0 v1 v2 H locs ls h w q0 hl
    rw [X2_statesInside_4] at h
    refine lv_iload_n hx hb dX2_statesInside_4 rfl (lv_at hl 2 rfl) ?_
    refine lv_aload_n hx hb dX2_statesInside_5 rfl (lv_at hl 0 rfl) ?_
    refine gfX2_18 hcl C w q0 dX2_statesInside_6 ?_
    refine lv_icmp_ge (tgt := 40) hx hb dX2_statesInside_9 (by decide) (fun hc => ?_) (fun hc => ?_)
    · have h := fy_if_t h hc
      refine lv_iload_n hx hb dX2_statesInside_40 rfl (lv_at hl 1 rfl) ?_
      cases h
      exact fy_retI C w dX2_statesInside_41
    · have h := fy_if_f h hc
      refine lv_aload_n hx hb dX2_statesInside_12 rfl (lv_at hl 0 rfl) ?_
      refine gfX2_9 hcl C w q0 dX2_statesInside_13 ?_
      refine lv_iload_n hx hb dX2_statesInside_16 rfl (lv_at hl 2 rfl) ?_
      obtain ⟨g17, h⟩ := fy_gd_some h
      refine fy_bald C w (X_f2_nodes hcl q0) g17 dX2_statesInside_17 ?_
      refine lv_bipush (v := (6 : Int32)) hx hb dX2_statesInside_18 (by decide) ?_
      refine lv_icmp_ge (tgt := 34) hx hb dX2_statesInside_20 (by decide) (fun hc => ?_) (fun hc => ?_)
      · have h := fy_if_t h hc
        obtain ⟨x34, e34⟩ : ∃ z : Int32, z = v2 + (1 : Int32) := ⟨_, rfl⟩
        have h := fy_bl_some e34 h
        refine lv_iinc (k := 2) (v := x34) (lv' := [(2, .int x34), (0, .ref (g.2.2.1 v0)), (1, .int v1)]) hx hb dX2_statesInside_34 hl rfl (by rw [e34]; rfl) (by decide) rfl (fun ls hl => ?_)
        refine lv_goto (tgt := 4) hx hb dX2_statesInside_37 (by decide) ?_
        exact ih _ _ _ _ _ _ h w q0 (lv_sub hl [1, 2, 0] rfl)
      · have h := fy_if_f h hc
        refine lv_iload_n hx hb dX2_statesInside_23 rfl (lv_at hl 1 rfl) ?_
        refine lv_iconst (v := (1 : Int32)) hx hb dX2_statesInside_24 (by decide) ?_
        refine lv_aload_n hx hb dX2_statesInside_25 rfl (lv_at hl 0 rfl) ?_
        refine gfX2_9 hcl C w q0 dX2_statesInside_26 ?_
        refine lv_iload_n hx hb dX2_statesInside_29 rfl (lv_at hl 2 rfl) ?_
        obtain ⟨g30, h⟩ := fy_gd_some h
        refine fy_bald C w (X_f2_nodes hcl q0) g30 dX2_statesInside_30 ?_
        refine lv_ishl hx hb dX2_statesInside_31 ?_
        refine lv_ior hx hb dX2_statesInside_32 ?_
        refine lv_topi (fun x33 e33 => ?_)
        have h := fy_bl_some e33 h
        refine lv_istore_n (lv' := [(1, .int x33), (0, .ref (g.2.2.1 v0)), (2, .int v2)]) hx hb dX2_statesInside_33 rfl hl (by decide) rfl (fun ls hl => ?_)
        obtain ⟨x34, e34⟩ : ∃ z : Int32, z = v2 + (1 : Int32) := ⟨_, rfl⟩
        have h := fy_bl_some e34 h
        refine lv_iinc (k := 2) (v := x34) (lv' := [(2, .int x34), (1, .int x33), (0, .ref (g.2.2.1 v0))]) hx hb dX2_statesInside_34 hl rfl (by rw [e34]; rfl) (by decide) rfl (fun ls hl => ?_)
        refine lv_goto (tgt := 4) hx hb dX2_statesInside_37 (by decide) ?_
        exact ih _ _ _ _ _ _ h w q0 (lv_sub hl [2, 1, 0] rfl)

set_option maxHeartbeats 4000000 in
set_option maxRecDepth 100000 in
theorem t_X2_statesInside {p : Program} {l : Launch} {e : Env} {s : State} {m : MethodId} {args : Array Value} {below : List Frame} {meth : Method} {c : Code} {g : fy_G} {y : fy_Y} (C : fy_C g y p s m args meth c yX2_statesInside.cls cX2_statesInside 3 (some .int)) (hcl : X_clo y) {S : fy_S} {v0 : Nat} {rr : Int32} (q0 : X_is y 2 v0) {H : Heap} {locs : List Loc} {ls : Array Slot} (h : X2_statesInside S v0 = some rr) (w : fy_W g y S s H locs) (hl : lv_has ls 3 [(0, .ref (g.2.2.1 v0))]) : W p l e (fy_rm 0) s m args below meth c H locs 0 0 (MQ below (fy_QI g y rr S) args s 0 0 (fy_A g y)) (F0 m 0 ls []) := by
  obtain ⟨hx, hb, hr, hts, hown, hlk, hml, hK, hD, hE, hN⟩ := id C
  rw [X2_statesInside] at h
  refine lv_iconst (v := (0 : Int32)) hx hb dX2_statesInside_0 (by decide) ?_
  refine lv_istore_n (lv' := [(1, .int (0 : Int32)), (0, .ref (g.2.2.1 v0))]) hx hb dX2_statesInside_1 rfl hl (by decide) rfl (fun ls hl => ?_)
  refine lv_iconst (v := (0 : Int32)) hx hb dX2_statesInside_2 (by decide) ?_
  refine lv_istore_n (lv' := [(2, .int (0 : Int32)), (1, .int (0 : Int32)), (0, .ref (g.2.2.1 v0))]) hx hb dX2_statesInside_3 rfl hl (by decide) rfl (fun ls hl => ?_)
  exact t_X2_statesInside_4 C hcl fy_fu _ _ _ _ _ _ h w q0 (lv_sub hl [2, 1, 0] rfl)

set_option maxHeartbeats 4000000 in
set_option maxRecDepth 100000 in
theorem c_X2_statesInside (l : Launch) (g : fy_G) {y : fy_Y} (hcl : X_clo y) {S : fy_S} {v0 : Nat} {rr : Int32} (q0 : X_is y 2 v0) (h : X2_statesInside S v0 = some rr) : fy_M g y l yX2_statesInside cX2_statesInside 3 (some .int) (fy_rm 0) [.ref (g.2.2.1 v0)] S (fy_QI g y rr S) :=
  fy_entry (by decide +kernel) (Nat.le_of_ble_eq_true rfl) (fun p e s m args below meth c ls C w hl => t_X2_statesInside C hcl q0 h w hl)
def X0_statesAfter_23 (S : fy_S) (k4 : Nat → Int32 → Int32 → Int32 → Option (Int32)) : Nat → Nat → Int32 → Int32 → Int32 → Int32 → Option (Int32)
  | 0, _, _, _, _, _ => none
  | fu + 1, v0, v1, v2, v3, v4 =>
    if (S.1 v0 4) ≤ v4 then (
      fy_bl (v3 + (1 : Int32)) fun x51 =>
      k4 v0 v1 v2 x51)
    else (
      fy_bd (X0_move S v0 v3 v4) fun r37 =>
      match r37 with
      | none => (
        none)
      | some r37_ => (
        fy_bd (X2_statesInside S r37_) fun r40 =>
        fy_bl (v2 ||| r40) fun x44 =>
        fy_bl (v4 + (1 : Int32)) fun x45 =>
        X0_statesAfter_23 S k4 fu v0 v1 x44 v3 x45))
def X0_statesAfter_4 (S : fy_S) : Nat → Nat → Int32 → Int32 → Int32 → Option (Int32)
  | 0, _, _, _, _ => none
  | fu + 1, v0, v1, v2, v3 =>
    if (S.1 v0 3) ≤ v3 then (
      some v2)
    else (
      if ((v1 >>> (v3 &&& 31)) &&& (1 : Int32)) = 0 then (
        fy_bl (v3 + (1 : Int32)) fun x51 =>
        X0_statesAfter_4 S fu v0 v1 v2 x51)
      else (
        X0_statesAfter_23 S (fun v0 v1 v2 v3 => X0_statesAfter_4 S fu v0 v1 v2 v3) fy_fu v0 v1 v2 v3 (0 : Int32)))
def X0_statesAfter (S : fy_S) (v0 : Nat) (v1 : Int32) : Option (Int32) :=
  X0_statesAfter_4 S fy_fu v0 v1 (0 : Int32) (0 : Int32)
set_option maxHeartbeats 4000000 in
set_option maxRecDepth 100000 in
theorem t_X0_statesAfter_23 {p : Program} {l : Launch} {e : Env} {s : State} {m : MethodId} {args : Array Value} {below : List Frame} {meth : Method} {c : Code} {g : fy_G} {y : fy_Y} (C : fy_C g y p s m args meth c yX0_statesAfter.cls cX0_statesAfter 5 (some .int)) (hcl : X_clo y) {S : fy_S} {rr : Int32} {k4 : Nat → Int32 → Int32 → Int32 → Option (Int32)} (hk4 : ∀ (v0 : Nat) (v1 : Int32) (v2 : Int32) (v3 : Int32) (H : Heap) (locs : List Loc) (ls : Array Slot), k4 v0 v1 v2 v3 = some rr → fy_W g y S s H locs → X_is y 0 v0 → lv_has ls 5 [(0, .ref (g.2.2.1 v0)), (1, .int v1), (2, .int v2), (3, .int v3)] → W p l e (fy_rm 2) s m args below meth c H locs 0 0 (MQ below (fy_QI g y rr S) args s 0 0 (fy_A g y)) (F0 m 4 ls [])) : ∀ (fu : Nat) (v0 : Nat) (v1 : Int32) (v2 : Int32) (v3 : Int32) (v4 : Int32) (H : Heap) (locs : List Loc) (ls : Array Slot), X0_statesAfter_23 S k4 fu v0 v1 v2 v3 v4 = some rr → fy_W g y S s H locs → X_is y 0 v0 → lv_has ls 5 [(0, .ref (g.2.2.1 v0)), (1, .int v1), (2, .int v2), (3, .int v3), (4, .int v4)] → W p l e (fy_rm 2) s m args below meth c H locs 0 0 (MQ below (fy_QI g y rr S) args s 0 0 (fy_A g y)) (F0 m 23 ls []) := by
  obtain ⟨hx, hb, hr, hts, hown, hlk, hml, hK, hD, hE, hN⟩ := id C
  intro fu
  induction fu with
  | zero => intro v0 v1 v2 v3 v4 H locs ls h; cases h
  | succ fu ih =>
    intro v0 v1 v2 v3 v4 H locs ls h w q0 hl
    rw [X0_statesAfter_23] at h
    refine lv_iload hx hb dX0_statesAfter_23 (lv_at hl 4 rfl) ?_
    refine lv_aload_n hx hb dX0_statesAfter_25 rfl (lv_at hl 0 rfl) ?_
    refine gfX0_34 hcl C w q0 dX0_statesAfter_26 ?_
    refine lv_icmp_ge (tgt := 51) hx hb dX0_statesAfter_29 (by decide) (fun hc => ?_) (fun hc => ?_)
    · have h := fy_if_t h hc
      obtain ⟨x51, e51⟩ : ∃ z : Int32, z = v3 + (1 : Int32) := ⟨_, rfl⟩
      have h := fy_bl_some e51 h
      refine lv_iinc (k := 3) (v := x51) (lv' := [(3, .int x51), (0, .ref (g.2.2.1 v0)), (1, .int v1), (2, .int v2), (4, .int v4)]) hx hb dX0_statesAfter_51 hl rfl (by rw [e51]; rfl) (by decide) rfl (fun ls hl => ?_)
      refine lv_goto (tgt := 4) hx hb dX0_statesAfter_54 (by decide) ?_
      exact hk4 _ _ _ _ _ _ _ h w q0 (lv_sub hl [1, 2, 3, 0] rfl)
    · have h := fy_if_f h hc
      refine lv_iload_n hx hb dX0_statesAfter_32 rfl (lv_at hl 2 rfl) ?_
      refine lv_aload_n hx hb dX0_statesAfter_33 rfl (lv_at hl 0 rfl) ?_
      refine lv_iload_n hx hb dX0_statesAfter_34 rfl (lv_at hl 3 rfl) ?_
      refine lv_iload hx hb dX0_statesAfter_35 (lv_at hl 4 rfl) ?_
      obtain ⟨r37, h37, h⟩ := fy_bd_some h
      refine fy_calE w (fy_runV (As := [.int v3, .int v4]) (rest := [.int v2]) C w (c_X0_move l g hcl q0 h37) (X_o0 hcl q0) ksX0_56 rfl ⟨Nat.le_of_ble_eq_true rfl, Nat.le_of_ble_eq_true rfl⟩ rfl hl.1 rfl (Nat.le_of_ble_eq_true rfl) ⟨Nat.le_refl _, Nat.le_refl _⟩ dX0_statesAfter_37) (fun H locs w => ?_)
      cases r37 with
      | none =>
        dsimp only at h
        cases h
      | some r37_ =>
        dsimp only at h
        obtain ⟨r40, h40, h⟩ := fy_bd_some h
        refine fy_calI w (fy_runV (As := []) (rest := [.int v2]) C w (c_X2_statesInside l g hcl (cls_X0_move hcl q0 h37) h40) (X_o2 hcl (cls_X0_move hcl q0 h37)) ksX0_92 rfl ⟨Nat.le_of_ble_eq_true rfl, Nat.le_of_ble_eq_true rfl⟩ rfl hl.1 rfl (Nat.le_of_ble_eq_true rfl) ⟨Nat.le_refl _, Nat.le_refl _⟩ dX0_statesAfter_40) (fun H locs w => ?_)
        refine lv_ior hx hb dX0_statesAfter_43 ?_
        refine lv_topi (fun x44 e44 => ?_)
        have h := fy_bl_some e44 h
        refine lv_istore_n (lv' := [(2, .int x44), (0, .ref (g.2.2.1 v0)), (1, .int v1), (3, .int v3), (4, .int v4)]) hx hb dX0_statesAfter_44 rfl hl (by decide) rfl (fun ls hl => ?_)
        obtain ⟨x45, e45⟩ : ∃ z : Int32, z = v4 + (1 : Int32) := ⟨_, rfl⟩
        have h := fy_bl_some e45 h
        refine lv_iinc (k := 4) (v := x45) (lv' := [(4, .int x45), (2, .int x44), (0, .ref (g.2.2.1 v0)), (1, .int v1), (3, .int v3)]) hx hb dX0_statesAfter_45 hl rfl (by rw [e45]; rfl) (by decide) rfl (fun ls hl => ?_)
        refine lv_goto (tgt := 23) hx hb dX0_statesAfter_48 (by decide) ?_
        exact ih _ _ _ _ _ _ _ _ h w q0 (lv_sub hl [2, 3, 1, 4, 0] rfl)

set_option maxHeartbeats 4000000 in
set_option maxRecDepth 100000 in
theorem t_X0_statesAfter_4 {p : Program} {l : Launch} {e : Env} {s : State} {m : MethodId} {args : Array Value} {below : List Frame} {meth : Method} {c : Code} {g : fy_G} {y : fy_Y} (C : fy_C g y p s m args meth c yX0_statesAfter.cls cX0_statesAfter 5 (some .int)) (hcl : X_clo y) {S : fy_S} {rr : Int32} : ∀ (fu : Nat) (v0 : Nat) (v1 : Int32) (v2 : Int32) (v3 : Int32) (H : Heap) (locs : List Loc) (ls : Array Slot), X0_statesAfter_4 S fu v0 v1 v2 v3 = some rr → fy_W g y S s H locs → X_is y 0 v0 → lv_has ls 5 [(0, .ref (g.2.2.1 v0)), (1, .int v1), (2, .int v2), (3, .int v3)] → W p l e (fy_rm 2) s m args below meth c H locs 0 0 (MQ below (fy_QI g y rr S) args s 0 0 (fy_A g y)) (F0 m 4 ls []) := by
  obtain ⟨hx, hb, hr, hts, hown, hlk, hml, hK, hD, hE, hN⟩ := id C
  intro fu
  induction fu with
  | zero => intro v0 v1 v2 v3 H locs ls h; cases h
  | succ fu ih =>
    intro v0 v1 v2 v3 H locs ls h w q0 hl
    rw [X0_statesAfter_4] at h
    refine lv_iload_n hx hb dX0_statesAfter_4 rfl (lv_at hl 3 rfl) ?_
    refine lv_aload_n hx hb dX0_statesAfter_5 rfl (lv_at hl 0 rfl) ?_
    refine gfX0_30 hcl C w q0 dX0_statesAfter_6 ?_
    refine lv_icmp_ge (tgt := 57) hx hb dX0_statesAfter_9 (by decide) (fun hc => ?_) (fun hc => ?_)
    · have h := fy_if_t h hc
      refine lv_iload_n hx hb dX0_statesAfter_57 rfl (lv_at hl 2 rfl) ?_
      cases h
      exact fy_retI C w dX0_statesAfter_58
    · have h := fy_if_f h hc
      refine lv_iload_n hx hb dX0_statesAfter_12 rfl (lv_at hl 1 rfl) ?_
      refine lv_iload_n hx hb dX0_statesAfter_13 rfl (lv_at hl 3 rfl) ?_
      refine lv_ishr hx hb dX0_statesAfter_14 ?_
      refine lv_iconst (v := (1 : Int32)) hx hb dX0_statesAfter_15 (by decide) ?_
      refine lv_iand hx hb dX0_statesAfter_16 ?_
      refine lv_if_eq (tgt := 51) hx hb dX0_statesAfter_17 (by decide) (fun hc => ?_) (fun hc => ?_)
      · have h := fy_if_t h hc
        obtain ⟨x51, e51⟩ : ∃ z : Int32, z = v3 + (1 : Int32) := ⟨_, rfl⟩
        have h := fy_bl_some e51 h
        refine lv_iinc (k := 3) (v := x51) (lv' := [(3, .int x51), (0, .ref (g.2.2.1 v0)), (1, .int v1), (2, .int v2)]) hx hb dX0_statesAfter_51 hl rfl (by rw [e51]; rfl) (by decide) rfl (fun ls hl => ?_)
        refine lv_goto (tgt := 4) hx hb dX0_statesAfter_54 (by decide) ?_
        exact ih _ _ _ _ _ _ _ h w q0 (lv_sub hl [1, 2, 3, 0] rfl)
      · have h := fy_if_f h hc
        refine lv_iconst (v := (0 : Int32)) hx hb dX0_statesAfter_20 (by decide) ?_
        refine lv_istore (lv' := [(4, .int (0 : Int32)), (0, .ref (g.2.2.1 v0)), (1, .int v1), (2, .int v2), (3, .int v3)]) hx hb dX0_statesAfter_21 hl (by decide) rfl (fun ls hl => ?_)
        exact t_X0_statesAfter_23 C hcl ih fy_fu _ _ _ _ _ _ _ _ h w q0 (lv_sub hl [1, 2, 3, 4, 0] rfl)

set_option maxHeartbeats 4000000 in
set_option maxRecDepth 100000 in
theorem t_X0_statesAfter {p : Program} {l : Launch} {e : Env} {s : State} {m : MethodId} {args : Array Value} {below : List Frame} {meth : Method} {c : Code} {g : fy_G} {y : fy_Y} (C : fy_C g y p s m args meth c yX0_statesAfter.cls cX0_statesAfter 5 (some .int)) (hcl : X_clo y) {S : fy_S} {v0 : Nat} {v1 : Int32} {rr : Int32} (q0 : X_is y 0 v0) {H : Heap} {locs : List Loc} {ls : Array Slot} (h : X0_statesAfter S v0 v1 = some rr) (w : fy_W g y S s H locs) (hl : lv_has ls 5 [(0, .ref (g.2.2.1 v0)), (1, .int v1)]) : W p l e (fy_rm 2) s m args below meth c H locs 0 0 (MQ below (fy_QI g y rr S) args s 0 0 (fy_A g y)) (F0 m 0 ls []) := by
  obtain ⟨hx, hb, hr, hts, hown, hlk, hml, hK, hD, hE, hN⟩ := id C
  rw [X0_statesAfter] at h
  refine lv_iconst (v := (0 : Int32)) hx hb dX0_statesAfter_0 (by decide) ?_
  refine lv_istore_n (lv' := [(2, .int (0 : Int32)), (0, .ref (g.2.2.1 v0)), (1, .int v1)]) hx hb dX0_statesAfter_1 rfl hl (by decide) rfl (fun ls hl => ?_)
  refine lv_iconst (v := (0 : Int32)) hx hb dX0_statesAfter_2 (by decide) ?_
  refine lv_istore_n (lv' := [(3, .int (0 : Int32)), (2, .int (0 : Int32)), (0, .ref (g.2.2.1 v0)), (1, .int v1)]) hx hb dX0_statesAfter_3 rfl hl (by decide) rfl (fun ls hl => ?_)
  exact t_X0_statesAfter_4 C hcl fy_fu _ _ _ _ _ _ _ h w q0 (lv_sub hl [2, 3, 1, 0] rfl)

set_option maxHeartbeats 4000000 in
set_option maxRecDepth 100000 in
theorem c_X0_statesAfter (l : Launch) (g : fy_G) {y : fy_Y} (hcl : X_clo y) {S : fy_S} {v0 : Nat} {v1 : Int32} {rr : Int32} (q0 : X_is y 0 v0) (h : X0_statesAfter S v0 v1 = some rr) : fy_M g y l yX0_statesAfter cX0_statesAfter 5 (some .int) (fy_rm 2) [.ref (g.2.2.1 v0), .int v1] S (fy_QI g y rr S) :=
  fy_entry (by decide +kernel) (Nat.le_of_ble_eq_true rfl) (fun p e s m args below meth c ls C w hl => t_X0_statesAfter C hcl q0 h w hl)
def X0_statesThatMatter_12 (S : fy_S) : Nat → Nat → Int32 → Int32 → Int32 → Option (Int32)
  | 0, _, _, _, _ => none
  | fu + 1, v0, v1, v2, v3 =>
    if (6 : Int32) < v3 then (
      some v1)
    else (
      if v1 = v2 then (
        some v1)
      else (
        fy_bd (X0_statesAfter S v0 v1) fun r28 =>
        fy_bl (v1 ||| r28) fun x32 =>
        fy_bl (v3 + (1 : Int32)) fun x33 =>
        X0_statesThatMatter_12 S fu v0 x32 v1 x33))
def X0_statesThatMatter (S : fy_S) (v0 : Nat) : Option (Int32) :=
  fy_bd (X2_statesInside S (v0 + 3)) fun r4 =>
  X0_statesThatMatter_12 S fy_fu v0 r4 (0 : Int32) (0 : Int32)
set_option maxHeartbeats 4000000 in
set_option maxRecDepth 100000 in
theorem t_X0_statesThatMatter_12 {p : Program} {l : Launch} {e : Env} {s : State} {m : MethodId} {args : Array Value} {below : List Frame} {meth : Method} {c : Code} {g : fy_G} {y : fy_Y} (C : fy_C g y p s m args meth c yX0_statesThatMatter.cls cX0_statesThatMatter 4 (some .int)) (hcl : X_clo y) {S : fy_S} {rr : Int32} : ∀ (fu : Nat) (v0 : Nat) (v1 : Int32) (v2 : Int32) (v3 : Int32) (H : Heap) (locs : List Loc) (ls : Array Slot), X0_statesThatMatter_12 S fu v0 v1 v2 v3 = some rr → fy_W g y S s H locs → X_is y 0 v0 → lv_has ls 4 [(0, .ref (g.2.2.1 v0)), (1, .int v1), (2, .int v2), (3, .int v3)] → W p l e (fy_rm 3) s m args below meth c H locs 0 0 (MQ below (fy_QI g y rr S) args s 0 0 (fy_A g y)) (F0 m 12 ls []) := by
  obtain ⟨hx, hb, hr, hts, hown, hlk, hml, hK, hD, hE, hN⟩ := id C
  intro fu
  induction fu with
  | zero => intro v0 v1 v2 v3 H locs ls h; cases h
  | succ fu ih =>
    intro v0 v1 v2 v3 H locs ls h w q0 hl
    rw [X0_statesThatMatter_12] at h
    refine lv_iload_n hx hb dX0_statesThatMatter_12 rfl (lv_at hl 3 rfl) ?_
    refine lv_bipush (v := (6 : Int32)) hx hb dX0_statesThatMatter_13 (by decide) ?_
    refine lv_icmp_gt (tgt := 39) hx hb dX0_statesThatMatter_15 (by decide) (fun hc => ?_) (fun hc => ?_)
    · have h := fy_if_t h hc
      refine lv_iload_n hx hb dX0_statesThatMatter_39 rfl (lv_at hl 1 rfl) ?_
      cases h
      exact fy_retI C w dX0_statesThatMatter_40
    · have h := fy_if_f h hc
      refine lv_iload_n hx hb dX0_statesThatMatter_18 rfl (lv_at hl 1 rfl) ?_
      refine lv_iload_n hx hb dX0_statesThatMatter_19 rfl (lv_at hl 2 rfl) ?_
      refine lv_icmp_eq (tgt := 39) hx hb dX0_statesThatMatter_20 (by decide) (fun hc => ?_) (fun hc => ?_)
      · have h := fy_if_t h hc
        refine lv_iload_n hx hb dX0_statesThatMatter_39 rfl (lv_at hl 1 rfl) ?_
        cases h
        exact fy_retI C w dX0_statesThatMatter_40
      · have h := fy_if_f h hc
        refine lv_iload_n hx hb dX0_statesThatMatter_23 rfl (lv_at hl 1 rfl) ?_
        refine lv_istore_n (lv' := [(2, .int v1), (0, .ref (g.2.2.1 v0)), (1, .int v1), (3, .int v3)]) hx hb dX0_statesThatMatter_24 rfl hl (by decide) rfl (fun ls hl => ?_)
        refine lv_iload_n hx hb dX0_statesThatMatter_25 rfl (lv_at hl 2 rfl) ?_
        refine lv_aload_n hx hb dX0_statesThatMatter_26 rfl (lv_at hl 1 rfl) ?_
        refine lv_iload_n hx hb dX0_statesThatMatter_27 rfl (lv_at hl 0 rfl) ?_
        obtain ⟨r28, h28, h⟩ := fy_bd_some h
        refine fy_calI w (fy_runV (As := [.int v1]) (rest := [.int v1]) C w (c_X0_statesAfter l g hcl q0 h28) (X_o0 hcl q0) ksX0_96 rfl ⟨Nat.le_of_ble_eq_true rfl, Nat.le_of_ble_eq_true rfl⟩ rfl hl.1 rfl (Nat.le_of_ble_eq_true rfl) ⟨Nat.le_refl _, Nat.le_refl _⟩ dX0_statesThatMatter_28) (fun H locs w => ?_)
        refine lv_ior hx hb dX0_statesThatMatter_31 ?_
        refine lv_topi (fun x32 e32 => ?_)
        have h := fy_bl_some e32 h
        refine lv_istore_n (lv' := [(1, .int x32), (2, .int v1), (0, .ref (g.2.2.1 v0)), (3, .int v3)]) hx hb dX0_statesThatMatter_32 rfl hl (by decide) rfl (fun ls hl => ?_)
        obtain ⟨x33, e33⟩ : ∃ z : Int32, z = v3 + (1 : Int32) := ⟨_, rfl⟩
        have h := fy_bl_some e33 h
        refine lv_iinc (k := 3) (v := x33) (lv' := [(3, .int x33), (1, .int x32), (2, .int v1), (0, .ref (g.2.2.1 v0))]) hx hb dX0_statesThatMatter_33 hl rfl (by rw [e33]; rfl) (by decide) rfl (fun ls hl => ?_)
        refine lv_goto (tgt := 12) hx hb dX0_statesThatMatter_36 (by decide) ?_
        exact ih _ _ _ _ _ _ _ h w q0 (lv_sub hl [3, 1, 2, 0] rfl)

set_option maxHeartbeats 4000000 in
set_option maxRecDepth 100000 in
theorem t_X0_statesThatMatter {p : Program} {l : Launch} {e : Env} {s : State} {m : MethodId} {args : Array Value} {below : List Frame} {meth : Method} {c : Code} {g : fy_G} {y : fy_Y} (C : fy_C g y p s m args meth c yX0_statesThatMatter.cls cX0_statesThatMatter 4 (some .int)) (hcl : X_clo y) {S : fy_S} {v0 : Nat} {rr : Int32} (q0 : X_is y 0 v0) {H : Heap} {locs : List Loc} {ls : Array Slot} (h : X0_statesThatMatter S v0 = some rr) (w : fy_W g y S s H locs) (hl : lv_has ls 4 [(0, .ref (g.2.2.1 v0))]) : W p l e (fy_rm 3) s m args below meth c H locs 0 0 (MQ below (fy_QI g y rr S) args s 0 0 (fy_A g y)) (F0 m 0 ls []) := by
  obtain ⟨hx, hb, hr, hts, hown, hlk, hml, hK, hD, hE, hN⟩ := id C
  rw [X0_statesThatMatter] at h
  refine lv_aload_n hx hb dX0_statesThatMatter_0 rfl (lv_at hl 0 rfl) ?_
  refine gfX0_18 hcl C w q0 dX0_statesThatMatter_1 ?_
  obtain ⟨r4, h4, h⟩ := fy_bd_some h
  refine fy_calI w (fy_runV (As := []) (rest := []) C w (c_X2_statesInside l g hcl (X_f0_initial hcl q0) h4) (X_o2 hcl (X_f0_initial hcl q0)) ksX0_92 rfl ⟨Nat.le_of_ble_eq_true rfl, Nat.le_of_ble_eq_true rfl⟩ rfl hl.1 rfl (Nat.le_of_ble_eq_true rfl) ⟨Nat.le_refl _, Nat.le_refl _⟩ dX0_statesThatMatter_4) (fun H locs w => ?_)
  refine lv_istore_n (lv' := [(1, .int r4), (0, .ref (g.2.2.1 v0))]) hx hb dX0_statesThatMatter_7 rfl hl (by decide) rfl (fun ls hl => ?_)
  refine lv_iconst (v := (0 : Int32)) hx hb dX0_statesThatMatter_8 (by decide) ?_
  refine lv_istore_n (lv' := [(2, .int (0 : Int32)), (1, .int r4), (0, .ref (g.2.2.1 v0))]) hx hb dX0_statesThatMatter_9 rfl hl (by decide) rfl (fun ls hl => ?_)
  refine lv_iconst (v := (0 : Int32)) hx hb dX0_statesThatMatter_10 (by decide) ?_
  refine lv_istore_n (lv' := [(3, .int (0 : Int32)), (2, .int (0 : Int32)), (1, .int r4), (0, .ref (g.2.2.1 v0))]) hx hb dX0_statesThatMatter_11 rfl hl (by decide) rfl (fun ls hl => ?_)
  exact t_X0_statesThatMatter_12 C hcl fy_fu _ _ _ _ _ _ _ h w q0 (lv_sub hl [3, 2, 1, 0] rfl)

set_option maxHeartbeats 4000000 in
set_option maxRecDepth 100000 in
theorem c_X0_statesThatMatter (l : Launch) (g : fy_G) {y : fy_Y} (hcl : X_clo y) {S : fy_S} {v0 : Nat} {rr : Int32} (q0 : X_is y 0 v0) (h : X0_statesThatMatter S v0 = some rr) : fy_M g y l yX0_statesThatMatter cX0_statesThatMatter 4 (some .int) (fy_rm 3) [.ref (g.2.2.1 v0)] S (fy_QI g y rr S) :=
  fy_entry (by decide +kernel) (Nat.le_of_ble_eq_true rfl) (fun p e s m args below meth c ls C w hl => t_X0_statesThatMatter C hcl q0 h w hl)
def X9_relevantStates (S : fy_S) (v1 : Int32) : Option (Int32) :=
  fy_bd (X9_automatonIn S v1) fun r2 =>
  match r2 with
  | none => (
    some (-2 : Int32))
  | some r2_ => (
    fy_bd (X0_statesThatMatter S r2_) fun r16 =>
    some r16)
set_option maxHeartbeats 4000000 in
set_option maxRecDepth 100000 in
theorem t_X9_relevantStates {p : Program} {l : Launch} {e : Env} {s : State} {m : MethodId} {args : Array Value} {below : List Frame} {meth : Method} {c : Code} {g : fy_G} (C : fy_C g X_Y p s m args meth c yX9_relevantStates.cls cX9_relevantStates 3 (some .int)) {S : fy_S} {v1 : Int32} {rr : Int32}  {H : Heap} {locs : List Loc} {ls : Array Slot} (h : X9_relevantStates S v1 = some rr) (w : fy_W g X_Y S s H locs) (hl : lv_has ls 3 [(0, .ref (g.2.2.1 0)), (1, .int v1)]) : W p l e (fy_rm 4) s m args below meth c H locs 0 0 (MQ below (fy_QI g X_Y rr S) args s 0 0 (fy_A g X_Y)) (F0 m 0 ls []) := by
  obtain ⟨hx, hb, hr, hts, hown, hlk, hml, hK, hD, hE, hN⟩ := id C
  rw [X9_relevantStates] at h
  refine lv_aload_n hx hb dX9_relevantStates_0 rfl (lv_at hl 0 rfl) ?_
  refine lv_iload_n hx hb dX9_relevantStates_1 rfl (lv_at hl 1 rfl) ?_
  obtain ⟨r2, h2, h⟩ := fy_bd_some h
  refine fy_calE w (fy_runV (As := [.int v1]) (rest := []) C w (c_X9_automatonIn l g  h2) (X_o9 X_full (X_i0)) ksX9_88 rfl ⟨Nat.le_of_ble_eq_true rfl, Nat.le_of_ble_eq_true rfl⟩ rfl hl.1 rfl (Nat.le_of_ble_eq_true rfl) ⟨Nat.le_refl _, Nat.le_refl _⟩ dX9_relevantStates_2) (fun H locs w => ?_)
  refine fy_astoreO_n (lv' := [(2, va_re g.2.2.1 r2), (0, .ref (g.2.2.1 0)), (1, .int v1)]) hx hb dX9_relevantStates_5 rfl hl (by decide) rfl (fun ls hl => ?_)
  cases r2 with
  | none =>
    dsimp only at h
    refine lv_aload_nN hx hb dX9_relevantStates_6 rfl (lv_at hl 0 rfl) ?_
    refine lv_ifnonnullN hx hb dX9_relevantStates_7 ?_
    refine lv_bipush (v := (-2 : Int32)) hx hb dX9_relevantStates_10 (by decide) ?_
    refine lv_goto (tgt := 19) hx hb dX9_relevantStates_12 (by decide) ?_
    cases h
    exact fy_retI C w dX9_relevantStates_19
  | some r2_ =>
    dsimp only at h
    refine lv_aload_n hx hb dX9_relevantStates_6 rfl (lv_at hl 0 rfl) ?_
    refine lv_ifnonnull (tgt := 15) hx hb dX9_relevantStates_7 (by decide) ?_
    refine lv_aload_n hx hb dX9_relevantStates_15 rfl (lv_at hl 0 rfl) ?_
    obtain ⟨r16, h16, h⟩ := fy_bd_some h
    refine fy_calI w (fy_runV (As := []) (rest := []) C w (c_X0_statesThatMatter l g X_full (cls_X9_automatonIn  h2) h16) (X_o0 X_full (cls_X9_automatonIn  h2)) ksX9_230 rfl ⟨Nat.le_of_ble_eq_true rfl, Nat.le_of_ble_eq_true rfl⟩ rfl hl.1 rfl (Nat.le_of_ble_eq_true rfl) ⟨Nat.le_refl _, Nat.le_refl _⟩ dX9_relevantStates_16) (fun H locs w => ?_)
    cases h
    exact fy_retI C w dX9_relevantStates_19

set_option maxHeartbeats 4000000 in
set_option maxRecDepth 100000 in
theorem c_X9_relevantStates (l : Launch) (g : fy_G) {S : fy_S} {v1 : Int32} {rr : Int32}  (h : X9_relevantStates S v1 = some rr) : fy_M g X_Y l yX9_relevantStates cX9_relevantStates 3 (some .int) (fy_rm 4) [.ref (g.2.2.1 0), .int v1] S (fy_QI g X_Y rr S) :=
  fy_entry (by decide +kernel) (Nat.le_of_ble_eq_true rfl) (fun p e s m args below meth c ls C w hl => t_X9_relevantStates C  h w hl)
def X1_priceOf_17 (S : fy_S) (z0 : Int32) : Option (Int32) :=
  some ((z0 * (1000 : Int32)) + (1 : Int32))
def X1_priceOf (S : fy_S) (v0 : Nat) (v1 : Int32) : Option (Int32) :=
  if v1 < 0 then (
    X1_priceOf_17 S (1 : Int32))
  else (
    if (Int32.ofNat (X_al v0)) ≤ v1 then (
      X1_priceOf_17 S (1 : Int32))
    else (
      fy_gd (fy_ix v1 (X_al v0)) <|
      X1_priceOf_17 S (S.1 v0 v1.toNatClampNeg)))
set_option maxHeartbeats 4000000 in
set_option maxRecDepth 100000 in
theorem t_X1_priceOf_17 {p : Program} {l : Launch} {e : Env} {s : State} {m : MethodId} {args : Array Value} {below : List Frame} {meth : Method} {c : Code} {g : fy_G} (C : fy_C g X_Y p s m args meth c yX1_priceOf.cls cX1_priceOf 3 (some .int)) {S : fy_S} {rr : Int32} : ∀ (z0 : Int32) (H : Heap) (locs : List Loc) (ls : Array Slot), X1_priceOf_17 S z0 = some rr → fy_W g X_Y S s H locs → lv_has ls 3 [] → W p l e (fy_rm 0) s m args below meth c H locs 0 0 (MQ below (fy_QI g X_Y rr S) args s 0 0 (fy_A g X_Y)) (F0 m 17 ls [.int z0]) := by
  obtain ⟨hx, hb, hr, hts, hown, hlk, hml, hK, hD, hE, hN⟩ := id C
  intro z0 H locs ls h w  hl
  rw [X1_priceOf_17] at h
  refine lv_istore_n (lv' := [(2, .int z0)]) hx hb dX1_priceOf_17 rfl hl (by decide) rfl (fun ls hl => ?_)
  refine lv_iload_n hx hb dX1_priceOf_18 rfl (lv_at hl 0 rfl) ?_
  refine lv_sipush (v := (1000 : Int32)) hx hb dX1_priceOf_19 (by decide) ?_
  refine lv_imul hx hb dX1_priceOf_22 ?_
  refine lv_iconst (v := (1 : Int32)) hx hb dX1_priceOf_23 (by decide) ?_
  refine lv_iadd hx hb dX1_priceOf_24 ?_
  cases h
  exact fy_retI C w dX1_priceOf_25

set_option maxHeartbeats 4000000 in
set_option maxRecDepth 100000 in
theorem t_X1_priceOf {p : Program} {l : Launch} {e : Env} {s : State} {m : MethodId} {args : Array Value} {below : List Frame} {meth : Method} {c : Code} {g : fy_G} (C : fy_C g X_Y p s m args meth c yX1_priceOf.cls cX1_priceOf 3 (some .int)) {S : fy_S} {v0 : Nat} {v1 : Int32} {rr : Int32} (q0 : v0 ∈ X_Y.2 ∧ X_Y.1 v0 = .inl (0, X_al v0, X_ar v0)) {H : Heap} {locs : List Loc} {ls : Array Slot} (h : X1_priceOf S v0 v1 = some rr) (w : fy_W g X_Y S s H locs) (hl : lv_has ls 3 [(0, .ref (g.2.2.1 v0)), (1, .int v1)]) : W p l e (fy_rm 0) s m args below meth c H locs 0 0 (MQ below (fy_QI g X_Y rr S) args s 0 0 (fy_A g X_Y)) (F0 m 0 ls []) := by
  obtain ⟨hx, hb, hr, hts, hown, hlk, hml, hK, hD, hE, hN⟩ := id C
  rw [X1_priceOf] at h
  refine lv_iload_n hx hb dX1_priceOf_0 rfl (lv_at hl 1 rfl) ?_
  refine lv_if_lt (tgt := 16) hx hb dX1_priceOf_1 (by decide) (fun hc => ?_) (fun hc => ?_)
  · have h := fy_if_t h hc
    refine lv_iconst (v := (1 : Int32)) hx hb dX1_priceOf_16 (by decide) ?_
    exact t_X1_priceOf_17 C _ _ _ _ h w (lv_sub hl [] rfl)
  · have h := fy_if_f h hc
    refine lv_iload_n hx hb dX1_priceOf_4 rfl (lv_at hl 1 rfl) ?_
    refine lv_aload_n hx hb dX1_priceOf_5 rfl (lv_at hl 0 rfl) ?_
    refine fy_alen C w q0 (by decide) dX1_priceOf_6 ?_
    refine lv_icmp_ge (tgt := 16) hx hb dX1_priceOf_7 (by decide) (fun hc => ?_) (fun hc => ?_)
    · have h := fy_if_t h hc
      refine lv_iconst (v := (1 : Int32)) hx hb dX1_priceOf_16 (by decide) ?_
      exact t_X1_priceOf_17 C _ _ _ _ h w (lv_sub hl [] rfl)
    · have h := fy_if_f h hc
      refine lv_aload_n hx hb dX1_priceOf_10 rfl (lv_at hl 0 rfl) ?_
      refine lv_iload_n hx hb dX1_priceOf_11 rfl (lv_at hl 1 rfl) ?_
      obtain ⟨g12, h⟩ := fy_gd_some h
      refine fy_iald C w q0 g12 dX1_priceOf_12 ?_
      refine lv_goto (tgt := 17) hx hb dX1_priceOf_13 (by decide) ?_
      exact t_X1_priceOf_17 C _ _ _ _ h w (lv_sub hl [] rfl)

set_option maxHeartbeats 4000000 in
set_option maxRecDepth 100000 in
theorem c_X1_priceOf (l : Launch) (g : fy_G) {S : fy_S} {v0 : Nat} {v1 : Int32} {rr : Int32} (q0 : v0 ∈ X_Y.2 ∧ X_Y.1 v0 = .inl (0, X_al v0, X_ar v0)) (h : X1_priceOf S v0 v1 = some rr) : fy_M g X_Y l yX1_priceOf cX1_priceOf 3 (some .int) (fy_rm 0) [.ref (g.2.2.1 v0), .int v1] S (fy_QI g X_Y rr S) :=
  fy_entry (by decide +kernel) (Nat.le_of_ble_eq_true rfl) (fun p e s m args below meth c ls C w hl => t_X1_priceOf C q0 h w hl)
end
