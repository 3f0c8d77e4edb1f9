noncomputable section
def X7_load_50 (k39 : fy_S → Nat → Nat → Int32 → Int32 → Option (fy_S)) : Nat → fy_S → Nat → Nat → Int32 → Int32 → Int32 → Option (fy_S)
  | 0, _, _, _, _, _, _ => none
  | fu + 1, S, v0, v1, v2, v3, v4 =>
    if v2 ≤ v4 then (
      fy_bl (v3 + (1 : Int32)) fun x88 =>
      k39 S v0 v1 v2 x88)
    else (
      if (64 : Int32) ≤ v4 then (
        fy_bl (v3 + (1 : Int32)) fun x88 =>
        k39 S v0 v1 v2 x88)
      else (
        fy_bd (X0_statesBefore S v1 v3 v4) fun r78 =>
        fy_gd (fy_ix ((v3 * (64 : Int32)) + v4) 192) <|
        fy_bl (fy_sI S (v0 + 1) ((v3 * (64 : Int32)) + v4).toNatClampNeg r78) fun S81 =>
        fy_bl (v4 + (1 : Int32)) fun x82 =>
        X7_load_50 k39 fu S81 v0 v1 v2 v3 x82))
def X7_load_39 : Nat → fy_S → Nat → Nat → Int32 → Int32 → Option (fy_S)
  | 0, _, _, _, _, _ => none
  | fu + 1, S, v0, v1, v2, v3 =>
    if (S.1 v0 5) ≤ v3 then (
      some S)
    else (
      X7_load_50 (fun S v0 v1 v2 v3 => X7_load_39 fu S v0 v1 v2 v3) fy_fu S v0 v1 v2 v3 (0 : Int32))
def X7_load (S : fy_S) (v0 : Nat) (v1 : Nat) : Option (fy_S) :=
  fy_bl (fy_sI S v0 5 (S.1 v1 4)) fun S5 =>
  fy_bl (fy_sI S5 v0 6 ((S5.1 v1 5) &&& (63 : Int32))) fun S16 =>
  fy_bl (fy_sL S16 v0 7 (S16.2 (v1 + 3) 2)) fun S27 =>
  fy_bl ((1 : Int32) <<< ((S27.1 v1 3) &&& 31)) fun x36 =>
  X7_load_39 fy_fu S27 v0 v1 x36 (0 : Int32)
set_option maxHeartbeats 4000000 in
set_option maxRecDepth 100000 in
theorem t_X7_load_50 {p : Program} {l : Launch} {e : Env} {s : State} {m : MethodId} {args : Array Value} {below : List Frame} {meth : Method} {c : Code} {g : fy_G} (C : fy_C g X_Y p s m args meth c yX7_load.cls cX7_load 5 none) {Sr : fy_S}  {k39 : fy_S → Nat → Nat → Int32 → Int32 → Option (fy_S)} (hk39 : ∀ (S : fy_S) (v0 : Nat) (v1 : Nat) (v2 : Int32) (v3 : Int32) (H : Heap) (locs : List Loc) (ls : Array Slot), k39 S v0 v1 v2 v3 = some Sr → fy_W g X_Y S s H locs → X_is X_Y 7 v0 → X_is X_Y 0 v1 → lv_has ls 5 [(0, .ref (g.2.2.1 v0)), (1, .ref (g.2.2.1 v1)), (2, .int v2), (3, .int v3)] → W p l e (fy_rm 3) s m args below meth c H locs 0 0 (MQ below (fy_QV g X_Y Sr) args s 0 0 (fy_A g X_Y)) (F0 m 39 ls [])) : ∀ (fu : Nat) (S : fy_S) (v0 : Nat) (v1 : Nat) (v2 : Int32) (v3 : Int32) (v4 : Int32) (H : Heap) (locs : List Loc) (ls : Array Slot), X7_load_50 k39 fu S v0 v1 v2 v3 v4 = some Sr → fy_W g X_Y S s H locs → X_is X_Y 7 v0 → X_is X_Y 0 v1 → lv_has ls 5 [(0, .ref (g.2.2.1 v0)), (1, .ref (g.2.2.1 v1)), (2, .int v2), (3, .int v3), (4, .int v4)] → W p l e (fy_rm 3) s m args below meth c H locs 0 0 (MQ below (fy_QV g X_Y Sr) args s 0 0 (fy_A g X_Y)) (F0 m 50 ls []) := by
  obtain ⟨hx, hb, hr, hts, hown, hlk, hml, hK, hD, hE, hN⟩ := id C
  intro fu
  induction fu with
  | zero => intro S v0 v1 v2 v3 v4 H locs ls h; cases h
  | succ fu ih =>
    intro S v0 v1 v2 v3 v4 H locs ls h w q0 q1 hl
    rw [X7_load_50] at h
    refine lv_iload hx hb dX7_load_50 (lv_at hl 4 rfl) ?_
    refine lv_iload_n hx hb dX7_load_52 rfl (lv_at hl 2 rfl) ?_
    refine lv_icmp_ge (tgt := 88) hx hb dX7_load_53 (by decide) (fun hc => ?_) (fun hc => ?_)
    · have h := fy_if_t h hc
      obtain ⟨x88, e88⟩ : ∃ z : Int32, z = v3 + (1 : Int32) := ⟨_, rfl⟩
      have h := fy_bl_some e88 h
      refine lv_iinc (k := 3) (v := x88) (lv' := [(3, .int x88), (0, .ref (g.2.2.1 v0)), (1, .ref (g.2.2.1 v1)), (2, .int v2), (4, .int v4)]) hx hb dX7_load_88 hl rfl (by rw [e88]; rfl) (by decide) rfl (fun ls hl => ?_)
      refine lv_goto (tgt := 39) hx hb dX7_load_91 (by decide) ?_
      exact hk39 _ _ _ _ _ _ _ _ h w q0 q1 (lv_sub hl [1, 2, 3, 0] rfl)
    · have h := fy_if_f h hc
      refine lv_iload hx hb dX7_load_56 (lv_at hl 4 rfl) ?_
      refine lv_bipush (v := (64 : Int32)) hx hb dX7_load_58 (by decide) ?_
      refine lv_icmp_ge (tgt := 88) hx hb dX7_load_60 (by decide) (fun hc => ?_) (fun hc => ?_)
      · have h := fy_if_t h hc
        obtain ⟨x88, e88⟩ : ∃ z : Int32, z = v3 + (1 : Int32) := ⟨_, rfl⟩
        have h := fy_bl_some e88 h
        refine lv_iinc (k := 3) (v := x88) (lv' := [(3, .int x88), (0, .ref (g.2.2.1 v0)), (1, .ref (g.2.2.1 v1)), (2, .int v2), (4, .int v4)]) hx hb dX7_load_88 hl rfl (by rw [e88]; rfl) (by decide) rfl (fun ls hl => ?_)
        refine lv_goto (tgt := 39) hx hb dX7_load_91 (by decide) ?_
        exact hk39 _ _ _ _ _ _ _ _ h w q0 q1 (lv_sub hl [1, 2, 3, 0] rfl)
      · have h := fy_if_f h hc
        refine lv_aload_n hx hb dX7_load_63 rfl (lv_at hl 0 rfl) ?_
        refine gfX7_9 X_full C w q0 dX7_load_64 ?_
        refine lv_iload_n hx hb dX7_load_67 rfl (lv_at hl 3 rfl) ?_
        refine lv_bipush (v := (64 : Int32)) hx hb dX7_load_68 (by decide) ?_
        refine lv_imul hx hb dX7_load_70 ?_
        refine lv_iload hx hb dX7_load_71 (lv_at hl 4 rfl) ?_
        refine lv_iadd hx hb dX7_load_73 ?_
        refine lv_aload_n hx hb dX7_load_74 rfl (lv_at hl 1 rfl) ?_
        refine lv_iload_n hx hb dX7_load_75 rfl (lv_at hl 3 rfl) ?_
        refine lv_iload hx hb dX7_load_76 (lv_at hl 4 rfl) ?_
        obtain ⟨r78, h78, h⟩ := fy_bd_some h
        refine fy_calI w (fy_runV (As := [.int v3, .int v4]) (rest := [.int ((v3 * (64 : Int32)) + v4), .ref (g.2.2.1 (v0 + 1))]) C w (c_X0_statesBefore l g X_full q1 h78) (X_o0 X_full q1) ksX7_57 rfl ⟨Nat.le_of_ble_eq_true rfl, Nat.le_of_ble_eq_true rfl⟩ rfl hl.1 rfl (Nat.le_of_ble_eq_true rfl) ⟨Nat.le_refl _, Nat.le_refl _⟩ dX7_load_78) (fun H locs w => ?_)
        obtain ⟨g81, h⟩ := fy_gd_some h
        refine fy_iast C w (X_f7_steps X_full q0) g81 dX7_load_81 (fun H locs w => ?_)
        obtain ⟨S81, e81⟩ : ∃ z, z = fy_sI S (v0 + 1) ((v3 * (64 : Int32)) + v4).toNatClampNeg r78 := ⟨_, rfl⟩
        have h := fy_bl_some e81 h
        rw [← e81] at w
        obtain ⟨x82, e82⟩ : ∃ z : Int32, z = v4 + (1 : Int32) := ⟨_, rfl⟩
        have h := fy_bl_some e82 h
        refine lv_iinc (k := 4) (v := x82) (lv' := [(4, .int x82), (0, .ref (g.2.2.1 v0)), (1, .ref (g.2.2.1 v1)), (2, .int v2), (3, .int v3)]) hx hb dX7_load_82 hl rfl (by rw [e82]; rfl) (by decide) rfl (fun ls hl => ?_)
        refine lv_goto (tgt := 50) hx hb dX7_load_85 (by decide) ?_
        exact ih _ _ _ _ _ _ _ _ _ h w q0 q1 (lv_sub hl [1, 2, 3, 4, 0] rfl)

set_option maxHeartbeats 4000000 in
set_option maxRecDepth 100000 in
theorem t_X7_load_39 {p : Program} {l : Launch} {e : Env} {s : State} {m : MethodId} {args : Array Value} {below : List Frame} {meth : Method} {c : Code} {g : fy_G} (C : fy_C g X_Y p s m args meth c yX7_load.cls cX7_load 5 none) {Sr : fy_S}  : ∀ (fu : Nat) (S : fy_S) (v0 : Nat) (v1 : Nat) (v2 : Int32) (v3 : Int32) (H : Heap) (locs : List Loc) (ls : Array Slot), X7_load_39 fu S v0 v1 v2 v3 = some Sr → fy_W g X_Y S s H locs → X_is X_Y 7 v0 → X_is X_Y 0 v1 → lv_has ls 5 [(0, .ref (g.2.2.1 v0)), (1, .ref (g.2.2.1 v1)), (2, .int v2), (3, .int v3)] → W p l e (fy_rm 3) s m args below meth c H locs 0 0 (MQ below (fy_QV g X_Y Sr) args s 0 0 (fy_A g X_Y)) (F0 m 39 ls []) := by
  obtain ⟨hx, hb, hr, hts, hown, hlk, hml, hK, hD, hE, hN⟩ := id C
  intro fu
  induction fu with
  | zero => intro S v0 v1 v2 v3 H locs ls h; cases h
  | succ fu ih =>
    intro S v0 v1 v2 v3 H locs ls h w q0 q1 hl
    rw [X7_load_39] at h
    refine lv_iload_n hx hb dX7_load_39 rfl (lv_at hl 3 rfl) ?_
    refine lv_aload_n hx hb dX7_load_40 rfl (lv_at hl 0 rfl) ?_
    refine gfX7_28 X_full C w q0 dX7_load_41 ?_
    refine lv_icmp_ge (tgt := 94) hx hb dX7_load_44 (by decide) (fun hc => ?_) (fun hc => ?_)
    · have h := fy_if_t h hc
      cases h
      exact fy_retV C w dX7_load_94
    · have h := fy_if_f h hc
      refine lv_iconst (v := (0 : Int32)) hx hb dX7_load_47 (by decide) ?_
      refine lv_istore (lv' := [(4, .int (0 : Int32)), (0, .ref (g.2.2.1 v0)), (1, .ref (g.2.2.1 v1)), (2, .int v2), (3, .int v3)]) hx hb dX7_load_48 hl (by decide) rfl (fun ls hl => ?_)
      exact t_X7_load_50 C ih fy_fu _ _ _ _ _ _ _ _ _ h w q0 q1 (lv_sub hl [1, 2, 3, 4, 0] rfl)

set_option maxHeartbeats 4000000 in
set_option maxRecDepth 100000 in
theorem t_X7_load {p : Program} {l : Launch} {e : Env} {s : State} {m : MethodId} {args : Array Value} {below : List Frame} {meth : Method} {c : Code} {g : fy_G} (C : fy_C g X_Y p s m args meth c yX7_load.cls cX7_load 5 none) {S : fy_S} {v0 : Nat} {v1 : Nat} {Sr : fy_S}  (q0 : X_is X_Y 7 v0) (q1 : X_is X_Y 0 v1) {H : Heap} {locs : List Loc} {ls : Array Slot} (h : X7_load S v0 v1 = some Sr) (w : fy_W g X_Y S s H locs) (hl : lv_has ls 5 [(0, .ref (g.2.2.1 v0)), (1, .ref (g.2.2.1 v1))]) : W p l e (fy_rm 3) s m args below meth c H locs 0 0 (MQ below (fy_QV g X_Y Sr) args s 0 0 (fy_A g X_Y)) (F0 m 0 ls []) := by
  obtain ⟨hx, hb, hr, hts, hown, hlk, hml, hK, hD, hE, hN⟩ := id C
  rw [X7_load] at h
  refine lv_aload_n hx hb dX7_load_0 rfl (lv_at hl 0 rfl) ?_
  refine lv_aload_n hx hb dX7_load_1 rfl (lv_at hl 1 rfl) ?_
  refine gfX7_39 X_full C w q1 dX7_load_2 ?_
  refine pfX7_28 X_full C w q0 dX7_load_5 (fun H locs w => ?_)
  obtain ⟨S5, e5⟩ : ∃ z, z = fy_sI S v0 5 (S.1 v1 4) := ⟨_, rfl⟩
  have h := fy_bl_some e5 h
  rw [← e5] at w
  refine lv_aload_n hx hb dX7_load_8 rfl (lv_at hl 0 rfl) ?_
  refine lv_aload_n hx hb dX7_load_9 rfl (lv_at hl 1 rfl) ?_
  refine gfX7_42 X_full C w q1 dX7_load_10 ?_
  refine lv_bipush (v := (63 : Int32)) hx hb dX7_load_13 (by decide) ?_
  refine lv_iand hx hb dX7_load_15 ?_
  refine pfX7_32 X_full C w q0 dX7_load_16 (fun H locs w => ?_)
  obtain ⟨S16, e16⟩ : ∃ z, z = fy_sI S5 v0 6 ((S5.1 v1 5) &&& (63 : Int32)) := ⟨_, rfl⟩
  have h := fy_bl_some e16 h
  rw [← e16] at w
  refine lv_aload_n hx hb dX7_load_19 rfl (lv_at hl 0 rfl) ?_
  refine lv_aload_n hx hb dX7_load_20 rfl (lv_at hl 1 rfl) ?_
  refine gfX7_45 X_full C w q1 dX7_load_21 ?_
  refine gfX7_49 X_full C w (X_f0_initial X_full q1) dX7_load_24 ?_
  refine pfX7_35 X_full C w q0 dX7_load_27 (fun H locs w => ?_)
  obtain ⟨S27, e27⟩ : ∃ z, z = fy_sL S16 v0 7 (S16.2 (v1 + 3) 2) := ⟨_, rfl⟩
  have h := fy_bl_some e27 h
  rw [← e27] at w
  refine lv_iconst (v := (1 : Int32)) hx hb dX7_load_30 (by decide) ?_
  refine lv_aload_n hx hb dX7_load_31 rfl (lv_at hl 1 rfl) ?_
  refine gfX7_54 X_full C w q1 dX7_load_32 ?_
  refine lv_ishl hx hb dX7_load_35 ?_
  refine lv_topi (fun x36 e36 => ?_)
  have h := fy_bl_some e36 h
  refine lv_istore_n (lv' := [(2, .int x36), (0, .ref (g.2.2.1 v0)), (1, .ref (g.2.2.1 v1))]) hx hb dX7_load_36 rfl hl (by decide) rfl (fun ls hl => ?_)
  refine lv_iconst (v := (0 : Int32)) hx hb dX7_load_37 (by decide) ?_
  refine lv_istore_n (lv' := [(3, .int (0 : Int32)), (2, .int x36), (0, .ref (g.2.2.1 v0)), (1, .ref (g.2.2.1 v1))]) hx hb dX7_load_38 rfl hl (by decide) rfl (fun ls hl => ?_)
  exact t_X7_load_39 C fy_fu _ _ _ _ _ _ _ _ h w q0 q1 (lv_sub hl [2, 3, 1, 0] rfl)

set_option maxHeartbeats 4000000 in
set_option maxRecDepth 100000 in
theorem c_X7_load (l : Launch) (g : fy_G) {S : fy_S} {v0 : Nat} {v1 : Nat} {Sr : fy_S}  (q0 : X_is X_Y 7 v0) (q1 : X_is X_Y 0 v1) (h : X7_load S v0 v1 = some Sr) : fy_M g X_Y l yX7_load cX7_load 5 none (fy_rm 3) [.ref (g.2.2.1 v0), .ref (g.2.2.1 v1)] S (fy_QV g X_Y Sr) :=
  fy_entry (by decide +kernel) (Nat.le_of_ble_eq_true rfl) (fun p e s m args below meth c ls C w hl => t_X7_load C q0 q1 h w hl)
def X7_step (S : fy_S) (v0 : Nat) (v1 : Int32) (v2 : Int32) : Option (Int32) :=
  fy_bl ((v2 * (64 : Int32)) + v1) fun x6 =>
  if x6 < 0 then (
    some (0 : Int32))
  else (
    if (Int32.ofNat 192) ≤ x6 then (
      some (0 : Int32))
    else (
      fy_gd (fy_ix x6 192) <|
      some ((S.1 (v0 + 1) x6.toNatClampNeg) &&& (63 : Int32))))
set_option maxHeartbeats 4000000 in
set_option maxRecDepth 100000 in
theorem t_X7_step {p : Program} {l : Launch} {e : Env} {s : State} {m : MethodId} {args : Array Value} {below : List Frame} {meth : Method} {c : Code} {g : fy_G} (C : fy_C g X_Y p s m args meth c yX7_step.cls cX7_step 4 (some .int)) {S : fy_S} {v0 : Nat} {v1 : Int32} {v2 : Int32} {rr : Int32} (q0 : X_is X_Y 7 v0) {H : Heap} {locs : List Loc} {ls : Array Slot} (h : X7_step S v0 v1 v2 = some rr) (w : fy_W g X_Y S s H locs) (hl : lv_has ls 4 [(0, .ref (g.2.2.1 v0)), (1, .int v1), (2, .int v2)]) : W p l e (fy_rm 0) s m args below meth c H locs 0 0 (MQ below (fy_QI g X_Y rr S) args s 0 0 (fy_A g X_Y)) (F0 m 0 ls []) := by
  obtain ⟨hx, hb, hr, hts, hown, hlk, hml, hK, hD, hE, hN⟩ := id C
  rw [X7_step] at h
  refine lv_iload_n hx hb dX7_step_0 rfl (lv_at hl 2 rfl) ?_
  refine lv_bipush (v := (64 : Int32)) hx hb dX7_step_1 (by decide) ?_
  refine lv_imul hx hb dX7_step_3 ?_
  refine lv_iload_n hx hb dX7_step_4 rfl (lv_at hl 1 rfl) ?_
  refine lv_iadd hx hb dX7_step_5 ?_
  refine lv_topi (fun x6 e6 => ?_)
  have h := fy_bl_some e6 h
  refine lv_istore_n (lv' := [(3, .int x6), (0, .ref (g.2.2.1 v0)), (1, .int v1), (2, .int v2)]) hx hb dX7_step_6 rfl hl (by decide) rfl (fun ls hl => ?_)
  refine lv_iload_n hx hb dX7_step_7 rfl (lv_at hl 0 rfl) ?_
  refine lv_if_lt (tgt := 32) hx hb dX7_step_8 (by decide) (fun hc => ?_) (fun hc => ?_)
  · have h := fy_if_t h hc
    refine lv_iconst (v := (0 : Int32)) hx hb dX7_step_32 (by decide) ?_
    cases h
    exact fy_retI C w dX7_step_33
  · have h := fy_if_f h hc
    refine lv_iload_n hx hb dX7_step_11 rfl (lv_at hl 0 rfl) ?_
    refine lv_aload_n hx hb dX7_step_12 rfl (lv_at hl 1 rfl) ?_
    refine gfX7_9 X_full C w q0 dX7_step_13 ?_
    refine fy_alen C w (X_f7_steps X_full q0) (by decide) dX7_step_16 ?_
    refine lv_icmp_ge (tgt := 32) hx hb dX7_step_17 (by decide) (fun hc => ?_) (fun hc => ?_)
    · have h := fy_if_t h hc
      refine lv_iconst (v := (0 : Int32)) hx hb dX7_step_32 (by decide) ?_
      cases h
      exact fy_retI C w dX7_step_33
    · have h := fy_if_f h hc
      refine lv_aload_n hx hb dX7_step_20 rfl (lv_at hl 1 rfl) ?_
      refine gfX7_9 X_full C w q0 dX7_step_21 ?_
      refine lv_iload_n hx hb dX7_step_24 rfl (lv_at hl 0 rfl) ?_
      obtain ⟨g25, h⟩ := fy_gd_some h
      refine fy_iald C w (X_f7_steps X_full q0) g25 dX7_step_25 ?_
      refine lv_bipush (v := (63 : Int32)) hx hb dX7_step_26 (by decide) ?_
      refine lv_iand hx hb dX7_step_28 ?_
      refine lv_goto (tgt := 33) hx hb dX7_step_29 (by decide) ?_
      cases h
      exact fy_retI C w dX7_step_33

set_option maxHeartbeats 4000000 in
set_option maxRecDepth 100000 in
theorem c_X7_step (l : Launch) (g : fy_G) {S : fy_S} {v0 : Nat} {v1 : Int32} {v2 : Int32} {rr : Int32} (q0 : X_is X_Y 7 v0) (h : X7_step S v0 v1 v2 = some rr) : fy_M g X_Y l yX7_step cX7_step 4 (some .int) (fy_rm 0) [.ref (g.2.2.1 v0), .int v1, .int v2] S (fy_QI g X_Y rr S) :=
  fy_entry (by decide +kernel) (Nat.le_of_ble_eq_true rfl) (fun p e s m args below meth c ls C w hl => t_X7_step C q0 h w hl)
def X7_stepAll_24 (S : fy_S) (k5 : Nat → Int64 → Int64 → Int32 → Option (Int64)) : Nat → Nat → Int64 → Int64 → Int32 → Int32 → Option (Int64)
  | 0, _, _, _, _, _ => none
  | fu + 1, v0, v1, v3, v5, v6 =>
    if (S.1 v0 5) ≤ v6 then (
      fy_bl (v5 + (1 : Int32)) fun x52 =>
      k5 v0 v1 v3 x52)
    else (
      fy_bd (X7_step S v0 v5 v6) fun r40 =>
      fy_bl (v3 ||| ((1 : Int64) <<< (r40.toInt64 &&& 63))) fun x45 =>
      fy_bl (v6 + (1 : Int32)) fun x46 =>
      X7_stepAll_24 S k5 fu v0 v1 x45 v5 x46)
def X7_stepAll_5 (S : fy_S) : Nat → Nat → Int64 → Int64 → Int32 → Option (Int64)
  | 0, _, _, _, _ => none
  | fu + 1, v0, v1, v3, v5 =>
    if (64 : Int32) ≤ v5 then (
      some v3)
    else (
      fy_bd (X9_isIn S v1 v5) fun r15 =>
      if r15 = 0 then (
        fy_bl (v5 + (1 : Int32)) fun x52 =>
        X7_stepAll_5 S fu v0 v1 v3 x52)
      else (
        X7_stepAll_24 S (fun v0 v1 v3 v5 => X7_stepAll_5 S fu v0 v1 v3 v5) fy_fu v0 v1 v3 v5 (0 : Int32)))
def X7_stepAll (S : fy_S) (v0 : Nat) (v1 : Int64) : Option (Int64) :=
  X7_stepAll_5 S fy_fu v0 v1 (0 : Int64) (0 : Int32)
set_option maxHeartbeats 4000000 in
set_option maxRecDepth 100000 in
theorem t_X7_stepAll_24 {p : Program} {l : Launch} {e : Env} {s : State} {m : MethodId} {args : Array Value} {below : List Frame} {meth : Method} {c : Code} {g : fy_G} (C : fy_C g X_Y p s m args meth c yX7_stepAll.cls cX7_stepAll 7 (some .long)) {S : fy_S} {rr : Int64} {k5 : Nat → Int64 → Int64 → Int32 → Option (Int64)} (hk5 : ∀ (v0 : Nat) (v1 : Int64) (v3 : Int64) (v5 : Int32) (H : Heap) (locs : List Loc) (ls : Array Slot), k5 v0 v1 v3 v5 = some rr → fy_W g X_Y S s H locs → X_is X_Y 7 v0 → lv_has ls 7 [(0, .ref (g.2.2.1 v0)), (1, .long v1), (3, .long v3), (5, .int v5)] → W p l e (fy_rm 1) s m args below meth c H locs 0 0 (MQ below (fy_QL g X_Y rr S) args s 0 0 (fy_A g X_Y)) (F0 m 5 ls [])) : ∀ (fu : Nat) (v0 : Nat) (v1 : Int64) (v3 : Int64) (v5 : Int32) (v6 : Int32) (H : Heap) (locs : List Loc) (ls : Array Slot), X7_stepAll_24 S k5 fu v0 v1 v3 v5 v6 = some rr → fy_W g X_Y S s H locs → X_is X_Y 7 v0 → lv_has ls 7 [(0, .ref (g.2.2.1 v0)), (1, .long v1), (3, .long v3), (5, .int v5), (6, .int v6)] → W p l e (fy_rm 1) s m args below meth c H locs 0 0 (MQ below (fy_QL g X_Y rr S) args s 0 0 (fy_A g X_Y)) (F0 m 24 ls []) := by
  obtain ⟨hx, hb, hr, hts, hown, hlk, hml, hK, hD, hE, hN⟩ := id C
  intro fu
  induction fu with
  | zero => intro v0 v1 v3 v5 v6 H locs ls h; cases h
  | succ fu ih =>
    intro v0 v1 v3 v5 v6 H locs ls h w q0 hl
    rw [X7_stepAll_24] at h
    refine lv_iload hx hb dX7_stepAll_24 (lv_at hl 4 rfl) ?_
    refine lv_aload_n hx hb dX7_stepAll_26 rfl (lv_at hl 0 rfl) ?_
    refine gfX7_28 X_full C w q0 dX7_stepAll_27 ?_
    refine lv_icmp_ge (tgt := 52) hx hb dX7_stepAll_30 (by decide) (fun hc => ?_) (fun hc => ?_)
    · have h := fy_if_t h hc
      obtain ⟨x52, e52⟩ : ∃ z : Int32, z = v5 + (1 : Int32) := ⟨_, rfl⟩
      have h := fy_bl_some e52 h
      refine lv_iinc (k := 3) (v := x52) (lv' := [(5, .int x52), (0, .ref (g.2.2.1 v0)), (1, .long v1), (3, .long v3), (6, .int v6)]) hx hb dX7_stepAll_52 hl rfl (by rw [e52]; rfl) (by decide) rfl (fun ls hl => ?_)
      refine lv_goto (tgt := 5) hx hb dX7_stepAll_55 (by decide) ?_
      exact hk5 _ _ _ _ _ _ _ h w q0 (lv_sub hl [1, 2, 3, 0] rfl)
    · have h := fy_if_f h hc
      refine lv_lload_n hx hb dX7_stepAll_33 rfl (lv_at hl 2 rfl) ?_
      refine lv_lconst (v := (1 : Int64)) hx hb dX7_stepAll_34 (by decide) ?_
      refine lv_aload_n hx hb dX7_stepAll_35 rfl (lv_at hl 0 rfl) ?_
      refine lv_iload hx hb dX7_stepAll_36 (lv_at hl 3 rfl) ?_
      refine lv_iload hx hb dX7_stepAll_38 (lv_at hl 4 rfl) ?_
      obtain ⟨r40, h40, h⟩ := fy_bd_some h
      refine fy_calI w (fy_runV (As := [.int v5, .int v6]) (rest := [.long (1 : Int64), .long v3]) C w (c_X7_step l g q0 h40) (X_o7 X_full q0) ksX7_71 rfl ⟨Nat.le_of_ble_eq_true rfl, Nat.le_of_ble_eq_true rfl⟩ rfl hl.1 rfl (Nat.le_of_ble_eq_true rfl) ⟨Nat.le_refl _, Nat.le_refl _⟩ dX7_stepAll_40) (fun H locs w => ?_)
      refine lv_lshl (v := (1 : Int64) <<< (r40.toInt64 &&& 63)) hx hb dX7_stepAll_43 rfl ?_
      refine lv_lor hx hb dX7_stepAll_44 ?_
      refine lv_topl (fun x45 e45 => ?_)
      have h := fy_bl_some e45 h
      refine lv_lstore_n (lv' := [(3, .long x45), (0, .ref (g.2.2.1 v0)), (1, .long v1), (5, .int v5), (6, .int v6)]) hx hb dX7_stepAll_45 rfl hl (by decide) rfl (fun ls hl => ?_)
      obtain ⟨x46, e46⟩ : ∃ z : Int32, z = v6 + (1 : Int32) := ⟨_, rfl⟩
      have h := fy_bl_some e46 h
      refine lv_iinc (k := 4) (v := x46) (lv' := [(6, .int x46), (3, .long x45), (0, .ref (g.2.2.1 v0)), (1, .long v1), (5, .int v5)]) hx hb dX7_stepAll_46 hl rfl (by rw [e46]; rfl) (by decide) rfl (fun ls hl => ?_)
      refine lv_goto (tgt := 24) hx hb dX7_stepAll_49 (by decide) ?_
      exact ih _ _ _ _ _ _ _ _ h w q0 (lv_sub hl [2, 3, 1, 4, 0] rfl)

set_option maxHeartbeats 4000000 in
set_option maxRecDepth 100000 in
theorem t_X7_stepAll_5 {p : Program} {l : Launch} {e : Env} {s : State} {m : MethodId} {args : Array Value} {below : List Frame} {meth : Method} {c : Code} {g : fy_G} (C : fy_C g X_Y p s m args meth c yX7_stepAll.cls cX7_stepAll 7 (some .long)) {S : fy_S} {rr : Int64} : ∀ (fu : Nat) (v0 : Nat) (v1 : Int64) (v3 : Int64) (v5 : Int32) (H : Heap) (locs : List Loc) (ls : Array Slot), X7_stepAll_5 S fu v0 v1 v3 v5 = some rr → fy_W g X_Y S s H locs → X_is X_Y 7 v0 → lv_has ls 7 [(0, .ref (g.2.2.1 v0)), (1, .long v1), (3, .long v3), (5, .int v5)] → W p l e (fy_rm 1) s m args below meth c H locs 0 0 (MQ below (fy_QL g X_Y rr S) args s 0 0 (fy_A g X_Y)) (F0 m 5 ls []) := by
  obtain ⟨hx, hb, hr, hts, hown, hlk, hml, hK, hD, hE, hN⟩ := id C
  intro fu
  induction fu with
  | zero => intro v0 v1 v3 v5 H locs ls h; cases h
  | succ fu ih =>
    intro v0 v1 v3 v5 H locs ls h w q0 hl
    rw [X7_stepAll_5] at h
    refine lv_iload hx hb dX7_stepAll_5 (lv_at hl 3 rfl) ?_
    refine lv_bipush (v := (64 : Int32)) hx hb dX7_stepAll_7 (by decide) ?_
    refine lv_icmp_ge (tgt := 58) hx hb dX7_stepAll_9 (by decide) (fun hc => ?_) (fun hc => ?_)
    · have h := fy_if_t h hc
      refine lv_lload_n hx hb dX7_stepAll_58 rfl (lv_at hl 2 rfl) ?_
      cases h
      exact fy_retL C w dX7_stepAll_59
    · have h := fy_if_f h hc
      refine lv_lload_n hx hb dX7_stepAll_12 rfl (lv_at hl 1 rfl) ?_
      refine lv_iload hx hb dX7_stepAll_13 (lv_at hl 3 rfl) ?_
      obtain ⟨r15, h15, h⟩ := fy_bd_some h
      refine fy_calI w (fy_runN (As := [.long v1, .int v5]) (rest := []) C w (c_X9_isIn l g X_full  h15) ksX7_61 ⟨Nat.le_of_ble_eq_true rfl, Nat.le_of_ble_eq_true rfl⟩ rfl hl.1 rfl (Nat.le_of_ble_eq_true rfl) ⟨Nat.le_refl _, Nat.le_refl _⟩ dX7_stepAll_15) (fun H locs w => ?_)
      refine lv_if_eq (tgt := 52) hx hb dX7_stepAll_18 (by decide) (fun hc => ?_) (fun hc => ?_)
      · have h := fy_if_t h hc
        obtain ⟨x52, e52⟩ : ∃ z : Int32, z = v5 + (1 : Int32) := ⟨_, rfl⟩
        have h := fy_bl_some e52 h
        refine lv_iinc (k := 3) (v := x52) (lv' := [(5, .int x52), (0, .ref (g.2.2.1 v0)), (1, .long v1), (3, .long v3)]) hx hb dX7_stepAll_52 hl rfl (by rw [e52]; rfl) (by decide) rfl (fun ls hl => ?_)
        refine lv_goto (tgt := 5) hx hb dX7_stepAll_55 (by decide) ?_
        exact ih _ _ _ _ _ _ _ h w q0 (lv_sub hl [1, 2, 3, 0] rfl)
      · have h := fy_if_f h hc
        refine lv_iconst (v := (0 : Int32)) hx hb dX7_stepAll_21 (by decide) ?_
        refine lv_istore (lv' := [(6, .int (0 : Int32)), (0, .ref (g.2.2.1 v0)), (1, .long v1), (3, .long v3), (5, .int v5)]) hx hb dX7_stepAll_22 hl (by decide) rfl (fun ls hl => ?_)
        exact t_X7_stepAll_24 C ih fy_fu _ _ _ _ _ _ _ _ h w q0 (lv_sub hl [1, 2, 3, 4, 0] rfl)

set_option maxHeartbeats 4000000 in
set_option maxRecDepth 100000 in
theorem t_X7_stepAll {p : Program} {l : Launch} {e : Env} {s : State} {m : MethodId} {args : Array Value} {below : List Frame} {meth : Method} {c : Code} {g : fy_G} (C : fy_C g X_Y p s m args meth c yX7_stepAll.cls cX7_stepAll 7 (some .long)) {S : fy_S} {v0 : Nat} {v1 : Int64} {rr : Int64} (q0 : X_is X_Y 7 v0) {H : Heap} {locs : List Loc} {ls : Array Slot} (h : X7_stepAll S v0 v1 = some rr) (w : fy_W g X_Y S s H locs) (hl : lv_has ls 7 [(0, .ref (g.2.2.1 v0)), (1, .long v1)]) : W p l e (fy_rm 1) s m args below meth c H locs 0 0 (MQ below (fy_QL g X_Y rr S) args s 0 0 (fy_A g X_Y)) (F0 m 0 ls []) := by
  obtain ⟨hx, hb, hr, hts, hown, hlk, hml, hK, hD, hE, hN⟩ := id C
  rw [X7_stepAll] at h
  refine lv_lconst (v := (0 : Int64)) hx hb dX7_stepAll_0 (by decide) ?_
  refine lv_lstore_n (lv' := [(3, .long (0 : Int64)), (0, .ref (g.2.2.1 v0)), (1, .long v1)]) hx hb dX7_stepAll_1 rfl hl (by decide) rfl (fun ls hl => ?_)
  refine lv_iconst (v := (0 : Int32)) hx hb dX7_stepAll_2 (by decide) ?_
  refine lv_istore (lv' := [(5, .int (0 : Int32)), (3, .long (0 : Int64)), (0, .ref (g.2.2.1 v0)), (1, .long v1)]) hx hb dX7_stepAll_3 hl (by decide) rfl (fun ls hl => ?_)
  exact t_X7_stepAll_5 C fy_fu _ _ _ _ _ _ _ h w q0 (lv_sub hl [2, 3, 1, 0] rfl)

set_option maxHeartbeats 4000000 in
set_option maxRecDepth 100000 in
theorem c_X7_stepAll (l : Launch) (g : fy_G) {S : fy_S} {v0 : Nat} {v1 : Int64} {rr : Int64} (q0 : X_is X_Y 7 v0) (h : X7_stepAll S v0 v1 = some rr) : fy_M g X_Y l yX7_stepAll cX7_stepAll 7 (some .long) (fy_rm 1) [.ref (g.2.2.1 v0), .long v1] S (fy_QL g X_Y rr S) :=
  fy_entry (by decide +kernel) (Nat.le_of_ble_eq_true rfl) (fun p e s m args below meth c ls C w hl => t_X7_stepAll C q0 h w hl)
def X7_reachable_12 (S : fy_S) : Nat → Nat → Int64 → Int64 → Int32 → Option (Int64)
  | 0, _, _, _, _ => none
  | fu + 1, v0, v1, v3, v5 =>
    if (64 : Int32) < v5 then (
      some v1)
    else (
      if (lg_cmp v3 (0 : Int64)) = 0 then (
        some v1)
      else (
        fy_bl (v1 ||| v3) fun x28 =>
        fy_bd (X7_stepAll S v0 v3) fun r31 =>
        fy_bl (r31 &&& (x28 ^^^ (-1 : Int64))) fun x40 =>
        fy_bl (v5 + (1 : Int32)) fun x41 =>
        X7_reachable_12 S fu v0 x28 x40 x41))
def X7_reachable (S : fy_S) (v0 : Nat) : Option (Int64) :=
  fy_bl ((1 : Int64) <<< ((S.1 v0 6).toInt64 &&& 63)) fun x8 =>
  X7_reachable_12 S fy_fu v0 (0 : Int64) x8 (0 : Int32)
set_option maxHeartbeats 4000000 in
set_option maxRecDepth 100000 in
theorem t_X7_reachable_12 {p : Program} {l : Launch} {e : Env} {s : State} {m : MethodId} {args : Array Value} {below : List Frame} {meth : Method} {c : Code} {g : fy_G} (C : fy_C g X_Y p s m args meth c yX7_reachable.cls cX7_reachable 6 (some .long)) {S : fy_S} {rr : Int64} : ∀ (fu : Nat) (v0 : Nat) (v1 : Int64) (v3 : Int64) (v5 : Int32) (H : Heap) (locs : List Loc) (ls : Array Slot), X7_reachable_12 S fu v0 v1 v3 v5 = some rr → fy_W g X_Y S s H locs → X_is X_Y 7 v0 → lv_has ls 6 [(0, .ref (g.2.2.1 v0)), (1, .long v1), (3, .long v3), (5, .int v5)] → W p l e (fy_rm 2) s m args below meth c H locs 0 0 (MQ below (fy_QL g X_Y rr S) args s 0 0 (fy_A g X_Y)) (F0 m 12 ls []) := by
  obtain ⟨hx, hb, hr, hts, hown, hlk, hml, hK, hD, hE, hN⟩ := id C
  intro fu
  induction fu with
  | zero => intro v0 v1 v3 v5 H locs ls h; cases h
  | succ fu ih =>
    intro v0 v1 v3 v5 H locs ls h w q0 hl
    rw [X7_reachable_12] at h
    refine lv_iload hx hb dX7_reachable_12 (lv_at hl 3 rfl) ?_
    refine lv_bipush (v := (64 : Int32)) hx hb dX7_reachable_14 (by decide) ?_
    refine lv_icmp_gt (tgt := 47) hx hb dX7_reachable_16 (by decide) (fun hc => ?_) (fun hc => ?_)
    · have h := fy_if_t h hc
      refine lv_lload_n hx hb dX7_reachable_47 rfl (lv_at hl 1 rfl) ?_
      cases h
      exact fy_retL C w dX7_reachable_48
    · have h := fy_if_f h hc
      refine lv_lload_n hx hb dX7_reachable_19 rfl (lv_at hl 2 rfl) ?_
      refine lv_lconst (v := (0 : Int64)) hx hb dX7_reachable_20 (by decide) ?_
      refine W.lcmp hx hb dX7_reachable_21 ?_
      refine lv_if_eq (tgt := 47) hx hb dX7_reachable_22 (by decide) (fun hc => ?_) (fun hc => ?_)
      · have h := fy_if_t h hc
        refine lv_lload_n hx hb dX7_reachable_47 rfl (lv_at hl 1 rfl) ?_
        cases h
        exact fy_retL C w dX7_reachable_48
      · have h := fy_if_f h hc
        refine lv_lload_n hx hb dX7_reachable_25 rfl (lv_at hl 1 rfl) ?_
        refine lv_lload_n hx hb dX7_reachable_26 rfl (lv_at hl 2 rfl) ?_
        refine lv_lor hx hb dX7_reachable_27 ?_
        refine lv_topl (fun x28 e28 => ?_)
        have h := fy_bl_some e28 h
        refine lv_lstore_n (lv' := [(1, .long x28), (0, .ref (g.2.2.1 v0)), (3, .long v3), (5, .int v5)]) hx hb dX7_reachable_28 rfl hl (by decide) rfl (fun ls hl => ?_)
        refine lv_aload_n hx hb dX7_reachable_29 rfl (lv_at hl 1 rfl) ?_
        refine lv_lload_n hx hb dX7_reachable_30 rfl (lv_at hl 2 rfl) ?_
        obtain ⟨r31, h31, h⟩ := fy_bd_some h
        refine fy_calL w (fy_runV (As := [.long v3]) (rest := []) C w (c_X7_stepAll l g q0 h31) (X_o7 X_full q0) ksX7_65 rfl ⟨Nat.le_of_ble_eq_true rfl, Nat.le_of_ble_eq_true rfl⟩ rfl hl.1 rfl (Nat.le_of_ble_eq_true rfl) ⟨Nat.le_refl _, Nat.le_refl _⟩ dX7_reachable_31) (fun H locs w => ?_)
        refine lv_lload_n hx hb dX7_reachable_34 rfl (lv_at hl 0 rfl) ?_
        refine lv_ldc2 (v := (-1 : Int64)) hx hb hown (hts _ tw554) dX7_reachable_35 ?_
        refine lv_lxor hx hb dX7_reachable_38 ?_
        refine lv_land hx hb dX7_reachable_39 ?_
        refine lv_topl (fun x40 e40 => ?_)
        have h := fy_bl_some e40 h
        refine lv_lstore_n (lv' := [(3, .long x40), (1, .long x28), (0, .ref (g.2.2.1 v0)), (5, .int v5)]) hx hb dX7_reachable_40 rfl hl (by decide) rfl (fun ls hl => ?_)
        obtain ⟨x41, e41⟩ : ∃ z : Int32, z = v5 + (1 : Int32) := ⟨_, rfl⟩
        have h := fy_bl_some e41 h
        refine lv_iinc (k := 3) (v := x41) (lv' := [(5, .int x41), (3, .long x40), (1, .long x28), (0, .ref (g.2.2.1 v0))]) hx hb dX7_reachable_41 hl rfl (by rw [e41]; rfl) (by decide) rfl (fun ls hl => ?_)
        refine lv_goto (tgt := 12) hx hb dX7_reachable_44 (by decide) ?_
        exact ih _ _ _ _ _ _ _ h w q0 (lv_sub hl [3, 2, 1, 0] rfl)

set_option maxHeartbeats 4000000 in
set_option maxRecDepth 100000 in
theorem t_X7_reachable {p : Program} {l : Launch} {e : Env} {s : State} {m : MethodId} {args : Array Value} {below : List Frame} {meth : Method} {c : Code} {g : fy_G} (C : fy_C g X_Y p s m args meth c yX7_reachable.cls cX7_reachable 6 (some .long)) {S : fy_S} {v0 : Nat} {rr : Int64} (q0 : X_is X_Y 7 v0) {H : Heap} {locs : List Loc} {ls : Array Slot} (h : X7_reachable S v0 = some rr) (w : fy_W g X_Y S s H locs) (hl : lv_has ls 6 [(0, .ref (g.2.2.1 v0))]) : W p l e (fy_rm 2) s m args below meth c H locs 0 0 (MQ below (fy_QL g X_Y rr S) args s 0 0 (fy_A g X_Y)) (F0 m 0 ls []) := by
  obtain ⟨hx, hb, hr, hts, hown, hlk, hml, hK, hD, hE, hN⟩ := id C
  rw [X7_reachable] at h
  refine lv_lconst (v := (0 : Int64)) hx hb dX7_reachable_0 (by decide) ?_
  refine lv_lstore_n (lv' := [(1, .long (0 : Int64)), (0, .ref (g.2.2.1 v0))]) hx hb dX7_reachable_1 rfl hl (by decide) rfl (fun ls hl => ?_)
  refine lv_lconst (v := (1 : Int64)) hx hb dX7_reachable_2 (by decide) ?_
  refine lv_aload_n hx hb dX7_reachable_3 rfl (lv_at hl 1 rfl) ?_
  refine gfX7_32 X_full C w q0 dX7_reachable_4 ?_
  refine lv_lshl (v := (1 : Int64) <<< ((S.1 v0 6).toInt64 &&& 63)) hx hb dX7_reachable_7 rfl ?_
  refine lv_topl (fun x8 e8 => ?_)
  have h := fy_bl_some e8 h
  refine lv_lstore_n (lv' := [(3, .long x8), (1, .long (0 : Int64)), (0, .ref (g.2.2.1 v0))]) hx hb dX7_reachable_8 rfl hl (by decide) rfl (fun ls hl => ?_)
  refine lv_iconst (v := (0 : Int32)) hx hb dX7_reachable_9 (by decide) ?_
  refine lv_istore (lv' := [(5, .int (0 : Int32)), (3, .long x8), (1, .long (0 : Int64)), (0, .ref (g.2.2.1 v0))]) hx hb dX7_reachable_10 hl (by decide) rfl (fun ls hl => ?_)
  exact t_X7_reachable_12 C fy_fu _ _ _ _ _ _ _ h w q0 (lv_sub hl [3, 2, 1, 0] rfl)

set_option maxHeartbeats 4000000 in
set_option maxRecDepth 100000 in
theorem c_X7_reachable (l : Launch) (g : fy_G) {S : fy_S} {v0 : Nat} {rr : Int64} (q0 : X_is X_Y 7 v0) (h : X7_reachable S v0 = some rr) : fy_M g X_Y l yX7_reachable cX7_reachable 6 (some .long) (fy_rm 2) [.ref (g.2.2.1 v0)] S (fy_QL g X_Y rr S) :=
  fy_entry (by decide +kernel) (Nat.le_of_ble_eq_true rfl) (fun p e s m args below meth c ls C w hl => t_X7_reachable C q0 h w hl)
def X9_reverseStates (S : fy_S) (v1 : Int32) : Option (fy_S × Int32) :=
  fy_bd (X9_automatonIn S v1) fun r2 =>
  match r2 with
  | none => (
    some (S, (-2 : Int32)))
  | some r2_ => (
    fy_bd (X7_load S 20 r2_) fun S18 =>
    fy_bd (X7_reachable S18 20) fun r25 =>
    fy_bd (J13_bitCount_95d88 S18 r25) fun r28 =>
    some (S18, r28))
set_option maxHeartbeats 4000000 in
set_option maxRecDepth 100000 in
theorem t_X9_reverseStates {p : Program} {l : Launch} {e : Env} {s : State} {m : MethodId} {args : Array Value} {below : List Frame} {meth : Method} {c : Code} {g : fy_G} (C : fy_C g X_Y p s m args meth c yX9_reverseStates.cls cX9_reverseStates 3 (some .int)) {S : fy_S} {v1 : Int32} {Sr : fy_S} {rr : Int32}  {H : Heap} {locs : List Loc} {ls : Array Slot} (h : X9_reverseStates S v1 = some (Sr, rr)) (w : fy_W g X_Y S s H locs) (hl : lv_has ls 3 [(0, .ref (g.2.2.1 0)), (1, .int v1)]) : W p l e (fy_rm 4) s m args below meth c H locs 0 0 (MQ below (fy_QI g X_Y rr Sr) args s 0 0 (fy_A g X_Y)) (F0 m 0 ls []) := by
  obtain ⟨hx, hb, hr, hts, hown, hlk, hml, hK, hD, hE, hN⟩ := id C
  rw [X9_reverseStates] at h
  refine lv_aload_n hx hb dX9_reverseStates_0 rfl (lv_at hl 0 rfl) ?_
  refine lv_iload_n hx hb dX9_reverseStates_1 rfl (lv_at hl 1 rfl) ?_
  obtain ⟨r2, h2, h⟩ := fy_bd_some h
  refine fy_calE w (fy_runV (As := [.int v1]) (rest := []) C w (c_X9_automatonIn l g  h2) (X_o9 X_full (X_i0)) ksX9_88 rfl ⟨Nat.le_of_ble_eq_true rfl, Nat.le_of_ble_eq_true rfl⟩ rfl hl.1 rfl (Nat.le_of_ble_eq_true rfl) ⟨Nat.le_refl _, Nat.le_refl _⟩ dX9_reverseStates_2) (fun H locs w => ?_)
  refine fy_astoreO_n (lv' := [(2, va_re g.2.2.1 r2), (0, .ref (g.2.2.1 0)), (1, .int v1)]) hx hb dX9_reverseStates_5 rfl hl (by decide) rfl (fun ls hl => ?_)
  cases r2 with
  | none =>
    dsimp only at h
    refine lv_aload_nN hx hb dX9_reverseStates_6 rfl (lv_at hl 0 rfl) ?_
    refine lv_ifnonnullN hx hb dX9_reverseStates_7 ?_
    refine lv_bipush (v := (-2 : Int32)) hx hb dX9_reverseStates_10 (by decide) ?_
    cases h
    exact fy_retI C w dX9_reverseStates_12
  | some r2_ =>
    dsimp only at h
    refine lv_aload_n hx hb dX9_reverseStates_6 rfl (lv_at hl 0 rfl) ?_
    refine lv_ifnonnull (tgt := 13) hx hb dX9_reverseStates_7 (by decide) ?_
    refine lv_aload_n hx hb dX9_reverseStates_13 rfl (lv_at hl 1 rfl) ?_
    refine gfX9_59 X_full C w (X_i0) dX9_reverseStates_14 ?_
    refine lv_aload_n hx hb dX9_reverseStates_17 rfl (lv_at hl 0 rfl) ?_
    obtain ⟨S18, h18, h⟩ := fy_bd_some h
    refine fy_calV w (fy_runV (As := [.ref (g.2.2.1 r2_)]) (rest := []) C w (c_X7_load l g X_i20 (cls_X9_automatonIn  h2) h18) (X_o7 X_full X_i20) ksX9_208 rfl ⟨Nat.le_of_ble_eq_true rfl, Nat.le_of_ble_eq_true rfl⟩ rfl hl.1 rfl (Nat.le_of_ble_eq_true rfl) ⟨Nat.le_refl _, Nat.le_refl _⟩ dX9_reverseStates_18) (fun H locs w => ?_)
    refine lv_aload_n hx hb dX9_reverseStates_21 rfl (lv_at hl 1 rfl) ?_
    refine gfX9_59 X_full C w (X_i0) dX9_reverseStates_22 ?_
    obtain ⟨r25, h25, h⟩ := fy_bd_some h
    refine fy_calL w (fy_runV (As := []) (rest := []) C w (c_X7_reachable l g X_i20 h25) (X_o7 X_full X_i20) ksX9_212 rfl ⟨Nat.le_of_ble_eq_true rfl, Nat.le_of_ble_eq_true rfl⟩ rfl hl.1 rfl (Nat.le_of_ble_eq_true rfl) ⟨Nat.le_refl _, Nat.le_refl _⟩ dX9_reverseStates_25) (fun H locs w => ?_)
    obtain ⟨r28, h28, h⟩ := fy_bd_some h
    refine fy_calI w (fy_runS (As := [.long r25]) (rest := []) C w (c_J13_bitCount_95d88 l g X_full  h28) ksX9_160 ⟨Nat.le_of_ble_eq_true rfl, Nat.le_of_ble_eq_true rfl⟩ rfl hl.1 rfl (Nat.le_of_ble_eq_true rfl) ⟨Nat.le_refl _, Nat.le_refl _⟩ dX9_reverseStates_28) (fun H locs w => ?_)
    cases h
    exact fy_retI C w dX9_reverseStates_31

set_option maxHeartbeats 4000000 in
set_option maxRecDepth 100000 in
theorem c_X9_reverseStates (l : Launch) (g : fy_G) {S : fy_S} {v1 : Int32} {Sr : fy_S} {rr : Int32}  (h : X9_reverseStates S v1 = some (Sr, rr)) : fy_M g X_Y l yX9_reverseStates cX9_reverseStates 3 (some .int) (fy_rm 4) [.ref (g.2.2.1 0), .int v1] S (fy_QI g X_Y rr Sr) :=
  fy_entry (by decide +kernel) (Nat.le_of_ble_eq_true rfl) (fun p e s m args below meth c ls C w hl => t_X9_reverseStates C  h w hl)
def X7_areTwins_24 (S : fy_S) : Nat → Nat → Int32 → Int32 → Int32 → Int32 → Option (Int32)
  | 0, _, _, _, _, _ => none
  | fu + 1, v0, v1, v2, v3, v4 =>
    if (S.1 v0 5) ≤ v4 then (
      fy_gd (fy_nr .boolean v3) <| some v3)
    else (
      if v3 = 0 then (
        fy_gd (fy_nr .boolean v3) <| some v3)
      else (
        fy_bd (X7_step S v0 v1 v4) fun r45 =>
        fy_gd (fy_ix r45 64) <|
        fy_bd (X7_step S v0 v2 v4) fun r57 =>
        fy_gd (fy_ix r57 64) <|
        if (S.1 (v0 + 2) r45.toNatClampNeg) = (S.1 (v0 + 2) r57.toNatClampNeg) then (
          fy_bl (v4 + (1 : Int32)) fun x70 =>
          X7_areTwins_24 S fu v0 v1 v2 (1 : Int32) x70)
        else (
          fy_bl (v4 + (1 : Int32)) fun x70 =>
          X7_areTwins_24 S fu v0 v1 v2 (0 : Int32) x70)))
def X7_areTwins (S : fy_S) (v0 : Nat) (v1 : Int32) (v2 : Int32) : Option (Int32) :=
  fy_gd (fy_ix v1 64) <|
  fy_gd (fy_ix v2 64) <|
  if (S.1 (v0 + 2) v1.toNatClampNeg) = (S.1 (v0 + 2) v2.toNatClampNeg) then (
    X7_areTwins_24 S fy_fu v0 v1 v2 (1 : Int32) (0 : Int32))
  else (
    X7_areTwins_24 S fy_fu v0 v1 v2 (0 : Int32) (0 : Int32))
set_option maxHeartbeats 4000000 in
set_option maxRecDepth 100000 in
theorem t_X7_areTwins_24 {p : Program} {l : Launch} {e : Env} {s : State} {m : MethodId} {args : Array Value} {below : List Frame} {meth : Method} {c : Code} {g : fy_G} (C : fy_C g X_Y p s m args meth c yX7_areTwins.cls cX7_areTwins 5 (some .boolean)) {S : fy_S} {rr : Int32} : ∀ (fu : Nat) (v0 : Nat) (v1 : Int32) (v2 : Int32) (v3 : Int32) (v4 : Int32) (H : Heap) (locs : List Loc) (ls : Array Slot), X7_areTwins_24 S fu v0 v1 v2 v3 v4 = some rr → fy_W g X_Y S s H locs → X_is X_Y 7 v0 → lv_has ls 5 [(0, .ref (g.2.2.1 v0)), (1, .int v1), (2, .int v2), (3, .int v3), (4, .int v4)] → W p l e (fy_rm 1) s m args below meth c H locs 0 0 (MQ below (fy_QI g X_Y rr S) args s 0 0 (fy_A g X_Y)) (F0 m 24 ls []) := by
  obtain ⟨hx, hb, hr, hts, hown, hlk, hml, hK, hD, hE, hN⟩ := id C
  intro fu
  induction fu with
  | zero => intro v0 v1 v2 v3 v4 H locs ls h; cases h
  | succ fu ih =>
    intro v0 v1 v2 v3 v4 H locs ls h w q0 hl
    rw [X7_areTwins_24] at h
    refine lv_iload hx hb dX7_areTwins_24 (lv_at hl 4 rfl) ?_
    refine lv_aload_n hx hb dX7_areTwins_26 rfl (lv_at hl 0 rfl) ?_
    refine gfX7_28 X_full C w q0 dX7_areTwins_27 ?_
    refine lv_icmp_ge (tgt := 76) hx hb dX7_areTwins_30 (by decide) (fun hc => ?_) (fun hc => ?_)
    · have h := fy_if_t h hc
      refine lv_iload_n hx hb dX7_areTwins_76 rfl (lv_at hl 3 rfl) ?_
      obtain ⟨gg, h⟩ := fy_gd_some h
      cases h
      exact fy_retZ C w (fy_nr_ok gg) dX7_areTwins_77
    · have h := fy_if_f h hc
      refine lv_iload_n hx hb dX7_areTwins_33 rfl (lv_at hl 3 rfl) ?_
      refine lv_if_eq (tgt := 76) hx hb dX7_areTwins_34 (by decide) (fun hc => ?_) (fun hc => ?_)
      · have h := fy_if_t h hc
        refine lv_iload_n hx hb dX7_areTwins_76 rfl (lv_at hl 3 rfl) ?_
        obtain ⟨gg, h⟩ := fy_gd_some h
        cases h
        exact fy_retZ C w (fy_nr_ok gg) dX7_areTwins_77
      · have h := fy_if_f h hc
        refine lv_aload_n hx hb dX7_areTwins_37 rfl (lv_at hl 0 rfl) ?_
        refine gfX7_15 X_full C w q0 dX7_areTwins_38 ?_
        refine lv_aload_n hx hb dX7_areTwins_41 rfl (lv_at hl 0 rfl) ?_
        refine lv_iload_n hx hb dX7_areTwins_42 rfl (lv_at hl 1 rfl) ?_
        refine lv_iload hx hb dX7_areTwins_43 (lv_at hl 4 rfl) ?_
        obtain ⟨r45, h45, h⟩ := fy_bd_some h
        refine fy_calI w (fy_runV (As := [.int v1, .int v4]) (rest := [.ref (g.2.2.1 (v0 + 2))]) C w (c_X7_step l g q0 h45) (X_o7 X_full q0) ksX7_71 rfl ⟨Nat.le_of_ble_eq_true rfl, Nat.le_of_ble_eq_true rfl⟩ rfl hl.1 rfl (Nat.le_of_ble_eq_true rfl) ⟨Nat.le_refl _, Nat.le_refl _⟩ dX7_areTwins_45) (fun H locs w => ?_)
        obtain ⟨g48, h⟩ := fy_gd_some h
        refine fy_iald C w (X_f7_classes X_full q0) g48 dX7_areTwins_48 ?_
        refine lv_aload_n hx hb dX7_areTwins_49 rfl (lv_at hl 0 rfl) ?_
        refine gfX7_15 X_full C w q0 dX7_areTwins_50 ?_
        refine lv_aload_n hx hb dX7_areTwins_53 rfl (lv_at hl 0 rfl) ?_
        refine lv_iload_n hx hb dX7_areTwins_54 rfl (lv_at hl 2 rfl) ?_
        refine lv_iload hx hb dX7_areTwins_55 (lv_at hl 4 rfl) ?_
        obtain ⟨r57, h57, h⟩ := fy_bd_some h
        refine fy_calI w (fy_runV (As := [.int v2, .int v4]) (rest := [.ref (g.2.2.1 (v0 + 2)), .int (S.1 (v0 + 2) r45.toNatClampNeg)]) C w (c_X7_step l g q0 h57) (X_o7 X_full q0) ksX7_71 rfl ⟨Nat.le_of_ble_eq_true rfl, Nat.le_of_ble_eq_true rfl⟩ rfl hl.1 rfl (Nat.le_of_ble_eq_true rfl) ⟨Nat.le_refl _, Nat.le_refl _⟩ dX7_areTwins_57) (fun H locs w => ?_)
        obtain ⟨g60, h⟩ := fy_gd_some h
        refine fy_iald C w (X_f7_classes X_full q0) g60 dX7_areTwins_60 ?_
        refine lv_icmp_ne (tgt := 68) hx hb dX7_areTwins_61 (by decide) (fun hc => ?_) (fun hc => ?_)
        · have h := fy_if_f h hc
          refine lv_iconst (v := (0 : Int32)) hx hb dX7_areTwins_68 (by decide) ?_
          refine lv_istore_n (lv' := [(3, .int (0 : Int32)), (0, .ref (g.2.2.1 v0)), (1, .int v1), (2, .int v2), (4, .int v4)]) hx hb dX7_areTwins_69 rfl hl (by decide) rfl (fun ls hl => ?_)
          obtain ⟨x70, e70⟩ : ∃ z : Int32, z = v4 + (1 : Int32) := ⟨_, rfl⟩
          have h := fy_bl_some e70 h
          refine lv_iinc (k := 4) (v := x70) (lv' := [(4, .int x70), (3, .int (0 : Int32)), (0, .ref (g.2.2.1 v0)), (1, .int v1), (2, .int v2)]) hx hb dX7_areTwins_70 hl rfl (by rw [e70]; rfl) (by decide) rfl (fun ls hl => ?_)
          refine lv_goto (tgt := 24) hx hb dX7_areTwins_73 (by decide) ?_
          exact ih _ _ _ _ _ _ _ _ h w q0 (lv_sub hl [2, 3, 4, 1, 0] rfl)
        · have h := fy_if_t h hc
          refine lv_iconst (v := (1 : Int32)) hx hb dX7_areTwins_64 (by decide) ?_
          refine lv_goto (tgt := 69) hx hb dX7_areTwins_65 (by decide) ?_
          refine lv_istore_n (lv' := [(3, .int (1 : Int32)), (0, .ref (g.2.2.1 v0)), (1, .int v1), (2, .int v2), (4, .int v4)]) hx hb dX7_areTwins_69 rfl hl (by decide) rfl (fun ls hl => ?_)
          obtain ⟨x70, e70⟩ : ∃ z : Int32, z = v4 + (1 : Int32) := ⟨_, rfl⟩
          have h := fy_bl_some e70 h
          refine lv_iinc (k := 4) (v := x70) (lv' := [(4, .int x70), (3, .int (1 : Int32)), (0, .ref (g.2.2.1 v0)), (1, .int v1), (2, .int v2)]) hx hb dX7_areTwins_70 hl rfl (by rw [e70]; rfl) (by decide) rfl (fun ls hl => ?_)
          refine lv_goto (tgt := 24) hx hb dX7_areTwins_73 (by decide) ?_
          exact ih _ _ _ _ _ _ _ _ h w q0 (lv_sub hl [2, 3, 4, 1, 0] rfl)

set_option maxHeartbeats 4000000 in
set_option maxRecDepth 100000 in
theorem t_X7_areTwins {p : Program} {l : Launch} {e : Env} {s : State} {m : MethodId} {args : Array Value} {below : List Frame} {meth : Method} {c : Code} {g : fy_G} (C : fy_C g X_Y p s m args meth c yX7_areTwins.cls cX7_areTwins 5 (some .boolean)) {S : fy_S} {v0 : Nat} {v1 : Int32} {v2 : Int32} {rr : Int32} (q0 : X_is X_Y 7 v0) {H : Heap} {locs : List Loc} {ls : Array Slot} (h : X7_areTwins S v0 v1 v2 = some rr) (w : fy_W g X_Y S s H locs) (hl : lv_has ls 5 [(0, .ref (g.2.2.1 v0)), (1, .int v1), (2, .int v2)]) : W p l e (fy_rm 1) s m args below meth c H locs 0 0 (MQ below (fy_QI g X_Y rr S) args s 0 0 (fy_A g X_Y)) (F0 m 0 ls []) := by
  obtain ⟨hx, hb, hr, hts, hown, hlk, hml, hK, hD, hE, hN⟩ := id C
  rw [X7_areTwins] at h
  refine lv_aload_n hx hb dX7_areTwins_0 rfl (lv_at hl 0 rfl) ?_
  refine gfX7_15 X_full C w q0 dX7_areTwins_1 ?_
  refine lv_iload_n hx hb dX7_areTwins_4 rfl (lv_at hl 1 rfl) ?_
  obtain ⟨g5, h⟩ := fy_gd_some h
  refine fy_iald C w (X_f7_classes X_full q0) g5 dX7_areTwins_5 ?_
  refine lv_aload_n hx hb dX7_areTwins_6 rfl (lv_at hl 0 rfl) ?_
  refine gfX7_15 X_full C w q0 dX7_areTwins_7 ?_
  refine lv_iload_n hx hb dX7_areTwins_10 rfl (lv_at hl 2 rfl) ?_
  obtain ⟨g11, h⟩ := fy_gd_some h
  refine fy_iald C w (X_f7_classes X_full q0) g11 dX7_areTwins_11 ?_
  refine lv_icmp_ne (tgt := 19) hx hb dX7_areTwins_12 (by decide) (fun hc => ?_) (fun hc => ?_)
  · have h := fy_if_f h hc
    refine lv_iconst (v := (0 : Int32)) hx hb dX7_areTwins_19 (by decide) ?_
    refine lv_istore_n (lv' := [(3, .int (0 : Int32)), (0, .ref (g.2.2.1 v0)), (1, .int v1), (2, .int v2)]) hx hb dX7_areTwins_20 rfl hl (by decide) rfl (fun ls hl => ?_)
    refine lv_iconst (v := (0 : Int32)) hx hb dX7_areTwins_21 (by decide) ?_
    refine lv_istore (lv' := [(4, .int (0 : Int32)), (3, .int (0 : Int32)), (0, .ref (g.2.2.1 v0)), (1, .int v1), (2, .int v2)]) hx hb dX7_areTwins_22 hl (by decide) rfl (fun ls hl => ?_)
    exact t_X7_areTwins_24 C fy_fu _ _ _ _ _ _ _ _ h w q0 (lv_sub hl [2, 3, 4, 1, 0] rfl)
  · have h := fy_if_t h hc
    refine lv_iconst (v := (1 : Int32)) hx hb dX7_areTwins_15 (by decide) ?_
    refine lv_goto (tgt := 20) hx hb dX7_areTwins_16 (by decide) ?_
    refine lv_istore_n (lv' := [(3, .int (1 : Int32)), (0, .ref (g.2.2.1 v0)), (1, .int v1), (2, .int v2)]) hx hb dX7_areTwins_20 rfl hl (by decide) rfl (fun ls hl => ?_)
    refine lv_iconst (v := (0 : Int32)) hx hb dX7_areTwins_21 (by decide) ?_
    refine lv_istore (lv' := [(4, .int (0 : Int32)), (3, .int (1 : Int32)), (0, .ref (g.2.2.1 v0)), (1, .int v1), (2, .int v2)]) hx hb dX7_areTwins_22 hl (by decide) rfl (fun ls hl => ?_)
    exact t_X7_areTwins_24 C fy_fu _ _ _ _ _ _ _ _ h w q0 (lv_sub hl [2, 3, 4, 1, 0] rfl)

set_option maxHeartbeats 4000000 in
set_option maxRecDepth 100000 in
theorem c_X7_areTwins (l : Launch) (g : fy_G) {S : fy_S} {v0 : Nat} {v1 : Int32} {v2 : Int32} {rr : Int32} (q0 : X_is X_Y 7 v0) (h : X7_areTwins S v0 v1 v2 = some rr) : fy_M g X_Y l yX7_areTwins cX7_areTwins 5 (some .boolean) (fy_rm 1) [.ref (g.2.2.1 v0), .int v1, .int v2] S (fy_QI g X_Y rr S) :=
  fy_entry (by decide +kernel) (Nat.le_of_ble_eq_true rfl) (fun p e s m args below meth c ls C w hl => t_X7_areTwins C q0 h w hl)
def X7_earlierTwin_3 (S : fy_S) : Nat → Nat → Int64 → Int32 → Int32 → Option (Int32)
  | 0, _, _, _, _ => none
  | fu + 1, v0, v1, v3, v4 =>
    if v3 ≤ v4 then (
      some (-1 : Int32))
    else (
      fy_bd (X9_isIn S v1 v4) fun r12 =>
      if r12 = 0 then (
        fy_bl (v4 + (1 : Int32)) fun x31 =>
        X7_earlierTwin_3 S fu v0 v1 v3 x31)
      else (
        fy_bd (X7_areTwins S v0 v4 v3) fun r22 =>
        if r22 = 0 then (
          fy_bl (v4 + (1 : Int32)) fun x31 =>
          X7_earlierTwin_3 S fu v0 v1 v3 x31)
        else (
          some v4)))
def X7_earlierTwin (S : fy_S) (v0 : Nat) (v1 : Int64) (v3 : Int32) : Option (Int32) :=
  X7_earlierTwin_3 S fy_fu v0 v1 v3 (0 : Int32)
set_option maxHeartbeats 4000000 in
set_option maxRecDepth 100000 in
theorem t_X7_earlierTwin_3 {p : Program} {l : Launch} {e : Env} {s : State} {m : MethodId} {args : Array Value} {below : List Frame} {meth : Method} {c : Code} {g : fy_G} (C : fy_C g X_Y p s m args meth c yX7_earlierTwin.cls cX7_earlierTwin 5 (some .int)) {S : fy_S} {rr : Int32} : ∀ (fu : Nat) (v0 : Nat) (v1 : Int64) (v3 : Int32) (v4 : Int32) (H : Heap) (locs : List Loc) (ls : Array Slot), X7_earlierTwin_3 S fu v0 v1 v3 v4 = some rr → fy_W g X_Y S s H locs → X_is X_Y 7 v0 → lv_has ls 5 [(0, .ref (g.2.2.1 v0)), (1, .long v1), (3, .int v3), (4, .int v4)] → W p l e (fy_rm 2) s m args below meth c H locs 0 0 (MQ below (fy_QI g X_Y rr S) args s 0 0 (fy_A g X_Y)) (F0 m 3 ls []) := by
  obtain ⟨hx, hb, hr, hts, hown, hlk, hml, hK, hD, hE, hN⟩ := id C
  intro fu
  induction fu with
  | zero => intro v0 v1 v3 v4 H locs ls h; cases h
  | succ fu ih =>
    intro v0 v1 v3 v4 H locs ls h w q0 hl
    rw [X7_earlierTwin_3] at h
    refine lv_iload hx hb dX7_earlierTwin_3 (lv_at hl 3 rfl) ?_
    refine lv_iload_n hx hb dX7_earlierTwin_5 rfl (lv_at hl 2 rfl) ?_
    refine lv_icmp_ge (tgt := 37) hx hb dX7_earlierTwin_6 (by decide) (fun hc => ?_) (fun hc => ?_)
    · have h := fy_if_t h hc
      refine lv_iconst (v := (-1 : Int32)) hx hb dX7_earlierTwin_37 (by decide) ?_
      cases h
      exact fy_retI C w dX7_earlierTwin_38
    · have h := fy_if_f h hc
      refine lv_lload_n hx hb dX7_earlierTwin_9 rfl (lv_at hl 1 rfl) ?_
      refine lv_iload hx hb dX7_earlierTwin_10 (lv_at hl 3 rfl) ?_
      obtain ⟨r12, h12, h⟩ := fy_bd_some h
      refine fy_calI w (fy_runN (As := [.long v1, .int v4]) (rest := []) C w (c_X9_isIn l g X_full  h12) ksX7_61 ⟨Nat.le_of_ble_eq_true rfl, Nat.le_of_ble_eq_true rfl⟩ rfl hl.1 rfl (Nat.le_of_ble_eq_true rfl) ⟨Nat.le_refl _, Nat.le_refl _⟩ dX7_earlierTwin_12) (fun H locs w => ?_)
      refine lv_if_eq (tgt := 31) hx hb dX7_earlierTwin_15 (by decide) (fun hc => ?_) (fun hc => ?_)
      · have h := fy_if_t h hc
        obtain ⟨x31, e31⟩ : ∃ z : Int32, z = v4 + (1 : Int32) := ⟨_, rfl⟩
        have h := fy_bl_some e31 h
        refine lv_iinc (k := 3) (v := x31) (lv' := [(4, .int x31), (0, .ref (g.2.2.1 v0)), (1, .long v1), (3, .int v3)]) hx hb dX7_earlierTwin_31 hl rfl (by rw [e31]; rfl) (by decide) rfl (fun ls hl => ?_)
        refine lv_goto (tgt := 3) hx hb dX7_earlierTwin_34 (by decide) ?_
        exact ih _ _ _ _ _ _ _ h w q0 (lv_sub hl [1, 2, 3, 0] rfl)
      · have h := fy_if_f h hc
        refine lv_aload_n hx hb dX7_earlierTwin_18 rfl (lv_at hl 0 rfl) ?_
        refine lv_iload hx hb dX7_earlierTwin_19 (lv_at hl 3 rfl) ?_
        refine lv_iload_n hx hb dX7_earlierTwin_21 rfl (lv_at hl 2 rfl) ?_
        obtain ⟨r22, h22, h⟩ := fy_bd_some h
        refine fy_calI w (fy_runV (As := [.int v4, .int v3]) (rest := []) C w (c_X7_areTwins l g q0 h22) (X_o7 X_full q0) ksX7_92 rfl ⟨Nat.le_of_ble_eq_true rfl, Nat.le_of_ble_eq_true rfl⟩ rfl hl.1 rfl (Nat.le_of_ble_eq_true rfl) ⟨Nat.le_refl _, Nat.le_refl _⟩ dX7_earlierTwin_22) (fun H locs w => ?_)
        refine lv_if_eq (tgt := 31) hx hb dX7_earlierTwin_25 (by decide) (fun hc => ?_) (fun hc => ?_)
        · have h := fy_if_t h hc
          obtain ⟨x31, e31⟩ : ∃ z : Int32, z = v4 + (1 : Int32) := ⟨_, rfl⟩
          have h := fy_bl_some e31 h
          refine lv_iinc (k := 3) (v := x31) (lv' := [(4, .int x31), (0, .ref (g.2.2.1 v0)), (1, .long v1), (3, .int v3)]) hx hb dX7_earlierTwin_31 hl rfl (by rw [e31]; rfl) (by decide) rfl (fun ls hl => ?_)
          refine lv_goto (tgt := 3) hx hb dX7_earlierTwin_34 (by decide) ?_
          exact ih _ _ _ _ _ _ _ h w q0 (lv_sub hl [1, 2, 3, 0] rfl)
        · have h := fy_if_f h hc
          refine lv_iload hx hb dX7_earlierTwin_28 (lv_at hl 3 rfl) ?_
          cases h
          exact fy_retI C w dX7_earlierTwin_30

set_option maxHeartbeats 4000000 in
set_option maxRecDepth 100000 in
theorem t_X7_earlierTwin {p : Program} {l : Launch} {e : Env} {s : State} {m : MethodId} {args : Array Value} {below : List Frame} {meth : Method} {c : Code} {g : fy_G} (C : fy_C g X_Y p s m args meth c yX7_earlierTwin.cls cX7_earlierTwin 5 (some .int)) {S : fy_S} {v0 : Nat} {v1 : Int64} {v3 : Int32} {rr : Int32} (q0 : X_is X_Y 7 v0) {H : Heap} {locs : List Loc} {ls : Array Slot} (h : X7_earlierTwin S v0 v1 v3 = some rr) (w : fy_W g X_Y S s H locs) (hl : lv_has ls 5 [(0, .ref (g.2.2.1 v0)), (1, .long v1), (3, .int v3)]) : W p l e (fy_rm 2) s m args below meth c H locs 0 0 (MQ below (fy_QI g X_Y rr S) args s 0 0 (fy_A g X_Y)) (F0 m 0 ls []) := by
  obtain ⟨hx, hb, hr, hts, hown, hlk, hml, hK, hD, hE, hN⟩ := id C
  rw [X7_earlierTwin] at h
  refine lv_iconst (v := (0 : Int32)) hx hb dX7_earlierTwin_0 (by decide) ?_
  refine lv_istore (lv' := [(4, .int (0 : Int32)), (0, .ref (g.2.2.1 v0)), (1, .long v1), (3, .int v3)]) hx hb dX7_earlierTwin_1 hl (by decide) rfl (fun ls hl => ?_)
  exact t_X7_earlierTwin_3 C fy_fu _ _ _ _ _ _ _ h w q0 (lv_sub hl [1, 2, 3, 0] rfl)

set_option maxHeartbeats 4000000 in
set_option maxRecDepth 100000 in
theorem c_X7_earlierTwin (l : Launch) (g : fy_G) {S : fy_S} {v0 : Nat} {v1 : Int64} {v3 : Int32} {rr : Int32} (q0 : X_is X_Y 7 v0) (h : X7_earlierTwin S v0 v1 v3 = some rr) : fy_M g X_Y l yX7_earlierTwin cX7_earlierTwin 5 (some .int) (fy_rm 2) [.ref (g.2.2.1 v0), .long v1, .int v3] S (fy_QI g X_Y rr S) :=
  fy_entry (by decide +kernel) (Nat.le_of_ble_eq_true rfl) (fun p e s m args below meth c ls C w hl => t_X7_earlierTwin C q0 h w hl)
def X7_refine_5 : Nat → fy_S → Nat → Int64 → Int32 → Int32 → Option (fy_S × Int32)
  | 0, _, _, _, _, _ => none
  | fu + 1, S, v0, v1, v3, v4 =>
    if (64 : Int32) ≤ v4 then (
      fy_gd (fy_cpI .int (S.1 (v0 + 3)) (0 : Int32) (0 : Int32) (64 : Int32) 64 64) <|
      fy_bl (fy_sA S (v0 + 2) (va_cpy (S.1 (v0 + 3)) (S.1 (v0 + 2)) (0 : Int32).toNatClampNeg (0 : Int32).toNatClampNeg (64 : Int32).toNatClampNeg)) fun S82 =>
      some (S82, v3))
    else (
      fy_bd (X9_isIn S v1 v4) fun r15 =>
      if r15 = 0 then (
        fy_bl (v4 + (1 : Int32)) fun x64 =>
        X7_refine_5 fu S v0 v1 v3 x64)
      else (
        fy_bd (X7_earlierTwin S v0 v1 v4) fun r25 =>
        if r25 = (-1 : Int32) then (
          fy_gd (fy_ix v4 64) <|
          fy_bl (fy_sI S (v0 + 3) v4.toNatClampNeg v3) fun S43 =>
          fy_bl (v3 + (1 : Int32)) fun x44 =>
          fy_bl (v4 + (1 : Int32)) fun x64 =>
          X7_refine_5 fu S43 v0 v1 x44 x64)
        else (
          fy_gd (fy_ix r25 64) <|
          fy_gd (fy_ix v4 64) <|
          fy_bl (fy_sI S (v0 + 3) v4.toNatClampNeg (S.1 (v0 + 3) r25.toNatClampNeg)) fun S63 =>
          fy_bl (v4 + (1 : Int32)) fun x64 =>
          X7_refine_5 fu S63 v0 v1 v3 x64)))
def X7_refine (S : fy_S) (v0 : Nat) (v1 : Int64) : Option (fy_S × Int32) :=
  X7_refine_5 fy_fu S v0 v1 (0 : Int32) (0 : Int32)
set_option maxHeartbeats 4000000 in
set_option maxRecDepth 100000 in
theorem t_X7_refine_5 {p : Program} {l : Launch} {e : Env} {s : State} {m : MethodId} {args : Array Value} {below : List Frame} {meth : Method} {c : Code} {g : fy_G} (C : fy_C g X_Y p s m args meth c yX7_refine.cls cX7_refine 6 (some .int)) {Sr : fy_S} {rr : Int32} : ∀ (fu : Nat) (S : fy_S) (v0 : Nat) (v1 : Int64) (v3 : Int32) (v4 : Int32) (H : Heap) (locs : List Loc) (ls : Array Slot), X7_refine_5 fu S v0 v1 v3 v4 = some (Sr, rr) → fy_W g X_Y S s H locs → X_is X_Y 7 v0 → lv_has ls 6 [(0, .ref (g.2.2.1 v0)), (1, .long v1), (3, .int v3), (4, .int v4)] → W p l e (fy_rm 3) s m args below meth c H locs 0 0 (MQ below (fy_QI g X_Y rr Sr) args s 0 0 (fy_A g X_Y)) (F0 m 5 ls []) := by
  obtain ⟨hx, hb, hr, hts, hown, hlk, hml, hK, hD, hE, hN⟩ := id C
  intro fu
  induction fu with
  | zero => intro S v0 v1 v3 v4 H locs ls h; cases h
  | succ fu ih =>
    intro S v0 v1 v3 v4 H locs ls h w q0 hl
    rw [X7_refine_5] at h
    refine lv_iload hx hb dX7_refine_5 (lv_at hl 3 rfl) ?_
    refine lv_bipush (v := (64 : Int32)) hx hb dX7_refine_7 (by decide) ?_
    refine lv_icmp_ge (tgt := 70) hx hb dX7_refine_9 (by decide) (fun hc => ?_) (fun hc => ?_)
    · have h := fy_if_t h hc
      refine lv_aload_n hx hb dX7_refine_70 rfl (lv_at hl 0 rfl) ?_
      refine gfX7_18 X_full C w q0 dX7_refine_71 ?_
      refine lv_iconst (v := (0 : Int32)) hx hb dX7_refine_74 (by decide) ?_
      refine lv_aload_n hx hb dX7_refine_75 rfl (lv_at hl 0 rfl) ?_
      refine gfX7_15 X_full C w q0 dX7_refine_76 ?_
      refine lv_iconst (v := (0 : Int32)) hx hb dX7_refine_79 (by decide) ?_
      refine lv_bipush (v := (64 : Int32)) hx hb dX7_refine_80 (by decide) ?_
      obtain ⟨g82, h⟩ := fy_gd_some h
      refine fy_cpy0 (l := l) C w (X_f7_finerClasses X_full q0) (X_f7_classes X_full q0) g82 tw570 tw360 tw361 tw362 hl.1 (Nat.le_of_ble_eq_true rfl) (Nat.le_of_ble_eq_true rfl) dX7_refine_82 (fun H locs w => ?_)
      obtain ⟨S82, e82⟩ : ∃ z, z = fy_sA S (v0 + 2) (va_cpy (S.1 (v0 + 3)) (S.1 (v0 + 2)) (0 : Int32).toNatClampNeg (0 : Int32).toNatClampNeg (64 : Int32).toNatClampNeg) := ⟨_, rfl⟩
      have h := fy_bl_some e82 h
      rw [← e82] at w
      refine lv_iload_n hx hb dX7_refine_85 rfl (lv_at hl 2 rfl) ?_
      cases h
      exact fy_retI C w dX7_refine_86
    · have h := fy_if_f h hc
      refine lv_lload_n hx hb dX7_refine_12 rfl (lv_at hl 1 rfl) ?_
      refine lv_iload hx hb dX7_refine_13 (lv_at hl 3 rfl) ?_
      obtain ⟨r15, h15, h⟩ := fy_bd_some h
      refine fy_calI w (fy_runN (As := [.long v1, .int v4]) (rest := []) C w (c_X9_isIn l g X_full  h15) ksX7_61 ⟨Nat.le_of_ble_eq_true rfl, Nat.le_of_ble_eq_true rfl⟩ rfl hl.1 rfl (Nat.le_of_ble_eq_true rfl) ⟨Nat.le_refl _, Nat.le_refl _⟩ dX7_refine_15) (fun H locs w => ?_)
      refine lv_if_eq (tgt := 64) hx hb dX7_refine_18 (by decide) (fun hc => ?_) (fun hc => ?_)
      · have h := fy_if_t h hc
        obtain ⟨x64, e64⟩ : ∃ z : Int32, z = v4 + (1 : Int32) := ⟨_, rfl⟩
        have h := fy_bl_some e64 h
        refine lv_iinc (k := 3) (v := x64) (lv' := [(4, .int x64), (0, .ref (g.2.2.1 v0)), (1, .long v1), (3, .int v3)]) hx hb dX7_refine_64 hl rfl (by rw [e64]; rfl) (by decide) rfl (fun ls hl => ?_)
        refine lv_goto (tgt := 5) hx hb dX7_refine_67 (by decide) ?_
        exact ih _ _ _ _ _ _ _ _ h w q0 (lv_sub hl [1, 2, 3, 0] rfl)
      · have h := fy_if_f h hc
        refine lv_aload_n hx hb dX7_refine_21 rfl (lv_at hl 0 rfl) ?_
        refine lv_lload_n hx hb dX7_refine_22 rfl (lv_at hl 1 rfl) ?_
        refine lv_iload hx hb dX7_refine_23 (lv_at hl 3 rfl) ?_
        obtain ⟨r25, h25, h⟩ := fy_bd_some h
        refine fy_calI w (fy_runV (As := [.long v1, .int v4]) (rest := []) C w (c_X7_earlierTwin l g q0 h25) (X_o7 X_full q0) ksX7_82 rfl ⟨Nat.le_of_ble_eq_true rfl, Nat.le_of_ble_eq_true rfl⟩ rfl hl.1 rfl (Nat.le_of_ble_eq_true rfl) ⟨Nat.le_refl _, Nat.le_refl _⟩ dX7_refine_25) (fun H locs w => ?_)
        refine lv_istore (lv' := [(5, .int r25), (0, .ref (g.2.2.1 v0)), (1, .long v1), (3, .int v3), (4, .int v4)]) hx hb dX7_refine_28 hl (by decide) rfl (fun ls hl => ?_)
        refine lv_iload hx hb dX7_refine_30 (lv_at hl 0 rfl) ?_
        refine lv_iconst (v := (-1 : Int32)) hx hb dX7_refine_32 (by decide) ?_
        refine lv_icmp_ne (tgt := 50) hx hb dX7_refine_33 (by decide) (fun hc => ?_) (fun hc => ?_)
        · have h := fy_if_f h hc
          refine lv_aload_n hx hb dX7_refine_50 rfl (lv_at hl 1 rfl) ?_
          refine gfX7_18 X_full C w q0 dX7_refine_51 ?_
          refine lv_iload hx hb dX7_refine_54 (lv_at hl 4 rfl) ?_
          refine lv_aload_n hx hb dX7_refine_56 rfl (lv_at hl 1 rfl) ?_
          refine gfX7_18 X_full C w q0 dX7_refine_57 ?_
          refine lv_iload hx hb dX7_refine_60 (lv_at hl 0 rfl) ?_
          obtain ⟨g62, h⟩ := fy_gd_some h
          refine fy_iald C w (X_f7_finerClasses X_full q0) g62 dX7_refine_62 ?_
          obtain ⟨g63, h⟩ := fy_gd_some h
          refine fy_iast C w (X_f7_finerClasses X_full q0) g63 dX7_refine_63 (fun H locs w => ?_)
          obtain ⟨S63, e63⟩ : ∃ z, z = fy_sI S (v0 + 3) v4.toNatClampNeg (S.1 (v0 + 3) r25.toNatClampNeg) := ⟨_, rfl⟩
          have h := fy_bl_some e63 h
          rw [← e63] at w
          obtain ⟨x64, e64⟩ : ∃ z : Int32, z = v4 + (1 : Int32) := ⟨_, rfl⟩
          have h := fy_bl_some e64 h
          refine lv_iinc (k := 4) (v := x64) (lv' := [(4, .int x64), (5, .int r25), (0, .ref (g.2.2.1 v0)), (1, .long v1), (3, .int v3)]) hx hb dX7_refine_64 hl rfl (by rw [e64]; rfl) (by decide) rfl (fun ls hl => ?_)
          refine lv_goto (tgt := 5) hx hb dX7_refine_67 (by decide) ?_
          exact ih _ _ _ _ _ _ _ _ h w q0 (lv_sub hl [2, 3, 4, 0] rfl)
        · have h := fy_if_t h hc
          refine lv_aload_n hx hb dX7_refine_36 rfl (lv_at hl 1 rfl) ?_
          refine gfX7_18 X_full C w q0 dX7_refine_37 ?_
          refine lv_iload hx hb dX7_refine_40 (lv_at hl 4 rfl) ?_
          refine lv_iload_n hx hb dX7_refine_42 rfl (lv_at hl 3 rfl) ?_
          obtain ⟨g43, h⟩ := fy_gd_some h
          refine fy_iast C w (X_f7_finerClasses X_full q0) g43 dX7_refine_43 (fun H locs w => ?_)
          obtain ⟨S43, e43⟩ : ∃ z, z = fy_sI S (v0 + 3) v4.toNatClampNeg v3 := ⟨_, rfl⟩
          have h := fy_bl_some e43 h
          rw [← e43] at w
          obtain ⟨x44, e44⟩ : ∃ z : Int32, z = v3 + (1 : Int32) := ⟨_, rfl⟩
          have h := fy_bl_some e44 h
          refine lv_iinc (k := 3) (v := x44) (lv' := [(3, .int x44), (5, .int r25), (0, .ref (g.2.2.1 v0)), (1, .long v1), (4, .int v4)]) hx hb dX7_refine_44 hl rfl (by rw [e44]; rfl) (by decide) rfl (fun ls hl => ?_)
          refine lv_goto (tgt := 64) hx hb dX7_refine_47 (by decide) ?_
          obtain ⟨x64, e64⟩ : ∃ z : Int32, z = v4 + (1 : Int32) := ⟨_, rfl⟩
          have h := fy_bl_some e64 h
          refine lv_iinc (k := 4) (v := x64) (lv' := [(4, .int x64), (3, .int x44), (5, .int r25), (0, .ref (g.2.2.1 v0)), (1, .long v1)]) hx hb dX7_refine_64 hl rfl (by rw [e64]; rfl) (by decide) rfl (fun ls hl => ?_)
          refine lv_goto (tgt := 5) hx hb dX7_refine_67 (by decide) ?_
          exact ih _ _ _ _ _ _ _ _ h w q0 (lv_sub hl [3, 4, 1, 0] rfl)

set_option maxHeartbeats 4000000 in
set_option maxRecDepth 100000 in
theorem t_X7_refine {p : Program} {l : Launch} {e : Env} {s : State} {m : MethodId} {args : Array Value} {below : List Frame} {meth : Method} {c : Code} {g : fy_G} (C : fy_C g X_Y p s m args meth c yX7_refine.cls cX7_refine 6 (some .int)) {S : fy_S} {v0 : Nat} {v1 : Int64} {Sr : fy_S} {rr : Int32} (q0 : X_is X_Y 7 v0) {H : Heap} {locs : List Loc} {ls : Array Slot} (h : X7_refine S v0 v1 = some (Sr, rr)) (w : fy_W g X_Y S s H locs) (hl : lv_has ls 6 [(0, .ref (g.2.2.1 v0)), (1, .long v1)]) : W p l e (fy_rm 3) s m args below meth c H locs 0 0 (MQ below (fy_QI g X_Y rr Sr) args s 0 0 (fy_A g X_Y)) (F0 m 0 ls []) := by
  obtain ⟨hx, hb, hr, hts, hown, hlk, hml, hK, hD, hE, hN⟩ := id C
  rw [X7_refine] at h
  refine lv_iconst (v := (0 : Int32)) hx hb dX7_refine_0 (by decide) ?_
  refine lv_istore_n (lv' := [(3, .int (0 : Int32)), (0, .ref (g.2.2.1 v0)), (1, .long v1)]) hx hb dX7_refine_1 rfl hl (by decide) rfl (fun ls hl => ?_)
  refine lv_iconst (v := (0 : Int32)) hx hb dX7_refine_2 (by decide) ?_
  refine lv_istore (lv' := [(4, .int (0 : Int32)), (3, .int (0 : Int32)), (0, .ref (g.2.2.1 v0)), (1, .long v1)]) hx hb dX7_refine_3 hl (by decide) rfl (fun ls hl => ?_)
  exact t_X7_refine_5 C fy_fu _ _ _ _ _ _ _ _ h w q0 (lv_sub hl [2, 3, 1, 0] rfl)

set_option maxHeartbeats 4000000 in
set_option maxRecDepth 100000 in
theorem c_X7_refine (l : Launch) (g : fy_G) {S : fy_S} {v0 : Nat} {v1 : Int64} {Sr : fy_S} {rr : Int32} (q0 : X_is X_Y 7 v0) (h : X7_refine S v0 v1 = some (Sr, rr)) : fy_M g X_Y l yX7_refine cX7_refine 6 (some .int) (fy_rm 3) [.ref (g.2.2.1 v0), .long v1] S (fy_QI g X_Y rr Sr) :=
  fy_entry (by decide +kernel) (Nat.le_of_ble_eq_true rfl) (fun p e s m args below meth c ls C w hl => t_X7_refine C q0 h w hl)
def X7_countClasses_49 : Nat → fy_S → Nat → Int64 → Int32 → Int32 → Int32 → Option (fy_S × Int32)
  | 0, _, _, _, _, _, _ => none
  | fu + 1, S, v0, v1, v3, v4, v5 =>
    if (64 : Int32) < v5 then (
      some (S, v4))
    else (
      if v4 = v3 then (
        some (S, v4))
      else (
        fy_bp (X7_refine S v0 v1) fun S67 r67 =>
        fy_bl (v5 + (1 : Int32)) fun x72 =>
        X7_countClasses_49 fu S67 v0 v1 v4 r67 x72))
def X7_countClasses_34 (k7 : fy_S → Nat → Int64 → Int32 → Option (fy_S × Int32)) (S : fy_S) (v0 : Nat) (v1 : Int64) (v3 : Int32) (z0 : Int32) (z1 : Int32) (z2 : Nat) : Option (fy_S × Int32) :=
  fy_gd (fy_ix z1 64) <|
  fy_bl (fy_sI S z2 z1.toNatClampNeg z0) fun S34 =>
  fy_bl (v3 + (1 : Int32)) fun x35 =>
  k7 S34 v0 v1 x35
def X7_countClasses_7 : Nat → fy_S → Nat → Int64 → Int32 → Option (fy_S × Int32)
  | 0, _, _, _, _ => none
  | fu + 1, S, v0, v1, v3 =>
    if (64 : Int32) ≤ v3 then (
      X7_countClasses_49 fy_fu S v0 v1 (0 : Int32) (1 : Int32) (0 : Int32))
    else (
      fy_bd (X9_isIn S (S.2 v0 7) v3) fun r23 =>
      if r23 = 0 then (
        X7_countClasses_34 (fun S v0 v1 v3 => X7_countClasses_7 fu S v0 v1 v3) S v0 v1 v3 (0 : Int32) v3 (v0 + 2))
      else (
        X7_countClasses_34 (fun S v0 v1 v3 => X7_countClasses_7 fu S v0 v1 v3) S v0 v1 v3 (1 : Int32) v3 (v0 + 2)))
def X7_countClasses (S : fy_S) (v0 : Nat) : Option (fy_S × Int32) :=
  fy_bd (X7_reachable S v0) fun r1 =>
  X7_countClasses_7 fy_fu S v0 r1 (0 : Int32)
set_option maxHeartbeats 4000000 in
set_option maxRecDepth 100000 in
theorem t_X7_countClasses_49 {p : Program} {l : Launch} {e : Env} {s : State} {m : MethodId} {args : Array Value} {below : List Frame} {meth : Method} {c : Code} {g : fy_G} (C : fy_C g X_Y p s m args meth c yX7_countClasses.cls cX7_countClasses 6 (some .int)) {Sr : fy_S} {rr : Int32} : ∀ (fu : Nat) (S : fy_S) (v0 : Nat) (v1 : Int64) (v3 : Int32) (v4 : Int32) (v5 : Int32) (H : Heap) (locs : List Loc) (ls : Array Slot), X7_countClasses_49 fu S v0 v1 v3 v4 v5 = some (Sr, rr) → fy_W g X_Y S s H locs → X_is X_Y 7 v0 → lv_has ls 6 [(0, .ref (g.2.2.1 v0)), (1, .long v1), (3, .int v3), (4, .int v4), (5, .int v5)] → W p l e (fy_rm 4) s m args below meth c H locs 0 0 (MQ below (fy_QI g X_Y rr Sr) args s 0 0 (fy_A g X_Y)) (F0 m 49 ls []) := by
  obtain ⟨hx, hb, hr, hts, hown, hlk, hml, hK, hD, hE, hN⟩ := id C
  intro fu
  induction fu with
  | zero => intro S v0 v1 v3 v4 v5 H locs ls h; cases h
  | succ fu ih =>
    intro S v0 v1 v3 v4 v5 H locs ls h w q0 hl
    rw [X7_countClasses_49] at h
    refine lv_iload hx hb dX7_countClasses_49 (lv_at hl 4 rfl) ?_
    refine lv_bipush (v := (64 : Int32)) hx hb dX7_countClasses_51 (by decide) ?_
    refine lv_icmp_gt (tgt := 78) hx hb dX7_countClasses_53 (by decide) (fun hc => ?_) (fun hc => ?_)
    · have h := fy_if_t h hc
      refine lv_iload hx hb dX7_countClasses_78 (lv_at hl 3 rfl) ?_
      cases h
      exact fy_retI C w dX7_countClasses_80
    · have h := fy_if_f h hc
      refine lv_iload hx hb dX7_countClasses_56 (lv_at hl 3 rfl) ?_
      refine lv_iload_n hx hb dX7_countClasses_58 rfl (lv_at hl 2 rfl) ?_
      refine lv_icmp_eq (tgt := 78) hx hb dX7_countClasses_59 (by decide) (fun hc => ?_) (fun hc => ?_)
      · have h := fy_if_t h hc
        refine lv_iload hx hb dX7_countClasses_78 (lv_at hl 3 rfl) ?_
        cases h
        exact fy_retI C w dX7_countClasses_80
      · have h := fy_if_f h hc
        refine lv_iload hx hb dX7_countClasses_62 (lv_at hl 3 rfl) ?_
        refine lv_istore_n (lv' := [(3, .int v4), (0, .ref (g.2.2.1 v0)), (1, .long v1), (4, .int v4), (5, .int v5)]) hx hb dX7_countClasses_64 rfl hl (by decide) rfl (fun ls hl => ?_)
        refine lv_aload_n hx hb dX7_countClasses_65 rfl (lv_at hl 1 rfl) ?_
        refine lv_lload_n hx hb dX7_countClasses_66 rfl (lv_at hl 2 rfl) ?_
        obtain ⟨S67, r67, h67, h⟩ := fy_bp_some h
        refine fy_calI w (fy_runV (As := [.long v1]) (rest := []) C w (c_X7_refine l g q0 h67) (X_o7 X_full q0) ksX7_78 rfl ⟨Nat.le_of_ble_eq_true rfl, Nat.le_of_ble_eq_true rfl⟩ rfl hl.1 rfl (Nat.le_of_ble_eq_true rfl) ⟨Nat.le_refl _, Nat.le_refl _⟩ dX7_countClasses_67) (fun H locs w => ?_)
        refine lv_istore (lv' := [(4, .int r67), (3, .int v4), (0, .ref (g.2.2.1 v0)), (1, .long v1), (5, .int v5)]) hx hb dX7_countClasses_70 hl (by decide) rfl (fun ls hl => ?_)
        obtain ⟨x72, e72⟩ : ∃ z : Int32, z = v5 + (1 : Int32) := ⟨_, rfl⟩
        have h := fy_bl_some e72 h
        refine lv_iinc (k := 4) (v := x72) (lv' := [(5, .int x72), (4, .int r67), (3, .int v4), (0, .ref (g.2.2.1 v0)), (1, .long v1)]) hx hb dX7_countClasses_72 hl rfl (by rw [e72]; rfl) (by decide) rfl (fun ls hl => ?_)
        refine lv_goto (tgt := 49) hx hb dX7_countClasses_75 (by decide) ?_
        exact ih _ _ _ _ _ _ _ _ _ h w q0 (lv_sub hl [3, 4, 2, 1, 0] rfl)

set_option maxHeartbeats 4000000 in
set_option maxRecDepth 100000 in
theorem t_X7_countClasses_34 {p : Program} {l : Launch} {e : Env} {s : State} {m : MethodId} {args : Array Value} {below : List Frame} {meth : Method} {c : Code} {g : fy_G} (C : fy_C g X_Y p s m args meth c yX7_countClasses.cls cX7_countClasses 6 (some .int)) {Sr : fy_S} {rr : Int32} {k7 : fy_S → Nat → Int64 → Int32 → Option (fy_S × Int32)} (hk7 : ∀ (S : fy_S) (v0 : Nat) (v1 : Int64) (v3 : Int32) (H : Heap) (locs : List Loc) (ls : Array Slot), k7 S v0 v1 v3 = some (Sr, rr) → fy_W g X_Y S s H locs → X_is X_Y 7 v0 → lv_has ls 6 [(0, .ref (g.2.2.1 v0)), (1, .long v1), (3, .int v3)] → W p l e (fy_rm 4) s m args below meth c H locs 0 0 (MQ below (fy_QI g X_Y rr Sr) args s 0 0 (fy_A g X_Y)) (F0 m 7 ls [])) : ∀ (S : fy_S) (v0 : Nat) (v1 : Int64) (v3 : Int32) (z0 : Int32) (z1 : Int32) (z2 : Nat) (H : Heap) (locs : List Loc) (ls : Array Slot), X7_countClasses_34 k7 S v0 v1 v3 z0 z1 z2 = some (Sr, rr) → fy_W g X_Y S s H locs → X_is X_Y 7 v0 → z2 ∈ X_Y.2 ∧ X_Y.1 z2 = .inl (0, 64, X_ar z2) → lv_has ls 6 [(0, .ref (g.2.2.1 v0)), (1, .long v1), (3, .int v3)] → W p l e (fy_rm 4) s m args below meth c H locs 0 0 (MQ below (fy_QI g X_Y rr Sr) args s 0 0 (fy_A g X_Y)) (F0 m 34 ls [.int z0, .int z1, .ref (g.2.2.1 z2)]) := by
  obtain ⟨hx, hb, hr, hts, hown, hlk, hml, hK, hD, hE, hN⟩ := id C
  intro S v0 v1 v3 z0 z1 z2 H locs ls h w q0 qz2 hl
  rw [X7_countClasses_34] at h
  obtain ⟨g34, h⟩ := fy_gd_some h
  refine fy_iast C w qz2 g34 dX7_countClasses_34 (fun H locs w => ?_)
  obtain ⟨S34, e34⟩ : ∃ z, z = fy_sI S z2 z1.toNatClampNeg z0 := ⟨_, rfl⟩
  have h := fy_bl_some e34 h
  rw [← e34] at w
  obtain ⟨x35, e35⟩ : ∃ z : Int32, z = v3 + (1 : Int32) := ⟨_, rfl⟩
  have h := fy_bl_some e35 h
  refine lv_iinc (k := 2) (v := x35) (lv' := [(3, .int x35), (0, .ref (g.2.2.1 v0)), (1, .long v1)]) hx hb dX7_countClasses_35 hl rfl (by rw [e35]; rfl) (by decide) rfl (fun ls hl => ?_)
  refine lv_goto (tgt := 7) hx hb dX7_countClasses_38 (by decide) ?_
  exact hk7 _ _ _ _ _ _ _ h w q0 (lv_sub hl [1, 2, 0] rfl)

set_option maxHeartbeats 4000000 in
set_option maxRecDepth 100000 in
theorem t_X7_countClasses_7 {p : Program} {l : Launch} {e : Env} {s : State} {m : MethodId} {args : Array Value} {below : List Frame} {meth : Method} {c : Code} {g : fy_G} (C : fy_C g X_Y p s m args meth c yX7_countClasses.cls cX7_countClasses 6 (some .int)) {Sr : fy_S} {rr : Int32} : ∀ (fu : Nat) (S : fy_S) (v0 : Nat) (v1 : Int64) (v3 : Int32) (H : Heap) (locs : List Loc) (ls : Array Slot), X7_countClasses_7 fu S v0 v1 v3 = some (Sr, rr) → fy_W g X_Y S s H locs → X_is X_Y 7 v0 → lv_has ls 6 [(0, .ref (g.2.2.1 v0)), (1, .long v1), (3, .int v3)] → W p l e (fy_rm 4) s m args below meth c H locs 0 0 (MQ below (fy_QI g X_Y rr Sr) args s 0 0 (fy_A g X_Y)) (F0 m 7 ls []) := by
  obtain ⟨hx, hb, hr, hts, hown, hlk, hml, hK, hD, hE, hN⟩ := id C
  intro fu
  induction fu with
  | zero => intro S v0 v1 v3 H locs ls h; cases h
  | succ fu ih =>
    intro S v0 v1 v3 H locs ls h w q0 hl
    rw [X7_countClasses_7] at h
    refine lv_iload_n hx hb dX7_countClasses_7 rfl (lv_at hl 2 rfl) ?_
    refine lv_bipush (v := (64 : Int32)) hx hb dX7_countClasses_8 (by decide) ?_
    refine lv_icmp_ge (tgt := 41) hx hb dX7_countClasses_10 (by decide) (fun hc => ?_) (fun hc => ?_)
    · have h := fy_if_t h hc
      refine lv_iconst (v := (0 : Int32)) hx hb dX7_countClasses_41 (by decide) ?_
      refine lv_istore_n (lv' := [(3, .int (0 : Int32)), (0, .ref (g.2.2.1 v0)), (1, .long v1)]) hx hb dX7_countClasses_42 rfl hl (by decide) rfl (fun ls hl => ?_)
      refine lv_iconst (v := (1 : Int32)) hx hb dX7_countClasses_43 (by decide) ?_
      refine lv_istore (lv' := [(4, .int (1 : Int32)), (3, .int (0 : Int32)), (0, .ref (g.2.2.1 v0)), (1, .long v1)]) hx hb dX7_countClasses_44 hl (by decide) rfl (fun ls hl => ?_)
      refine lv_iconst (v := (0 : Int32)) hx hb dX7_countClasses_46 (by decide) ?_
      refine lv_istore (lv' := [(5, .int (0 : Int32)), (4, .int (1 : Int32)), (3, .int (0 : Int32)), (0, .ref (g.2.2.1 v0)), (1, .long v1)]) hx hb dX7_countClasses_47 hl (by decide) rfl (fun ls hl => ?_)
      exact t_X7_countClasses_49 C fy_fu _ _ _ _ _ _ _ _ _ h w q0 (lv_sub hl [3, 4, 2, 1, 0] rfl)
    · have h := fy_if_f h hc
      refine lv_aload_n hx hb dX7_countClasses_13 rfl (lv_at hl 0 rfl) ?_
      refine gfX7_15 X_full C w q0 dX7_countClasses_14 ?_
      refine lv_iload_n hx hb dX7_countClasses_17 rfl (lv_at hl 2 rfl) ?_
      refine lv_aload_n hx hb dX7_countClasses_18 rfl (lv_at hl 0 rfl) ?_
      refine gfX7_35 X_full C w q0 dX7_countClasses_19 ?_
      refine lv_iload_n hx hb dX7_countClasses_22 rfl (lv_at hl 2 rfl) ?_
      obtain ⟨r23, h23, h⟩ := fy_bd_some h
      refine fy_calI w (fy_runN (As := [.long (S.2 v0 7), .int v3]) (rest := [.int v3, .ref (g.2.2.1 (v0 + 2))]) C w (c_X9_isIn l g X_full  h23) ksX7_61 ⟨Nat.le_of_ble_eq_true rfl, Nat.le_of_ble_eq_true rfl⟩ rfl hl.1 rfl (Nat.le_of_ble_eq_true rfl) ⟨Nat.le_refl _, Nat.le_refl _⟩ dX7_countClasses_23) (fun H locs w => ?_)
      refine lv_if_eq (tgt := 33) hx hb dX7_countClasses_26 (by decide) (fun hc => ?_) (fun hc => ?_)
      · have h := fy_if_t h hc
        refine lv_iconst (v := (0 : Int32)) hx hb dX7_countClasses_33 (by decide) ?_
        exact t_X7_countClasses_34 C ih _ _ _ _ _ _ _ _ _ _ h w q0 (X_f7_classes X_full q0) (lv_sub hl [0, 1, 2] rfl)
      · have h := fy_if_f h hc
        refine lv_iconst (v := (1 : Int32)) hx hb dX7_countClasses_29 (by decide) ?_
        refine lv_goto (tgt := 34) hx hb dX7_countClasses_30 (by decide) ?_
        exact t_X7_countClasses_34 C ih _ _ _ _ _ _ _ _ _ _ h w q0 (X_f7_classes X_full q0) (lv_sub hl [0, 1, 2] rfl)

set_option maxHeartbeats 4000000 in
set_option maxRecDepth 100000 in
theorem t_X7_countClasses {p : Program} {l : Launch} {e : Env} {s : State} {m : MethodId} {args : Array Value} {below : List Frame} {meth : Method} {c : Code} {g : fy_G} (C : fy_C g X_Y p s m args meth c yX7_countClasses.cls cX7_countClasses 6 (some .int)) {S : fy_S} {v0 : Nat} {Sr : fy_S} {rr : Int32} (q0 : X_is X_Y 7 v0) {H : Heap} {locs : List Loc} {ls : Array Slot} (h : X7_countClasses S v0 = some (Sr, rr)) (w : fy_W g X_Y S s H locs) (hl : lv_has ls 6 [(0, .ref (g.2.2.1 v0))]) : W p l e (fy_rm 4) s m args below meth c H locs 0 0 (MQ below (fy_QI g X_Y rr Sr) args s 0 0 (fy_A g X_Y)) (F0 m 0 ls []) := by
  obtain ⟨hx, hb, hr, hts, hown, hlk, hml, hK, hD, hE, hN⟩ := id C
  rw [X7_countClasses] at h
  refine lv_aload_n hx hb dX7_countClasses_0 rfl (lv_at hl 0 rfl) ?_
  obtain ⟨r1, h1, h⟩ := fy_bd_some h
  refine fy_calL w (fy_runV (As := []) (rest := []) C w (c_X7_reachable l g q0 h1) (X_o7 X_full q0) ksX7_74 rfl ⟨Nat.le_of_ble_eq_true rfl, Nat.le_of_ble_eq_true rfl⟩ rfl hl.1 rfl (Nat.le_of_ble_eq_true rfl) ⟨Nat.le_refl _, Nat.le_refl _⟩ dX7_countClasses_1) (fun H locs w => ?_)
  refine lv_lstore_n (lv' := [(1, .long r1), (0, .ref (g.2.2.1 v0))]) hx hb dX7_countClasses_4 rfl hl (by decide) rfl (fun ls hl => ?_)
  refine lv_iconst (v := (0 : Int32)) hx hb dX7_countClasses_5 (by decide) ?_
  refine lv_istore_n (lv' := [(3, .int (0 : Int32)), (1, .long r1), (0, .ref (g.2.2.1 v0))]) hx hb dX7_countClasses_6 rfl hl (by decide) rfl (fun ls hl => ?_)
  exact t_X7_countClasses_7 C fy_fu _ _ _ _ _ _ _ h w q0 (lv_sub hl [2, 1, 0] rfl)

set_option maxHeartbeats 4000000 in
set_option maxRecDepth 100000 in
theorem c_X7_countClasses (l : Launch) (g : fy_G) {S : fy_S} {v0 : Nat} {Sr : fy_S} {rr : Int32} (q0 : X_is X_Y 7 v0) (h : X7_countClasses S v0 = some (Sr, rr)) : fy_M g X_Y l yX7_countClasses cX7_countClasses 6 (some .int) (fy_rm 4) [.ref (g.2.2.1 v0)] S (fy_QI g X_Y rr Sr) :=
  fy_entry (by decide +kernel) (Nat.le_of_ble_eq_true rfl) (fun p e s m args below meth c ls C w hl => t_X7_countClasses C q0 h w hl)
def X9_reverseClasses (S : fy_S) (v1 : Int32) : Option (fy_S × Int32) :=
  fy_bd (X9_automatonIn S v1) fun r2 =>
  match r2 with
  | none => (
    some (S, (-2 : Int32)))
  | some r2_ => (
    fy_bd (X7_load S 20 r2_) fun S18 =>
    fy_bp (X7_countClasses S18 20) fun S25 r25 =>
    some (S25, r25))
set_option maxHeartbeats 4000000 in
set_option maxRecDepth 100000 in
theorem t_X9_reverseClasses {p : Program} {l : Launch} {e : Env} {s : State} {m : MethodId} {args : Array Value} {below : List Frame} {meth : Method} {c : Code} {g : fy_G} (C : fy_C g X_Y p s m args meth c yX9_reverseClasses.cls cX9_reverseClasses 3 (some .int)) {S : fy_S} {v1 : Int32} {Sr : fy_S} {rr : Int32}  {H : Heap} {locs : List Loc} {ls : Array Slot} (h : X9_reverseClasses S v1 = some (Sr, rr)) (w : fy_W g X_Y S s H locs) (hl : lv_has ls 3 [(0, .ref (g.2.2.1 0)), (1, .int v1)]) : W p l e (fy_rm 5) s m args below meth c H locs 0 0 (MQ below (fy_QI g X_Y rr Sr) args s 0 0 (fy_A g X_Y)) (F0 m 0 ls []) := by
  obtain ⟨hx, hb, hr, hts, hown, hlk, hml, hK, hD, hE, hN⟩ := id C
  rw [X9_reverseClasses] at h
  refine lv_aload_n hx hb dX9_reverseClasses_0 rfl (lv_at hl 0 rfl) ?_
  refine lv_iload_n hx hb dX9_reverseClasses_1 rfl (lv_at hl 1 rfl) ?_
  obtain ⟨r2, h2, h⟩ := fy_bd_some h
  refine fy_calE w (fy_runV (As := [.int v1]) (rest := []) C w (c_X9_automatonIn l g  h2) (X_o9 X_full (X_i0)) ksX9_88 rfl ⟨Nat.le_of_ble_eq_true rfl, Nat.le_of_ble_eq_true rfl⟩ rfl hl.1 rfl (Nat.le_of_ble_eq_true rfl) ⟨Nat.le_refl _, Nat.le_refl _⟩ dX9_reverseClasses_2) (fun H locs w => ?_)
  refine fy_astoreO_n (lv' := [(2, va_re g.2.2.1 r2), (0, .ref (g.2.2.1 0)), (1, .int v1)]) hx hb dX9_reverseClasses_5 rfl hl (by decide) rfl (fun ls hl => ?_)
  cases r2 with
  | none =>
    dsimp only at h
    refine lv_aload_nN hx hb dX9_reverseClasses_6 rfl (lv_at hl 0 rfl) ?_
    refine lv_ifnonnullN hx hb dX9_reverseClasses_7 ?_
    refine lv_bipush (v := (-2 : Int32)) hx hb dX9_reverseClasses_10 (by decide) ?_
    cases h
    exact fy_retI C w dX9_reverseClasses_12
  | some r2_ =>
    dsimp only at h
    refine lv_aload_n hx hb dX9_reverseClasses_6 rfl (lv_at hl 0 rfl) ?_
    refine lv_ifnonnull (tgt := 13) hx hb dX9_reverseClasses_7 (by decide) ?_
    refine lv_aload_n hx hb dX9_reverseClasses_13 rfl (lv_at hl 1 rfl) ?_
    refine gfX9_59 X_full C w (X_i0) dX9_reverseClasses_14 ?_
    refine lv_aload_n hx hb dX9_reverseClasses_17 rfl (lv_at hl 0 rfl) ?_
    obtain ⟨S18, h18, h⟩ := fy_bd_some h
    refine fy_calV w (fy_runV (As := [.ref (g.2.2.1 r2_)]) (rest := []) C w (c_X7_load l g X_i20 (cls_X9_automatonIn  h2) h18) (X_o7 X_full X_i20) ksX9_208 rfl ⟨Nat.le_of_ble_eq_true rfl, Nat.le_of_ble_eq_true rfl⟩ rfl hl.1 rfl (Nat.le_of_ble_eq_true rfl) ⟨Nat.le_refl _, Nat.le_refl _⟩ dX9_reverseClasses_18) (fun H locs w => ?_)
    refine lv_aload_n hx hb dX9_reverseClasses_21 rfl (lv_at hl 1 rfl) ?_
    refine gfX9_59 X_full C w (X_i0) dX9_reverseClasses_22 ?_
    obtain ⟨S25, r25, h25, h⟩ := fy_bp_some h
    refine fy_calI w (fy_runV (As := []) (rest := []) C w (c_X7_countClasses l g X_i20 h25) (X_o7 X_full X_i20) ksX9_216 rfl ⟨Nat.le_of_ble_eq_true rfl, Nat.le_of_ble_eq_true rfl⟩ rfl hl.1 rfl (Nat.le_of_ble_eq_true rfl) ⟨Nat.le_refl _, Nat.le_refl _⟩ dX9_reverseClasses_25) (fun H locs w => ?_)
    cases h
    exact fy_retI C w dX9_reverseClasses_28

set_option maxHeartbeats 4000000 in
set_option maxRecDepth 100000 in
theorem c_X9_reverseClasses (l : Launch) (g : fy_G) {S : fy_S} {v1 : Int32} {Sr : fy_S} {rr : Int32}  (h : X9_reverseClasses S v1 = some (Sr, rr)) : fy_M g X_Y l yX9_reverseClasses cX9_reverseClasses 3 (some .int) (fy_rm 5) [.ref (g.2.2.1 0), .int v1] S (fy_QI g X_Y rr Sr) :=
  fy_entry (by decide +kernel) (Nat.le_of_ble_eq_true rfl) (fun p e s m args below meth c ls C w hl => t_X9_reverseClasses C  h w hl)
end
