noncomputable section
def X0_becomeDual_51 (k41 : fy_S → Nat → Nat → Int32 → Option (fy_S)) : Nat → fy_S → Nat → Nat → Int32 → Int32 → Option (fy_S)
  | 0, _, _, _, _, _ => none
  | fu + 1, S, v0, v1, v2, v3 =>
    if (S.1 v0 4) ≤ v3 then (
      fy_bl (v2 + (1 : Int32)) fun x80 =>
      k41 S v0 v1 x80)
    else (
      fy_bd (X0_move S v0 v2 v3) fun r62 =>
      fy_bd (X0_move S v1 v2 v3) fun r68 =>
      match r68 with
      | none => (
        none)
      | some r68_ => (
        match r62 with
        | none => (
          none)
        | some r62_ => (
          fy_bd (X2_becomeDual S r62_ r68_) fun S71 =>
          fy_bl (v3 + (1 : Int32)) fun x74 =>
          X0_becomeDual_51 k41 fu S71 v0 v1 v2 x74)))
def X0_becomeDual_41 : Nat → fy_S → Nat → Nat → Int32 → Option (fy_S)
  | 0, _, _, _, _ => none
  | fu + 1, S, v0, v1, v2 =>
    if (S.1 v0 3) ≤ v2 then (
      some S)
    else (
      X0_becomeDual_51 (fun S v0 v1 v2 => X0_becomeDual_41 fu S v0 v1 v2) fy_fu S v0 v1 v2 (0 : Int32))
def X0_becomeDual (S : fy_S) (v0 : Nat) (v1 : Nat) : Option (fy_S) :=
  fy_bd (X0_takeShape S v0 v1 (S.1 v1 3)) fun S6 =>
  fy_bl (fy_sI S6 v0 5 (((S6.1 v1 5) ^^^ (-1 : Int32)) &&& (((1 : Int32) <<< ((S6.1 v0 3) &&& 31)) - (1 : Int32)))) fun S25 =>
  fy_bd (X2_becomeDual S25 (v0 + 3) (v1 + 3)) fun S36 =>
  X0_becomeDual_41 fy_fu S36 v0 v1 (0 : Int32)
set_option maxHeartbeats 4000000 in
set_option maxRecDepth 100000 in
theorem t_X0_becomeDual_51 {p : Program} {l : Launch} {e : Env} {s : State} {m : MethodId} {args : Array Value} {below : List Frame} {meth : Method} {c : Code} {g : fy_G} {y : fy_Y} (C : fy_C g y p s m args meth c yX0_becomeDual.cls cX0_becomeDual 4 none) (hcl : X_clo y) {Sr : fy_S}  {k41 : fy_S → Nat → Nat → Int32 → Option (fy_S)} (hk41 : ∀ (S : fy_S) (v0 : Nat) (v1 : Nat) (v2 : Int32) (H : Heap) (locs : List Loc) (ls : Array Slot), k41 S v0 v1 v2 = some Sr → fy_W g y S s H locs → X_is y 0 v0 → X_is y 0 v1 → lv_has ls 4 [(0, .ref (g.2.2.1 v0)), (1, .ref (g.2.2.1 v1)), (2, .int v2)] → W p l e (fy_rm 3) s m args below meth c H locs 0 0 (MQ below (fy_QV g y Sr) args s 0 0 (fy_A g y)) (F0 m 41 ls [])) : ∀ (fu : Nat) (S : fy_S) (v0 : Nat) (v1 : Nat) (v2 : Int32) (v3 : Int32) (H : Heap) (locs : List Loc) (ls : Array Slot), X0_becomeDual_51 k41 fu S v0 v1 v2 v3 = some Sr → fy_W g y S s H locs → X_is y 0 v0 → X_is y 0 v1 → lv_has ls 4 [(0, .ref (g.2.2.1 v0)), (1, .ref (g.2.2.1 v1)), (2, .int v2), (3, .int v3)] → W p l e (fy_rm 3) s m args below meth c H locs 0 0 (MQ below (fy_QV g y Sr) args s 0 0 (fy_A g y)) (F0 m 51 ls []) := by
  obtain ⟨hx, hb, hr, hts, hown, hlk, hml, hK, hD, hE, hN⟩ := id C
  intro fu
  induction fu with
  | zero => intro S v0 v1 v2 v3 H locs ls h; cases h
  | succ fu ih =>
    intro S v0 v1 v2 v3 H locs ls h w q0 q1 hl
    rw [X0_becomeDual_51] at h
    refine lv_iload_n hx hb dX0_becomeDual_51 rfl (lv_at hl 3 rfl) ?_
    refine lv_aload_n hx hb dX0_becomeDual_52 rfl (lv_at hl 0 rfl) ?_
    refine gfX0_34 hcl C w q0 dX0_becomeDual_53 ?_
    refine lv_icmp_ge (tgt := 80) hx hb dX0_becomeDual_56 (by decide) (fun hc => ?_) (fun hc => ?_)
    · have h := fy_if_t h hc
      obtain ⟨x80, e80⟩ : ∃ z : Int32, z = v2 + (1 : Int32) := ⟨_, rfl⟩
      have h := fy_bl_some e80 h
      refine lv_iinc (k := 2) (v := x80) (lv' := [(2, .int x80), (0, .ref (g.2.2.1 v0)), (1, .ref (g.2.2.1 v1)), (3, .int v3)]) hx hb dX0_becomeDual_80 hl rfl (by rw [e80]; rfl) (by decide) rfl (fun ls hl => ?_)
      refine lv_goto (tgt := 41) hx hb dX0_becomeDual_83 (by decide) ?_
      exact hk41 _ _ _ _ _ _ _ h w q0 q1 (lv_sub hl [1, 2, 0] rfl)
    · have h := fy_if_f h hc
      refine lv_aload_n hx hb dX0_becomeDual_59 rfl (lv_at hl 0 rfl) ?_
      refine lv_iload_n hx hb dX0_becomeDual_60 rfl (lv_at hl 2 rfl) ?_
      refine lv_iload_n hx hb dX0_becomeDual_61 rfl (lv_at hl 3 rfl) ?_
      obtain ⟨r62, h62, h⟩ := fy_bd_some h
      refine fy_calE w (fy_runV (As := [.int v2, .int v3]) (rest := []) C w (c_X0_move l g hcl q0 h62) (X_o0 hcl q0) ksX0_56 rfl ⟨Nat.le_of_ble_eq_true rfl, Nat.le_of_ble_eq_true rfl⟩ rfl hl.1 rfl (Nat.le_of_ble_eq_true rfl) ⟨Nat.le_refl _, Nat.le_refl _⟩ dX0_becomeDual_62) (fun H locs w => ?_)
      refine lv_aload_n hx hb dX0_becomeDual_65 rfl (lv_at hl 1 rfl) ?_
      refine lv_iload_n hx hb dX0_becomeDual_66 rfl (lv_at hl 2 rfl) ?_
      refine lv_iload_n hx hb dX0_becomeDual_67 rfl (lv_at hl 3 rfl) ?_
      obtain ⟨r68, h68, h⟩ := fy_bd_some h
      refine fy_calE w (fy_runV (As := [.int v2, .int v3]) (rest := [va_re g.2.2.1 r62]) C w (c_X0_move l g hcl q1 h68) (X_o0 hcl q1) ksX0_56 rfl ⟨Nat.le_of_ble_eq_true rfl, Nat.le_of_ble_eq_true rfl⟩ rfl hl.1 rfl (by simp only [List.map, fy_recat]; decide) ⟨Nat.le_refl _, Nat.le_refl _⟩ dX0_becomeDual_68) (fun H locs w => ?_)
      cases r68 with
      | none =>
        dsimp only at h
        cases h
      | some r68_ =>
        dsimp only at h
        cases r62 with
        | none =>
          dsimp only at h
          cases h
        | some r62_ =>
          dsimp only at h
          obtain ⟨S71, h71, h⟩ := fy_bd_some h
          refine fy_calV w (fy_runV (As := [.ref (g.2.2.1 r68_)]) (rest := []) C w (c_X2_becomeDual l g hcl (cls_X0_move hcl q0 h62) (cls_X0_move hcl q1 h68) h71) (X_o2 hcl (cls_X0_move hcl q0 h62)) ksX0_78 rfl ⟨Nat.le_of_ble_eq_true rfl, Nat.le_of_ble_eq_true rfl⟩ rfl hl.1 rfl (Nat.le_of_ble_eq_true rfl) ⟨Nat.le_refl _, Nat.le_refl _⟩ dX0_becomeDual_71) (fun H locs w => ?_)
          obtain ⟨x74, e74⟩ : ∃ z : Int32, z = v3 + (1 : Int32) := ⟨_, rfl⟩
          have h := fy_bl_some e74 h
          refine lv_iinc (k := 3) (v := x74) (lv' := [(3, .int x74), (0, .ref (g.2.2.1 v0)), (1, .ref (g.2.2.1 v1)), (2, .int v2)]) hx hb dX0_becomeDual_74 hl rfl (by rw [e74]; rfl) (by decide) rfl (fun ls hl => ?_)
          refine lv_goto (tgt := 51) hx hb dX0_becomeDual_77 (by decide) ?_
          exact ih _ _ _ _ _ _ _ _ h w q0 q1 (lv_sub hl [1, 2, 3, 0] rfl)

set_option maxHeartbeats 4000000 in
set_option maxRecDepth 100000 in
theorem t_X0_becomeDual_41 {p : Program} {l : Launch} {e : Env} {s : State} {m : MethodId} {args : Array Value} {below : List Frame} {meth : Method} {c : Code} {g : fy_G} {y : fy_Y} (C : fy_C g y p s m args meth c yX0_becomeDual.cls cX0_becomeDual 4 none) (hcl : X_clo y) {Sr : fy_S}  : ∀ (fu : Nat) (S : fy_S) (v0 : Nat) (v1 : Nat) (v2 : Int32) (H : Heap) (locs : List Loc) (ls : Array Slot), X0_becomeDual_41 fu S v0 v1 v2 = some Sr → fy_W g y S s H locs → X_is y 0 v0 → X_is y 0 v1 → lv_has ls 4 [(0, .ref (g.2.2.1 v0)), (1, .ref (g.2.2.1 v1)), (2, .int v2)] → W p l e (fy_rm 3) s m args below meth c H locs 0 0 (MQ below (fy_QV g y Sr) args s 0 0 (fy_A g y)) (F0 m 41 ls []) := by
  obtain ⟨hx, hb, hr, hts, hown, hlk, hml, hK, hD, hE, hN⟩ := id C
  intro fu
  induction fu with
  | zero => intro S v0 v1 v2 H locs ls h; cases h
  | succ fu ih =>
    intro S v0 v1 v2 H locs ls h w q0 q1 hl
    rw [X0_becomeDual_41] at h
    refine lv_iload_n hx hb dX0_becomeDual_41 rfl (lv_at hl 2 rfl) ?_
    refine lv_aload_n hx hb dX0_becomeDual_42 rfl (lv_at hl 0 rfl) ?_
    refine gfX0_30 hcl C w q0 dX0_becomeDual_43 ?_
    refine lv_icmp_ge (tgt := 86) hx hb dX0_becomeDual_46 (by decide) (fun hc => ?_) (fun hc => ?_)
    · have h := fy_if_t h hc
      cases h
      exact fy_retV C w dX0_becomeDual_86
    · have h := fy_if_f h hc
      refine lv_iconst (v := (0 : Int32)) hx hb dX0_becomeDual_49 (by decide) ?_
      refine lv_istore_n (lv' := [(3, .int (0 : Int32)), (0, .ref (g.2.2.1 v0)), (1, .ref (g.2.2.1 v1)), (2, .int v2)]) hx hb dX0_becomeDual_50 rfl hl (by decide) rfl (fun ls hl => ?_)
      exact t_X0_becomeDual_51 C hcl ih fy_fu _ _ _ _ _ _ _ _ h w q0 q1 (lv_sub hl [1, 2, 3, 0] rfl)

set_option maxHeartbeats 4000000 in
set_option maxRecDepth 100000 in
theorem t_X0_becomeDual {p : Program} {l : Launch} {e : Env} {s : State} {m : MethodId} {args : Array Value} {below : List Frame} {meth : Method} {c : Code} {g : fy_G} {y : fy_Y} (C : fy_C g y p s m args meth c yX0_becomeDual.cls cX0_becomeDual 4 none) (hcl : X_clo y) {S : fy_S} {v0 : Nat} {v1 : Nat} {Sr : fy_S}  (q0 : X_is y 0 v0) (q1 : X_is y 0 v1) {H : Heap} {locs : List Loc} {ls : Array Slot} (h : X0_becomeDual S v0 v1 = some Sr) (w : fy_W g y S s H locs) (hl : lv_has ls 4 [(0, .ref (g.2.2.1 v0)), (1, .ref (g.2.2.1 v1))]) : W p l e (fy_rm 3) s m args below meth c H locs 0 0 (MQ below (fy_QV g y Sr) args s 0 0 (fy_A g y)) (F0 m 0 ls []) := by
  obtain ⟨hx, hb, hr, hts, hown, hlk, hml, hK, hD, hE, hN⟩ := id C
  rw [X0_becomeDual] at h
  refine lv_aload_n hx hb dX0_becomeDual_0 rfl (lv_at hl 0 rfl) ?_
  refine lv_aload_n hx hb dX0_becomeDual_1 rfl (lv_at hl 1 rfl) ?_
  refine lv_aload_n hx hb dX0_becomeDual_2 rfl (lv_at hl 1 rfl) ?_
  refine gfX0_30 hcl C w q1 dX0_becomeDual_3 ?_
  obtain ⟨S6, h6, h⟩ := fy_bd_some h
  refine fy_calV w (fy_runV (As := [.ref (g.2.2.1 v1), .int (S.1 v1 3)]) (rest := []) C w (c_X0_takeShape l g hcl q0 q1 h6) (X_o0 hcl q0) ksX0_60 rfl ⟨Nat.le_of_ble_eq_true rfl, Nat.le_of_ble_eq_true rfl⟩ rfl hl.1 rfl (Nat.le_of_ble_eq_true rfl) ⟨Nat.le_refl _, Nat.le_refl _⟩ dX0_becomeDual_6) (fun H locs w => ?_)
  refine lv_aload_n hx hb dX0_becomeDual_9 rfl (lv_at hl 0 rfl) ?_
  refine lv_aload_n hx hb dX0_becomeDual_10 rfl (lv_at hl 1 rfl) ?_
  refine gfX0_37 hcl C w q1 dX0_becomeDual_11 ?_
  refine lv_iconst (v := (-1 : Int32)) hx hb dX0_becomeDual_14 (by decide) ?_
  refine lv_ixor hx hb dX0_becomeDual_15 ?_
  refine lv_iconst (v := (1 : Int32)) hx hb dX0_becomeDual_16 (by decide) ?_
  refine lv_aload_n hx hb dX0_becomeDual_17 rfl (lv_at hl 0 rfl) ?_
  refine gfX0_30 hcl C w q0 dX0_becomeDual_18 ?_
  refine lv_ishl hx hb dX0_becomeDual_21 ?_
  refine lv_iconst (v := (1 : Int32)) hx hb dX0_becomeDual_22 (by decide) ?_
  refine lv_isub hx hb dX0_becomeDual_23 ?_
  refine lv_iand hx hb dX0_becomeDual_24 ?_
  refine pfX0_37 hcl C w q0 dX0_becomeDual_25 (fun H locs w => ?_)
  obtain ⟨S25, e25⟩ : ∃ z, z = fy_sI S6 v0 5 (((S6.1 v1 5) ^^^ (-1 : Int32)) &&& (((1 : Int32) <<< ((S6.1 v0 3) &&& 31)) - (1 : Int32))) := ⟨_, rfl⟩
  have h := fy_bl_some e25 h
  rw [← e25] at w
  refine lv_aload_n hx hb dX0_becomeDual_28 rfl (lv_at hl 0 rfl) ?_
  refine gfX0_18 hcl C w q0 dX0_becomeDual_29 ?_
  refine lv_aload_n hx hb dX0_becomeDual_32 rfl (lv_at hl 1 rfl) ?_
  refine gfX0_18 hcl C w q1 dX0_becomeDual_33 ?_
  obtain ⟨S36, h36, h⟩ := fy_bd_some h
  refine fy_calV w (fy_runV (As := [.ref (g.2.2.1 (v1 + 3))]) (rest := []) C w (c_X2_becomeDual l g hcl (X_f0_initial hcl q0) (X_f0_initial hcl q1) h36) (X_o2 hcl (X_f0_initial hcl q0)) ksX0_78 rfl ⟨Nat.le_of_ble_eq_true rfl, Nat.le_of_ble_eq_true rfl⟩ rfl hl.1 rfl (Nat.le_of_ble_eq_true rfl) ⟨Nat.le_refl _, Nat.le_refl _⟩ dX0_becomeDual_36) (fun H locs w => ?_)
  refine lv_iconst (v := (0 : Int32)) hx hb dX0_becomeDual_39 (by decide) ?_
  refine lv_istore_n (lv' := [(2, .int (0 : Int32)), (0, .ref (g.2.2.1 v0)), (1, .ref (g.2.2.1 v1))]) hx hb dX0_becomeDual_40 rfl hl (by decide) rfl (fun ls hl => ?_)
  exact t_X0_becomeDual_41 C hcl fy_fu _ _ _ _ _ _ _ h w q0 q1 (lv_sub hl [1, 2, 0] rfl)

set_option maxHeartbeats 4000000 in
set_option maxRecDepth 100000 in
theorem c_X0_becomeDual (l : Launch) (g : fy_G) {y : fy_Y} (hcl : X_clo y) {S : fy_S} {v0 : Nat} {v1 : Nat} {Sr : fy_S}  (q0 : X_is y 0 v0) (q1 : X_is y 0 v1) (h : X0_becomeDual S v0 v1 = some Sr) : fy_M g y l yX0_becomeDual cX0_becomeDual 4 none (fy_rm 3) [.ref (g.2.2.1 v0), .ref (g.2.2.1 v1)] S (fy_QV g y Sr) :=
  fy_entry (by decide +kernel) (Nat.le_of_ble_eq_true rfl) (fun p e s m args below meth c ls C w hl => t_X0_becomeDual C hcl q0 q1 h w hl)
def X9_dualize (S : fy_S) (v1 : Int32) (v2 : Int32) : Option (fy_S × Int32) :=
  fy_bd (X9_automatonIn S v1) fun r2 =>
  fy_bd (X9_automatonIn S v2) fun r8 =>
  match r2 with
  | none => (
    some (S, (-2 : Int32)))
  | some r2_ => (
    match r8 with
    | none => (
      some (S, (-2 : Int32)))
    | some r8_ => (
      fy_bd (X0_becomeDual S r8_ r2_) fun S28 =>
      some (S28, (S28.1 r8_ 5))))
set_option maxHeartbeats 4000000 in
set_option maxRecDepth 100000 in
theorem t_X9_dualize {p : Program} {l : Launch} {e : Env} {s : State} {m : MethodId} {args : Array Value} {below : List Frame} {meth : Method} {c : Code} {g : fy_G} (C : fy_C g X_Y p s m args meth c yX9_dualize.cls cX9_dualize 5 (some .int)) {S : fy_S} {v1 : Int32} {v2 : Int32} {Sr : fy_S} {rr : Int32}  {H : Heap} {locs : List Loc} {ls : Array Slot} (h : X9_dualize S v1 v2 = some (Sr, rr)) (w : fy_W g X_Y S s H locs) (hl : lv_has ls 5 [(0, .ref (g.2.2.1 0)), (1, .int v1), (2, .int v2)]) : W p l e (fy_rm 4) s m args below meth c H locs 0 0 (MQ below (fy_QI g X_Y rr Sr) args s 0 0 (fy_A g X_Y)) (F0 m 0 ls []) := by
  obtain ⟨hx, hb, hr, hts, hown, hlk, hml, hK, hD, hE, hN⟩ := id C
  rw [X9_dualize] at h
  refine lv_aload_n hx hb dX9_dualize_0 rfl (lv_at hl 0 rfl) ?_
  refine lv_iload_n hx hb dX9_dualize_1 rfl (lv_at hl 1 rfl) ?_
  obtain ⟨r2, h2, h⟩ := fy_bd_some h
  refine fy_calE w (fy_runV (As := [.int v1]) (rest := []) C w (c_X9_automatonIn l g  h2) (X_o9 X_full (X_i0)) ksX9_88 rfl ⟨Nat.le_of_ble_eq_true rfl, Nat.le_of_ble_eq_true rfl⟩ rfl hl.1 rfl (Nat.le_of_ble_eq_true rfl) ⟨Nat.le_refl _, Nat.le_refl _⟩ dX9_dualize_2) (fun H locs w => ?_)
  refine fy_astoreO_n (lv' := [(3, va_re g.2.2.1 r2), (0, .ref (g.2.2.1 0)), (1, .int v1), (2, .int v2)]) hx hb dX9_dualize_5 rfl hl (by decide) rfl (fun ls hl => ?_)
  refine lv_aload_n hx hb dX9_dualize_6 rfl (lv_at hl 1 rfl) ?_
  refine lv_iload_n hx hb dX9_dualize_7 rfl (lv_at hl 3 rfl) ?_
  obtain ⟨r8, h8, h⟩ := fy_bd_some h
  refine fy_calE w (fy_runV (As := [.int v2]) (rest := []) C w (c_X9_automatonIn l g  h8) (X_o9 X_full (X_i0)) ksX9_88 rfl ⟨Nat.le_of_ble_eq_true rfl, Nat.le_of_ble_eq_true rfl⟩ rfl hl.1 rfl (Nat.le_of_ble_eq_true rfl) ⟨Nat.le_refl _, Nat.le_refl _⟩ dX9_dualize_8) (fun H locs w => ?_)
  refine fy_astoreO (lv' := [(4, va_re g.2.2.1 r8), (3, va_re g.2.2.1 r2), (0, .ref (g.2.2.1 0)), (1, .int v1), (2, .int v2)]) hx hb dX9_dualize_11 hl (by decide) (by simp [fy_recat]) (fun ls hl => ?_)
  cases r2 with
  | none =>
    dsimp only at h
    refine lv_aload_nN hx hb dX9_dualize_13 rfl (lv_at hl 1 rfl) ?_
    refine lv_ifnullN (tgt := 22) hx hb dX9_dualize_14 (by decide) ?_
    refine lv_bipush (v := (-2 : Int32)) hx hb dX9_dualize_22 (by decide) ?_
    cases h
    exact fy_retI C w dX9_dualize_24
  | some r2_ =>
    dsimp only at h
    refine lv_aload_n hx hb dX9_dualize_13 rfl (lv_at hl 1 rfl) ?_
    refine lv_ifnull hx hb dX9_dualize_14 ?_
    cases r8 with
    | none =>
      dsimp only at h
      refine lv_aloadN hx hb dX9_dualize_17 (lv_at hl 0 rfl) ?_
      refine lv_ifnonnullN hx hb dX9_dualize_19 ?_
      refine lv_bipush (v := (-2 : Int32)) hx hb dX9_dualize_22 (by decide) ?_
      cases h
      exact fy_retI C w dX9_dualize_24
    | some r8_ =>
      dsimp only at h
      refine lv_aload hx hb dX9_dualize_17 (lv_at hl 0 rfl) ?_
      refine lv_ifnonnull (tgt := 25) hx hb dX9_dualize_19 (by decide) ?_
      refine lv_aload hx hb dX9_dualize_25 (lv_at hl 0 rfl) ?_
      refine lv_aload_n hx hb dX9_dualize_27 rfl (lv_at hl 1 rfl) ?_
      obtain ⟨S28, h28, h⟩ := fy_bd_some h
      refine fy_calV w (fy_runV (As := [.ref (g.2.2.1 r2_)]) (rest := []) C w (c_X0_becomeDual l g X_full (cls_X9_automatonIn  h8) (cls_X9_automatonIn  h2) h28) (X_o0 X_full (cls_X9_automatonIn  h8)) ksX9_258 rfl ⟨Nat.le_of_ble_eq_true rfl, Nat.le_of_ble_eq_true rfl⟩ rfl hl.1 rfl (Nat.le_of_ble_eq_true rfl) ⟨Nat.le_refl _, Nat.le_refl _⟩ dX9_dualize_28) (fun H locs w => ?_)
      refine lv_aload hx hb dX9_dualize_31 (lv_at hl 0 rfl) ?_
      refine gfX9_107 X_full C w (cls_X9_automatonIn  h8) dX9_dualize_33 ?_
      cases h
      exact fy_retI C w dX9_dualize_36

set_option maxHeartbeats 4000000 in
set_option maxRecDepth 100000 in
theorem c_X9_dualize (l : Launch) (g : fy_G) {S : fy_S} {v1 : Int32} {v2 : Int32} {Sr : fy_S} {rr : Int32}  (h : X9_dualize S v1 v2 = some (Sr, rr)) : fy_M g X_Y l yX9_dualize cX9_dualize 5 (some .int) (fy_rm 4) [.ref (g.2.2.1 0), .int v1, .int v2] S (fy_QI g X_Y rr Sr) :=
  fy_entry (by decide +kernel) (Nat.le_of_ble_eq_true rfl) (fun p e s m args below meth c ls C w hl => t_X9_dualize C  h w hl)
def X2_addShifted_51 (k2 : fy_S → Nat → Nat → Int32 → Int32 → Option (fy_S)) (S : fy_S) (v0 : Nat) (v1 : Nat) (v2 : Int32) (v3 : Int32) (z0 : Int32) (z1 : Int32) (z2 : Nat) : Option (fy_S) :=
  fy_gd (fy_ix z1 40) <|
  fy_bl (fy_sI S z2 z1.toNatClampNeg (vp_nar .byte (z0.toInt8.toInt32))) fun S52 =>
  fy_bl (fy_sI S52 v0 1 ((S52.1 v0 1) + (1 : Int32))) fun S60 =>
  fy_bl (v3 + (1 : Int32)) fun x63 =>
  k2 S60 v0 v1 v2 x63
def X2_addShifted_2 : Nat → fy_S → Nat → Nat → Int32 → Int32 → Option (fy_S)
  | 0, _, _, _, _, _ => none
  | fu + 1, S, v0, v1, v2, v3 =>
    if (S.1 v1 1) ≤ v3 then (
      some S)
    else (
      if (40 : Int32) ≤ (S.1 v0 1) then (
        some S)
      else (
        fy_gd (fy_ix v3 40) <|
        fy_bl (S.1 (v1 + 1) v3.toNatClampNeg) fun x25 =>
        if (6 : Int32) ≤ x25 then (
          X2_addShifted_51 (fun S v0 v1 v2 v3 => X2_addShifted_2 fu S v0 v1 v2 v3) S v0 v1 v2 v3 x25 (S.1 v0 1) (v0 + 1))
        else (
          X2_addShifted_51 (fun S v0 v1 v2 v3 => X2_addShifted_2 fu S v0 v1 v2 v3) S v0 v1 v2 v3 (x25 + v2) (S.1 v0 1) (v0 + 1))))
def X2_addShifted (S : fy_S) (v0 : Nat) (v1 : Nat) (v2 : Int32) : Option (fy_S) :=
  X2_addShifted_2 fy_fu S v0 v1 v2 (0 : Int32)
set_option maxHeartbeats 4000000 in
set_option maxRecDepth 100000 in
theorem t_X2_addShifted_51 {p : Program} {l : Launch} {e : Env} {s : State} {m : MethodId} {args : Array Value} {below : List Frame} {meth : Method} {c : Code} {g : fy_G} {y : fy_Y} (C : fy_C g y p s m args meth c yX2_addShifted.cls cX2_addShifted 5 none) (hcl : X_clo y) {Sr : fy_S}  {k2 : fy_S → Nat → Nat → Int32 → Int32 → Option (fy_S)} (hk2 : ∀ (S : fy_S) (v0 : Nat) (v1 : Nat) (v2 : Int32) (v3 : Int32) (H : Heap) (locs : List Loc) (ls : Array Slot), k2 S v0 v1 v2 v3 = some Sr → fy_W g y S s H locs → X_is y 2 v0 → X_is y 2 v1 → lv_has ls 5 [(0, .ref (g.2.2.1 v0)), (1, .ref (g.2.2.1 v1)), (2, .int v2), (3, .int v3)] → W p l e (fy_rm 0) s m args below meth c H locs 0 0 (MQ below (fy_QV g y Sr) args s 0 0 (fy_A g y)) (F0 m 2 ls [])) : ∀ (S : fy_S) (v0 : Nat) (v1 : Nat) (v2 : Int32) (v3 : Int32) (z0 : Int32) (z1 : Int32) (z2 : Nat) (H : Heap) (locs : List Loc) (ls : Array Slot), X2_addShifted_51 k2 S v0 v1 v2 v3 z0 z1 z2 = some Sr → fy_W g y S s H locs → X_is y 2 v0 → X_is y 2 v1 → z2 ∈ y.2 ∧ y.1 z2 = .inl (1, 40, X_ar z2) → lv_has ls 5 [(0, .ref (g.2.2.1 v0)), (1, .ref (g.2.2.1 v1)), (2, .int v2), (3, .int v3)] → W p l e (fy_rm 0) s m args below meth c H locs 0 0 (MQ below (fy_QV g y Sr) args s 0 0 (fy_A g y)) (F0 m 51 ls [.int z0, .int z1, .ref (g.2.2.1 z2)]) := by
  obtain ⟨hx, hb, hr, hts, hown, hlk, hml, hK, hD, hE, hN⟩ := id C
  intro S v0 v1 v2 v3 z0 z1 z2 H locs ls h w q0 q1 qz2 hl
  rw [X2_addShifted_51] at h
  refine lv_i2b (v := (z0.toInt8.toInt32)) hx hb dX2_addShifted_51 rfl ?_
  obtain ⟨g52, h⟩ := fy_gd_some h
  refine fy_bast C w qz2 g52 dX2_addShifted_52 (fun H locs w => ?_)
  obtain ⟨S52, e52⟩ : ∃ z, z = fy_sI S z2 z1.toNatClampNeg (vp_nar .byte (z0.toInt8.toInt32)) := ⟨_, rfl⟩
  have h := fy_bl_some e52 h
  rw [← e52] at w
  refine lv_aload_n hx hb dX2_addShifted_53 rfl (lv_at hl 0 rfl) ?_
  refine lv_dup hx hb dX2_addShifted_54 rfl ?_
  refine gfX2_18 hcl C w q0 dX2_addShifted_55 ?_
  refine lv_iconst (v := (1 : Int32)) hx hb dX2_addShifted_58 (by decide) ?_
  refine lv_iadd hx hb dX2_addShifted_59 ?_
  refine pfX2_18 hcl C w q0 dX2_addShifted_60 (fun H locs w => ?_)
  obtain ⟨S60, e60⟩ : ∃ z, z = fy_sI S52 v0 1 ((S52.1 v0 1) + (1 : Int32)) := ⟨_, rfl⟩
  have h := fy_bl_some e60 h
  rw [← e60] at w
  obtain ⟨x63, e63⟩ : ∃ z : Int32, z = v3 + (1 : Int32) := ⟨_, rfl⟩
  have h := fy_bl_some e63 h
  refine lv_iinc (k := 3) (v := x63) (lv' := [(3, .int x63), (0, .ref (g.2.2.1 v0)), (1, .ref (g.2.2.1 v1)), (2, .int v2)]) hx hb dX2_addShifted_63 hl rfl (by rw [e63]; rfl) (by decide) rfl (fun ls hl => ?_)
  refine lv_goto (tgt := 2) hx hb dX2_addShifted_66 (by decide) ?_
  exact hk2 _ _ _ _ _ _ _ _ h w q0 q1 (lv_sub hl [1, 2, 3, 0] rfl)

set_option maxHeartbeats 4000000 in
set_option maxRecDepth 100000 in
theorem t_X2_addShifted_2 {p : Program} {l : Launch} {e : Env} {s : State} {m : MethodId} {args : Array Value} {below : List Frame} {meth : Method} {c : Code} {g : fy_G} {y : fy_Y} (C : fy_C g y p s m args meth c yX2_addShifted.cls cX2_addShifted 5 none) (hcl : X_clo y) {Sr : fy_S}  : ∀ (fu : Nat) (S : fy_S) (v0 : Nat) (v1 : Nat) (v2 : Int32) (v3 : Int32) (H : Heap) (locs : List Loc) (ls : Array Slot), X2_addShifted_2 fu S v0 v1 v2 v3 = some Sr → fy_W g y S s H locs → X_is y 2 v0 → X_is y 2 v1 → lv_has ls 5 [(0, .ref (g.2.2.1 v0)), (1, .ref (g.2.2.1 v1)), (2, .int v2), (3, .int v3)] → W p l e (fy_rm 0) s m args below meth c H locs 0 0 (MQ below (fy_QV g y Sr) args s 0 0 (fy_A g y)) (F0 m 2 ls []) := by
  obtain ⟨hx, hb, hr, hts, hown, hlk, hml, hK, hD, hE, hN⟩ := id C
  intro fu
  induction fu with
  | zero => intro S v0 v1 v2 v3 H locs ls h; cases h
  | succ fu ih =>
    intro S v0 v1 v2 v3 H locs ls h w q0 q1 hl
    rw [X2_addShifted_2] at h
    refine lv_iload_n hx hb dX2_addShifted_2 rfl (lv_at hl 3 rfl) ?_
    refine lv_aload_n hx hb dX2_addShifted_3 rfl (lv_at hl 1 rfl) ?_
    refine gfX2_18 hcl C w q1 dX2_addShifted_4 ?_
    refine lv_icmp_ge (tgt := 69) hx hb dX2_addShifted_7 (by decide) (fun hc => ?_) (fun hc => ?_)
    · have h := fy_if_t h hc
      cases h
      exact fy_retV C w dX2_addShifted_69
    · have h := fy_if_f h hc
      refine lv_aload_n hx hb dX2_addShifted_10 rfl (lv_at hl 0 rfl) ?_
      refine gfX2_18 hcl C w q0 dX2_addShifted_11 ?_
      refine lv_bipush (v := (40 : Int32)) hx hb dX2_addShifted_14 (by decide) ?_
      refine lv_icmp_ge (tgt := 69) hx hb dX2_addShifted_16 (by decide) (fun hc => ?_) (fun hc => ?_)
      · have h := fy_if_t h hc
        cases h
        exact fy_retV C w dX2_addShifted_69
      · have h := fy_if_f h hc
        refine lv_aload_n hx hb dX2_addShifted_19 rfl (lv_at hl 1 rfl) ?_
        refine gfX2_9 hcl C w q1 dX2_addShifted_20 ?_
        refine lv_iload_n hx hb dX2_addShifted_23 rfl (lv_at hl 3 rfl) ?_
        obtain ⟨g24, h⟩ := fy_gd_some h
        refine fy_bald C w (X_f2_nodes hcl q1) g24 dX2_addShifted_24 ?_
        refine lv_topi (fun x25 e25 => ?_)
        have h := fy_bl_some e25 h
        refine lv_istore (lv' := [(4, .int x25), (0, .ref (g.2.2.1 v0)), (1, .ref (g.2.2.1 v1)), (2, .int v2), (3, .int v3)]) hx hb dX2_addShifted_25 hl (by decide) rfl (fun ls hl => ?_)
        refine lv_aload_n hx hb dX2_addShifted_27 rfl (lv_at hl 1 rfl) ?_
        refine gfX2_9 hcl C w q0 dX2_addShifted_28 ?_
        refine lv_aload_n hx hb dX2_addShifted_31 rfl (lv_at hl 1 rfl) ?_
        refine gfX2_18 hcl C w q0 dX2_addShifted_32 ?_
        refine lv_iload hx hb dX2_addShifted_35 (lv_at hl 0 rfl) ?_
        refine lv_bipush (v := (6 : Int32)) hx hb dX2_addShifted_37 (by decide) ?_
        refine lv_icmp_ge (tgt := 49) hx hb dX2_addShifted_39 (by decide) (fun hc => ?_) (fun hc => ?_)
        · have h := fy_if_t h hc
          refine lv_iload hx hb dX2_addShifted_49 (lv_at hl 0 rfl) ?_
          exact t_X2_addShifted_51 C hcl ih _ _ _ _ _ _ _ _ _ _ _ h w q0 q1 (X_f2_nodes hcl q0) (lv_sub hl [1, 2, 3, 4] rfl)
        · have h := fy_if_f h hc
          refine lv_iload hx hb dX2_addShifted_42 (lv_at hl 0 rfl) ?_
          refine lv_iload_n hx hb dX2_addShifted_44 rfl (lv_at hl 3 rfl) ?_
          refine lv_iadd hx hb dX2_addShifted_45 ?_
          refine lv_goto (tgt := 51) hx hb dX2_addShifted_46 (by decide) ?_
          exact t_X2_addShifted_51 C hcl ih _ _ _ _ _ _ _ _ _ _ _ h w q0 q1 (X_f2_nodes hcl q0) (lv_sub hl [1, 2, 3, 4] rfl)

set_option maxHeartbeats 4000000 in
set_option maxRecDepth 100000 in
theorem t_X2_addShifted {p : Program} {l : Launch} {e : Env} {s : State} {m : MethodId} {args : Array Value} {below : List Frame} {meth : Method} {c : Code} {g : fy_G} {y : fy_Y} (C : fy_C g y p s m args meth c yX2_addShifted.cls cX2_addShifted 5 none) (hcl : X_clo y) {S : fy_S} {v0 : Nat} {v1 : Nat} {v2 : Int32} {Sr : fy_S}  (q0 : X_is y 2 v0) (q1 : X_is y 2 v1) {H : Heap} {locs : List Loc} {ls : Array Slot} (h : X2_addShifted S v0 v1 v2 = some Sr) (w : fy_W g y S s H locs) (hl : lv_has ls 5 [(0, .ref (g.2.2.1 v0)), (1, .ref (g.2.2.1 v1)), (2, .int v2)]) : W p l e (fy_rm 0) s m args below meth c H locs 0 0 (MQ below (fy_QV g y Sr) args s 0 0 (fy_A g y)) (F0 m 0 ls []) := by
  obtain ⟨hx, hb, hr, hts, hown, hlk, hml, hK, hD, hE, hN⟩ := id C
  rw [X2_addShifted] at h
  refine lv_iconst (v := (0 : Int32)) hx hb dX2_addShifted_0 (by decide) ?_
  refine lv_istore_n (lv' := [(3, .int (0 : Int32)), (0, .ref (g.2.2.1 v0)), (1, .ref (g.2.2.1 v1)), (2, .int v2)]) hx hb dX2_addShifted_1 rfl hl (by decide) rfl (fun ls hl => ?_)
  exact t_X2_addShifted_2 C hcl fy_fu _ _ _ _ _ _ _ _ h w q0 q1 (lv_sub hl [1, 2, 3, 0] rfl)

set_option maxHeartbeats 4000000 in
set_option maxRecDepth 100000 in
theorem c_X2_addShifted (l : Launch) (g : fy_G) {y : fy_Y} (hcl : X_clo y) {S : fy_S} {v0 : Nat} {v1 : Nat} {v2 : Int32} {Sr : fy_S}  (q0 : X_is y 2 v0) (q1 : X_is y 2 v1) (h : X2_addShifted S v0 v1 v2 = some Sr) : fy_M g y l yX2_addShifted cX2_addShifted 5 none (fy_rm 0) [.ref (g.2.2.1 v0), .ref (g.2.2.1 v1), .int v2] S (fy_QV g y Sr) :=
  fy_entry (by decide +kernel) (Nat.le_of_ble_eq_true rfl) (fun p e s m args below meth c ls C w hl => t_X2_addShifted C hcl q0 q1 h w hl)
def X2_shiftedTable_5 (S : fy_S) : Nat → Int64 → Int32 → Int64 → Int32 → Option (Int64)
  | 0, _, _, _, _ => none
  | fu + 1, v0, v2, v3, v5 =>
    if (64 : Int32) ≤ v5 then (
      some v3)
    else (
      fy_bd (X9_isIn S v0 (v5 >>> (v2 &&& 31))) fun r17 =>
      if r17 = 0 then (
        fy_bl (v5 + (1 : Int32)) fun x30 =>
        X2_shiftedTable_5 S fu v0 v2 v3 x30)
      else (
        fy_bl (v3 ||| ((1 : Int64) <<< (v5.toInt64 &&& 63))) fun x29 =>
        fy_bl (v5 + (1 : Int32)) fun x30 =>
        X2_shiftedTable_5 S fu v0 v2 x29 x30))
def X2_shiftedTable (S : fy_S) (v0 : Int64) (v2 : Int32) : Option (Int64) :=
  X2_shiftedTable_5 S fy_fu v0 v2 (0 : Int64) (0 : Int32)
set_option maxHeartbeats 4000000 in
set_option maxRecDepth 100000 in
theorem t_X2_shiftedTable_5 {p : Program} {l : Launch} {e : Env} {s : State} {m : MethodId} {args : Array Value} {below : List Frame} {meth : Method} {c : Code} {g : fy_G} {y : fy_Y} (C : fy_C g y p s m args meth c yX2_shiftedTable.cls cX2_shiftedTable 6 (some .long)) (hcl : X_clo y) {S : fy_S} {rr : Int64} : ∀ (fu : Nat) (v0 : Int64) (v2 : Int32) (v3 : Int64) (v5 : Int32) (H : Heap) (locs : List Loc) (ls : Array Slot), X2_shiftedTable_5 S fu v0 v2 v3 v5 = some rr → fy_W g y S s H locs → lv_has ls 6 [(0, .long v0), (2, .int v2), (3, .long v3), (5, .int v5)] → W p l e (fy_rm 1) s m args below meth c H locs 0 0 (MQ below (fy_QL g y rr S) args s 0 0 (fy_A g y)) (F0 m 5 ls []) := by
  obtain ⟨hx, hb, hr, hts, hown, hlk, hml, hK, hD, hE, hN⟩ := id C
  intro fu
  induction fu with
  | zero => intro v0 v2 v3 v5 H locs ls h; cases h
  | succ fu ih =>
    intro v0 v2 v3 v5 H locs ls h w  hl
    rw [X2_shiftedTable_5] at h
    refine lv_iload hx hb dX2_shiftedTable_5 (lv_at hl 3 rfl) ?_
    refine lv_bipush (v := (64 : Int32)) hx hb dX2_shiftedTable_7 (by decide) ?_
    refine lv_icmp_ge (tgt := 36) hx hb dX2_shiftedTable_9 (by decide) (fun hc => ?_) (fun hc => ?_)
    · have h := fy_if_t h hc
      refine lv_lload_n hx hb dX2_shiftedTable_36 rfl (lv_at hl 2 rfl) ?_
      cases h
      exact fy_retL C w dX2_shiftedTable_37
    · have h := fy_if_f h hc
      refine lv_lload_n hx hb dX2_shiftedTable_12 rfl (lv_at hl 0 rfl) ?_
      refine lv_iload hx hb dX2_shiftedTable_13 (lv_at hl 3 rfl) ?_
      refine lv_iload_n hx hb dX2_shiftedTable_15 rfl (lv_at hl 1 rfl) ?_
      refine lv_ishr hx hb dX2_shiftedTable_16 ?_
      obtain ⟨r17, h17, h⟩ := fy_bd_some h
      refine fy_calI w (fy_runN (As := [.long v0, .int (v5 >>> (v2 &&& 31))]) (rest := []) C w (c_X9_isIn l g hcl  h17) ksX2_26 ⟨Nat.le_of_ble_eq_true rfl, Nat.le_of_ble_eq_true rfl⟩ rfl hl.1 rfl (Nat.le_of_ble_eq_true rfl) ⟨Nat.le_refl _, Nat.le_refl _⟩ dX2_shiftedTable_17) (fun H locs w => ?_)
      refine lv_if_eq (tgt := 30) hx hb dX2_shiftedTable_20 (by decide) (fun hc => ?_) (fun hc => ?_)
      · have h := fy_if_t h hc
        obtain ⟨x30, e30⟩ : ∃ z : Int32, z = v5 + (1 : Int32) := ⟨_, rfl⟩
        have h := fy_bl_some e30 h
        refine lv_iinc (k := 3) (v := x30) (lv' := [(5, .int x30), (0, .long v0), (2, .int v2), (3, .long v3)]) hx hb dX2_shiftedTable_30 hl rfl (by rw [e30]; rfl) (by decide) rfl (fun ls hl => ?_)
        refine lv_goto (tgt := 5) hx hb dX2_shiftedTable_33 (by decide) ?_
        exact ih _ _ _ _ _ _ _ h w (lv_sub hl [1, 2, 3, 0] rfl)
      · have h := fy_if_f h hc
        refine lv_lload_n hx hb dX2_shiftedTable_23 rfl (lv_at hl 2 rfl) ?_
        refine lv_lconst (v := (1 : Int64)) hx hb dX2_shiftedTable_24 (by decide) ?_
        refine lv_iload hx hb dX2_shiftedTable_25 (lv_at hl 3 rfl) ?_
        refine lv_lshl (v := (1 : Int64) <<< (v5.toInt64 &&& 63)) hx hb dX2_shiftedTable_27 rfl ?_
        refine lv_lor hx hb dX2_shiftedTable_28 ?_
        refine lv_topl (fun x29 e29 => ?_)
        have h := fy_bl_some e29 h
        refine lv_lstore_n (lv' := [(3, .long x29), (0, .long v0), (2, .int v2), (5, .int v5)]) hx hb dX2_shiftedTable_29 rfl hl (by decide) rfl (fun ls hl => ?_)
        obtain ⟨x30, e30⟩ : ∃ z : Int32, z = v5 + (1 : Int32) := ⟨_, rfl⟩
        have h := fy_bl_some e30 h
        refine lv_iinc (k := 3) (v := x30) (lv' := [(5, .int x30), (3, .long x29), (0, .long v0), (2, .int v2)]) hx hb dX2_shiftedTable_30 hl rfl (by rw [e30]; rfl) (by decide) rfl (fun ls hl => ?_)
        refine lv_goto (tgt := 5) hx hb dX2_shiftedTable_33 (by decide) ?_
        exact ih _ _ _ _ _ _ _ h w (lv_sub hl [2, 3, 1, 0] rfl)

set_option maxHeartbeats 4000000 in
set_option maxRecDepth 100000 in
theorem t_X2_shiftedTable {p : Program} {l : Launch} {e : Env} {s : State} {m : MethodId} {args : Array Value} {below : List Frame} {meth : Method} {c : Code} {g : fy_G} {y : fy_Y} (C : fy_C g y p s m args meth c yX2_shiftedTable.cls cX2_shiftedTable 6 (some .long)) (hcl : X_clo y) {S : fy_S} {v0 : Int64} {v2 : Int32} {rr : Int64}  {H : Heap} {locs : List Loc} {ls : Array Slot} (h : X2_shiftedTable S v0 v2 = some rr) (w : fy_W g y S s H locs) (hl : lv_has ls 6 [(0, .long v0), (2, .int v2)]) : W p l e (fy_rm 1) s m args below meth c H locs 0 0 (MQ below (fy_QL g y rr S) args s 0 0 (fy_A g y)) (F0 m 0 ls []) := by
  obtain ⟨hx, hb, hr, hts, hown, hlk, hml, hK, hD, hE, hN⟩ := id C
  rw [X2_shiftedTable] at h
  refine lv_lconst (v := (0 : Int64)) hx hb dX2_shiftedTable_0 (by decide) ?_
  refine lv_lstore_n (lv' := [(3, .long (0 : Int64)), (0, .long v0), (2, .int v2)]) hx hb dX2_shiftedTable_1 rfl hl (by decide) rfl (fun ls hl => ?_)
  refine lv_iconst (v := (0 : Int32)) hx hb dX2_shiftedTable_2 (by decide) ?_
  refine lv_istore (lv' := [(5, .int (0 : Int32)), (3, .long (0 : Int64)), (0, .long v0), (2, .int v2)]) hx hb dX2_shiftedTable_3 hl (by decide) rfl (fun ls hl => ?_)
  exact t_X2_shiftedTable_5 C hcl fy_fu _ _ _ _ _ _ _ h w (lv_sub hl [2, 3, 1, 0] rfl)

set_option maxHeartbeats 4000000 in
set_option maxRecDepth 100000 in
theorem c_X2_shiftedTable (l : Launch) (g : fy_G) {y : fy_Y} (hcl : X_clo y) {S : fy_S} {v0 : Int64} {v2 : Int32} {rr : Int64}  (h : X2_shiftedTable S v0 v2 = some rr) : fy_M g y l yX2_shiftedTable cX2_shiftedTable 6 (some .long) (fy_rm 1) [.long v0, .int v2] S (fy_QL g y rr S) :=
  fy_entry (by decide +kernel) (Nat.le_of_ble_eq_true rfl) (fun p e s m args below meth c ls C w hl => t_X2_shiftedTable C hcl  h w hl)
def X2_becomeJoin (S : fy_S) (v0 : Nat) (v1 : Nat) (v2 : Nat) (v3 : Int32) (v4 : Int32) : Option (fy_S) :=
  if (((S.1 v1 1) + (S.1 v2 1)) + (1 : Int32)) ≤ (40 : Int32) then (
    fy_bl (fy_sI S v0 1 (0 : Int32)) fun S19 =>
    fy_bd (X2_addShifted S19 v0 v1 (0 : Int32)) fun S25 =>
    fy_bd (X2_addShifted S25 v0 v2 v3) fun S31 =>
    fy_gd (fy_ix (S31.1 v0 1) 40) <|
    fy_bl (fy_sI S31 (v0 + 1) (S31.1 v0 1).toNatClampNeg (vp_nar .byte (v4.toInt8.toInt32))) fun S45 =>
    fy_bl (fy_sI S45 v0 1 ((S45.1 v0 1) + (1 : Int32))) fun S53 =>
    fy_bd (X2_shiftedTable S53 (S53.2 v2 2) v3) fun r68 =>
    fy_bd (X9_joinTables S53 v4 (S53.2 v1 2) r68) fun r71 =>
    fy_bl (fy_sL S53 v0 2 r71) fun S74 =>
    some S74)
  else (
    some S)
set_option maxHeartbeats 4000000 in
set_option maxRecDepth 100000 in
theorem t_X2_becomeJoin {p : Program} {l : Launch} {e : Env} {s : State} {m : MethodId} {args : Array Value} {below : List Frame} {meth : Method} {c : Code} {g : fy_G} {y : fy_Y} (C : fy_C g y p s m args meth c yX2_becomeJoin.cls cX2_becomeJoin 5 none) (hcl : X_clo y) {S : fy_S} {v0 : Nat} {v1 : Nat} {v2 : Nat} {v3 : Int32} {v4 : Int32} {Sr : fy_S}  (q0 : X_is y 2 v0) (q1 : X_is y 2 v1) (q2 : X_is y 2 v2) {H : Heap} {locs : List Loc} {ls : Array Slot} (h : X2_becomeJoin S v0 v1 v2 v3 v4 = some Sr) (w : fy_W g y S s H locs) (hl : lv_has ls 5 [(0, .ref (g.2.2.1 v0)), (1, .ref (g.2.2.1 v1)), (2, .ref (g.2.2.1 v2)), (3, .int v3), (4, .int v4)]) : W p l e (fy_rm 2) s m args below meth c H locs 0 0 (MQ below (fy_QV g y Sr) args s 0 0 (fy_A g y)) (F0 m 0 ls []) := by
  obtain ⟨hx, hb, hr, hts, hown, hlk, hml, hK, hD, hE, hN⟩ := id C
  rw [X2_becomeJoin] at h
  refine lv_aload_n hx hb dX2_becomeJoin_0 rfl (lv_at hl 1 rfl) ?_
  refine gfX2_18 hcl C w q1 dX2_becomeJoin_1 ?_
  refine lv_aload_n hx hb dX2_becomeJoin_4 rfl (lv_at hl 2 rfl) ?_
  refine gfX2_18 hcl C w q2 dX2_becomeJoin_5 ?_
  refine lv_iadd hx hb dX2_becomeJoin_8 ?_
  refine lv_iconst (v := (1 : Int32)) hx hb dX2_becomeJoin_9 (by decide) ?_
  refine lv_iadd hx hb dX2_becomeJoin_10 ?_
  refine lv_bipush (v := (40 : Int32)) hx hb dX2_becomeJoin_11 (by decide) ?_
  refine lv_icmp_le (tgt := 17) hx hb dX2_becomeJoin_13 (by decide) (fun hc => ?_) (fun hc => ?_)
  · have h := fy_if_t h hc
    refine lv_aload_n hx hb dX2_becomeJoin_17 rfl (lv_at hl 0 rfl) ?_
    refine lv_iconst (v := (0 : Int32)) hx hb dX2_becomeJoin_18 (by decide) ?_
    refine pfX2_18 hcl C w q0 dX2_becomeJoin_19 (fun H locs w => ?_)
    obtain ⟨S19, e19⟩ : ∃ z, z = fy_sI S v0 1 (0 : Int32) := ⟨_, rfl⟩
    have h := fy_bl_some e19 h
    rw [← e19] at w
    refine lv_aload_n hx hb dX2_becomeJoin_22 rfl (lv_at hl 0 rfl) ?_
    refine lv_aload_n hx hb dX2_becomeJoin_23 rfl (lv_at hl 1 rfl) ?_
    refine lv_iconst (v := (0 : Int32)) hx hb dX2_becomeJoin_24 (by decide) ?_
    obtain ⟨S25, h25, h⟩ := fy_bd_some h
    refine fy_calV w (fy_runV (As := [.ref (g.2.2.1 v1), .int (0 : Int32)]) (rest := []) C w (c_X2_addShifted l g hcl q0 q1 h25) (X_o2 hcl q0) ksX2_48 rfl ⟨Nat.le_of_ble_eq_true rfl, Nat.le_of_ble_eq_true rfl⟩ rfl hl.1 rfl (Nat.le_of_ble_eq_true rfl) ⟨Nat.le_refl _, Nat.le_refl _⟩ dX2_becomeJoin_25) (fun H locs w => ?_)
    refine lv_aload_n hx hb dX2_becomeJoin_28 rfl (lv_at hl 0 rfl) ?_
    refine lv_aload_n hx hb dX2_becomeJoin_29 rfl (lv_at hl 2 rfl) ?_
    refine lv_iload_n hx hb dX2_becomeJoin_30 rfl (lv_at hl 3 rfl) ?_
    obtain ⟨S31, h31, h⟩ := fy_bd_some h
    refine fy_calV w (fy_runV (As := [.ref (g.2.2.1 v2), .int v3]) (rest := []) C w (c_X2_addShifted l g hcl q0 q2 h31) (X_o2 hcl q0) ksX2_48 rfl ⟨Nat.le_of_ble_eq_true rfl, Nat.le_of_ble_eq_true rfl⟩ rfl hl.1 rfl (Nat.le_of_ble_eq_true rfl) ⟨Nat.le_refl _, Nat.le_refl _⟩ dX2_becomeJoin_31) (fun H locs w => ?_)
    refine lv_aload_n hx hb dX2_becomeJoin_34 rfl (lv_at hl 0 rfl) ?_
    refine gfX2_9 hcl C w q0 dX2_becomeJoin_35 ?_
    refine lv_aload_n hx hb dX2_becomeJoin_38 rfl (lv_at hl 0 rfl) ?_
    refine gfX2_18 hcl C w q0 dX2_becomeJoin_39 ?_
    refine lv_iload hx hb dX2_becomeJoin_42 (lv_at hl 4 rfl) ?_
    refine lv_i2b (v := (v4.toInt8.toInt32)) hx hb dX2_becomeJoin_44 rfl ?_
    obtain ⟨g45, h⟩ := fy_gd_some h
    refine fy_bast C w (X_f2_nodes hcl q0) g45 dX2_becomeJoin_45 (fun H locs w => ?_)
    obtain ⟨S45, e45⟩ : ∃ z, z = fy_sI S31 (v0 + 1) (S31.1 v0 1).toNatClampNeg (vp_nar .byte (v4.toInt8.toInt32)) := ⟨_, rfl⟩
    have h := fy_bl_some e45 h
    rw [← e45] at w
    refine lv_aload_n hx hb dX2_becomeJoin_46 rfl (lv_at hl 0 rfl) ?_
    refine lv_dup hx hb dX2_becomeJoin_47 rfl ?_
    refine gfX2_18 hcl C w q0 dX2_becomeJoin_48 ?_
    refine lv_iconst (v := (1 : Int32)) hx hb dX2_becomeJoin_51 (by decide) ?_
    refine lv_iadd hx hb dX2_becomeJoin_52 ?_
    refine pfX2_18 hcl C w q0 dX2_becomeJoin_53 (fun H locs w => ?_)
    obtain ⟨S53, e53⟩ : ∃ z, z = fy_sI S45 v0 1 ((S45.1 v0 1) + (1 : Int32)) := ⟨_, rfl⟩
    have h := fy_bl_some e53 h
    rw [← e53] at w
    refine lv_aload_n hx hb dX2_becomeJoin_56 rfl (lv_at hl 0 rfl) ?_
    refine lv_iload hx hb dX2_becomeJoin_57 (lv_at hl 4 rfl) ?_
    refine lv_aload_n hx hb dX2_becomeJoin_59 rfl (lv_at hl 1 rfl) ?_
    refine gfX2_22 hcl C w q1 dX2_becomeJoin_60 ?_
    refine lv_aload_n hx hb dX2_becomeJoin_63 rfl (lv_at hl 2 rfl) ?_
    refine gfX2_22 hcl C w q2 dX2_becomeJoin_64 ?_
    refine lv_iload_n hx hb dX2_becomeJoin_67 rfl (lv_at hl 3 rfl) ?_
    obtain ⟨r68, h68, h⟩ := fy_bd_some h
    refine fy_calL w (fy_runS (As := [.long (S53.2 v2 2), .int v3]) (rest := [.long (S53.2 v1 2), .int v4, .ref (g.2.2.1 v0)]) C w (c_X2_shiftedTable l g hcl  h68) ksX2_52 ⟨Nat.le_of_ble_eq_true rfl, Nat.le_of_ble_eq_true rfl⟩ rfl hl.1 rfl (Nat.le_of_ble_eq_true rfl) ⟨Nat.le_refl _, Nat.le_refl _⟩ dX2_becomeJoin_68) (fun H locs w => ?_)
    obtain ⟨r71, h71, h⟩ := fy_bd_some h
    refine fy_calL w (fy_runN (As := [.int v4, .long (S53.2 v1 2), .long r68]) (rest := [.ref (g.2.2.1 v0)]) C w (c_X9_joinTables l g hcl  h71) ksX2_56 ⟨Nat.le_of_ble_eq_true rfl, Nat.le_of_ble_eq_true rfl⟩ rfl hl.1 rfl (Nat.le_of_ble_eq_true rfl) ⟨Nat.le_refl _, Nat.le_refl _⟩ dX2_becomeJoin_71) (fun H locs w => ?_)
    refine pfX2_22 hcl C w q0 dX2_becomeJoin_74 (fun H locs w => ?_)
    obtain ⟨S74, e74⟩ : ∃ z, z = fy_sL S53 v0 2 r71 := ⟨_, rfl⟩
    have h := fy_bl_some e74 h
    rw [← e74] at w
    cases h
    exact fy_retV C w dX2_becomeJoin_77
  · have h := fy_if_f h hc
    cases h
    exact fy_retV C w dX2_becomeJoin_16

set_option maxHeartbeats 4000000 in
set_option maxRecDepth 100000 in
theorem c_X2_becomeJoin (l : Launch) (g : fy_G) {y : fy_Y} (hcl : X_clo y) {S : fy_S} {v0 : Nat} {v1 : Nat} {v2 : Nat} {v3 : Int32} {v4 : Int32} {Sr : fy_S}  (q0 : X_is y 2 v0) (q1 : X_is y 2 v1) (q2 : X_is y 2 v2) (h : X2_becomeJoin S v0 v1 v2 v3 v4 = some Sr) : fy_M g y l yX2_becomeJoin cX2_becomeJoin 5 none (fy_rm 2) [.ref (g.2.2.1 v0), .ref (g.2.2.1 v1), .ref (g.2.2.1 v2), .int v3, .int v4] S (fy_QV g y Sr) :=
  fy_entry (by decide +kernel) (Nat.le_of_ble_eq_true rfl) (fun p e s m args below meth c ls C w hl => t_X2_becomeJoin C hcl q0 q1 q2 h w hl)
def X2_copy (S : fy_S) (v0 : Nat) (v1 : Nat) : Option (fy_S) :=
  fy_bd (X2_become S v0 (v1 + 1) (S.1 v1 1) (S.2 v1 2)) fun S13 =>
  some S13
set_option maxHeartbeats 4000000 in
set_option maxRecDepth 100000 in
theorem t_X2_copy {p : Program} {l : Launch} {e : Env} {s : State} {m : MethodId} {args : Array Value} {below : List Frame} {meth : Method} {c : Code} {g : fy_G} {y : fy_Y} (C : fy_C g y p s m args meth c yX2_copy.cls cX2_copy 2 none) (hcl : X_clo y) {S : fy_S} {v0 : Nat} {v1 : Nat} {Sr : fy_S}  (q0 : X_is y 2 v0) (q1 : X_is y 2 v1) {H : Heap} {locs : List Loc} {ls : Array Slot} (h : X2_copy S v0 v1 = some Sr) (w : fy_W g y S s H locs) (hl : lv_has ls 2 [(0, .ref (g.2.2.1 v0)), (1, .ref (g.2.2.1 v1))]) : W p l e (fy_rm 2) s m args below meth c H locs 0 0 (MQ below (fy_QV g y Sr) args s 0 0 (fy_A g y)) (F0 m 0 ls []) := by
  obtain ⟨hx, hb, hr, hts, hown, hlk, hml, hK, hD, hE, hN⟩ := id C
  rw [X2_copy] at h
  refine lv_aload_n hx hb dX2_copy_0 rfl (lv_at hl 0 rfl) ?_
  refine lv_aload_n hx hb dX2_copy_1 rfl (lv_at hl 1 rfl) ?_
  refine gfX2_9 hcl C w q1 dX2_copy_2 ?_
  refine lv_aload_n hx hb dX2_copy_5 rfl (lv_at hl 1 rfl) ?_
  refine gfX2_18 hcl C w q1 dX2_copy_6 ?_
  refine lv_aload_n hx hb dX2_copy_9 rfl (lv_at hl 1 rfl) ?_
  refine gfX2_22 hcl C w q1 dX2_copy_10 ?_
  obtain ⟨S13, h13, h⟩ := fy_bd_some h
  refine fy_calV w (fy_runV (As := [.ref (g.2.2.1 (v1 + 1)), .int (S.1 v1 1), .long (S.2 v1 2)]) (rest := []) C w (c_X2_become l g hcl q0 (X_an hcl (X_f2_nodes hcl q1)) h13) (X_o2 hcl q0) ksX2_36 rfl ⟨Nat.le_of_ble_eq_true rfl, Nat.le_of_ble_eq_true rfl⟩ rfl hl.1 rfl (Nat.le_of_ble_eq_true rfl) ⟨Nat.le_refl _, Nat.le_refl _⟩ dX2_copy_13) (fun H locs w => ?_)
  cases h
  exact fy_retV C w dX2_copy_16

set_option maxHeartbeats 4000000 in
set_option maxRecDepth 100000 in
theorem c_X2_copy (l : Launch) (g : fy_G) {y : fy_Y} (hcl : X_clo y) {S : fy_S} {v0 : Nat} {v1 : Nat} {Sr : fy_S}  (q0 : X_is y 2 v0) (q1 : X_is y 2 v1) (h : X2_copy S v0 v1 = some Sr) : fy_M g y l yX2_copy cX2_copy 2 none (fy_rm 2) [.ref (g.2.2.1 v0), .ref (g.2.2.1 v1)] S (fy_QV g y Sr) :=
  fy_entry (by decide +kernel) (Nat.le_of_ble_eq_true rfl) (fun p e s m args below meth c ls C w hl => t_X2_copy C hcl q0 q1 h w hl)
def X0_copyMoves_12 (k2 : fy_S → Nat → Nat → Int32 → Option (fy_S)) : Nat → fy_S → Nat → Nat → Int32 → Int32 → Option (fy_S)
  | 0, _, _, _, _, _ => none
  | fu + 1, S, v0, v1, v2, v3 =>
    if (S.1 v0 4) ≤ v3 then (
      fy_bl (v2 + (1 : Int32)) fun x41 =>
      k2 S v0 v1 x41)
    else (
      fy_bd (X0_move S v0 v2 v3) fun r23 =>
      fy_bd (X0_move S v1 v2 v3) fun r29 =>
      match r29 with
      | none => (
        none)
      | some r29_ => (
        match r23 with
        | none => (
          none)
        | some r23_ => (
          fy_bd (X2_copy S r23_ r29_) fun S32 =>
          fy_bl (v3 + (1 : Int32)) fun x35 =>
          X0_copyMoves_12 k2 fu S32 v0 v1 v2 x35)))
def X0_copyMoves_2 : Nat → fy_S → Nat → Nat → Int32 → Option (fy_S)
  | 0, _, _, _, _ => none
  | fu + 1, S, v0, v1, v2 =>
    if (S.1 v1 3) ≤ v2 then (
      some S)
    else (
      X0_copyMoves_12 (fun S v0 v1 v2 => X0_copyMoves_2 fu S v0 v1 v2) fy_fu S v0 v1 v2 (0 : Int32))
def X0_copyMoves (S : fy_S) (v0 : Nat) (v1 : Nat) : Option (fy_S) :=
  X0_copyMoves_2 fy_fu S v0 v1 (0 : Int32)
set_option maxHeartbeats 4000000 in
set_option maxRecDepth 100000 in
theorem t_X0_copyMoves_12 {p : Program} {l : Launch} {e : Env} {s : State} {m : MethodId} {args : Array Value} {below : List Frame} {meth : Method} {c : Code} {g : fy_G} {y : fy_Y} (C : fy_C g y p s m args meth c yX0_copyMoves.cls cX0_copyMoves 4 none) (hcl : X_clo y) {Sr : fy_S}  {k2 : fy_S → Nat → Nat → Int32 → Option (fy_S)} (hk2 : ∀ (S : fy_S) (v0 : Nat) (v1 : Nat) (v2 : Int32) (H : Heap) (locs : List Loc) (ls : Array Slot), k2 S v0 v1 v2 = some Sr → fy_W g y S s H locs → X_is y 0 v0 → X_is y 0 v1 → lv_has ls 4 [(0, .ref (g.2.2.1 v0)), (1, .ref (g.2.2.1 v1)), (2, .int v2)] → W p l e (fy_rm 3) s m args below meth c H locs 0 0 (MQ below (fy_QV g y Sr) args s 0 0 (fy_A g y)) (F0 m 2 ls [])) : ∀ (fu : Nat) (S : fy_S) (v0 : Nat) (v1 : Nat) (v2 : Int32) (v3 : Int32) (H : Heap) (locs : List Loc) (ls : Array Slot), X0_copyMoves_12 k2 fu S v0 v1 v2 v3 = some Sr → fy_W g y S s H locs → X_is y 0 v0 → X_is y 0 v1 → lv_has ls 4 [(0, .ref (g.2.2.1 v0)), (1, .ref (g.2.2.1 v1)), (2, .int v2), (3, .int v3)] → W p l e (fy_rm 3) s m args below meth c H locs 0 0 (MQ below (fy_QV g y Sr) args s 0 0 (fy_A g y)) (F0 m 12 ls []) := by
  obtain ⟨hx, hb, hr, hts, hown, hlk, hml, hK, hD, hE, hN⟩ := id C
  intro fu
  induction fu with
  | zero => intro S v0 v1 v2 v3 H locs ls h; cases h
  | succ fu ih =>
    intro S v0 v1 v2 v3 H locs ls h w q0 q1 hl
    rw [X0_copyMoves_12] at h
    refine lv_iload_n hx hb dX0_copyMoves_12 rfl (lv_at hl 3 rfl) ?_
    refine lv_aload_n hx hb dX0_copyMoves_13 rfl (lv_at hl 0 rfl) ?_
    refine gfX0_34 hcl C w q0 dX0_copyMoves_14 ?_
    refine lv_icmp_ge (tgt := 41) hx hb dX0_copyMoves_17 (by decide) (fun hc => ?_) (fun hc => ?_)
    · have h := fy_if_t h hc
      obtain ⟨x41, e41⟩ : ∃ z : Int32, z = v2 + (1 : Int32) := ⟨_, rfl⟩
      have h := fy_bl_some e41 h
      refine lv_iinc (k := 2) (v := x41) (lv' := [(2, .int x41), (0, .ref (g.2.2.1 v0)), (1, .ref (g.2.2.1 v1)), (3, .int v3)]) hx hb dX0_copyMoves_41 hl rfl (by rw [e41]; rfl) (by decide) rfl (fun ls hl => ?_)
      refine lv_goto (tgt := 2) hx hb dX0_copyMoves_44 (by decide) ?_
      exact hk2 _ _ _ _ _ _ _ h w q0 q1 (lv_sub hl [1, 2, 0] rfl)
    · have h := fy_if_f h hc
      refine lv_aload_n hx hb dX0_copyMoves_20 rfl (lv_at hl 0 rfl) ?_
      refine lv_iload_n hx hb dX0_copyMoves_21 rfl (lv_at hl 2 rfl) ?_
      refine lv_iload_n hx hb dX0_copyMoves_22 rfl (lv_at hl 3 rfl) ?_
      obtain ⟨r23, h23, h⟩ := fy_bd_some h
      refine fy_calE w (fy_runV (As := [.int v2, .int v3]) (rest := []) C w (c_X0_move l g hcl q0 h23) (X_o0 hcl q0) ksX0_56 rfl ⟨Nat.le_of_ble_eq_true rfl, Nat.le_of_ble_eq_true rfl⟩ rfl hl.1 rfl (Nat.le_of_ble_eq_true rfl) ⟨Nat.le_refl _, Nat.le_refl _⟩ dX0_copyMoves_23) (fun H locs w => ?_)
      refine lv_aload_n hx hb dX0_copyMoves_26 rfl (lv_at hl 1 rfl) ?_
      refine lv_iload_n hx hb dX0_copyMoves_27 rfl (lv_at hl 2 rfl) ?_
      refine lv_iload_n hx hb dX0_copyMoves_28 rfl (lv_at hl 3 rfl) ?_
      obtain ⟨r29, h29, h⟩ := fy_bd_some h
      refine fy_calE w (fy_runV (As := [.int v2, .int v3]) (rest := [va_re g.2.2.1 r23]) C w (c_X0_move l g hcl q1 h29) (X_o0 hcl q1) ksX0_56 rfl ⟨Nat.le_of_ble_eq_true rfl, Nat.le_of_ble_eq_true rfl⟩ rfl hl.1 rfl (by simp only [List.map, fy_recat]; decide) ⟨Nat.le_refl _, Nat.le_refl _⟩ dX0_copyMoves_29) (fun H locs w => ?_)
      cases r29 with
      | none =>
        dsimp only at h
        cases h
      | some r29_ =>
        dsimp only at h
        cases r23 with
        | none =>
          dsimp only at h
          cases h
        | some r23_ =>
          dsimp only at h
          obtain ⟨S32, h32, h⟩ := fy_bd_some h
          refine fy_calV w (fy_runV (As := [.ref (g.2.2.1 r29_)]) (rest := []) C w (c_X2_copy l g hcl (cls_X0_move hcl q0 h23) (cls_X0_move hcl q1 h29) h32) (X_o2 hcl (cls_X0_move hcl q0 h23)) ksX0_64 rfl ⟨Nat.le_of_ble_eq_true rfl, Nat.le_of_ble_eq_true rfl⟩ rfl hl.1 rfl (Nat.le_of_ble_eq_true rfl) ⟨Nat.le_refl _, Nat.le_refl _⟩ dX0_copyMoves_32) (fun H locs w => ?_)
          obtain ⟨x35, e35⟩ : ∃ z : Int32, z = v3 + (1 : Int32) := ⟨_, rfl⟩
          have h := fy_bl_some e35 h
          refine lv_iinc (k := 3) (v := x35) (lv' := [(3, .int x35), (0, .ref (g.2.2.1 v0)), (1, .ref (g.2.2.1 v1)), (2, .int v2)]) hx hb dX0_copyMoves_35 hl rfl (by rw [e35]; rfl) (by decide) rfl (fun ls hl => ?_)
          refine lv_goto (tgt := 12) hx hb dX0_copyMoves_38 (by decide) ?_
          exact ih _ _ _ _ _ _ _ _ h w q0 q1 (lv_sub hl [1, 2, 3, 0] rfl)

set_option maxHeartbeats 4000000 in
set_option maxRecDepth 100000 in
theorem t_X0_copyMoves_2 {p : Program} {l : Launch} {e : Env} {s : State} {m : MethodId} {args : Array Value} {below : List Frame} {meth : Method} {c : Code} {g : fy_G} {y : fy_Y} (C : fy_C g y p s m args meth c yX0_copyMoves.cls cX0_copyMoves 4 none) (hcl : X_clo y) {Sr : fy_S}  : ∀ (fu : Nat) (S : fy_S) (v0 : Nat) (v1 : Nat) (v2 : Int32) (H : Heap) (locs : List Loc) (ls : Array Slot), X0_copyMoves_2 fu S v0 v1 v2 = some Sr → fy_W g y S s H locs → X_is y 0 v0 → X_is y 0 v1 → lv_has ls 4 [(0, .ref (g.2.2.1 v0)), (1, .ref (g.2.2.1 v1)), (2, .int v2)] → W p l e (fy_rm 3) s m args below meth c H locs 0 0 (MQ below (fy_QV g y Sr) args s 0 0 (fy_A g y)) (F0 m 2 ls []) := by
  obtain ⟨hx, hb, hr, hts, hown, hlk, hml, hK, hD, hE, hN⟩ := id C
  intro fu
  induction fu with
  | zero => intro S v0 v1 v2 H locs ls h; cases h
  | succ fu ih =>
    intro S v0 v1 v2 H locs ls h w q0 q1 hl
    rw [X0_copyMoves_2] at h
    refine lv_iload_n hx hb dX0_copyMoves_2 rfl (lv_at hl 2 rfl) ?_
    refine lv_aload_n hx hb dX0_copyMoves_3 rfl (lv_at hl 1 rfl) ?_
    refine gfX0_30 hcl C w q1 dX0_copyMoves_4 ?_
    refine lv_icmp_ge (tgt := 47) hx hb dX0_copyMoves_7 (by decide) (fun hc => ?_) (fun hc => ?_)
    · have h := fy_if_t h hc
      cases h
      exact fy_retV C w dX0_copyMoves_47
    · have h := fy_if_f h hc
      refine lv_iconst (v := (0 : Int32)) hx hb dX0_copyMoves_10 (by decide) ?_
      refine lv_istore_n (lv' := [(3, .int (0 : Int32)), (0, .ref (g.2.2.1 v0)), (1, .ref (g.2.2.1 v1)), (2, .int v2)]) hx hb dX0_copyMoves_11 rfl hl (by decide) rfl (fun ls hl => ?_)
      exact t_X0_copyMoves_12 C hcl ih fy_fu _ _ _ _ _ _ _ _ h w q0 q1 (lv_sub hl [1, 2, 3, 0] rfl)

set_option maxHeartbeats 4000000 in
set_option maxRecDepth 100000 in
theorem t_X0_copyMoves {p : Program} {l : Launch} {e : Env} {s : State} {m : MethodId} {args : Array Value} {below : List Frame} {meth : Method} {c : Code} {g : fy_G} {y : fy_Y} (C : fy_C g y p s m args meth c yX0_copyMoves.cls cX0_copyMoves 4 none) (hcl : X_clo y) {S : fy_S} {v0 : Nat} {v1 : Nat} {Sr : fy_S}  (q0 : X_is y 0 v0) (q1 : X_is y 0 v1) {H : Heap} {locs : List Loc} {ls : Array Slot} (h : X0_copyMoves S v0 v1 = some Sr) (w : fy_W g y S s H locs) (hl : lv_has ls 4 [(0, .ref (g.2.2.1 v0)), (1, .ref (g.2.2.1 v1))]) : W p l e (fy_rm 3) s m args below meth c H locs 0 0 (MQ below (fy_QV g y Sr) args s 0 0 (fy_A g y)) (F0 m 0 ls []) := by
  obtain ⟨hx, hb, hr, hts, hown, hlk, hml, hK, hD, hE, hN⟩ := id C
  rw [X0_copyMoves] at h
  refine lv_iconst (v := (0 : Int32)) hx hb dX0_copyMoves_0 (by decide) ?_
  refine lv_istore_n (lv' := [(2, .int (0 : Int32)), (0, .ref (g.2.2.1 v0)), (1, .ref (g.2.2.1 v1))]) hx hb dX0_copyMoves_1 rfl hl (by decide) rfl (fun ls hl => ?_)
  exact t_X0_copyMoves_2 C hcl fy_fu _ _ _ _ _ _ _ h w q0 q1 (lv_sub hl [1, 2, 0] rfl)

set_option maxHeartbeats 4000000 in
set_option maxRecDepth 100000 in
theorem c_X0_copyMoves (l : Launch) (g : fy_G) {y : fy_Y} (hcl : X_clo y) {S : fy_S} {v0 : Nat} {v1 : Nat} {Sr : fy_S}  (q0 : X_is y 0 v0) (q1 : X_is y 0 v1) (h : X0_copyMoves S v0 v1 = some Sr) : fy_M g y l yX0_copyMoves cX0_copyMoves 4 none (fy_rm 3) [.ref (g.2.2.1 v0), .ref (g.2.2.1 v1)] S (fy_QV g y Sr) :=
  fy_entry (by decide +kernel) (Nat.le_of_ble_eq_true rfl) (fun p e s m args below meth c ls C w hl => t_X0_copyMoves C hcl q0 q1 h w hl)
def X2_becomeShifted (S : fy_S) (v0 : Nat) (v1 : Nat) (v2 : Int32) : Option (fy_S) :=
  fy_bl (fy_sI S v0 1 (0 : Int32)) fun S2 =>
  fy_bd (X2_addShifted S2 v0 v1 v2) fun S8 =>
  fy_bd (X2_shiftedTable S8 (S8.2 v1 2) v2) fun r17 =>
  fy_bl (fy_sL S8 v0 2 r17) fun S20 =>
  some S20
set_option maxHeartbeats 4000000 in
set_option maxRecDepth 100000 in
theorem t_X2_becomeShifted {p : Program} {l : Launch} {e : Env} {s : State} {m : MethodId} {args : Array Value} {below : List Frame} {meth : Method} {c : Code} {g : fy_G} {y : fy_Y} (C : fy_C g y p s m args meth c yX2_becomeShifted.cls cX2_becomeShifted 3 none) (hcl : X_clo y) {S : fy_S} {v0 : Nat} {v1 : Nat} {v2 : Int32} {Sr : fy_S}  (q0 : X_is y 2 v0) (q1 : X_is y 2 v1) {H : Heap} {locs : List Loc} {ls : Array Slot} (h : X2_becomeShifted S v0 v1 v2 = some Sr) (w : fy_W g y S s H locs) (hl : lv_has ls 3 [(0, .ref (g.2.2.1 v0)), (1, .ref (g.2.2.1 v1)), (2, .int v2)]) : W p l e (fy_rm 2) s m args below meth c H locs 0 0 (MQ below (fy_QV g y Sr) args s 0 0 (fy_A g y)) (F0 m 0 ls []) := by
  obtain ⟨hx, hb, hr, hts, hown, hlk, hml, hK, hD, hE, hN⟩ := id C
  rw [X2_becomeShifted] at h
  refine lv_aload_n hx hb dX2_becomeShifted_0 rfl (lv_at hl 0 rfl) ?_
  refine lv_iconst (v := (0 : Int32)) hx hb dX2_becomeShifted_1 (by decide) ?_
  refine pfX2_18 hcl C w q0 dX2_becomeShifted_2 (fun H locs w => ?_)
  obtain ⟨S2, e2⟩ : ∃ z, z = fy_sI S v0 1 (0 : Int32) := ⟨_, rfl⟩
  have h := fy_bl_some e2 h
  rw [← e2] at w
  refine lv_aload_n hx hb dX2_becomeShifted_5 rfl (lv_at hl 0 rfl) ?_
  refine lv_aload_n hx hb dX2_becomeShifted_6 rfl (lv_at hl 1 rfl) ?_
  refine lv_iload_n hx hb dX2_becomeShifted_7 rfl (lv_at hl 2 rfl) ?_
  obtain ⟨S8, h8, h⟩ := fy_bd_some h
  refine fy_calV w (fy_runV (As := [.ref (g.2.2.1 v1), .int v2]) (rest := []) C w (c_X2_addShifted l g hcl q0 q1 h8) (X_o2 hcl q0) ksX2_48 rfl ⟨Nat.le_of_ble_eq_true rfl, Nat.le_of_ble_eq_true rfl⟩ rfl hl.1 rfl (Nat.le_of_ble_eq_true rfl) ⟨Nat.le_refl _, Nat.le_refl _⟩ dX2_becomeShifted_8) (fun H locs w => ?_)
  refine lv_aload_n hx hb dX2_becomeShifted_11 rfl (lv_at hl 0 rfl) ?_
  refine lv_aload_n hx hb dX2_becomeShifted_12 rfl (lv_at hl 1 rfl) ?_
  refine gfX2_22 hcl C w q1 dX2_becomeShifted_13 ?_
  refine lv_iload_n hx hb dX2_becomeShifted_16 rfl (lv_at hl 2 rfl) ?_
  obtain ⟨r17, h17, h⟩ := fy_bd_some h
  refine fy_calL w (fy_runS (As := [.long (S8.2 v1 2), .int v2]) (rest := [.ref (g.2.2.1 v0)]) C w (c_X2_shiftedTable l g hcl  h17) ksX2_52 ⟨Nat.le_of_ble_eq_true rfl, Nat.le_of_ble_eq_true rfl⟩ rfl hl.1 rfl (Nat.le_of_ble_eq_true rfl) ⟨Nat.le_refl _, Nat.le_refl _⟩ dX2_becomeShifted_17) (fun H locs w => ?_)
  refine pfX2_22 hcl C w q0 dX2_becomeShifted_20 (fun H locs w => ?_)
  obtain ⟨S20, e20⟩ : ∃ z, z = fy_sL S8 v0 2 r17 := ⟨_, rfl⟩
  have h := fy_bl_some e20 h
  rw [← e20] at w
  cases h
  exact fy_retV C w dX2_becomeShifted_23

set_option maxHeartbeats 4000000 in
set_option maxRecDepth 100000 in
theorem c_X2_becomeShifted (l : Launch) (g : fy_G) {y : fy_Y} (hcl : X_clo y) {S : fy_S} {v0 : Nat} {v1 : Nat} {v2 : Int32} {Sr : fy_S}  (q0 : X_is y 2 v0) (q1 : X_is y 2 v1) (h : X2_becomeShifted S v0 v1 v2 = some Sr) : fy_M g y l yX2_becomeShifted cX2_becomeShifted 3 none (fy_rm 2) [.ref (g.2.2.1 v0), .ref (g.2.2.1 v1), .int v2] S (fy_QV g y Sr) :=
  fy_entry (by decide +kernel) (Nat.le_of_ble_eq_true rfl) (fun p e s m args below meth c ls C w hl => t_X2_becomeShifted C hcl q0 q1 h w hl)
def X0_becomeJoin_72 (k60 : fy_S → Nat → Nat → Int32 → Int32 → Option (fy_S)) : Nat → fy_S → Nat → Nat → Int32 → Int32 → Int32 → Option (fy_S)
  | 0, _, _, _, _, _, _ => none
  | fu + 1, S, v0, v2, v4, v5, v6 =>
    if (S.1 v0 4) ≤ v6 then (
      fy_bl (v5 + (1 : Int32)) fun x111 =>
      k60 S v0 v2 v4 x111)
    else (
      fy_bd (X0_move S v0 (v4 + v5) v6) fun r89 =>
      fy_bd (X0_move S v2 v5 v6) fun r97 =>
      match r97 with
      | none => (
        none)
      | some r97_ => (
        match r89 with
        | none => (
          none)
        | some r89_ => (
          fy_bd (X2_becomeShifted S r89_ r97_ v4) fun S102 =>
          fy_bl (v6 + (1 : Int32)) fun x105 =>
          X0_becomeJoin_72 k60 fu S102 v0 v2 v4 v5 x105)))
def X0_becomeJoin_60 : Nat → fy_S → Nat → Nat → Int32 → Int32 → Option (fy_S)
  | 0, _, _, _, _, _ => none
  | fu + 1, S, v0, v2, v4, v5 =>
    if (S.1 v2 3) ≤ v5 then (
      some S)
    else (
      X0_becomeJoin_72 (fun S v0 v2 v4 v5 => X0_becomeJoin_60 fu S v0 v2 v4 v5) fy_fu S v0 v2 v4 v5 (0 : Int32))
def X0_becomeJoin (S : fy_S) (v0 : Nat) (v1 : Nat) (v2 : Nat) (v3 : Int32) : Option (fy_S) :=
  fy_bl (S.1 v1 3) fun x4 =>
  fy_bd (X0_takeShape S v0 v1 (x4 + (S.1 v2 3))) fun S15 =>
  fy_bl (fy_sI S15 v0 5 ((S15.1 v1 5) ||| ((S15.1 v2 5) <<< (x4 &&& 31)))) fun S31 =>
  fy_bd (X2_becomeJoin S31 (v0 + 3) (v1 + 3) (v2 + 3) x4 v3) fun S49 =>
  fy_bd (X0_copyMoves S49 v0 v1) fun S54 =>
  X0_becomeJoin_60 fy_fu S54 v0 v2 x4 (0 : Int32)
set_option maxHeartbeats 4000000 in
set_option maxRecDepth 100000 in
theorem t_X0_becomeJoin_72 {p : Program} {l : Launch} {e : Env} {s : State} {m : MethodId} {args : Array Value} {below : List Frame} {meth : Method} {c : Code} {g : fy_G} {y : fy_Y} (C : fy_C g y p s m args meth c yX0_becomeJoin.cls cX0_becomeJoin 7 none) (hcl : X_clo y) {Sr : fy_S}  {k60 : fy_S → Nat → Nat → Int32 → Int32 → Option (fy_S)} (hk60 : ∀ (S : fy_S) (v0 : Nat) (v2 : Nat) (v4 : Int32) (v5 : Int32) (H : Heap) (locs : List Loc) (ls : Array Slot), k60 S v0 v2 v4 v5 = some Sr → fy_W g y S s H locs → X_is y 0 v0 → X_is y 0 v2 → lv_has ls 7 [(0, .ref (g.2.2.1 v0)), (2, .ref (g.2.2.1 v2)), (4, .int v4), (5, .int v5)] → W p l e (fy_rm 4) s m args below meth c H locs 0 0 (MQ below (fy_QV g y Sr) args s 0 0 (fy_A g y)) (F0 m 60 ls [])) : ∀ (fu : Nat) (S : fy_S) (v0 : Nat) (v2 : Nat) (v4 : Int32) (v5 : Int32) (v6 : Int32) (H : Heap) (locs : List Loc) (ls : Array Slot), X0_becomeJoin_72 k60 fu S v0 v2 v4 v5 v6 = some Sr → fy_W g y S s H locs → X_is y 0 v0 → X_is y 0 v2 → lv_has ls 7 [(0, .ref (g.2.2.1 v0)), (2, .ref (g.2.2.1 v2)), (4, .int v4), (5, .int v5), (6, .int v6)] → W p l e (fy_rm 4) s m args below meth c H locs 0 0 (MQ below (fy_QV g y Sr) args s 0 0 (fy_A g y)) (F0 m 72 ls []) := by
  obtain ⟨hx, hb, hr, hts, hown, hlk, hml, hK, hD, hE, hN⟩ := id C
  intro fu
  induction fu with
  | zero => intro S v0 v2 v4 v5 v6 H locs ls h; cases h
  | succ fu ih =>
    intro S v0 v2 v4 v5 v6 H locs ls h w q0 q2 hl
    rw [X0_becomeJoin_72] at h
    refine lv_iload hx hb dX0_becomeJoin_72 (lv_at hl 4 rfl) ?_
    refine lv_aload_n hx hb dX0_becomeJoin_74 rfl (lv_at hl 0 rfl) ?_
    refine gfX0_34 hcl C w q0 dX0_becomeJoin_75 ?_
    refine lv_icmp_ge (tgt := 111) hx hb dX0_becomeJoin_78 (by decide) (fun hc => ?_) (fun hc => ?_)
    · have h := fy_if_t h hc
      obtain ⟨x111, e111⟩ : ∃ z : Int32, z = v5 + (1 : Int32) := ⟨_, rfl⟩
      have h := fy_bl_some e111 h
      refine lv_iinc (k := 3) (v := x111) (lv' := [(5, .int x111), (0, .ref (g.2.2.1 v0)), (2, .ref (g.2.2.1 v2)), (4, .int v4), (6, .int v6)]) hx hb dX0_becomeJoin_111 hl rfl (by rw [e111]; rfl) (by decide) rfl (fun ls hl => ?_)
      refine lv_goto (tgt := 60) hx hb dX0_becomeJoin_114 (by decide) ?_
      exact hk60 _ _ _ _ _ _ _ _ h w q0 q2 (lv_sub hl [1, 2, 3, 0] rfl)
    · have h := fy_if_f h hc
      refine lv_aload_n hx hb dX0_becomeJoin_81 rfl (lv_at hl 0 rfl) ?_
      refine lv_iload hx hb dX0_becomeJoin_82 (lv_at hl 2 rfl) ?_
      refine lv_iload hx hb dX0_becomeJoin_84 (lv_at hl 3 rfl) ?_
      refine lv_iadd hx hb dX0_becomeJoin_86 ?_
      refine lv_iload hx hb dX0_becomeJoin_87 (lv_at hl 4 rfl) ?_
      obtain ⟨r89, h89, h⟩ := fy_bd_some h
      refine fy_calE w (fy_runV (As := [.int (v4 + v5), .int v6]) (rest := []) C w (c_X0_move l g hcl q0 h89) (X_o0 hcl q0) ksX0_56 rfl ⟨Nat.le_of_ble_eq_true rfl, Nat.le_of_ble_eq_true rfl⟩ rfl hl.1 rfl (Nat.le_of_ble_eq_true rfl) ⟨Nat.le_refl _, Nat.le_refl _⟩ dX0_becomeJoin_89) (fun H locs w => ?_)
      refine lv_aload_n hx hb dX0_becomeJoin_92 rfl (lv_at hl 1 rfl) ?_
      refine lv_iload hx hb dX0_becomeJoin_93 (lv_at hl 3 rfl) ?_
      refine lv_iload hx hb dX0_becomeJoin_95 (lv_at hl 4 rfl) ?_
      obtain ⟨r97, h97, h⟩ := fy_bd_some h
      refine fy_calE w (fy_runV (As := [.int v5, .int v6]) (rest := [va_re g.2.2.1 r89]) C w (c_X0_move l g hcl q2 h97) (X_o0 hcl q2) ksX0_56 rfl ⟨Nat.le_of_ble_eq_true rfl, Nat.le_of_ble_eq_true rfl⟩ rfl hl.1 rfl (by simp only [List.map, fy_recat]; decide) ⟨Nat.le_refl _, Nat.le_refl _⟩ dX0_becomeJoin_97) (fun H locs w => ?_)
      refine lv_iload hx hb dX0_becomeJoin_100 (lv_at hl 2 rfl) ?_
      cases r97 with
      | none =>
        dsimp only at h
        cases h
      | some r97_ =>
        dsimp only at h
        cases r89 with
        | none =>
          dsimp only at h
          cases h
        | some r89_ =>
          dsimp only at h
          obtain ⟨S102, h102, h⟩ := fy_bd_some h
          refine fy_calV w (fy_runV (As := [.ref (g.2.2.1 r97_), .int v4]) (rest := []) C w (c_X2_becomeShifted l g hcl (cls_X0_move hcl q0 h89) (cls_X0_move hcl q2 h97) h102) (X_o2 hcl (cls_X0_move hcl q0 h89)) ksX0_85 rfl ⟨Nat.le_of_ble_eq_true rfl, Nat.le_of_ble_eq_true rfl⟩ rfl hl.1 rfl (Nat.le_of_ble_eq_true rfl) ⟨Nat.le_refl _, Nat.le_refl _⟩ dX0_becomeJoin_102) (fun H locs w => ?_)
          obtain ⟨x105, e105⟩ : ∃ z : Int32, z = v6 + (1 : Int32) := ⟨_, rfl⟩
          have h := fy_bl_some e105 h
          refine lv_iinc (k := 4) (v := x105) (lv' := [(6, .int x105), (0, .ref (g.2.2.1 v0)), (2, .ref (g.2.2.1 v2)), (4, .int v4), (5, .int v5)]) hx hb dX0_becomeJoin_105 hl rfl (by rw [e105]; rfl) (by decide) rfl (fun ls hl => ?_)
          refine lv_goto (tgt := 72) hx hb dX0_becomeJoin_108 (by decide) ?_
          exact ih _ _ _ _ _ _ _ _ _ h w q0 q2 (lv_sub hl [1, 2, 3, 4, 0] rfl)

set_option maxHeartbeats 4000000 in
set_option maxRecDepth 100000 in
theorem t_X0_becomeJoin_60 {p : Program} {l : Launch} {e : Env} {s : State} {m : MethodId} {args : Array Value} {below : List Frame} {meth : Method} {c : Code} {g : fy_G} {y : fy_Y} (C : fy_C g y p s m args meth c yX0_becomeJoin.cls cX0_becomeJoin 7 none) (hcl : X_clo y) {Sr : fy_S}  : ∀ (fu : Nat) (S : fy_S) (v0 : Nat) (v2 : Nat) (v4 : Int32) (v5 : Int32) (H : Heap) (locs : List Loc) (ls : Array Slot), X0_becomeJoin_60 fu S v0 v2 v4 v5 = some Sr → fy_W g y S s H locs → X_is y 0 v0 → X_is y 0 v2 → lv_has ls 7 [(0, .ref (g.2.2.1 v0)), (2, .ref (g.2.2.1 v2)), (4, .int v4), (5, .int v5)] → W p l e (fy_rm 4) s m args below meth c H locs 0 0 (MQ below (fy_QV g y Sr) args s 0 0 (fy_A g y)) (F0 m 60 ls []) := by
  obtain ⟨hx, hb, hr, hts, hown, hlk, hml, hK, hD, hE, hN⟩ := id C
  intro fu
  induction fu with
  | zero => intro S v0 v2 v4 v5 H locs ls h; cases h
  | succ fu ih =>
    intro S v0 v2 v4 v5 H locs ls h w q0 q2 hl
    rw [X0_becomeJoin_60] at h
    refine lv_iload hx hb dX0_becomeJoin_60 (lv_at hl 3 rfl) ?_
    refine lv_aload_n hx hb dX0_becomeJoin_62 rfl (lv_at hl 1 rfl) ?_
    refine gfX0_30 hcl C w q2 dX0_becomeJoin_63 ?_
    refine lv_icmp_ge (tgt := 117) hx hb dX0_becomeJoin_66 (by decide) (fun hc => ?_) (fun hc => ?_)
    · have h := fy_if_t h hc
      cases h
      exact fy_retV C w dX0_becomeJoin_117
    · have h := fy_if_f h hc
      refine lv_iconst (v := (0 : Int32)) hx hb dX0_becomeJoin_69 (by decide) ?_
      refine lv_istore (lv' := [(6, .int (0 : Int32)), (0, .ref (g.2.2.1 v0)), (2, .ref (g.2.2.1 v2)), (4, .int v4), (5, .int v5)]) hx hb dX0_becomeJoin_70 hl (by decide) rfl (fun ls hl => ?_)
      exact t_X0_becomeJoin_72 C hcl ih fy_fu _ _ _ _ _ _ _ _ _ h w q0 q2 (lv_sub hl [1, 2, 3, 4, 0] rfl)

set_option maxHeartbeats 4000000 in
set_option maxRecDepth 100000 in
theorem t_X0_becomeJoin {p : Program} {l : Launch} {e : Env} {s : State} {m : MethodId} {args : Array Value} {below : List Frame} {meth : Method} {c : Code} {g : fy_G} {y : fy_Y} (C : fy_C g y p s m args meth c yX0_becomeJoin.cls cX0_becomeJoin 7 none) (hcl : X_clo y) {S : fy_S} {v0 : Nat} {v1 : Nat} {v2 : Nat} {v3 : Int32} {Sr : fy_S}  (q0 : X_is y 0 v0) (q1 : X_is y 0 v1) (q2 : X_is y 0 v2) {H : Heap} {locs : List Loc} {ls : Array Slot} (h : X0_becomeJoin S v0 v1 v2 v3 = some Sr) (w : fy_W g y S s H locs) (hl : lv_has ls 7 [(0, .ref (g.2.2.1 v0)), (1, .ref (g.2.2.1 v1)), (2, .ref (g.2.2.1 v2)), (3, .int v3)]) : W p l e (fy_rm 4) s m args below meth c H locs 0 0 (MQ below (fy_QV g y Sr) args s 0 0 (fy_A g y)) (F0 m 0 ls []) := by
  obtain ⟨hx, hb, hr, hts, hown, hlk, hml, hK, hD, hE, hN⟩ := id C
  rw [X0_becomeJoin] at h
  refine lv_aload_n hx hb dX0_becomeJoin_0 rfl (lv_at hl 1 rfl) ?_
  refine gfX0_30 hcl C w q1 dX0_becomeJoin_1 ?_
  refine lv_topi (fun x4 e4 => ?_)
  have h := fy_bl_some e4 h
  refine lv_istore (lv' := [(4, .int x4), (0, .ref (g.2.2.1 v0)), (1, .ref (g.2.2.1 v1)), (2, .ref (g.2.2.1 v2)), (3, .int v3)]) hx hb dX0_becomeJoin_4 hl (by decide) rfl (fun ls hl => ?_)
  refine lv_aload_n hx hb dX0_becomeJoin_6 rfl (lv_at hl 1 rfl) ?_
  refine lv_aload_n hx hb dX0_becomeJoin_7 rfl (lv_at hl 2 rfl) ?_
  refine lv_iload hx hb dX0_becomeJoin_8 (lv_at hl 0 rfl) ?_
  refine lv_aload_n hx hb dX0_becomeJoin_10 rfl (lv_at hl 3 rfl) ?_
  refine gfX0_30 hcl C w q2 dX0_becomeJoin_11 ?_
  refine lv_iadd hx hb dX0_becomeJoin_14 ?_
  obtain ⟨S15, h15, h⟩ := fy_bd_some h
  refine fy_calV w (fy_runV (As := [.ref (g.2.2.1 v1), .int (x4 + (S.1 v2 3))]) (rest := []) C w (c_X0_takeShape l g hcl q0 q1 h15) (X_o0 hcl q0) ksX0_60 rfl ⟨Nat.le_of_ble_eq_true rfl, Nat.le_of_ble_eq_true rfl⟩ rfl hl.1 rfl (Nat.le_of_ble_eq_true rfl) ⟨Nat.le_refl _, Nat.le_refl _⟩ dX0_becomeJoin_15) (fun H locs w => ?_)
  refine lv_aload_n hx hb dX0_becomeJoin_18 rfl (lv_at hl 1 rfl) ?_
  refine lv_aload_n hx hb dX0_becomeJoin_19 rfl (lv_at hl 2 rfl) ?_
  refine gfX0_37 hcl C w q1 dX0_becomeJoin_20 ?_
  refine lv_aload_n hx hb dX0_becomeJoin_23 rfl (lv_at hl 3 rfl) ?_
  refine gfX0_37 hcl C w q2 dX0_becomeJoin_24 ?_
  refine lv_iload hx hb dX0_becomeJoin_27 (lv_at hl 0 rfl) ?_
  refine lv_ishl hx hb dX0_becomeJoin_29 ?_
  refine lv_ior hx hb dX0_becomeJoin_30 ?_
  refine pfX0_37 hcl C w q0 dX0_becomeJoin_31 (fun H locs w => ?_)
  obtain ⟨S31, e31⟩ : ∃ z, z = fy_sI S15 v0 5 ((S15.1 v1 5) ||| ((S15.1 v2 5) <<< (x4 &&& 31))) := ⟨_, rfl⟩
  have h := fy_bl_some e31 h
  rw [← e31] at w
  refine lv_aload_n hx hb dX0_becomeJoin_34 rfl (lv_at hl 1 rfl) ?_
  refine gfX0_18 hcl C w q0 dX0_becomeJoin_35 ?_
  refine lv_aload_n hx hb dX0_becomeJoin_38 rfl (lv_at hl 2 rfl) ?_
  refine gfX0_18 hcl C w q1 dX0_becomeJoin_39 ?_
  refine lv_aload_n hx hb dX0_becomeJoin_42 rfl (lv_at hl 3 rfl) ?_
  refine gfX0_18 hcl C w q2 dX0_becomeJoin_43 ?_
  refine lv_iload hx hb dX0_becomeJoin_46 (lv_at hl 0 rfl) ?_
  refine lv_iload_n hx hb dX0_becomeJoin_48 rfl (lv_at hl 4 rfl) ?_
  obtain ⟨S49, h49, h⟩ := fy_bd_some h
  refine fy_calV w (fy_runV (As := [.ref (g.2.2.1 (v1 + 3)), .ref (g.2.2.1 (v2 + 3)), .int x4, .int v3]) (rest := []) C w (c_X2_becomeJoin l g hcl (X_f0_initial hcl q0) (X_f0_initial hcl q1) (X_f0_initial hcl q2) h49) (X_o2 hcl (X_f0_initial hcl q0)) ksX0_81 rfl ⟨Nat.le_of_ble_eq_true rfl, Nat.le_of_ble_eq_true rfl⟩ rfl hl.1 rfl (Nat.le_of_ble_eq_true rfl) ⟨Nat.le_refl _, Nat.le_refl _⟩ dX0_becomeJoin_49) (fun H locs w => ?_)
  refine lv_aload_n hx hb dX0_becomeJoin_52 rfl (lv_at hl 1 rfl) ?_
  refine lv_aload_n hx hb dX0_becomeJoin_53 rfl (lv_at hl 2 rfl) ?_
  obtain ⟨S54, h54, h⟩ := fy_bd_some h
  refine fy_calV w (fy_runV (As := [.ref (g.2.2.1 v1)]) (rest := []) C w (c_X0_copyMoves l g hcl q0 q1 h54) (X_o0 hcl q0) ksX0_68 rfl ⟨Nat.le_of_ble_eq_true rfl, Nat.le_of_ble_eq_true rfl⟩ rfl hl.1 rfl (Nat.le_of_ble_eq_true rfl) ⟨Nat.le_refl _, Nat.le_refl _⟩ dX0_becomeJoin_54) (fun H locs w => ?_)
  refine lv_iconst (v := (0 : Int32)) hx hb dX0_becomeJoin_57 (by decide) ?_
  refine lv_istore (lv' := [(5, .int (0 : Int32)), (4, .int x4), (0, .ref (g.2.2.1 v0)), (1, .ref (g.2.2.1 v1)), (2, .ref (g.2.2.1 v2)), (3, .int v3)]) hx hb dX0_becomeJoin_58 hl (by decide) rfl (fun ls hl => ?_)
  exact t_X0_becomeJoin_60 C hcl fy_fu _ _ _ _ _ _ _ _ h w q0 q2 (lv_sub hl [2, 4, 1, 0] rfl)

set_option maxHeartbeats 4000000 in
set_option maxRecDepth 100000 in
theorem c_X0_becomeJoin (l : Launch) (g : fy_G) {y : fy_Y} (hcl : X_clo y) {S : fy_S} {v0 : Nat} {v1 : Nat} {v2 : Nat} {v3 : Int32} {Sr : fy_S}  (q0 : X_is y 0 v0) (q1 : X_is y 0 v1) (q2 : X_is y 0 v2) (h : X0_becomeJoin S v0 v1 v2 v3 = some Sr) : fy_M g y l yX0_becomeJoin cX0_becomeJoin 7 none (fy_rm 4) [.ref (g.2.2.1 v0), .ref (g.2.2.1 v1), .ref (g.2.2.1 v2), .int v3] S (fy_QV g y Sr) :=
  fy_entry (by decide +kernel) (Nat.le_of_ble_eq_true rfl) (fun p e s m args below meth c ls C w hl => t_X0_becomeJoin C hcl q0 q1 q2 h w hl)
def X0_copy (S : fy_S) (v0 : Nat) (v1 : Nat) : Option (fy_S) :=
  fy_bd (X0_takeShape S v0 v1 (S.1 v1 3)) fun S6 =>
  fy_bl (fy_sI S6 v0 5 (S6.1 v1 5)) fun S14 =>
  fy_bd (X2_copy S14 (v0 + 3) (v1 + 3)) fun S25 =>
  fy_bd (X0_copyMoves S25 v0 v1) fun S30 =>
  some S30
set_option maxHeartbeats 4000000 in
set_option maxRecDepth 100000 in
theorem t_X0_copy {p : Program} {l : Launch} {e : Env} {s : State} {m : MethodId} {args : Array Value} {below : List Frame} {meth : Method} {c : Code} {g : fy_G} {y : fy_Y} (C : fy_C g y p s m args meth c yX0_copy.cls cX0_copy 2 none) (hcl : X_clo y) {S : fy_S} {v0 : Nat} {v1 : Nat} {Sr : fy_S}  (q0 : X_is y 0 v0) (q1 : X_is y 0 v1) {H : Heap} {locs : List Loc} {ls : Array Slot} (h : X0_copy S v0 v1 = some Sr) (w : fy_W g y S s H locs) (hl : lv_has ls 2 [(0, .ref (g.2.2.1 v0)), (1, .ref (g.2.2.1 v1))]) : W p l e (fy_rm 4) s m args below meth c H locs 0 0 (MQ below (fy_QV g y Sr) args s 0 0 (fy_A g y)) (F0 m 0 ls []) := by
  obtain ⟨hx, hb, hr, hts, hown, hlk, hml, hK, hD, hE, hN⟩ := id C
  rw [X0_copy] at h
  refine lv_aload_n hx hb dX0_copy_0 rfl (lv_at hl 0 rfl) ?_
  refine lv_aload_n hx hb dX0_copy_1 rfl (lv_at hl 1 rfl) ?_
  refine lv_aload_n hx hb dX0_copy_2 rfl (lv_at hl 1 rfl) ?_
  refine gfX0_30 hcl C w q1 dX0_copy_3 ?_
  obtain ⟨S6, h6, h⟩ := fy_bd_some h
  refine fy_calV w (fy_runV (As := [.ref (g.2.2.1 v1), .int (S.1 v1 3)]) (rest := []) C w (c_X0_takeShape l g hcl q0 q1 h6) (X_o0 hcl q0) ksX0_60 rfl ⟨Nat.le_of_ble_eq_true rfl, Nat.le_of_ble_eq_true rfl⟩ rfl hl.1 rfl (Nat.le_of_ble_eq_true rfl) ⟨Nat.le_refl _, Nat.le_refl _⟩ dX0_copy_6) (fun H locs w => ?_)
  refine lv_aload_n hx hb dX0_copy_9 rfl (lv_at hl 0 rfl) ?_
  refine lv_aload_n hx hb dX0_copy_10 rfl (lv_at hl 1 rfl) ?_
  refine gfX0_37 hcl C w q1 dX0_copy_11 ?_
  refine pfX0_37 hcl C w q0 dX0_copy_14 (fun H locs w => ?_)
  obtain ⟨S14, e14⟩ : ∃ z, z = fy_sI S6 v0 5 (S6.1 v1 5) := ⟨_, rfl⟩
  have h := fy_bl_some e14 h
  rw [← e14] at w
  refine lv_aload_n hx hb dX0_copy_17 rfl (lv_at hl 0 rfl) ?_
  refine gfX0_18 hcl C w q0 dX0_copy_18 ?_
  refine lv_aload_n hx hb dX0_copy_21 rfl (lv_at hl 1 rfl) ?_
  refine gfX0_18 hcl C w q1 dX0_copy_22 ?_
  obtain ⟨S25, h25, h⟩ := fy_bd_some h
  refine fy_calV w (fy_runV (As := [.ref (g.2.2.1 (v1 + 3))]) (rest := []) C w (c_X2_copy l g hcl (X_f0_initial hcl q0) (X_f0_initial hcl q1) h25) (X_o2 hcl (X_f0_initial hcl q0)) ksX0_64 rfl ⟨Nat.le_of_ble_eq_true rfl, Nat.le_of_ble_eq_true rfl⟩ rfl hl.1 rfl (Nat.le_of_ble_eq_true rfl) ⟨Nat.le_refl _, Nat.le_refl _⟩ dX0_copy_25) (fun H locs w => ?_)
  refine lv_aload_n hx hb dX0_copy_28 rfl (lv_at hl 0 rfl) ?_
  refine lv_aload_n hx hb dX0_copy_29 rfl (lv_at hl 1 rfl) ?_
  obtain ⟨S30, h30, h⟩ := fy_bd_some h
  refine fy_calV w (fy_runV (As := [.ref (g.2.2.1 v1)]) (rest := []) C w (c_X0_copyMoves l g hcl q0 q1 h30) (X_o0 hcl q0) ksX0_68 rfl ⟨Nat.le_of_ble_eq_true rfl, Nat.le_of_ble_eq_true rfl⟩ rfl hl.1 rfl (Nat.le_of_ble_eq_true rfl) ⟨Nat.le_refl _, Nat.le_refl _⟩ dX0_copy_30) (fun H locs w => ?_)
  cases h
  exact fy_retV C w dX0_copy_33

set_option maxHeartbeats 4000000 in
set_option maxRecDepth 100000 in
theorem c_X0_copy (l : Launch) (g : fy_G) {y : fy_Y} (hcl : X_clo y) {S : fy_S} {v0 : Nat} {v1 : Nat} {Sr : fy_S}  (q0 : X_is y 0 v0) (q1 : X_is y 0 v1) (h : X0_copy S v0 v1 = some Sr) : fy_M g y l yX0_copy cX0_copy 2 none (fy_rm 4) [.ref (g.2.2.1 v0), .ref (g.2.2.1 v1)] S (fy_QV g y Sr) :=
  fy_entry (by decide +kernel) (Nat.le_of_ble_eq_true rfl) (fun p e s m args below meth c ls C w hl => t_X0_copy C hcl q0 q1 h w hl)
end
