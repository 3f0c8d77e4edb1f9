noncomputable section
def M_at (S : fy_S) (v1 : Int32) (v2 : Int32) : Option (Int32) :=
  some ((40 : Int32) * (((19 : Int32) * v1) + v2))
set_option maxHeartbeats 4000000 in
set_option maxRecDepth 100000 in
theorem t_M_at {p : Program} {l : Launch} {e : Env} {s : State} {m : MethodId} {args : Array Value} {below : List Frame} {meth : Method} {c : Code} {g : fy_G} (C : fy_C g M_Y p s m args meth c yX10_at.cls cX10_at 3 (some .int)) {S : fy_S} {v1 : Int32} {v2 : Int32} {rr : Int32}  {H : Heap} {locs : List Loc} {ls : Array Slot} (h : M_at S v1 v2 = some rr) (w : fy_W g M_Y S s H locs) (hl : lv_has ls 3 [(0, .ref (g.2.2.1 0)), (1, .int v1), (2, .int v2)]) : W p l e (fy_rm 0) s m args below meth c H locs 0 0 (MQ below (fy_QI g M_Y rr S) args s 0 0 (fy_A g M_Y)) (F0 m 0 ls []) := by
  obtain ⟨hx, hb, hr, hts, hown, hlk, hml, hK, hD, hE, hN⟩ := id C
  rw [M_at] at h
  refine lv_bipush (v := (40 : Int32)) hx hb dX10_at_0 (by decide) ?_
  refine lv_bipush (v := (19 : Int32)) hx hb dX10_at_2 (by decide) ?_
  refine lv_iload_n hx hb dX10_at_4 rfl (lv_at hl 1 rfl) ?_
  refine lv_imul hx hb dX10_at_5 ?_
  refine lv_iload_n hx hb dX10_at_6 rfl (lv_at hl 2 rfl) ?_
  refine lv_iadd hx hb dX10_at_7 ?_
  refine lv_imul hx hb dX10_at_8 ?_
  cases h
  exact fy_retI C w dX10_at_9

set_option maxHeartbeats 4000000 in
set_option maxRecDepth 100000 in
theorem c_M_at (l : Launch) (g : fy_G) {S : fy_S} {v1 : Int32} {v2 : Int32} {rr : Int32}  (h : M_at S v1 v2 = some rr) : fy_M g M_Y l yX10_at cX10_at 3 (some .int) (fy_rm 0) [.ref (g.2.2.1 0), .int v1, .int v2] S (fy_QI g M_Y rr S) :=
  fy_entry (by decide +kernel) (Nat.le_of_ble_eq_true rfl) (fun p e s m args below meth c ls C w hl => t_M_at C  h w hl)
def M_empties_51 : Nat → fy_S → Int32 → Int32 → Option (fy_S)
  | 0, _, _, _ => none
  | fu + 1, S, v1, v4 =>
    if (19 : Int32) ≤ v4 then (
      some S)
    else (
      fy_gd (fy_ix (((19 : Int32) * v1) + v4) 133) <|
      fy_bl (fy_sI S 5 (((19 : Int32) * v1) + v4).toNatClampNeg (1 : Int32)) fun S70 =>
      fy_bd (M_at S70 v1 v4) fun r79 =>
      fy_gd (fy_ix r79 5320) <|
      fy_bl (fy_sI S70 6 r79.toNatClampNeg (9 : Int32)) fun S84 =>
      fy_bl (v4 + (1 : Int32)) fun x85 =>
      M_empties_51 fu S84 v1 x85)
def M_empties_24 : Nat → fy_S → Int32 → Int32 → Option (fy_S)
  | 0, _, _, _ => none
  | fu + 1, S, v1, v4 =>
    if (3 : Int32) ≤ v4 then (
      M_empties_51 fy_fu S v1 (0 : Int32))
    else (
      fy_gd (fy_ix (((3 : Int32) * v1) + v4) 21) <|
      fy_bl (fy_sI S 4 (((3 : Int32) * v1) + v4).toNatClampNeg (1 : Int32)) fun S41 =>
      fy_bl (v4 + (1 : Int32)) fun x42 =>
      M_empties_24 fu S41 v1 x42)
def M_empties (S : fy_S) (v1 : Int32) (v2 : Int32) (v3 : Int32) : Option (fy_S) :=
  fy_gd (fy_ix v1 7) <|
  fy_bl (fy_sI S 1 v1.toNatClampNeg v2) fun S6 =>
  fy_gd (fy_ix v1 7) <|
  fy_bl (fy_sI S6 2 v1.toNatClampNeg v3) fun S13 =>
  fy_gd (fy_ix v1 7) <|
  fy_bl (fy_sI S13 3 v1.toNatClampNeg (0 : Int32)) fun S20 =>
  M_empties_24 fy_fu S20 v1 (0 : Int32)
set_option maxHeartbeats 4000000 in
set_option maxRecDepth 100000 in
theorem t_M_empties_51 {p : Program} {l : Launch} {e : Env} {s : State} {m : MethodId} {args : Array Value} {below : List Frame} {meth : Method} {c : Code} {g : fy_G} (C : fy_C g M_Y p s m args meth c yX10_empties.cls cX10_empties 5 none) {Sr : fy_S}  : ∀ (fu : Nat) (S : fy_S) (v1 : Int32) (v4 : Int32) (H : Heap) (locs : List Loc) (ls : Array Slot), M_empties_51 fu S v1 v4 = some Sr → fy_W g M_Y S s H locs → lv_has ls 5 [(0, .ref (g.2.2.1 0)), (1, .int v1), (4, .int v4)] → W p l e (fy_rm 1) s m args below meth c H locs 0 0 (MQ below (fy_QV g M_Y Sr) args s 0 0 (fy_A g M_Y)) (F0 m 51 ls []) := by
  obtain ⟨hx, hb, hr, hts, hown, hlk, hml, hK, hD, hE, hN⟩ := id C
  intro fu
  induction fu with
  | zero => intro S v1 v4 H locs ls h; cases h
  | succ fu ih =>
    intro S v1 v4 H locs ls h w  hl
    rw [M_empties_51] at h
    refine lv_iload hx hb dX10_empties_51 (lv_at hl 2 rfl) ?_
    refine lv_bipush (v := (19 : Int32)) hx hb dX10_empties_53 (by decide) ?_
    refine lv_icmp_ge (tgt := 91) hx hb dX10_empties_55 (by decide) (fun hc => ?_) (fun hc => ?_)
    · have h := fy_if_t h hc
      cases h
      exact fy_retV C w dX10_empties_91
    · have h := fy_if_f h hc
      refine lv_aload_n hx hb dX10_empties_58 rfl (lv_at hl 0 rfl) ?_
      refine gfX10_22 C w dX10_empties_59 ?_
      refine lv_bipush (v := (19 : Int32)) hx hb dX10_empties_62 (by decide) ?_
      refine lv_iload_n hx hb dX10_empties_64 rfl (lv_at hl 1 rfl) ?_
      refine lv_imul hx hb dX10_empties_65 ?_
      refine lv_iload hx hb dX10_empties_66 (lv_at hl 2 rfl) ?_
      refine lv_iadd hx hb dX10_empties_68 ?_
      refine lv_iconst (v := (1 : Int32)) hx hb dX10_empties_69 (by decide) ?_
      obtain ⟨g70, h⟩ := fy_gd_some h
      refine fy_iast C w M_a5 g70 dX10_empties_70 (fun H locs w => ?_)
      obtain ⟨S70, e70⟩ : ∃ z, z = fy_sI S 5 (((19 : Int32) * v1) + v4).toNatClampNeg (1 : Int32) := ⟨_, rfl⟩
      have h := fy_bl_some e70 h
      rw [← e70] at w
      refine lv_aload_n hx hb dX10_empties_71 rfl (lv_at hl 0 rfl) ?_
      refine gfX10_25 C w dX10_empties_72 ?_
      refine lv_aload_n hx hb dX10_empties_75 rfl (lv_at hl 0 rfl) ?_
      refine lv_iload_n hx hb dX10_empties_76 rfl (lv_at hl 1 rfl) ?_
      refine lv_iload hx hb dX10_empties_77 (lv_at hl 2 rfl) ?_
      obtain ⟨r79, h79, h⟩ := fy_bd_some h
      refine fy_calI w (fy_runV (As := [.int v1, .int v4]) (rest := [.ref (g.2.2.1 6)]) C w (c_M_at l g  h79) M_o ksX10_119 rfl ⟨Nat.le_of_ble_eq_true rfl, Nat.le_of_ble_eq_true rfl⟩ rfl hl.1 rfl (Nat.le_of_ble_eq_true rfl) ⟨Nat.le_refl _, Nat.le_refl _⟩ dX10_empties_79) (fun H locs w => ?_)
      refine lv_bipush (v := (9 : Int32)) hx hb dX10_empties_82 (by decide) ?_
      obtain ⟨g84, h⟩ := fy_gd_some h
      refine fy_iast C w M_a6 g84 dX10_empties_84 (fun H locs w => ?_)
      obtain ⟨S84, e84⟩ : ∃ z, z = fy_sI S70 6 r79.toNatClampNeg (9 : Int32) := ⟨_, rfl⟩
      have h := fy_bl_some e84 h
      rw [← e84] at w
      obtain ⟨x85, e85⟩ : ∃ z : Int32, z = v4 + (1 : Int32) := ⟨_, rfl⟩
      have h := fy_bl_some e85 h
      refine lv_iinc (k := 2) (v := x85) (lv' := [(4, .int x85), (0, .ref (g.2.2.1 0)), (1, .int v1)]) hx hb dX10_empties_85 hl rfl (by rw [e85]; rfl) (by decide) rfl (fun ls hl => ?_)
      refine lv_goto (tgt := 51) hx hb dX10_empties_88 (by decide) ?_
      exact ih _ _ _ _ _ _ h w (lv_sub hl [1, 2, 0] rfl)

set_option maxHeartbeats 4000000 in
set_option maxRecDepth 100000 in
theorem t_M_empties_24 {p : Program} {l : Launch} {e : Env} {s : State} {m : MethodId} {args : Array Value} {below : List Frame} {meth : Method} {c : Code} {g : fy_G} (C : fy_C g M_Y p s m args meth c yX10_empties.cls cX10_empties 5 none) {Sr : fy_S}  : ∀ (fu : Nat) (S : fy_S) (v1 : Int32) (v4 : Int32) (H : Heap) (locs : List Loc) (ls : Array Slot), M_empties_24 fu S v1 v4 = some Sr → fy_W g M_Y S s H locs → lv_has ls 5 [(0, .ref (g.2.2.1 0)), (1, .int v1), (4, .int v4)] → W p l e (fy_rm 1) s m args below meth c H locs 0 0 (MQ below (fy_QV g M_Y Sr) args s 0 0 (fy_A g M_Y)) (F0 m 24 ls []) := by
  obtain ⟨hx, hb, hr, hts, hown, hlk, hml, hK, hD, hE, hN⟩ := id C
  intro fu
  induction fu with
  | zero => intro S v1 v4 H locs ls h; cases h
  | succ fu ih =>
    intro S v1 v4 H locs ls h w  hl
    rw [M_empties_24] at h
    refine lv_iload hx hb dX10_empties_24 (lv_at hl 2 rfl) ?_
    refine lv_iconst (v := (3 : Int32)) hx hb dX10_empties_26 (by decide) ?_
    refine lv_icmp_ge (tgt := 48) hx hb dX10_empties_27 (by decide) (fun hc => ?_) (fun hc => ?_)
    · have h := fy_if_t h hc
      refine lv_iconst (v := (0 : Int32)) hx hb dX10_empties_48 (by decide) ?_
      refine lv_istore (lv' := [(4, .int (0 : Int32)), (0, .ref (g.2.2.1 0)), (1, .int v1)]) hx hb dX10_empties_49 hl (by decide) rfl (fun ls hl => ?_)
      exact t_M_empties_51 C fy_fu _ _ _ _ _ _ h w (lv_sub hl [1, 2, 0] rfl)
    · have h := fy_if_f h hc
      refine lv_aload_n hx hb dX10_empties_30 rfl (lv_at hl 0 rfl) ?_
      refine gfX10_19 C w dX10_empties_31 ?_
      refine lv_iconst (v := (3 : Int32)) hx hb dX10_empties_34 (by decide) ?_
      refine lv_iload_n hx hb dX10_empties_35 rfl (lv_at hl 1 rfl) ?_
      refine lv_imul hx hb dX10_empties_36 ?_
      refine lv_iload hx hb dX10_empties_37 (lv_at hl 2 rfl) ?_
      refine lv_iadd hx hb dX10_empties_39 ?_
      refine lv_iconst (v := (1 : Int32)) hx hb dX10_empties_40 (by decide) ?_
      obtain ⟨g41, h⟩ := fy_gd_some h
      refine fy_iast C w M_a4 g41 dX10_empties_41 (fun H locs w => ?_)
      obtain ⟨S41, e41⟩ : ∃ z, z = fy_sI S 4 (((3 : Int32) * v1) + v4).toNatClampNeg (1 : Int32) := ⟨_, rfl⟩
      have h := fy_bl_some e41 h
      rw [← e41] at w
      obtain ⟨x42, e42⟩ : ∃ z : Int32, z = v4 + (1 : Int32) := ⟨_, rfl⟩
      have h := fy_bl_some e42 h
      refine lv_iinc (k := 2) (v := x42) (lv' := [(4, .int x42), (0, .ref (g.2.2.1 0)), (1, .int v1)]) hx hb dX10_empties_42 hl rfl (by rw [e42]; rfl) (by decide) rfl (fun ls hl => ?_)
      refine lv_goto (tgt := 24) hx hb dX10_empties_45 (by decide) ?_
      exact ih _ _ _ _ _ _ h w (lv_sub hl [1, 2, 0] rfl)

set_option maxHeartbeats 4000000 in
set_option maxRecDepth 100000 in
theorem t_M_empties {p : Program} {l : Launch} {e : Env} {s : State} {m : MethodId} {args : Array Value} {below : List Frame} {meth : Method} {c : Code} {g : fy_G} (C : fy_C g M_Y p s m args meth c yX10_empties.cls cX10_empties 5 none) {S : fy_S} {v1 : Int32} {v2 : Int32} {v3 : Int32} {Sr : fy_S}   {H : Heap} {locs : List Loc} {ls : Array Slot} (h : M_empties S v1 v2 v3 = some Sr) (w : fy_W g M_Y S s H locs) (hl : lv_has ls 5 [(0, .ref (g.2.2.1 0)), (1, .int v1), (2, .int v2), (3, .int v3)]) : W p l e (fy_rm 1) s m args below meth c H locs 0 0 (MQ below (fy_QV g M_Y Sr) args s 0 0 (fy_A g M_Y)) (F0 m 0 ls []) := by
  obtain ⟨hx, hb, hr, hts, hown, hlk, hml, hK, hD, hE, hN⟩ := id C
  rw [M_empties] at h
  refine lv_aload_n hx hb dX10_empties_0 rfl (lv_at hl 0 rfl) ?_
  refine gfX10_7 C w dX10_empties_1 ?_
  refine lv_iload_n hx hb dX10_empties_4 rfl (lv_at hl 1 rfl) ?_
  refine lv_iload_n hx hb dX10_empties_5 rfl (lv_at hl 2 rfl) ?_
  obtain ⟨g6, h⟩ := fy_gd_some h
  refine fy_iast C w M_a1 g6 dX10_empties_6 (fun H locs w => ?_)
  obtain ⟨S6, e6⟩ : ∃ z, z = fy_sI S 1 v1.toNatClampNeg v2 := ⟨_, rfl⟩
  have h := fy_bl_some e6 h
  rw [← e6] at w
  refine lv_aload_n hx hb dX10_empties_7 rfl (lv_at hl 0 rfl) ?_
  refine gfX10_13 C w dX10_empties_8 ?_
  refine lv_iload_n hx hb dX10_empties_11 rfl (lv_at hl 1 rfl) ?_
  refine lv_iload_n hx hb dX10_empties_12 rfl (lv_at hl 3 rfl) ?_
  obtain ⟨g13, h⟩ := fy_gd_some h
  refine fy_iast C w M_a2 g13 dX10_empties_13 (fun H locs w => ?_)
  obtain ⟨S13, e13⟩ : ∃ z, z = fy_sI S6 2 v1.toNatClampNeg v3 := ⟨_, rfl⟩
  have h := fy_bl_some e13 h
  rw [← e13] at w
  refine lv_aload_n hx hb dX10_empties_14 rfl (lv_at hl 0 rfl) ?_
  refine gfX10_16 C w dX10_empties_15 ?_
  refine lv_iload_n hx hb dX10_empties_18 rfl (lv_at hl 1 rfl) ?_
  refine lv_iconst (v := (0 : Int32)) hx hb dX10_empties_19 (by decide) ?_
  obtain ⟨g20, h⟩ := fy_gd_some h
  refine fy_iast C w M_a3 g20 dX10_empties_20 (fun H locs w => ?_)
  obtain ⟨S20, e20⟩ : ∃ z, z = fy_sI S13 3 v1.toNatClampNeg (0 : Int32) := ⟨_, rfl⟩
  have h := fy_bl_some e20 h
  rw [← e20] at w
  refine lv_iconst (v := (0 : Int32)) hx hb dX10_empties_21 (by decide) ?_
  refine lv_istore (lv' := [(4, .int (0 : Int32)), (0, .ref (g.2.2.1 0)), (1, .int v1), (2, .int v2), (3, .int v3)]) hx hb dX10_empties_22 hl (by decide) rfl (fun ls hl => ?_)
  exact t_M_empties_24 C fy_fu _ _ _ _ _ _ h w (lv_sub hl [1, 2, 0] rfl)

set_option maxHeartbeats 4000000 in
set_option maxRecDepth 100000 in
theorem c_M_empties (l : Launch) (g : fy_G) {S : fy_S} {v1 : Int32} {v2 : Int32} {v3 : Int32} {Sr : fy_S}   (h : M_empties S v1 v2 v3 = some Sr) : fy_M g M_Y l yX10_empties cX10_empties 5 none (fy_rm 1) [.ref (g.2.2.1 0), .int v1, .int v2, .int v3] S (fy_QV g M_Y Sr) :=
  fy_entry (by decide +kernel) (Nat.le_of_ble_eq_true rfl) (fun p e s m args below meth c ls C w hl => t_M_empties C  h w hl)
def M_isSlot (S : fy_S) (v0 : Int32) : Option (Int32) :=
  if v0 < 0 then (
    some (0 : Int32))
  else (
    if (3 : Int32) ≤ v0 then (
      some (0 : Int32))
    else (
      some (1 : Int32)))
set_option maxHeartbeats 4000000 in
set_option maxRecDepth 100000 in
theorem t_M_isSlot {p : Program} {l : Launch} {e : Env} {s : State} {m : MethodId} {args : Array Value} {below : List Frame} {meth : Method} {c : Code} {g : fy_G} (C : fy_C g M_Y p s m args meth c yX10_isSlot.cls cX10_isSlot 1 (some .boolean)) {S : fy_S} {v0 : Int32} {rr : Int32}  {H : Heap} {locs : List Loc} {ls : Array Slot} (h : M_isSlot S v0 = some rr) (w : fy_W g M_Y S s H locs) (hl : lv_has ls 1 [(0, .int v0)]) : W p l e (fy_rm 0) s m args below meth c H locs 0 0 (MQ below (fy_QI g M_Y rr S) args s 0 0 (fy_A g M_Y)) (F0 m 0 ls []) := by
  obtain ⟨hx, hb, hr, hts, hown, hlk, hml, hK, hD, hE, hN⟩ := id C
  rw [M_isSlot] at h
  refine lv_iload_n hx hb dX10_isSlot_0 rfl (lv_at hl 0 rfl) ?_
  refine lv_if_lt (tgt := 13) hx hb dX10_isSlot_1 (by decide) (fun hc => ?_) (fun hc => ?_)
  · have h := fy_if_t h hc
    refine lv_iconst (v := (0 : Int32)) hx hb dX10_isSlot_13 (by decide) ?_
    cases h
    exact fy_retZ C w (by decide +kernel) dX10_isSlot_14
  · have h := fy_if_f h hc
    refine lv_iload_n hx hb dX10_isSlot_4 rfl (lv_at hl 0 rfl) ?_
    refine lv_iconst (v := (3 : Int32)) hx hb dX10_isSlot_5 (by decide) ?_
    refine lv_icmp_ge (tgt := 13) hx hb dX10_isSlot_6 (by decide) (fun hc => ?_) (fun hc => ?_)
    · have h := fy_if_t h hc
      refine lv_iconst (v := (0 : Int32)) hx hb dX10_isSlot_13 (by decide) ?_
      cases h
      exact fy_retZ C w (by decide +kernel) dX10_isSlot_14
    · have h := fy_if_f h hc
      refine lv_iconst (v := (1 : Int32)) hx hb dX10_isSlot_9 (by decide) ?_
      refine lv_goto (tgt := 14) hx hb dX10_isSlot_10 (by decide) ?_
      cases h
      exact fy_retZ C w (by decide +kernel) dX10_isSlot_14

set_option maxHeartbeats 4000000 in
set_option maxRecDepth 100000 in
theorem c_M_isSlot (l : Launch) (g : fy_G) {S : fy_S} {v0 : Int32} {rr : Int32}  (h : M_isSlot S v0 = some rr) : fy_M g M_Y l yX10_isSlot cX10_isSlot 1 (some .boolean) (fy_rm 0) [.int v0] S (fy_QI g M_Y rr S) :=
  fy_entry (by decide +kernel) (Nat.le_of_ble_eq_true rfl) (fun p e s m args below meth c ls C w hl => t_M_isSlot C  h w hl)
def M_isBetween (S : fy_S) (v0 : Int32) (v1 : Int32) (v2 : Int32) : Option (Int32) :=
  if v0 < v1 then (
    some (0 : Int32))
  else (
    if v2 < v0 then (
      some (0 : Int32))
    else (
      some (1 : Int32)))
set_option maxHeartbeats 4000000 in
set_option maxRecDepth 100000 in
theorem t_M_isBetween {p : Program} {l : Launch} {e : Env} {s : State} {m : MethodId} {args : Array Value} {below : List Frame} {meth : Method} {c : Code} {g : fy_G} (C : fy_C g M_Y p s m args meth c yX10_isBetween.cls cX10_isBetween 3 (some .boolean)) {S : fy_S} {v0 : Int32} {v1 : Int32} {v2 : Int32} {rr : Int32}  {H : Heap} {locs : List Loc} {ls : Array Slot} (h : M_isBetween S v0 v1 v2 = some rr) (w : fy_W g M_Y S s H locs) (hl : lv_has ls 3 [(0, .int v0), (1, .int v1), (2, .int v2)]) : W p l e (fy_rm 0) s m args below meth c H locs 0 0 (MQ below (fy_QI g M_Y rr S) args s 0 0 (fy_A g M_Y)) (F0 m 0 ls []) := by
  obtain ⟨hx, hb, hr, hts, hown, hlk, hml, hK, hD, hE, hN⟩ := id C
  rw [M_isBetween] at h
  refine lv_iload_n hx hb dX10_isBetween_0 rfl (lv_at hl 0 rfl) ?_
  refine lv_iload_n hx hb dX10_isBetween_1 rfl (lv_at hl 1 rfl) ?_
  refine lv_icmp_lt (tgt := 14) hx hb dX10_isBetween_2 (by decide) (fun hc => ?_) (fun hc => ?_)
  · have h := fy_if_t h hc
    refine lv_iconst (v := (0 : Int32)) hx hb dX10_isBetween_14 (by decide) ?_
    cases h
    exact fy_retZ C w (by decide +kernel) dX10_isBetween_15
  · have h := fy_if_f h hc
    refine lv_iload_n hx hb dX10_isBetween_5 rfl (lv_at hl 0 rfl) ?_
    refine lv_iload_n hx hb dX10_isBetween_6 rfl (lv_at hl 2 rfl) ?_
    refine lv_icmp_gt (tgt := 14) hx hb dX10_isBetween_7 (by decide) (fun hc => ?_) (fun hc => ?_)
    · have h := fy_if_t h hc
      refine lv_iconst (v := (0 : Int32)) hx hb dX10_isBetween_14 (by decide) ?_
      cases h
      exact fy_retZ C w (by decide +kernel) dX10_isBetween_15
    · have h := fy_if_f h hc
      refine lv_iconst (v := (1 : Int32)) hx hb dX10_isBetween_10 (by decide) ?_
      refine lv_goto (tgt := 15) hx hb dX10_isBetween_11 (by decide) ?_
      cases h
      exact fy_retZ C w (by decide +kernel) dX10_isBetween_15

set_option maxHeartbeats 4000000 in
set_option maxRecDepth 100000 in
theorem c_M_isBetween (l : Launch) (g : fy_G) {S : fy_S} {v0 : Int32} {v1 : Int32} {v2 : Int32} {rr : Int32}  (h : M_isBetween S v0 v1 v2 = some rr) : fy_M g M_Y l yX10_isBetween cX10_isBetween 3 (some .boolean) (fy_rm 0) [.int v0, .int v1, .int v2] S (fy_QI g M_Y rr S) :=
  fy_entry (by decide +kernel) (Nat.le_of_ble_eq_true rfl) (fun p e s m args below meth c ls C w hl => t_M_isBetween C  h w hl)
def M_create (S : fy_S) (v1 : Int32) (v2 : Int32) (v3 : Int32) : Option (fy_S × Int32) :=
  fy_bd (M_isSlot S v1) fun r1 =>
  if r1 = 0 then (
    some (S, (-2 : Int32)))
  else (
    fy_bd (M_isBetween S v2 (1 : Int32) (6 : Int32)) fun r11 =>
    if r11 = 0 then (
      some (S, (-2 : Int32)))
    else (
      fy_bd (M_isBetween S v3 (1 : Int32) (3 : Int32)) fun r20 =>
      if r20 = 0 then (
        some (S, (-2 : Int32)))
      else (
        fy_gd (fy_ix v1 7) <|
        fy_bl (S.1 1 v1.toNatClampNeg) fun x35 =>
        fy_bd (M_empties S v1 v2 v3) fun S41 =>
        some (S41, x35))))
set_option maxHeartbeats 4000000 in
set_option maxRecDepth 100000 in
theorem t_M_create {p : Program} {l : Launch} {e : Env} {s : State} {m : MethodId} {args : Array Value} {below : List Frame} {meth : Method} {c : Code} {g : fy_G} (C : fy_C g M_Y p s m args meth c yX10_create.cls cX10_create 5 (some .int)) {S : fy_S} {v1 : Int32} {v2 : Int32} {v3 : Int32} {Sr : fy_S} {rr : Int32}  {H : Heap} {locs : List Loc} {ls : Array Slot} (h : M_create S v1 v2 v3 = some (Sr, rr)) (w : fy_W g M_Y S s H locs) (hl : lv_has ls 5 [(0, .ref (g.2.2.1 0)), (1, .int v1), (2, .int v2), (3, .int v3)]) : W p l e (fy_rm 2) s m args below meth c H locs 0 0 (MQ below (fy_QI g M_Y rr Sr) args s 0 0 (fy_A g M_Y)) (F0 m 0 ls []) := by
  obtain ⟨hx, hb, hr, hts, hown, hlk, hml, hK, hD, hE, hN⟩ := id C
  rw [M_create] at h
  refine lv_iload_n hx hb dX10_create_0 rfl (lv_at hl 1 rfl) ?_
  obtain ⟨r1, h1, h⟩ := fy_bd_some h
  refine fy_calI w (fy_runS (As := [.int v1]) (rest := []) C w (c_M_isSlot l g  h1) ksX10_123 ⟨Nat.le_of_ble_eq_true rfl, Nat.le_of_ble_eq_true rfl⟩ rfl hl.1 rfl (Nat.le_of_ble_eq_true rfl) ⟨Nat.le_refl _, Nat.le_refl _⟩ dX10_create_1) (fun H locs w => ?_)
  refine lv_if_eq (tgt := 26) hx hb dX10_create_4 (by decide) (fun hc => ?_) (fun hc => ?_)
  · have h := fy_if_t h hc
    refine lv_bipush (v := (-2 : Int32)) hx hb dX10_create_26 (by decide) ?_
    cases h
    exact fy_retI C w dX10_create_28
  · have h := fy_if_f h hc
    refine lv_iload_n hx hb dX10_create_7 rfl (lv_at hl 2 rfl) ?_
    refine lv_iconst (v := (1 : Int32)) hx hb dX10_create_8 (by decide) ?_
    refine lv_bipush (v := (6 : Int32)) hx hb dX10_create_9 (by decide) ?_
    obtain ⟨r11, h11, h⟩ := fy_bd_some h
    refine fy_calI w (fy_runS (As := [.int v2, .int (1 : Int32), .int (6 : Int32)]) (rest := []) C w (c_M_isBetween l g  h11) ksX10_127 ⟨Nat.le_of_ble_eq_true rfl, Nat.le_of_ble_eq_true rfl⟩ rfl hl.1 rfl (Nat.le_of_ble_eq_true rfl) ⟨Nat.le_refl _, Nat.le_refl _⟩ dX10_create_11) (fun H locs w => ?_)
    refine lv_if_eq (tgt := 26) hx hb dX10_create_14 (by decide) (fun hc => ?_) (fun hc => ?_)
    · have h := fy_if_t h hc
      refine lv_bipush (v := (-2 : Int32)) hx hb dX10_create_26 (by decide) ?_
      cases h
      exact fy_retI C w dX10_create_28
    · have h := fy_if_f h hc
      refine lv_iload_n hx hb dX10_create_17 rfl (lv_at hl 3 rfl) ?_
      refine lv_iconst (v := (1 : Int32)) hx hb dX10_create_18 (by decide) ?_
      refine lv_iconst (v := (3 : Int32)) hx hb dX10_create_19 (by decide) ?_
      obtain ⟨r20, h20, h⟩ := fy_bd_some h
      refine fy_calI w (fy_runS (As := [.int v3, .int (1 : Int32), .int (3 : Int32)]) (rest := []) C w (c_M_isBetween l g  h20) ksX10_127 ⟨Nat.le_of_ble_eq_true rfl, Nat.le_of_ble_eq_true rfl⟩ rfl hl.1 rfl (Nat.le_of_ble_eq_true rfl) ⟨Nat.le_refl _, Nat.le_refl _⟩ dX10_create_20) (fun H locs w => ?_)
      refine lv_if_ne (tgt := 29) hx hb dX10_create_23 (by decide) (fun hc => ?_) (fun hc => ?_)
      · have h := fy_if_f h hc
        refine lv_aload_n hx hb dX10_create_29 rfl (lv_at hl 0 rfl) ?_
        refine gfX10_7 C w dX10_create_30 ?_
        refine lv_iload_n hx hb dX10_create_33 rfl (lv_at hl 1 rfl) ?_
        obtain ⟨g34, h⟩ := fy_gd_some h
        refine fy_iald C w M_a1 g34 dX10_create_34 ?_
        refine lv_topi (fun x35 e35 => ?_)
        have h := fy_bl_some e35 h
        refine lv_istore (lv' := [(4, .int x35), (0, .ref (g.2.2.1 0)), (1, .int v1), (2, .int v2), (3, .int v3)]) hx hb dX10_create_35 hl (by decide) rfl (fun ls hl => ?_)
        refine lv_aload_n hx hb dX10_create_37 rfl (lv_at hl 1 rfl) ?_
        refine lv_iload_n hx hb dX10_create_38 rfl (lv_at hl 2 rfl) ?_
        refine lv_iload_n hx hb dX10_create_39 rfl (lv_at hl 3 rfl) ?_
        refine lv_iload_n hx hb dX10_create_40 rfl (lv_at hl 4 rfl) ?_
        obtain ⟨S41, h41, h⟩ := fy_bd_some h
        refine fy_calV w (fy_runV (As := [.int v1, .int v2, .int v3]) (rest := []) C w (c_M_empties l g  h41) M_o ksX10_111 rfl ⟨Nat.le_of_ble_eq_true rfl, Nat.le_of_ble_eq_true rfl⟩ rfl hl.1 rfl (Nat.le_of_ble_eq_true rfl) ⟨Nat.le_refl _, Nat.le_refl _⟩ dX10_create_41) (fun H locs w => ?_)
        refine lv_iload hx hb dX10_create_44 (lv_at hl 0 rfl) ?_
        cases h
        exact fy_retI C w dX10_create_46
      · have h := fy_if_t h hc
        refine lv_bipush (v := (-2 : Int32)) hx hb dX10_create_26 (by decide) ?_
        cases h
        exact fy_retI C w dX10_create_28

set_option maxHeartbeats 4000000 in
set_option maxRecDepth 100000 in
theorem c_M_create (l : Launch) (g : fy_G) {S : fy_S} {v1 : Int32} {v2 : Int32} {v3 : Int32} {Sr : fy_S} {rr : Int32}  (h : M_create S v1 v2 v3 = some (Sr, rr)) : fy_M g M_Y l yX10_create cX10_create 5 (some .int) (fy_rm 2) [.ref (g.2.2.1 0), .int v1, .int v2, .int v3] S (fy_QI g M_Y rr Sr) :=
  fy_entry (by decide +kernel) (Nat.le_of_ble_eq_true rfl) (fun p e s m args below meth c ls C w hl => t_M_create C  h w hl)
def M_isState (S : fy_S) (v1 : Int32) (v2 : Int32) : Option (Int32) :=
  if v2 < 0 then (
    some (0 : Int32))
  else (
    fy_gd (fy_ix v1 7) <|
    if (S.1 1 v1.toNatClampNeg) ≤ v2 then (
      some (0 : Int32))
    else (
      some (1 : Int32)))
set_option maxHeartbeats 4000000 in
set_option maxRecDepth 100000 in
theorem t_M_isState {p : Program} {l : Launch} {e : Env} {s : State} {m : MethodId} {args : Array Value} {below : List Frame} {meth : Method} {c : Code} {g : fy_G} (C : fy_C g M_Y p s m args meth c yX10_isState.cls cX10_isState 3 (some .boolean)) {S : fy_S} {v1 : Int32} {v2 : Int32} {rr : Int32}  {H : Heap} {locs : List Loc} {ls : Array Slot} (h : M_isState S v1 v2 = some rr) (w : fy_W g M_Y S s H locs) (hl : lv_has ls 3 [(0, .ref (g.2.2.1 0)), (1, .int v1), (2, .int v2)]) : W p l e (fy_rm 0) s m args below meth c H locs 0 0 (MQ below (fy_QI g M_Y rr S) args s 0 0 (fy_A g M_Y)) (F0 m 0 ls []) := by
  obtain ⟨hx, hb, hr, hts, hown, hlk, hml, hK, hD, hE, hN⟩ := id C
  rw [M_isState] at h
  refine lv_iload_n hx hb dX10_isState_0 rfl (lv_at hl 2 rfl) ?_
  refine lv_if_lt (tgt := 18) hx hb dX10_isState_1 (by decide) (fun hc => ?_) (fun hc => ?_)
  · have h := fy_if_t h hc
    refine lv_iconst (v := (0 : Int32)) hx hb dX10_isState_18 (by decide) ?_
    cases h
    exact fy_retZ C w (by decide +kernel) dX10_isState_19
  · have h := fy_if_f h hc
    refine lv_iload_n hx hb dX10_isState_4 rfl (lv_at hl 2 rfl) ?_
    refine lv_aload_n hx hb dX10_isState_5 rfl (lv_at hl 0 rfl) ?_
    refine gfX10_7 C w dX10_isState_6 ?_
    refine lv_iload_n hx hb dX10_isState_9 rfl (lv_at hl 1 rfl) ?_
    obtain ⟨g10, h⟩ := fy_gd_some h
    refine fy_iald C w M_a1 g10 dX10_isState_10 ?_
    refine lv_icmp_ge (tgt := 18) hx hb dX10_isState_11 (by decide) (fun hc => ?_) (fun hc => ?_)
    · have h := fy_if_t h hc
      refine lv_iconst (v := (0 : Int32)) hx hb dX10_isState_18 (by decide) ?_
      cases h
      exact fy_retZ C w (by decide +kernel) dX10_isState_19
    · have h := fy_if_f h hc
      refine lv_iconst (v := (1 : Int32)) hx hb dX10_isState_14 (by decide) ?_
      refine lv_goto (tgt := 19) hx hb dX10_isState_15 (by decide) ?_
      cases h
      exact fy_retZ C w (by decide +kernel) dX10_isState_19

set_option maxHeartbeats 4000000 in
set_option maxRecDepth 100000 in
theorem c_M_isState (l : Launch) (g : fy_G) {S : fy_S} {v1 : Int32} {v2 : Int32} {rr : Int32}  (h : M_isState S v1 v2 = some rr) : fy_M g M_Y l yX10_isState cX10_isState 3 (some .boolean) (fy_rm 0) [.ref (g.2.2.1 0), .int v1, .int v2] S (fy_QI g M_Y rr S) :=
  fy_entry (by decide +kernel) (Nat.le_of_ble_eq_true rfl) (fun p e s m args below meth c ls C w hl => t_M_isState C  h w hl)
def M_setFinal (S : fy_S) (v1 : Int32) (v2 : Int32) (v3 : Int32) : Option (fy_S × Int32) :=
  fy_bd (M_isSlot S v1) fun r1 =>
  if r1 = 0 then (
    some (S, (-2 : Int32)))
  else (
    fy_bd (M_isState S v1 v2) fun r10 =>
    if r10 = 0 then (
      some (S, (-2 : Int32)))
    else (
      fy_bd (M_isBetween S v3 (0 : Int32) (1 : Int32)) fun r19 =>
      if r19 = 0 then (
        some (S, (-2 : Int32)))
      else (
        fy_gd (fy_ix v1 7) <|
        fy_gd (fy_ix v1 7) <|
        fy_bl (fy_sI S 3 v1.toNatClampNeg (((S.1 3 v1.toNatClampNeg) &&& (((1 : Int32) <<< (v2 &&& 31)) ^^^ (-1 : Int32))) ||| (v3 <<< (v2 &&& 31)))) fun S49 =>
        fy_gd (fy_ix v1 7) <|
        some (S49, (S49.1 3 v1.toNatClampNeg)))))
set_option maxHeartbeats 4000000 in
set_option maxRecDepth 100000 in
theorem t_M_setFinal {p : Program} {l : Launch} {e : Env} {s : State} {m : MethodId} {args : Array Value} {below : List Frame} {meth : Method} {c : Code} {g : fy_G} (C : fy_C g M_Y p s m args meth c yX10_setFinal.cls cX10_setFinal 4 (some .int)) {S : fy_S} {v1 : Int32} {v2 : Int32} {v3 : Int32} {Sr : fy_S} {rr : Int32}  {H : Heap} {locs : List Loc} {ls : Array Slot} (h : M_setFinal S v1 v2 v3 = some (Sr, rr)) (w : fy_W g M_Y S s H locs) (hl : lv_has ls 4 [(0, .ref (g.2.2.1 0)), (1, .int v1), (2, .int v2), (3, .int v3)]) : W p l e (fy_rm 1) s m args below meth c H locs 0 0 (MQ below (fy_QI g M_Y rr Sr) args s 0 0 (fy_A g M_Y)) (F0 m 0 ls []) := by
  obtain ⟨hx, hb, hr, hts, hown, hlk, hml, hK, hD, hE, hN⟩ := id C
  rw [M_setFinal] at h
  refine lv_iload_n hx hb dX10_setFinal_0 rfl (lv_at hl 1 rfl) ?_
  obtain ⟨r1, h1, h⟩ := fy_bd_some h
  refine fy_calI w (fy_runS (As := [.int v1]) (rest := []) C w (c_M_isSlot l g  h1) ksX10_123 ⟨Nat.le_of_ble_eq_true rfl, Nat.le_of_ble_eq_true rfl⟩ rfl hl.1 rfl (Nat.le_of_ble_eq_true rfl) ⟨Nat.le_refl _, Nat.le_refl _⟩ dX10_setFinal_1) (fun H locs w => ?_)
  refine lv_if_eq (tgt := 25) hx hb dX10_setFinal_4 (by decide) (fun hc => ?_) (fun hc => ?_)
  · have h := fy_if_t h hc
    refine lv_bipush (v := (-2 : Int32)) hx hb dX10_setFinal_25 (by decide) ?_
    cases h
    exact fy_retI C w dX10_setFinal_27
  · have h := fy_if_f h hc
    refine lv_aload_n hx hb dX10_setFinal_7 rfl (lv_at hl 0 rfl) ?_
    refine lv_iload_n hx hb dX10_setFinal_8 rfl (lv_at hl 1 rfl) ?_
    refine lv_iload_n hx hb dX10_setFinal_9 rfl (lv_at hl 2 rfl) ?_
    obtain ⟨r10, h10, h⟩ := fy_bd_some h
    refine fy_calI w (fy_runV (As := [.int v1, .int v2]) (rest := []) C w (c_M_isState l g  h10) M_o ksX10_131 rfl ⟨Nat.le_of_ble_eq_true rfl, Nat.le_of_ble_eq_true rfl⟩ rfl hl.1 rfl (Nat.le_of_ble_eq_true rfl) ⟨Nat.le_refl _, Nat.le_refl _⟩ dX10_setFinal_10) (fun H locs w => ?_)
    refine lv_if_eq (tgt := 25) hx hb dX10_setFinal_13 (by decide) (fun hc => ?_) (fun hc => ?_)
    · have h := fy_if_t h hc
      refine lv_bipush (v := (-2 : Int32)) hx hb dX10_setFinal_25 (by decide) ?_
      cases h
      exact fy_retI C w dX10_setFinal_27
    · have h := fy_if_f h hc
      refine lv_iload_n hx hb dX10_setFinal_16 rfl (lv_at hl 3 rfl) ?_
      refine lv_iconst (v := (0 : Int32)) hx hb dX10_setFinal_17 (by decide) ?_
      refine lv_iconst (v := (1 : Int32)) hx hb dX10_setFinal_18 (by decide) ?_
      obtain ⟨r19, h19, h⟩ := fy_bd_some h
      refine fy_calI w (fy_runS (As := [.int v3, .int (0 : Int32), .int (1 : Int32)]) (rest := []) C w (c_M_isBetween l g  h19) ksX10_127 ⟨Nat.le_of_ble_eq_true rfl, Nat.le_of_ble_eq_true rfl⟩ rfl hl.1 rfl (Nat.le_of_ble_eq_true rfl) ⟨Nat.le_refl _, Nat.le_refl _⟩ dX10_setFinal_19) (fun H locs w => ?_)
      refine lv_if_ne (tgt := 28) hx hb dX10_setFinal_22 (by decide) (fun hc => ?_) (fun hc => ?_)
      · have h := fy_if_f h hc
        refine lv_aload_n hx hb dX10_setFinal_28 rfl (lv_at hl 0 rfl) ?_
        refine gfX10_16 C w dX10_setFinal_29 ?_
        refine lv_iload_n hx hb dX10_setFinal_32 rfl (lv_at hl 1 rfl) ?_
        refine lv_aload_n hx hb dX10_setFinal_33 rfl (lv_at hl 0 rfl) ?_
        refine gfX10_16 C w dX10_setFinal_34 ?_
        refine lv_iload_n hx hb dX10_setFinal_37 rfl (lv_at hl 1 rfl) ?_
        obtain ⟨g38, h⟩ := fy_gd_some h
        refine fy_iald C w M_a3 g38 dX10_setFinal_38 ?_
        refine lv_iconst (v := (1 : Int32)) hx hb dX10_setFinal_39 (by decide) ?_
        refine lv_iload_n hx hb dX10_setFinal_40 rfl (lv_at hl 2 rfl) ?_
        refine lv_ishl hx hb dX10_setFinal_41 ?_
        refine lv_iconst (v := (-1 : Int32)) hx hb dX10_setFinal_42 (by decide) ?_
        refine lv_ixor hx hb dX10_setFinal_43 ?_
        refine lv_iand hx hb dX10_setFinal_44 ?_
        refine lv_iload_n hx hb dX10_setFinal_45 rfl (lv_at hl 3 rfl) ?_
        refine lv_iload_n hx hb dX10_setFinal_46 rfl (lv_at hl 2 rfl) ?_
        refine lv_ishl hx hb dX10_setFinal_47 ?_
        refine lv_ior hx hb dX10_setFinal_48 ?_
        obtain ⟨g49, h⟩ := fy_gd_some h
        refine fy_iast C w M_a3 g49 dX10_setFinal_49 (fun H locs w => ?_)
        obtain ⟨S49, e49⟩ : ∃ z, z = fy_sI S 3 v1.toNatClampNeg (((S.1 3 v1.toNatClampNeg) &&& (((1 : Int32) <<< (v2 &&& 31)) ^^^ (-1 : Int32))) ||| (v3 <<< (v2 &&& 31))) := ⟨_, rfl⟩
        have h := fy_bl_some e49 h
        rw [← e49] at w
        refine lv_aload_n hx hb dX10_setFinal_50 rfl (lv_at hl 0 rfl) ?_
        refine gfX10_16 C w dX10_setFinal_51 ?_
        refine lv_iload_n hx hb dX10_setFinal_54 rfl (lv_at hl 1 rfl) ?_
        obtain ⟨g55, h⟩ := fy_gd_some h
        refine fy_iald C w M_a3 g55 dX10_setFinal_55 ?_
        cases h
        exact fy_retI C w dX10_setFinal_56
      · have h := fy_if_t h hc
        refine lv_bipush (v := (-2 : Int32)) hx hb dX10_setFinal_25 (by decide) ?_
        cases h
        exact fy_retI C w dX10_setFinal_27

set_option maxHeartbeats 4000000 in
set_option maxRecDepth 100000 in
theorem c_M_setFinal (l : Launch) (g : fy_G) {S : fy_S} {v1 : Int32} {v2 : Int32} {v3 : Int32} {Sr : fy_S} {rr : Int32}  (h : M_setFinal S v1 v2 v3 = some (Sr, rr)) : fy_M g M_Y l yX10_setFinal cX10_setFinal 4 (some .int) (fy_rm 1) [.ref (g.2.2.1 0), .int v1, .int v2, .int v3] S (fy_QI g M_Y rr Sr) :=
  fy_entry (by decide +kernel) (Nat.le_of_ble_eq_true rfl) (fun p e s m args below meth c ls C w hl => t_M_setFinal C  h w hl)
def M_isLetter (S : fy_S) (v1 : Int32) (v2 : Int32) : Option (Int32) :=
  if v2 < 0 then (
    some (0 : Int32))
  else (
    fy_gd (fy_ix v1 7) <|
    if (S.1 2 v1.toNatClampNeg) ≤ v2 then (
      some (0 : Int32))
    else (
      some (1 : Int32)))
set_option maxHeartbeats 4000000 in
set_option maxRecDepth 100000 in
theorem t_M_isLetter {p : Program} {l : Launch} {e : Env} {s : State} {m : MethodId} {args : Array Value} {below : List Frame} {meth : Method} {c : Code} {g : fy_G} (C : fy_C g M_Y p s m args meth c yX10_isLetter.cls cX10_isLetter 3 (some .boolean)) {S : fy_S} {v1 : Int32} {v2 : Int32} {rr : Int32}  {H : Heap} {locs : List Loc} {ls : Array Slot} (h : M_isLetter S v1 v2 = some rr) (w : fy_W g M_Y S s H locs) (hl : lv_has ls 3 [(0, .ref (g.2.2.1 0)), (1, .int v1), (2, .int v2)]) : W p l e (fy_rm 0) s m args below meth c H locs 0 0 (MQ below (fy_QI g M_Y rr S) args s 0 0 (fy_A g M_Y)) (F0 m 0 ls []) := by
  obtain ⟨hx, hb, hr, hts, hown, hlk, hml, hK, hD, hE, hN⟩ := id C
  rw [M_isLetter] at h
  refine lv_iload_n hx hb dX10_isLetter_0 rfl (lv_at hl 2 rfl) ?_
  refine lv_if_lt (tgt := 18) hx hb dX10_isLetter_1 (by decide) (fun hc => ?_) (fun hc => ?_)
  · have h := fy_if_t h hc
    refine lv_iconst (v := (0 : Int32)) hx hb dX10_isLetter_18 (by decide) ?_
    cases h
    exact fy_retZ C w (by decide +kernel) dX10_isLetter_19
  · have h := fy_if_f h hc
    refine lv_iload_n hx hb dX10_isLetter_4 rfl (lv_at hl 2 rfl) ?_
    refine lv_aload_n hx hb dX10_isLetter_5 rfl (lv_at hl 0 rfl) ?_
    refine gfX10_13 C w dX10_isLetter_6 ?_
    refine lv_iload_n hx hb dX10_isLetter_9 rfl (lv_at hl 1 rfl) ?_
    obtain ⟨g10, h⟩ := fy_gd_some h
    refine fy_iald C w M_a2 g10 dX10_isLetter_10 ?_
    refine lv_icmp_ge (tgt := 18) hx hb dX10_isLetter_11 (by decide) (fun hc => ?_) (fun hc => ?_)
    · have h := fy_if_t h hc
      refine lv_iconst (v := (0 : Int32)) hx hb dX10_isLetter_18 (by decide) ?_
      cases h
      exact fy_retZ C w (by decide +kernel) dX10_isLetter_19
    · have h := fy_if_f h hc
      refine lv_iconst (v := (1 : Int32)) hx hb dX10_isLetter_14 (by decide) ?_
      refine lv_goto (tgt := 19) hx hb dX10_isLetter_15 (by decide) ?_
      cases h
      exact fy_retZ C w (by decide +kernel) dX10_isLetter_19

set_option maxHeartbeats 4000000 in
set_option maxRecDepth 100000 in
theorem c_M_isLetter (l : Launch) (g : fy_G) {S : fy_S} {v1 : Int32} {v2 : Int32} {rr : Int32}  (h : M_isLetter S v1 v2 = some rr) : fy_M g M_Y l yX10_isLetter cX10_isLetter 3 (some .boolean) (fy_rm 0) [.ref (g.2.2.1 0), .int v1, .int v2] S (fy_QI g M_Y rr S) :=
  fy_entry (by decide +kernel) (Nat.le_of_ble_eq_true rfl) (fun p e s m args below meth c ls C w hl => t_M_isLetter C  h w hl)
def M_setWeight (S : fy_S) (v1 : Int32) (v2 : Int32) (v3 : Int32) : Option (fy_S × Int32) :=
  fy_bd (M_isSlot S v1) fun r1 =>
  if r1 = 0 then (
    some (S, (-2 : Int32)))
  else (
    fy_bd (M_isLetter S v1 v2) fun r10 =>
    if r10 = 0 then (
      some (S, (-2 : Int32)))
    else (
      fy_bd (M_isBetween S v3 (1 : Int32) (9 : Int32)) fun r20 =>
      if r20 = 0 then (
        some (S, (-2 : Int32)))
      else (
        fy_gd (fy_ix (((3 : Int32) * v1) + v2) 21) <|
        fy_bl (S.1 4 (((3 : Int32) * v1) + v2).toNatClampNeg) fun x39 =>
        fy_gd (fy_ix (((3 : Int32) * v1) + v2) 21) <|
        fy_bl (fy_sI S 4 (((3 : Int32) * v1) + v2).toNatClampNeg v3) fun S51 =>
        some (S51, x39))))
set_option maxHeartbeats 4000000 in
set_option maxRecDepth 100000 in
theorem t_M_setWeight {p : Program} {l : Launch} {e : Env} {s : State} {m : MethodId} {args : Array Value} {below : List Frame} {meth : Method} {c : Code} {g : fy_G} (C : fy_C g M_Y p s m args meth c yX10_setWeight.cls cX10_setWeight 5 (some .int)) {S : fy_S} {v1 : Int32} {v2 : Int32} {v3 : Int32} {Sr : fy_S} {rr : Int32}  {H : Heap} {locs : List Loc} {ls : Array Slot} (h : M_setWeight S v1 v2 v3 = some (Sr, rr)) (w : fy_W g M_Y S s H locs) (hl : lv_has ls 5 [(0, .ref (g.2.2.1 0)), (1, .int v1), (2, .int v2), (3, .int v3)]) : W p l e (fy_rm 1) s m args below meth c H locs 0 0 (MQ below (fy_QI g M_Y rr Sr) args s 0 0 (fy_A g M_Y)) (F0 m 0 ls []) := by
  obtain ⟨hx, hb, hr, hts, hown, hlk, hml, hK, hD, hE, hN⟩ := id C
  rw [M_setWeight] at h
  refine lv_iload_n hx hb dX10_setWeight_0 rfl (lv_at hl 1 rfl) ?_
  obtain ⟨r1, h1, h⟩ := fy_bd_some h
  refine fy_calI w (fy_runS (As := [.int v1]) (rest := []) C w (c_M_isSlot l g  h1) ksX10_123 ⟨Nat.le_of_ble_eq_true rfl, Nat.le_of_ble_eq_true rfl⟩ rfl hl.1 rfl (Nat.le_of_ble_eq_true rfl) ⟨Nat.le_refl _, Nat.le_refl _⟩ dX10_setWeight_1) (fun H locs w => ?_)
  refine lv_if_eq (tgt := 26) hx hb dX10_setWeight_4 (by decide) (fun hc => ?_) (fun hc => ?_)
  · have h := fy_if_t h hc
    refine lv_bipush (v := (-2 : Int32)) hx hb dX10_setWeight_26 (by decide) ?_
    cases h
    exact fy_retI C w dX10_setWeight_28
  · have h := fy_if_f h hc
    refine lv_aload_n hx hb dX10_setWeight_7 rfl (lv_at hl 0 rfl) ?_
    refine lv_iload_n hx hb dX10_setWeight_8 rfl (lv_at hl 1 rfl) ?_
    refine lv_iload_n hx hb dX10_setWeight_9 rfl (lv_at hl 2 rfl) ?_
    obtain ⟨r10, h10, h⟩ := fy_bd_some h
    refine fy_calI w (fy_runV (As := [.int v1, .int v2]) (rest := []) C w (c_M_isLetter l g  h10) M_o ksX10_135 rfl ⟨Nat.le_of_ble_eq_true rfl, Nat.le_of_ble_eq_true rfl⟩ rfl hl.1 rfl (Nat.le_of_ble_eq_true rfl) ⟨Nat.le_refl _, Nat.le_refl _⟩ dX10_setWeight_10) (fun H locs w => ?_)
    refine lv_if_eq (tgt := 26) hx hb dX10_setWeight_13 (by decide) (fun hc => ?_) (fun hc => ?_)
    · have h := fy_if_t h hc
      refine lv_bipush (v := (-2 : Int32)) hx hb dX10_setWeight_26 (by decide) ?_
      cases h
      exact fy_retI C w dX10_setWeight_28
    · have h := fy_if_f h hc
      refine lv_iload_n hx hb dX10_setWeight_16 rfl (lv_at hl 3 rfl) ?_
      refine lv_iconst (v := (1 : Int32)) hx hb dX10_setWeight_17 (by decide) ?_
      refine lv_bipush (v := (9 : Int32)) hx hb dX10_setWeight_18 (by decide) ?_
      obtain ⟨r20, h20, h⟩ := fy_bd_some h
      refine fy_calI w (fy_runS (As := [.int v3, .int (1 : Int32), .int (9 : Int32)]) (rest := []) C w (c_M_isBetween l g  h20) ksX10_127 ⟨Nat.le_of_ble_eq_true rfl, Nat.le_of_ble_eq_true rfl⟩ rfl hl.1 rfl (Nat.le_of_ble_eq_true rfl) ⟨Nat.le_refl _, Nat.le_refl _⟩ dX10_setWeight_20) (fun H locs w => ?_)
      refine lv_if_ne (tgt := 29) hx hb dX10_setWeight_23 (by decide) (fun hc => ?_) (fun hc => ?_)
      · have h := fy_if_f h hc
        refine lv_aload_n hx hb dX10_setWeight_29 rfl (lv_at hl 0 rfl) ?_
        refine gfX10_19 C w dX10_setWeight_30 ?_
        refine lv_iconst (v := (3 : Int32)) hx hb dX10_setWeight_33 (by decide) ?_
        refine lv_iload_n hx hb dX10_setWeight_34 rfl (lv_at hl 1 rfl) ?_
        refine lv_imul hx hb dX10_setWeight_35 ?_
        refine lv_iload_n hx hb dX10_setWeight_36 rfl (lv_at hl 2 rfl) ?_
        refine lv_iadd hx hb dX10_setWeight_37 ?_
        obtain ⟨g38, h⟩ := fy_gd_some h
        refine fy_iald C w M_a4 g38 dX10_setWeight_38 ?_
        refine lv_topi (fun x39 e39 => ?_)
        have h := fy_bl_some e39 h
        refine lv_istore (lv' := [(4, .int x39), (0, .ref (g.2.2.1 0)), (1, .int v1), (2, .int v2), (3, .int v3)]) hx hb dX10_setWeight_39 hl (by decide) rfl (fun ls hl => ?_)
        refine lv_aload_n hx hb dX10_setWeight_41 rfl (lv_at hl 1 rfl) ?_
        refine gfX10_19 C w dX10_setWeight_42 ?_
        refine lv_iconst (v := (3 : Int32)) hx hb dX10_setWeight_45 (by decide) ?_
        refine lv_iload_n hx hb dX10_setWeight_46 rfl (lv_at hl 2 rfl) ?_
        refine lv_imul hx hb dX10_setWeight_47 ?_
        refine lv_iload_n hx hb dX10_setWeight_48 rfl (lv_at hl 3 rfl) ?_
        refine lv_iadd hx hb dX10_setWeight_49 ?_
        refine lv_iload_n hx hb dX10_setWeight_50 rfl (lv_at hl 4 rfl) ?_
        obtain ⟨g51, h⟩ := fy_gd_some h
        refine fy_iast C w M_a4 g51 dX10_setWeight_51 (fun H locs w => ?_)
        obtain ⟨S51, e51⟩ : ∃ z, z = fy_sI S 4 (((3 : Int32) * v1) + v2).toNatClampNeg v3 := ⟨_, rfl⟩
        have h := fy_bl_some e51 h
        rw [← e51] at w
        refine lv_iload hx hb dX10_setWeight_52 (lv_at hl 0 rfl) ?_
        cases h
        exact fy_retI C w dX10_setWeight_54
      · have h := fy_if_t h hc
        refine lv_bipush (v := (-2 : Int32)) hx hb dX10_setWeight_26 (by decide) ?_
        cases h
        exact fy_retI C w dX10_setWeight_28

set_option maxHeartbeats 4000000 in
set_option maxRecDepth 100000 in
theorem c_M_setWeight (l : Launch) (g : fy_G) {S : fy_S} {v1 : Int32} {v2 : Int32} {v3 : Int32} {Sr : fy_S} {rr : Int32}  (h : M_setWeight S v1 v2 v3 = some (Sr, rr)) : fy_M g M_Y l yX10_setWeight cX10_setWeight 5 (some .int) (fy_rm 1) [.ref (g.2.2.1 0), .int v1, .int v2, .int v3] S (fy_QI g M_Y rr Sr) :=
  fy_entry (by decide +kernel) (Nat.le_of_ble_eq_true rfl) (fun p e s m args below meth c ls C w hl => t_M_setWeight C  h w hl)
def M_property (S : fy_S) (v1 : Int32) (v2 : Int32) : Option (Int32) :=
  fy_bd (M_isSlot S v1) fun r1 =>
  if r1 = 0 then (
    some (-2 : Int32))
  else (
    fy_bd (M_isBetween S v2 (0 : Int32) (5 : Int32)) fun r10 =>
    if r10 = 0 then (
      some (-2 : Int32))
    else (
      if v2 = 0 then (
        fy_gd (fy_ix v1 7) <|
        some (S.1 1 v1.toNatClampNeg))
      else (
        if v2 = (1 : Int32) then (
          fy_gd (fy_ix v1 7) <|
          some (S.1 2 v1.toNatClampNeg))
        else (
          if v2 = (2 : Int32) then (
            fy_gd (fy_ix v1 7) <|
            some (S.1 3 v1.toNatClampNeg))
          else (
            fy_bd (M_isLetter S v1 (v2 - (3 : Int32))) fun r59 =>
            if r59 = 0 then (
              some (-1 : Int32))
            else (
              fy_gd (fy_ix ((((3 : Int32) * v1) + v2) - (3 : Int32)) 21) <|
              some (S.1 4 ((((3 : Int32) * v1) + v2) - (3 : Int32)).toNatClampNeg)))))))
set_option maxHeartbeats 4000000 in
set_option maxRecDepth 100000 in
theorem t_M_property {p : Program} {l : Launch} {e : Env} {s : State} {m : MethodId} {args : Array Value} {below : List Frame} {meth : Method} {c : Code} {g : fy_G} (C : fy_C g M_Y p s m args meth c yX10_property.cls cX10_property 3 (some .int)) {S : fy_S} {v1 : Int32} {v2 : Int32} {rr : Int32}  {H : Heap} {locs : List Loc} {ls : Array Slot} (h : M_property S v1 v2 = some rr) (w : fy_W g M_Y S s H locs) (hl : lv_has ls 3 [(0, .ref (g.2.2.1 0)), (1, .int v1), (2, .int v2)]) : W p l e (fy_rm 1) s m args below meth c H locs 0 0 (MQ below (fy_QI g M_Y rr S) args s 0 0 (fy_A g M_Y)) (F0 m 0 ls []) := by
  obtain ⟨hx, hb, hr, hts, hown, hlk, hml, hK, hD, hE, hN⟩ := id C
  rw [M_property] at h
  refine lv_iload_n hx hb dX10_property_0 rfl (lv_at hl 1 rfl) ?_
  obtain ⟨r1, h1, h⟩ := fy_bd_some h
  refine fy_calI w (fy_runS (As := [.int v1]) (rest := []) C w (c_M_isSlot l g  h1) ksX10_123 ⟨Nat.le_of_ble_eq_true rfl, Nat.le_of_ble_eq_true rfl⟩ rfl hl.1 rfl (Nat.le_of_ble_eq_true rfl) ⟨Nat.le_refl _, Nat.le_refl _⟩ dX10_property_1) (fun H locs w => ?_)
  refine lv_if_eq (tgt := 16) hx hb dX10_property_4 (by decide) (fun hc => ?_) (fun hc => ?_)
  · have h := fy_if_t h hc
    refine lv_bipush (v := (-2 : Int32)) hx hb dX10_property_16 (by decide) ?_
    cases h
    exact fy_retI C w dX10_property_18
  · have h := fy_if_f h hc
    refine lv_iload_n hx hb dX10_property_7 rfl (lv_at hl 2 rfl) ?_
    refine lv_iconst (v := (0 : Int32)) hx hb dX10_property_8 (by decide) ?_
    refine lv_iconst (v := (5 : Int32)) hx hb dX10_property_9 (by decide) ?_
    obtain ⟨r10, h10, h⟩ := fy_bd_some h
    refine fy_calI w (fy_runS (As := [.int v2, .int (0 : Int32), .int (5 : Int32)]) (rest := []) C w (c_M_isBetween l g  h10) ksX10_127 ⟨Nat.le_of_ble_eq_true rfl, Nat.le_of_ble_eq_true rfl⟩ rfl hl.1 rfl (Nat.le_of_ble_eq_true rfl) ⟨Nat.le_refl _, Nat.le_refl _⟩ dX10_property_10) (fun H locs w => ?_)
    refine lv_if_ne (tgt := 19) hx hb dX10_property_13 (by decide) (fun hc => ?_) (fun hc => ?_)
    · have h := fy_if_f h hc
      refine lv_iload_n hx hb dX10_property_19 rfl (lv_at hl 2 rfl) ?_
      refine lv_if_ne (tgt := 30) hx hb dX10_property_20 (by decide) (fun hc => ?_) (fun hc => ?_)
      · have h := fy_if_f h hc
        refine lv_iload_n hx hb dX10_property_30 rfl (lv_at hl 2 rfl) ?_
        refine lv_iconst (v := (1 : Int32)) hx hb dX10_property_31 (by decide) ?_
        refine lv_icmp_ne (tgt := 42) hx hb dX10_property_32 (by decide) (fun hc => ?_) (fun hc => ?_)
        · have h := fy_if_f h hc
          refine lv_iload_n hx hb dX10_property_42 rfl (lv_at hl 2 rfl) ?_
          refine lv_iconst (v := (2 : Int32)) hx hb dX10_property_43 (by decide) ?_
          refine lv_icmp_ne (tgt := 54) hx hb dX10_property_44 (by decide) (fun hc => ?_) (fun hc => ?_)
          · have h := fy_if_f h hc
            refine lv_aload_n hx hb dX10_property_54 rfl (lv_at hl 0 rfl) ?_
            refine lv_iload_n hx hb dX10_property_55 rfl (lv_at hl 1 rfl) ?_
            refine lv_iload_n hx hb dX10_property_56 rfl (lv_at hl 2 rfl) ?_
            refine lv_iconst (v := (3 : Int32)) hx hb dX10_property_57 (by decide) ?_
            refine lv_isub hx hb dX10_property_58 ?_
            obtain ⟨r59, h59, h⟩ := fy_bd_some h
            refine fy_calI w (fy_runV (As := [.int v1, .int (v2 - (3 : Int32))]) (rest := []) C w (c_M_isLetter l g  h59) M_o ksX10_135 rfl ⟨Nat.le_of_ble_eq_true rfl, Nat.le_of_ble_eq_true rfl⟩ rfl hl.1 rfl (Nat.le_of_ble_eq_true rfl) ⟨Nat.le_refl _, Nat.le_refl _⟩ dX10_property_59) (fun H locs w => ?_)
            refine lv_if_eq (tgt := 80) hx hb dX10_property_62 (by decide) (fun hc => ?_) (fun hc => ?_)
            · have h := fy_if_t h hc
              refine lv_iconst (v := (-1 : Int32)) hx hb dX10_property_80 (by decide) ?_
              cases h
              exact fy_retI C w dX10_property_81
            · have h := fy_if_f h hc
              refine lv_aload_n hx hb dX10_property_65 rfl (lv_at hl 0 rfl) ?_
              refine gfX10_19 C w dX10_property_66 ?_
              refine lv_iconst (v := (3 : Int32)) hx hb dX10_property_69 (by decide) ?_
              refine lv_iload_n hx hb dX10_property_70 rfl (lv_at hl 1 rfl) ?_
              refine lv_imul hx hb dX10_property_71 ?_
              refine lv_iload_n hx hb dX10_property_72 rfl (lv_at hl 2 rfl) ?_
              refine lv_iadd hx hb dX10_property_73 ?_
              refine lv_iconst (v := (3 : Int32)) hx hb dX10_property_74 (by decide) ?_
              refine lv_isub hx hb dX10_property_75 ?_
              obtain ⟨g76, h⟩ := fy_gd_some h
              refine fy_iald C w M_a4 g76 dX10_property_76 ?_
              refine lv_goto (tgt := 81) hx hb dX10_property_77 (by decide) ?_
              cases h
              exact fy_retI C w dX10_property_81
          · have h := fy_if_t h hc
            refine lv_aload_n hx hb dX10_property_47 rfl (lv_at hl 0 rfl) ?_
            refine gfX10_16 C w dX10_property_48 ?_
            refine lv_iload_n hx hb dX10_property_51 rfl (lv_at hl 1 rfl) ?_
            obtain ⟨g52, h⟩ := fy_gd_some h
            refine fy_iald C w M_a3 g52 dX10_property_52 ?_
            cases h
            exact fy_retI C w dX10_property_53
        · have h := fy_if_t h hc
          refine lv_aload_n hx hb dX10_property_35 rfl (lv_at hl 0 rfl) ?_
          refine gfX10_13 C w dX10_property_36 ?_
          refine lv_iload_n hx hb dX10_property_39 rfl (lv_at hl 1 rfl) ?_
          obtain ⟨g40, h⟩ := fy_gd_some h
          refine fy_iald C w M_a2 g40 dX10_property_40 ?_
          cases h
          exact fy_retI C w dX10_property_41
      · have h := fy_if_t h hc
        refine lv_aload_n hx hb dX10_property_23 rfl (lv_at hl 0 rfl) ?_
        refine gfX10_7 C w dX10_property_24 ?_
        refine lv_iload_n hx hb dX10_property_27 rfl (lv_at hl 1 rfl) ?_
        obtain ⟨g28, h⟩ := fy_gd_some h
        refine fy_iald C w M_a1 g28 dX10_property_28 ?_
        cases h
        exact fy_retI C w dX10_property_29
    · have h := fy_if_t h hc
      refine lv_bipush (v := (-2 : Int32)) hx hb dX10_property_16 (by decide) ?_
      cases h
      exact fy_retI C w dX10_property_18

set_option maxHeartbeats 4000000 in
set_option maxRecDepth 100000 in
theorem c_M_property (l : Launch) (g : fy_G) {S : fy_S} {v1 : Int32} {v2 : Int32} {rr : Int32}  (h : M_property S v1 v2 = some rr) : fy_M g M_Y l yX10_property cX10_property 3 (some .int) (fy_rm 1) [.ref (g.2.2.1 0), .int v1, .int v2] S (fy_QI g M_Y rr S) :=
  fy_entry (by decide +kernel) (Nat.le_of_ble_eq_true rfl) (fun p e s m args below meth c ls C w hl => t_M_property C  h w hl)
def M_append_39 : Nat → fy_S → Int32 → Int32 → Int32 → Option (fy_S × Int32)
  | 0, _, _, _, _ => none
  | fu + 1, S, v1, v2, v3 =>
    if v2 ≤ v3 then (
      fy_bl (fy_sI S 0 9 ((S.1 0 9) + v2)) fun S69 =>
      some (S69, (S69.1 0 9)))
    else (
      fy_gd (fy_ix ((S.1 0 9) + v3) 60) <|
      fy_bl (fy_sI S 7 ((S.1 0 9) + v3).toNatClampNeg v1) fun S55 =>
      fy_bl (v3 + (1 : Int32)) fun x56 =>
      M_append_39 fu S55 v1 v2 x56)
def M_append (S : fy_S) (v1 : Int32) (v2 : Int32) : Option (fy_S × Int32) :=
  fy_bd (M_isBetween S v1 (0 : Int32) (127 : Int32)) fun r4 =>
  if r4 = 0 then (
    some (S, (-2 : Int32)))
  else (
    fy_bd (M_isBetween S v2 (1 : Int32) (60 : Int32)) fun r14 =>
    if r14 = 0 then (
      some (S, (-2 : Int32)))
    else (
      if ((S.1 0 9) + v2) ≤ (60 : Int32) then (
        M_append_39 fy_fu S v1 v2 (0 : Int32))
      else (
        some (S, (-3 : Int32)))))
set_option maxHeartbeats 4000000 in
set_option maxRecDepth 100000 in
theorem t_M_append_39 {p : Program} {l : Launch} {e : Env} {s : State} {m : MethodId} {args : Array Value} {below : List Frame} {meth : Method} {c : Code} {g : fy_G} (C : fy_C g M_Y p s m args meth c yX10_append.cls cX10_append 4 (some .int)) {Sr : fy_S} {rr : Int32} : ∀ (fu : Nat) (S : fy_S) (v1 : Int32) (v2 : Int32) (v3 : Int32) (H : Heap) (locs : List Loc) (ls : Array Slot), M_append_39 fu S v1 v2 v3 = some (Sr, rr) → fy_W g M_Y S s H locs → lv_has ls 4 [(0, .ref (g.2.2.1 0)), (1, .int v1), (2, .int v2), (3, .int v3)] → W p l e (fy_rm 1) s m args below meth c H locs 0 0 (MQ below (fy_QI g M_Y rr Sr) args s 0 0 (fy_A g M_Y)) (F0 m 39 ls []) := by
  obtain ⟨hx, hb, hr, hts, hown, hlk, hml, hK, hD, hE, hN⟩ := id C
  intro fu
  induction fu with
  | zero => intro S v1 v2 v3 H locs ls h; cases h
  | succ fu ih =>
    intro S v1 v2 v3 H locs ls h w  hl
    rw [M_append_39] at h
    refine lv_iload_n hx hb dX10_append_39 rfl (lv_at hl 3 rfl) ?_
    refine lv_iload_n hx hb dX10_append_40 rfl (lv_at hl 2 rfl) ?_
    refine lv_icmp_ge (tgt := 62) hx hb dX10_append_41 (by decide) (fun hc => ?_) (fun hc => ?_)
    · have h := fy_if_t h hc
      refine lv_aload_n hx hb dX10_append_62 rfl (lv_at hl 0 rfl) ?_
      refine lv_dup hx hb dX10_append_63 rfl ?_
      refine gfX10_138 C w dX10_append_64 ?_
      refine lv_iload_n hx hb dX10_append_67 rfl (lv_at hl 2 rfl) ?_
      refine lv_iadd hx hb dX10_append_68 ?_
      refine pfX10_138 C w dX10_append_69 (fun H locs w => ?_)
      obtain ⟨S69, e69⟩ : ∃ z, z = fy_sI S 0 9 ((S.1 0 9) + v2) := ⟨_, rfl⟩
      have h := fy_bl_some e69 h
      rw [← e69] at w
      refine lv_aload_n hx hb dX10_append_72 rfl (lv_at hl 0 rfl) ?_
      refine gfX10_138 C w dX10_append_73 ?_
      cases h
      exact fy_retI C w dX10_append_76
    · have h := fy_if_f h hc
      refine lv_aload_n hx hb dX10_append_44 rfl (lv_at hl 0 rfl) ?_
      refine gfX10_28 C w dX10_append_45 ?_
      refine lv_aload_n hx hb dX10_append_48 rfl (lv_at hl 0 rfl) ?_
      refine gfX10_138 C w dX10_append_49 ?_
      refine lv_iload_n hx hb dX10_append_52 rfl (lv_at hl 3 rfl) ?_
      refine lv_iadd hx hb dX10_append_53 ?_
      refine lv_iload_n hx hb dX10_append_54 rfl (lv_at hl 1 rfl) ?_
      obtain ⟨g55, h⟩ := fy_gd_some h
      refine fy_iast C w M_a7 g55 dX10_append_55 (fun H locs w => ?_)
      obtain ⟨S55, e55⟩ : ∃ z, z = fy_sI S 7 ((S.1 0 9) + v3).toNatClampNeg v1 := ⟨_, rfl⟩
      have h := fy_bl_some e55 h
      rw [← e55] at w
      obtain ⟨x56, e56⟩ : ∃ z : Int32, z = v3 + (1 : Int32) := ⟨_, rfl⟩
      have h := fy_bl_some e56 h
      refine lv_iinc (k := 3) (v := x56) (lv' := [(3, .int x56), (0, .ref (g.2.2.1 0)), (1, .int v1), (2, .int v2)]) hx hb dX10_append_56 hl rfl (by rw [e56]; rfl) (by decide) rfl (fun ls hl => ?_)
      refine lv_goto (tgt := 39) hx hb dX10_append_59 (by decide) ?_
      exact ih _ _ _ _ _ _ _ h w (lv_sub hl [1, 2, 3, 0] rfl)

set_option maxHeartbeats 4000000 in
set_option maxRecDepth 100000 in
theorem t_M_append {p : Program} {l : Launch} {e : Env} {s : State} {m : MethodId} {args : Array Value} {below : List Frame} {meth : Method} {c : Code} {g : fy_G} (C : fy_C g M_Y p s m args meth c yX10_append.cls cX10_append 4 (some .int)) {S : fy_S} {v1 : Int32} {v2 : Int32} {Sr : fy_S} {rr : Int32}  {H : Heap} {locs : List Loc} {ls : Array Slot} (h : M_append S v1 v2 = some (Sr, rr)) (w : fy_W g M_Y S s H locs) (hl : lv_has ls 4 [(0, .ref (g.2.2.1 0)), (1, .int v1), (2, .int v2)]) : W p l e (fy_rm 1) s m args below meth c H locs 0 0 (MQ below (fy_QI g M_Y rr Sr) args s 0 0 (fy_A g M_Y)) (F0 m 0 ls []) := by
  obtain ⟨hx, hb, hr, hts, hown, hlk, hml, hK, hD, hE, hN⟩ := id C
  rw [M_append] at h
  refine lv_iload_n hx hb dX10_append_0 rfl (lv_at hl 1 rfl) ?_
  refine lv_iconst (v := (0 : Int32)) hx hb dX10_append_1 (by decide) ?_
  refine lv_bipush (v := (127 : Int32)) hx hb dX10_append_2 (by decide) ?_
  obtain ⟨r4, h4, h⟩ := fy_bd_some h
  refine fy_calI w (fy_runS (As := [.int v1, .int (0 : Int32), .int (127 : Int32)]) (rest := []) C w (c_M_isBetween l g  h4) ksX10_127 ⟨Nat.le_of_ble_eq_true rfl, Nat.le_of_ble_eq_true rfl⟩ rfl hl.1 rfl (Nat.le_of_ble_eq_true rfl) ⟨Nat.le_refl _, Nat.le_refl _⟩ dX10_append_4) (fun H locs w => ?_)
  refine lv_if_eq (tgt := 20) hx hb dX10_append_7 (by decide) (fun hc => ?_) (fun hc => ?_)
  · have h := fy_if_t h hc
    refine lv_bipush (v := (-2 : Int32)) hx hb dX10_append_20 (by decide) ?_
    cases h
    exact fy_retI C w dX10_append_22
  · have h := fy_if_f h hc
    refine lv_iload_n hx hb dX10_append_10 rfl (lv_at hl 2 rfl) ?_
    refine lv_iconst (v := (1 : Int32)) hx hb dX10_append_11 (by decide) ?_
    refine lv_bipush (v := (60 : Int32)) hx hb dX10_append_12 (by decide) ?_
    obtain ⟨r14, h14, h⟩ := fy_bd_some h
    refine fy_calI w (fy_runS (As := [.int v2, .int (1 : Int32), .int (60 : Int32)]) (rest := []) C w (c_M_isBetween l g  h14) ksX10_127 ⟨Nat.le_of_ble_eq_true rfl, Nat.le_of_ble_eq_true rfl⟩ rfl hl.1 rfl (Nat.le_of_ble_eq_true rfl) ⟨Nat.le_refl _, Nat.le_refl _⟩ dX10_append_14) (fun H locs w => ?_)
    refine lv_if_ne (tgt := 23) hx hb dX10_append_17 (by decide) (fun hc => ?_) (fun hc => ?_)
    · have h := fy_if_f h hc
      refine lv_aload_n hx hb dX10_append_23 rfl (lv_at hl 0 rfl) ?_
      refine gfX10_138 C w dX10_append_24 ?_
      refine lv_iload_n hx hb dX10_append_27 rfl (lv_at hl 2 rfl) ?_
      refine lv_iadd hx hb dX10_append_28 ?_
      refine lv_bipush (v := (60 : Int32)) hx hb dX10_append_29 (by decide) ?_
      refine lv_icmp_le (tgt := 37) hx hb dX10_append_31 (by decide) (fun hc => ?_) (fun hc => ?_)
      · have h := fy_if_t h hc
        refine lv_iconst (v := (0 : Int32)) hx hb dX10_append_37 (by decide) ?_
        refine lv_istore_n (lv' := [(3, .int (0 : Int32)), (0, .ref (g.2.2.1 0)), (1, .int v1), (2, .int v2)]) hx hb dX10_append_38 rfl hl (by decide) rfl (fun ls hl => ?_)
        exact t_M_append_39 C fy_fu _ _ _ _ _ _ _ h w (lv_sub hl [1, 2, 3, 0] rfl)
      · have h := fy_if_f h hc
        refine lv_bipush (v := (-3 : Int32)) hx hb dX10_append_34 (by decide) ?_
        cases h
        exact fy_retI C w dX10_append_36
    · have h := fy_if_t h hc
      refine lv_bipush (v := (-2 : Int32)) hx hb dX10_append_20 (by decide) ?_
      cases h
      exact fy_retI C w dX10_append_22

set_option maxHeartbeats 4000000 in
set_option maxRecDepth 100000 in
theorem c_M_append (l : Launch) (g : fy_G) {S : fy_S} {v1 : Int32} {v2 : Int32} {Sr : fy_S} {rr : Int32}  (h : M_append S v1 v2 = some (Sr, rr)) : fy_M g M_Y l yX10_append cX10_append 4 (some .int) (fy_rm 1) [.ref (g.2.2.1 0), .int v1, .int v2] S (fy_QI g M_Y rr Sr) :=
  fy_entry (by decide +kernel) (Nat.le_of_ble_eq_true rfl) (fun p e s m args below meth c ls C w hl => t_M_append C  h w hl)
def M_next (S : fy_S)  : Option (Int32) :=
  if (S.1 0 9) ≤ (S.1 0 10) then (
    some (-1 : Int32))
  else (
    fy_gd (fy_ix (S.1 0 10) 60) <|
    some (S.1 7 (S.1 0 10).toNatClampNeg))
set_option maxHeartbeats 4000000 in
set_option maxRecDepth 100000 in
theorem t_M_next {p : Program} {l : Launch} {e : Env} {s : State} {m : MethodId} {args : Array Value} {below : List Frame} {meth : Method} {c : Code} {g : fy_G} (C : fy_C g M_Y p s m args meth c yX10_next.cls cX10_next 1 (some .int)) {S : fy_S}  {rr : Int32}  {H : Heap} {locs : List Loc} {ls : Array Slot} (h : M_next S  = some rr) (w : fy_W g M_Y S s H locs) (hl : lv_has ls 1 [(0, .ref (g.2.2.1 0))]) : W p l e (fy_rm 0) s m args below meth c H locs 0 0 (MQ below (fy_QI g M_Y rr S) args s 0 0 (fy_A g M_Y)) (F0 m 0 ls []) := by
  obtain ⟨hx, hb, hr, hts, hown, hlk, hml, hK, hD, hE, hN⟩ := id C
  rw [M_next] at h
  refine lv_aload_n hx hb dX10_next_0 rfl (lv_at hl 0 rfl) ?_
  refine gfX10_142 C w dX10_next_1 ?_
  refine lv_aload_n hx hb dX10_next_4 rfl (lv_at hl 0 rfl) ?_
  refine gfX10_138 C w dX10_next_5 ?_
  refine lv_icmp_ge (tgt := 23) hx hb dX10_next_8 (by decide) (fun hc => ?_) (fun hc => ?_)
  · have h := fy_if_t h hc
    refine lv_iconst (v := (-1 : Int32)) hx hb dX10_next_23 (by decide) ?_
    cases h
    exact fy_retI C w dX10_next_24
  · have h := fy_if_f h hc
    refine lv_aload_n hx hb dX10_next_11 rfl (lv_at hl 0 rfl) ?_
    refine gfX10_28 C w dX10_next_12 ?_
    refine lv_aload_n hx hb dX10_next_15 rfl (lv_at hl 0 rfl) ?_
    refine gfX10_142 C w dX10_next_16 ?_
    obtain ⟨g19, h⟩ := fy_gd_some h
    refine fy_iald C w M_a7 g19 dX10_next_19 ?_
    refine lv_goto (tgt := 24) hx hb dX10_next_20 (by decide) ?_
    cases h
    exact fy_retI C w dX10_next_24

set_option maxHeartbeats 4000000 in
set_option maxRecDepth 100000 in
theorem c_M_next (l : Launch) (g : fy_G) {S : fy_S}  {rr : Int32}  (h : M_next S  = some rr) : fy_M g M_Y l yX10_next cX10_next 1 (some .int) (fy_rm 0) [.ref (g.2.2.1 0)] S (fy_QI g M_Y rr S) :=
  fy_entry (by decide +kernel) (Nat.le_of_ble_eq_true rfl) (fun p e s m args below meth c ls C w hl => t_M_next C  h w hl)
def M_makes (S : fy_S) (v1 : Int32) : Option (fy_S) :=
  fy_gd (fy_ix (S.1 0 11) 64) <|
  fy_bl (fy_sI S 8 (S.1 0 11).toNatClampNeg v1) fun S9 =>
  fy_bl (fy_sI S9 0 11 ((S9.1 0 11) + (1 : Int32))) fun S17 =>
  some S17
set_option maxHeartbeats 4000000 in
set_option maxRecDepth 100000 in
theorem t_M_makes {p : Program} {l : Launch} {e : Env} {s : State} {m : MethodId} {args : Array Value} {below : List Frame} {meth : Method} {c : Code} {g : fy_G} (C : fy_C g M_Y p s m args meth c yX10_makes.cls cX10_makes 2 none) {S : fy_S} {v1 : Int32} {Sr : fy_S}   {H : Heap} {locs : List Loc} {ls : Array Slot} (h : M_makes S v1 = some Sr) (w : fy_W g M_Y S s H locs) (hl : lv_has ls 2 [(0, .ref (g.2.2.1 0)), (1, .int v1)]) : W p l e (fy_rm 0) s m args below meth c H locs 0 0 (MQ below (fy_QV g M_Y Sr) args s 0 0 (fy_A g M_Y)) (F0 m 0 ls []) := by
  obtain ⟨hx, hb, hr, hts, hown, hlk, hml, hK, hD, hE, hN⟩ := id C
  rw [M_makes] at h
  refine lv_aload_n hx hb dX10_makes_0 rfl (lv_at hl 0 rfl) ?_
  refine gfX10_31 C w dX10_makes_1 ?_
  refine lv_aload_n hx hb dX10_makes_4 rfl (lv_at hl 0 rfl) ?_
  refine gfX10_144 C w dX10_makes_5 ?_
  refine lv_iload_n hx hb dX10_makes_8 rfl (lv_at hl 1 rfl) ?_
  obtain ⟨g9, h⟩ := fy_gd_some h
  refine fy_iast C w M_a8 g9 dX10_makes_9 (fun H locs w => ?_)
  obtain ⟨S9, e9⟩ : ∃ z, z = fy_sI S 8 (S.1 0 11).toNatClampNeg v1 := ⟨_, rfl⟩
  have h := fy_bl_some e9 h
  rw [← e9] at w
  refine lv_aload_n hx hb dX10_makes_10 rfl (lv_at hl 0 rfl) ?_
  refine lv_dup hx hb dX10_makes_11 rfl ?_
  refine gfX10_144 C w dX10_makes_12 ?_
  refine lv_iconst (v := (1 : Int32)) hx hb dX10_makes_15 (by decide) ?_
  refine lv_iadd hx hb dX10_makes_16 ?_
  refine pfX10_144 C w dX10_makes_17 (fun H locs w => ?_)
  obtain ⟨S17, e17⟩ : ∃ z, z = fy_sI S9 0 11 ((S9.1 0 11) + (1 : Int32)) := ⟨_, rfl⟩
  have h := fy_bl_some e17 h
  rw [← e17] at w
  cases h
  exact fy_retV C w dX10_makes_20

set_option maxHeartbeats 4000000 in
set_option maxRecDepth 100000 in
theorem c_M_makes (l : Launch) (g : fy_G) {S : fy_S} {v1 : Int32} {Sr : fy_S}   (h : M_makes S v1 = some Sr) : fy_M g M_Y l yX10_makes cX10_makes 2 none (fy_rm 0) [.ref (g.2.2.1 0), .int v1] S (fy_QV g M_Y Sr) :=
  fy_entry (by decide +kernel) (Nat.le_of_ble_eq_true rfl) (fun p e s m args below meth c ls C w hl => t_M_makes C  h w hl)
def M_makesFrom_0 : Nat → fy_S → Int32 → Option (fy_S)
  | 0, _, _ => none
  | fu + 1, S, v1 =>
    if (S.1 0 12) ≤ 0 then (
      some S)
    else (
      fy_gd (fy_ix ((S.1 0 12) - (1 : Int32)) 64) <|
      if v1 < (S.1 9 ((S.1 0 12) - (1 : Int32)).toNatClampNeg) then (
        some S)
      else (
        fy_bl (fy_sI S 0 12 ((S.1 0 12) - (1 : Int32))) fun S29 =>
        fy_gd (fy_ix (S29.1 0 12) 64) <|
        fy_bd (M_makes S29 (S29.1 9 (S29.1 0 12).toNatClampNeg)) fun S42 =>
        M_makesFrom_0 fu S42 v1))
def M_makesFrom (S : fy_S) (v1 : Int32) : Option (fy_S) :=
  if (S.1 0 12) ≤ 0 then (
    some S)
  else (
    fy_gd (fy_ix ((S.1 0 12) - (1 : Int32)) 64) <|
    if v1 < (S.1 9 ((S.1 0 12) - (1 : Int32)).toNatClampNeg) then (
      some S)
    else (
      fy_bl (fy_sI S 0 12 ((S.1 0 12) - (1 : Int32))) fun S29 =>
      fy_gd (fy_ix (S29.1 0 12) 64) <|
      fy_bd (M_makes S29 (S29.1 9 (S29.1 0 12).toNatClampNeg)) fun S42 =>
      M_makesFrom_0 fy_fu S42 v1))
set_option maxHeartbeats 4000000 in
set_option maxRecDepth 100000 in
theorem t_M_makesFrom_0 {p : Program} {l : Launch} {e : Env} {s : State} {m : MethodId} {args : Array Value} {below : List Frame} {meth : Method} {c : Code} {g : fy_G} (C : fy_C g M_Y p s m args meth c yX10_makesFrom.cls cX10_makesFrom 2 none) {Sr : fy_S}  : ∀ (fu : Nat) (S : fy_S) (v1 : Int32) (H : Heap) (locs : List Loc) (ls : Array Slot), M_makesFrom_0 fu S v1 = some Sr → fy_W g M_Y S s H locs → lv_has ls 2 [(0, .ref (g.2.2.1 0)), (1, .int v1)] → W p l e (fy_rm 1) s m args below meth c H locs 0 0 (MQ below (fy_QV g M_Y Sr) args s 0 0 (fy_A g M_Y)) (F0 m 0 ls []) := by
  obtain ⟨hx, hb, hr, hts, hown, hlk, hml, hK, hD, hE, hN⟩ := id C
  intro fu
  induction fu with
  | zero => intro S v1 H locs ls h; cases h
  | succ fu ih =>
    intro S v1 H locs ls h w  hl
    rw [M_makesFrom_0] at h
    refine lv_aload_n hx hb dX10_makesFrom_0 rfl (lv_at hl 0 rfl) ?_
    refine gfX10_147 C w dX10_makesFrom_1 ?_
    refine lv_if_le (tgt := 48) hx hb dX10_makesFrom_4 (by decide) (fun hc => ?_) (fun hc => ?_)
    · have h := fy_if_t h hc
      cases h
      exact fy_retV C w dX10_makesFrom_48
    · have h := fy_if_f h hc
      refine lv_aload_n hx hb dX10_makesFrom_7 rfl (lv_at hl 0 rfl) ?_
      refine gfX10_34 C w dX10_makesFrom_8 ?_
      refine lv_aload_n hx hb dX10_makesFrom_11 rfl (lv_at hl 0 rfl) ?_
      refine gfX10_147 C w dX10_makesFrom_12 ?_
      refine lv_iconst (v := (1 : Int32)) hx hb dX10_makesFrom_15 (by decide) ?_
      refine lv_isub hx hb dX10_makesFrom_16 ?_
      obtain ⟨g17, h⟩ := fy_gd_some h
      refine fy_iald C w M_a9 g17 dX10_makesFrom_17 ?_
      refine lv_iload_n hx hb dX10_makesFrom_18 rfl (lv_at hl 1 rfl) ?_
      refine lv_icmp_gt (tgt := 48) hx hb dX10_makesFrom_19 (by decide) (fun hc => ?_) (fun hc => ?_)
      · have h := fy_if_t h hc
        cases h
        exact fy_retV C w dX10_makesFrom_48
      · have h := fy_if_f h hc
        refine lv_aload_n hx hb dX10_makesFrom_22 rfl (lv_at hl 0 rfl) ?_
        refine lv_dup hx hb dX10_makesFrom_23 rfl ?_
        refine gfX10_147 C w dX10_makesFrom_24 ?_
        refine lv_iconst (v := (1 : Int32)) hx hb dX10_makesFrom_27 (by decide) ?_
        refine lv_isub hx hb dX10_makesFrom_28 ?_
        refine pfX10_147 C w dX10_makesFrom_29 (fun H locs w => ?_)
        obtain ⟨S29, e29⟩ : ∃ z, z = fy_sI S 0 12 ((S.1 0 12) - (1 : Int32)) := ⟨_, rfl⟩
        have h := fy_bl_some e29 h
        rw [← e29] at w
        refine lv_aload_n hx hb dX10_makesFrom_32 rfl (lv_at hl 0 rfl) ?_
        refine lv_aload_n hx hb dX10_makesFrom_33 rfl (lv_at hl 0 rfl) ?_
        refine gfX10_34 C w dX10_makesFrom_34 ?_
        refine lv_aload_n hx hb dX10_makesFrom_37 rfl (lv_at hl 0 rfl) ?_
        refine gfX10_147 C w dX10_makesFrom_38 ?_
        obtain ⟨g41, h⟩ := fy_gd_some h
        refine fy_iald C w M_a9 g41 dX10_makesFrom_41 ?_
        obtain ⟨S42, h42, h⟩ := fy_bd_some h
        refine fy_calV w (fy_runV (As := [.int (S29.1 9 (S29.1 0 12).toNatClampNeg)]) (rest := []) C w (c_M_makes l g  h42) M_o ksX10_150 rfl ⟨Nat.le_of_ble_eq_true rfl, Nat.le_of_ble_eq_true rfl⟩ rfl hl.1 rfl (Nat.le_of_ble_eq_true rfl) ⟨Nat.le_refl _, Nat.le_refl _⟩ dX10_makesFrom_42) (fun H locs w => ?_)
        refine lv_goto (tgt := 0) hx hb dX10_makesFrom_45 (by decide) ?_
        exact ih _ _ _ _ _ h w (lv_sub hl [0, 1] rfl)

set_option maxHeartbeats 4000000 in
set_option maxRecDepth 100000 in
theorem t_M_makesFrom {p : Program} {l : Launch} {e : Env} {s : State} {m : MethodId} {args : Array Value} {below : List Frame} {meth : Method} {c : Code} {g : fy_G} (C : fy_C g M_Y p s m args meth c yX10_makesFrom.cls cX10_makesFrom 2 none) {S : fy_S} {v1 : Int32} {Sr : fy_S}   {H : Heap} {locs : List Loc} {ls : Array Slot} (h : M_makesFrom S v1 = some Sr) (w : fy_W g M_Y S s H locs) (hl : lv_has ls 2 [(0, .ref (g.2.2.1 0)), (1, .int v1)]) : W p l e (fy_rm 1) s m args below meth c H locs 0 0 (MQ below (fy_QV g M_Y Sr) args s 0 0 (fy_A g M_Y)) (F0 m 0 ls []) := by
  obtain ⟨hx, hb, hr, hts, hown, hlk, hml, hK, hD, hE, hN⟩ := id C
  rw [M_makesFrom] at h
  refine lv_aload_n hx hb dX10_makesFrom_0 rfl (lv_at hl 0 rfl) ?_
  refine gfX10_147 C w dX10_makesFrom_1 ?_
  refine lv_if_le (tgt := 48) hx hb dX10_makesFrom_4 (by decide) (fun hc => ?_) (fun hc => ?_)
  · have h := fy_if_t h hc
    cases h
    exact fy_retV C w dX10_makesFrom_48
  · have h := fy_if_f h hc
    refine lv_aload_n hx hb dX10_makesFrom_7 rfl (lv_at hl 0 rfl) ?_
    refine gfX10_34 C w dX10_makesFrom_8 ?_
    refine lv_aload_n hx hb dX10_makesFrom_11 rfl (lv_at hl 0 rfl) ?_
    refine gfX10_147 C w dX10_makesFrom_12 ?_
    refine lv_iconst (v := (1 : Int32)) hx hb dX10_makesFrom_15 (by decide) ?_
    refine lv_isub hx hb dX10_makesFrom_16 ?_
    obtain ⟨g17, h⟩ := fy_gd_some h
    refine fy_iald C w M_a9 g17 dX10_makesFrom_17 ?_
    refine lv_iload_n hx hb dX10_makesFrom_18 rfl (lv_at hl 1 rfl) ?_
    refine lv_icmp_gt (tgt := 48) hx hb dX10_makesFrom_19 (by decide) (fun hc => ?_) (fun hc => ?_)
    · have h := fy_if_t h hc
      cases h
      exact fy_retV C w dX10_makesFrom_48
    · have h := fy_if_f h hc
      refine lv_aload_n hx hb dX10_makesFrom_22 rfl (lv_at hl 0 rfl) ?_
      refine lv_dup hx hb dX10_makesFrom_23 rfl ?_
      refine gfX10_147 C w dX10_makesFrom_24 ?_
      refine lv_iconst (v := (1 : Int32)) hx hb dX10_makesFrom_27 (by decide) ?_
      refine lv_isub hx hb dX10_makesFrom_28 ?_
      refine pfX10_147 C w dX10_makesFrom_29 (fun H locs w => ?_)
      obtain ⟨S29, e29⟩ : ∃ z, z = fy_sI S 0 12 ((S.1 0 12) - (1 : Int32)) := ⟨_, rfl⟩
      have h := fy_bl_some e29 h
      rw [← e29] at w
      refine lv_aload_n hx hb dX10_makesFrom_32 rfl (lv_at hl 0 rfl) ?_
      refine lv_aload_n hx hb dX10_makesFrom_33 rfl (lv_at hl 0 rfl) ?_
      refine gfX10_34 C w dX10_makesFrom_34 ?_
      refine lv_aload_n hx hb dX10_makesFrom_37 rfl (lv_at hl 0 rfl) ?_
      refine gfX10_147 C w dX10_makesFrom_38 ?_
      obtain ⟨g41, h⟩ := fy_gd_some h
      refine fy_iald C w M_a9 g41 dX10_makesFrom_41 ?_
      obtain ⟨S42, h42, h⟩ := fy_bd_some h
      refine fy_calV w (fy_runV (As := [.int (S29.1 9 (S29.1 0 12).toNatClampNeg)]) (rest := []) C w (c_M_makes l g  h42) M_o ksX10_150 rfl ⟨Nat.le_of_ble_eq_true rfl, Nat.le_of_ble_eq_true rfl⟩ rfl hl.1 rfl (Nat.le_of_ble_eq_true rfl) ⟨Nat.le_refl _, Nat.le_refl _⟩ dX10_makesFrom_42) (fun H locs w => ?_)
      refine lv_goto (tgt := 0) hx hb dX10_makesFrom_45 (by decide) ?_
      exact t_M_makesFrom_0 C fy_fu _ _ _ _ _ h w (lv_sub hl [0, 1] rfl)

set_option maxHeartbeats 4000000 in
set_option maxRecDepth 100000 in
theorem c_M_makesFrom (l : Launch) (g : fy_G) {S : fy_S} {v1 : Int32} {Sr : fy_S}   (h : M_makesFrom S v1 = some Sr) : fy_M g M_Y l yX10_makesFrom cX10_makesFrom 2 none (fy_rm 1) [.ref (g.2.2.1 0), .int v1] S (fy_QV g M_Y Sr) :=
  fy_entry (by decide +kernel) (Nat.le_of_ble_eq_true rfl) (fun p e s m args below meth c ls C w hl => t_M_makesFrom C  h w hl)
end
