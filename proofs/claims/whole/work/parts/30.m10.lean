noncomputable section
def M_adds_68 (k3 : fy_S → Int32 → Int32 → Int32 → Int32 → Int32 → Option (fy_S)) (S : fy_S) (v1 : Int32) (v2 : Int32) (v3 : Int32) (v4 : Int32) (v5 : Int32) (z0 : Int32) (z1 : Int32) : Option (fy_S) :=
  fy_gd (fy_ix z1 5320) <|
  fy_bl (fy_sI S 6 z1.toNatClampNeg z0) fun S68 =>
  fy_gd (fy_ix ((114 : Int32) + v3) 133) <|
  fy_gd (fy_ix ((114 : Int32) + v3) 133) <|
  fy_bl (fy_sI S68 5 ((114 : Int32) + v3).toNatClampNeg ((S68.1 5 ((114 : Int32) + v3).toNatClampNeg) + (1 : Int32))) fun S81 =>
  fy_bl (v5 + (1 : Int32)) fun x82 =>
  k3 S81 v1 v2 v3 v4 x82
def M_adds_3 : Nat → fy_S → Int32 → Int32 → Int32 → Int32 → Int32 → Option (fy_S)
  | 0, _, _, _, _, _, _ => none
  | fu + 1, S, v1, v2, v3, v4, v5 =>
    fy_bd (M_sizeOf S v1 v2) fun r8 =>
    if r8 ≤ v5 then (
      some S)
    else (
      fy_bd (M_at S v1 v2) fun r21 =>
      fy_gd (fy_ix (r21 + v5) 5320) <|
      fy_bl (S.1 6 (r21 + v5).toNatClampNeg) fun x28 =>
      fy_bd (M_at S (6 : Int32) v3) fun r38 =>
      fy_gd (fy_ix ((114 : Int32) + v3) 133) <|
      if (8 : Int32) ≤ x28 then (
        M_adds_68 (fun S v1 v2 v3 v4 v5 => M_adds_3 fu S v1 v2 v3 v4 v5) S v1 v2 v3 v4 v5 x28 (r38 + (S.1 5 ((114 : Int32) + v3).toNatClampNeg)))
      else (
        M_adds_68 (fun S v1 v2 v3 v4 v5 => M_adds_3 fu S v1 v2 v3 v4 v5) S v1 v2 v3 v4 v5 (x28 + v4) (r38 + (S.1 5 ((114 : Int32) + v3).toNatClampNeg))))
def M_adds (S : fy_S) (v1 : Int32) (v2 : Int32) (v3 : Int32) (v4 : Int32) : Option (fy_S) :=
  M_adds_3 fy_fu S v1 v2 v3 v4 (0 : Int32)
set_option maxHeartbeats 4000000 in
set_option maxRecDepth 100000 in
theorem t_M_adds_68 {p : Program} {l : Launch} {e : Env} {s : State} {m : MethodId} {args : Array Value} {below : List Frame} {meth : Method} {c : Code} {g : fy_G} (C : fy_C g M_Y p s m args meth c yX10_adds.cls cX10_adds 7 none) {Sr : fy_S}  {k3 : fy_S → Int32 → Int32 → Int32 → Int32 → Int32 → Option (fy_S)} (hk3 : ∀ (S : fy_S) (v1 : Int32) (v2 : Int32) (v3 : Int32) (v4 : Int32) (v5 : Int32) (H : Heap) (locs : List Loc) (ls : Array Slot), k3 S v1 v2 v3 v4 v5 = some Sr → fy_W g M_Y S s H locs → lv_has ls 7 [(0, .ref (g.2.2.1 0)), (1, .int v1), (2, .int v2), (3, .int v3), (4, .int v4), (5, .int v5)] → W p l e (fy_rm 1) s m args below meth c H locs 0 0 (MQ below (fy_QV g M_Y Sr) args s 0 0 (fy_A g M_Y)) (F0 m 3 ls [])) : ∀ (S : fy_S) (v1 : Int32) (v2 : Int32) (v3 : Int32) (v4 : Int32) (v5 : Int32) (z0 : Int32) (z1 : Int32) (H : Heap) (locs : List Loc) (ls : Array Slot), M_adds_68 k3 S v1 v2 v3 v4 v5 z0 z1 = some Sr → fy_W g M_Y S s H locs → lv_has ls 7 [(0, .ref (g.2.2.1 0)), (1, .int v1), (2, .int v2), (3, .int v3), (4, .int v4), (5, .int v5)] → W p l e (fy_rm 1) s m args below meth c H locs 0 0 (MQ below (fy_QV g M_Y Sr) args s 0 0 (fy_A g M_Y)) (F0 m 68 ls [.int z0, .int z1, .ref (g.2.2.1 6)]) := by
  obtain ⟨hx, hb, hr, hts, hown, hlk, hml, hK, hD, hE, hN⟩ := id C
  intro S v1 v2 v3 v4 v5 z0 z1 H locs ls h w  hl
  rw [M_adds_68] at h
  obtain ⟨g68, h⟩ := fy_gd_some h
  refine fy_iast C w M_a6 g68 dX10_adds_68 (fun H locs w => ?_)
  obtain ⟨S68, e68⟩ : ∃ z, z = fy_sI S 6 z1.toNatClampNeg z0 := ⟨_, rfl⟩
  have h := fy_bl_some e68 h
  rw [← e68] at w
  refine lv_aload_n hx hb dX10_adds_69 rfl (lv_at hl 0 rfl) ?_
  refine gfX10_22 C w dX10_adds_70 ?_
  refine lv_bipush (v := (114 : Int32)) hx hb dX10_adds_73 (by decide) ?_
  refine lv_iload_n hx hb dX10_adds_75 rfl (lv_at hl 3 rfl) ?_
  refine lv_iadd hx hb dX10_adds_76 ?_
  refine lv_dup2_11 hx hb dX10_adds_77 rfl rfl ?_
  obtain ⟨g78, h⟩ := fy_gd_some h
  refine fy_iald C w M_a5 g78 dX10_adds_78 ?_
  refine lv_iconst (v := (1 : Int32)) hx hb dX10_adds_79 (by decide) ?_
  refine lv_iadd hx hb dX10_adds_80 ?_
  obtain ⟨g81, h⟩ := fy_gd_some h
  refine fy_iast C w M_a5 g81 dX10_adds_81 (fun H locs w => ?_)
  obtain ⟨S81, e81⟩ : ∃ z, z = fy_sI S68 5 ((114 : Int32) + v3).toNatClampNeg ((S68.1 5 ((114 : Int32) + v3).toNatClampNeg) + (1 : Int32)) := ⟨_, rfl⟩
  have h := fy_bl_some e81 h
  rw [← e81] at w
  obtain ⟨x82, e82⟩ : ∃ z : Int32, z = v5 + (1 : Int32) := ⟨_, rfl⟩
  have h := fy_bl_some e82 h
  refine lv_iinc (k := 5) (v := x82) (lv' := [(5, .int x82), (0, .ref (g.2.2.1 0)), (1, .int v1), (2, .int v2), (3, .int v3), (4, .int v4)]) hx hb dX10_adds_82 hl rfl (by rw [e82]; rfl) (by decide) rfl (fun ls hl => ?_)
  refine lv_goto (tgt := 3) hx hb dX10_adds_85 (by decide) ?_
  exact hk3 _ _ _ _ _ _ _ _ _ h w (lv_sub hl [1, 2, 3, 4, 5, 0] rfl)

set_option maxHeartbeats 4000000 in
set_option maxRecDepth 100000 in
theorem t_M_adds_3 {p : Program} {l : Launch} {e : Env} {s : State} {m : MethodId} {args : Array Value} {below : List Frame} {meth : Method} {c : Code} {g : fy_G} (C : fy_C g M_Y p s m args meth c yX10_adds.cls cX10_adds 7 none) {Sr : fy_S}  : ∀ (fu : Nat) (S : fy_S) (v1 : Int32) (v2 : Int32) (v3 : Int32) (v4 : Int32) (v5 : Int32) (H : Heap) (locs : List Loc) (ls : Array Slot), M_adds_3 fu S v1 v2 v3 v4 v5 = some Sr → fy_W g M_Y S s H locs → lv_has ls 7 [(0, .ref (g.2.2.1 0)), (1, .int v1), (2, .int v2), (3, .int v3), (4, .int v4), (5, .int v5)] → W p l e (fy_rm 1) s m args below meth c H locs 0 0 (MQ below (fy_QV g M_Y Sr) args s 0 0 (fy_A g M_Y)) (F0 m 3 ls []) := by
  obtain ⟨hx, hb, hr, hts, hown, hlk, hml, hK, hD, hE, hN⟩ := id C
  intro fu
  induction fu with
  | zero => intro S v1 v2 v3 v4 v5 H locs ls h; cases h
  | succ fu ih =>
    intro S v1 v2 v3 v4 v5 H locs ls h w  hl
    rw [M_adds_3] at h
    refine lv_iload hx hb dX10_adds_3 (lv_at hl 5 rfl) ?_
    refine lv_aload_n hx hb dX10_adds_5 rfl (lv_at hl 0 rfl) ?_
    refine lv_iload_n hx hb dX10_adds_6 rfl (lv_at hl 1 rfl) ?_
    refine lv_iload_n hx hb dX10_adds_7 rfl (lv_at hl 2 rfl) ?_
    obtain ⟨r8, h8, h⟩ := fy_bd_some h
    refine fy_calI w (fy_runV (As := [.int v1, .int v2]) (rest := [.int v5]) C w (c_M_sizeOf l g  h8) M_o ksX10_196 rfl ⟨Nat.le_of_ble_eq_true rfl, Nat.le_of_ble_eq_true rfl⟩ rfl hl.1 rfl (Nat.le_of_ble_eq_true rfl) ⟨Nat.le_refl _, Nat.le_refl _⟩ dX10_adds_8) (fun H locs w => ?_)
    refine lv_icmp_ge (tgt := 88) hx hb dX10_adds_11 (by decide) (fun hc => ?_) (fun hc => ?_)
    · have h := fy_if_t h hc
      cases h
      exact fy_retV C w dX10_adds_88
    · have h := fy_if_f h hc
      refine lv_aload_n hx hb dX10_adds_14 rfl (lv_at hl 0 rfl) ?_
      refine gfX10_25 C w dX10_adds_15 ?_
      refine lv_aload_n hx hb dX10_adds_18 rfl (lv_at hl 0 rfl) ?_
      refine lv_iload_n hx hb dX10_adds_19 rfl (lv_at hl 1 rfl) ?_
      refine lv_iload_n hx hb dX10_adds_20 rfl (lv_at hl 2 rfl) ?_
      obtain ⟨r21, h21, h⟩ := fy_bd_some h
      refine fy_calI w (fy_runV (As := [.int v1, .int v2]) (rest := [.ref (g.2.2.1 6)]) C w (c_M_at l g  h21) M_o ksX10_119 rfl ⟨Nat.le_of_ble_eq_true rfl, Nat.le_of_ble_eq_true rfl⟩ rfl hl.1 rfl (Nat.le_of_ble_eq_true rfl) ⟨Nat.le_refl _, Nat.le_refl _⟩ dX10_adds_21) (fun H locs w => ?_)
      refine lv_iload hx hb dX10_adds_24 (lv_at hl 5 rfl) ?_
      refine lv_iadd hx hb dX10_adds_26 ?_
      obtain ⟨g27, h⟩ := fy_gd_some h
      refine fy_iald C w M_a6 g27 dX10_adds_27 ?_
      refine lv_topi (fun x28 e28 => ?_)
      have h := fy_bl_some e28 h
      refine lv_istore (lv' := [(6, .int x28), (0, .ref (g.2.2.1 0)), (1, .int v1), (2, .int v2), (3, .int v3), (4, .int v4), (5, .int v5)]) hx hb dX10_adds_28 hl (by decide) rfl (fun ls hl => ?_)
      refine lv_aload_n hx hb dX10_adds_30 rfl (lv_at hl 1 rfl) ?_
      refine gfX10_25 C w dX10_adds_31 ?_
      refine lv_aload_n hx hb dX10_adds_34 rfl (lv_at hl 1 rfl) ?_
      refine lv_bipush (v := (6 : Int32)) hx hb dX10_adds_35 (by decide) ?_
      refine lv_iload_n hx hb dX10_adds_37 rfl (lv_at hl 4 rfl) ?_
      obtain ⟨r38, h38, h⟩ := fy_bd_some h
      refine fy_calI w (fy_runV (As := [.int (6 : Int32), .int v3]) (rest := [.ref (g.2.2.1 6)]) C w (c_M_at l g  h38) M_o ksX10_119 rfl ⟨Nat.le_of_ble_eq_true rfl, Nat.le_of_ble_eq_true rfl⟩ rfl hl.1 rfl (Nat.le_of_ble_eq_true rfl) ⟨Nat.le_refl _, Nat.le_refl _⟩ dX10_adds_38) (fun H locs w => ?_)
      refine lv_aload_n hx hb dX10_adds_41 rfl (lv_at hl 1 rfl) ?_
      refine gfX10_22 C w dX10_adds_42 ?_
      refine lv_bipush (v := (114 : Int32)) hx hb dX10_adds_45 (by decide) ?_
      refine lv_iload_n hx hb dX10_adds_47 rfl (lv_at hl 4 rfl) ?_
      refine lv_iadd hx hb dX10_adds_48 ?_
      obtain ⟨g49, h⟩ := fy_gd_some h
      refine fy_iald C w M_a5 g49 dX10_adds_49 ?_
      refine lv_iadd hx hb dX10_adds_50 ?_
      refine lv_iload hx hb dX10_adds_51 (lv_at hl 0 rfl) ?_
      refine lv_bipush (v := (8 : Int32)) hx hb dX10_adds_53 (by decide) ?_
      refine lv_icmp_ge (tgt := 66) hx hb dX10_adds_55 (by decide) (fun hc => ?_) (fun hc => ?_)
      · have h := fy_if_t h hc
        refine lv_iload hx hb dX10_adds_66 (lv_at hl 0 rfl) ?_
        exact t_M_adds_68 C ih _ _ _ _ _ _ _ _ _ _ _ h w (lv_sub hl [1, 2, 3, 4, 5, 6] rfl)
      · have h := fy_if_f h hc
        refine lv_iload hx hb dX10_adds_58 (lv_at hl 0 rfl) ?_
        refine lv_iload hx hb dX10_adds_60 (lv_at hl 5 rfl) ?_
        refine lv_iadd hx hb dX10_adds_62 ?_
        refine lv_goto (tgt := 68) hx hb dX10_adds_63 (by decide) ?_
        exact t_M_adds_68 C ih _ _ _ _ _ _ _ _ _ _ _ h w (lv_sub hl [1, 2, 3, 4, 5, 6] rfl)

set_option maxHeartbeats 4000000 in
set_option maxRecDepth 100000 in
theorem t_M_adds {p : Program} {l : Launch} {e : Env} {s : State} {m : MethodId} {args : Array Value} {below : List Frame} {meth : Method} {c : Code} {g : fy_G} (C : fy_C g M_Y p s m args meth c yX10_adds.cls cX10_adds 7 none) {S : fy_S} {v1 : Int32} {v2 : Int32} {v3 : Int32} {v4 : Int32} {Sr : fy_S}   {H : Heap} {locs : List Loc} {ls : Array Slot} (h : M_adds S v1 v2 v3 v4 = some Sr) (w : fy_W g M_Y S s H locs) (hl : lv_has ls 7 [(0, .ref (g.2.2.1 0)), (1, .int v1), (2, .int v2), (3, .int v3), (4, .int v4)]) : W p l e (fy_rm 1) s m args below meth c H locs 0 0 (MQ below (fy_QV g M_Y Sr) args s 0 0 (fy_A g M_Y)) (F0 m 0 ls []) := by
  obtain ⟨hx, hb, hr, hts, hown, hlk, hml, hK, hD, hE, hN⟩ := id C
  rw [M_adds] at h
  refine lv_iconst (v := (0 : Int32)) hx hb dX10_adds_0 (by decide) ?_
  refine lv_istore (lv' := [(5, .int (0 : Int32)), (0, .ref (g.2.2.1 0)), (1, .int v1), (2, .int v2), (3, .int v3), (4, .int v4)]) hx hb dX10_adds_1 hl (by decide) rfl (fun ls hl => ?_)
  exact t_M_adds_3 C fy_fu _ _ _ _ _ _ _ _ _ h w (lv_sub hl [1, 2, 3, 4, 5, 0] rfl)

set_option maxHeartbeats 4000000 in
set_option maxRecDepth 100000 in
theorem c_M_adds (l : Launch) (g : fy_G) {S : fy_S} {v1 : Int32} {v2 : Int32} {v3 : Int32} {v4 : Int32} {Sr : fy_S}   (h : M_adds S v1 v2 v3 v4 = some Sr) : fy_M g M_Y l yX10_adds cX10_adds 7 none (fy_rm 1) [.ref (g.2.2.1 0), .int v1, .int v2, .int v3, .int v4] S (fy_QV g M_Y Sr) :=
  fy_entry (by decide +kernel) (Nat.le_of_ble_eq_true rfl) (fun p e s m args below meth c ls C w hl => t_M_adds C  h w hl)
def M_combine_263 (k248 : fy_S → Int32 → Int32 → Int32 → Int32 → Int32 → Option (fy_S × Int32)) : Nat → fy_S → Int32 → Int32 → Int32 → Int32 → Int32 → Int32 → Option (fy_S × Int32)
  | 0, _, _, _, _, _, _, _ => none
  | fu + 1, S, v1, v2, v3, v5, v6, v7 =>
    fy_gd (fy_ix v1 7) <|
    if (S.1 2 v1.toNatClampNeg) ≤ v7 then (
      fy_bl (v6 + (1 : Int32)) fun x350 =>
      k248 S v1 v2 v3 v5 x350)
    else (
      fy_bd (M_formulaOf S v6 v7) fun r284 =>
      fy_gd (fy_ix ((114 : Int32) + r284) 133) <|
      fy_bl (fy_sI S 5 ((114 : Int32) + r284).toNatClampNeg (0 : Int32)) fun S289 =>
      if v5 ≤ v6 then (
        fy_bd (M_formulaOf S289 (v6 - v5) v7) fun r329 =>
        fy_bd (M_formulaOf S289 v6 v7) fun r336 =>
        fy_bd (M_adds S289 v2 r329 r336 v5) fun S341 =>
        fy_bl (v7 + (1 : Int32)) fun x344 =>
        M_combine_263 k248 fu S341 v1 v2 v3 v5 v6 x344)
      else (
        fy_bd (M_formulaOf S289 v6 v7) fun r303 =>
        fy_bd (M_formulaOf S289 v6 v7) fun r310 =>
        fy_bd (M_adds S289 v1 r303 r310 (0 : Int32)) fun S314 =>
        fy_bl (v7 + (1 : Int32)) fun x344 =>
        M_combine_263 k248 fu S314 v1 v2 v3 v5 v6 x344))
def M_combine_248 : Nat → fy_S → Int32 → Int32 → Int32 → Int32 → Int32 → Option (fy_S × Int32)
  | 0, _, _, _, _, _, _ => none
  | fu + 1, S, v1, v2, v3, v5, v6 =>
    fy_gd (fy_ix (6 : Int32) 7) <|
    if (S.1 1 (6 : Int32).toNatClampNeg) ≤ v6 then (
      fy_bd (M_copies S (6 : Int32) v3) fun S360 =>
      fy_gd (fy_ix v3 7) <|
      some (S360, (S360.1 1 v3.toNatClampNeg)))
    else (
      M_combine_263 (fun S v1 v2 v3 v5 v6 => M_combine_248 fu S v1 v2 v3 v5 v6) fy_fu S v1 v2 v3 v5 v6 (0 : Int32))
def M_combine_233 (S : fy_S) (v1 : Int32) (v2 : Int32) (v3 : Int32) (v5 : Int32) (z0 : Int32) (z1 : Int32) : Option (fy_S × Int32) :=
  fy_gd (fy_ix z1 5320) <|
  fy_bl (fy_sI S 6 z1.toNatClampNeg z0) fun S233 =>
  fy_gd (fy_ix (114 : Int32) 133) <|
  fy_gd (fy_ix (114 : Int32) 133) <|
  fy_bl (fy_sI S233 5 (114 : Int32).toNatClampNeg ((S233.1 5 (114 : Int32).toNatClampNeg) + (1 : Int32))) fun S244 =>
  M_combine_248 fy_fu S244 v1 v2 v3 v5 (0 : Int32)
def M_combine_144 : Nat → fy_S → Int32 → Int32 → Int32 → Int32 → Int32 → Int32 → Option (fy_S × Int32)
  | 0, _, _, _, _, _, _, _ => none
  | fu + 1, S, v1, v2, v3, v4, v5, v6 =>
    if (3 : Int32) ≤ v6 then (
      fy_gd (fy_ix (114 : Int32) 133) <|
      fy_bl (fy_sI S 5 (114 : Int32).toNatClampNeg (0 : Int32)) fun S184 =>
      fy_bd (M_adds S184 v1 (0 : Int32) (0 : Int32) (0 : Int32)) fun S190 =>
      fy_bd (M_adds S190 v2 (0 : Int32) (0 : Int32) v5) fun S199 =>
      fy_bd (M_at S199 (6 : Int32) (0 : Int32)) fun r210 =>
      fy_gd (fy_ix (114 : Int32) 133) <|
      if v4 = 0 then (
        M_combine_233 S199 v1 v2 v3 v5 (11 : Int32) (r210 + (S199.1 5 (114 : Int32).toNatClampNeg)))
      else (
        M_combine_233 S199 v1 v2 v3 v5 (10 : Int32) (r210 + (S199.1 5 (114 : Int32).toNatClampNeg))))
    else (
      fy_gd (fy_ix (((3 : Int32) * v1) + v6) 21) <|
      fy_gd (fy_ix ((18 : Int32) + v6) 21) <|
      fy_bl (fy_sI S 4 ((18 : Int32) + v6).toNatClampNeg (S.1 4 (((3 : Int32) * v1) + v6).toNatClampNeg)) fun S170 =>
      fy_bl (v6 + (1 : Int32)) fun x171 =>
      M_combine_144 fu S170 v1 v2 v3 v4 v5 x171)
def M_combine (S : fy_S) (v1 : Int32) (v2 : Int32) (v3 : Int32) (v4 : Int32) : Option (fy_S × Int32) :=
  fy_bd (M_isSlot S v1) fun r1 =>
  if r1 = 0 then (
    some (S, (-2 : Int32)))
  else (
    fy_bd (M_isSlot S v2) fun r8 =>
    if r8 = 0 then (
      some (S, (-2 : Int32)))
    else (
      fy_bd (M_isSlot S v3) fun r15 =>
      if r15 = 0 then (
        some (S, (-2 : Int32)))
      else (
        fy_bd (M_isBetween S v4 (0 : Int32) (1 : Int32)) fun r25 =>
        if r25 = 0 then (
          some (S, (-2 : Int32)))
        else (
          fy_gd (fy_ix v1 7) <|
          fy_gd (fy_ix v2 7) <|
          if (S.1 2 v1.toNatClampNeg) = (S.1 2 v2.toNatClampNeg) then (
            fy_gd (fy_ix v1 7) <|
            fy_bl (S.1 1 v1.toNatClampNeg) fun x58 =>
            fy_gd (fy_ix v2 7) <|
            if (6 : Int32) < (x58 + (S.1 1 v2.toNatClampNeg)) then (
              some (S, (-3 : Int32)))
            else (
              fy_bd (M_sizeOf S v1 (0 : Int32)) fun r77 =>
              fy_bd (M_sizeOf S v2 (0 : Int32)) fun r83 =>
              if ((r77 + r83) + (1 : Int32)) ≤ (40 : Int32) then (
                fy_gd (fy_ix v2 7) <|
                fy_gd (fy_ix v1 7) <|
                fy_bd (M_empties S (6 : Int32) (x58 + (S.1 1 v2.toNatClampNeg)) (S.1 2 v1.toNatClampNeg)) fun S115 =>
                fy_gd (fy_ix v1 7) <|
                fy_gd (fy_ix v2 7) <|
                fy_gd (fy_ix (6 : Int32) 7) <|
                fy_bl (fy_sI S115 3 (6 : Int32).toNatClampNeg ((S115.1 3 v1.toNatClampNeg) ||| ((S115.1 3 v2.toNatClampNeg) <<< (x58 &&& 31)))) fun S140 =>
                M_combine_144 fy_fu S140 v1 v2 v3 v4 x58 (0 : Int32))
              else (
                some (S, (-3 : Int32)))))
          else (
            some (S, (-4 : Int32)))))))
set_option maxHeartbeats 4000000 in
set_option maxRecDepth 100000 in
theorem t_M_combine_263 {p : Program} {l : Launch} {e : Env} {s : State} {m : MethodId} {args : Array Value} {below : List Frame} {meth : Method} {c : Code} {g : fy_G} (C : fy_C g M_Y p s m args meth c yX10_combine.cls cX10_combine 8 (some .int)) {Sr : fy_S} {rr : Int32} {k248 : fy_S → Int32 → Int32 → Int32 → Int32 → Int32 → Option (fy_S × Int32)} (hk248 : ∀ (S : fy_S) (v1 : Int32) (v2 : Int32) (v3 : Int32) (v5 : Int32) (v6 : Int32) (H : Heap) (locs : List Loc) (ls : Array Slot), k248 S v1 v2 v3 v5 v6 = some (Sr, rr) → fy_W g M_Y S s H locs → lv_has ls 8 [(0, .ref (g.2.2.1 0)), (1, .int v1), (2, .int v2), (3, .int v3), (5, .int v5), (6, .int v6)] → W p l e (fy_rm 2) s m args below meth c H locs 0 0 (MQ below (fy_QI g M_Y rr Sr) args s 0 0 (fy_A g M_Y)) (F0 m 248 ls [])) : ∀ (fu : Nat) (S : fy_S) (v1 : Int32) (v2 : Int32) (v3 : Int32) (v5 : Int32) (v6 : Int32) (v7 : Int32) (H : Heap) (locs : List Loc) (ls : Array Slot), M_combine_263 k248 fu S v1 v2 v3 v5 v6 v7 = some (Sr, rr) → fy_W g M_Y S s H locs → lv_has ls 8 [(0, .ref (g.2.2.1 0)), (1, .int v1), (2, .int v2), (3, .int v3), (5, .int v5), (6, .int v6), (7, .int v7)] → W p l e (fy_rm 2) s m args below meth c H locs 0 0 (MQ below (fy_QI g M_Y rr Sr) args s 0 0 (fy_A g M_Y)) (F0 m 263 ls []) := by
  obtain ⟨hx, hb, hr, hts, hown, hlk, hml, hK, hD, hE, hN⟩ := id C
  intro fu
  induction fu with
  | zero => intro S v1 v2 v3 v5 v6 v7 H locs ls h; cases h
  | succ fu ih =>
    intro S v1 v2 v3 v5 v6 v7 H locs ls h w  hl
    rw [M_combine_263] at h
    refine lv_iload hx hb dX10_combine_263 (lv_at hl 6 rfl) ?_
    refine lv_aload_n hx hb dX10_combine_265 rfl (lv_at hl 0 rfl) ?_
    refine gfX10_13 C w dX10_combine_266 ?_
    refine lv_iload_n hx hb dX10_combine_269 rfl (lv_at hl 1 rfl) ?_
    obtain ⟨g270, h⟩ := fy_gd_some h
    refine fy_iald C w M_a2 g270 dX10_combine_270 ?_
    refine lv_icmp_ge (tgt := 350) hx hb dX10_combine_271 (by decide) (fun hc => ?_) (fun hc => ?_)
    · have h := fy_if_t h hc
      obtain ⟨x350, e350⟩ : ∃ z : Int32, z = v6 + (1 : Int32) := ⟨_, rfl⟩
      have h := fy_bl_some e350 h
      refine lv_iinc (k := 5) (v := x350) (lv' := [(6, .int x350), (0, .ref (g.2.2.1 0)), (1, .int v1), (2, .int v2), (3, .int v3), (5, .int v5), (7, .int v7)]) hx hb dX10_combine_350 hl rfl (by rw [e350]; rfl) (by decide) rfl (fun ls hl => ?_)
      refine lv_goto (tgt := 248) hx hb dX10_combine_353 (by decide) ?_
      exact hk248 _ _ _ _ _ _ _ _ _ h w (lv_sub hl [1, 2, 3, 4, 5, 0] rfl)
    · have h := fy_if_f h hc
      refine lv_aload_n hx hb dX10_combine_274 rfl (lv_at hl 0 rfl) ?_
      refine gfX10_22 C w dX10_combine_275 ?_
      refine lv_bipush (v := (114 : Int32)) hx hb dX10_combine_278 (by decide) ?_
      refine lv_iload hx hb dX10_combine_280 (lv_at hl 5 rfl) ?_
      refine lv_iload hx hb dX10_combine_282 (lv_at hl 6 rfl) ?_
      obtain ⟨r284, h284, h⟩ := fy_bd_some h
      refine fy_calI w (fy_runS (As := [.int v6, .int v7]) (rest := [.int (114 : Int32), .ref (g.2.2.1 5)]) C w (c_M_formulaOf l g  h284) ksX10_176 ⟨Nat.le_of_ble_eq_true rfl, Nat.le_of_ble_eq_true rfl⟩ rfl hl.1 rfl (Nat.le_of_ble_eq_true rfl) ⟨Nat.le_refl _, Nat.le_refl _⟩ dX10_combine_284) (fun H locs w => ?_)
      refine lv_iadd hx hb dX10_combine_287 ?_
      refine lv_iconst (v := (0 : Int32)) hx hb dX10_combine_288 (by decide) ?_
      obtain ⟨g289, h⟩ := fy_gd_some h
      refine fy_iast C w M_a5 g289 dX10_combine_289 (fun H locs w => ?_)
      obtain ⟨S289, e289⟩ : ∃ z, z = fy_sI S 5 ((114 : Int32) + r284).toNatClampNeg (0 : Int32) := ⟨_, rfl⟩
      have h := fy_bl_some e289 h
      rw [← e289] at w
      refine lv_iload hx hb dX10_combine_290 (lv_at hl 5 rfl) ?_
      refine lv_iload hx hb dX10_combine_292 (lv_at hl 4 rfl) ?_
      refine lv_icmp_ge (tgt := 320) hx hb dX10_combine_294 (by decide) (fun hc => ?_) (fun hc => ?_)
      · have h := fy_if_t h hc
        refine lv_aload_n hx hb dX10_combine_320 rfl (lv_at hl 0 rfl) ?_
        refine lv_iload_n hx hb dX10_combine_321 rfl (lv_at hl 2 rfl) ?_
        refine lv_iload hx hb dX10_combine_322 (lv_at hl 5 rfl) ?_
        refine lv_iload hx hb dX10_combine_324 (lv_at hl 4 rfl) ?_
        refine lv_isub hx hb dX10_combine_326 ?_
        refine lv_iload hx hb dX10_combine_327 (lv_at hl 6 rfl) ?_
        obtain ⟨r329, h329, h⟩ := fy_bd_some h
        refine fy_calI w (fy_runS (As := [.int (v6 - v5), .int v7]) (rest := [.int v2, .ref (g.2.2.1 0)]) C w (c_M_formulaOf l g  h329) ksX10_176 ⟨Nat.le_of_ble_eq_true rfl, Nat.le_of_ble_eq_true rfl⟩ rfl hl.1 rfl (Nat.le_of_ble_eq_true rfl) ⟨Nat.le_refl _, Nat.le_refl _⟩ dX10_combine_329) (fun H locs w => ?_)
        refine lv_iload hx hb dX10_combine_332 (lv_at hl 5 rfl) ?_
        refine lv_iload hx hb dX10_combine_334 (lv_at hl 6 rfl) ?_
        obtain ⟨r336, h336, h⟩ := fy_bd_some h
        refine fy_calI w (fy_runS (As := [.int v6, .int v7]) (rest := [.int r329, .int v2, .ref (g.2.2.1 0)]) C w (c_M_formulaOf l g  h336) ksX10_176 ⟨Nat.le_of_ble_eq_true rfl, Nat.le_of_ble_eq_true rfl⟩ rfl hl.1 rfl (Nat.le_of_ble_eq_true rfl) ⟨Nat.le_refl _, Nat.le_refl _⟩ dX10_combine_336) (fun H locs w => ?_)
        refine lv_iload hx hb dX10_combine_339 (lv_at hl 4 rfl) ?_
        obtain ⟨S341, h341, h⟩ := fy_bd_some h
        refine fy_calV w (fy_runV (As := [.int v2, .int r329, .int r336, .int v5]) (rest := []) C w (c_M_adds l g  h341) M_o ksX10_319 rfl ⟨Nat.le_of_ble_eq_true rfl, Nat.le_of_ble_eq_true rfl⟩ rfl hl.1 rfl (Nat.le_of_ble_eq_true rfl) ⟨Nat.le_refl _, Nat.le_refl _⟩ dX10_combine_341) (fun H locs w => ?_)
        obtain ⟨x344, e344⟩ : ∃ z : Int32, z = v7 + (1 : Int32) := ⟨_, rfl⟩
        have h := fy_bl_some e344 h
        refine lv_iinc (k := 6) (v := x344) (lv' := [(7, .int x344), (0, .ref (g.2.2.1 0)), (1, .int v1), (2, .int v2), (3, .int v3), (5, .int v5), (6, .int v6)]) hx hb dX10_combine_344 hl rfl (by rw [e344]; rfl) (by decide) rfl (fun ls hl => ?_)
        refine lv_goto (tgt := 263) hx hb dX10_combine_347 (by decide) ?_
        exact ih _ _ _ _ _ _ _ _ _ _ h w (lv_sub hl [1, 2, 3, 4, 5, 6, 0] rfl)
      · have h := fy_if_f h hc
        refine lv_aload_n hx hb dX10_combine_297 rfl (lv_at hl 0 rfl) ?_
        refine lv_iload_n hx hb dX10_combine_298 rfl (lv_at hl 1 rfl) ?_
        refine lv_iload hx hb dX10_combine_299 (lv_at hl 5 rfl) ?_
        refine lv_iload hx hb dX10_combine_301 (lv_at hl 6 rfl) ?_
        obtain ⟨r303, h303, h⟩ := fy_bd_some h
        refine fy_calI w (fy_runS (As := [.int v6, .int v7]) (rest := [.int v1, .ref (g.2.2.1 0)]) C w (c_M_formulaOf l g  h303) ksX10_176 ⟨Nat.le_of_ble_eq_true rfl, Nat.le_of_ble_eq_true rfl⟩ rfl hl.1 rfl (Nat.le_of_ble_eq_true rfl) ⟨Nat.le_refl _, Nat.le_refl _⟩ dX10_combine_303) (fun H locs w => ?_)
        refine lv_iload hx hb dX10_combine_306 (lv_at hl 5 rfl) ?_
        refine lv_iload hx hb dX10_combine_308 (lv_at hl 6 rfl) ?_
        obtain ⟨r310, h310, h⟩ := fy_bd_some h
        refine fy_calI w (fy_runS (As := [.int v6, .int v7]) (rest := [.int r303, .int v1, .ref (g.2.2.1 0)]) C w (c_M_formulaOf l g  h310) ksX10_176 ⟨Nat.le_of_ble_eq_true rfl, Nat.le_of_ble_eq_true rfl⟩ rfl hl.1 rfl (Nat.le_of_ble_eq_true rfl) ⟨Nat.le_refl _, Nat.le_refl _⟩ dX10_combine_310) (fun H locs w => ?_)
        refine lv_iconst (v := (0 : Int32)) hx hb dX10_combine_313 (by decide) ?_
        obtain ⟨S314, h314, h⟩ := fy_bd_some h
        refine fy_calV w (fy_runV (As := [.int v1, .int r303, .int r310, .int (0 : Int32)]) (rest := []) C w (c_M_adds l g  h314) M_o ksX10_319 rfl ⟨Nat.le_of_ble_eq_true rfl, Nat.le_of_ble_eq_true rfl⟩ rfl hl.1 rfl (Nat.le_of_ble_eq_true rfl) ⟨Nat.le_refl _, Nat.le_refl _⟩ dX10_combine_314) (fun H locs w => ?_)
        refine lv_goto (tgt := 344) hx hb dX10_combine_317 (by decide) ?_
        obtain ⟨x344, e344⟩ : ∃ z : Int32, z = v7 + (1 : Int32) := ⟨_, rfl⟩
        have h := fy_bl_some e344 h
        refine lv_iinc (k := 6) (v := x344) (lv' := [(7, .int x344), (0, .ref (g.2.2.1 0)), (1, .int v1), (2, .int v2), (3, .int v3), (5, .int v5), (6, .int v6)]) hx hb dX10_combine_344 hl rfl (by rw [e344]; rfl) (by decide) rfl (fun ls hl => ?_)
        refine lv_goto (tgt := 263) hx hb dX10_combine_347 (by decide) ?_
        exact ih _ _ _ _ _ _ _ _ _ _ h w (lv_sub hl [1, 2, 3, 4, 5, 6, 0] rfl)

set_option maxHeartbeats 4000000 in
set_option maxRecDepth 100000 in
theorem t_M_combine_248 {p : Program} {l : Launch} {e : Env} {s : State} {m : MethodId} {args : Array Value} {below : List Frame} {meth : Method} {c : Code} {g : fy_G} (C : fy_C g M_Y p s m args meth c yX10_combine.cls cX10_combine 8 (some .int)) {Sr : fy_S} {rr : Int32} : ∀ (fu : Nat) (S : fy_S) (v1 : Int32) (v2 : Int32) (v3 : Int32) (v5 : Int32) (v6 : Int32) (H : Heap) (locs : List Loc) (ls : Array Slot), M_combine_248 fu S v1 v2 v3 v5 v6 = some (Sr, rr) → fy_W g M_Y S s H locs → lv_has ls 8 [(0, .ref (g.2.2.1 0)), (1, .int v1), (2, .int v2), (3, .int v3), (5, .int v5), (6, .int v6)] → W p l e (fy_rm 2) s m args below meth c H locs 0 0 (MQ below (fy_QI g M_Y rr Sr) args s 0 0 (fy_A g M_Y)) (F0 m 248 ls []) := by
  obtain ⟨hx, hb, hr, hts, hown, hlk, hml, hK, hD, hE, hN⟩ := id C
  intro fu
  induction fu with
  | zero => intro S v1 v2 v3 v5 v6 H locs ls h; cases h
  | succ fu ih =>
    intro S v1 v2 v3 v5 v6 H locs ls h w  hl
    rw [M_combine_248] at h
    refine lv_iload hx hb dX10_combine_248 (lv_at hl 5 rfl) ?_
    refine lv_aload_n hx hb dX10_combine_250 rfl (lv_at hl 0 rfl) ?_
    refine gfX10_7 C w dX10_combine_251 ?_
    refine lv_bipush (v := (6 : Int32)) hx hb dX10_combine_254 (by decide) ?_
    obtain ⟨g256, h⟩ := fy_gd_some h
    refine fy_iald C w M_a1 g256 dX10_combine_256 ?_
    refine lv_icmp_ge (tgt := 356) hx hb dX10_combine_257 (by decide) (fun hc => ?_) (fun hc => ?_)
    · have h := fy_if_t h hc
      refine lv_aload_n hx hb dX10_combine_356 rfl (lv_at hl 0 rfl) ?_
      refine lv_bipush (v := (6 : Int32)) hx hb dX10_combine_357 (by decide) ?_
      refine lv_iload_n hx hb dX10_combine_359 rfl (lv_at hl 3 rfl) ?_
      obtain ⟨S360, h360, h⟩ := fy_bd_some h
      refine fy_calV w (fy_runV (As := [.int (6 : Int32), .int v3]) (rest := []) C w (c_M_copies l g  h360) M_o ksX10_313 rfl ⟨Nat.le_of_ble_eq_true rfl, Nat.le_of_ble_eq_true rfl⟩ rfl hl.1 rfl (Nat.le_of_ble_eq_true rfl) ⟨Nat.le_refl _, Nat.le_refl _⟩ dX10_combine_360) (fun H locs w => ?_)
      refine lv_aload_n hx hb dX10_combine_363 rfl (lv_at hl 0 rfl) ?_
      refine gfX10_7 C w dX10_combine_364 ?_
      refine lv_iload_n hx hb dX10_combine_367 rfl (lv_at hl 3 rfl) ?_
      obtain ⟨g368, h⟩ := fy_gd_some h
      refine fy_iald C w M_a1 g368 dX10_combine_368 ?_
      cases h
      exact fy_retI C w dX10_combine_369
    · have h := fy_if_f h hc
      refine lv_iconst (v := (0 : Int32)) hx hb dX10_combine_260 (by decide) ?_
      refine lv_istore (lv' := [(7, .int (0 : Int32)), (0, .ref (g.2.2.1 0)), (1, .int v1), (2, .int v2), (3, .int v3), (5, .int v5), (6, .int v6)]) hx hb dX10_combine_261 hl (by decide) rfl (fun ls hl => ?_)
      exact t_M_combine_263 C ih fy_fu _ _ _ _ _ _ _ _ _ _ h w (lv_sub hl [1, 2, 3, 4, 5, 6, 0] rfl)

set_option maxHeartbeats 4000000 in
set_option maxRecDepth 100000 in
theorem t_M_combine_233 {p : Program} {l : Launch} {e : Env} {s : State} {m : MethodId} {args : Array Value} {below : List Frame} {meth : Method} {c : Code} {g : fy_G} (C : fy_C g M_Y p s m args meth c yX10_combine.cls cX10_combine 8 (some .int)) {Sr : fy_S} {rr : Int32} : ∀ (S : fy_S) (v1 : Int32) (v2 : Int32) (v3 : Int32) (v5 : Int32) (z0 : Int32) (z1 : Int32) (H : Heap) (locs : List Loc) (ls : Array Slot), M_combine_233 S v1 v2 v3 v5 z0 z1 = some (Sr, rr) → fy_W g M_Y S s H locs → lv_has ls 8 [(0, .ref (g.2.2.1 0)), (1, .int v1), (2, .int v2), (3, .int v3), (5, .int v5)] → W p l e (fy_rm 2) s m args below meth c H locs 0 0 (MQ below (fy_QI g M_Y rr Sr) args s 0 0 (fy_A g M_Y)) (F0 m 233 ls [.int z0, .int z1, .ref (g.2.2.1 6)]) := by
  obtain ⟨hx, hb, hr, hts, hown, hlk, hml, hK, hD, hE, hN⟩ := id C
  intro S v1 v2 v3 v5 z0 z1 H locs ls h w  hl
  rw [M_combine_233] at h
  obtain ⟨g233, h⟩ := fy_gd_some h
  refine fy_iast C w M_a6 g233 dX10_combine_233 (fun H locs w => ?_)
  obtain ⟨S233, e233⟩ : ∃ z, z = fy_sI S 6 z1.toNatClampNeg z0 := ⟨_, rfl⟩
  have h := fy_bl_some e233 h
  rw [← e233] at w
  refine lv_aload_n hx hb dX10_combine_234 rfl (lv_at hl 0 rfl) ?_
  refine gfX10_22 C w dX10_combine_235 ?_
  refine lv_bipush (v := (114 : Int32)) hx hb dX10_combine_238 (by decide) ?_
  refine lv_dup2_11 hx hb dX10_combine_240 rfl rfl ?_
  obtain ⟨g241, h⟩ := fy_gd_some h
  refine fy_iald C w M_a5 g241 dX10_combine_241 ?_
  refine lv_iconst (v := (1 : Int32)) hx hb dX10_combine_242 (by decide) ?_
  refine lv_iadd hx hb dX10_combine_243 ?_
  obtain ⟨g244, h⟩ := fy_gd_some h
  refine fy_iast C w M_a5 g244 dX10_combine_244 (fun H locs w => ?_)
  obtain ⟨S244, e244⟩ : ∃ z, z = fy_sI S233 5 (114 : Int32).toNatClampNeg ((S233.1 5 (114 : Int32).toNatClampNeg) + (1 : Int32)) := ⟨_, rfl⟩
  have h := fy_bl_some e244 h
  rw [← e244] at w
  refine lv_iconst (v := (0 : Int32)) hx hb dX10_combine_245 (by decide) ?_
  refine lv_istore (lv' := [(6, .int (0 : Int32)), (0, .ref (g.2.2.1 0)), (1, .int v1), (2, .int v2), (3, .int v3), (5, .int v5)]) hx hb dX10_combine_246 hl (by decide) rfl (fun ls hl => ?_)
  exact t_M_combine_248 C fy_fu _ _ _ _ _ _ _ _ _ h w (lv_sub hl [1, 2, 3, 4, 5, 0] rfl)

set_option maxHeartbeats 4000000 in
set_option maxRecDepth 100000 in
theorem t_M_combine_144 {p : Program} {l : Launch} {e : Env} {s : State} {m : MethodId} {args : Array Value} {below : List Frame} {meth : Method} {c : Code} {g : fy_G} (C : fy_C g M_Y p s m args meth c yX10_combine.cls cX10_combine 8 (some .int)) {Sr : fy_S} {rr : Int32} : ∀ (fu : Nat) (S : fy_S) (v1 : Int32) (v2 : Int32) (v3 : Int32) (v4 : Int32) (v5 : Int32) (v6 : Int32) (H : Heap) (locs : List Loc) (ls : Array Slot), M_combine_144 fu S v1 v2 v3 v4 v5 v6 = some (Sr, rr) → fy_W g M_Y S s H locs → lv_has ls 8 [(0, .ref (g.2.2.1 0)), (1, .int v1), (2, .int v2), (3, .int v3), (4, .int v4), (5, .int v5), (6, .int v6)] → W p l e (fy_rm 2) s m args below meth c H locs 0 0 (MQ below (fy_QI g M_Y rr Sr) args s 0 0 (fy_A g M_Y)) (F0 m 144 ls []) := by
  obtain ⟨hx, hb, hr, hts, hown, hlk, hml, hK, hD, hE, hN⟩ := id C
  intro fu
  induction fu with
  | zero => intro S v1 v2 v3 v4 v5 v6 H locs ls h; cases h
  | succ fu ih =>
    intro S v1 v2 v3 v4 v5 v6 H locs ls h w  hl
    rw [M_combine_144] at h
    refine lv_iload hx hb dX10_combine_144 (lv_at hl 6 rfl) ?_
    refine lv_iconst (v := (3 : Int32)) hx hb dX10_combine_146 (by decide) ?_
    refine lv_icmp_ge (tgt := 177) hx hb dX10_combine_147 (by decide) (fun hc => ?_) (fun hc => ?_)
    · have h := fy_if_t h hc
      refine lv_aload_n hx hb dX10_combine_177 rfl (lv_at hl 0 rfl) ?_
      refine gfX10_22 C w dX10_combine_178 ?_
      refine lv_bipush (v := (114 : Int32)) hx hb dX10_combine_181 (by decide) ?_
      refine lv_iconst (v := (0 : Int32)) hx hb dX10_combine_183 (by decide) ?_
      obtain ⟨g184, h⟩ := fy_gd_some h
      refine fy_iast C w M_a5 g184 dX10_combine_184 (fun H locs w => ?_)
      obtain ⟨S184, e184⟩ : ∃ z, z = fy_sI S 5 (114 : Int32).toNatClampNeg (0 : Int32) := ⟨_, rfl⟩
      have h := fy_bl_some e184 h
      rw [← e184] at w
      refine lv_aload_n hx hb dX10_combine_185 rfl (lv_at hl 0 rfl) ?_
      refine lv_iload_n hx hb dX10_combine_186 rfl (lv_at hl 1 rfl) ?_
      refine lv_iconst (v := (0 : Int32)) hx hb dX10_combine_187 (by decide) ?_
      refine lv_iconst (v := (0 : Int32)) hx hb dX10_combine_188 (by decide) ?_
      refine lv_iconst (v := (0 : Int32)) hx hb dX10_combine_189 (by decide) ?_
      obtain ⟨S190, h190, h⟩ := fy_bd_some h
      refine fy_calV w (fy_runV (As := [.int v1, .int (0 : Int32), .int (0 : Int32), .int (0 : Int32)]) (rest := []) C w (c_M_adds l g  h190) M_o ksX10_319 rfl ⟨Nat.le_of_ble_eq_true rfl, Nat.le_of_ble_eq_true rfl⟩ rfl hl.1 rfl (Nat.le_of_ble_eq_true rfl) ⟨Nat.le_refl _, Nat.le_refl _⟩ dX10_combine_190) (fun H locs w => ?_)
      refine lv_aload_n hx hb dX10_combine_193 rfl (lv_at hl 0 rfl) ?_
      refine lv_iload_n hx hb dX10_combine_194 rfl (lv_at hl 2 rfl) ?_
      refine lv_iconst (v := (0 : Int32)) hx hb dX10_combine_195 (by decide) ?_
      refine lv_iconst (v := (0 : Int32)) hx hb dX10_combine_196 (by decide) ?_
      refine lv_iload hx hb dX10_combine_197 (lv_at hl 5 rfl) ?_
      obtain ⟨S199, h199, h⟩ := fy_bd_some h
      refine fy_calV w (fy_runV (As := [.int v2, .int (0 : Int32), .int (0 : Int32), .int v5]) (rest := []) C w (c_M_adds l g  h199) M_o ksX10_319 rfl ⟨Nat.le_of_ble_eq_true rfl, Nat.le_of_ble_eq_true rfl⟩ rfl hl.1 rfl (Nat.le_of_ble_eq_true rfl) ⟨Nat.le_refl _, Nat.le_refl _⟩ dX10_combine_199) (fun H locs w => ?_)
      refine lv_aload_n hx hb dX10_combine_202 rfl (lv_at hl 0 rfl) ?_
      refine gfX10_25 C w dX10_combine_203 ?_
      refine lv_aload_n hx hb dX10_combine_206 rfl (lv_at hl 0 rfl) ?_
      refine lv_bipush (v := (6 : Int32)) hx hb dX10_combine_207 (by decide) ?_
      refine lv_iconst (v := (0 : Int32)) hx hb dX10_combine_209 (by decide) ?_
      obtain ⟨r210, h210, h⟩ := fy_bd_some h
      refine fy_calI w (fy_runV (As := [.int (6 : Int32), .int (0 : Int32)]) (rest := [.ref (g.2.2.1 6)]) C w (c_M_at l g  h210) M_o ksX10_119 rfl ⟨Nat.le_of_ble_eq_true rfl, Nat.le_of_ble_eq_true rfl⟩ rfl hl.1 rfl (Nat.le_of_ble_eq_true rfl) ⟨Nat.le_refl _, Nat.le_refl _⟩ dX10_combine_210) (fun H locs w => ?_)
      refine lv_aload_n hx hb dX10_combine_213 rfl (lv_at hl 0 rfl) ?_
      refine gfX10_22 C w dX10_combine_214 ?_
      refine lv_bipush (v := (114 : Int32)) hx hb dX10_combine_217 (by decide) ?_
      obtain ⟨g219, h⟩ := fy_gd_some h
      refine fy_iald C w M_a5 g219 dX10_combine_219 ?_
      refine lv_iadd hx hb dX10_combine_220 ?_
      refine lv_iload hx hb dX10_combine_221 (lv_at hl 4 rfl) ?_
      refine lv_if_ne (tgt := 231) hx hb dX10_combine_223 (by decide) (fun hc => ?_) (fun hc => ?_)
      · have h := fy_if_f h hc
        refine lv_bipush (v := (10 : Int32)) hx hb dX10_combine_231 (by decide) ?_
        exact t_M_combine_233 C _ _ _ _ _ _ _ _ _ _ h w (lv_sub hl [0, 1, 2, 3, 5] rfl)
      · have h := fy_if_t h hc
        refine lv_bipush (v := (11 : Int32)) hx hb dX10_combine_226 (by decide) ?_
        refine lv_goto (tgt := 233) hx hb dX10_combine_228 (by decide) ?_
        exact t_M_combine_233 C _ _ _ _ _ _ _ _ _ _ h w (lv_sub hl [0, 1, 2, 3, 5] rfl)
    · have h := fy_if_f h hc
      refine lv_aload_n hx hb dX10_combine_150 rfl (lv_at hl 0 rfl) ?_
      refine gfX10_19 C w dX10_combine_151 ?_
      refine lv_bipush (v := (18 : Int32)) hx hb dX10_combine_154 (by decide) ?_
      refine lv_iload hx hb dX10_combine_156 (lv_at hl 6 rfl) ?_
      refine lv_iadd hx hb dX10_combine_158 ?_
      refine lv_aload_n hx hb dX10_combine_159 rfl (lv_at hl 0 rfl) ?_
      refine gfX10_19 C w dX10_combine_160 ?_
      refine lv_iconst (v := (3 : Int32)) hx hb dX10_combine_163 (by decide) ?_
      refine lv_iload_n hx hb dX10_combine_164 rfl (lv_at hl 1 rfl) ?_
      refine lv_imul hx hb dX10_combine_165 ?_
      refine lv_iload hx hb dX10_combine_166 (lv_at hl 6 rfl) ?_
      refine lv_iadd hx hb dX10_combine_168 ?_
      obtain ⟨g169, h⟩ := fy_gd_some h
      refine fy_iald C w M_a4 g169 dX10_combine_169 ?_
      obtain ⟨g170, h⟩ := fy_gd_some h
      refine fy_iast C w M_a4 g170 dX10_combine_170 (fun H locs w => ?_)
      obtain ⟨S170, e170⟩ : ∃ z, z = fy_sI S 4 ((18 : Int32) + v6).toNatClampNeg (S.1 4 (((3 : Int32) * v1) + v6).toNatClampNeg) := ⟨_, rfl⟩
      have h := fy_bl_some e170 h
      rw [← e170] at w
      obtain ⟨x171, e171⟩ : ∃ z : Int32, z = v6 + (1 : Int32) := ⟨_, rfl⟩
      have h := fy_bl_some e171 h
      refine lv_iinc (k := 6) (v := x171) (lv' := [(6, .int x171), (0, .ref (g.2.2.1 0)), (1, .int v1), (2, .int v2), (3, .int v3), (4, .int v4), (5, .int v5)]) hx hb dX10_combine_171 hl rfl (by rw [e171]; rfl) (by decide) rfl (fun ls hl => ?_)
      refine lv_goto (tgt := 144) hx hb dX10_combine_174 (by decide) ?_
      exact ih _ _ _ _ _ _ _ _ _ _ h w (lv_sub hl [1, 2, 3, 4, 5, 6, 0] rfl)

set_option maxHeartbeats 4000000 in
set_option maxRecDepth 100000 in
theorem t_M_combine {p : Program} {l : Launch} {e : Env} {s : State} {m : MethodId} {args : Array Value} {below : List Frame} {meth : Method} {c : Code} {g : fy_G} (C : fy_C g M_Y p s m args meth c yX10_combine.cls cX10_combine 8 (some .int)) {S : fy_S} {v1 : Int32} {v2 : Int32} {v3 : Int32} {v4 : Int32} {Sr : fy_S} {rr : Int32}  {H : Heap} {locs : List Loc} {ls : Array Slot} (h : M_combine S v1 v2 v3 v4 = some (Sr, rr)) (w : fy_W g M_Y S s H locs) (hl : lv_has ls 8 [(0, .ref (g.2.2.1 0)), (1, .int v1), (2, .int v2), (3, .int v3), (4, .int v4)]) : W p l e (fy_rm 2) s m args below meth c H locs 0 0 (MQ below (fy_QI g M_Y rr Sr) args s 0 0 (fy_A g M_Y)) (F0 m 0 ls []) := by
  obtain ⟨hx, hb, hr, hts, hown, hlk, hml, hK, hD, hE, hN⟩ := id C
  rw [M_combine] at h
  refine lv_iload_n hx hb dX10_combine_0 rfl (lv_at hl 1 rfl) ?_
  obtain ⟨r1, h1, h⟩ := fy_bd_some h
  refine fy_calI w (fy_runS (As := [.int v1]) (rest := []) C w (c_M_isSlot l g  h1) ksX10_123 ⟨Nat.le_of_ble_eq_true rfl, Nat.le_of_ble_eq_true rfl⟩ rfl hl.1 rfl (Nat.le_of_ble_eq_true rfl) ⟨Nat.le_refl _, Nat.le_refl _⟩ dX10_combine_1) (fun H locs w => ?_)
  refine lv_if_eq (tgt := 31) hx hb dX10_combine_4 (by decide) (fun hc => ?_) (fun hc => ?_)
  · have h := fy_if_t h hc
    refine lv_bipush (v := (-2 : Int32)) hx hb dX10_combine_31 (by decide) ?_
    cases h
    exact fy_retI C w dX10_combine_33
  · have h := fy_if_f h hc
    refine lv_iload_n hx hb dX10_combine_7 rfl (lv_at hl 2 rfl) ?_
    obtain ⟨r8, h8, h⟩ := fy_bd_some h
    refine fy_calI w (fy_runS (As := [.int v2]) (rest := []) C w (c_M_isSlot l g  h8) ksX10_123 ⟨Nat.le_of_ble_eq_true rfl, Nat.le_of_ble_eq_true rfl⟩ rfl hl.1 rfl (Nat.le_of_ble_eq_true rfl) ⟨Nat.le_refl _, Nat.le_refl _⟩ dX10_combine_8) (fun H locs w => ?_)
    refine lv_if_eq (tgt := 31) hx hb dX10_combine_11 (by decide) (fun hc => ?_) (fun hc => ?_)
    · have h := fy_if_t h hc
      refine lv_bipush (v := (-2 : Int32)) hx hb dX10_combine_31 (by decide) ?_
      cases h
      exact fy_retI C w dX10_combine_33
    · have h := fy_if_f h hc
      refine lv_iload_n hx hb dX10_combine_14 rfl (lv_at hl 3 rfl) ?_
      obtain ⟨r15, h15, h⟩ := fy_bd_some h
      refine fy_calI w (fy_runS (As := [.int v3]) (rest := []) C w (c_M_isSlot l g  h15) ksX10_123 ⟨Nat.le_of_ble_eq_true rfl, Nat.le_of_ble_eq_true rfl⟩ rfl hl.1 rfl (Nat.le_of_ble_eq_true rfl) ⟨Nat.le_refl _, Nat.le_refl _⟩ dX10_combine_15) (fun H locs w => ?_)
      refine lv_if_eq (tgt := 31) hx hb dX10_combine_18 (by decide) (fun hc => ?_) (fun hc => ?_)
      · have h := fy_if_t h hc
        refine lv_bipush (v := (-2 : Int32)) hx hb dX10_combine_31 (by decide) ?_
        cases h
        exact fy_retI C w dX10_combine_33
      · have h := fy_if_f h hc
        refine lv_iload hx hb dX10_combine_21 (lv_at hl 4 rfl) ?_
        refine lv_iconst (v := (0 : Int32)) hx hb dX10_combine_23 (by decide) ?_
        refine lv_iconst (v := (1 : Int32)) hx hb dX10_combine_24 (by decide) ?_
        obtain ⟨r25, h25, h⟩ := fy_bd_some h
        refine fy_calI w (fy_runS (As := [.int v4, .int (0 : Int32), .int (1 : Int32)]) (rest := []) C w (c_M_isBetween l g  h25) ksX10_127 ⟨Nat.le_of_ble_eq_true rfl, Nat.le_of_ble_eq_true rfl⟩ rfl hl.1 rfl (Nat.le_of_ble_eq_true rfl) ⟨Nat.le_refl _, Nat.le_refl _⟩ dX10_combine_25) (fun H locs w => ?_)
        refine lv_if_ne (tgt := 34) hx hb dX10_combine_28 (by decide) (fun hc => ?_) (fun hc => ?_)
        · have h := fy_if_f h hc
          refine lv_aload_n hx hb dX10_combine_34 rfl (lv_at hl 0 rfl) ?_
          refine gfX10_13 C w dX10_combine_35 ?_
          refine lv_iload_n hx hb dX10_combine_38 rfl (lv_at hl 1 rfl) ?_
          obtain ⟨g39, h⟩ := fy_gd_some h
          refine fy_iald C w M_a2 g39 dX10_combine_39 ?_
          refine lv_aload_n hx hb dX10_combine_40 rfl (lv_at hl 0 rfl) ?_
          refine gfX10_13 C w dX10_combine_41 ?_
          refine lv_iload_n hx hb dX10_combine_44 rfl (lv_at hl 2 rfl) ?_
          obtain ⟨g45, h⟩ := fy_gd_some h
          refine fy_iald C w M_a2 g45 dX10_combine_45 ?_
          refine lv_icmp_eq (tgt := 52) hx hb dX10_combine_46 (by decide) (fun hc => ?_) (fun hc => ?_)
          · have h := fy_if_t h hc
            refine lv_aload_n hx hb dX10_combine_52 rfl (lv_at hl 0 rfl) ?_
            refine gfX10_7 C w dX10_combine_53 ?_
            refine lv_iload_n hx hb dX10_combine_56 rfl (lv_at hl 1 rfl) ?_
            obtain ⟨g57, h⟩ := fy_gd_some h
            refine fy_iald C w M_a1 g57 dX10_combine_57 ?_
            refine lv_topi (fun x58 e58 => ?_)
            have h := fy_bl_some e58 h
            refine lv_istore (lv' := [(5, .int x58), (0, .ref (g.2.2.1 0)), (1, .int v1), (2, .int v2), (3, .int v3), (4, .int v4)]) hx hb dX10_combine_58 hl (by decide) rfl (fun ls hl => ?_)
            refine lv_iload hx hb dX10_combine_60 (lv_at hl 0 rfl) ?_
            refine lv_aload_n hx hb dX10_combine_62 rfl (lv_at hl 1 rfl) ?_
            refine gfX10_7 C w dX10_combine_63 ?_
            refine lv_iload_n hx hb dX10_combine_66 rfl (lv_at hl 3 rfl) ?_
            obtain ⟨g67, h⟩ := fy_gd_some h
            refine fy_iald C w M_a1 g67 dX10_combine_67 ?_
            refine lv_iadd hx hb dX10_combine_68 ?_
            refine lv_bipush (v := (6 : Int32)) hx hb dX10_combine_69 (by decide) ?_
            refine lv_icmp_gt (tgt := 94) hx hb dX10_combine_71 (by decide) (fun hc => ?_) (fun hc => ?_)
            · have h := fy_if_t h hc
              refine lv_bipush (v := (-3 : Int32)) hx hb dX10_combine_94 (by decide) ?_
              cases h
              exact fy_retI C w dX10_combine_96
            · have h := fy_if_f h hc
              refine lv_aload_n hx hb dX10_combine_74 rfl (lv_at hl 1 rfl) ?_
              refine lv_iload_n hx hb dX10_combine_75 rfl (lv_at hl 2 rfl) ?_
              refine lv_iconst (v := (0 : Int32)) hx hb dX10_combine_76 (by decide) ?_
              obtain ⟨r77, h77, h⟩ := fy_bd_some h
              refine fy_calI w (fy_runV (As := [.int v1, .int (0 : Int32)]) (rest := []) C w (c_M_sizeOf l g  h77) M_o ksX10_196 rfl ⟨Nat.le_of_ble_eq_true rfl, Nat.le_of_ble_eq_true rfl⟩ rfl hl.1 rfl (Nat.le_of_ble_eq_true rfl) ⟨Nat.le_refl _, Nat.le_refl _⟩ dX10_combine_77) (fun H locs w => ?_)
              refine lv_aload_n hx hb dX10_combine_80 rfl (lv_at hl 1 rfl) ?_
              refine lv_iload_n hx hb dX10_combine_81 rfl (lv_at hl 3 rfl) ?_
              refine lv_iconst (v := (0 : Int32)) hx hb dX10_combine_82 (by decide) ?_
              obtain ⟨r83, h83, h⟩ := fy_bd_some h
              refine fy_calI w (fy_runV (As := [.int v2, .int (0 : Int32)]) (rest := [.int r77]) C w (c_M_sizeOf l g  h83) M_o ksX10_196 rfl ⟨Nat.le_of_ble_eq_true rfl, Nat.le_of_ble_eq_true rfl⟩ rfl hl.1 rfl (Nat.le_of_ble_eq_true rfl) ⟨Nat.le_refl _, Nat.le_refl _⟩ dX10_combine_83) (fun H locs w => ?_)
              refine lv_iadd hx hb dX10_combine_86 ?_
              refine lv_iconst (v := (1 : Int32)) hx hb dX10_combine_87 (by decide) ?_
              refine lv_iadd hx hb dX10_combine_88 ?_
              refine lv_bipush (v := (40 : Int32)) hx hb dX10_combine_89 (by decide) ?_
              refine lv_icmp_le (tgt := 97) hx hb dX10_combine_91 (by decide) (fun hc => ?_) (fun hc => ?_)
              · have h := fy_if_t h hc
                refine lv_aload_n hx hb dX10_combine_97 rfl (lv_at hl 1 rfl) ?_
                refine lv_bipush (v := (6 : Int32)) hx hb dX10_combine_98 (by decide) ?_
                refine lv_iload hx hb dX10_combine_100 (lv_at hl 0 rfl) ?_
                refine lv_aload_n hx hb dX10_combine_102 rfl (lv_at hl 1 rfl) ?_
                refine gfX10_7 C w dX10_combine_103 ?_
                refine lv_iload_n hx hb dX10_combine_106 rfl (lv_at hl 3 rfl) ?_
                obtain ⟨g107, h⟩ := fy_gd_some h
                refine fy_iald C w M_a1 g107 dX10_combine_107 ?_
                refine lv_iadd hx hb dX10_combine_108 ?_
                refine lv_aload_n hx hb dX10_combine_109 rfl (lv_at hl 1 rfl) ?_
                refine gfX10_13 C w dX10_combine_110 ?_
                refine lv_iload_n hx hb dX10_combine_113 rfl (lv_at hl 2 rfl) ?_
                obtain ⟨g114, h⟩ := fy_gd_some h
                refine fy_iald C w M_a2 g114 dX10_combine_114 ?_
                obtain ⟨S115, h115, h⟩ := fy_bd_some h
                refine fy_calV w (fy_runV (As := [.int (6 : Int32), .int (x58 + (S.1 1 v2.toNatClampNeg)), .int (S.1 2 v1.toNatClampNeg)]) (rest := []) C w (c_M_empties l g  h115) M_o ksX10_111 rfl ⟨Nat.le_of_ble_eq_true rfl, Nat.le_of_ble_eq_true rfl⟩ rfl hl.1 rfl (Nat.le_of_ble_eq_true rfl) ⟨Nat.le_refl _, Nat.le_refl _⟩ dX10_combine_115) (fun H locs w => ?_)
                refine lv_aload_n hx hb dX10_combine_118 rfl (lv_at hl 1 rfl) ?_
                refine gfX10_16 C w dX10_combine_119 ?_
                refine lv_bipush (v := (6 : Int32)) hx hb dX10_combine_122 (by decide) ?_
                refine lv_aload_n hx hb dX10_combine_124 rfl (lv_at hl 1 rfl) ?_
                refine gfX10_16 C w dX10_combine_125 ?_
                refine lv_iload_n hx hb dX10_combine_128 rfl (lv_at hl 2 rfl) ?_
                obtain ⟨g129, h⟩ := fy_gd_some h
                refine fy_iald C w M_a3 g129 dX10_combine_129 ?_
                refine lv_aload_n hx hb dX10_combine_130 rfl (lv_at hl 1 rfl) ?_
                refine gfX10_16 C w dX10_combine_131 ?_
                refine lv_iload_n hx hb dX10_combine_134 rfl (lv_at hl 3 rfl) ?_
                obtain ⟨g135, h⟩ := fy_gd_some h
                refine fy_iald C w M_a3 g135 dX10_combine_135 ?_
                refine lv_iload hx hb dX10_combine_136 (lv_at hl 0 rfl) ?_
                refine lv_ishl hx hb dX10_combine_138 ?_
                refine lv_ior hx hb dX10_combine_139 ?_
                obtain ⟨g140, h⟩ := fy_gd_some h
                refine fy_iast C w M_a3 g140 dX10_combine_140 (fun H locs w => ?_)
                obtain ⟨S140, e140⟩ : ∃ z, z = fy_sI S115 3 (6 : Int32).toNatClampNeg ((S115.1 3 v1.toNatClampNeg) ||| ((S115.1 3 v2.toNatClampNeg) <<< (x58 &&& 31))) := ⟨_, rfl⟩
                have h := fy_bl_some e140 h
                rw [← e140] at w
                refine lv_iconst (v := (0 : Int32)) hx hb dX10_combine_141 (by decide) ?_
                refine lv_istore (lv' := [(6, .int (0 : Int32)), (5, .int x58), (0, .ref (g.2.2.1 0)), (1, .int v1), (2, .int v2), (3, .int v3), (4, .int v4)]) hx hb dX10_combine_142 hl (by decide) rfl (fun ls hl => ?_)
                exact t_M_combine_144 C fy_fu _ _ _ _ _ _ _ _ _ _ h w (lv_sub hl [2, 3, 4, 5, 6, 1, 0] rfl)
              · have h := fy_if_f h hc
                refine lv_bipush (v := (-3 : Int32)) hx hb dX10_combine_94 (by decide) ?_
                cases h
                exact fy_retI C w dX10_combine_96
          · have h := fy_if_f h hc
            refine lv_bipush (v := (-4 : Int32)) hx hb dX10_combine_49 (by decide) ?_
            cases h
            exact fy_retI C w dX10_combine_51
        · have h := fy_if_t h hc
          refine lv_bipush (v := (-2 : Int32)) hx hb dX10_combine_31 (by decide) ?_
          cases h
          exact fy_retI C w dX10_combine_33

set_option maxHeartbeats 4000000 in
set_option maxRecDepth 100000 in
theorem c_M_combine (l : Launch) (g : fy_G) {S : fy_S} {v1 : Int32} {v2 : Int32} {v3 : Int32} {v4 : Int32} {Sr : fy_S} {rr : Int32}  (h : M_combine S v1 v2 v3 v4 = some (Sr, rr)) : fy_M g M_Y l yX10_combine cX10_combine 8 (some .int) (fy_rm 2) [.ref (g.2.2.1 0), .int v1, .int v2, .int v3, .int v4] S (fy_QI g M_Y rr Sr) :=
  fy_entry (by decide +kernel) (Nat.le_of_ble_eq_true rfl) (fun p e s m args below meth c ls C w hl => t_M_combine C  h w hl)
def M_allStates (S : fy_S)  : Option (Int32) :=
  fy_gd (fy_ix (0 : Int32) 7) <|
  fy_gd (fy_ix (1 : Int32) 7) <|
  fy_gd (fy_ix (2 : Int32) 7) <|
  some (((S.1 1 (0 : Int32).toNatClampNeg) + (S.1 1 (1 : Int32).toNatClampNeg)) + (S.1 1 (2 : Int32).toNatClampNeg))
set_option maxHeartbeats 4000000 in
set_option maxRecDepth 100000 in
theorem t_M_allStates {p : Program} {l : Launch} {e : Env} {s : State} {m : MethodId} {args : Array Value} {below : List Frame} {meth : Method} {c : Code} {g : fy_G} (C : fy_C g M_Y p s m args meth c yX10_allStates.cls cX10_allStates 1 (some .int)) {S : fy_S}  {rr : Int32}  {H : Heap} {locs : List Loc} {ls : Array Slot} (h : M_allStates S  = some rr) (w : fy_W g M_Y S s H locs) (hl : lv_has ls 1 [(0, .ref (g.2.2.1 0))]) : W p l e (fy_rm 0) s m args below meth c H locs 0 0 (MQ below (fy_QI g M_Y rr S) args s 0 0 (fy_A g M_Y)) (F0 m 0 ls []) := by
  obtain ⟨hx, hb, hr, hts, hown, hlk, hml, hK, hD, hE, hN⟩ := id C
  rw [M_allStates] at h
  refine lv_aload_n hx hb dX10_allStates_0 rfl (lv_at hl 0 rfl) ?_
  refine gfX10_7 C w dX10_allStates_1 ?_
  refine lv_iconst (v := (0 : Int32)) hx hb dX10_allStates_4 (by decide) ?_
  obtain ⟨g5, h⟩ := fy_gd_some h
  refine fy_iald C w M_a1 g5 dX10_allStates_5 ?_
  refine lv_aload_n hx hb dX10_allStates_6 rfl (lv_at hl 0 rfl) ?_
  refine gfX10_7 C w dX10_allStates_7 ?_
  refine lv_iconst (v := (1 : Int32)) hx hb dX10_allStates_10 (by decide) ?_
  obtain ⟨g11, h⟩ := fy_gd_some h
  refine fy_iald C w M_a1 g11 dX10_allStates_11 ?_
  refine lv_iadd hx hb dX10_allStates_12 ?_
  refine lv_aload_n hx hb dX10_allStates_13 rfl (lv_at hl 0 rfl) ?_
  refine gfX10_7 C w dX10_allStates_14 ?_
  refine lv_iconst (v := (2 : Int32)) hx hb dX10_allStates_17 (by decide) ?_
  obtain ⟨g18, h⟩ := fy_gd_some h
  refine fy_iald C w M_a1 g18 dX10_allStates_18 ?_
  refine lv_iadd hx hb dX10_allStates_19 ?_
  cases h
  exact fy_retI C w dX10_allStates_20

set_option maxHeartbeats 4000000 in
set_option maxRecDepth 100000 in
theorem c_M_allStates (l : Launch) (g : fy_G) {S : fy_S}  {rr : Int32}  (h : M_allStates S  = some rr) : fy_M g M_Y l yX10_allStates cX10_allStates 1 (some .int) (fy_rm 0) [.ref (g.2.2.1 0)] S (fy_QI g M_Y rr S) :=
  fy_entry (by decide +kernel) (Nat.le_of_ble_eq_true rfl) (fun p e s m args below meth c ls C w hl => t_M_allStates C  h w hl)
def M_save_7 : Nat → fy_S → Int32 → Option (fy_S × Int32)
  | 0, _, _ => none
  | fu + 1, S, v1 =>
    if (3 : Int32) ≤ v1 then (
      fy_bd (M_allStates S ) fun r27 =>
      some (S, r27))
    else (
      fy_bd (M_copies S v1 ((3 : Int32) + v1)) fun S17 =>
      fy_bl (v1 + (1 : Int32)) fun x20 =>
      M_save_7 fu S17 x20)
def M_save (S : fy_S)  : Option (fy_S × Int32) :=
  fy_bl (fy_sI S 0 48 (1 : Int32)) fun S2 =>
  M_save_7 fy_fu S2 (0 : Int32)
set_option maxHeartbeats 4000000 in
set_option maxRecDepth 100000 in
theorem t_M_save_7 {p : Program} {l : Launch} {e : Env} {s : State} {m : MethodId} {args : Array Value} {below : List Frame} {meth : Method} {c : Code} {g : fy_G} (C : fy_C g M_Y p s m args meth c yX10_save.cls cX10_save 2 (some .int)) {Sr : fy_S} {rr : Int32} : ∀ (fu : Nat) (S : fy_S) (v1 : Int32) (H : Heap) (locs : List Loc) (ls : Array Slot), M_save_7 fu S v1 = some (Sr, rr) → fy_W g M_Y S s H locs → lv_has ls 2 [(0, .ref (g.2.2.1 0)), (1, .int v1)] → W p l e (fy_rm 2) s m args below meth c H locs 0 0 (MQ below (fy_QI g M_Y rr Sr) args s 0 0 (fy_A g M_Y)) (F0 m 7 ls []) := by
  obtain ⟨hx, hb, hr, hts, hown, hlk, hml, hK, hD, hE, hN⟩ := id C
  intro fu
  induction fu with
  | zero => intro S v1 H locs ls h; cases h
  | succ fu ih =>
    intro S v1 H locs ls h w  hl
    rw [M_save_7] at h
    refine lv_iload_n hx hb dX10_save_7 rfl (lv_at hl 1 rfl) ?_
    refine lv_iconst (v := (3 : Int32)) hx hb dX10_save_8 (by decide) ?_
    refine lv_icmp_ge (tgt := 26) hx hb dX10_save_9 (by decide) (fun hc => ?_) (fun hc => ?_)
    · have h := fy_if_t h hc
      refine lv_aload_n hx hb dX10_save_26 rfl (lv_at hl 0 rfl) ?_
      obtain ⟨r27, h27, h⟩ := fy_bd_some h
      refine fy_calI w (fy_runV (As := []) (rest := []) C w (c_M_allStates l g  h27) M_o ksX10_326 rfl ⟨Nat.le_of_ble_eq_true rfl, Nat.le_of_ble_eq_true rfl⟩ rfl hl.1 rfl (Nat.le_of_ble_eq_true rfl) ⟨Nat.le_refl _, Nat.le_refl _⟩ dX10_save_27) (fun H locs w => ?_)
      cases h
      exact fy_retI C w dX10_save_30
    · have h := fy_if_f h hc
      refine lv_aload_n hx hb dX10_save_12 rfl (lv_at hl 0 rfl) ?_
      refine lv_iload_n hx hb dX10_save_13 rfl (lv_at hl 1 rfl) ?_
      refine lv_iconst (v := (3 : Int32)) hx hb dX10_save_14 (by decide) ?_
      refine lv_iload_n hx hb dX10_save_15 rfl (lv_at hl 1 rfl) ?_
      refine lv_iadd hx hb dX10_save_16 ?_
      obtain ⟨S17, h17, h⟩ := fy_bd_some h
      refine fy_calV w (fy_runV (As := [.int v1, .int ((3 : Int32) + v1)]) (rest := []) C w (c_M_copies l g  h17) M_o ksX10_313 rfl ⟨Nat.le_of_ble_eq_true rfl, Nat.le_of_ble_eq_true rfl⟩ rfl hl.1 rfl (Nat.le_of_ble_eq_true rfl) ⟨Nat.le_refl _, Nat.le_refl _⟩ dX10_save_17) (fun H locs w => ?_)
      obtain ⟨x20, e20⟩ : ∃ z : Int32, z = v1 + (1 : Int32) := ⟨_, rfl⟩
      have h := fy_bl_some e20 h
      refine lv_iinc (k := 1) (v := x20) (lv' := [(1, .int x20), (0, .ref (g.2.2.1 0))]) hx hb dX10_save_20 hl rfl (by rw [e20]; rfl) (by decide) rfl (fun ls hl => ?_)
      refine lv_goto (tgt := 7) hx hb dX10_save_23 (by decide) ?_
      exact ih _ _ _ _ _ h w (lv_sub hl [1, 0] rfl)

set_option maxHeartbeats 4000000 in
set_option maxRecDepth 100000 in
theorem t_M_save {p : Program} {l : Launch} {e : Env} {s : State} {m : MethodId} {args : Array Value} {below : List Frame} {meth : Method} {c : Code} {g : fy_G} (C : fy_C g M_Y p s m args meth c yX10_save.cls cX10_save 2 (some .int)) {S : fy_S}  {Sr : fy_S} {rr : Int32}  {H : Heap} {locs : List Loc} {ls : Array Slot} (h : M_save S  = some (Sr, rr)) (w : fy_W g M_Y S s H locs) (hl : lv_has ls 2 [(0, .ref (g.2.2.1 0))]) : W p l e (fy_rm 2) s m args below meth c H locs 0 0 (MQ below (fy_QI g M_Y rr Sr) args s 0 0 (fy_A g M_Y)) (F0 m 0 ls []) := by
  obtain ⟨hx, hb, hr, hts, hown, hlk, hml, hK, hD, hE, hN⟩ := id C
  rw [M_save] at h
  refine lv_aload_n hx hb dX10_save_0 rfl (lv_at hl 0 rfl) ?_
  refine lv_iconst (v := (1 : Int32)) hx hb dX10_save_1 (by decide) ?_
  refine pfX10_322 C w dX10_save_2 (by decide +kernel) (by decide +kernel) (fun H locs w => ?_)
  obtain ⟨S2, e2⟩ : ∃ z, z = fy_sI S 0 48 (1 : Int32) := ⟨_, rfl⟩
  have h := fy_bl_some e2 h
  rw [← e2] at w
  refine lv_iconst (v := (0 : Int32)) hx hb dX10_save_5 (by decide) ?_
  refine lv_istore_n (lv' := [(1, .int (0 : Int32)), (0, .ref (g.2.2.1 0))]) hx hb dX10_save_6 rfl hl (by decide) rfl (fun ls hl => ?_)
  exact t_M_save_7 C fy_fu _ _ _ _ _ h w (lv_sub hl [1, 0] rfl)

set_option maxHeartbeats 4000000 in
set_option maxRecDepth 100000 in
theorem c_M_save (l : Launch) (g : fy_G) {S : fy_S}  {Sr : fy_S} {rr : Int32}  (h : M_save S  = some (Sr, rr)) : fy_M g M_Y l yX10_save cX10_save 2 (some .int) (fy_rm 2) [.ref (g.2.2.1 0)] S (fy_QI g M_Y rr Sr) :=
  fy_entry (by decide +kernel) (Nat.le_of_ble_eq_true rfl) (fun p e s m args below meth c ls C w hl => t_M_save C  h w hl)
def M_restore_12 : Nat → fy_S → Int32 → Option (fy_S × Int32)
  | 0, _, _ => none
  | fu + 1, S, v1 =>
    if (3 : Int32) ≤ v1 then (
      fy_bd (M_allStates S ) fun r32 =>
      some (S, r32))
    else (
      fy_bd (M_copies S ((3 : Int32) + v1) v1) fun S22 =>
      fy_bl (v1 + (1 : Int32)) fun x25 =>
      M_restore_12 fu S22 x25)
def M_restore (S : fy_S)  : Option (fy_S × Int32) :=
  if (S.1 0 48) = 0 then (
    some (S, (-5 : Int32)))
  else (
    M_restore_12 fy_fu S (0 : Int32))
set_option maxHeartbeats 4000000 in
set_option maxRecDepth 100000 in
theorem t_M_restore_12 {p : Program} {l : Launch} {e : Env} {s : State} {m : MethodId} {args : Array Value} {below : List Frame} {meth : Method} {c : Code} {g : fy_G} (C : fy_C g M_Y p s m args meth c yX10_restore.cls cX10_restore 2 (some .int)) {Sr : fy_S} {rr : Int32} : ∀ (fu : Nat) (S : fy_S) (v1 : Int32) (H : Heap) (locs : List Loc) (ls : Array Slot), M_restore_12 fu S v1 = some (Sr, rr) → fy_W g M_Y S s H locs → lv_has ls 2 [(0, .ref (g.2.2.1 0)), (1, .int v1)] → W p l e (fy_rm 2) s m args below meth c H locs 0 0 (MQ below (fy_QI g M_Y rr Sr) args s 0 0 (fy_A g M_Y)) (F0 m 12 ls []) := by
  obtain ⟨hx, hb, hr, hts, hown, hlk, hml, hK, hD, hE, hN⟩ := id C
  intro fu
  induction fu with
  | zero => intro S v1 H locs ls h; cases h
  | succ fu ih =>
    intro S v1 H locs ls h w  hl
    rw [M_restore_12] at h
    refine lv_iload_n hx hb dX10_restore_12 rfl (lv_at hl 1 rfl) ?_
    refine lv_iconst (v := (3 : Int32)) hx hb dX10_restore_13 (by decide) ?_
    refine lv_icmp_ge (tgt := 31) hx hb dX10_restore_14 (by decide) (fun hc => ?_) (fun hc => ?_)
    · have h := fy_if_t h hc
      refine lv_aload_n hx hb dX10_restore_31 rfl (lv_at hl 0 rfl) ?_
      obtain ⟨r32, h32, h⟩ := fy_bd_some h
      refine fy_calI w (fy_runV (As := []) (rest := []) C w (c_M_allStates l g  h32) M_o ksX10_326 rfl ⟨Nat.le_of_ble_eq_true rfl, Nat.le_of_ble_eq_true rfl⟩ rfl hl.1 rfl (Nat.le_of_ble_eq_true rfl) ⟨Nat.le_refl _, Nat.le_refl _⟩ dX10_restore_32) (fun H locs w => ?_)
      cases h
      exact fy_retI C w dX10_restore_35
    · have h := fy_if_f h hc
      refine lv_aload_n hx hb dX10_restore_17 rfl (lv_at hl 0 rfl) ?_
      refine lv_iconst (v := (3 : Int32)) hx hb dX10_restore_18 (by decide) ?_
      refine lv_iload_n hx hb dX10_restore_19 rfl (lv_at hl 1 rfl) ?_
      refine lv_iadd hx hb dX10_restore_20 ?_
      refine lv_iload_n hx hb dX10_restore_21 rfl (lv_at hl 1 rfl) ?_
      obtain ⟨S22, h22, h⟩ := fy_bd_some h
      refine fy_calV w (fy_runV (As := [.int ((3 : Int32) + v1), .int v1]) (rest := []) C w (c_M_copies l g  h22) M_o ksX10_313 rfl ⟨Nat.le_of_ble_eq_true rfl, Nat.le_of_ble_eq_true rfl⟩ rfl hl.1 rfl (Nat.le_of_ble_eq_true rfl) ⟨Nat.le_refl _, Nat.le_refl _⟩ dX10_restore_22) (fun H locs w => ?_)
      obtain ⟨x25, e25⟩ : ∃ z : Int32, z = v1 + (1 : Int32) := ⟨_, rfl⟩
      have h := fy_bl_some e25 h
      refine lv_iinc (k := 1) (v := x25) (lv' := [(1, .int x25), (0, .ref (g.2.2.1 0))]) hx hb dX10_restore_25 hl rfl (by rw [e25]; rfl) (by decide) rfl (fun ls hl => ?_)
      refine lv_goto (tgt := 12) hx hb dX10_restore_28 (by decide) ?_
      exact ih _ _ _ _ _ h w (lv_sub hl [1, 0] rfl)

set_option maxHeartbeats 4000000 in
set_option maxRecDepth 100000 in
theorem t_M_restore {p : Program} {l : Launch} {e : Env} {s : State} {m : MethodId} {args : Array Value} {below : List Frame} {meth : Method} {c : Code} {g : fy_G} (C : fy_C g M_Y p s m args meth c yX10_restore.cls cX10_restore 2 (some .int)) {S : fy_S}  {Sr : fy_S} {rr : Int32}  {H : Heap} {locs : List Loc} {ls : Array Slot} (h : M_restore S  = some (Sr, rr)) (w : fy_W g M_Y S s H locs) (hl : lv_has ls 2 [(0, .ref (g.2.2.1 0))]) : W p l e (fy_rm 2) s m args below meth c H locs 0 0 (MQ below (fy_QI g M_Y rr Sr) args s 0 0 (fy_A g M_Y)) (F0 m 0 ls []) := by
  obtain ⟨hx, hb, hr, hts, hown, hlk, hml, hK, hD, hE, hN⟩ := id C
  rw [M_restore] at h
  refine lv_aload_n hx hb dX10_restore_0 rfl (lv_at hl 0 rfl) ?_
  refine gfX10_322 C w dX10_restore_1 ?_
  refine lv_if_ne (tgt := 10) hx hb dX10_restore_4 (by decide) (fun hc => ?_) (fun hc => ?_)
  · have h := fy_if_f h hc
    refine lv_iconst (v := (0 : Int32)) hx hb dX10_restore_10 (by decide) ?_
    refine lv_istore_n (lv' := [(1, .int (0 : Int32)), (0, .ref (g.2.2.1 0))]) hx hb dX10_restore_11 rfl hl (by decide) rfl (fun ls hl => ?_)
    exact t_M_restore_12 C fy_fu _ _ _ _ _ h w (lv_sub hl [1, 0] rfl)
  · have h := fy_if_t h hc
    refine lv_bipush (v := (-5 : Int32)) hx hb dX10_restore_7 (by decide) ?_
    cases h
    exact fy_retI C w dX10_restore_9

set_option maxHeartbeats 4000000 in
set_option maxRecDepth 100000 in
theorem c_M_restore (l : Launch) (g : fy_G) {S : fy_S}  {Sr : fy_S} {rr : Int32}  (h : M_restore S  = some (Sr, rr)) : fy_M g M_Y l yX10_restore cX10_restore 2 (some .int) (fy_rm 2) [.ref (g.2.2.1 0)] S (fy_QI g M_Y rr Sr) :=
  fy_entry (by decide +kernel) (Nat.le_of_ble_eq_true rfl) (fun p e s m args below meth c ls C w hl => t_M_restore C  h w hl)
end
