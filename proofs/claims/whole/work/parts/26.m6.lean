noncomputable section
def M_reverseClasses_196 (k105 : fy_S → Int32 → Int32 → Int32 → Option (fy_S × Int32)) : Nat → fy_S → Int32 → Int32 → Int32 → Int32 → Option (fy_S × Int32)
  | 0, _, _, _, _, _ => none
  | fu + 1, S, v1, v2, v3, v4 =>
    if (S.1 0 34) ≤ v4 then (
      k105 S v1 v2 v3)
    else (
      fy_gd (fy_ix v4 64) <|
      fy_gd (fy_ix v4 64) <|
      fy_bl (fy_sI S 21 v4.toNatClampNeg (S.1 22 v4.toNatClampNeg)) fun S218 =>
      fy_bl (v4 + (1 : Int32)) fun x219 =>
      M_reverseClasses_196 k105 fu S218 v1 v2 v3 x219)
def M_reverseClasses_171 (k105 : fy_S → Int32 → Int32 → Int32 → Option (fy_S × Int32)) (k117 : fy_S → Int32 → Int32 → Int32 → Int32 → Option (fy_S × Int32)) (S : fy_S) (v1 : Int32) (v2 : Int32) (v3 : Int32) (v4 : Int32) (v5 : Int32) (z0 : Int32) (z1 : Int32) : Option (fy_S × Int32) :=
  fy_gd (fy_ix z1 64) <|
  fy_bl (fy_sI S 22 z1.toNatClampNeg z0) fun S171 =>
  if v5 = v4 then (
    fy_bl (v3 + (1 : Int32)) fun x186 =>
    fy_bl (v4 + (1 : Int32)) fun x187 =>
    k117 S171 v1 v2 x186 x187)
  else (
    fy_bl (v3 + (0 : Int32)) fun x186 =>
    fy_bl (v4 + (1 : Int32)) fun x187 =>
    k117 S171 v1 v2 x186 x187)
def M_reverseClasses_129 (k105 : fy_S → Int32 → Int32 → Int32 → Option (fy_S × Int32)) (k117 : fy_S → Int32 → Int32 → Int32 → Int32 → Option (fy_S × Int32)) : Nat → fy_S → Int32 → Int32 → Int32 → Int32 → Int32 → Option (fy_S × Int32)
  | 0, _, _, _, _, _, _ => none
  | fu + 1, S, v1, v2, v3, v4, v5 =>
    fy_bd (M_isOneClass S v1 v5 v4) fun r135 =>
    if r135 = 0 then (
      fy_bl (v5 + (1 : Int32)) fun x141 =>
      M_reverseClasses_129 k105 k117 fu S v1 v2 v3 v4 x141)
    else (
      if v5 = v4 then (
        M_reverseClasses_171 k105 k117 S v1 v2 v3 v4 v5 v3 v4)
      else (
        fy_gd (fy_ix v5 64) <|
        M_reverseClasses_171 k105 k117 S v1 v2 v3 v4 v5 (S.1 22 v5.toNatClampNeg) v4))
def M_reverseClasses_117 (k105 : fy_S → Int32 → Int32 → Int32 → Option (fy_S × Int32)) : Nat → fy_S → Int32 → Int32 → Int32 → Int32 → Option (fy_S × Int32)
  | 0, _, _, _, _, _ => none
  | fu + 1, S, v1, v2, v3, v4 =>
    if (S.1 0 34) ≤ v4 then (
      M_reverseClasses_196 k105 fy_fu S v1 v2 v3 (0 : Int32))
    else (
      M_reverseClasses_129 k105 (fun S v1 v2 v3 v4 => M_reverseClasses_117 k105 fu S v1 v2 v3 v4) fy_fu S v1 v2 v3 v4 (0 : Int32))
def M_reverseClasses_105 : Nat → fy_S → Int32 → Int32 → Int32 → Option (fy_S × Int32)
  | 0, _, _, _, _ => none
  | fu + 1, S, v1, v2, v3 =>
    if v3 = v2 then (
      some (S, v3))
    else (
      M_reverseClasses_117 (fun S v1 v2 v3 => M_reverseClasses_105 fu S v1 v2 v3) fy_fu S v1 v3 (0 : Int32) (0 : Int32))
def M_reverseClasses_52 (k17 : fy_S → Int32 → Int32 → Option (fy_S × Int32)) : Nat → fy_S → Int32 → Int32 → Int32 → Option (fy_S × Int32)
  | 0, _, _, _, _ => none
  | fu + 1, S, v1, v2, v3 =>
    fy_gd (fy_ix v1 7) <|
    if (S.1 2 v1.toNatClampNeg) ≤ v3 then (
      fy_bl (v2 + (1 : Int32)) fun x95 =>
      k17 S v1 x95)
    else (
      fy_gd (fy_ix v2 64) <|
      fy_bd (M_stepOf S v1 v3 (S.1 19 v2.toNatClampNeg)) fun r84 =>
      fy_gd (fy_ix r84 64) <|
      fy_gd (fy_ix (((3 : Int32) * v2) + v3) 192) <|
      fy_bl (fy_sI S 23 (((3 : Int32) * v2) + v3).toNatClampNeg (S.1 20 r84.toNatClampNeg)) fun S88 =>
      fy_bl (v3 + (1 : Int32)) fun x89 =>
      M_reverseClasses_52 k17 fu S88 v1 v2 x89)
def M_reverseClasses_49 (k17 : fy_S → Int32 → Int32 → Option (fy_S × Int32)) (S : fy_S) (v1 : Int32) (v2 : Int32) (z0 : Int32) (z1 : Int32) : Option (fy_S × Int32) :=
  fy_gd (fy_ix z1 64) <|
  fy_bl (fy_sI S 21 z1.toNatClampNeg z0) fun S49 =>
  M_reverseClasses_52 k17 fy_fu S49 v1 v2 (0 : Int32)
def M_reverseClasses_17 : Nat → fy_S → Int32 → Int32 → Option (fy_S × Int32)
  | 0, _, _, _ => none
  | fu + 1, S, v1, v2 =>
    if (S.1 0 34) ≤ v2 then (
      M_reverseClasses_105 fy_fu S v1 (-1 : Int32) (0 : Int32))
    else (
      fy_gd (fy_ix v2 64) <|
      fy_bd (M_isAccepting S v1 (S.1 19 v2.toNatClampNeg)) fun r38 =>
      if r38 = 0 then (
        M_reverseClasses_49 (fun S v1 v2 => M_reverseClasses_17 fu S v1 v2) S v1 v2 (0 : Int32) v2)
      else (
        M_reverseClasses_49 (fun S v1 v2 => M_reverseClasses_17 fu S v1 v2) S v1 v2 (1 : Int32) v2))
def M_reverseClasses (S : fy_S) (v1 : Int32) : Option (fy_S × Int32) :=
  fy_bd (M_isSlot S v1) fun r1 =>
  if r1 = 0 then (
    some (S, (-2 : Int32)))
  else (
    fy_bd (M_findReverse S v1) fun S12 =>
    M_reverseClasses_17 fy_fu S12 v1 (0 : Int32))
set_option maxHeartbeats 4000000 in
set_option maxRecDepth 100000 in
theorem t_M_reverseClasses_196 {p : Program} {l : Launch} {e : Env} {s : State} {m : MethodId} {args : Array Value} {below : List Frame} {meth : Method} {c : Code} {g : fy_G} (C : fy_C g M_Y p s m args meth c yX10_reverseClasses.cls cX10_reverseClasses 6 (some .int)) {Sr : fy_S} {rr : Int32} {k105 : fy_S → Int32 → Int32 → Int32 → Option (fy_S × Int32)} (hk105 : ∀ (S : fy_S) (v1 : Int32) (v2 : Int32) (v3 : Int32) (H : Heap) (locs : List Loc) (ls : Array Slot), k105 S v1 v2 v3 = some (Sr, rr) → fy_W g M_Y S s H locs → lv_has ls 6 [(0, .ref (g.2.2.1 0)), (1, .int v1), (2, .int v2), (3, .int v3)] → W p l e (fy_rm 4) s m args below meth c H locs 0 0 (MQ below (fy_QI g M_Y rr Sr) args s 0 0 (fy_A g M_Y)) (F0 m 105 ls [])) : ∀ (fu : Nat) (S : fy_S) (v1 : Int32) (v2 : Int32) (v3 : Int32) (v4 : Int32) (H : Heap) (locs : List Loc) (ls : Array Slot), M_reverseClasses_196 k105 fu S v1 v2 v3 v4 = some (Sr, rr) → fy_W g M_Y S s H locs → lv_has ls 6 [(0, .ref (g.2.2.1 0)), (1, .int v1), (2, .int v2), (3, .int v3), (4, .int v4)] → W p l e (fy_rm 4) s m args below meth c H locs 0 0 (MQ below (fy_QI g M_Y rr Sr) args s 0 0 (fy_A g M_Y)) (F0 m 196 ls []) := by
  obtain ⟨hx, hb, hr, hts, hown, hlk, hml, hK, hD, hE, hN⟩ := id C
  intro fu
  induction fu with
  | zero => intro S v1 v2 v3 v4 H locs ls h; cases h
  | succ fu ih =>
    intro S v1 v2 v3 v4 H locs ls h w  hl
    rw [M_reverseClasses_196] at h
    refine lv_iload hx hb dX10_reverseClasses_196 (lv_at hl 4 rfl) ?_
    refine lv_aload_n hx hb dX10_reverseClasses_198 rfl (lv_at hl 0 rfl) ?_
    refine gfX10_264 C w dX10_reverseClasses_199 ?_
    refine lv_icmp_ge (tgt := 225) hx hb dX10_reverseClasses_202 (by decide) (fun hc => ?_) (fun hc => ?_)
    · have h := fy_if_t h hc
      refine lv_goto (tgt := 105) hx hb dX10_reverseClasses_225 (by decide) ?_
      exact hk105 _ _ _ _ _ _ _ h w (lv_sub hl [0, 1, 2, 3] rfl)
    · have h := fy_if_f h hc
      refine lv_aload_n hx hb dX10_reverseClasses_205 rfl (lv_at hl 0 rfl) ?_
      refine gfX10_70 C w dX10_reverseClasses_206 ?_
      refine lv_iload hx hb dX10_reverseClasses_209 (lv_at hl 4 rfl) ?_
      refine lv_aload_n hx hb dX10_reverseClasses_211 rfl (lv_at hl 0 rfl) ?_
      refine gfX10_73 C w dX10_reverseClasses_212 ?_
      refine lv_iload hx hb dX10_reverseClasses_215 (lv_at hl 4 rfl) ?_
      obtain ⟨g217, h⟩ := fy_gd_some h
      refine fy_iald C w M_a22 g217 dX10_reverseClasses_217 ?_
      obtain ⟨g218, h⟩ := fy_gd_some h
      refine fy_iast C w M_a21 g218 dX10_reverseClasses_218 (fun H locs w => ?_)
      obtain ⟨S218, e218⟩ : ∃ z, z = fy_sI S 21 v4.toNatClampNeg (S.1 22 v4.toNatClampNeg) := ⟨_, rfl⟩
      have h := fy_bl_some e218 h
      rw [← e218] at w
      obtain ⟨x219, e219⟩ : ∃ z : Int32, z = v4 + (1 : Int32) := ⟨_, rfl⟩
      have h := fy_bl_some e219 h
      refine lv_iinc (k := 4) (v := x219) (lv' := [(4, .int x219), (0, .ref (g.2.2.1 0)), (1, .int v1), (2, .int v2), (3, .int v3)]) hx hb dX10_reverseClasses_219 hl rfl (by rw [e219]; rfl) (by decide) rfl (fun ls hl => ?_)
      refine lv_goto (tgt := 196) hx hb dX10_reverseClasses_222 (by decide) ?_
      exact ih _ _ _ _ _ _ _ _ h w (lv_sub hl [1, 2, 3, 4, 0] rfl)

set_option maxHeartbeats 4000000 in
set_option maxRecDepth 100000 in
theorem t_M_reverseClasses_171 {p : Program} {l : Launch} {e : Env} {s : State} {m : MethodId} {args : Array Value} {below : List Frame} {meth : Method} {c : Code} {g : fy_G} (C : fy_C g M_Y p s m args meth c yX10_reverseClasses.cls cX10_reverseClasses 6 (some .int)) {Sr : fy_S} {rr : Int32} {k105 : fy_S → Int32 → Int32 → Int32 → Option (fy_S × Int32)} {k117 : fy_S → Int32 → Int32 → Int32 → Int32 → Option (fy_S × Int32)} (hk105 : ∀ (S : fy_S) (v1 : Int32) (v2 : Int32) (v3 : Int32) (H : Heap) (locs : List Loc) (ls : Array Slot), k105 S v1 v2 v3 = some (Sr, rr) → fy_W g M_Y S s H locs → lv_has ls 6 [(0, .ref (g.2.2.1 0)), (1, .int v1), (2, .int v2), (3, .int v3)] → W p l e (fy_rm 4) s m args below meth c H locs 0 0 (MQ below (fy_QI g M_Y rr Sr) args s 0 0 (fy_A g M_Y)) (F0 m 105 ls [])) (hk117 : ∀ (S : fy_S) (v1 : Int32) (v2 : Int32) (v3 : Int32) (v4 : Int32) (H : Heap) (locs : List Loc) (ls : Array Slot), k117 S v1 v2 v3 v4 = some (Sr, rr) → fy_W g M_Y S s H locs → lv_has ls 6 [(0, .ref (g.2.2.1 0)), (1, .int v1), (2, .int v2), (3, .int v3), (4, .int v4)] → W p l e (fy_rm 4) s m args below meth c H locs 0 0 (MQ below (fy_QI g M_Y rr Sr) args s 0 0 (fy_A g M_Y)) (F0 m 117 ls [])) : ∀ (S : fy_S) (v1 : Int32) (v2 : Int32) (v3 : Int32) (v4 : Int32) (v5 : Int32) (z0 : Int32) (z1 : Int32) (H : Heap) (locs : List Loc) (ls : Array Slot), M_reverseClasses_171 k105 k117 S v1 v2 v3 v4 v5 z0 z1 = some (Sr, rr) → fy_W g M_Y S s H locs → lv_has ls 6 [(0, .ref (g.2.2.1 0)), (1, .int v1), (2, .int v2), (3, .int v3), (4, .int v4), (5, .int v5)] → W p l e (fy_rm 4) s m args below meth c H locs 0 0 (MQ below (fy_QI g M_Y rr Sr) args s 0 0 (fy_A g M_Y)) (F0 m 171 ls [.int z0, .int z1, .ref (g.2.2.1 22)]) := by
  obtain ⟨hx, hb, hr, hts, hown, hlk, hml, hK, hD, hE, hN⟩ := id C
  intro S v1 v2 v3 v4 v5 z0 z1 H locs ls h w  hl
  rw [M_reverseClasses_171] at h
  obtain ⟨g171, h⟩ := fy_gd_some h
  refine fy_iast C w M_a22 g171 dX10_reverseClasses_171 (fun H locs w => ?_)
  obtain ⟨S171, e171⟩ : ∃ z, z = fy_sI S 22 z1.toNatClampNeg z0 := ⟨_, rfl⟩
  have h := fy_bl_some e171 h
  rw [← e171] at w
  refine lv_iload_n hx hb dX10_reverseClasses_172 rfl (lv_at hl 3 rfl) ?_
  refine lv_iload hx hb dX10_reverseClasses_173 (lv_at hl 5 rfl) ?_
  refine lv_iload hx hb dX10_reverseClasses_175 (lv_at hl 4 rfl) ?_
  refine lv_icmp_ne (tgt := 184) hx hb dX10_reverseClasses_177 (by decide) (fun hc => ?_) (fun hc => ?_)
  · have h := fy_if_f h hc
    refine lv_iconst (v := (0 : Int32)) hx hb dX10_reverseClasses_184 (by decide) ?_
    refine lv_iadd hx hb dX10_reverseClasses_185 ?_
    refine lv_topi (fun x186 e186 => ?_)
    have h := fy_bl_some e186 h
    refine lv_istore_n (lv' := [(3, .int x186), (0, .ref (g.2.2.1 0)), (1, .int v1), (2, .int v2), (4, .int v4), (5, .int v5)]) hx hb dX10_reverseClasses_186 rfl hl (by decide) rfl (fun ls hl => ?_)
    obtain ⟨x187, e187⟩ : ∃ z : Int32, z = v4 + (1 : Int32) := ⟨_, rfl⟩
    have h := fy_bl_some e187 h
    refine lv_iinc (k := 4) (v := x187) (lv' := [(4, .int x187), (3, .int x186), (0, .ref (g.2.2.1 0)), (1, .int v1), (2, .int v2), (5, .int v5)]) hx hb dX10_reverseClasses_187 hl rfl (by rw [e187]; rfl) (by decide) rfl (fun ls hl => ?_)
    refine lv_goto (tgt := 117) hx hb dX10_reverseClasses_190 (by decide) ?_
    exact hk117 _ _ _ _ _ _ _ _ h w (lv_sub hl [2, 3, 4, 1, 0] rfl)
  · have h := fy_if_t h hc
    refine lv_iconst (v := (1 : Int32)) hx hb dX10_reverseClasses_180 (by decide) ?_
    refine lv_goto (tgt := 185) hx hb dX10_reverseClasses_181 (by decide) ?_
    refine lv_iadd hx hb dX10_reverseClasses_185 ?_
    refine lv_topi (fun x186 e186 => ?_)
    have h := fy_bl_some e186 h
    refine lv_istore_n (lv' := [(3, .int x186), (0, .ref (g.2.2.1 0)), (1, .int v1), (2, .int v2), (4, .int v4), (5, .int v5)]) hx hb dX10_reverseClasses_186 rfl hl (by decide) rfl (fun ls hl => ?_)
    obtain ⟨x187, e187⟩ : ∃ z : Int32, z = v4 + (1 : Int32) := ⟨_, rfl⟩
    have h := fy_bl_some e187 h
    refine lv_iinc (k := 4) (v := x187) (lv' := [(4, .int x187), (3, .int x186), (0, .ref (g.2.2.1 0)), (1, .int v1), (2, .int v2), (5, .int v5)]) hx hb dX10_reverseClasses_187 hl rfl (by rw [e187]; rfl) (by decide) rfl (fun ls hl => ?_)
    refine lv_goto (tgt := 117) hx hb dX10_reverseClasses_190 (by decide) ?_
    exact hk117 _ _ _ _ _ _ _ _ h w (lv_sub hl [2, 3, 4, 1, 0] rfl)

set_option maxHeartbeats 4000000 in
set_option maxRecDepth 100000 in
theorem t_M_reverseClasses_129 {p : Program} {l : Launch} {e : Env} {s : State} {m : MethodId} {args : Array Value} {below : List Frame} {meth : Method} {c : Code} {g : fy_G} (C : fy_C g M_Y p s m args meth c yX10_reverseClasses.cls cX10_reverseClasses 6 (some .int)) {Sr : fy_S} {rr : Int32} {k105 : fy_S → Int32 → Int32 → Int32 → Option (fy_S × Int32)} {k117 : fy_S → Int32 → Int32 → Int32 → Int32 → Option (fy_S × Int32)} (hk105 : ∀ (S : fy_S) (v1 : Int32) (v2 : Int32) (v3 : Int32) (H : Heap) (locs : List Loc) (ls : Array Slot), k105 S v1 v2 v3 = some (Sr, rr) → fy_W g M_Y S s H locs → lv_has ls 6 [(0, .ref (g.2.2.1 0)), (1, .int v1), (2, .int v2), (3, .int v3)] → W p l e (fy_rm 4) s m args below meth c H locs 0 0 (MQ below (fy_QI g M_Y rr Sr) args s 0 0 (fy_A g M_Y)) (F0 m 105 ls [])) (hk117 : ∀ (S : fy_S) (v1 : Int32) (v2 : Int32) (v3 : Int32) (v4 : Int32) (H : Heap) (locs : List Loc) (ls : Array Slot), k117 S v1 v2 v3 v4 = some (Sr, rr) → fy_W g M_Y S s H locs → lv_has ls 6 [(0, .ref (g.2.2.1 0)), (1, .int v1), (2, .int v2), (3, .int v3), (4, .int v4)] → W p l e (fy_rm 4) s m args below meth c H locs 0 0 (MQ below (fy_QI g M_Y rr Sr) args s 0 0 (fy_A g M_Y)) (F0 m 117 ls [])) : ∀ (fu : Nat) (S : fy_S) (v1 : Int32) (v2 : Int32) (v3 : Int32) (v4 : Int32) (v5 : Int32) (H : Heap) (locs : List Loc) (ls : Array Slot), M_reverseClasses_129 k105 k117 fu S v1 v2 v3 v4 v5 = some (Sr, rr) → fy_W g M_Y S s H locs → lv_has ls 6 [(0, .ref (g.2.2.1 0)), (1, .int v1), (2, .int v2), (3, .int v3), (4, .int v4), (5, .int v5)] → W p l e (fy_rm 4) s m args below meth c H locs 0 0 (MQ below (fy_QI g M_Y rr Sr) args s 0 0 (fy_A g M_Y)) (F0 m 129 ls []) := by
  obtain ⟨hx, hb, hr, hts, hown, hlk, hml, hK, hD, hE, hN⟩ := id C
  intro fu
  induction fu with
  | zero => intro S v1 v2 v3 v4 v5 H locs ls h; cases h
  | succ fu ih =>
    intro S v1 v2 v3 v4 v5 H locs ls h w  hl
    rw [M_reverseClasses_129] at h
    refine lv_aload_n hx hb dX10_reverseClasses_129 rfl (lv_at hl 0 rfl) ?_
    refine lv_iload_n hx hb dX10_reverseClasses_130 rfl (lv_at hl 1 rfl) ?_
    refine lv_iload hx hb dX10_reverseClasses_131 (lv_at hl 5 rfl) ?_
    refine lv_iload hx hb dX10_reverseClasses_133 (lv_at hl 4 rfl) ?_
    obtain ⟨r135, h135, h⟩ := fy_bd_some h
    refine fy_calI w (fy_runV (As := [.int v1, .int v5, .int v4]) (rest := []) C w (c_M_isOneClass l g  h135) M_o ksX10_276 rfl ⟨Nat.le_of_ble_eq_true rfl, Nat.le_of_ble_eq_true rfl⟩ rfl hl.1 rfl (Nat.le_of_ble_eq_true rfl) ⟨Nat.le_refl _, Nat.le_refl _⟩ dX10_reverseClasses_135) (fun H locs w => ?_)
    refine lv_if_ne (tgt := 147) hx hb dX10_reverseClasses_138 (by decide) (fun hc => ?_) (fun hc => ?_)
    · have h := fy_if_f h hc
      refine lv_aload_n hx hb dX10_reverseClasses_147 rfl (lv_at hl 0 rfl) ?_
      refine gfX10_73 C w dX10_reverseClasses_148 ?_
      refine lv_iload hx hb dX10_reverseClasses_151 (lv_at hl 4 rfl) ?_
      refine lv_iload hx hb dX10_reverseClasses_153 (lv_at hl 5 rfl) ?_
      refine lv_iload hx hb dX10_reverseClasses_155 (lv_at hl 4 rfl) ?_
      refine lv_icmp_ne (tgt := 164) hx hb dX10_reverseClasses_157 (by decide) (fun hc => ?_) (fun hc => ?_)
      · have h := fy_if_f h hc
        refine lv_aload_n hx hb dX10_reverseClasses_164 rfl (lv_at hl 0 rfl) ?_
        refine gfX10_73 C w dX10_reverseClasses_165 ?_
        refine lv_iload hx hb dX10_reverseClasses_168 (lv_at hl 5 rfl) ?_
        obtain ⟨g170, h⟩ := fy_gd_some h
        refine fy_iald C w M_a22 g170 dX10_reverseClasses_170 ?_
        exact t_M_reverseClasses_171 C hk105 hk117 _ _ _ _ _ _ _ _ _ _ _ h w (lv_sub hl [0, 1, 2, 3, 4, 5] rfl)
      · have h := fy_if_t h hc
        refine lv_iload_n hx hb dX10_reverseClasses_160 rfl (lv_at hl 3 rfl) ?_
        refine lv_goto (tgt := 171) hx hb dX10_reverseClasses_161 (by decide) ?_
        exact t_M_reverseClasses_171 C hk105 hk117 _ _ _ _ _ _ _ _ _ _ _ h w (lv_sub hl [0, 1, 2, 3, 4, 5] rfl)
    · have h := fy_if_t h hc
      obtain ⟨x141, e141⟩ : ∃ z : Int32, z = v5 + (1 : Int32) := ⟨_, rfl⟩
      have h := fy_bl_some e141 h
      refine lv_iinc (k := 5) (v := x141) (lv' := [(5, .int x141), (0, .ref (g.2.2.1 0)), (1, .int v1), (2, .int v2), (3, .int v3), (4, .int v4)]) hx hb dX10_reverseClasses_141 hl rfl (by rw [e141]; rfl) (by decide) rfl (fun ls hl => ?_)
      refine lv_goto (tgt := 129) hx hb dX10_reverseClasses_144 (by decide) ?_
      exact ih _ _ _ _ _ _ _ _ _ h w (lv_sub hl [1, 2, 3, 4, 5, 0] rfl)

set_option maxHeartbeats 4000000 in
set_option maxRecDepth 100000 in
theorem t_M_reverseClasses_117 {p : Program} {l : Launch} {e : Env} {s : State} {m : MethodId} {args : Array Value} {below : List Frame} {meth : Method} {c : Code} {g : fy_G} (C : fy_C g M_Y p s m args meth c yX10_reverseClasses.cls cX10_reverseClasses 6 (some .int)) {Sr : fy_S} {rr : Int32} {k105 : fy_S → Int32 → Int32 → Int32 → Option (fy_S × Int32)} (hk105 : ∀ (S : fy_S) (v1 : Int32) (v2 : Int32) (v3 : Int32) (H : Heap) (locs : List Loc) (ls : Array Slot), k105 S v1 v2 v3 = some (Sr, rr) → fy_W g M_Y S s H locs → lv_has ls 6 [(0, .ref (g.2.2.1 0)), (1, .int v1), (2, .int v2), (3, .int v3)] → W p l e (fy_rm 4) s m args below meth c H locs 0 0 (MQ below (fy_QI g M_Y rr Sr) args s 0 0 (fy_A g M_Y)) (F0 m 105 ls [])) : ∀ (fu : Nat) (S : fy_S) (v1 : Int32) (v2 : Int32) (v3 : Int32) (v4 : Int32) (H : Heap) (locs : List Loc) (ls : Array Slot), M_reverseClasses_117 k105 fu S v1 v2 v3 v4 = some (Sr, rr) → fy_W g M_Y S s H locs → lv_has ls 6 [(0, .ref (g.2.2.1 0)), (1, .int v1), (2, .int v2), (3, .int v3), (4, .int v4)] → W p l e (fy_rm 4) s m args below meth c H locs 0 0 (MQ below (fy_QI g M_Y rr Sr) args s 0 0 (fy_A g M_Y)) (F0 m 117 ls []) := by
  obtain ⟨hx, hb, hr, hts, hown, hlk, hml, hK, hD, hE, hN⟩ := id C
  intro fu
  induction fu with
  | zero => intro S v1 v2 v3 v4 H locs ls h; cases h
  | succ fu ih =>
    intro S v1 v2 v3 v4 H locs ls h w  hl
    rw [M_reverseClasses_117] at h
    refine lv_iload hx hb dX10_reverseClasses_117 (lv_at hl 4 rfl) ?_
    refine lv_aload_n hx hb dX10_reverseClasses_119 rfl (lv_at hl 0 rfl) ?_
    refine gfX10_264 C w dX10_reverseClasses_120 ?_
    refine lv_icmp_ge (tgt := 193) hx hb dX10_reverseClasses_123 (by decide) (fun hc => ?_) (fun hc => ?_)
    · have h := fy_if_t h hc
      refine lv_iconst (v := (0 : Int32)) hx hb dX10_reverseClasses_193 (by decide) ?_
      refine lv_istore (lv' := [(4, .int (0 : Int32)), (0, .ref (g.2.2.1 0)), (1, .int v1), (2, .int v2), (3, .int v3)]) hx hb dX10_reverseClasses_194 hl (by decide) rfl (fun ls hl => ?_)
      exact t_M_reverseClasses_196 C hk105 fy_fu _ _ _ _ _ _ _ _ h w (lv_sub hl [1, 2, 3, 4, 0] rfl)
    · have h := fy_if_f h hc
      refine lv_iconst (v := (0 : Int32)) hx hb dX10_reverseClasses_126 (by decide) ?_
      refine lv_istore (lv' := [(5, .int (0 : Int32)), (0, .ref (g.2.2.1 0)), (1, .int v1), (2, .int v2), (3, .int v3), (4, .int v4)]) hx hb dX10_reverseClasses_127 hl (by decide) rfl (fun ls hl => ?_)
      exact t_M_reverseClasses_129 C hk105 ih fy_fu _ _ _ _ _ _ _ _ _ h w (lv_sub hl [1, 2, 3, 4, 5, 0] rfl)

set_option maxHeartbeats 4000000 in
set_option maxRecDepth 100000 in
theorem t_M_reverseClasses_105 {p : Program} {l : Launch} {e : Env} {s : State} {m : MethodId} {args : Array Value} {below : List Frame} {meth : Method} {c : Code} {g : fy_G} (C : fy_C g M_Y p s m args meth c yX10_reverseClasses.cls cX10_reverseClasses 6 (some .int)) {Sr : fy_S} {rr : Int32} : ∀ (fu : Nat) (S : fy_S) (v1 : Int32) (v2 : Int32) (v3 : Int32) (H : Heap) (locs : List Loc) (ls : Array Slot), M_reverseClasses_105 fu S v1 v2 v3 = some (Sr, rr) → fy_W g M_Y S s H locs → lv_has ls 6 [(0, .ref (g.2.2.1 0)), (1, .int v1), (2, .int v2), (3, .int v3)] → W p l e (fy_rm 4) s m args below meth c H locs 0 0 (MQ below (fy_QI g M_Y rr Sr) args s 0 0 (fy_A g M_Y)) (F0 m 105 ls []) := by
  obtain ⟨hx, hb, hr, hts, hown, hlk, hml, hK, hD, hE, hN⟩ := id C
  intro fu
  induction fu with
  | zero => intro S v1 v2 v3 H locs ls h; cases h
  | succ fu ih =>
    intro S v1 v2 v3 H locs ls h w  hl
    rw [M_reverseClasses_105] at h
    refine lv_iload_n hx hb dX10_reverseClasses_105 rfl (lv_at hl 3 rfl) ?_
    refine lv_iload_n hx hb dX10_reverseClasses_106 rfl (lv_at hl 2 rfl) ?_
    refine lv_icmp_eq (tgt := 228) hx hb dX10_reverseClasses_107 (by decide) (fun hc => ?_) (fun hc => ?_)
    · have h := fy_if_t h hc
      refine lv_iload_n hx hb dX10_reverseClasses_228 rfl (lv_at hl 3 rfl) ?_
      cases h
      exact fy_retI C w dX10_reverseClasses_229
    · have h := fy_if_f h hc
      refine lv_iload_n hx hb dX10_reverseClasses_110 rfl (lv_at hl 3 rfl) ?_
      refine lv_istore_n (lv' := [(2, .int v3), (0, .ref (g.2.2.1 0)), (1, .int v1), (3, .int v3)]) hx hb dX10_reverseClasses_111 rfl hl (by decide) rfl (fun ls hl => ?_)
      refine lv_iconst (v := (0 : Int32)) hx hb dX10_reverseClasses_112 (by decide) ?_
      refine lv_istore_n (lv' := [(3, .int (0 : Int32)), (2, .int v3), (0, .ref (g.2.2.1 0)), (1, .int v1)]) hx hb dX10_reverseClasses_113 rfl hl (by decide) rfl (fun ls hl => ?_)
      refine lv_iconst (v := (0 : Int32)) hx hb dX10_reverseClasses_114 (by decide) ?_
      refine lv_istore (lv' := [(4, .int (0 : Int32)), (3, .int (0 : Int32)), (2, .int v3), (0, .ref (g.2.2.1 0)), (1, .int v1)]) hx hb dX10_reverseClasses_115 hl (by decide) rfl (fun ls hl => ?_)
      exact t_M_reverseClasses_117 C ih fy_fu _ _ _ _ _ _ _ _ h w (lv_sub hl [3, 4, 2, 1, 0] rfl)

set_option maxHeartbeats 4000000 in
set_option maxRecDepth 100000 in
theorem t_M_reverseClasses_52 {p : Program} {l : Launch} {e : Env} {s : State} {m : MethodId} {args : Array Value} {below : List Frame} {meth : Method} {c : Code} {g : fy_G} (C : fy_C g M_Y p s m args meth c yX10_reverseClasses.cls cX10_reverseClasses 6 (some .int)) {Sr : fy_S} {rr : Int32} {k17 : fy_S → Int32 → Int32 → Option (fy_S × Int32)} (hk17 : ∀ (S : fy_S) (v1 : Int32) (v2 : Int32) (H : Heap) (locs : List Loc) (ls : Array Slot), k17 S v1 v2 = some (Sr, rr) → fy_W g M_Y S s H locs → lv_has ls 6 [(0, .ref (g.2.2.1 0)), (1, .int v1), (2, .int v2)] → W p l e (fy_rm 4) s m args below meth c H locs 0 0 (MQ below (fy_QI g M_Y rr Sr) args s 0 0 (fy_A g M_Y)) (F0 m 17 ls [])) : ∀ (fu : Nat) (S : fy_S) (v1 : Int32) (v2 : Int32) (v3 : Int32) (H : Heap) (locs : List Loc) (ls : Array Slot), M_reverseClasses_52 k17 fu S v1 v2 v3 = some (Sr, rr) → fy_W g M_Y S s H locs → lv_has ls 6 [(0, .ref (g.2.2.1 0)), (1, .int v1), (2, .int v2), (3, .int v3)] → W p l e (fy_rm 4) s m args below meth c H locs 0 0 (MQ below (fy_QI g M_Y rr Sr) args s 0 0 (fy_A g M_Y)) (F0 m 52 ls []) := by
  obtain ⟨hx, hb, hr, hts, hown, hlk, hml, hK, hD, hE, hN⟩ := id C
  intro fu
  induction fu with
  | zero => intro S v1 v2 v3 H locs ls h; cases h
  | succ fu ih =>
    intro S v1 v2 v3 H locs ls h w  hl
    rw [M_reverseClasses_52] at h
    refine lv_iload_n hx hb dX10_reverseClasses_52 rfl (lv_at hl 3 rfl) ?_
    refine lv_aload_n hx hb dX10_reverseClasses_53 rfl (lv_at hl 0 rfl) ?_
    refine gfX10_13 C w dX10_reverseClasses_54 ?_
    refine lv_iload_n hx hb dX10_reverseClasses_57 rfl (lv_at hl 1 rfl) ?_
    obtain ⟨g58, h⟩ := fy_gd_some h
    refine fy_iald C w M_a2 g58 dX10_reverseClasses_58 ?_
    refine lv_icmp_ge (tgt := 95) hx hb dX10_reverseClasses_59 (by decide) (fun hc => ?_) (fun hc => ?_)
    · have h := fy_if_t h hc
      obtain ⟨x95, e95⟩ : ∃ z : Int32, z = v2 + (1 : Int32) := ⟨_, rfl⟩
      have h := fy_bl_some e95 h
      refine lv_iinc (k := 2) (v := x95) (lv' := [(2, .int x95), (0, .ref (g.2.2.1 0)), (1, .int v1), (3, .int v3)]) hx hb dX10_reverseClasses_95 hl rfl (by rw [e95]; rfl) (by decide) rfl (fun ls hl => ?_)
      refine lv_goto (tgt := 17) hx hb dX10_reverseClasses_98 (by decide) ?_
      exact hk17 _ _ _ _ _ _ h w (lv_sub hl [1, 2, 0] rfl)
    · have h := fy_if_f h hc
      refine lv_aload_n hx hb dX10_reverseClasses_62 rfl (lv_at hl 0 rfl) ?_
      refine gfX10_76 C w dX10_reverseClasses_63 ?_
      refine lv_iconst (v := (3 : Int32)) hx hb dX10_reverseClasses_66 (by decide) ?_
      refine lv_iload_n hx hb dX10_reverseClasses_67 rfl (lv_at hl 2 rfl) ?_
      refine lv_imul hx hb dX10_reverseClasses_68 ?_
      refine lv_iload_n hx hb dX10_reverseClasses_69 rfl (lv_at hl 3 rfl) ?_
      refine lv_iadd hx hb dX10_reverseClasses_70 ?_
      refine lv_aload_n hx hb dX10_reverseClasses_71 rfl (lv_at hl 0 rfl) ?_
      refine gfX10_67 C w dX10_reverseClasses_72 ?_
      refine lv_aload_n hx hb dX10_reverseClasses_75 rfl (lv_at hl 0 rfl) ?_
      refine lv_iload_n hx hb dX10_reverseClasses_76 rfl (lv_at hl 1 rfl) ?_
      refine lv_iload_n hx hb dX10_reverseClasses_77 rfl (lv_at hl 3 rfl) ?_
      refine lv_aload_n hx hb dX10_reverseClasses_78 rfl (lv_at hl 0 rfl) ?_
      refine gfX10_64 C w dX10_reverseClasses_79 ?_
      refine lv_iload_n hx hb dX10_reverseClasses_82 rfl (lv_at hl 2 rfl) ?_
      obtain ⟨g83, h⟩ := fy_gd_some h
      refine fy_iald C w M_a19 g83 dX10_reverseClasses_83 ?_
      obtain ⟨r84, h84, h⟩ := fy_bd_some h
      refine fy_calI w (fy_runV (As := [.int v1, .int v3, .int (S.1 19 v2.toNatClampNeg)]) (rest := [.ref (g.2.2.1 20), .int (((3 : Int32) * v2) + v3), .ref (g.2.2.1 23)]) C w (c_M_stepOf l g  h84) M_o ksX10_240 rfl ⟨Nat.le_of_ble_eq_true rfl, Nat.le_of_ble_eq_true rfl⟩ rfl hl.1 rfl (Nat.le_of_ble_eq_true rfl) ⟨Nat.le_refl _, Nat.le_refl _⟩ dX10_reverseClasses_84) (fun H locs w => ?_)
      obtain ⟨g87, h⟩ := fy_gd_some h
      refine fy_iald C w M_a20 g87 dX10_reverseClasses_87 ?_
      obtain ⟨g88, h⟩ := fy_gd_some h
      refine fy_iast C w M_a23 g88 dX10_reverseClasses_88 (fun H locs w => ?_)
      obtain ⟨S88, e88⟩ : ∃ z, z = fy_sI S 23 (((3 : Int32) * v2) + v3).toNatClampNeg (S.1 20 r84.toNatClampNeg) := ⟨_, rfl⟩
      have h := fy_bl_some e88 h
      rw [← e88] at w
      obtain ⟨x89, e89⟩ : ∃ z : Int32, z = v3 + (1 : Int32) := ⟨_, rfl⟩
      have h := fy_bl_some e89 h
      refine lv_iinc (k := 3) (v := x89) (lv' := [(3, .int x89), (0, .ref (g.2.2.1 0)), (1, .int v1), (2, .int v2)]) hx hb dX10_reverseClasses_89 hl rfl (by rw [e89]; rfl) (by decide) rfl (fun ls hl => ?_)
      refine lv_goto (tgt := 52) hx hb dX10_reverseClasses_92 (by decide) ?_
      exact ih _ _ _ _ _ _ _ h w (lv_sub hl [1, 2, 3, 0] rfl)

set_option maxHeartbeats 4000000 in
set_option maxRecDepth 100000 in
theorem t_M_reverseClasses_49 {p : Program} {l : Launch} {e : Env} {s : State} {m : MethodId} {args : Array Value} {below : List Frame} {meth : Method} {c : Code} {g : fy_G} (C : fy_C g M_Y p s m args meth c yX10_reverseClasses.cls cX10_reverseClasses 6 (some .int)) {Sr : fy_S} {rr : Int32} {k17 : fy_S → Int32 → Int32 → Option (fy_S × Int32)} (hk17 : ∀ (S : fy_S) (v1 : Int32) (v2 : Int32) (H : Heap) (locs : List Loc) (ls : Array Slot), k17 S v1 v2 = some (Sr, rr) → fy_W g M_Y S s H locs → lv_has ls 6 [(0, .ref (g.2.2.1 0)), (1, .int v1), (2, .int v2)] → W p l e (fy_rm 4) s m args below meth c H locs 0 0 (MQ below (fy_QI g M_Y rr Sr) args s 0 0 (fy_A g M_Y)) (F0 m 17 ls [])) : ∀ (S : fy_S) (v1 : Int32) (v2 : Int32) (z0 : Int32) (z1 : Int32) (H : Heap) (locs : List Loc) (ls : Array Slot), M_reverseClasses_49 k17 S v1 v2 z0 z1 = some (Sr, rr) → fy_W g M_Y S s H locs → lv_has ls 6 [(0, .ref (g.2.2.1 0)), (1, .int v1), (2, .int v2)] → W p l e (fy_rm 4) s m args below meth c H locs 0 0 (MQ below (fy_QI g M_Y rr Sr) args s 0 0 (fy_A g M_Y)) (F0 m 49 ls [.int z0, .int z1, .ref (g.2.2.1 21)]) := by
  obtain ⟨hx, hb, hr, hts, hown, hlk, hml, hK, hD, hE, hN⟩ := id C
  intro S v1 v2 z0 z1 H locs ls h w  hl
  rw [M_reverseClasses_49] at h
  obtain ⟨g49, h⟩ := fy_gd_some h
  refine fy_iast C w M_a21 g49 dX10_reverseClasses_49 (fun H locs w => ?_)
  obtain ⟨S49, e49⟩ : ∃ z, z = fy_sI S 21 z1.toNatClampNeg z0 := ⟨_, rfl⟩
  have h := fy_bl_some e49 h
  rw [← e49] at w
  refine lv_iconst (v := (0 : Int32)) hx hb dX10_reverseClasses_50 (by decide) ?_
  refine lv_istore_n (lv' := [(3, .int (0 : Int32)), (0, .ref (g.2.2.1 0)), (1, .int v1), (2, .int v2)]) hx hb dX10_reverseClasses_51 rfl hl (by decide) rfl (fun ls hl => ?_)
  exact t_M_reverseClasses_52 C hk17 fy_fu _ _ _ _ _ _ _ h w (lv_sub hl [1, 2, 3, 0] rfl)

set_option maxHeartbeats 4000000 in
set_option maxRecDepth 100000 in
theorem t_M_reverseClasses_17 {p : Program} {l : Launch} {e : Env} {s : State} {m : MethodId} {args : Array Value} {below : List Frame} {meth : Method} {c : Code} {g : fy_G} (C : fy_C g M_Y p s m args meth c yX10_reverseClasses.cls cX10_reverseClasses 6 (some .int)) {Sr : fy_S} {rr : Int32} : ∀ (fu : Nat) (S : fy_S) (v1 : Int32) (v2 : Int32) (H : Heap) (locs : List Loc) (ls : Array Slot), M_reverseClasses_17 fu S v1 v2 = some (Sr, rr) → fy_W g M_Y S s H locs → lv_has ls 6 [(0, .ref (g.2.2.1 0)), (1, .int v1), (2, .int v2)] → W p l e (fy_rm 4) s m args below meth c H locs 0 0 (MQ below (fy_QI g M_Y rr Sr) args s 0 0 (fy_A g M_Y)) (F0 m 17 ls []) := by
  obtain ⟨hx, hb, hr, hts, hown, hlk, hml, hK, hD, hE, hN⟩ := id C
  intro fu
  induction fu with
  | zero => intro S v1 v2 H locs ls h; cases h
  | succ fu ih =>
    intro S v1 v2 H locs ls h w  hl
    rw [M_reverseClasses_17] at h
    refine lv_iload_n hx hb dX10_reverseClasses_17 rfl (lv_at hl 2 rfl) ?_
    refine lv_aload_n hx hb dX10_reverseClasses_18 rfl (lv_at hl 0 rfl) ?_
    refine gfX10_264 C w dX10_reverseClasses_19 ?_
    refine lv_icmp_ge (tgt := 101) hx hb dX10_reverseClasses_22 (by decide) (fun hc => ?_) (fun hc => ?_)
    · have h := fy_if_t h hc
      refine lv_iconst (v := (-1 : Int32)) hx hb dX10_reverseClasses_101 (by decide) ?_
      refine lv_istore_n (lv' := [(2, .int (-1 : Int32)), (0, .ref (g.2.2.1 0)), (1, .int v1)]) hx hb dX10_reverseClasses_102 rfl hl (by decide) rfl (fun ls hl => ?_)
      refine lv_iconst (v := (0 : Int32)) hx hb dX10_reverseClasses_103 (by decide) ?_
      refine lv_istore_n (lv' := [(3, .int (0 : Int32)), (2, .int (-1 : Int32)), (0, .ref (g.2.2.1 0)), (1, .int v1)]) hx hb dX10_reverseClasses_104 rfl hl (by decide) rfl (fun ls hl => ?_)
      exact t_M_reverseClasses_105 C fy_fu _ _ _ _ _ _ _ h w (lv_sub hl [2, 3, 1, 0] rfl)
    · have h := fy_if_f h hc
      refine lv_aload_n hx hb dX10_reverseClasses_25 rfl (lv_at hl 0 rfl) ?_
      refine gfX10_70 C w dX10_reverseClasses_26 ?_
      refine lv_iload_n hx hb dX10_reverseClasses_29 rfl (lv_at hl 2 rfl) ?_
      refine lv_aload_n hx hb dX10_reverseClasses_30 rfl (lv_at hl 0 rfl) ?_
      refine lv_iload_n hx hb dX10_reverseClasses_31 rfl (lv_at hl 1 rfl) ?_
      refine lv_aload_n hx hb dX10_reverseClasses_32 rfl (lv_at hl 0 rfl) ?_
      refine gfX10_64 C w dX10_reverseClasses_33 ?_
      refine lv_iload_n hx hb dX10_reverseClasses_36 rfl (lv_at hl 2 rfl) ?_
      obtain ⟨g37, h⟩ := fy_gd_some h
      refine fy_iald C w M_a19 g37 dX10_reverseClasses_37 ?_
      obtain ⟨r38, h38, h⟩ := fy_bd_some h
      refine fy_calI w (fy_runV (As := [.int v1, .int (S.1 19 v2.toNatClampNeg)]) (rest := [.int v2, .ref (g.2.2.1 21)]) C w (c_M_isAccepting l g  h38) M_o ksX10_249 rfl ⟨Nat.le_of_ble_eq_true rfl, Nat.le_of_ble_eq_true rfl⟩ rfl hl.1 rfl (Nat.le_of_ble_eq_true rfl) ⟨Nat.le_refl _, Nat.le_refl _⟩ dX10_reverseClasses_38) (fun H locs w => ?_)
      refine lv_if_eq (tgt := 48) hx hb dX10_reverseClasses_41 (by decide) (fun hc => ?_) (fun hc => ?_)
      · have h := fy_if_t h hc
        refine lv_iconst (v := (0 : Int32)) hx hb dX10_reverseClasses_48 (by decide) ?_
        exact t_M_reverseClasses_49 C ih _ _ _ _ _ _ _ _ h w (lv_sub hl [0, 1, 2] rfl)
      · have h := fy_if_f h hc
        refine lv_iconst (v := (1 : Int32)) hx hb dX10_reverseClasses_44 (by decide) ?_
        refine lv_goto (tgt := 49) hx hb dX10_reverseClasses_45 (by decide) ?_
        exact t_M_reverseClasses_49 C ih _ _ _ _ _ _ _ _ h w (lv_sub hl [0, 1, 2] rfl)

set_option maxHeartbeats 4000000 in
set_option maxRecDepth 100000 in
theorem t_M_reverseClasses {p : Program} {l : Launch} {e : Env} {s : State} {m : MethodId} {args : Array Value} {below : List Frame} {meth : Method} {c : Code} {g : fy_G} (C : fy_C g M_Y p s m args meth c yX10_reverseClasses.cls cX10_reverseClasses 6 (some .int)) {S : fy_S} {v1 : Int32} {Sr : fy_S} {rr : Int32}  {H : Heap} {locs : List Loc} {ls : Array Slot} (h : M_reverseClasses S v1 = some (Sr, rr)) (w : fy_W g M_Y S s H locs) (hl : lv_has ls 6 [(0, .ref (g.2.2.1 0)), (1, .int v1)]) : W p l e (fy_rm 4) s m args below meth c H locs 0 0 (MQ below (fy_QI g M_Y rr Sr) args s 0 0 (fy_A g M_Y)) (F0 m 0 ls []) := by
  obtain ⟨hx, hb, hr, hts, hown, hlk, hml, hK, hD, hE, hN⟩ := id C
  rw [M_reverseClasses] at h
  refine lv_iload_n hx hb dX10_reverseClasses_0 rfl (lv_at hl 1 rfl) ?_
  obtain ⟨r1, h1, h⟩ := fy_bd_some h
  refine fy_calI w (fy_runS (As := [.int v1]) (rest := []) C w (c_M_isSlot l g  h1) ksX10_123 ⟨Nat.le_of_ble_eq_true rfl, Nat.le_of_ble_eq_true rfl⟩ rfl hl.1 rfl (Nat.le_of_ble_eq_true rfl) ⟨Nat.le_refl _, Nat.le_refl _⟩ dX10_reverseClasses_1) (fun H locs w => ?_)
  refine lv_if_ne (tgt := 10) hx hb dX10_reverseClasses_4 (by decide) (fun hc => ?_) (fun hc => ?_)
  · have h := fy_if_f h hc
    refine lv_aload_n hx hb dX10_reverseClasses_10 rfl (lv_at hl 0 rfl) ?_
    refine lv_iload_n hx hb dX10_reverseClasses_11 rfl (lv_at hl 1 rfl) ?_
    obtain ⟨S12, h12, h⟩ := fy_bd_some h
    refine fy_calV w (fy_runV (As := [.int v1]) (rest := []) C w (c_M_findReverse l g  h12) M_o ksX10_273 rfl ⟨Nat.le_of_ble_eq_true rfl, Nat.le_of_ble_eq_true rfl⟩ rfl hl.1 rfl (Nat.le_of_ble_eq_true rfl) ⟨Nat.le_refl _, Nat.le_refl _⟩ dX10_reverseClasses_12) (fun H locs w => ?_)
    refine lv_iconst (v := (0 : Int32)) hx hb dX10_reverseClasses_15 (by decide) ?_
    refine lv_istore_n (lv' := [(2, .int (0 : Int32)), (0, .ref (g.2.2.1 0)), (1, .int v1)]) hx hb dX10_reverseClasses_16 rfl hl (by decide) rfl (fun ls hl => ?_)
    exact t_M_reverseClasses_17 C fy_fu _ _ _ _ _ _ h w (lv_sub hl [1, 2, 0] rfl)
  · have h := fy_if_t h hc
    refine lv_bipush (v := (-2 : Int32)) hx hb dX10_reverseClasses_7 (by decide) ?_
    cases h
    exact fy_retI C w dX10_reverseClasses_9

set_option maxHeartbeats 4000000 in
set_option maxRecDepth 100000 in
theorem c_M_reverseClasses (l : Launch) (g : fy_G) {S : fy_S} {v1 : Int32} {Sr : fy_S} {rr : Int32}  (h : M_reverseClasses S v1 = some (Sr, rr)) : fy_M g M_Y l yX10_reverseClasses cX10_reverseClasses 6 (some .int) (fy_rm 4) [.ref (g.2.2.1 0), .int v1] S (fy_QI g M_Y rr Sr) :=
  fy_entry (by decide +kernel) (Nat.le_of_ble_eq_true rfl) (fun p e s m args below meth c ls C w hl => t_M_reverseClasses C  h w hl)
def M_modelsCome_2 : Nat → fy_S → Int32 → Option (fy_S)
  | 0, _, _ => none
  | fu + 1, S, v1 =>
    fy_bd (M_allOf S (S.1 0 20)) fun r8 =>
    if r8 < v1 then (
      some S)
    else (
      fy_bd (M_isMinimal S v1) fun r16 =>
      if r16 = 0 then (
        fy_bl (v1 + (1 : Int32)) fun x28 =>
        M_modelsCome_2 fu S x28)
      else (
        fy_bp (M_comes S v1) fun S24 r24 =>
        fy_bl (v1 + (1 : Int32)) fun x28 =>
        M_modelsCome_2 fu S24 x28))
def M_modelsCome (S : fy_S)  : Option (fy_S) :=
  M_modelsCome_2 fy_fu S (0 : Int32)
set_option maxHeartbeats 4000000 in
set_option maxRecDepth 100000 in
theorem t_M_modelsCome_2 {p : Program} {l : Launch} {e : Env} {s : State} {m : MethodId} {args : Array Value} {below : List Frame} {meth : Method} {c : Code} {g : fy_G} (C : fy_C g M_Y p s m args meth c yX10_modelsCome.cls cX10_modelsCome 2 none) {Sr : fy_S}  : ∀ (fu : Nat) (S : fy_S) (v1 : Int32) (H : Heap) (locs : List Loc) (ls : Array Slot), M_modelsCome_2 fu S v1 = some Sr → fy_W g M_Y S s H locs → lv_has ls 2 [(0, .ref (g.2.2.1 0)), (1, .int v1)] → W p l e (fy_rm 4) s m args below meth c H locs 0 0 (MQ below (fy_QV g M_Y Sr) args s 0 0 (fy_A g M_Y)) (F0 m 2 ls []) := by
  obtain ⟨hx, hb, hr, hts, hown, hlk, hml, hK, hD, hE, hN⟩ := id C
  intro fu
  induction fu with
  | zero => intro S v1 H locs ls h; cases h
  | succ fu ih =>
    intro S v1 H locs ls h w  hl
    rw [M_modelsCome_2] at h
    refine lv_iload_n hx hb dX10_modelsCome_2 rfl (lv_at hl 1 rfl) ?_
    refine lv_aload_n hx hb dX10_modelsCome_3 rfl (lv_at hl 0 rfl) ?_
    refine lv_aload_n hx hb dX10_modelsCome_4 rfl (lv_at hl 0 rfl) ?_
    refine gfX10_215 C w dX10_modelsCome_5 ?_
    obtain ⟨r8, h8, h⟩ := fy_bd_some h
    refine fy_calI w (fy_runV (As := [.int (S.1 0 20)]) (rest := [.int v1]) C w (c_M_allOf l g  h8) M_o ksX10_115 rfl ⟨Nat.le_of_ble_eq_true rfl, Nat.le_of_ble_eq_true rfl⟩ rfl hl.1 rfl (Nat.le_of_ble_eq_true rfl) ⟨Nat.le_refl _, Nat.le_refl _⟩ dX10_modelsCome_8) (fun H locs w => ?_)
    refine lv_icmp_gt (tgt := 34) hx hb dX10_modelsCome_11 (by decide) (fun hc => ?_) (fun hc => ?_)
    · have h := fy_if_t h hc
      cases h
      exact fy_retV C w dX10_modelsCome_34
    · have h := fy_if_f h hc
      refine lv_aload_n hx hb dX10_modelsCome_14 rfl (lv_at hl 0 rfl) ?_
      refine lv_iload_n hx hb dX10_modelsCome_15 rfl (lv_at hl 1 rfl) ?_
      obtain ⟨r16, h16, h⟩ := fy_bd_some h
      refine fy_calI w (fy_runV (As := [.int v1]) (rest := []) C w (c_M_isMinimal l g  h16) M_o ksX10_234 rfl ⟨Nat.le_of_ble_eq_true rfl, Nat.le_of_ble_eq_true rfl⟩ rfl hl.1 rfl (Nat.le_of_ble_eq_true rfl) ⟨Nat.le_refl _, Nat.le_refl _⟩ dX10_modelsCome_16) (fun H locs w => ?_)
      refine lv_if_eq (tgt := 28) hx hb dX10_modelsCome_19 (by decide) (fun hc => ?_) (fun hc => ?_)
      · have h := fy_if_t h hc
        obtain ⟨x28, e28⟩ : ∃ z : Int32, z = v1 + (1 : Int32) := ⟨_, rfl⟩
        have h := fy_bl_some e28 h
        refine lv_iinc (k := 1) (v := x28) (lv' := [(1, .int x28), (0, .ref (g.2.2.1 0))]) hx hb dX10_modelsCome_28 hl rfl (by rw [e28]; rfl) (by decide) rfl (fun ls hl => ?_)
        refine lv_goto (tgt := 2) hx hb dX10_modelsCome_31 (by decide) ?_
        exact ih _ _ _ _ _ h w (lv_sub hl [1, 0] rfl)
      · have h := fy_if_f h hc
        refine lv_aload_n hx hb dX10_modelsCome_22 rfl (lv_at hl 0 rfl) ?_
        refine lv_iload_n hx hb dX10_modelsCome_23 rfl (lv_at hl 1 rfl) ?_
        obtain ⟨S24, r24, h24, h⟩ := fy_bp_some h
        refine fy_calI w (fy_runV (As := [.int v1]) (rest := []) C w (c_M_comes l g  h24) M_o ksX10_270 rfl ⟨Nat.le_of_ble_eq_true rfl, Nat.le_of_ble_eq_true rfl⟩ rfl hl.1 rfl (Nat.le_of_ble_eq_true rfl) ⟨Nat.le_refl _, Nat.le_refl _⟩ dX10_modelsCome_24) (fun H locs w => ?_)
        refine lv_pop hx hb dX10_modelsCome_27 rfl ?_
        obtain ⟨x28, e28⟩ : ∃ z : Int32, z = v1 + (1 : Int32) := ⟨_, rfl⟩
        have h := fy_bl_some e28 h
        refine lv_iinc (k := 1) (v := x28) (lv' := [(1, .int x28), (0, .ref (g.2.2.1 0))]) hx hb dX10_modelsCome_28 hl rfl (by rw [e28]; rfl) (by decide) rfl (fun ls hl => ?_)
        refine lv_goto (tgt := 2) hx hb dX10_modelsCome_31 (by decide) ?_
        exact ih _ _ _ _ _ h w (lv_sub hl [1, 0] rfl)

set_option maxHeartbeats 4000000 in
set_option maxRecDepth 100000 in
theorem t_M_modelsCome {p : Program} {l : Launch} {e : Env} {s : State} {m : MethodId} {args : Array Value} {below : List Frame} {meth : Method} {c : Code} {g : fy_G} (C : fy_C g M_Y p s m args meth c yX10_modelsCome.cls cX10_modelsCome 2 none) {S : fy_S}  {Sr : fy_S}   {H : Heap} {locs : List Loc} {ls : Array Slot} (h : M_modelsCome S  = some Sr) (w : fy_W g M_Y S s H locs) (hl : lv_has ls 2 [(0, .ref (g.2.2.1 0))]) : W p l e (fy_rm 4) s m args below meth c H locs 0 0 (MQ below (fy_QV g M_Y Sr) args s 0 0 (fy_A g M_Y)) (F0 m 0 ls []) := by
  obtain ⟨hx, hb, hr, hts, hown, hlk, hml, hK, hD, hE, hN⟩ := id C
  rw [M_modelsCome] at h
  refine lv_iconst (v := (0 : Int32)) hx hb dX10_modelsCome_0 (by decide) ?_
  refine lv_istore_n (lv' := [(1, .int (0 : Int32)), (0, .ref (g.2.2.1 0))]) hx hb dX10_modelsCome_1 rfl hl (by decide) rfl (fun ls hl => ?_)
  exact t_M_modelsCome_2 C fy_fu _ _ _ _ _ h w (lv_sub hl [1, 0] rfl)

set_option maxHeartbeats 4000000 in
set_option maxRecDepth 100000 in
theorem c_M_modelsCome (l : Launch) (g : fy_G) {S : fy_S}  {Sr : fy_S}   (h : M_modelsCome S  = some Sr) : fy_M g M_Y l yX10_modelsCome cX10_modelsCome 2 none (fy_rm 4) [.ref (g.2.2.1 0)] S (fy_QV g M_Y Sr) :=
  fy_entry (by decide +kernel) (Nat.le_of_ble_eq_true rfl) (fun p e s m args below meth c ls C w hl => t_M_modelsCome C  h w hl)
def M_existentialStates_38 (k28 : fy_S → Int32 → Int32 → Option (fy_S × Int32)) : Nat → fy_S → Int32 → Int32 → Int32 → Option (fy_S × Int32)
  | 0, _, _, _, _ => none
  | fu + 1, S, v1, v2, v3 =>
    fy_gd (fy_ix v1 7) <|
    if (S.1 2 v1.toNatClampNeg) ≤ v3 then (
      fy_bl (v2 + (1 : Int32)) fun x71 =>
      k28 S v1 x71)
    else (
      fy_gd (fy_ix v2 64) <|
      fy_bd (M_wants S v1 (-1 : Int32) (S.1 19 v2.toNatClampNeg) v3) fun S58 =>
      fy_bd (M_modelsCome S58 ) fun S62 =>
      fy_bl (v3 + (1 : Int32)) fun x65 =>
      M_existentialStates_38 k28 fu S62 v1 v2 x65)
def M_existentialStates_28 : Nat → fy_S → Int32 → Int32 → Option (fy_S × Int32)
  | 0, _, _, _ => none
  | fu + 1, S, v1, v2 =>
    if (S.1 0 34) ≤ v2 then (
      some (S, (S.1 0 34)))
    else (
      M_existentialStates_38 (fun S v1 v2 => M_existentialStates_28 fu S v1 v2) fy_fu S v1 v2 (0 : Int32))
def M_existentialStates (S : fy_S) (v1 : Int32) : Option (fy_S × Int32) :=
  fy_bd (M_isSlot S v1) fun r1 =>
  if r1 = 0 then (
    some (S, (-2 : Int32)))
  else (
    fy_bd (M_forgets S ) fun S11 =>
    fy_bd (M_wants S11 v1 (0 : Int32) (0 : Int32) (0 : Int32)) fun S19 =>
    fy_bd (M_modelsCome S19 ) fun S23 =>
    M_existentialStates_28 fy_fu S23 v1 (0 : Int32))
set_option maxHeartbeats 4000000 in
set_option maxRecDepth 100000 in
theorem t_M_existentialStates_38 {p : Program} {l : Launch} {e : Env} {s : State} {m : MethodId} {args : Array Value} {below : List Frame} {meth : Method} {c : Code} {g : fy_G} (C : fy_C g M_Y p s m args meth c yX10_existentialStates.cls cX10_existentialStates 4 (some .int)) {Sr : fy_S} {rr : Int32} {k28 : fy_S → Int32 → Int32 → Option (fy_S × Int32)} (hk28 : ∀ (S : fy_S) (v1 : Int32) (v2 : Int32) (H : Heap) (locs : List Loc) (ls : Array Slot), k28 S v1 v2 = some (Sr, rr) → fy_W g M_Y S s H locs → lv_has ls 4 [(0, .ref (g.2.2.1 0)), (1, .int v1), (2, .int v2)] → W p l e (fy_rm 5) s m args below meth c H locs 0 0 (MQ below (fy_QI g M_Y rr Sr) args s 0 0 (fy_A g M_Y)) (F0 m 28 ls [])) : ∀ (fu : Nat) (S : fy_S) (v1 : Int32) (v2 : Int32) (v3 : Int32) (H : Heap) (locs : List Loc) (ls : Array Slot), M_existentialStates_38 k28 fu S v1 v2 v3 = some (Sr, rr) → fy_W g M_Y S s H locs → lv_has ls 4 [(0, .ref (g.2.2.1 0)), (1, .int v1), (2, .int v2), (3, .int v3)] → W p l e (fy_rm 5) s m args below meth c H locs 0 0 (MQ below (fy_QI g M_Y rr Sr) args s 0 0 (fy_A g M_Y)) (F0 m 38 ls []) := by
  obtain ⟨hx, hb, hr, hts, hown, hlk, hml, hK, hD, hE, hN⟩ := id C
  intro fu
  induction fu with
  | zero => intro S v1 v2 v3 H locs ls h; cases h
  | succ fu ih =>
    intro S v1 v2 v3 H locs ls h w  hl
    rw [M_existentialStates_38] at h
    refine lv_iload_n hx hb dX10_existentialStates_38 rfl (lv_at hl 3 rfl) ?_
    refine lv_aload_n hx hb dX10_existentialStates_39 rfl (lv_at hl 0 rfl) ?_
    refine gfX10_13 C w dX10_existentialStates_40 ?_
    refine lv_iload_n hx hb dX10_existentialStates_43 rfl (lv_at hl 1 rfl) ?_
    obtain ⟨g44, h⟩ := fy_gd_some h
    refine fy_iald C w M_a2 g44 dX10_existentialStates_44 ?_
    refine lv_icmp_ge (tgt := 71) hx hb dX10_existentialStates_45 (by decide) (fun hc => ?_) (fun hc => ?_)
    · have h := fy_if_t h hc
      obtain ⟨x71, e71⟩ : ∃ z : Int32, z = v2 + (1 : Int32) := ⟨_, rfl⟩
      have h := fy_bl_some e71 h
      refine lv_iinc (k := 2) (v := x71) (lv' := [(2, .int x71), (0, .ref (g.2.2.1 0)), (1, .int v1), (3, .int v3)]) hx hb dX10_existentialStates_71 hl rfl (by rw [e71]; rfl) (by decide) rfl (fun ls hl => ?_)
      refine lv_goto (tgt := 28) hx hb dX10_existentialStates_74 (by decide) ?_
      exact hk28 _ _ _ _ _ _ h w (lv_sub hl [1, 2, 0] rfl)
    · have h := fy_if_f h hc
      refine lv_aload_n hx hb dX10_existentialStates_48 rfl (lv_at hl 0 rfl) ?_
      refine lv_iload_n hx hb dX10_existentialStates_49 rfl (lv_at hl 1 rfl) ?_
      refine lv_iconst (v := (-1 : Int32)) hx hb dX10_existentialStates_50 (by decide) ?_
      refine lv_aload_n hx hb dX10_existentialStates_51 rfl (lv_at hl 0 rfl) ?_
      refine gfX10_64 C w dX10_existentialStates_52 ?_
      refine lv_iload_n hx hb dX10_existentialStates_55 rfl (lv_at hl 2 rfl) ?_
      obtain ⟨g56, h⟩ := fy_gd_some h
      refine fy_iald C w M_a19 g56 dX10_existentialStates_56 ?_
      refine lv_iload_n hx hb dX10_existentialStates_57 rfl (lv_at hl 3 rfl) ?_
      obtain ⟨S58, h58, h⟩ := fy_bd_some h
      refine fy_calV w (fy_runV (As := [.int v1, .int (-1 : Int32), .int (S.1 19 v2.toNatClampNeg), .int v3]) (rest := []) C w (c_M_wants l g  h58) M_o ksX10_227 rfl ⟨Nat.le_of_ble_eq_true rfl, Nat.le_of_ble_eq_true rfl⟩ rfl hl.1 rfl (Nat.le_of_ble_eq_true rfl) ⟨Nat.le_refl _, Nat.le_refl _⟩ dX10_existentialStates_58) (fun H locs w => ?_)
      refine lv_aload_n hx hb dX10_existentialStates_61 rfl (lv_at hl 0 rfl) ?_
      obtain ⟨S62, h62, h⟩ := fy_bd_some h
      refine fy_calV w (fy_runV (As := []) (rest := []) C w (c_M_modelsCome l g  h62) M_o ksX10_279 rfl ⟨Nat.le_of_ble_eq_true rfl, Nat.le_of_ble_eq_true rfl⟩ rfl hl.1 rfl (Nat.le_of_ble_eq_true rfl) ⟨Nat.le_refl _, Nat.le_refl _⟩ dX10_existentialStates_62) (fun H locs w => ?_)
      obtain ⟨x65, e65⟩ : ∃ z : Int32, z = v3 + (1 : Int32) := ⟨_, rfl⟩
      have h := fy_bl_some e65 h
      refine lv_iinc (k := 3) (v := x65) (lv' := [(3, .int x65), (0, .ref (g.2.2.1 0)), (1, .int v1), (2, .int v2)]) hx hb dX10_existentialStates_65 hl rfl (by rw [e65]; rfl) (by decide) rfl (fun ls hl => ?_)
      refine lv_goto (tgt := 38) hx hb dX10_existentialStates_68 (by decide) ?_
      exact ih _ _ _ _ _ _ _ h w (lv_sub hl [1, 2, 3, 0] rfl)

set_option maxHeartbeats 4000000 in
set_option maxRecDepth 100000 in
theorem t_M_existentialStates_28 {p : Program} {l : Launch} {e : Env} {s : State} {m : MethodId} {args : Array Value} {below : List Frame} {meth : Method} {c : Code} {g : fy_G} (C : fy_C g M_Y p s m args meth c yX10_existentialStates.cls cX10_existentialStates 4 (some .int)) {Sr : fy_S} {rr : Int32} : ∀ (fu : Nat) (S : fy_S) (v1 : Int32) (v2 : Int32) (H : Heap) (locs : List Loc) (ls : Array Slot), M_existentialStates_28 fu S v1 v2 = some (Sr, rr) → fy_W g M_Y S s H locs → lv_has ls 4 [(0, .ref (g.2.2.1 0)), (1, .int v1), (2, .int v2)] → W p l e (fy_rm 5) s m args below meth c H locs 0 0 (MQ below (fy_QI g M_Y rr Sr) args s 0 0 (fy_A g M_Y)) (F0 m 28 ls []) := by
  obtain ⟨hx, hb, hr, hts, hown, hlk, hml, hK, hD, hE, hN⟩ := id C
  intro fu
  induction fu with
  | zero => intro S v1 v2 H locs ls h; cases h
  | succ fu ih =>
    intro S v1 v2 H locs ls h w  hl
    rw [M_existentialStates_28] at h
    refine lv_iload_n hx hb dX10_existentialStates_28 rfl (lv_at hl 2 rfl) ?_
    refine lv_aload_n hx hb dX10_existentialStates_29 rfl (lv_at hl 0 rfl) ?_
    refine gfX10_264 C w dX10_existentialStates_30 ?_
    refine lv_icmp_ge (tgt := 77) hx hb dX10_existentialStates_33 (by decide) (fun hc => ?_) (fun hc => ?_)
    · have h := fy_if_t h hc
      refine lv_aload_n hx hb dX10_existentialStates_77 rfl (lv_at hl 0 rfl) ?_
      refine gfX10_264 C w dX10_existentialStates_78 ?_
      cases h
      exact fy_retI C w dX10_existentialStates_81
    · have h := fy_if_f h hc
      refine lv_iconst (v := (0 : Int32)) hx hb dX10_existentialStates_36 (by decide) ?_
      refine lv_istore_n (lv' := [(3, .int (0 : Int32)), (0, .ref (g.2.2.1 0)), (1, .int v1), (2, .int v2)]) hx hb dX10_existentialStates_37 rfl hl (by decide) rfl (fun ls hl => ?_)
      exact t_M_existentialStates_38 C ih fy_fu _ _ _ _ _ _ _ h w (lv_sub hl [1, 2, 3, 0] rfl)

set_option maxHeartbeats 4000000 in
set_option maxRecDepth 100000 in
theorem t_M_existentialStates {p : Program} {l : Launch} {e : Env} {s : State} {m : MethodId} {args : Array Value} {below : List Frame} {meth : Method} {c : Code} {g : fy_G} (C : fy_C g M_Y p s m args meth c yX10_existentialStates.cls cX10_existentialStates 4 (some .int)) {S : fy_S} {v1 : Int32} {Sr : fy_S} {rr : Int32}  {H : Heap} {locs : List Loc} {ls : Array Slot} (h : M_existentialStates S v1 = some (Sr, rr)) (w : fy_W g M_Y S s H locs) (hl : lv_has ls 4 [(0, .ref (g.2.2.1 0)), (1, .int v1)]) : W p l e (fy_rm 5) s m args below meth c H locs 0 0 (MQ below (fy_QI g M_Y rr Sr) args s 0 0 (fy_A g M_Y)) (F0 m 0 ls []) := by
  obtain ⟨hx, hb, hr, hts, hown, hlk, hml, hK, hD, hE, hN⟩ := id C
  rw [M_existentialStates] at h
  refine lv_iload_n hx hb dX10_existentialStates_0 rfl (lv_at hl 1 rfl) ?_
  obtain ⟨r1, h1, h⟩ := fy_bd_some h
  refine fy_calI w (fy_runS (As := [.int v1]) (rest := []) C w (c_M_isSlot l g  h1) ksX10_123 ⟨Nat.le_of_ble_eq_true rfl, Nat.le_of_ble_eq_true rfl⟩ rfl hl.1 rfl (Nat.le_of_ble_eq_true rfl) ⟨Nat.le_refl _, Nat.le_refl _⟩ dX10_existentialStates_1) (fun H locs w => ?_)
  refine lv_if_ne (tgt := 10) hx hb dX10_existentialStates_4 (by decide) (fun hc => ?_) (fun hc => ?_)
  · have h := fy_if_f h hc
    refine lv_aload_n hx hb dX10_existentialStates_10 rfl (lv_at hl 0 rfl) ?_
    obtain ⟨S11, h11, h⟩ := fy_bd_some h
    refine fy_calV w (fy_runV (As := []) (rest := []) C w (c_M_forgets l g  h11) M_o ksX10_267 rfl ⟨Nat.le_of_ble_eq_true rfl, Nat.le_of_ble_eq_true rfl⟩ rfl hl.1 rfl (Nat.le_of_ble_eq_true rfl) ⟨Nat.le_refl _, Nat.le_refl _⟩ dX10_existentialStates_11) (fun H locs w => ?_)
    refine lv_aload_n hx hb dX10_existentialStates_14 rfl (lv_at hl 0 rfl) ?_
    refine lv_iload_n hx hb dX10_existentialStates_15 rfl (lv_at hl 1 rfl) ?_
    refine lv_iconst (v := (0 : Int32)) hx hb dX10_existentialStates_16 (by decide) ?_
    refine lv_iconst (v := (0 : Int32)) hx hb dX10_existentialStates_17 (by decide) ?_
    refine lv_iconst (v := (0 : Int32)) hx hb dX10_existentialStates_18 (by decide) ?_
    obtain ⟨S19, h19, h⟩ := fy_bd_some h
    refine fy_calV w (fy_runV (As := [.int v1, .int (0 : Int32), .int (0 : Int32), .int (0 : Int32)]) (rest := []) C w (c_M_wants l g  h19) M_o ksX10_227 rfl ⟨Nat.le_of_ble_eq_true rfl, Nat.le_of_ble_eq_true rfl⟩ rfl hl.1 rfl (Nat.le_of_ble_eq_true rfl) ⟨Nat.le_refl _, Nat.le_refl _⟩ dX10_existentialStates_19) (fun H locs w => ?_)
    refine lv_aload_n hx hb dX10_existentialStates_22 rfl (lv_at hl 0 rfl) ?_
    obtain ⟨S23, h23, h⟩ := fy_bd_some h
    refine fy_calV w (fy_runV (As := []) (rest := []) C w (c_M_modelsCome l g  h23) M_o ksX10_279 rfl ⟨Nat.le_of_ble_eq_true rfl, Nat.le_of_ble_eq_true rfl⟩ rfl hl.1 rfl (Nat.le_of_ble_eq_true rfl) ⟨Nat.le_refl _, Nat.le_refl _⟩ dX10_existentialStates_23) (fun H locs w => ?_)
    refine lv_iconst (v := (0 : Int32)) hx hb dX10_existentialStates_26 (by decide) ?_
    refine lv_istore_n (lv' := [(2, .int (0 : Int32)), (0, .ref (g.2.2.1 0)), (1, .int v1)]) hx hb dX10_existentialStates_27 rfl hl (by decide) rfl (fun ls hl => ?_)
    exact t_M_existentialStates_28 C fy_fu _ _ _ _ _ _ h w (lv_sub hl [1, 2, 0] rfl)
  · have h := fy_if_t h hc
    refine lv_bipush (v := (-2 : Int32)) hx hb dX10_existentialStates_7 (by decide) ?_
    cases h
    exact fy_retI C w dX10_existentialStates_9

set_option maxHeartbeats 4000000 in
set_option maxRecDepth 100000 in
theorem c_M_existentialStates (l : Launch) (g : fy_G) {S : fy_S} {v1 : Int32} {Sr : fy_S} {rr : Int32}  (h : M_existentialStates S v1 = some (Sr, rr)) : fy_M g M_Y l yX10_existentialStates cX10_existentialStates 4 (some .int) (fy_rm 5) [.ref (g.2.2.1 0), .int v1] S (fy_QI g M_Y rr Sr) :=
  fy_entry (by decide +kernel) (Nat.le_of_ble_eq_true rfl) (fun p e s m args below meth c ls C w hl => t_M_existentialStates C  h w hl)
def M_existentialSets_146 : Nat → fy_S → Int32 → Int32 → Int32 → Int32 → Option (fy_S × Int32)
  | 0, _, _, _, _, _ => none
  | fu + 1, S, v1, v2, v3, v4 =>
    if (S.1 0 34) ≤ v4 then (
      some (S, v3))
    else (
      if v2 = 0 then (
        fy_bl (v3 + (1 : Int32)) fun x185 =>
        fy_bl (v4 + (1 : Int32)) fun x186 =>
        M_existentialSets_146 fu S v1 v2 x185 x186)
      else (
        fy_gd (fy_ix v4 64) <|
        fy_gd (fy_ix v1 7) <|
        if ((S.1 19 v4.toNatClampNeg) &&& ((S.1 3 v1.toNatClampNeg) ^^^ (-1 : Int32))) = 0 then (
          fy_bl (v3 + (1 : Int32)) fun x185 =>
          fy_bl (v4 + (1 : Int32)) fun x186 =>
          M_existentialSets_146 fu S v1 v2 x185 x186)
        else (
          fy_bl (v3 + (0 : Int32)) fun x185 =>
          fy_bl (v4 + (1 : Int32)) fun x186 =>
          M_existentialSets_146 fu S v1 v2 x185 x186)))
def M_existentialSets_99 (k48 : fy_S → Int32 → Int32 → Int32 → Option (fy_S × Int32)) : Nat → fy_S → Int32 → Int32 → Int32 → Int32 → Int32 → Option (fy_S × Int32)
  | 0, _, _, _, _, _, _ => none
  | fu + 1, S, v1, v2, v3, v4, v5 =>
    if v4 ≤ v5 then (
      fy_bl (v3 + (1 : Int32)) fun x135 =>
      k48 S v1 v2 x135)
    else (
      fy_gd (fy_ix v5 64) <|
      fy_gd (fy_ix v3 12) <|
      fy_bd (M_wants S v1 (-1 : Int32) (S.1 21 v5.toNatClampNeg) (S.1 14 v3.toNatClampNeg)) fun S122 =>
      fy_bd (M_modelsCome S122 ) fun S126 =>
      fy_bl (v5 + (1 : Int32)) fun x129 =>
      M_existentialSets_99 k48 fu S126 v1 v2 v3 v4 x129)
def M_existentialSets_65 (k48 : fy_S → Int32 → Int32 → Int32 → Option (fy_S × Int32)) : Nat → fy_S → Int32 → Int32 → Int32 → Int32 → Int32 → Option (fy_S × Int32)
  | 0, _, _, _, _, _, _ => none
  | fu + 1, S, v1, v2, v3, v4, v5 =>
    if v4 ≤ v5 then (
      fy_bd (M_forgets S ) fun S93 =>
      M_existentialSets_99 k48 fy_fu S93 v1 v2 v3 v4 (0 : Int32))
    else (
      fy_gd (fy_ix v5 64) <|
      fy_gd (fy_ix v5 64) <|
      fy_bl (fy_sI S 21 v5.toNatClampNeg (S.1 19 v5.toNatClampNeg)) fun S85 =>
      fy_bl (v5 + (1 : Int32)) fun x86 =>
      M_existentialSets_65 k48 fu S85 v1 v2 v3 v4 x86)
def M_existentialSets_48 : Nat → fy_S → Int32 → Int32 → Int32 → Option (fy_S × Int32)
  | 0, _, _, _, _ => none
  | fu + 1, S, v1, v2, v3 =>
    if (S.1 0 25) ≤ v3 then (
      M_existentialSets_146 fy_fu S v1 v2 (0 : Int32) (0 : Int32))
    else (
      fy_bl (S.1 0 34) fun x60 =>
      M_existentialSets_65 (fun S v1 v2 v3 => M_existentialSets_48 fu S v1 v2 v3) fy_fu S v1 v2 v3 x60 (0 : Int32))
def M_existentialSets (S : fy_S) (v1 : Int32) (v2 : Int32) : Option (fy_S × Int32) :=
  fy_bd (M_isSlot S v1) fun r1 =>
  if r1 = 0 then (
    some (S, (-2 : Int32)))
  else (
    fy_bd (M_isBetween S v2 (0 : Int32) (1 : Int32)) fun r10 =>
    if r10 = 0 then (
      some (S, (-2 : Int32)))
    else (
      fy_bd (M_isWordOf S v1) fun r21 =>
      if r21 = 0 then (
        some (S, (-4 : Int32)))
      else (
        fy_bd (M_forgets S ) fun S31 =>
        fy_bd (M_wants S31 v1 (0 : Int32) (0 : Int32) (0 : Int32)) fun S39 =>
        fy_bd (M_modelsCome S39 ) fun S43 =>
        M_existentialSets_48 fy_fu S43 v1 v2 (0 : Int32))))
set_option maxHeartbeats 4000000 in
set_option maxRecDepth 100000 in
theorem t_M_existentialSets_146 {p : Program} {l : Launch} {e : Env} {s : State} {m : MethodId} {args : Array Value} {below : List Frame} {meth : Method} {c : Code} {g : fy_G} (C : fy_C g M_Y p s m args meth c yX10_existentialSets.cls cX10_existentialSets 6 (some .int)) {Sr : fy_S} {rr : Int32} : ∀ (fu : Nat) (S : fy_S) (v1 : Int32) (v2 : Int32) (v3 : Int32) (v4 : Int32) (H : Heap) (locs : List Loc) (ls : Array Slot), M_existentialSets_146 fu S v1 v2 v3 v4 = some (Sr, rr) → fy_W g M_Y S s H locs → lv_has ls 6 [(0, .ref (g.2.2.1 0)), (1, .int v1), (2, .int v2), (3, .int v3), (4, .int v4)] → W p l e (fy_rm 5) s m args below meth c H locs 0 0 (MQ below (fy_QI g M_Y rr Sr) args s 0 0 (fy_A g M_Y)) (F0 m 146 ls []) := by
  obtain ⟨hx, hb, hr, hts, hown, hlk, hml, hK, hD, hE, hN⟩ := id C
  intro fu
  induction fu with
  | zero => intro S v1 v2 v3 v4 H locs ls h; cases h
  | succ fu ih =>
    intro S v1 v2 v3 v4 H locs ls h w  hl
    rw [M_existentialSets_146] at h
    refine lv_iload hx hb dX10_existentialSets_146 (lv_at hl 4 rfl) ?_
    refine lv_aload_n hx hb dX10_existentialSets_148 rfl (lv_at hl 0 rfl) ?_
    refine gfX10_264 C w dX10_existentialSets_149 ?_
    refine lv_icmp_ge (tgt := 192) hx hb dX10_existentialSets_152 (by decide) (fun hc => ?_) (fun hc => ?_)
    · have h := fy_if_t h hc
      refine lv_iload_n hx hb dX10_existentialSets_192 rfl (lv_at hl 3 rfl) ?_
      cases h
      exact fy_retI C w dX10_existentialSets_193
    · have h := fy_if_f h hc
      refine lv_iload_n hx hb dX10_existentialSets_155 rfl (lv_at hl 3 rfl) ?_
      refine lv_iload_n hx hb dX10_existentialSets_156 rfl (lv_at hl 2 rfl) ?_
      refine lv_if_eq (tgt := 179) hx hb dX10_existentialSets_157 (by decide) (fun hc => ?_) (fun hc => ?_)
      · have h := fy_if_t h hc
        refine lv_iconst (v := (1 : Int32)) hx hb dX10_existentialSets_179 (by decide) ?_
        refine lv_goto (tgt := 184) hx hb dX10_existentialSets_180 (by decide) ?_
        refine lv_iadd hx hb dX10_existentialSets_184 ?_
        refine lv_topi (fun x185 e185 => ?_)
        have h := fy_bl_some e185 h
        refine lv_istore_n (lv' := [(3, .int x185), (0, .ref (g.2.2.1 0)), (1, .int v1), (2, .int v2), (4, .int v4)]) hx hb dX10_existentialSets_185 rfl hl (by decide) rfl (fun ls hl => ?_)
        obtain ⟨x186, e186⟩ : ∃ z : Int32, z = v4 + (1 : Int32) := ⟨_, rfl⟩
        have h := fy_bl_some e186 h
        refine lv_iinc (k := 4) (v := x186) (lv' := [(4, .int x186), (3, .int x185), (0, .ref (g.2.2.1 0)), (1, .int v1), (2, .int v2)]) hx hb dX10_existentialSets_186 hl rfl (by rw [e186]; rfl) (by decide) rfl (fun ls hl => ?_)
        refine lv_goto (tgt := 146) hx hb dX10_existentialSets_189 (by decide) ?_
        exact ih _ _ _ _ _ _ _ _ h w (lv_sub hl [2, 3, 4, 1, 0] rfl)
      · have h := fy_if_f h hc
        refine lv_aload_n hx hb dX10_existentialSets_160 rfl (lv_at hl 0 rfl) ?_
        refine gfX10_64 C w dX10_existentialSets_161 ?_
        refine lv_iload hx hb dX10_existentialSets_164 (lv_at hl 4 rfl) ?_
        obtain ⟨g166, h⟩ := fy_gd_some h
        refine fy_iald C w M_a19 g166 dX10_existentialSets_166 ?_
        refine lv_aload_n hx hb dX10_existentialSets_167 rfl (lv_at hl 0 rfl) ?_
        refine gfX10_16 C w dX10_existentialSets_168 ?_
        refine lv_iload_n hx hb dX10_existentialSets_171 rfl (lv_at hl 1 rfl) ?_
        obtain ⟨g172, h⟩ := fy_gd_some h
        refine fy_iald C w M_a3 g172 dX10_existentialSets_172 ?_
        refine lv_iconst (v := (-1 : Int32)) hx hb dX10_existentialSets_173 (by decide) ?_
        refine lv_ixor hx hb dX10_existentialSets_174 ?_
        refine lv_iand hx hb dX10_existentialSets_175 ?_
        refine lv_if_ne (tgt := 183) hx hb dX10_existentialSets_176 (by decide) (fun hc => ?_) (fun hc => ?_)
        · have h := fy_if_f h hc
          refine lv_iconst (v := (0 : Int32)) hx hb dX10_existentialSets_183 (by decide) ?_
          refine lv_iadd hx hb dX10_existentialSets_184 ?_
          refine lv_topi (fun x185 e185 => ?_)
          have h := fy_bl_some e185 h
          refine lv_istore_n (lv' := [(3, .int x185), (0, .ref (g.2.2.1 0)), (1, .int v1), (2, .int v2), (4, .int v4)]) hx hb dX10_existentialSets_185 rfl hl (by decide) rfl (fun ls hl => ?_)
          obtain ⟨x186, e186⟩ : ∃ z : Int32, z = v4 + (1 : Int32) := ⟨_, rfl⟩
          have h := fy_bl_some e186 h
          refine lv_iinc (k := 4) (v := x186) (lv' := [(4, .int x186), (3, .int x185), (0, .ref (g.2.2.1 0)), (1, .int v1), (2, .int v2)]) hx hb dX10_existentialSets_186 hl rfl (by rw [e186]; rfl) (by decide) rfl (fun ls hl => ?_)
          refine lv_goto (tgt := 146) hx hb dX10_existentialSets_189 (by decide) ?_
          exact ih _ _ _ _ _ _ _ _ h w (lv_sub hl [2, 3, 4, 1, 0] rfl)
        · have h := fy_if_t h hc
          refine lv_iconst (v := (1 : Int32)) hx hb dX10_existentialSets_179 (by decide) ?_
          refine lv_goto (tgt := 184) hx hb dX10_existentialSets_180 (by decide) ?_
          refine lv_iadd hx hb dX10_existentialSets_184 ?_
          refine lv_topi (fun x185 e185 => ?_)
          have h := fy_bl_some e185 h
          refine lv_istore_n (lv' := [(3, .int x185), (0, .ref (g.2.2.1 0)), (1, .int v1), (2, .int v2), (4, .int v4)]) hx hb dX10_existentialSets_185 rfl hl (by decide) rfl (fun ls hl => ?_)
          obtain ⟨x186, e186⟩ : ∃ z : Int32, z = v4 + (1 : Int32) := ⟨_, rfl⟩
          have h := fy_bl_some e186 h
          refine lv_iinc (k := 4) (v := x186) (lv' := [(4, .int x186), (3, .int x185), (0, .ref (g.2.2.1 0)), (1, .int v1), (2, .int v2)]) hx hb dX10_existentialSets_186 hl rfl (by rw [e186]; rfl) (by decide) rfl (fun ls hl => ?_)
          refine lv_goto (tgt := 146) hx hb dX10_existentialSets_189 (by decide) ?_
          exact ih _ _ _ _ _ _ _ _ h w (lv_sub hl [2, 3, 4, 1, 0] rfl)

set_option maxHeartbeats 4000000 in
set_option maxRecDepth 100000 in
theorem t_M_existentialSets_99 {p : Program} {l : Launch} {e : Env} {s : State} {m : MethodId} {args : Array Value} {below : List Frame} {meth : Method} {c : Code} {g : fy_G} (C : fy_C g M_Y p s m args meth c yX10_existentialSets.cls cX10_existentialSets 6 (some .int)) {Sr : fy_S} {rr : Int32} {k48 : fy_S → Int32 → Int32 → Int32 → Option (fy_S × Int32)} (hk48 : ∀ (S : fy_S) (v1 : Int32) (v2 : Int32) (v3 : Int32) (H : Heap) (locs : List Loc) (ls : Array Slot), k48 S v1 v2 v3 = some (Sr, rr) → fy_W g M_Y S s H locs → lv_has ls 6 [(0, .ref (g.2.2.1 0)), (1, .int v1), (2, .int v2), (3, .int v3)] → W p l e (fy_rm 5) s m args below meth c H locs 0 0 (MQ below (fy_QI g M_Y rr Sr) args s 0 0 (fy_A g M_Y)) (F0 m 48 ls [])) : ∀ (fu : Nat) (S : fy_S) (v1 : Int32) (v2 : Int32) (v3 : Int32) (v4 : Int32) (v5 : Int32) (H : Heap) (locs : List Loc) (ls : Array Slot), M_existentialSets_99 k48 fu S v1 v2 v3 v4 v5 = some (Sr, rr) → fy_W g M_Y S s H locs → lv_has ls 6 [(0, .ref (g.2.2.1 0)), (1, .int v1), (2, .int v2), (3, .int v3), (4, .int v4), (5, .int v5)] → W p l e (fy_rm 5) s m args below meth c H locs 0 0 (MQ below (fy_QI g M_Y rr Sr) args s 0 0 (fy_A g M_Y)) (F0 m 99 ls []) := by
  obtain ⟨hx, hb, hr, hts, hown, hlk, hml, hK, hD, hE, hN⟩ := id C
  intro fu
  induction fu with
  | zero => intro S v1 v2 v3 v4 v5 H locs ls h; cases h
  | succ fu ih =>
    intro S v1 v2 v3 v4 v5 H locs ls h w  hl
    rw [M_existentialSets_99] at h
    refine lv_iload hx hb dX10_existentialSets_99 (lv_at hl 5 rfl) ?_
    refine lv_iload hx hb dX10_existentialSets_101 (lv_at hl 4 rfl) ?_
    refine lv_icmp_ge (tgt := 135) hx hb dX10_existentialSets_103 (by decide) (fun hc => ?_) (fun hc => ?_)
    · have h := fy_if_t h hc
      obtain ⟨x135, e135⟩ : ∃ z : Int32, z = v3 + (1 : Int32) := ⟨_, rfl⟩
      have h := fy_bl_some e135 h
      refine lv_iinc (k := 3) (v := x135) (lv' := [(3, .int x135), (0, .ref (g.2.2.1 0)), (1, .int v1), (2, .int v2), (4, .int v4), (5, .int v5)]) hx hb dX10_existentialSets_135 hl rfl (by rw [e135]; rfl) (by decide) rfl (fun ls hl => ?_)
      refine lv_goto (tgt := 48) hx hb dX10_existentialSets_138 (by decide) ?_
      exact hk48 _ _ _ _ _ _ _ h w (lv_sub hl [1, 2, 3, 0] rfl)
    · have h := fy_if_f h hc
      refine lv_aload_n hx hb dX10_existentialSets_106 rfl (lv_at hl 0 rfl) ?_
      refine lv_iload_n hx hb dX10_existentialSets_107 rfl (lv_at hl 1 rfl) ?_
      refine lv_iconst (v := (-1 : Int32)) hx hb dX10_existentialSets_108 (by decide) ?_
      refine lv_aload_n hx hb dX10_existentialSets_109 rfl (lv_at hl 0 rfl) ?_
      refine gfX10_70 C w dX10_existentialSets_110 ?_
      refine lv_iload hx hb dX10_existentialSets_113 (lv_at hl 5 rfl) ?_
      obtain ⟨g115, h⟩ := fy_gd_some h
      refine fy_iald C w M_a21 g115 dX10_existentialSets_115 ?_
      refine lv_aload_n hx hb dX10_existentialSets_116 rfl (lv_at hl 0 rfl) ?_
      refine gfX10_49 C w dX10_existentialSets_117 ?_
      refine lv_iload_n hx hb dX10_existentialSets_120 rfl (lv_at hl 3 rfl) ?_
      obtain ⟨g121, h⟩ := fy_gd_some h
      refine fy_iald C w M_a14 g121 dX10_existentialSets_121 ?_
      obtain ⟨S122, h122, h⟩ := fy_bd_some h
      refine fy_calV w (fy_runV (As := [.int v1, .int (-1 : Int32), .int (S.1 21 v5.toNatClampNeg), .int (S.1 14 v3.toNatClampNeg)]) (rest := []) C w (c_M_wants l g  h122) M_o ksX10_227 rfl ⟨Nat.le_of_ble_eq_true rfl, Nat.le_of_ble_eq_true rfl⟩ rfl hl.1 rfl (Nat.le_of_ble_eq_true rfl) ⟨Nat.le_refl _, Nat.le_refl _⟩ dX10_existentialSets_122) (fun H locs w => ?_)
      refine lv_aload_n hx hb dX10_existentialSets_125 rfl (lv_at hl 0 rfl) ?_
      obtain ⟨S126, h126, h⟩ := fy_bd_some h
      refine fy_calV w (fy_runV (As := []) (rest := []) C w (c_M_modelsCome l g  h126) M_o ksX10_279 rfl ⟨Nat.le_of_ble_eq_true rfl, Nat.le_of_ble_eq_true rfl⟩ rfl hl.1 rfl (Nat.le_of_ble_eq_true rfl) ⟨Nat.le_refl _, Nat.le_refl _⟩ dX10_existentialSets_126) (fun H locs w => ?_)
      obtain ⟨x129, e129⟩ : ∃ z : Int32, z = v5 + (1 : Int32) := ⟨_, rfl⟩
      have h := fy_bl_some e129 h
      refine lv_iinc (k := 5) (v := x129) (lv' := [(5, .int x129), (0, .ref (g.2.2.1 0)), (1, .int v1), (2, .int v2), (3, .int v3), (4, .int v4)]) hx hb dX10_existentialSets_129 hl rfl (by rw [e129]; rfl) (by decide) rfl (fun ls hl => ?_)
      refine lv_goto (tgt := 99) hx hb dX10_existentialSets_132 (by decide) ?_
      exact ih _ _ _ _ _ _ _ _ _ h w (lv_sub hl [1, 2, 3, 4, 5, 0] rfl)

set_option maxHeartbeats 4000000 in
set_option maxRecDepth 100000 in
theorem t_M_existentialSets_65 {p : Program} {l : Launch} {e : Env} {s : State} {m : MethodId} {args : Array Value} {below : List Frame} {meth : Method} {c : Code} {g : fy_G} (C : fy_C g M_Y p s m args meth c yX10_existentialSets.cls cX10_existentialSets 6 (some .int)) {Sr : fy_S} {rr : Int32} {k48 : fy_S → Int32 → Int32 → Int32 → Option (fy_S × Int32)} (hk48 : ∀ (S : fy_S) (v1 : Int32) (v2 : Int32) (v3 : Int32) (H : Heap) (locs : List Loc) (ls : Array Slot), k48 S v1 v2 v3 = some (Sr, rr) → fy_W g M_Y S s H locs → lv_has ls 6 [(0, .ref (g.2.2.1 0)), (1, .int v1), (2, .int v2), (3, .int v3)] → W p l e (fy_rm 5) s m args below meth c H locs 0 0 (MQ below (fy_QI g M_Y rr Sr) args s 0 0 (fy_A g M_Y)) (F0 m 48 ls [])) : ∀ (fu : Nat) (S : fy_S) (v1 : Int32) (v2 : Int32) (v3 : Int32) (v4 : Int32) (v5 : Int32) (H : Heap) (locs : List Loc) (ls : Array Slot), M_existentialSets_65 k48 fu S v1 v2 v3 v4 v5 = some (Sr, rr) → fy_W g M_Y S s H locs → lv_has ls 6 [(0, .ref (g.2.2.1 0)), (1, .int v1), (2, .int v2), (3, .int v3), (4, .int v4), (5, .int v5)] → W p l e (fy_rm 5) s m args below meth c H locs 0 0 (MQ below (fy_QI g M_Y rr Sr) args s 0 0 (fy_A g M_Y)) (F0 m 65 ls []) := by
  obtain ⟨hx, hb, hr, hts, hown, hlk, hml, hK, hD, hE, hN⟩ := id C
  intro fu
  induction fu with
  | zero => intro S v1 v2 v3 v4 v5 H locs ls h; cases h
  | succ fu ih =>
    intro S v1 v2 v3 v4 v5 H locs ls h w  hl
    rw [M_existentialSets_65] at h
    refine lv_iload hx hb dX10_existentialSets_65 (lv_at hl 5 rfl) ?_
    refine lv_iload hx hb dX10_existentialSets_67 (lv_at hl 4 rfl) ?_
    refine lv_icmp_ge (tgt := 92) hx hb dX10_existentialSets_69 (by decide) (fun hc => ?_) (fun hc => ?_)
    · have h := fy_if_t h hc
      refine lv_aload_n hx hb dX10_existentialSets_92 rfl (lv_at hl 0 rfl) ?_
      obtain ⟨S93, h93, h⟩ := fy_bd_some h
      refine fy_calV w (fy_runV (As := []) (rest := []) C w (c_M_forgets l g  h93) M_o ksX10_267 rfl ⟨Nat.le_of_ble_eq_true rfl, Nat.le_of_ble_eq_true rfl⟩ rfl hl.1 rfl (Nat.le_of_ble_eq_true rfl) ⟨Nat.le_refl _, Nat.le_refl _⟩ dX10_existentialSets_93) (fun H locs w => ?_)
      refine lv_iconst (v := (0 : Int32)) hx hb dX10_existentialSets_96 (by decide) ?_
      refine lv_istore (lv' := [(5, .int (0 : Int32)), (0, .ref (g.2.2.1 0)), (1, .int v1), (2, .int v2), (3, .int v3), (4, .int v4)]) hx hb dX10_existentialSets_97 hl (by decide) rfl (fun ls hl => ?_)
      exact t_M_existentialSets_99 C hk48 fy_fu _ _ _ _ _ _ _ _ _ h w (lv_sub hl [1, 2, 3, 4, 5, 0] rfl)
    · have h := fy_if_f h hc
      refine lv_aload_n hx hb dX10_existentialSets_72 rfl (lv_at hl 0 rfl) ?_
      refine gfX10_70 C w dX10_existentialSets_73 ?_
      refine lv_iload hx hb dX10_existentialSets_76 (lv_at hl 5 rfl) ?_
      refine lv_aload_n hx hb dX10_existentialSets_78 rfl (lv_at hl 0 rfl) ?_
      refine gfX10_64 C w dX10_existentialSets_79 ?_
      refine lv_iload hx hb dX10_existentialSets_82 (lv_at hl 5 rfl) ?_
      obtain ⟨g84, h⟩ := fy_gd_some h
      refine fy_iald C w M_a19 g84 dX10_existentialSets_84 ?_
      obtain ⟨g85, h⟩ := fy_gd_some h
      refine fy_iast C w M_a21 g85 dX10_existentialSets_85 (fun H locs w => ?_)
      obtain ⟨S85, e85⟩ : ∃ z, z = fy_sI S 21 v5.toNatClampNeg (S.1 19 v5.toNatClampNeg) := ⟨_, rfl⟩
      have h := fy_bl_some e85 h
      rw [← e85] at w
      obtain ⟨x86, e86⟩ : ∃ z : Int32, z = v5 + (1 : Int32) := ⟨_, rfl⟩
      have h := fy_bl_some e86 h
      refine lv_iinc (k := 5) (v := x86) (lv' := [(5, .int x86), (0, .ref (g.2.2.1 0)), (1, .int v1), (2, .int v2), (3, .int v3), (4, .int v4)]) hx hb dX10_existentialSets_86 hl rfl (by rw [e86]; rfl) (by decide) rfl (fun ls hl => ?_)
      refine lv_goto (tgt := 65) hx hb dX10_existentialSets_89 (by decide) ?_
      exact ih _ _ _ _ _ _ _ _ _ h w (lv_sub hl [1, 2, 3, 4, 5, 0] rfl)

set_option maxHeartbeats 4000000 in
set_option maxRecDepth 100000 in
theorem t_M_existentialSets_48 {p : Program} {l : Launch} {e : Env} {s : State} {m : MethodId} {args : Array Value} {below : List Frame} {meth : Method} {c : Code} {g : fy_G} (C : fy_C g M_Y p s m args meth c yX10_existentialSets.cls cX10_existentialSets 6 (some .int)) {Sr : fy_S} {rr : Int32} : ∀ (fu : Nat) (S : fy_S) (v1 : Int32) (v2 : Int32) (v3 : Int32) (H : Heap) (locs : List Loc) (ls : Array Slot), M_existentialSets_48 fu S v1 v2 v3 = some (Sr, rr) → fy_W g M_Y S s H locs → lv_has ls 6 [(0, .ref (g.2.2.1 0)), (1, .int v1), (2, .int v2), (3, .int v3)] → W p l e (fy_rm 5) s m args below meth c H locs 0 0 (MQ below (fy_QI g M_Y rr Sr) args s 0 0 (fy_A g M_Y)) (F0 m 48 ls []) := by
  obtain ⟨hx, hb, hr, hts, hown, hlk, hml, hK, hD, hE, hN⟩ := id C
  intro fu
  induction fu with
  | zero => intro S v1 v2 v3 H locs ls h; cases h
  | succ fu ih =>
    intro S v1 v2 v3 H locs ls h w  hl
    rw [M_existentialSets_48] at h
    refine lv_iload_n hx hb dX10_existentialSets_48 rfl (lv_at hl 3 rfl) ?_
    refine lv_aload_n hx hb dX10_existentialSets_49 rfl (lv_at hl 0 rfl) ?_
    refine gfX10_237 C w dX10_existentialSets_50 ?_
    refine lv_icmp_ge (tgt := 141) hx hb dX10_existentialSets_53 (by decide) (fun hc => ?_) (fun hc => ?_)
    · have h := fy_if_t h hc
      refine lv_iconst (v := (0 : Int32)) hx hb dX10_existentialSets_141 (by decide) ?_
      refine lv_istore_n (lv' := [(3, .int (0 : Int32)), (0, .ref (g.2.2.1 0)), (1, .int v1), (2, .int v2)]) hx hb dX10_existentialSets_142 rfl hl (by decide) rfl (fun ls hl => ?_)
      refine lv_iconst (v := (0 : Int32)) hx hb dX10_existentialSets_143 (by decide) ?_
      refine lv_istore (lv' := [(4, .int (0 : Int32)), (3, .int (0 : Int32)), (0, .ref (g.2.2.1 0)), (1, .int v1), (2, .int v2)]) hx hb dX10_existentialSets_144 hl (by decide) rfl (fun ls hl => ?_)
      exact t_M_existentialSets_146 C fy_fu _ _ _ _ _ _ _ _ h w (lv_sub hl [2, 3, 4, 1, 0] rfl)
    · have h := fy_if_f h hc
      refine lv_aload_n hx hb dX10_existentialSets_56 rfl (lv_at hl 0 rfl) ?_
      refine gfX10_264 C w dX10_existentialSets_57 ?_
      refine lv_topi (fun x60 e60 => ?_)
      have h := fy_bl_some e60 h
      refine lv_istore (lv' := [(4, .int x60), (0, .ref (g.2.2.1 0)), (1, .int v1), (2, .int v2), (3, .int v3)]) hx hb dX10_existentialSets_60 hl (by decide) rfl (fun ls hl => ?_)
      refine lv_iconst (v := (0 : Int32)) hx hb dX10_existentialSets_62 (by decide) ?_
      refine lv_istore (lv' := [(5, .int (0 : Int32)), (4, .int x60), (0, .ref (g.2.2.1 0)), (1, .int v1), (2, .int v2), (3, .int v3)]) hx hb dX10_existentialSets_63 hl (by decide) rfl (fun ls hl => ?_)
      exact t_M_existentialSets_65 C ih fy_fu _ _ _ _ _ _ _ _ _ h w (lv_sub hl [2, 3, 4, 5, 1, 0] rfl)

set_option maxHeartbeats 4000000 in
set_option maxRecDepth 100000 in
theorem t_M_existentialSets {p : Program} {l : Launch} {e : Env} {s : State} {m : MethodId} {args : Array Value} {below : List Frame} {meth : Method} {c : Code} {g : fy_G} (C : fy_C g M_Y p s m args meth c yX10_existentialSets.cls cX10_existentialSets 6 (some .int)) {S : fy_S} {v1 : Int32} {v2 : Int32} {Sr : fy_S} {rr : Int32}  {H : Heap} {locs : List Loc} {ls : Array Slot} (h : M_existentialSets S v1 v2 = some (Sr, rr)) (w : fy_W g M_Y S s H locs) (hl : lv_has ls 6 [(0, .ref (g.2.2.1 0)), (1, .int v1), (2, .int v2)]) : W p l e (fy_rm 5) s m args below meth c H locs 0 0 (MQ below (fy_QI g M_Y rr Sr) args s 0 0 (fy_A g M_Y)) (F0 m 0 ls []) := by
  obtain ⟨hx, hb, hr, hts, hown, hlk, hml, hK, hD, hE, hN⟩ := id C
  rw [M_existentialSets] at h
  refine lv_iload_n hx hb dX10_existentialSets_0 rfl (lv_at hl 1 rfl) ?_
  obtain ⟨r1, h1, h⟩ := fy_bd_some h
  refine fy_calI w (fy_runS (As := [.int v1]) (rest := []) C w (c_M_isSlot l g  h1) ksX10_123 ⟨Nat.le_of_ble_eq_true rfl, Nat.le_of_ble_eq_true rfl⟩ rfl hl.1 rfl (Nat.le_of_ble_eq_true rfl) ⟨Nat.le_refl _, Nat.le_refl _⟩ dX10_existentialSets_1) (fun H locs w => ?_)
  refine lv_if_eq (tgt := 16) hx hb dX10_existentialSets_4 (by decide) (fun hc => ?_) (fun hc => ?_)
  · have h := fy_if_t h hc
    refine lv_bipush (v := (-2 : Int32)) hx hb dX10_existentialSets_16 (by decide) ?_
    cases h
    exact fy_retI C w dX10_existentialSets_18
  · have h := fy_if_f h hc
    refine lv_iload_n hx hb dX10_existentialSets_7 rfl (lv_at hl 2 rfl) ?_
    refine lv_iconst (v := (0 : Int32)) hx hb dX10_existentialSets_8 (by decide) ?_
    refine lv_iconst (v := (1 : Int32)) hx hb dX10_existentialSets_9 (by decide) ?_
    obtain ⟨r10, h10, h⟩ := fy_bd_some h
    refine fy_calI w (fy_runS (As := [.int v2, .int (0 : Int32), .int (1 : Int32)]) (rest := []) C w (c_M_isBetween l g  h10) ksX10_127 ⟨Nat.le_of_ble_eq_true rfl, Nat.le_of_ble_eq_true rfl⟩ rfl hl.1 rfl (Nat.le_of_ble_eq_true rfl) ⟨Nat.le_refl _, Nat.le_refl _⟩ dX10_existentialSets_10) (fun H locs w => ?_)
    refine lv_if_ne (tgt := 19) hx hb dX10_existentialSets_13 (by decide) (fun hc => ?_) (fun hc => ?_)
    · have h := fy_if_f h hc
      refine lv_aload_n hx hb dX10_existentialSets_19 rfl (lv_at hl 0 rfl) ?_
      refine lv_iload_n hx hb dX10_existentialSets_20 rfl (lv_at hl 1 rfl) ?_
      obtain ⟨r21, h21, h⟩ := fy_bd_some h
      refine fy_calI w (fy_runV (As := [.int v1]) (rest := []) C w (c_M_isWordOf l g  h21) M_o ksX10_243 rfl ⟨Nat.le_of_ble_eq_true rfl, Nat.le_of_ble_eq_true rfl⟩ rfl hl.1 rfl (Nat.le_of_ble_eq_true rfl) ⟨Nat.le_refl _, Nat.le_refl _⟩ dX10_existentialSets_21) (fun H locs w => ?_)
      refine lv_if_ne (tgt := 30) hx hb dX10_existentialSets_24 (by decide) (fun hc => ?_) (fun hc => ?_)
      · have h := fy_if_f h hc
        refine lv_aload_n hx hb dX10_existentialSets_30 rfl (lv_at hl 0 rfl) ?_
        obtain ⟨S31, h31, h⟩ := fy_bd_some h
        refine fy_calV w (fy_runV (As := []) (rest := []) C w (c_M_forgets l g  h31) M_o ksX10_267 rfl ⟨Nat.le_of_ble_eq_true rfl, Nat.le_of_ble_eq_true rfl⟩ rfl hl.1 rfl (Nat.le_of_ble_eq_true rfl) ⟨Nat.le_refl _, Nat.le_refl _⟩ dX10_existentialSets_31) (fun H locs w => ?_)
        refine lv_aload_n hx hb dX10_existentialSets_34 rfl (lv_at hl 0 rfl) ?_
        refine lv_iload_n hx hb dX10_existentialSets_35 rfl (lv_at hl 1 rfl) ?_
        refine lv_iconst (v := (0 : Int32)) hx hb dX10_existentialSets_36 (by decide) ?_
        refine lv_iconst (v := (0 : Int32)) hx hb dX10_existentialSets_37 (by decide) ?_
        refine lv_iconst (v := (0 : Int32)) hx hb dX10_existentialSets_38 (by decide) ?_
        obtain ⟨S39, h39, h⟩ := fy_bd_some h
        refine fy_calV w (fy_runV (As := [.int v1, .int (0 : Int32), .int (0 : Int32), .int (0 : Int32)]) (rest := []) C w (c_M_wants l g  h39) M_o ksX10_227 rfl ⟨Nat.le_of_ble_eq_true rfl, Nat.le_of_ble_eq_true rfl⟩ rfl hl.1 rfl (Nat.le_of_ble_eq_true rfl) ⟨Nat.le_refl _, Nat.le_refl _⟩ dX10_existentialSets_39) (fun H locs w => ?_)
        refine lv_aload_n hx hb dX10_existentialSets_42 rfl (lv_at hl 0 rfl) ?_
        obtain ⟨S43, h43, h⟩ := fy_bd_some h
        refine fy_calV w (fy_runV (As := []) (rest := []) C w (c_M_modelsCome l g  h43) M_o ksX10_279 rfl ⟨Nat.le_of_ble_eq_true rfl, Nat.le_of_ble_eq_true rfl⟩ rfl hl.1 rfl (Nat.le_of_ble_eq_true rfl) ⟨Nat.le_refl _, Nat.le_refl _⟩ dX10_existentialSets_43) (fun H locs w => ?_)
        refine lv_iconst (v := (0 : Int32)) hx hb dX10_existentialSets_46 (by decide) ?_
        refine lv_istore_n (lv' := [(3, .int (0 : Int32)), (0, .ref (g.2.2.1 0)), (1, .int v1), (2, .int v2)]) hx hb dX10_existentialSets_47 rfl hl (by decide) rfl (fun ls hl => ?_)
        exact t_M_existentialSets_48 C fy_fu _ _ _ _ _ _ _ h w (lv_sub hl [1, 2, 3, 0] rfl)
      · have h := fy_if_t h hc
        refine lv_bipush (v := (-4 : Int32)) hx hb dX10_existentialSets_27 (by decide) ?_
        cases h
        exact fy_retI C w dX10_existentialSets_29
    · have h := fy_if_t h hc
      refine lv_bipush (v := (-2 : Int32)) hx hb dX10_existentialSets_16 (by decide) ?_
      cases h
      exact fy_retI C w dX10_existentialSets_18

set_option maxHeartbeats 4000000 in
set_option maxRecDepth 100000 in
theorem c_M_existentialSets (l : Launch) (g : fy_G) {S : fy_S} {v1 : Int32} {v2 : Int32} {Sr : fy_S} {rr : Int32}  (h : M_existentialSets S v1 v2 = some (Sr, rr)) : fy_M g M_Y l yX10_existentialSets cX10_existentialSets 6 (some .int) (fy_rm 5) [.ref (g.2.2.1 0), .int v1, .int v2] S (fy_QI g M_Y rr Sr) :=
  fy_entry (by decide +kernel) (Nat.le_of_ble_eq_true rfl) (fun p e s m args below meth c ls C w hl => t_M_existentialSets C  h w hl)
end
