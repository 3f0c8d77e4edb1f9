noncomputable section
def M_strategy_272 (k148 : fy_S → Int32 → Int32 → Int32 → Option (fy_S × Int32)) (S : fy_S) (v6 : Int32) (v7 : Int32) (v8 : Int32) : Option (fy_S × Int32) :=
  fy_gd (fy_ix (v8 - (1 : Int32)) 40) <|
  fy_bl (fy_sI S 18 (v8 - (1 : Int32)).toNatClampNeg (1 : Int32)) fun S281 =>
  fy_bl (v8 + (-1 : Int32)) fun x282 =>
  k148 S281 v6 v7 x282
def M_strategy_260 (k148 : fy_S → Int32 → Int32 → Int32 → Option (fy_S × Int32)) (S : fy_S) (v6 : Int32) (v7 : Int32) (v8 : Int32) (v9 : Int32) (v10 : Int32) : Option (fy_S × Int32) :=
  if v9 = (10 : Int32) then (
    M_strategy_272 k148 S v6 v7 v8)
  else (
    if v10 = 0 then (
      M_strategy_272 k148 S v6 v7 v8)
    else (
      fy_bl (v8 + (-1 : Int32)) fun x282 =>
      k148 S v6 v7 x282))
def M_strategy_247 (k148 : fy_S → Int32 → Int32 → Int32 → Option (fy_S × Int32)) (S : fy_S) (v6 : Int32) (v7 : Int32) (v8 : Int32) (v9 : Int32) (v10 : Int32) : Option (fy_S × Int32) :=
  fy_gd (fy_ix v8 40) <|
  fy_gd (fy_ix (S.1 10 v8.toNatClampNeg) 40) <|
  fy_bl (fy_sI S 18 (S.1 10 v8.toNatClampNeg).toNatClampNeg (1 : Int32)) fun S259 =>
  M_strategy_260 k148 S259 v6 v7 v8 v9 v10
def M_strategy_233 (k148 : fy_S → Int32 → Int32 → Int32 → Option (fy_S × Int32)) (S : fy_S) (v6 : Int32) (v7 : Int32) (v8 : Int32) (v9 : Int32) (z0 : Int32) : Option (fy_S × Int32) :=
  if v9 = (10 : Int32) then (
    M_strategy_247 k148 S v6 v7 v8 v9 z0)
  else (
    if z0 = 0 then (
      M_strategy_260 k148 S v6 v7 v8 v9 z0)
    else (
      M_strategy_247 k148 S v6 v7 v8 v9 z0))
def M_strategy_194 (k148 : fy_S → Int32 → Int32 → Int32 → Option (fy_S × Int32)) (S : fy_S) (v6 : Int32) (v7 : Int32) (v8 : Int32) (v9 : Int32) : Option (fy_S × Int32) :=
  if (10 : Int32) ≤ v9 then (
    fy_gd (fy_ix v8 40) <|
    fy_gd (fy_ix (S.1 10 v8.toNatClampNeg) 40) <|
    fy_gd (fy_ix (v8 - (1 : Int32)) 40) <|
    if (S.1 17 (v8 - (1 : Int32)).toNatClampNeg) < (S.1 17 (S.1 10 v8.toNatClampNeg).toNatClampNeg) then (
      M_strategy_233 k148 S v6 v7 v8 v9 (0 : Int32))
    else (
      M_strategy_233 k148 S v6 v7 v8 v9 (1 : Int32)))
  else (
    fy_bl (v8 + (-1 : Int32)) fun x282 =>
    k148 S v6 v7 x282)
def M_strategy_148 : Nat → fy_S → Int32 → Int32 → Int32 → Option (fy_S × Int32)
  | 0, _, _, _, _ => none
  | fu + 1, S, v6, v7, v8 =>
    if v8 < 0 then (
      some (S, v7))
    else (
      fy_gd (fy_ix (v6 + v8) 5320) <|
      fy_bl (S.1 6 (v6 + v8).toNatClampNeg) fun x163 =>
      fy_gd (fy_ix v8 40) <|
      if (S.1 18 v8.toNatClampNeg) = 0 then (
        fy_bl (v8 + (-1 : Int32)) fun x282 =>
        M_strategy_148 fu S v6 v7 x282)
      else (
        if (8 : Int32) ≤ x163 then (
          M_strategy_194 (fun S v6 v7 v8 => M_strategy_148 fu S v6 v7 v8) S v6 v7 v8 x163)
        else (
          fy_bl (v7 ||| ((1 : Int32) <<< (x163 &&& 31))) fun x192 =>
          M_strategy_194 (fun S v6 v7 v8 => M_strategy_148 fu S v6 v7 v8) S v6 x192 v8 x163)))
def M_strategy_134 (k109 : fy_S → Int32 → Int32 → Int32 → Option (fy_S × Int32)) (S : fy_S) (v5 : Int32) (v6 : Int32) (v7 : Int32) (z0 : Int32) (z1 : Int32) : Option (fy_S × Int32) :=
  fy_gd (fy_ix z1 40) <|
  fy_bl (fy_sI S 18 z1.toNatClampNeg z0) fun S134 =>
  fy_bl (v7 + (1 : Int32)) fun x135 =>
  k109 S134 v5 v6 x135
def M_strategy_109 : Nat → fy_S → Int32 → Int32 → Int32 → Option (fy_S × Int32)
  | 0, _, _, _, _ => none
  | fu + 1, S, v5, v6, v7 =>
    if v5 < v7 then (
      M_strategy_148 fy_fu S v6 (0 : Int32) v5)
    else (
      if v7 = v5 then (
        M_strategy_134 (fun S v5 v6 v7 => M_strategy_109 fu S v5 v6 v7) S v5 v6 v7 (1 : Int32) v7)
      else (
        M_strategy_134 (fun S v5 v6 v7 => M_strategy_109 fu S v5 v6 v7) S v5 v6 v7 (0 : Int32) v7))
def M_strategy (S : fy_S) (v1 : Int32) (v2 : Int32) (v3 : Int32) : Option (fy_S × Int32) :=
  fy_bd (M_isSlot S v1) fun r1 =>
  if r1 = 0 then (
    some (S, (-2 : Int32)))
  else (
    fy_bd (M_isState S v1 v3) fun r10 =>
    if r10 = 0 then (
      some (S, (-2 : Int32)))
    else (
      fy_bd (M_isBetween S v2 (0 : Int32) ((S.1 0 25) - (1 : Int32))) fun r24 =>
      if r24 = 0 then (
        some (S, (-2 : Int32)))
      else (
        fy_bd (M_isWordOf S v1) fun r35 =>
        if r35 = 0 then (
          some (S, (-4 : Int32)))
        else (
          fy_bd (M_findRanks S v1 (v2 + (1 : Int32))) fun S49 =>
          fy_gd (fy_ix v2 12) <|
          fy_bd (M_formulaOf S49 v3 (S49.1 14 v2.toNatClampNeg)) fun r59 =>
          fy_bd (M_findNodeRanks S49 v1 r59) fun S68 =>
          fy_bd (M_sizeOf S68 v1 r59) fun r75 =>
          fy_bl (r75 - (1 : Int32)) fun x80 =>
          fy_gd (fy_ix x80 40) <|
          fy_bd (M_isWon S68 (S68.1 17 x80.toNatClampNeg)) fun r89 =>
          if r89 = 0 then (
            some (S68, (-1 : Int32)))
          else (
            fy_bd (M_at S68 v1 r59) fun r101 =>
            M_strategy_109 fy_fu S68 x80 r101 (0 : Int32))))))
set_option maxHeartbeats 4000000 in
set_option maxRecDepth 100000 in
theorem t_M_strategy_272 {p : Program} {l : Launch} {e : Env} {s : State} {m : MethodId} {args : Array Value} {below : List Frame} {meth : Method} {c : Code} {g : fy_G} (C : fy_C g M_Y p s m args meth c yX10_strategy.cls cX10_strategy 11 (some .int)) {Sr : fy_S} {rr : Int32} {k148 : fy_S → Int32 → Int32 → Int32 → Option (fy_S × Int32)} (hk148 : ∀ (S : fy_S) (v6 : Int32) (v7 : Int32) (v8 : Int32) (H : Heap) (locs : List Loc) (ls : Array Slot), k148 S v6 v7 v8 = some (Sr, rr) → fy_W g M_Y S s H locs → lv_has ls 11 [(0, .ref (g.2.2.1 0)), (6, .int v6), (7, .int v7), (8, .int v8)] → W p l e (fy_rm 4) s m args below meth c H locs 0 0 (MQ below (fy_QI g M_Y rr Sr) args s 0 0 (fy_A g M_Y)) (F0 m 148 ls [])) : ∀ (S : fy_S) (v6 : Int32) (v7 : Int32) (v8 : Int32) (H : Heap) (locs : List Loc) (ls : Array Slot), M_strategy_272 k148 S v6 v7 v8 = some (Sr, rr) → fy_W g M_Y S s H locs → lv_has ls 11 [(0, .ref (g.2.2.1 0)), (6, .int v6), (7, .int v7), (8, .int v8)] → W p l e (fy_rm 4) s m args below meth c H locs 0 0 (MQ below (fy_QI g M_Y rr Sr) args s 0 0 (fy_A g M_Y)) (F0 m 272 ls []) := by
  obtain ⟨hx, hb, hr, hts, hown, hlk, hml, hK, hD, hE, hN⟩ := id C
  intro S v6 v7 v8 H locs ls h w  hl
  rw [M_strategy_272] at h
  refine lv_aload_n hx hb dX10_strategy_272 rfl (lv_at hl 0 rfl) ?_
  refine gfX10_61 C w dX10_strategy_273 ?_
  refine lv_iload hx hb dX10_strategy_276 (lv_at hl 3 rfl) ?_
  refine lv_iconst (v := (1 : Int32)) hx hb dX10_strategy_278 (by decide) ?_
  refine lv_isub hx hb dX10_strategy_279 ?_
  refine lv_iconst (v := (1 : Int32)) hx hb dX10_strategy_280 (by decide) ?_
  obtain ⟨g281, h⟩ := fy_gd_some h
  refine fy_iast C w M_a18 g281 dX10_strategy_281 (fun H locs w => ?_)
  obtain ⟨S281, e281⟩ : ∃ z, z = fy_sI S 18 (v8 - (1 : Int32)).toNatClampNeg (1 : Int32) := ⟨_, rfl⟩
  have h := fy_bl_some e281 h
  rw [← e281] at w
  obtain ⟨x282, e282⟩ : ∃ z : Int32, z = v8 + (-1 : Int32) := ⟨_, rfl⟩
  have h := fy_bl_some e282 h
  refine lv_iinc (k := 3) (v := x282) (lv' := [(8, .int x282), (0, .ref (g.2.2.1 0)), (6, .int v6), (7, .int v7)]) hx hb dX10_strategy_282 hl rfl (by rw [e282]; rfl) (by decide) rfl (fun ls hl => ?_)
  refine lv_goto (tgt := 148) hx hb dX10_strategy_285 (by decide) ?_
  exact hk148 _ _ _ _ _ _ _ h w (lv_sub hl [1, 2, 3, 0] rfl)

set_option maxHeartbeats 4000000 in
set_option maxRecDepth 100000 in
theorem t_M_strategy_260 {p : Program} {l : Launch} {e : Env} {s : State} {m : MethodId} {args : Array Value} {below : List Frame} {meth : Method} {c : Code} {g : fy_G} (C : fy_C g M_Y p s m args meth c yX10_strategy.cls cX10_strategy 11 (some .int)) {Sr : fy_S} {rr : Int32} {k148 : fy_S → Int32 → Int32 → Int32 → Option (fy_S × Int32)} (hk148 : ∀ (S : fy_S) (v6 : Int32) (v7 : Int32) (v8 : Int32) (H : Heap) (locs : List Loc) (ls : Array Slot), k148 S v6 v7 v8 = some (Sr, rr) → fy_W g M_Y S s H locs → lv_has ls 11 [(0, .ref (g.2.2.1 0)), (6, .int v6), (7, .int v7), (8, .int v8)] → W p l e (fy_rm 4) s m args below meth c H locs 0 0 (MQ below (fy_QI g M_Y rr Sr) args s 0 0 (fy_A g M_Y)) (F0 m 148 ls [])) : ∀ (S : fy_S) (v6 : Int32) (v7 : Int32) (v8 : Int32) (v9 : Int32) (v10 : Int32) (H : Heap) (locs : List Loc) (ls : Array Slot), M_strategy_260 k148 S v6 v7 v8 v9 v10 = some (Sr, rr) → fy_W g M_Y S s H locs → lv_has ls 11 [(0, .ref (g.2.2.1 0)), (6, .int v6), (7, .int v7), (8, .int v8), (9, .int v9), (10, .int v10)] → W p l e (fy_rm 4) s m args below meth c H locs 0 0 (MQ below (fy_QI g M_Y rr Sr) args s 0 0 (fy_A g M_Y)) (F0 m 260 ls []) := by
  obtain ⟨hx, hb, hr, hts, hown, hlk, hml, hK, hD, hE, hN⟩ := id C
  intro S v6 v7 v8 v9 v10 H locs ls h w  hl
  rw [M_strategy_260] at h
  refine lv_iload hx hb dX10_strategy_260 (lv_at hl 4 rfl) ?_
  refine lv_bipush (v := (10 : Int32)) hx hb dX10_strategy_262 (by decide) ?_
  refine lv_icmp_eq (tgt := 272) hx hb dX10_strategy_264 (by decide) (fun hc => ?_) (fun hc => ?_)
  · have h := fy_if_t h hc
    exact t_M_strategy_272 C hk148 _ _ _ _ _ _ _ h w (lv_sub hl [0, 1, 2, 3] rfl)
  · have h := fy_if_f h hc
    refine lv_iload hx hb dX10_strategy_267 (lv_at hl 5 rfl) ?_
    refine lv_if_ne (tgt := 282) hx hb dX10_strategy_269 (by decide) (fun hc => ?_) (fun hc => ?_)
    · have h := fy_if_f h hc
      obtain ⟨x282, e282⟩ : ∃ z : Int32, z = v8 + (-1 : Int32) := ⟨_, rfl⟩
      have h := fy_bl_some e282 h
      refine lv_iinc (k := 3) (v := x282) (lv' := [(8, .int x282), (0, .ref (g.2.2.1 0)), (6, .int v6), (7, .int v7), (9, .int v9), (10, .int v10)]) hx hb dX10_strategy_282 hl rfl (by rw [e282]; rfl) (by decide) rfl (fun ls hl => ?_)
      refine lv_goto (tgt := 148) hx hb dX10_strategy_285 (by decide) ?_
      exact hk148 _ _ _ _ _ _ _ h w (lv_sub hl [1, 2, 3, 0] rfl)
    · have h := fy_if_t h hc
      exact t_M_strategy_272 C hk148 _ _ _ _ _ _ _ h w (lv_sub hl [0, 1, 2, 3] rfl)

set_option maxHeartbeats 4000000 in
set_option maxRecDepth 100000 in
theorem t_M_strategy_247 {p : Program} {l : Launch} {e : Env} {s : State} {m : MethodId} {args : Array Value} {below : List Frame} {meth : Method} {c : Code} {g : fy_G} (C : fy_C g M_Y p s m args meth c yX10_strategy.cls cX10_strategy 11 (some .int)) {Sr : fy_S} {rr : Int32} {k148 : fy_S → Int32 → Int32 → Int32 → Option (fy_S × Int32)} (hk148 : ∀ (S : fy_S) (v6 : Int32) (v7 : Int32) (v8 : Int32) (H : Heap) (locs : List Loc) (ls : Array Slot), k148 S v6 v7 v8 = some (Sr, rr) → fy_W g M_Y S s H locs → lv_has ls 11 [(0, .ref (g.2.2.1 0)), (6, .int v6), (7, .int v7), (8, .int v8)] → W p l e (fy_rm 4) s m args below meth c H locs 0 0 (MQ below (fy_QI g M_Y rr Sr) args s 0 0 (fy_A g M_Y)) (F0 m 148 ls [])) : ∀ (S : fy_S) (v6 : Int32) (v7 : Int32) (v8 : Int32) (v9 : Int32) (v10 : Int32) (H : Heap) (locs : List Loc) (ls : Array Slot), M_strategy_247 k148 S v6 v7 v8 v9 v10 = some (Sr, rr) → fy_W g M_Y S s H locs → lv_has ls 11 [(0, .ref (g.2.2.1 0)), (6, .int v6), (7, .int v7), (8, .int v8), (9, .int v9), (10, .int v10)] → W p l e (fy_rm 4) s m args below meth c H locs 0 0 (MQ below (fy_QI g M_Y rr Sr) args s 0 0 (fy_A g M_Y)) (F0 m 247 ls []) := by
  obtain ⟨hx, hb, hr, hts, hown, hlk, hml, hK, hD, hE, hN⟩ := id C
  intro S v6 v7 v8 v9 v10 H locs ls h w  hl
  rw [M_strategy_247] at h
  refine lv_aload_n hx hb dX10_strategy_247 rfl (lv_at hl 0 rfl) ?_
  refine gfX10_61 C w dX10_strategy_248 ?_
  refine lv_aload_n hx hb dX10_strategy_251 rfl (lv_at hl 0 rfl) ?_
  refine gfX10_37 C w dX10_strategy_252 ?_
  refine lv_iload hx hb dX10_strategy_255 (lv_at hl 3 rfl) ?_
  obtain ⟨g257, h⟩ := fy_gd_some h
  refine fy_iald C w M_a10 g257 dX10_strategy_257 ?_
  refine lv_iconst (v := (1 : Int32)) hx hb dX10_strategy_258 (by decide) ?_
  obtain ⟨g259, h⟩ := fy_gd_some h
  refine fy_iast C w M_a18 g259 dX10_strategy_259 (fun H locs w => ?_)
  obtain ⟨S259, e259⟩ : ∃ z, z = fy_sI S 18 (S.1 10 v8.toNatClampNeg).toNatClampNeg (1 : Int32) := ⟨_, rfl⟩
  have h := fy_bl_some e259 h
  rw [← e259] at w
  exact t_M_strategy_260 C hk148 _ _ _ _ _ _ _ _ _ h w (lv_sub hl [0, 1, 2, 3, 4, 5] rfl)

set_option maxHeartbeats 4000000 in
set_option maxRecDepth 100000 in
theorem t_M_strategy_233 {p : Program} {l : Launch} {e : Env} {s : State} {m : MethodId} {args : Array Value} {below : List Frame} {meth : Method} {c : Code} {g : fy_G} (C : fy_C g M_Y p s m args meth c yX10_strategy.cls cX10_strategy 11 (some .int)) {Sr : fy_S} {rr : Int32} {k148 : fy_S → Int32 → Int32 → Int32 → Option (fy_S × Int32)} (hk148 : ∀ (S : fy_S) (v6 : Int32) (v7 : Int32) (v8 : Int32) (H : Heap) (locs : List Loc) (ls : Array Slot), k148 S v6 v7 v8 = some (Sr, rr) → fy_W g M_Y S s H locs → lv_has ls 11 [(0, .ref (g.2.2.1 0)), (6, .int v6), (7, .int v7), (8, .int v8)] → W p l e (fy_rm 4) s m args below meth c H locs 0 0 (MQ below (fy_QI g M_Y rr Sr) args s 0 0 (fy_A g M_Y)) (F0 m 148 ls [])) : ∀ (S : fy_S) (v6 : Int32) (v7 : Int32) (v8 : Int32) (v9 : Int32) (z0 : Int32) (H : Heap) (locs : List Loc) (ls : Array Slot), M_strategy_233 k148 S v6 v7 v8 v9 z0 = some (Sr, rr) → fy_W g M_Y S s H locs → lv_has ls 11 [(0, .ref (g.2.2.1 0)), (6, .int v6), (7, .int v7), (8, .int v8), (9, .int v9)] → W p l e (fy_rm 4) s m args below meth c H locs 0 0 (MQ below (fy_QI g M_Y rr Sr) args s 0 0 (fy_A g M_Y)) (F0 m 233 ls [.int z0]) := by
  obtain ⟨hx, hb, hr, hts, hown, hlk, hml, hK, hD, hE, hN⟩ := id C
  intro S v6 v7 v8 v9 z0 H locs ls h w  hl
  rw [M_strategy_233] at h
  refine lv_istore (lv' := [(10, .int z0), (0, .ref (g.2.2.1 0)), (6, .int v6), (7, .int v7), (8, .int v8), (9, .int v9)]) hx hb dX10_strategy_233 hl (by decide) rfl (fun ls hl => ?_)
  refine lv_iload hx hb dX10_strategy_235 (lv_at hl 5 rfl) ?_
  refine lv_bipush (v := (10 : Int32)) hx hb dX10_strategy_237 (by decide) ?_
  refine lv_icmp_eq (tgt := 247) hx hb dX10_strategy_239 (by decide) (fun hc => ?_) (fun hc => ?_)
  · have h := fy_if_t h hc
    exact t_M_strategy_247 C hk148 _ _ _ _ _ _ _ _ _ h w (lv_sub hl [1, 2, 3, 4, 5, 0] rfl)
  · have h := fy_if_f h hc
    refine lv_iload hx hb dX10_strategy_242 (lv_at hl 0 rfl) ?_
    refine lv_if_eq (tgt := 260) hx hb dX10_strategy_244 (by decide) (fun hc => ?_) (fun hc => ?_)
    · have h := fy_if_t h hc
      exact t_M_strategy_260 C hk148 _ _ _ _ _ _ _ _ _ h w (lv_sub hl [1, 2, 3, 4, 5, 0] rfl)
    · have h := fy_if_f h hc
      exact t_M_strategy_247 C hk148 _ _ _ _ _ _ _ _ _ h w (lv_sub hl [1, 2, 3, 4, 5, 0] rfl)

set_option maxHeartbeats 4000000 in
set_option maxRecDepth 100000 in
theorem t_M_strategy_194 {p : Program} {l : Launch} {e : Env} {s : State} {m : MethodId} {args : Array Value} {below : List Frame} {meth : Method} {c : Code} {g : fy_G} (C : fy_C g M_Y p s m args meth c yX10_strategy.cls cX10_strategy 11 (some .int)) {Sr : fy_S} {rr : Int32} {k148 : fy_S → Int32 → Int32 → Int32 → Option (fy_S × Int32)} (hk148 : ∀ (S : fy_S) (v6 : Int32) (v7 : Int32) (v8 : Int32) (H : Heap) (locs : List Loc) (ls : Array Slot), k148 S v6 v7 v8 = some (Sr, rr) → fy_W g M_Y S s H locs → lv_has ls 11 [(0, .ref (g.2.2.1 0)), (6, .int v6), (7, .int v7), (8, .int v8)] → W p l e (fy_rm 4) s m args below meth c H locs 0 0 (MQ below (fy_QI g M_Y rr Sr) args s 0 0 (fy_A g M_Y)) (F0 m 148 ls [])) : ∀ (S : fy_S) (v6 : Int32) (v7 : Int32) (v8 : Int32) (v9 : Int32) (H : Heap) (locs : List Loc) (ls : Array Slot), M_strategy_194 k148 S v6 v7 v8 v9 = some (Sr, rr) → fy_W g M_Y S s H locs → lv_has ls 11 [(0, .ref (g.2.2.1 0)), (6, .int v6), (7, .int v7), (8, .int v8), (9, .int v9)] → W p l e (fy_rm 4) s m args below meth c H locs 0 0 (MQ below (fy_QI g M_Y rr Sr) args s 0 0 (fy_A g M_Y)) (F0 m 194 ls []) := by
  obtain ⟨hx, hb, hr, hts, hown, hlk, hml, hK, hD, hE, hN⟩ := id C
  intro S v6 v7 v8 v9 H locs ls h w  hl
  rw [M_strategy_194] at h
  refine lv_iload hx hb dX10_strategy_194 (lv_at hl 4 rfl) ?_
  refine lv_bipush (v := (10 : Int32)) hx hb dX10_strategy_196 (by decide) ?_
  refine lv_icmp_ge (tgt := 204) hx hb dX10_strategy_198 (by decide) (fun hc => ?_) (fun hc => ?_)
  · have h := fy_if_t h hc
    refine lv_aload_n hx hb dX10_strategy_204 rfl (lv_at hl 0 rfl) ?_
    refine gfX10_58 C w dX10_strategy_205 ?_
    refine lv_aload_n hx hb dX10_strategy_208 rfl (lv_at hl 0 rfl) ?_
    refine gfX10_37 C w dX10_strategy_209 ?_
    refine lv_iload hx hb dX10_strategy_212 (lv_at hl 3 rfl) ?_
    obtain ⟨g214, h⟩ := fy_gd_some h
    refine fy_iald C w M_a10 g214 dX10_strategy_214 ?_
    obtain ⟨g215, h⟩ := fy_gd_some h
    refine fy_iald C w M_a17 g215 dX10_strategy_215 ?_
    refine lv_aload_n hx hb dX10_strategy_216 rfl (lv_at hl 0 rfl) ?_
    refine gfX10_58 C w dX10_strategy_217 ?_
    refine lv_iload hx hb dX10_strategy_220 (lv_at hl 3 rfl) ?_
    refine lv_iconst (v := (1 : Int32)) hx hb dX10_strategy_222 (by decide) ?_
    refine lv_isub hx hb dX10_strategy_223 ?_
    obtain ⟨g224, h⟩ := fy_gd_some h
    refine fy_iald C w M_a17 g224 dX10_strategy_224 ?_
    refine lv_icmp_gt (tgt := 232) hx hb dX10_strategy_225 (by decide) (fun hc => ?_) (fun hc => ?_)
    · have h := fy_if_t h hc
      refine lv_iconst (v := (0 : Int32)) hx hb dX10_strategy_232 (by decide) ?_
      exact t_M_strategy_233 C hk148 _ _ _ _ _ _ _ _ _ h w (lv_sub hl [0, 1, 2, 3, 4] rfl)
    · have h := fy_if_f h hc
      refine lv_iconst (v := (1 : Int32)) hx hb dX10_strategy_228 (by decide) ?_
      refine lv_goto (tgt := 233) hx hb dX10_strategy_229 (by decide) ?_
      exact t_M_strategy_233 C hk148 _ _ _ _ _ _ _ _ _ h w (lv_sub hl [0, 1, 2, 3, 4] rfl)
  · have h := fy_if_f h hc
    refine lv_goto (tgt := 282) hx hb dX10_strategy_201 (by decide) ?_
    obtain ⟨x282, e282⟩ : ∃ z : Int32, z = v8 + (-1 : Int32) := ⟨_, rfl⟩
    have h := fy_bl_some e282 h
    refine lv_iinc (k := 3) (v := x282) (lv' := [(8, .int x282), (0, .ref (g.2.2.1 0)), (6, .int v6), (7, .int v7), (9, .int v9)]) hx hb dX10_strategy_282 hl rfl (by rw [e282]; rfl) (by decide) rfl (fun ls hl => ?_)
    refine lv_goto (tgt := 148) hx hb dX10_strategy_285 (by decide) ?_
    exact hk148 _ _ _ _ _ _ _ h w (lv_sub hl [1, 2, 3, 0] rfl)

set_option maxHeartbeats 4000000 in
set_option maxRecDepth 100000 in
theorem t_M_strategy_148 {p : Program} {l : Launch} {e : Env} {s : State} {m : MethodId} {args : Array Value} {below : List Frame} {meth : Method} {c : Code} {g : fy_G} (C : fy_C g M_Y p s m args meth c yX10_strategy.cls cX10_strategy 11 (some .int)) {Sr : fy_S} {rr : Int32} : ∀ (fu : Nat) (S : fy_S) (v6 : Int32) (v7 : Int32) (v8 : Int32) (H : Heap) (locs : List Loc) (ls : Array Slot), M_strategy_148 fu S v6 v7 v8 = some (Sr, rr) → fy_W g M_Y S s H locs → lv_has ls 11 [(0, .ref (g.2.2.1 0)), (6, .int v6), (7, .int v7), (8, .int v8)] → W p l e (fy_rm 4) s m args below meth c H locs 0 0 (MQ below (fy_QI g M_Y rr Sr) args s 0 0 (fy_A g M_Y)) (F0 m 148 ls []) := by
  obtain ⟨hx, hb, hr, hts, hown, hlk, hml, hK, hD, hE, hN⟩ := id C
  intro fu
  induction fu with
  | zero => intro S v6 v7 v8 H locs ls h; cases h
  | succ fu ih =>
    intro S v6 v7 v8 H locs ls h w  hl
    rw [M_strategy_148] at h
    refine lv_iload hx hb dX10_strategy_148 (lv_at hl 3 rfl) ?_
    refine lv_if_lt (tgt := 288) hx hb dX10_strategy_150 (by decide) (fun hc => ?_) (fun hc => ?_)
    · have h := fy_if_t h hc
      refine lv_iload hx hb dX10_strategy_288 (lv_at hl 2 rfl) ?_
      cases h
      exact fy_retI C w dX10_strategy_290
    · have h := fy_if_f h hc
      refine lv_aload_n hx hb dX10_strategy_153 rfl (lv_at hl 0 rfl) ?_
      refine gfX10_25 C w dX10_strategy_154 ?_
      refine lv_iload hx hb dX10_strategy_157 (lv_at hl 1 rfl) ?_
      refine lv_iload hx hb dX10_strategy_159 (lv_at hl 3 rfl) ?_
      refine lv_iadd hx hb dX10_strategy_161 ?_
      obtain ⟨g162, h⟩ := fy_gd_some h
      refine fy_iald C w M_a6 g162 dX10_strategy_162 ?_
      refine lv_topi (fun x163 e163 => ?_)
      have h := fy_bl_some e163 h
      refine lv_istore (lv' := [(9, .int x163), (0, .ref (g.2.2.1 0)), (6, .int v6), (7, .int v7), (8, .int v8)]) hx hb dX10_strategy_163 hl (by decide) rfl (fun ls hl => ?_)
      refine lv_aload_n hx hb dX10_strategy_165 rfl (lv_at hl 1 rfl) ?_
      refine gfX10_61 C w dX10_strategy_166 ?_
      refine lv_iload hx hb dX10_strategy_169 (lv_at hl 4 rfl) ?_
      obtain ⟨g171, h⟩ := fy_gd_some h
      refine fy_iald C w M_a18 g171 dX10_strategy_171 ?_
      refine lv_if_ne (tgt := 178) hx hb dX10_strategy_172 (by decide) (fun hc => ?_) (fun hc => ?_)
      · have h := fy_if_f h hc
        refine lv_iload hx hb dX10_strategy_178 (lv_at hl 0 rfl) ?_
        refine lv_bipush (v := (8 : Int32)) hx hb dX10_strategy_180 (by decide) ?_
        refine lv_icmp_ge (tgt := 194) hx hb dX10_strategy_182 (by decide) (fun hc => ?_) (fun hc => ?_)
        · have h := fy_if_t h hc
          exact t_M_strategy_194 C ih _ _ _ _ _ _ _ _ h w (lv_sub hl [1, 2, 3, 4, 0] rfl)
        · have h := fy_if_f h hc
          refine lv_iload hx hb dX10_strategy_185 (lv_at hl 3 rfl) ?_
          refine lv_iconst (v := (1 : Int32)) hx hb dX10_strategy_187 (by decide) ?_
          refine lv_iload hx hb dX10_strategy_188 (lv_at hl 0 rfl) ?_
          refine lv_ishl hx hb dX10_strategy_190 ?_
          refine lv_ior hx hb dX10_strategy_191 ?_
          refine lv_topi (fun x192 e192 => ?_)
          have h := fy_bl_some e192 h
          refine lv_istore (lv' := [(7, .int x192), (9, .int x163), (0, .ref (g.2.2.1 0)), (6, .int v6), (8, .int v8)]) hx hb dX10_strategy_192 hl (by decide) rfl (fun ls hl => ?_)
          exact t_M_strategy_194 C ih _ _ _ _ _ _ _ _ h w (lv_sub hl [2, 3, 0, 4, 1] rfl)
      · have h := fy_if_t h hc
        refine lv_goto (tgt := 282) hx hb dX10_strategy_175 (by decide) ?_
        obtain ⟨x282, e282⟩ : ∃ z : Int32, z = v8 + (-1 : Int32) := ⟨_, rfl⟩
        have h := fy_bl_some e282 h
        refine lv_iinc (k := 4) (v := x282) (lv' := [(8, .int x282), (9, .int x163), (0, .ref (g.2.2.1 0)), (6, .int v6), (7, .int v7)]) hx hb dX10_strategy_282 hl rfl (by rw [e282]; rfl) (by decide) rfl (fun ls hl => ?_)
        refine lv_goto (tgt := 148) hx hb dX10_strategy_285 (by decide) ?_
        exact ih _ _ _ _ _ _ _ h w (lv_sub hl [2, 3, 4, 0] rfl)

set_option maxHeartbeats 4000000 in
set_option maxRecDepth 100000 in
theorem t_M_strategy_134 {p : Program} {l : Launch} {e : Env} {s : State} {m : MethodId} {args : Array Value} {below : List Frame} {meth : Method} {c : Code} {g : fy_G} (C : fy_C g M_Y p s m args meth c yX10_strategy.cls cX10_strategy 11 (some .int)) {Sr : fy_S} {rr : Int32} {k109 : fy_S → Int32 → Int32 → Int32 → Option (fy_S × Int32)} (hk109 : ∀ (S : fy_S) (v5 : Int32) (v6 : Int32) (v7 : Int32) (H : Heap) (locs : List Loc) (ls : Array Slot), k109 S v5 v6 v7 = some (Sr, rr) → fy_W g M_Y S s H locs → lv_has ls 11 [(0, .ref (g.2.2.1 0)), (5, .int v5), (6, .int v6), (7, .int v7)] → W p l e (fy_rm 4) s m args below meth c H locs 0 0 (MQ below (fy_QI g M_Y rr Sr) args s 0 0 (fy_A g M_Y)) (F0 m 109 ls [])) : ∀ (S : fy_S) (v5 : Int32) (v6 : Int32) (v7 : Int32) (z0 : Int32) (z1 : Int32) (H : Heap) (locs : List Loc) (ls : Array Slot), M_strategy_134 k109 S v5 v6 v7 z0 z1 = some (Sr, rr) → fy_W g M_Y S s H locs → lv_has ls 11 [(0, .ref (g.2.2.1 0)), (5, .int v5), (6, .int v6), (7, .int v7)] → W p l e (fy_rm 4) s m args below meth c H locs 0 0 (MQ below (fy_QI g M_Y rr Sr) args s 0 0 (fy_A g M_Y)) (F0 m 134 ls [.int z0, .int z1, .ref (g.2.2.1 18)]) := by
  obtain ⟨hx, hb, hr, hts, hown, hlk, hml, hK, hD, hE, hN⟩ := id C
  intro S v5 v6 v7 z0 z1 H locs ls h w  hl
  rw [M_strategy_134] at h
  obtain ⟨g134, h⟩ := fy_gd_some h
  refine fy_iast C w M_a18 g134 dX10_strategy_134 (fun H locs w => ?_)
  obtain ⟨S134, e134⟩ : ∃ z, z = fy_sI S 18 z1.toNatClampNeg z0 := ⟨_, rfl⟩
  have h := fy_bl_some e134 h
  rw [← e134] at w
  obtain ⟨x135, e135⟩ : ∃ z : Int32, z = v7 + (1 : Int32) := ⟨_, rfl⟩
  have h := fy_bl_some e135 h
  refine lv_iinc (k := 3) (v := x135) (lv' := [(7, .int x135), (0, .ref (g.2.2.1 0)), (5, .int v5), (6, .int v6)]) hx hb dX10_strategy_135 hl rfl (by rw [e135]; rfl) (by decide) rfl (fun ls hl => ?_)
  refine lv_goto (tgt := 109) hx hb dX10_strategy_138 (by decide) ?_
  exact hk109 _ _ _ _ _ _ _ h w (lv_sub hl [1, 2, 3, 0] rfl)

set_option maxHeartbeats 4000000 in
set_option maxRecDepth 100000 in
theorem t_M_strategy_109 {p : Program} {l : Launch} {e : Env} {s : State} {m : MethodId} {args : Array Value} {below : List Frame} {meth : Method} {c : Code} {g : fy_G} (C : fy_C g M_Y p s m args meth c yX10_strategy.cls cX10_strategy 11 (some .int)) {Sr : fy_S} {rr : Int32} : ∀ (fu : Nat) (S : fy_S) (v5 : Int32) (v6 : Int32) (v7 : Int32) (H : Heap) (locs : List Loc) (ls : Array Slot), M_strategy_109 fu S v5 v6 v7 = some (Sr, rr) → fy_W g M_Y S s H locs → lv_has ls 11 [(0, .ref (g.2.2.1 0)), (5, .int v5), (6, .int v6), (7, .int v7)] → W p l e (fy_rm 4) s m args below meth c H locs 0 0 (MQ below (fy_QI g M_Y rr Sr) args s 0 0 (fy_A g M_Y)) (F0 m 109 ls []) := by
  obtain ⟨hx, hb, hr, hts, hown, hlk, hml, hK, hD, hE, hN⟩ := id C
  intro fu
  induction fu with
  | zero => intro S v5 v6 v7 H locs ls h; cases h
  | succ fu ih =>
    intro S v5 v6 v7 H locs ls h w  hl
    rw [M_strategy_109] at h
    refine lv_iload hx hb dX10_strategy_109 (lv_at hl 3 rfl) ?_
    refine lv_iload hx hb dX10_strategy_111 (lv_at hl 1 rfl) ?_
    refine lv_icmp_gt (tgt := 141) hx hb dX10_strategy_113 (by decide) (fun hc => ?_) (fun hc => ?_)
    · have h := fy_if_t h hc
      refine lv_iconst (v := (0 : Int32)) hx hb dX10_strategy_141 (by decide) ?_
      refine lv_istore (lv' := [(7, .int (0 : Int32)), (0, .ref (g.2.2.1 0)), (5, .int v5), (6, .int v6)]) hx hb dX10_strategy_142 hl (by decide) rfl (fun ls hl => ?_)
      refine lv_iload hx hb dX10_strategy_144 (lv_at hl 2 rfl) ?_
      refine lv_istore (lv' := [(8, .int v5), (7, .int (0 : Int32)), (0, .ref (g.2.2.1 0)), (5, .int v5), (6, .int v6)]) hx hb dX10_strategy_146 hl (by decide) rfl (fun ls hl => ?_)
      exact t_M_strategy_148 C fy_fu _ _ _ _ _ _ _ h w (lv_sub hl [2, 4, 1, 0] rfl)
    · have h := fy_if_f h hc
      refine lv_aload_n hx hb dX10_strategy_116 rfl (lv_at hl 0 rfl) ?_
      refine gfX10_61 C w dX10_strategy_117 ?_
      refine lv_iload hx hb dX10_strategy_120 (lv_at hl 3 rfl) ?_
      refine lv_iload hx hb dX10_strategy_122 (lv_at hl 3 rfl) ?_
      refine lv_iload hx hb dX10_strategy_124 (lv_at hl 1 rfl) ?_
      refine lv_icmp_ne (tgt := 133) hx hb dX10_strategy_126 (by decide) (fun hc => ?_) (fun hc => ?_)
      · have h := fy_if_f h hc
        refine lv_iconst (v := (0 : Int32)) hx hb dX10_strategy_133 (by decide) ?_
        exact t_M_strategy_134 C ih _ _ _ _ _ _ _ _ _ h w (lv_sub hl [0, 1, 2, 3] rfl)
      · have h := fy_if_t h hc
        refine lv_iconst (v := (1 : Int32)) hx hb dX10_strategy_129 (by decide) ?_
        refine lv_goto (tgt := 134) hx hb dX10_strategy_130 (by decide) ?_
        exact t_M_strategy_134 C ih _ _ _ _ _ _ _ _ _ h w (lv_sub hl [0, 1, 2, 3] rfl)

set_option maxHeartbeats 4000000 in
set_option maxRecDepth 100000 in
theorem t_M_strategy {p : Program} {l : Launch} {e : Env} {s : State} {m : MethodId} {args : Array Value} {below : List Frame} {meth : Method} {c : Code} {g : fy_G} (C : fy_C g M_Y p s m args meth c yX10_strategy.cls cX10_strategy 11 (some .int)) {S : fy_S} {v1 : Int32} {v2 : Int32} {v3 : Int32} {Sr : fy_S} {rr : Int32}  {H : Heap} {locs : List Loc} {ls : Array Slot} (h : M_strategy S v1 v2 v3 = some (Sr, rr)) (w : fy_W g M_Y S s H locs) (hl : lv_has ls 11 [(0, .ref (g.2.2.1 0)), (1, .int v1), (2, .int v2), (3, .int v3)]) : W p l e (fy_rm 4) s m args below meth c H locs 0 0 (MQ below (fy_QI g M_Y rr Sr) args s 0 0 (fy_A g M_Y)) (F0 m 0 ls []) := by
  obtain ⟨hx, hb, hr, hts, hown, hlk, hml, hK, hD, hE, hN⟩ := id C
  rw [M_strategy] at h
  refine lv_iload_n hx hb dX10_strategy_0 rfl (lv_at hl 1 rfl) ?_
  obtain ⟨r1, h1, h⟩ := fy_bd_some h
  refine fy_calI w (fy_runS (As := [.int v1]) (rest := []) C w (c_M_isSlot l g  h1) ksX10_123 ⟨Nat.le_of_ble_eq_true rfl, Nat.le_of_ble_eq_true rfl⟩ rfl hl.1 rfl (Nat.le_of_ble_eq_true rfl) ⟨Nat.le_refl _, Nat.le_refl _⟩ dX10_strategy_1) (fun H locs w => ?_)
  refine lv_if_eq (tgt := 30) hx hb dX10_strategy_4 (by decide) (fun hc => ?_) (fun hc => ?_)
  · have h := fy_if_t h hc
    refine lv_bipush (v := (-2 : Int32)) hx hb dX10_strategy_30 (by decide) ?_
    cases h
    exact fy_retI C w dX10_strategy_32
  · have h := fy_if_f h hc
    refine lv_aload_n hx hb dX10_strategy_7 rfl (lv_at hl 0 rfl) ?_
    refine lv_iload_n hx hb dX10_strategy_8 rfl (lv_at hl 1 rfl) ?_
    refine lv_iload_n hx hb dX10_strategy_9 rfl (lv_at hl 3 rfl) ?_
    obtain ⟨r10, h10, h⟩ := fy_bd_some h
    refine fy_calI w (fy_runV (As := [.int v1, .int v3]) (rest := []) C w (c_M_isState l g  h10) M_o ksX10_131 rfl ⟨Nat.le_of_ble_eq_true rfl, Nat.le_of_ble_eq_true rfl⟩ rfl hl.1 rfl (Nat.le_of_ble_eq_true rfl) ⟨Nat.le_refl _, Nat.le_refl _⟩ dX10_strategy_10) (fun H locs w => ?_)
    refine lv_if_eq (tgt := 30) hx hb dX10_strategy_13 (by decide) (fun hc => ?_) (fun hc => ?_)
    · have h := fy_if_t h hc
      refine lv_bipush (v := (-2 : Int32)) hx hb dX10_strategy_30 (by decide) ?_
      cases h
      exact fy_retI C w dX10_strategy_32
    · have h := fy_if_f h hc
      refine lv_iload_n hx hb dX10_strategy_16 rfl (lv_at hl 2 rfl) ?_
      refine lv_iconst (v := (0 : Int32)) hx hb dX10_strategy_17 (by decide) ?_
      refine lv_aload_n hx hb dX10_strategy_18 rfl (lv_at hl 0 rfl) ?_
      refine gfX10_237 C w dX10_strategy_19 ?_
      refine lv_iconst (v := (1 : Int32)) hx hb dX10_strategy_22 (by decide) ?_
      refine lv_isub hx hb dX10_strategy_23 ?_
      obtain ⟨r24, h24, h⟩ := fy_bd_some h
      refine fy_calI w (fy_runS (As := [.int v2, .int (0 : Int32), .int ((S.1 0 25) - (1 : Int32))]) (rest := []) C w (c_M_isBetween l g  h24) ksX10_127 ⟨Nat.le_of_ble_eq_true rfl, Nat.le_of_ble_eq_true rfl⟩ rfl hl.1 rfl (Nat.le_of_ble_eq_true rfl) ⟨Nat.le_refl _, Nat.le_refl _⟩ dX10_strategy_24) (fun H locs w => ?_)
      refine lv_if_ne (tgt := 33) hx hb dX10_strategy_27 (by decide) (fun hc => ?_) (fun hc => ?_)
      · have h := fy_if_f h hc
        refine lv_aload_n hx hb dX10_strategy_33 rfl (lv_at hl 0 rfl) ?_
        refine lv_iload_n hx hb dX10_strategy_34 rfl (lv_at hl 1 rfl) ?_
        obtain ⟨r35, h35, h⟩ := fy_bd_some h
        refine fy_calI w (fy_runV (As := [.int v1]) (rest := []) C w (c_M_isWordOf l g  h35) M_o ksX10_243 rfl ⟨Nat.le_of_ble_eq_true rfl, Nat.le_of_ble_eq_true rfl⟩ rfl hl.1 rfl (Nat.le_of_ble_eq_true rfl) ⟨Nat.le_refl _, Nat.le_refl _⟩ dX10_strategy_35) (fun H locs w => ?_)
        refine lv_if_ne (tgt := 44) hx hb dX10_strategy_38 (by decide) (fun hc => ?_) (fun hc => ?_)
        · have h := fy_if_f h hc
          refine lv_aload_n hx hb dX10_strategy_44 rfl (lv_at hl 0 rfl) ?_
          refine lv_iload_n hx hb dX10_strategy_45 rfl (lv_at hl 1 rfl) ?_
          refine lv_iload_n hx hb dX10_strategy_46 rfl (lv_at hl 2 rfl) ?_
          refine lv_iconst (v := (1 : Int32)) hx hb dX10_strategy_47 (by decide) ?_
          refine lv_iadd hx hb dX10_strategy_48 ?_
          obtain ⟨S49, h49, h⟩ := fy_bd_some h
          refine fy_calV w (fy_runV (As := [.int v1, .int (v2 + (1 : Int32))]) (rest := []) C w (c_M_findRanks l g  h49) M_o ksX10_261 rfl ⟨Nat.le_of_ble_eq_true rfl, Nat.le_of_ble_eq_true rfl⟩ rfl hl.1 rfl (Nat.le_of_ble_eq_true rfl) ⟨Nat.le_refl _, Nat.le_refl _⟩ dX10_strategy_49) (fun H locs w => ?_)
          refine lv_iload_n hx hb dX10_strategy_52 rfl (lv_at hl 3 rfl) ?_
          refine lv_aload_n hx hb dX10_strategy_53 rfl (lv_at hl 0 rfl) ?_
          refine gfX10_49 C w dX10_strategy_54 ?_
          refine lv_iload_n hx hb dX10_strategy_57 rfl (lv_at hl 2 rfl) ?_
          obtain ⟨g58, h⟩ := fy_gd_some h
          refine fy_iald C w M_a14 g58 dX10_strategy_58 ?_
          obtain ⟨r59, h59, h⟩ := fy_bd_some h
          refine fy_calI w (fy_runS (As := [.int v3, .int (S49.1 14 v2.toNatClampNeg)]) (rest := []) C w (c_M_formulaOf l g  h59) ksX10_176 ⟨Nat.le_of_ble_eq_true rfl, Nat.le_of_ble_eq_true rfl⟩ rfl hl.1 rfl (Nat.le_of_ble_eq_true rfl) ⟨Nat.le_refl _, Nat.le_refl _⟩ dX10_strategy_59) (fun H locs w => ?_)
          refine lv_istore (lv' := [(4, .int r59), (0, .ref (g.2.2.1 0)), (1, .int v1), (2, .int v2), (3, .int v3)]) hx hb dX10_strategy_62 hl (by decide) rfl (fun ls hl => ?_)
          refine lv_aload_n hx hb dX10_strategy_64 rfl (lv_at hl 1 rfl) ?_
          refine lv_iload_n hx hb dX10_strategy_65 rfl (lv_at hl 2 rfl) ?_
          refine lv_iload hx hb dX10_strategy_66 (lv_at hl 0 rfl) ?_
          obtain ⟨S68, h68, h⟩ := fy_bd_some h
          refine fy_calV w (fy_runV (As := [.int v1, .int r59]) (rest := []) C w (c_M_findNodeRanks l g  h68) M_o ksX10_258 rfl ⟨Nat.le_of_ble_eq_true rfl, Nat.le_of_ble_eq_true rfl⟩ rfl hl.1 rfl (Nat.le_of_ble_eq_true rfl) ⟨Nat.le_refl _, Nat.le_refl _⟩ dX10_strategy_68) (fun H locs w => ?_)
          refine lv_aload_n hx hb dX10_strategy_71 rfl (lv_at hl 1 rfl) ?_
          refine lv_iload_n hx hb dX10_strategy_72 rfl (lv_at hl 2 rfl) ?_
          refine lv_iload hx hb dX10_strategy_73 (lv_at hl 0 rfl) ?_
          obtain ⟨r75, h75, h⟩ := fy_bd_some h
          refine fy_calI w (fy_runV (As := [.int v1, .int r59]) (rest := []) C w (c_M_sizeOf l g  h75) M_o ksX10_196 rfl ⟨Nat.le_of_ble_eq_true rfl, Nat.le_of_ble_eq_true rfl⟩ rfl hl.1 rfl (Nat.le_of_ble_eq_true rfl) ⟨Nat.le_refl _, Nat.le_refl _⟩ dX10_strategy_75) (fun H locs w => ?_)
          refine lv_iconst (v := (1 : Int32)) hx hb dX10_strategy_78 (by decide) ?_
          refine lv_isub hx hb dX10_strategy_79 ?_
          refine lv_topi (fun x80 e80 => ?_)
          have h := fy_bl_some e80 h
          refine lv_istore (lv' := [(5, .int x80), (4, .int r59), (0, .ref (g.2.2.1 0)), (1, .int v1), (2, .int v2), (3, .int v3)]) hx hb dX10_strategy_80 hl (by decide) rfl (fun ls hl => ?_)
          refine lv_aload_n hx hb dX10_strategy_82 rfl (lv_at hl 2 rfl) ?_
          refine gfX10_58 C w dX10_strategy_83 ?_
          refine lv_iload hx hb dX10_strategy_86 (lv_at hl 0 rfl) ?_
          obtain ⟨g88, h⟩ := fy_gd_some h
          refine fy_iald C w M_a17 g88 dX10_strategy_88 ?_
          obtain ⟨r89, h89, h⟩ := fy_bd_some h
          refine fy_calI w (fy_runS (As := [.int (S68.1 17 x80.toNatClampNeg)]) (rest := []) C w (c_M_isWon l g  h89) ksX10_252 ⟨Nat.le_of_ble_eq_true rfl, Nat.le_of_ble_eq_true rfl⟩ rfl hl.1 rfl (Nat.le_of_ble_eq_true rfl) ⟨Nat.le_refl _, Nat.le_refl _⟩ dX10_strategy_89) (fun H locs w => ?_)
          refine lv_if_ne (tgt := 97) hx hb dX10_strategy_92 (by decide) (fun hc => ?_) (fun hc => ?_)
          · have h := fy_if_f h hc
            refine lv_aload_n hx hb dX10_strategy_97 rfl (lv_at hl 2 rfl) ?_
            refine lv_iload_n hx hb dX10_strategy_98 rfl (lv_at hl 3 rfl) ?_
            refine lv_iload hx hb dX10_strategy_99 (lv_at hl 1 rfl) ?_
            obtain ⟨r101, h101, h⟩ := fy_bd_some h
            refine fy_calI w (fy_runV (As := [.int v1, .int r59]) (rest := []) C w (c_M_at l g  h101) M_o ksX10_119 rfl ⟨Nat.le_of_ble_eq_true rfl, Nat.le_of_ble_eq_true rfl⟩ rfl hl.1 rfl (Nat.le_of_ble_eq_true rfl) ⟨Nat.le_refl _, Nat.le_refl _⟩ dX10_strategy_101) (fun H locs w => ?_)
            refine lv_istore (lv' := [(6, .int r101), (5, .int x80), (4, .int r59), (0, .ref (g.2.2.1 0)), (1, .int v1), (2, .int v2), (3, .int v3)]) hx hb dX10_strategy_104 hl (by decide) rfl (fun ls hl => ?_)
            refine lv_iconst (v := (0 : Int32)) hx hb dX10_strategy_106 (by decide) ?_
            refine lv_istore (lv' := [(7, .int (0 : Int32)), (6, .int r101), (5, .int x80), (4, .int r59), (0, .ref (g.2.2.1 0)), (1, .int v1), (2, .int v2), (3, .int v3)]) hx hb dX10_strategy_107 hl (by decide) rfl (fun ls hl => ?_)
            exact t_M_strategy_109 C fy_fu _ _ _ _ _ _ _ h w (lv_sub hl [4, 2, 1, 0] rfl)
          · have h := fy_if_t h hc
            refine lv_iconst (v := (-1 : Int32)) hx hb dX10_strategy_95 (by decide) ?_
            cases h
            exact fy_retI C w dX10_strategy_96
        · have h := fy_if_t h hc
          refine lv_bipush (v := (-4 : Int32)) hx hb dX10_strategy_41 (by decide) ?_
          cases h
          exact fy_retI C w dX10_strategy_43
      · have h := fy_if_t h hc
        refine lv_bipush (v := (-2 : Int32)) hx hb dX10_strategy_30 (by decide) ?_
        cases h
        exact fy_retI C w dX10_strategy_32

set_option maxHeartbeats 4000000 in
set_option maxRecDepth 100000 in
theorem c_M_strategy (l : Launch) (g : fy_G) {S : fy_S} {v1 : Int32} {v2 : Int32} {v3 : Int32} {Sr : fy_S} {rr : Int32}  (h : M_strategy S v1 v2 v3 = some (Sr, rr)) : fy_M g M_Y l yX10_strategy cX10_strategy 11 (some .int) (fy_rm 4) [.ref (g.2.2.1 0), .int v1, .int v2, .int v3] S (fy_QI g M_Y rr Sr) :=
  fy_entry (by decide +kernel) (Nat.le_of_ble_eq_true rfl) (fun p e s m args below meth c ls C w hl => t_M_strategy C  h w hl)
def M_reverseStep (S : fy_S) (v1 : Int32) (v2 : Int32) (v3 : Int32) : Option (Int32) :=
  fy_bd (M_isSlot S v1) fun r1 =>
  if r1 = 0 then (
    some (-2 : Int32))
  else (
    fy_bd (M_isLetter S v1 v2) fun r10 =>
    if r10 = 0 then (
      some (-2 : Int32))
    else (
      fy_bd (M_isSet S v1 v3) fun r19 =>
      if r19 = 0 then (
        some (-2 : Int32))
      else (
        fy_bd (M_stepOf S v1 v2 v3) fun r32 =>
        some r32)))
set_option maxHeartbeats 4000000 in
set_option maxRecDepth 100000 in
theorem t_M_reverseStep {p : Program} {l : Launch} {e : Env} {s : State} {m : MethodId} {args : Array Value} {below : List Frame} {meth : Method} {c : Code} {g : fy_G} (C : fy_C g M_Y p s m args meth c yX10_reverseStep.cls cX10_reverseStep 4 (some .int)) {S : fy_S} {v1 : Int32} {v2 : Int32} {v3 : Int32} {rr : Int32}  {H : Heap} {locs : List Loc} {ls : Array Slot} (h : M_reverseStep S v1 v2 v3 = some rr) (w : fy_W g M_Y S s H locs) (hl : lv_has ls 4 [(0, .ref (g.2.2.1 0)), (1, .int v1), (2, .int v2), (3, .int v3)]) : W p l e (fy_rm 3) s m args below meth c H locs 0 0 (MQ below (fy_QI g M_Y rr S) args s 0 0 (fy_A g M_Y)) (F0 m 0 ls []) := by
  obtain ⟨hx, hb, hr, hts, hown, hlk, hml, hK, hD, hE, hN⟩ := id C
  rw [M_reverseStep] at h
  refine lv_iload_n hx hb dX10_reverseStep_0 rfl (lv_at hl 1 rfl) ?_
  obtain ⟨r1, h1, h⟩ := fy_bd_some h
  refine fy_calI w (fy_runS (As := [.int v1]) (rest := []) C w (c_M_isSlot l g  h1) ksX10_123 ⟨Nat.le_of_ble_eq_true rfl, Nat.le_of_ble_eq_true rfl⟩ rfl hl.1 rfl (Nat.le_of_ble_eq_true rfl) ⟨Nat.le_refl _, Nat.le_refl _⟩ dX10_reverseStep_1) (fun H locs w => ?_)
  refine lv_if_eq (tgt := 25) hx hb dX10_reverseStep_4 (by decide) (fun hc => ?_) (fun hc => ?_)
  · have h := fy_if_t h hc
    refine lv_bipush (v := (-2 : Int32)) hx hb dX10_reverseStep_25 (by decide) ?_
    cases h
    exact fy_retI C w dX10_reverseStep_27
  · have h := fy_if_f h hc
    refine lv_aload_n hx hb dX10_reverseStep_7 rfl (lv_at hl 0 rfl) ?_
    refine lv_iload_n hx hb dX10_reverseStep_8 rfl (lv_at hl 1 rfl) ?_
    refine lv_iload_n hx hb dX10_reverseStep_9 rfl (lv_at hl 2 rfl) ?_
    obtain ⟨r10, h10, h⟩ := fy_bd_some h
    refine fy_calI w (fy_runV (As := [.int v1, .int v2]) (rest := []) C w (c_M_isLetter l g  h10) M_o ksX10_135 rfl ⟨Nat.le_of_ble_eq_true rfl, Nat.le_of_ble_eq_true rfl⟩ rfl hl.1 rfl (Nat.le_of_ble_eq_true rfl) ⟨Nat.le_refl _, Nat.le_refl _⟩ dX10_reverseStep_10) (fun H locs w => ?_)
    refine lv_if_eq (tgt := 25) hx hb dX10_reverseStep_13 (by decide) (fun hc => ?_) (fun hc => ?_)
    · have h := fy_if_t h hc
      refine lv_bipush (v := (-2 : Int32)) hx hb dX10_reverseStep_25 (by decide) ?_
      cases h
      exact fy_retI C w dX10_reverseStep_27
    · have h := fy_if_f h hc
      refine lv_aload_n hx hb dX10_reverseStep_16 rfl (lv_at hl 0 rfl) ?_
      refine lv_iload_n hx hb dX10_reverseStep_17 rfl (lv_at hl 1 rfl) ?_
      refine lv_iload_n hx hb dX10_reverseStep_18 rfl (lv_at hl 3 rfl) ?_
      obtain ⟨r19, h19, h⟩ := fy_bd_some h
      refine fy_calI w (fy_runV (As := [.int v1, .int v3]) (rest := []) C w (c_M_isSet l g  h19) M_o ksX10_206 rfl ⟨Nat.le_of_ble_eq_true rfl, Nat.le_of_ble_eq_true rfl⟩ rfl hl.1 rfl (Nat.le_of_ble_eq_true rfl) ⟨Nat.le_refl _, Nat.le_refl _⟩ dX10_reverseStep_19) (fun H locs w => ?_)
      refine lv_if_ne (tgt := 28) hx hb dX10_reverseStep_22 (by decide) (fun hc => ?_) (fun hc => ?_)
      · have h := fy_if_f h hc
        refine lv_aload_n hx hb dX10_reverseStep_28 rfl (lv_at hl 0 rfl) ?_
        refine lv_iload_n hx hb dX10_reverseStep_29 rfl (lv_at hl 1 rfl) ?_
        refine lv_iload_n hx hb dX10_reverseStep_30 rfl (lv_at hl 2 rfl) ?_
        refine lv_iload_n hx hb dX10_reverseStep_31 rfl (lv_at hl 3 rfl) ?_
        obtain ⟨r32, h32, h⟩ := fy_bd_some h
        refine fy_calI w (fy_runV (As := [.int v1, .int v2, .int v3]) (rest := []) C w (c_M_stepOf l g  h32) M_o ksX10_240 rfl ⟨Nat.le_of_ble_eq_true rfl, Nat.le_of_ble_eq_true rfl⟩ rfl hl.1 rfl (Nat.le_of_ble_eq_true rfl) ⟨Nat.le_refl _, Nat.le_refl _⟩ dX10_reverseStep_32) (fun H locs w => ?_)
        cases h
        exact fy_retI C w dX10_reverseStep_35
      · have h := fy_if_t h hc
        refine lv_bipush (v := (-2 : Int32)) hx hb dX10_reverseStep_25 (by decide) ?_
        cases h
        exact fy_retI C w dX10_reverseStep_27

set_option maxHeartbeats 4000000 in
set_option maxRecDepth 100000 in
theorem c_M_reverseStep (l : Launch) (g : fy_G) {S : fy_S} {v1 : Int32} {v2 : Int32} {v3 : Int32} {rr : Int32}  (h : M_reverseStep S v1 v2 v3 = some rr) : fy_M g M_Y l yX10_reverseStep cX10_reverseStep 4 (some .int) (fy_rm 3) [.ref (g.2.2.1 0), .int v1, .int v2, .int v3] S (fy_QI g M_Y rr S) :=
  fy_entry (by decide +kernel) (Nat.le_of_ble_eq_true rfl) (fun p e s m args below meth c ls C w hl => t_M_reverseStep C  h w hl)
def M_forgets_7 : Nat → fy_S → Int32 → Option (fy_S)
  | 0, _, _ => none
  | fu + 1, S, v1 =>
    if (64 : Int32) ≤ v1 then (
      some S)
    else (
      fy_gd (fy_ix v1 64) <|
      fy_bl (fy_sI S 20 v1.toNatClampNeg (-1 : Int32)) fun S19 =>
      fy_bl (v1 + (1 : Int32)) fun x20 =>
      M_forgets_7 fu S19 x20)
def M_forgets (S : fy_S)  : Option (fy_S) :=
  fy_bl (fy_sI S 0 34 (0 : Int32)) fun S2 =>
  M_forgets_7 fy_fu S2 (0 : Int32)
set_option maxHeartbeats 4000000 in
set_option maxRecDepth 100000 in
theorem t_M_forgets_7 {p : Program} {l : Launch} {e : Env} {s : State} {m : MethodId} {args : Array Value} {below : List Frame} {meth : Method} {c : Code} {g : fy_G} (C : fy_C g M_Y p s m args meth c yX10_forgets.cls cX10_forgets 2 none) {Sr : fy_S}  : ∀ (fu : Nat) (S : fy_S) (v1 : Int32) (H : Heap) (locs : List Loc) (ls : Array Slot), M_forgets_7 fu S v1 = some Sr → fy_W g M_Y S s H locs → lv_has ls 2 [(0, .ref (g.2.2.1 0)), (1, .int v1)] → W p l e (fy_rm 0) s m args below meth c H locs 0 0 (MQ below (fy_QV g M_Y Sr) args s 0 0 (fy_A g M_Y)) (F0 m 7 ls []) := by
  obtain ⟨hx, hb, hr, hts, hown, hlk, hml, hK, hD, hE, hN⟩ := id C
  intro fu
  induction fu with
  | zero => intro S v1 H locs ls h; cases h
  | succ fu ih =>
    intro S v1 H locs ls h w  hl
    rw [M_forgets_7] at h
    refine lv_iload_n hx hb dX10_forgets_7 rfl (lv_at hl 1 rfl) ?_
    refine lv_bipush (v := (64 : Int32)) hx hb dX10_forgets_8 (by decide) ?_
    refine lv_icmp_ge (tgt := 26) hx hb dX10_forgets_10 (by decide) (fun hc => ?_) (fun hc => ?_)
    · have h := fy_if_t h hc
      cases h
      exact fy_retV C w dX10_forgets_26
    · have h := fy_if_f h hc
      refine lv_aload_n hx hb dX10_forgets_13 rfl (lv_at hl 0 rfl) ?_
      refine gfX10_67 C w dX10_forgets_14 ?_
      refine lv_iload_n hx hb dX10_forgets_17 rfl (lv_at hl 1 rfl) ?_
      refine lv_iconst (v := (-1 : Int32)) hx hb dX10_forgets_18 (by decide) ?_
      obtain ⟨g19, h⟩ := fy_gd_some h
      refine fy_iast C w M_a20 g19 dX10_forgets_19 (fun H locs w => ?_)
      obtain ⟨S19, e19⟩ : ∃ z, z = fy_sI S 20 v1.toNatClampNeg (-1 : Int32) := ⟨_, rfl⟩
      have h := fy_bl_some e19 h
      rw [← e19] at w
      obtain ⟨x20, e20⟩ : ∃ z : Int32, z = v1 + (1 : Int32) := ⟨_, rfl⟩
      have h := fy_bl_some e20 h
      refine lv_iinc (k := 1) (v := x20) (lv' := [(1, .int x20), (0, .ref (g.2.2.1 0))]) hx hb dX10_forgets_20 hl rfl (by rw [e20]; rfl) (by decide) rfl (fun ls hl => ?_)
      refine lv_goto (tgt := 7) hx hb dX10_forgets_23 (by decide) ?_
      exact ih _ _ _ _ _ h w (lv_sub hl [1, 0] rfl)

set_option maxHeartbeats 4000000 in
set_option maxRecDepth 100000 in
theorem t_M_forgets {p : Program} {l : Launch} {e : Env} {s : State} {m : MethodId} {args : Array Value} {below : List Frame} {meth : Method} {c : Code} {g : fy_G} (C : fy_C g M_Y p s m args meth c yX10_forgets.cls cX10_forgets 2 none) {S : fy_S}  {Sr : fy_S}   {H : Heap} {locs : List Loc} {ls : Array Slot} (h : M_forgets S  = some Sr) (w : fy_W g M_Y S s H locs) (hl : lv_has ls 2 [(0, .ref (g.2.2.1 0))]) : W p l e (fy_rm 0) s m args below meth c H locs 0 0 (MQ below (fy_QV g M_Y Sr) args s 0 0 (fy_A g M_Y)) (F0 m 0 ls []) := by
  obtain ⟨hx, hb, hr, hts, hown, hlk, hml, hK, hD, hE, hN⟩ := id C
  rw [M_forgets] at h
  refine lv_aload_n hx hb dX10_forgets_0 rfl (lv_at hl 0 rfl) ?_
  refine lv_iconst (v := (0 : Int32)) hx hb dX10_forgets_1 (by decide) ?_
  refine pfX10_264 C w dX10_forgets_2 (fun H locs w => ?_)
  obtain ⟨S2, e2⟩ : ∃ z, z = fy_sI S 0 34 (0 : Int32) := ⟨_, rfl⟩
  have h := fy_bl_some e2 h
  rw [← e2] at w
  refine lv_iconst (v := (0 : Int32)) hx hb dX10_forgets_5 (by decide) ?_
  refine lv_istore_n (lv' := [(1, .int (0 : Int32)), (0, .ref (g.2.2.1 0))]) hx hb dX10_forgets_6 rfl hl (by decide) rfl (fun ls hl => ?_)
  exact t_M_forgets_7 C fy_fu _ _ _ _ _ h w (lv_sub hl [1, 0] rfl)

set_option maxHeartbeats 4000000 in
set_option maxRecDepth 100000 in
theorem c_M_forgets (l : Launch) (g : fy_G) {S : fy_S}  {Sr : fy_S}   (h : M_forgets S  = some Sr) : fy_M g M_Y l yX10_forgets cX10_forgets 2 none (fy_rm 0) [.ref (g.2.2.1 0)] S (fy_QV g M_Y Sr) :=
  fy_entry (by decide +kernel) (Nat.le_of_ble_eq_true rfl) (fun p e s m args below meth c ls C w hl => t_M_forgets C  h w hl)
def M_comes (S : fy_S) (v1 : Int32) : Option (fy_S × Int32) :=
  fy_gd (fy_ix v1 64) <|
  if (S.1 20 v1.toNatClampNeg) < 0 then (
    fy_gd (fy_ix v1 64) <|
    fy_bl (fy_sI S 20 v1.toNatClampNeg (S.1 0 34)) fun S20 =>
    fy_gd (fy_ix (S20.1 0 34) 64) <|
    fy_bl (fy_sI S20 19 (S20.1 0 34).toNatClampNeg v1) fun S30 =>
    fy_bl (fy_sI S30 0 34 ((S30.1 0 34) + (1 : Int32))) fun S38 =>
    some (S38, (1 : Int32)))
  else (
    some (S, (0 : Int32)))
set_option maxHeartbeats 4000000 in
set_option maxRecDepth 100000 in
theorem t_M_comes {p : Program} {l : Launch} {e : Env} {s : State} {m : MethodId} {args : Array Value} {below : List Frame} {meth : Method} {c : Code} {g : fy_G} (C : fy_C g M_Y p s m args meth c yX10_comes.cls cX10_comes 2 (some .boolean)) {S : fy_S} {v1 : Int32} {Sr : fy_S} {rr : Int32}  {H : Heap} {locs : List Loc} {ls : Array Slot} (h : M_comes S v1 = some (Sr, rr)) (w : fy_W g M_Y S s H locs) (hl : lv_has ls 2 [(0, .ref (g.2.2.1 0)), (1, .int v1)]) : W p l e (fy_rm 0) s m args below meth c H locs 0 0 (MQ below (fy_QI g M_Y rr Sr) args s 0 0 (fy_A g M_Y)) (F0 m 0 ls []) := by
  obtain ⟨hx, hb, hr, hts, hown, hlk, hml, hK, hD, hE, hN⟩ := id C
  rw [M_comes] at h
  refine lv_aload_n hx hb dX10_comes_0 rfl (lv_at hl 0 rfl) ?_
  refine gfX10_67 C w dX10_comes_1 ?_
  refine lv_iload_n hx hb dX10_comes_4 rfl (lv_at hl 1 rfl) ?_
  obtain ⟨g5, h⟩ := fy_gd_some h
  refine fy_iald C w M_a20 g5 dX10_comes_5 ?_
  refine lv_if_lt (tgt := 11) hx hb dX10_comes_6 (by decide) (fun hc => ?_) (fun hc => ?_)
  · have h := fy_if_t h hc
    refine lv_aload_n hx hb dX10_comes_11 rfl (lv_at hl 0 rfl) ?_
    refine gfX10_67 C w dX10_comes_12 ?_
    refine lv_iload_n hx hb dX10_comes_15 rfl (lv_at hl 1 rfl) ?_
    refine lv_aload_n hx hb dX10_comes_16 rfl (lv_at hl 0 rfl) ?_
    refine gfX10_264 C w dX10_comes_17 ?_
    obtain ⟨g20, h⟩ := fy_gd_some h
    refine fy_iast C w M_a20 g20 dX10_comes_20 (fun H locs w => ?_)
    obtain ⟨S20, e20⟩ : ∃ z, z = fy_sI S 20 v1.toNatClampNeg (S.1 0 34) := ⟨_, rfl⟩
    have h := fy_bl_some e20 h
    rw [← e20] at w
    refine lv_aload_n hx hb dX10_comes_21 rfl (lv_at hl 0 rfl) ?_
    refine gfX10_64 C w dX10_comes_22 ?_
    refine lv_aload_n hx hb dX10_comes_25 rfl (lv_at hl 0 rfl) ?_
    refine gfX10_264 C w dX10_comes_26 ?_
    refine lv_iload_n hx hb dX10_comes_29 rfl (lv_at hl 1 rfl) ?_
    obtain ⟨g30, h⟩ := fy_gd_some h
    refine fy_iast C w M_a19 g30 dX10_comes_30 (fun H locs w => ?_)
    obtain ⟨S30, e30⟩ : ∃ z, z = fy_sI S20 19 (S20.1 0 34).toNatClampNeg v1 := ⟨_, rfl⟩
    have h := fy_bl_some e30 h
    rw [← e30] at w
    refine lv_aload_n hx hb dX10_comes_31 rfl (lv_at hl 0 rfl) ?_
    refine lv_dup hx hb dX10_comes_32 rfl ?_
    refine gfX10_264 C w dX10_comes_33 ?_
    refine lv_iconst (v := (1 : Int32)) hx hb dX10_comes_36 (by decide) ?_
    refine lv_iadd hx hb dX10_comes_37 ?_
    refine pfX10_264 C w dX10_comes_38 (fun H locs w => ?_)
    obtain ⟨S38, e38⟩ : ∃ z, z = fy_sI S30 0 34 ((S30.1 0 34) + (1 : Int32)) := ⟨_, rfl⟩
    have h := fy_bl_some e38 h
    rw [← e38] at w
    refine lv_iconst (v := (1 : Int32)) hx hb dX10_comes_41 (by decide) ?_
    cases h
    exact fy_retZ C w (by decide +kernel) dX10_comes_42
  · have h := fy_if_f h hc
    refine lv_iconst (v := (0 : Int32)) hx hb dX10_comes_9 (by decide) ?_
    cases h
    exact fy_retZ C w (by decide +kernel) dX10_comes_10

set_option maxHeartbeats 4000000 in
set_option maxRecDepth 100000 in
theorem c_M_comes (l : Launch) (g : fy_G) {S : fy_S} {v1 : Int32} {Sr : fy_S} {rr : Int32}  (h : M_comes S v1 = some (Sr, rr)) : fy_M g M_Y l yX10_comes cX10_comes 2 (some .boolean) (fy_rm 0) [.ref (g.2.2.1 0), .int v1] S (fy_QI g M_Y rr Sr) :=
  fy_entry (by decide +kernel) (Nat.le_of_ble_eq_true rfl) (fun p e s m args below meth c ls C w hl => t_M_comes C  h w hl)
def M_findReverse_27 (k17 : fy_S → Int32 → Int32 → Option (fy_S)) : Nat → fy_S → Int32 → Int32 → Int32 → Option (fy_S)
  | 0, _, _, _, _ => none
  | fu + 1, S, v1, v2, v3 =>
    fy_gd (fy_ix v1 7) <|
    if (S.1 2 v1.toNatClampNeg) ≤ v3 then (
      fy_bl (v2 + (1 : Int32)) fun x60 =>
      k17 S v1 x60)
    else (
      fy_gd (fy_ix v2 64) <|
      fy_bd (M_stepOf S v1 v3 (S.1 19 v2.toNatClampNeg)) fun r47 =>
      fy_bp (M_comes S r47) fun S50 r50 =>
      fy_bl (v3 + (1 : Int32)) fun x54 =>
      M_findReverse_27 k17 fu S50 v1 v2 x54)
def M_findReverse_17 : Nat → fy_S → Int32 → Int32 → Option (fy_S)
  | 0, _, _, _ => none
  | fu + 1, S, v1, v2 =>
    if (S.1 0 34) ≤ v2 then (
      some S)
    else (
      M_findReverse_27 (fun S v1 v2 => M_findReverse_17 fu S v1 v2) fy_fu S v1 v2 (0 : Int32))
def M_findReverse (S : fy_S) (v1 : Int32) : Option (fy_S) :=
  fy_bd (M_forgets S ) fun S1 =>
  fy_gd (fy_ix v1 7) <|
  fy_bp (M_comes S1 (S1.1 3 v1.toNatClampNeg)) fun S11 r11 =>
  M_findReverse_17 fy_fu S11 v1 (0 : Int32)
set_option maxHeartbeats 4000000 in
set_option maxRecDepth 100000 in
theorem t_M_findReverse_27 {p : Program} {l : Launch} {e : Env} {s : State} {m : MethodId} {args : Array Value} {below : List Frame} {meth : Method} {c : Code} {g : fy_G} (C : fy_C g M_Y p s m args meth c yX10_findReverse.cls cX10_findReverse 4 none) {Sr : fy_S}  {k17 : fy_S → Int32 → Int32 → Option (fy_S)} (hk17 : ∀ (S : fy_S) (v1 : Int32) (v2 : Int32) (H : Heap) (locs : List Loc) (ls : Array Slot), k17 S v1 v2 = some Sr → fy_W g M_Y S s H locs → lv_has ls 4 [(0, .ref (g.2.2.1 0)), (1, .int v1), (2, .int v2)] → W p l e (fy_rm 3) s m args below meth c H locs 0 0 (MQ below (fy_QV g M_Y Sr) args s 0 0 (fy_A g M_Y)) (F0 m 17 ls [])) : ∀ (fu : Nat) (S : fy_S) (v1 : Int32) (v2 : Int32) (v3 : Int32) (H : Heap) (locs : List Loc) (ls : Array Slot), M_findReverse_27 k17 fu S v1 v2 v3 = some Sr → fy_W g M_Y S s H locs → lv_has ls 4 [(0, .ref (g.2.2.1 0)), (1, .int v1), (2, .int v2), (3, .int v3)] → W p l e (fy_rm 3) s m args below meth c H locs 0 0 (MQ below (fy_QV g M_Y Sr) args s 0 0 (fy_A g M_Y)) (F0 m 27 ls []) := by
  obtain ⟨hx, hb, hr, hts, hown, hlk, hml, hK, hD, hE, hN⟩ := id C
  intro fu
  induction fu with
  | zero => intro S v1 v2 v3 H locs ls h; cases h
  | succ fu ih =>
    intro S v1 v2 v3 H locs ls h w  hl
    rw [M_findReverse_27] at h
    refine lv_iload_n hx hb dX10_findReverse_27 rfl (lv_at hl 3 rfl) ?_
    refine lv_aload_n hx hb dX10_findReverse_28 rfl (lv_at hl 0 rfl) ?_
    refine gfX10_13 C w dX10_findReverse_29 ?_
    refine lv_iload_n hx hb dX10_findReverse_32 rfl (lv_at hl 1 rfl) ?_
    obtain ⟨g33, h⟩ := fy_gd_some h
    refine fy_iald C w M_a2 g33 dX10_findReverse_33 ?_
    refine lv_icmp_ge (tgt := 60) hx hb dX10_findReverse_34 (by decide) (fun hc => ?_) (fun hc => ?_)
    · have h := fy_if_t h hc
      obtain ⟨x60, e60⟩ : ∃ z : Int32, z = v2 + (1 : Int32) := ⟨_, rfl⟩
      have h := fy_bl_some e60 h
      refine lv_iinc (k := 2) (v := x60) (lv' := [(2, .int x60), (0, .ref (g.2.2.1 0)), (1, .int v1), (3, .int v3)]) hx hb dX10_findReverse_60 hl rfl (by rw [e60]; rfl) (by decide) rfl (fun ls hl => ?_)
      refine lv_goto (tgt := 17) hx hb dX10_findReverse_63 (by decide) ?_
      exact hk17 _ _ _ _ _ _ h w (lv_sub hl [1, 2, 0] rfl)
    · have h := fy_if_f h hc
      refine lv_aload_n hx hb dX10_findReverse_37 rfl (lv_at hl 0 rfl) ?_
      refine lv_aload_n hx hb dX10_findReverse_38 rfl (lv_at hl 0 rfl) ?_
      refine lv_iload_n hx hb dX10_findReverse_39 rfl (lv_at hl 1 rfl) ?_
      refine lv_iload_n hx hb dX10_findReverse_40 rfl (lv_at hl 3 rfl) ?_
      refine lv_aload_n hx hb dX10_findReverse_41 rfl (lv_at hl 0 rfl) ?_
      refine gfX10_64 C w dX10_findReverse_42 ?_
      refine lv_iload_n hx hb dX10_findReverse_45 rfl (lv_at hl 2 rfl) ?_
      obtain ⟨g46, h⟩ := fy_gd_some h
      refine fy_iald C w M_a19 g46 dX10_findReverse_46 ?_
      obtain ⟨r47, h47, h⟩ := fy_bd_some h
      refine fy_calI w (fy_runV (As := [.int v1, .int v3, .int (S.1 19 v2.toNatClampNeg)]) (rest := [.ref (g.2.2.1 0)]) C w (c_M_stepOf l g  h47) M_o ksX10_240 rfl ⟨Nat.le_of_ble_eq_true rfl, Nat.le_of_ble_eq_true rfl⟩ rfl hl.1 rfl (Nat.le_of_ble_eq_true rfl) ⟨Nat.le_refl _, Nat.le_refl _⟩ dX10_findReverse_47) (fun H locs w => ?_)
      obtain ⟨S50, r50, h50, h⟩ := fy_bp_some h
      refine fy_calI w (fy_runV (As := [.int r47]) (rest := []) C w (c_M_comes l g  h50) M_o ksX10_270 rfl ⟨Nat.le_of_ble_eq_true rfl, Nat.le_of_ble_eq_true rfl⟩ rfl hl.1 rfl (Nat.le_of_ble_eq_true rfl) ⟨Nat.le_refl _, Nat.le_refl _⟩ dX10_findReverse_50) (fun H locs w => ?_)
      refine lv_pop hx hb dX10_findReverse_53 rfl ?_
      obtain ⟨x54, e54⟩ : ∃ z : Int32, z = v3 + (1 : Int32) := ⟨_, rfl⟩
      have h := fy_bl_some e54 h
      refine lv_iinc (k := 3) (v := x54) (lv' := [(3, .int x54), (0, .ref (g.2.2.1 0)), (1, .int v1), (2, .int v2)]) hx hb dX10_findReverse_54 hl rfl (by rw [e54]; rfl) (by decide) rfl (fun ls hl => ?_)
      refine lv_goto (tgt := 27) hx hb dX10_findReverse_57 (by decide) ?_
      exact ih _ _ _ _ _ _ _ h w (lv_sub hl [1, 2, 3, 0] rfl)

set_option maxHeartbeats 4000000 in
set_option maxRecDepth 100000 in
theorem t_M_findReverse_17 {p : Program} {l : Launch} {e : Env} {s : State} {m : MethodId} {args : Array Value} {below : List Frame} {meth : Method} {c : Code} {g : fy_G} (C : fy_C g M_Y p s m args meth c yX10_findReverse.cls cX10_findReverse 4 none) {Sr : fy_S}  : ∀ (fu : Nat) (S : fy_S) (v1 : Int32) (v2 : Int32) (H : Heap) (locs : List Loc) (ls : Array Slot), M_findReverse_17 fu S v1 v2 = some Sr → fy_W g M_Y S s H locs → lv_has ls 4 [(0, .ref (g.2.2.1 0)), (1, .int v1), (2, .int v2)] → W p l e (fy_rm 3) s m args below meth c H locs 0 0 (MQ below (fy_QV g M_Y Sr) args s 0 0 (fy_A g M_Y)) (F0 m 17 ls []) := by
  obtain ⟨hx, hb, hr, hts, hown, hlk, hml, hK, hD, hE, hN⟩ := id C
  intro fu
  induction fu with
  | zero => intro S v1 v2 H locs ls h; cases h
  | succ fu ih =>
    intro S v1 v2 H locs ls h w  hl
    rw [M_findReverse_17] at h
    refine lv_iload_n hx hb dX10_findReverse_17 rfl (lv_at hl 2 rfl) ?_
    refine lv_aload_n hx hb dX10_findReverse_18 rfl (lv_at hl 0 rfl) ?_
    refine gfX10_264 C w dX10_findReverse_19 ?_
    refine lv_icmp_ge (tgt := 66) hx hb dX10_findReverse_22 (by decide) (fun hc => ?_) (fun hc => ?_)
    · have h := fy_if_t h hc
      cases h
      exact fy_retV C w dX10_findReverse_66
    · have h := fy_if_f h hc
      refine lv_iconst (v := (0 : Int32)) hx hb dX10_findReverse_25 (by decide) ?_
      refine lv_istore_n (lv' := [(3, .int (0 : Int32)), (0, .ref (g.2.2.1 0)), (1, .int v1), (2, .int v2)]) hx hb dX10_findReverse_26 rfl hl (by decide) rfl (fun ls hl => ?_)
      exact t_M_findReverse_27 C ih fy_fu _ _ _ _ _ _ _ h w (lv_sub hl [1, 2, 3, 0] rfl)

set_option maxHeartbeats 4000000 in
set_option maxRecDepth 100000 in
theorem t_M_findReverse {p : Program} {l : Launch} {e : Env} {s : State} {m : MethodId} {args : Array Value} {below : List Frame} {meth : Method} {c : Code} {g : fy_G} (C : fy_C g M_Y p s m args meth c yX10_findReverse.cls cX10_findReverse 4 none) {S : fy_S} {v1 : Int32} {Sr : fy_S}   {H : Heap} {locs : List Loc} {ls : Array Slot} (h : M_findReverse S v1 = some Sr) (w : fy_W g M_Y S s H locs) (hl : lv_has ls 4 [(0, .ref (g.2.2.1 0)), (1, .int v1)]) : W p l e (fy_rm 3) s m args below meth c H locs 0 0 (MQ below (fy_QV g M_Y Sr) args s 0 0 (fy_A g M_Y)) (F0 m 0 ls []) := by
  obtain ⟨hx, hb, hr, hts, hown, hlk, hml, hK, hD, hE, hN⟩ := id C
  rw [M_findReverse] at h
  refine lv_aload_n hx hb dX10_findReverse_0 rfl (lv_at hl 0 rfl) ?_
  obtain ⟨S1, h1, h⟩ := fy_bd_some h
  refine fy_calV w (fy_runV (As := []) (rest := []) C w (c_M_forgets l g  h1) M_o ksX10_267 rfl ⟨Nat.le_of_ble_eq_true rfl, Nat.le_of_ble_eq_true rfl⟩ rfl hl.1 rfl (Nat.le_of_ble_eq_true rfl) ⟨Nat.le_refl _, Nat.le_refl _⟩ dX10_findReverse_1) (fun H locs w => ?_)
  refine lv_aload_n hx hb dX10_findReverse_4 rfl (lv_at hl 0 rfl) ?_
  refine lv_aload_n hx hb dX10_findReverse_5 rfl (lv_at hl 0 rfl) ?_
  refine gfX10_16 C w dX10_findReverse_6 ?_
  refine lv_iload_n hx hb dX10_findReverse_9 rfl (lv_at hl 1 rfl) ?_
  obtain ⟨g10, h⟩ := fy_gd_some h
  refine fy_iald C w M_a3 g10 dX10_findReverse_10 ?_
  obtain ⟨S11, r11, h11, h⟩ := fy_bp_some h
  refine fy_calI w (fy_runV (As := [.int (S1.1 3 v1.toNatClampNeg)]) (rest := []) C w (c_M_comes l g  h11) M_o ksX10_270 rfl ⟨Nat.le_of_ble_eq_true rfl, Nat.le_of_ble_eq_true rfl⟩ rfl hl.1 rfl (Nat.le_of_ble_eq_true rfl) ⟨Nat.le_refl _, Nat.le_refl _⟩ dX10_findReverse_11) (fun H locs w => ?_)
  refine lv_pop hx hb dX10_findReverse_14 rfl ?_
  refine lv_iconst (v := (0 : Int32)) hx hb dX10_findReverse_15 (by decide) ?_
  refine lv_istore_n (lv' := [(2, .int (0 : Int32)), (0, .ref (g.2.2.1 0)), (1, .int v1)]) hx hb dX10_findReverse_16 rfl hl (by decide) rfl (fun ls hl => ?_)
  exact t_M_findReverse_17 C fy_fu _ _ _ _ _ _ h w (lv_sub hl [1, 2, 0] rfl)

set_option maxHeartbeats 4000000 in
set_option maxRecDepth 100000 in
theorem c_M_findReverse (l : Launch) (g : fy_G) {S : fy_S} {v1 : Int32} {Sr : fy_S}   (h : M_findReverse S v1 = some Sr) : fy_M g M_Y l yX10_findReverse cX10_findReverse 4 none (fy_rm 3) [.ref (g.2.2.1 0), .int v1] S (fy_QV g M_Y Sr) :=
  fy_entry (by decide +kernel) (Nat.le_of_ble_eq_true rfl) (fun p e s m args below meth c ls C w hl => t_M_findReverse C  h w hl)
def M_reverseStates (S : fy_S) (v1 : Int32) : Option (fy_S × Int32) :=
  fy_bd (M_isSlot S v1) fun r1 =>
  if r1 = 0 then (
    some (S, (-2 : Int32)))
  else (
    fy_bd (M_findReverse S v1) fun S12 =>
    some (S12, (S12.1 0 34)))
set_option maxHeartbeats 4000000 in
set_option maxRecDepth 100000 in
theorem t_M_reverseStates {p : Program} {l : Launch} {e : Env} {s : State} {m : MethodId} {args : Array Value} {below : List Frame} {meth : Method} {c : Code} {g : fy_G} (C : fy_C g M_Y p s m args meth c yX10_reverseStates.cls cX10_reverseStates 2 (some .int)) {S : fy_S} {v1 : Int32} {Sr : fy_S} {rr : Int32}  {H : Heap} {locs : List Loc} {ls : Array Slot} (h : M_reverseStates S v1 = some (Sr, rr)) (w : fy_W g M_Y S s H locs) (hl : lv_has ls 2 [(0, .ref (g.2.2.1 0)), (1, .int v1)]) : W p l e (fy_rm 4) s m args below meth c H locs 0 0 (MQ below (fy_QI g M_Y rr Sr) args s 0 0 (fy_A g M_Y)) (F0 m 0 ls []) := by
  obtain ⟨hx, hb, hr, hts, hown, hlk, hml, hK, hD, hE, hN⟩ := id C
  rw [M_reverseStates] at h
  refine lv_iload_n hx hb dX10_reverseStates_0 rfl (lv_at hl 1 rfl) ?_
  obtain ⟨r1, h1, h⟩ := fy_bd_some h
  refine fy_calI w (fy_runS (As := [.int v1]) (rest := []) C w (c_M_isSlot l g  h1) ksX10_123 ⟨Nat.le_of_ble_eq_true rfl, Nat.le_of_ble_eq_true rfl⟩ rfl hl.1 rfl (Nat.le_of_ble_eq_true rfl) ⟨Nat.le_refl _, Nat.le_refl _⟩ dX10_reverseStates_1) (fun H locs w => ?_)
  refine lv_if_ne (tgt := 10) hx hb dX10_reverseStates_4 (by decide) (fun hc => ?_) (fun hc => ?_)
  · have h := fy_if_f h hc
    refine lv_aload_n hx hb dX10_reverseStates_10 rfl (lv_at hl 0 rfl) ?_
    refine lv_iload_n hx hb dX10_reverseStates_11 rfl (lv_at hl 1 rfl) ?_
    obtain ⟨S12, h12, h⟩ := fy_bd_some h
    refine fy_calV w (fy_runV (As := [.int v1]) (rest := []) C w (c_M_findReverse l g  h12) M_o ksX10_273 rfl ⟨Nat.le_of_ble_eq_true rfl, Nat.le_of_ble_eq_true rfl⟩ rfl hl.1 rfl (Nat.le_of_ble_eq_true rfl) ⟨Nat.le_refl _, Nat.le_refl _⟩ dX10_reverseStates_12) (fun H locs w => ?_)
    refine lv_aload_n hx hb dX10_reverseStates_15 rfl (lv_at hl 0 rfl) ?_
    refine gfX10_264 C w dX10_reverseStates_16 ?_
    cases h
    exact fy_retI C w dX10_reverseStates_19
  · have h := fy_if_t h hc
    refine lv_bipush (v := (-2 : Int32)) hx hb dX10_reverseStates_7 (by decide) ?_
    cases h
    exact fy_retI C w dX10_reverseStates_9

set_option maxHeartbeats 4000000 in
set_option maxRecDepth 100000 in
theorem c_M_reverseStates (l : Launch) (g : fy_G) {S : fy_S} {v1 : Int32} {Sr : fy_S} {rr : Int32}  (h : M_reverseStates S v1 = some (Sr, rr)) : fy_M g M_Y l yX10_reverseStates cX10_reverseStates 2 (some .int) (fy_rm 4) [.ref (g.2.2.1 0), .int v1] S (fy_QI g M_Y rr Sr) :=
  fy_entry (by decide +kernel) (Nat.le_of_ble_eq_true rfl) (fun p e s m args below meth c ls C w hl => t_M_reverseStates C  h w hl)
def M_isOneClass_25 (S : fy_S) : Nat → Int32 → Int32 → Int32 → Int32 → Int32 → Option (Int32)
  | 0, _, _, _, _, _ => none
  | fu + 1, v1, v2, v3, v4, v5 =>
    fy_gd (fy_ix v1 7) <|
    if (S.1 2 v1.toNatClampNeg) ≤ v5 then (
      fy_gd (fy_nr .boolean v4) <| some v4)
    else (
      if v4 = 0 then (
        fy_bl (v5 + (1 : Int32)) fun x83 =>
        M_isOneClass_25 S fu v1 v2 v3 (0 : Int32) x83)
      else (
        fy_gd (fy_ix (((3 : Int32) * v2) + v5) 192) <|
        fy_gd (fy_ix (S.1 23 (((3 : Int32) * v2) + v5).toNatClampNeg) 64) <|
        fy_gd (fy_ix (((3 : Int32) * v3) + v5) 192) <|
        fy_gd (fy_ix (S.1 23 (((3 : Int32) * v3) + v5).toNatClampNeg) 64) <|
        if (S.1 21 (S.1 23 (((3 : Int32) * v2) + v5).toNatClampNeg).toNatClampNeg) = (S.1 21 (S.1 23 (((3 : Int32) * v3) + v5).toNatClampNeg).toNatClampNeg) then (
          fy_bl (v5 + (1 : Int32)) fun x83 =>
          M_isOneClass_25 S fu v1 v2 v3 (1 : Int32) x83)
        else (
          fy_bl (v5 + (1 : Int32)) fun x83 =>
          M_isOneClass_25 S fu v1 v2 v3 (0 : Int32) x83)))
def M_isOneClass (S : fy_S) (v1 : Int32) (v2 : Int32) (v3 : Int32) : Option (Int32) :=
  fy_gd (fy_ix v2 64) <|
  fy_gd (fy_ix v3 64) <|
  if (S.1 21 v2.toNatClampNeg) = (S.1 21 v3.toNatClampNeg) then (
    M_isOneClass_25 S fy_fu v1 v2 v3 (1 : Int32) (0 : Int32))
  else (
    M_isOneClass_25 S fy_fu v1 v2 v3 (0 : Int32) (0 : Int32))
set_option maxHeartbeats 4000000 in
set_option maxRecDepth 100000 in
theorem t_M_isOneClass_25 {p : Program} {l : Launch} {e : Env} {s : State} {m : MethodId} {args : Array Value} {below : List Frame} {meth : Method} {c : Code} {g : fy_G} (C : fy_C g M_Y p s m args meth c yX10_isOneClass.cls cX10_isOneClass 6 (some .boolean)) {S : fy_S} {rr : Int32} : ∀ (fu : Nat) (v1 : Int32) (v2 : Int32) (v3 : Int32) (v4 : Int32) (v5 : Int32) (H : Heap) (locs : List Loc) (ls : Array Slot), M_isOneClass_25 S fu v1 v2 v3 v4 v5 = some rr → fy_W g M_Y S s H locs → lv_has ls 6 [(0, .ref (g.2.2.1 0)), (1, .int v1), (2, .int v2), (3, .int v3), (4, .int v4), (5, .int v5)] → W p l e (fy_rm 0) s m args below meth c H locs 0 0 (MQ below (fy_QI g M_Y rr S) args s 0 0 (fy_A g M_Y)) (F0 m 25 ls []) := by
  obtain ⟨hx, hb, hr, hts, hown, hlk, hml, hK, hD, hE, hN⟩ := id C
  intro fu
  induction fu with
  | zero => intro v1 v2 v3 v4 v5 H locs ls h; cases h
  | succ fu ih =>
    intro v1 v2 v3 v4 v5 H locs ls h w  hl
    rw [M_isOneClass_25] at h
    refine lv_iload hx hb dX10_isOneClass_25 (lv_at hl 5 rfl) ?_
    refine lv_aload_n hx hb dX10_isOneClass_27 rfl (lv_at hl 0 rfl) ?_
    refine gfX10_13 C w dX10_isOneClass_28 ?_
    refine lv_iload_n hx hb dX10_isOneClass_31 rfl (lv_at hl 1 rfl) ?_
    obtain ⟨g32, h⟩ := fy_gd_some h
    refine fy_iald C w M_a2 g32 dX10_isOneClass_32 ?_
    refine lv_icmp_ge (tgt := 89) hx hb dX10_isOneClass_33 (by decide) (fun hc => ?_) (fun hc => ?_)
    · have h := fy_if_t h hc
      refine lv_iload hx hb dX10_isOneClass_89 (lv_at hl 4 rfl) ?_
      obtain ⟨gg, h⟩ := fy_gd_some h
      cases h
      exact fy_retZ C w (fy_nr_ok gg) dX10_isOneClass_91
    · have h := fy_if_f h hc
      refine lv_iload hx hb dX10_isOneClass_36 (lv_at hl 4 rfl) ?_
      refine lv_if_eq (tgt := 80) hx hb dX10_isOneClass_38 (by decide) (fun hc => ?_) (fun hc => ?_)
      · have h := fy_if_t h hc
        refine lv_iconst (v := (0 : Int32)) hx hb dX10_isOneClass_80 (by decide) ?_
        refine lv_istore (lv' := [(4, .int (0 : Int32)), (0, .ref (g.2.2.1 0)), (1, .int v1), (2, .int v2), (3, .int v3), (5, .int v5)]) hx hb dX10_isOneClass_81 hl (by decide) rfl (fun ls hl => ?_)
        obtain ⟨x83, e83⟩ : ∃ z : Int32, z = v5 + (1 : Int32) := ⟨_, rfl⟩
        have h := fy_bl_some e83 h
        refine lv_iinc (k := 5) (v := x83) (lv' := [(5, .int x83), (4, .int (0 : Int32)), (0, .ref (g.2.2.1 0)), (1, .int v1), (2, .int v2), (3, .int v3)]) hx hb dX10_isOneClass_83 hl rfl (by rw [e83]; rfl) (by decide) rfl (fun ls hl => ?_)
        refine lv_goto (tgt := 25) hx hb dX10_isOneClass_86 (by decide) ?_
        exact ih _ _ _ _ _ _ _ _ h w (lv_sub hl [2, 3, 4, 5, 1, 0] rfl)
      · have h := fy_if_f h hc
        refine lv_aload_n hx hb dX10_isOneClass_41 rfl (lv_at hl 0 rfl) ?_
        refine gfX10_70 C w dX10_isOneClass_42 ?_
        refine lv_aload_n hx hb dX10_isOneClass_45 rfl (lv_at hl 0 rfl) ?_
        refine gfX10_76 C w dX10_isOneClass_46 ?_
        refine lv_iconst (v := (3 : Int32)) hx hb dX10_isOneClass_49 (by decide) ?_
        refine lv_iload_n hx hb dX10_isOneClass_50 rfl (lv_at hl 2 rfl) ?_
        refine lv_imul hx hb dX10_isOneClass_51 ?_
        refine lv_iload hx hb dX10_isOneClass_52 (lv_at hl 5 rfl) ?_
        refine lv_iadd hx hb dX10_isOneClass_54 ?_
        obtain ⟨g55, h⟩ := fy_gd_some h
        refine fy_iald C w M_a23 g55 dX10_isOneClass_55 ?_
        obtain ⟨g56, h⟩ := fy_gd_some h
        refine fy_iald C w M_a21 g56 dX10_isOneClass_56 ?_
        refine lv_aload_n hx hb dX10_isOneClass_57 rfl (lv_at hl 0 rfl) ?_
        refine gfX10_70 C w dX10_isOneClass_58 ?_
        refine lv_aload_n hx hb dX10_isOneClass_61 rfl (lv_at hl 0 rfl) ?_
        refine gfX10_76 C w dX10_isOneClass_62 ?_
        refine lv_iconst (v := (3 : Int32)) hx hb dX10_isOneClass_65 (by decide) ?_
        refine lv_iload_n hx hb dX10_isOneClass_66 rfl (lv_at hl 3 rfl) ?_
        refine lv_imul hx hb dX10_isOneClass_67 ?_
        refine lv_iload hx hb dX10_isOneClass_68 (lv_at hl 5 rfl) ?_
        refine lv_iadd hx hb dX10_isOneClass_70 ?_
        obtain ⟨g71, h⟩ := fy_gd_some h
        refine fy_iald C w M_a23 g71 dX10_isOneClass_71 ?_
        obtain ⟨g72, h⟩ := fy_gd_some h
        refine fy_iald C w M_a21 g72 dX10_isOneClass_72 ?_
        refine lv_icmp_ne (tgt := 80) hx hb dX10_isOneClass_73 (by decide) (fun hc => ?_) (fun hc => ?_)
        · have h := fy_if_f h hc
          refine lv_iconst (v := (0 : Int32)) hx hb dX10_isOneClass_80 (by decide) ?_
          refine lv_istore (lv' := [(4, .int (0 : Int32)), (0, .ref (g.2.2.1 0)), (1, .int v1), (2, .int v2), (3, .int v3), (5, .int v5)]) hx hb dX10_isOneClass_81 hl (by decide) rfl (fun ls hl => ?_)
          obtain ⟨x83, e83⟩ : ∃ z : Int32, z = v5 + (1 : Int32) := ⟨_, rfl⟩
          have h := fy_bl_some e83 h
          refine lv_iinc (k := 5) (v := x83) (lv' := [(5, .int x83), (4, .int (0 : Int32)), (0, .ref (g.2.2.1 0)), (1, .int v1), (2, .int v2), (3, .int v3)]) hx hb dX10_isOneClass_83 hl rfl (by rw [e83]; rfl) (by decide) rfl (fun ls hl => ?_)
          refine lv_goto (tgt := 25) hx hb dX10_isOneClass_86 (by decide) ?_
          exact ih _ _ _ _ _ _ _ _ h w (lv_sub hl [2, 3, 4, 5, 1, 0] rfl)
        · have h := fy_if_t h hc
          refine lv_iconst (v := (1 : Int32)) hx hb dX10_isOneClass_76 (by decide) ?_
          refine lv_goto (tgt := 81) hx hb dX10_isOneClass_77 (by decide) ?_
          refine lv_istore (lv' := [(4, .int (1 : Int32)), (0, .ref (g.2.2.1 0)), (1, .int v1), (2, .int v2), (3, .int v3), (5, .int v5)]) hx hb dX10_isOneClass_81 hl (by decide) rfl (fun ls hl => ?_)
          obtain ⟨x83, e83⟩ : ∃ z : Int32, z = v5 + (1 : Int32) := ⟨_, rfl⟩
          have h := fy_bl_some e83 h
          refine lv_iinc (k := 5) (v := x83) (lv' := [(5, .int x83), (4, .int (1 : Int32)), (0, .ref (g.2.2.1 0)), (1, .int v1), (2, .int v2), (3, .int v3)]) hx hb dX10_isOneClass_83 hl rfl (by rw [e83]; rfl) (by decide) rfl (fun ls hl => ?_)
          refine lv_goto (tgt := 25) hx hb dX10_isOneClass_86 (by decide) ?_
          exact ih _ _ _ _ _ _ _ _ h w (lv_sub hl [2, 3, 4, 5, 1, 0] rfl)

set_option maxHeartbeats 4000000 in
set_option maxRecDepth 100000 in
theorem t_M_isOneClass {p : Program} {l : Launch} {e : Env} {s : State} {m : MethodId} {args : Array Value} {below : List Frame} {meth : Method} {c : Code} {g : fy_G} (C : fy_C g M_Y p s m args meth c yX10_isOneClass.cls cX10_isOneClass 6 (some .boolean)) {S : fy_S} {v1 : Int32} {v2 : Int32} {v3 : Int32} {rr : Int32}  {H : Heap} {locs : List Loc} {ls : Array Slot} (h : M_isOneClass S v1 v2 v3 = some rr) (w : fy_W g M_Y S s H locs) (hl : lv_has ls 6 [(0, .ref (g.2.2.1 0)), (1, .int v1), (2, .int v2), (3, .int v3)]) : W p l e (fy_rm 0) s m args below meth c H locs 0 0 (MQ below (fy_QI g M_Y rr S) args s 0 0 (fy_A g M_Y)) (F0 m 0 ls []) := by
  obtain ⟨hx, hb, hr, hts, hown, hlk, hml, hK, hD, hE, hN⟩ := id C
  rw [M_isOneClass] at h
  refine lv_aload_n hx hb dX10_isOneClass_0 rfl (lv_at hl 0 rfl) ?_
  refine gfX10_70 C w dX10_isOneClass_1 ?_
  refine lv_iload_n hx hb dX10_isOneClass_4 rfl (lv_at hl 2 rfl) ?_
  obtain ⟨g5, h⟩ := fy_gd_some h
  refine fy_iald C w M_a21 g5 dX10_isOneClass_5 ?_
  refine lv_aload_n hx hb dX10_isOneClass_6 rfl (lv_at hl 0 rfl) ?_
  refine gfX10_70 C w dX10_isOneClass_7 ?_
  refine lv_iload_n hx hb dX10_isOneClass_10 rfl (lv_at hl 3 rfl) ?_
  obtain ⟨g11, h⟩ := fy_gd_some h
  refine fy_iald C w M_a21 g11 dX10_isOneClass_11 ?_
  refine lv_icmp_ne (tgt := 19) hx hb dX10_isOneClass_12 (by decide) (fun hc => ?_) (fun hc => ?_)
  · have h := fy_if_f h hc
    refine lv_iconst (v := (0 : Int32)) hx hb dX10_isOneClass_19 (by decide) ?_
    refine lv_istore (lv' := [(4, .int (0 : Int32)), (0, .ref (g.2.2.1 0)), (1, .int v1), (2, .int v2), (3, .int v3)]) hx hb dX10_isOneClass_20 hl (by decide) rfl (fun ls hl => ?_)
    refine lv_iconst (v := (0 : Int32)) hx hb dX10_isOneClass_22 (by decide) ?_
    refine lv_istore (lv' := [(5, .int (0 : Int32)), (4, .int (0 : Int32)), (0, .ref (g.2.2.1 0)), (1, .int v1), (2, .int v2), (3, .int v3)]) hx hb dX10_isOneClass_23 hl (by decide) rfl (fun ls hl => ?_)
    exact t_M_isOneClass_25 C fy_fu _ _ _ _ _ _ _ _ h w (lv_sub hl [2, 3, 4, 5, 1, 0] rfl)
  · have h := fy_if_t h hc
    refine lv_iconst (v := (1 : Int32)) hx hb dX10_isOneClass_15 (by decide) ?_
    refine lv_goto (tgt := 20) hx hb dX10_isOneClass_16 (by decide) ?_
    refine lv_istore (lv' := [(4, .int (1 : Int32)), (0, .ref (g.2.2.1 0)), (1, .int v1), (2, .int v2), (3, .int v3)]) hx hb dX10_isOneClass_20 hl (by decide) rfl (fun ls hl => ?_)
    refine lv_iconst (v := (0 : Int32)) hx hb dX10_isOneClass_22 (by decide) ?_
    refine lv_istore (lv' := [(5, .int (0 : Int32)), (4, .int (1 : Int32)), (0, .ref (g.2.2.1 0)), (1, .int v1), (2, .int v2), (3, .int v3)]) hx hb dX10_isOneClass_23 hl (by decide) rfl (fun ls hl => ?_)
    exact t_M_isOneClass_25 C fy_fu _ _ _ _ _ _ _ _ h w (lv_sub hl [2, 3, 4, 5, 1, 0] rfl)

set_option maxHeartbeats 4000000 in
set_option maxRecDepth 100000 in
theorem c_M_isOneClass (l : Launch) (g : fy_G) {S : fy_S} {v1 : Int32} {v2 : Int32} {v3 : Int32} {rr : Int32}  (h : M_isOneClass S v1 v2 v3 = some rr) : fy_M g M_Y l yX10_isOneClass cX10_isOneClass 6 (some .boolean) (fy_rm 0) [.ref (g.2.2.1 0), .int v1, .int v2, .int v3] S (fy_QI g M_Y rr S) :=
  fy_entry (by decide +kernel) (Nat.le_of_ble_eq_true rfl) (fun p e s m args below meth c ls C w hl => t_M_isOneClass C  h w hl)
end
