noncomputable section
def M_foundLetter (S : fy_S) (v1 : Int32) : Option (Int32) :=
  fy_bd (M_isBetween S v1 (0 : Int32) ((S.1 0 44) - (1 : Int32))) fun r8 =>
  if r8 = 0 then (
    some (-1 : Int32))
  else (
    fy_gd (fy_ix v1 4096) <|
    some (S.1 24 v1.toNatClampNeg))
set_option maxHeartbeats 4000000 in
set_option maxRecDepth 100000 in
theorem t_M_foundLetter {p : Program} {l : Launch} {e : Env} {s : State} {m : MethodId} {args : Array Value} {below : List Frame} {meth : Method} {c : Code} {g : fy_G} (C : fy_C g M_Y p s m args meth c yX10_foundLetter.cls cX10_foundLetter 2 (some .int)) {S : fy_S} {v1 : Int32} {rr : Int32}  {H : Heap} {locs : List Loc} {ls : Array Slot} (h : M_foundLetter S v1 = some rr) (w : fy_W g M_Y S s H locs) (hl : lv_has ls 2 [(0, .ref (g.2.2.1 0)), (1, .int v1)]) : W p l e (fy_rm 1) s m args below meth c H locs 0 0 (MQ below (fy_QI g M_Y rr S) args s 0 0 (fy_A g M_Y)) (F0 m 0 ls []) := by
  obtain ⟨hx, hb, hr, hts, hown, hlk, hml, hK, hD, hE, hN⟩ := id C
  rw [M_foundLetter] at h
  refine lv_iload_n hx hb dX10_foundLetter_0 rfl (lv_at hl 1 rfl) ?_
  refine lv_iconst (v := (0 : Int32)) hx hb dX10_foundLetter_1 (by decide) ?_
  refine lv_aload_n hx hb dX10_foundLetter_2 rfl (lv_at hl 0 rfl) ?_
  refine gfX10_298 C w dX10_foundLetter_3 ?_
  refine lv_iconst (v := (1 : Int32)) hx hb dX10_foundLetter_6 (by decide) ?_
  refine lv_isub hx hb dX10_foundLetter_7 ?_
  obtain ⟨r8, h8, h⟩ := fy_bd_some h
  refine fy_calI w (fy_runS (As := [.int v1, .int (0 : Int32), .int ((S.1 0 44) - (1 : Int32))]) (rest := []) C w (c_M_isBetween l g  h8) ksX10_127 ⟨Nat.le_of_ble_eq_true rfl, Nat.le_of_ble_eq_true rfl⟩ rfl hl.1 rfl (Nat.le_of_ble_eq_true rfl) ⟨Nat.le_refl _, Nat.le_refl _⟩ dX10_foundLetter_8) (fun H locs w => ?_)
  refine lv_if_eq (tgt := 23) hx hb dX10_foundLetter_11 (by decide) (fun hc => ?_) (fun hc => ?_)
  · have h := fy_if_t h hc
    refine lv_iconst (v := (-1 : Int32)) hx hb dX10_foundLetter_23 (by decide) ?_
    cases h
    exact fy_retI C w dX10_foundLetter_24
  · have h := fy_if_f h hc
    refine lv_aload_n hx hb dX10_foundLetter_14 rfl (lv_at hl 0 rfl) ?_
    refine gfX10_79 C w dX10_foundLetter_15 ?_
    refine lv_iload_n hx hb dX10_foundLetter_18 rfl (lv_at hl 1 rfl) ?_
    obtain ⟨g19, h⟩ := fy_gd_some h
    refine fy_iald C w M_a24 g19 dX10_foundLetter_19 ?_
    refine lv_goto (tgt := 24) hx hb dX10_foundLetter_20 (by decide) ?_
    cases h
    exact fy_retI C w dX10_foundLetter_24

set_option maxHeartbeats 4000000 in
set_option maxRecDepth 100000 in
theorem c_M_foundLetter (l : Launch) (g : fy_G) {S : fy_S} {v1 : Int32} {rr : Int32}  (h : M_foundLetter S v1 = some rr) : fy_M g M_Y l yX10_foundLetter cX10_foundLetter 2 (some .int) (fy_rm 1) [.ref (g.2.2.1 0), .int v1] S (fy_QI g M_Y rr S) :=
  fy_entry (by decide +kernel) (Nat.le_of_ble_eq_true rfl) (fun p e s m args below meth c ls C w hl => t_M_foundLetter C  h w hl)
def M_foundCost (S : fy_S)  : Option (Int32) :=
  some (S.1 0 45)
set_option maxHeartbeats 4000000 in
set_option maxRecDepth 100000 in
theorem t_M_foundCost {p : Program} {l : Launch} {e : Env} {s : State} {m : MethodId} {args : Array Value} {below : List Frame} {meth : Method} {c : Code} {g : fy_G} (C : fy_C g M_Y p s m args meth c yX10_foundCost.cls cX10_foundCost 1 (some .int)) {S : fy_S}  {rr : Int32}  {H : Heap} {locs : List Loc} {ls : Array Slot} (h : M_foundCost S  = some rr) (w : fy_W g M_Y S s H locs) (hl : lv_has ls 1 [(0, .ref (g.2.2.1 0))]) : W p l e (fy_rm 0) s m args below meth c H locs 0 0 (MQ below (fy_QI g M_Y rr S) args s 0 0 (fy_A g M_Y)) (F0 m 0 ls []) := by
  obtain ⟨hx, hb, hr, hts, hown, hlk, hml, hK, hD, hE, hN⟩ := id C
  rw [M_foundCost] at h
  refine lv_aload_n hx hb dX10_foundCost_0 rfl (lv_at hl 0 rfl) ?_
  refine gfX10_301 C w dX10_foundCost_1 ?_
  cases h
  exact fy_retI C w dX10_foundCost_4

set_option maxHeartbeats 4000000 in
set_option maxRecDepth 100000 in
theorem c_M_foundCost (l : Launch) (g : fy_G) {S : fy_S}  {rr : Int32}  (h : M_foundCost S  = some rr) : fy_M g M_Y l yX10_foundCost cX10_foundCost 1 (some .int) (fy_rm 0) [.ref (g.2.2.1 0)] S (fy_QI g M_Y rr S) :=
  fy_entry (by decide +kernel) (Nat.le_of_ble_eq_true rfl) (fun p e s m args below meth c ls C w hl => t_M_foundCost C  h w hl)
def M_isContained (S : fy_S) (v1 : Int32) (v2 : Int32) : Option (fy_S × Int32) :=
  fy_bd (M_notPaired S v1 v2) fun r3 =>
  if r3 = 0 then (
    fy_bp (M_findPair S v1 v2 (1 : Int32)) fun S17 r17 =>
    if 0 ≤ r17 then (
      some (S17, (0 : Int32)))
    else (
      some (S17, (1 : Int32))))
  else (
    some (S, r3))
set_option maxHeartbeats 4000000 in
set_option maxRecDepth 100000 in
theorem t_M_isContained {p : Program} {l : Launch} {e : Env} {s : State} {m : MethodId} {args : Array Value} {below : List Frame} {meth : Method} {c : Code} {g : fy_G} (C : fy_C g M_Y p s m args meth c yX10_isContained.cls cX10_isContained 4 (some .int)) {S : fy_S} {v1 : Int32} {v2 : Int32} {Sr : fy_S} {rr : Int32}  {H : Heap} {locs : List Loc} {ls : Array Slot} (h : M_isContained S v1 v2 = some (Sr, rr)) (w : fy_W g M_Y S s H locs) (hl : lv_has ls 4 [(0, .ref (g.2.2.1 0)), (1, .int v1), (2, .int v2)]) : W p l e (fy_rm 4) s m args below meth c H locs 0 0 (MQ below (fy_QI g M_Y rr Sr) args s 0 0 (fy_A g M_Y)) (F0 m 0 ls []) := by
  obtain ⟨hx, hb, hr, hts, hown, hlk, hml, hK, hD, hE, hN⟩ := id C
  rw [M_isContained] at h
  refine lv_aload_n hx hb dX10_isContained_0 rfl (lv_at hl 0 rfl) ?_
  refine lv_iload_n hx hb dX10_isContained_1 rfl (lv_at hl 1 rfl) ?_
  refine lv_iload_n hx hb dX10_isContained_2 rfl (lv_at hl 2 rfl) ?_
  obtain ⟨r3, h3, h⟩ := fy_bd_some h
  refine fy_calI w (fy_runV (As := [.int v1, .int v2]) (rest := []) C w (c_M_notPaired l g  h3) M_o ksX10_304 rfl ⟨Nat.le_of_ble_eq_true rfl, Nat.le_of_ble_eq_true rfl⟩ rfl hl.1 rfl (Nat.le_of_ble_eq_true rfl) ⟨Nat.le_refl _, Nat.le_refl _⟩ dX10_isContained_3) (fun H locs w => ?_)
  refine lv_istore_n (lv' := [(3, .int r3), (0, .ref (g.2.2.1 0)), (1, .int v1), (2, .int v2)]) hx hb dX10_isContained_6 rfl hl (by decide) rfl (fun ls hl => ?_)
  refine lv_iload_n hx hb dX10_isContained_7 rfl (lv_at hl 0 rfl) ?_
  refine lv_if_eq (tgt := 13) hx hb dX10_isContained_8 (by decide) (fun hc => ?_) (fun hc => ?_)
  · have h := fy_if_t h hc
    refine lv_aload_n hx hb dX10_isContained_13 rfl (lv_at hl 1 rfl) ?_
    refine lv_iload_n hx hb dX10_isContained_14 rfl (lv_at hl 2 rfl) ?_
    refine lv_iload_n hx hb dX10_isContained_15 rfl (lv_at hl 3 rfl) ?_
    refine lv_iconst (v := (1 : Int32)) hx hb dX10_isContained_16 (by decide) ?_
    obtain ⟨S17, r17, h17, h⟩ := fy_bp_some h
    refine fy_calI w (fy_runV (As := [.int v1, .int v2, .int (1 : Int32)]) (rest := []) C w (c_M_findPair l g  h17) M_o ksX10_307 rfl ⟨Nat.le_of_ble_eq_true rfl, Nat.le_of_ble_eq_true rfl⟩ rfl hl.1 rfl (Nat.le_of_ble_eq_true rfl) ⟨Nat.le_refl _, Nat.le_refl _⟩ dX10_isContained_17) (fun H locs w => ?_)
    refine lv_if_ge (tgt := 27) hx hb dX10_isContained_20 (by decide) (fun hc => ?_) (fun hc => ?_)
    · have h := fy_if_t h hc
      refine lv_iconst (v := (0 : Int32)) hx hb dX10_isContained_27 (by decide) ?_
      cases h
      exact fy_retI C w dX10_isContained_28
    · have h := fy_if_f h hc
      refine lv_iconst (v := (1 : Int32)) hx hb dX10_isContained_23 (by decide) ?_
      refine lv_goto (tgt := 28) hx hb dX10_isContained_24 (by decide) ?_
      cases h
      exact fy_retI C w dX10_isContained_28
  · have h := fy_if_f h hc
    refine lv_iload_n hx hb dX10_isContained_11 rfl (lv_at hl 0 rfl) ?_
    cases h
    exact fy_retI C w dX10_isContained_12

set_option maxHeartbeats 4000000 in
set_option maxRecDepth 100000 in
theorem c_M_isContained (l : Launch) (g : fy_G) {S : fy_S} {v1 : Int32} {v2 : Int32} {Sr : fy_S} {rr : Int32}  (h : M_isContained S v1 v2 = some (Sr, rr)) : fy_M g M_Y l yX10_isContained cX10_isContained 4 (some .int) (fy_rm 4) [.ref (g.2.2.1 0), .int v1, .int v2] S (fy_QI g M_Y rr Sr) :=
  fy_entry (by decide +kernel) (Nat.le_of_ble_eq_true rfl) (fun p e s m args below meth c ls C w hl => t_M_isContained C  h w hl)
def M_countWords_217 : Nat → fy_S → Int32 → Int64 → Int32 → Option (fy_S × Int64)
  | 0, _, _, _, _ => none
  | fu + 1, S, v1, v3, v5 =>
    if (S.1 0 34) ≤ v5 then (
      some (S, v3))
    else (
      fy_gd (fy_ix v5 64) <|
      fy_bd (M_isAccepting S v1 (S.1 19 v5.toNatClampNeg)) fun r236 =>
      if r236 = 0 then (
        fy_bl (v3 + (0 : Int64)) fun x254 =>
        fy_bl (v5 + (1 : Int32)) fun x255 =>
        M_countWords_217 fu S v1 x254 x255)
      else (
        fy_gd (fy_ix v5 64) <|
        fy_bl (v3 + (S.2 32 v5.toNatClampNeg)) fun x254 =>
        fy_bl (v5 + (1 : Int32)) fun x255 =>
        M_countWords_217 fu S v1 x254 x255))
def M_countWords_177 (k59 : fy_S → Int32 → Int32 → Int32 → Option (fy_S × Int64)) : Nat → fy_S → Int32 → Int32 → Int32 → Int32 → Option (fy_S × Int64)
  | 0, _, _, _, _, _ => none
  | fu + 1, S, v1, v2, v3, v4 =>
    if (S.1 0 34) ≤ v4 then (
      fy_bl (v3 + (1 : Int32)) fun x206 =>
      k59 S v1 v2 x206)
    else (
      fy_gd (fy_ix v4 64) <|
      fy_gd (fy_ix v4 64) <|
      fy_bl (fy_sL S 32 v4.toNatClampNeg (S.2 33 v4.toNatClampNeg)) fun S199 =>
      fy_bl (v4 + (1 : Int32)) fun x200 =>
      M_countWords_177 k59 fu S199 v1 v2 v3 x200)
def M_countWords_105 (k59 : fy_S → Int32 → Int32 → Int32 → Option (fy_S × Int64)) (k93 : fy_S → Int32 → Int32 → Int32 → Int32 → Option (fy_S × Int64)) : Nat → fy_S → Int32 → Int32 → Int32 → Int32 → Int32 → Option (fy_S × Int64)
  | 0, _, _, _, _, _, _ => none
  | fu + 1, S, v1, v2, v3, v4, v5 =>
    fy_gd (fy_ix v1 7) <|
    if (S.1 2 v1.toNatClampNeg) ≤ v5 then (
      fy_bl (v4 + (1 : Int32)) fun x168 =>
      k93 S v1 v2 v3 x168)
    else (
      fy_gd (fy_ix v4 64) <|
      if (lg_cmp (S.2 32 v4.toNatClampNeg) (0 : Int64)) ≤ 0 then (
        fy_bl (v4 + (1 : Int32)) fun x168 =>
        k93 S v1 v2 v3 x168)
      else (
        fy_gd (fy_ix v4 64) <|
        fy_bd (M_stepOf S v1 v5 (S.1 19 v4.toNatClampNeg)) fun r147 =>
        fy_gd (fy_ix r147 64) <|
        fy_gd (fy_ix (S.1 20 r147.toNatClampNeg) 64) <|
        fy_gd (fy_ix v4 64) <|
        fy_gd (fy_ix (S.1 20 r147.toNatClampNeg) 64) <|
        fy_bl (fy_sL S 33 (S.1 20 r147.toNatClampNeg).toNatClampNeg ((S.2 33 (S.1 20 r147.toNatClampNeg).toNatClampNeg) + (S.2 32 v4.toNatClampNeg))) fun S161 =>
        fy_bl (v5 + (1 : Int32)) fun x162 =>
        M_countWords_105 k59 k93 fu S161 v1 v2 v3 v4 x162))
def M_countWords_93 (k59 : fy_S → Int32 → Int32 → Int32 → Option (fy_S × Int64)) : Nat → fy_S → Int32 → Int32 → Int32 → Int32 → Option (fy_S × Int64)
  | 0, _, _, _, _, _ => none
  | fu + 1, S, v1, v2, v3, v4 =>
    if (S.1 0 34) ≤ v4 then (
      M_countWords_177 k59 fy_fu S v1 v2 v3 (0 : Int32))
    else (
      M_countWords_105 k59 (fun S v1 v2 v3 v4 => M_countWords_93 k59 fu S v1 v2 v3 v4) fy_fu S v1 v2 v3 v4 (0 : Int32))
def M_countWords_67 (k59 : fy_S → Int32 → Int32 → Int32 → Option (fy_S × Int64)) : Nat → fy_S → Int32 → Int32 → Int32 → Int32 → Option (fy_S × Int64)
  | 0, _, _, _, _, _ => none
  | fu + 1, S, v1, v2, v3, v4 =>
    if (S.1 0 34) ≤ v4 then (
      M_countWords_93 k59 fy_fu S v1 v2 v3 (0 : Int32))
    else (
      fy_gd (fy_ix v4 64) <|
      fy_bl (fy_sL S 33 v4.toNatClampNeg (0 : Int64)) fun S83 =>
      fy_bl (v4 + (1 : Int32)) fun x84 =>
      M_countWords_67 k59 fu S83 v1 v2 v3 x84)
def M_countWords_59 : Nat → fy_S → Int32 → Int32 → Int32 → Option (fy_S × Int64)
  | 0, _, _, _, _ => none
  | fu + 1, S, v1, v2, v3 =>
    if v2 ≤ v3 then (
      M_countWords_217 fy_fu S v1 (0 : Int64) (0 : Int32))
    else (
      M_countWords_67 (fun S v1 v2 v3 => M_countWords_59 fu S v1 v2 v3) fy_fu S v1 v2 v3 (0 : Int32))
def M_countWords_50 (k28 : fy_S → Int32 → Int32 → Int32 → Option (fy_S × Int64)) (S : fy_S) (v1 : Int32) (v2 : Int32) (v3 : Int32) (z0 : Int64) (z1 : Int32) : Option (fy_S × Int64) :=
  fy_gd (fy_ix z1 64) <|
  fy_bl (fy_sL S 32 z1.toNatClampNeg z0) fun S50 =>
  fy_bl (v3 + (1 : Int32)) fun x51 =>
  k28 S50 v1 v2 x51
def M_countWords_28 : Nat → fy_S → Int32 → Int32 → Int32 → Option (fy_S × Int64)
  | 0, _, _, _, _ => none
  | fu + 1, S, v1, v2, v3 =>
    if (S.1 0 34) ≤ v3 then (
      M_countWords_59 fy_fu S v1 v2 (0 : Int32))
    else (
      if v3 = 0 then (
        M_countWords_50 (fun S v1 v2 v3 => M_countWords_28 fu S v1 v2 v3) S v1 v2 v3 (1 : Int64) v3)
      else (
        M_countWords_50 (fun S v1 v2 v3 => M_countWords_28 fu S v1 v2 v3) S v1 v2 v3 (0 : Int64) v3))
def M_countWords (S : fy_S) (v1 : Int32) (v2 : Int32) : Option (fy_S × Int64) :=
  fy_bd (M_isSlot S v1) fun r1 =>
  if r1 = 0 then (
    some (S, (-1 : Int64)))
  else (
    fy_bd (M_isBetween S v2 (0 : Int32) (20 : Int32)) fun r11 =>
    if r11 = 0 then (
      some (S, (-1 : Int64)))
    else (
      fy_bd (M_findReverse S v1) fun S23 =>
      M_countWords_28 fy_fu S23 v1 v2 (0 : Int32)))
set_option maxHeartbeats 4000000 in
set_option maxRecDepth 100000 in
theorem t_M_countWords_217 {p : Program} {l : Launch} {e : Env} {s : State} {m : MethodId} {args : Array Value} {below : List Frame} {meth : Method} {c : Code} {g : fy_G} (C : fy_C g M_Y p s m args meth c yX10_countWords.cls cX10_countWords 6 (some .long)) {Sr : fy_S} {rr : Int64} : ∀ (fu : Nat) (S : fy_S) (v1 : Int32) (v3 : Int64) (v5 : Int32) (H : Heap) (locs : List Loc) (ls : Array Slot), M_countWords_217 fu S v1 v3 v5 = some (Sr, rr) → fy_W g M_Y S s H locs → lv_has ls 6 [(0, .ref (g.2.2.1 0)), (1, .int v1), (3, .long v3), (5, .int v5)] → W p l e (fy_rm 4) s m args below meth c H locs 0 0 (MQ below (fy_QL g M_Y rr Sr) args s 0 0 (fy_A g M_Y)) (F0 m 217 ls []) := by
  obtain ⟨hx, hb, hr, hts, hown, hlk, hml, hK, hD, hE, hN⟩ := id C
  intro fu
  induction fu with
  | zero => intro S v1 v3 v5 H locs ls h; cases h
  | succ fu ih =>
    intro S v1 v3 v5 H locs ls h w  hl
    rw [M_countWords_217] at h
    refine lv_iload hx hb dX10_countWords_217 (lv_at hl 3 rfl) ?_
    refine lv_aload_n hx hb dX10_countWords_219 rfl (lv_at hl 0 rfl) ?_
    refine gfX10_264 C w dX10_countWords_220 ?_
    refine lv_icmp_ge (tgt := 261) hx hb dX10_countWords_223 (by decide) (fun hc => ?_) (fun hc => ?_)
    · have h := fy_if_t h hc
      refine lv_lload_n hx hb dX10_countWords_261 rfl (lv_at hl 2 rfl) ?_
      cases h
      exact fy_retL C w dX10_countWords_262
    · have h := fy_if_f h hc
      refine lv_lload_n hx hb dX10_countWords_226 rfl (lv_at hl 2 rfl) ?_
      refine lv_aload_n hx hb dX10_countWords_227 rfl (lv_at hl 0 rfl) ?_
      refine lv_iload_n hx hb dX10_countWords_228 rfl (lv_at hl 1 rfl) ?_
      refine lv_aload_n hx hb dX10_countWords_229 rfl (lv_at hl 0 rfl) ?_
      refine gfX10_64 C w dX10_countWords_230 ?_
      refine lv_iload hx hb dX10_countWords_233 (lv_at hl 3 rfl) ?_
      obtain ⟨g235, h⟩ := fy_gd_some h
      refine fy_iald C w M_a19 g235 dX10_countWords_235 ?_
      obtain ⟨r236, h236, h⟩ := fy_bd_some h
      refine fy_calI w (fy_runV (As := [.int v1, .int (S.1 19 v5.toNatClampNeg)]) (rest := [.long v3]) C w (c_M_isAccepting l g  h236) M_o ksX10_249 rfl ⟨Nat.le_of_ble_eq_true rfl, Nat.le_of_ble_eq_true rfl⟩ rfl hl.1 rfl (Nat.le_of_ble_eq_true rfl) ⟨Nat.le_refl _, Nat.le_refl _⟩ dX10_countWords_236) (fun H locs w => ?_)
      refine lv_if_eq (tgt := 252) hx hb dX10_countWords_239 (by decide) (fun hc => ?_) (fun hc => ?_)
      · have h := fy_if_t h hc
        refine lv_lconst (v := (0 : Int64)) hx hb dX10_countWords_252 (by decide) ?_
        refine lv_ladd hx hb dX10_countWords_253 ?_
        refine lv_topl (fun x254 e254 => ?_)
        have h := fy_bl_some e254 h
        refine lv_lstore_n (lv' := [(3, .long x254), (0, .ref (g.2.2.1 0)), (1, .int v1), (5, .int v5)]) hx hb dX10_countWords_254 rfl hl (by decide) rfl (fun ls hl => ?_)
        obtain ⟨x255, e255⟩ : ∃ z : Int32, z = v5 + (1 : Int32) := ⟨_, rfl⟩
        have h := fy_bl_some e255 h
        refine lv_iinc (k := 3) (v := x255) (lv' := [(5, .int x255), (3, .long x254), (0, .ref (g.2.2.1 0)), (1, .int v1)]) hx hb dX10_countWords_255 hl rfl (by rw [e255]; rfl) (by decide) rfl (fun ls hl => ?_)
        refine lv_goto (tgt := 217) hx hb dX10_countWords_258 (by decide) ?_
        exact ih _ _ _ _ _ _ _ h w (lv_sub hl [2, 3, 1, 0] rfl)
      · have h := fy_if_f h hc
        refine lv_aload_n hx hb dX10_countWords_242 rfl (lv_at hl 0 rfl) ?_
        refine gfX10_104 C w dX10_countWords_243 ?_
        refine lv_iload hx hb dX10_countWords_246 (lv_at hl 3 rfl) ?_
        obtain ⟨g248, h⟩ := fy_gd_some h
        refine fy_lald C w M_a32 g248 dX10_countWords_248 ?_
        refine lv_goto (tgt := 253) hx hb dX10_countWords_249 (by decide) ?_
        refine lv_ladd hx hb dX10_countWords_253 ?_
        refine lv_topl (fun x254 e254 => ?_)
        have h := fy_bl_some e254 h
        refine lv_lstore_n (lv' := [(3, .long x254), (0, .ref (g.2.2.1 0)), (1, .int v1), (5, .int v5)]) hx hb dX10_countWords_254 rfl hl (by decide) rfl (fun ls hl => ?_)
        obtain ⟨x255, e255⟩ : ∃ z : Int32, z = v5 + (1 : Int32) := ⟨_, rfl⟩
        have h := fy_bl_some e255 h
        refine lv_iinc (k := 3) (v := x255) (lv' := [(5, .int x255), (3, .long x254), (0, .ref (g.2.2.1 0)), (1, .int v1)]) hx hb dX10_countWords_255 hl rfl (by rw [e255]; rfl) (by decide) rfl (fun ls hl => ?_)
        refine lv_goto (tgt := 217) hx hb dX10_countWords_258 (by decide) ?_
        exact ih _ _ _ _ _ _ _ h w (lv_sub hl [2, 3, 1, 0] rfl)

set_option maxHeartbeats 4000000 in
set_option maxRecDepth 100000 in
theorem t_M_countWords_177 {p : Program} {l : Launch} {e : Env} {s : State} {m : MethodId} {args : Array Value} {below : List Frame} {meth : Method} {c : Code} {g : fy_G} (C : fy_C g M_Y p s m args meth c yX10_countWords.cls cX10_countWords 6 (some .long)) {Sr : fy_S} {rr : Int64} {k59 : fy_S → Int32 → Int32 → Int32 → Option (fy_S × Int64)} (hk59 : ∀ (S : fy_S) (v1 : Int32) (v2 : Int32) (v3 : Int32) (H : Heap) (locs : List Loc) (ls : Array Slot), k59 S v1 v2 v3 = some (Sr, rr) → fy_W g M_Y S s H locs → lv_has ls 6 [(0, .ref (g.2.2.1 0)), (1, .int v1), (2, .int v2), (3, .int v3)] → W p l e (fy_rm 4) s m args below meth c H locs 0 0 (MQ below (fy_QL g M_Y rr Sr) args s 0 0 (fy_A g M_Y)) (F0 m 59 ls [])) : ∀ (fu : Nat) (S : fy_S) (v1 : Int32) (v2 : Int32) (v3 : Int32) (v4 : Int32) (H : Heap) (locs : List Loc) (ls : Array Slot), M_countWords_177 k59 fu S v1 v2 v3 v4 = some (Sr, rr) → fy_W g M_Y S s H locs → lv_has ls 6 [(0, .ref (g.2.2.1 0)), (1, .int v1), (2, .int v2), (3, .int v3), (4, .int v4)] → W p l e (fy_rm 4) s m args below meth c H locs 0 0 (MQ below (fy_QL g M_Y rr Sr) args s 0 0 (fy_A g M_Y)) (F0 m 177 ls []) := by
  obtain ⟨hx, hb, hr, hts, hown, hlk, hml, hK, hD, hE, hN⟩ := id C
  intro fu
  induction fu with
  | zero => intro S v1 v2 v3 v4 H locs ls h; cases h
  | succ fu ih =>
    intro S v1 v2 v3 v4 H locs ls h w  hl
    rw [M_countWords_177] at h
    refine lv_iload hx hb dX10_countWords_177 (lv_at hl 4 rfl) ?_
    refine lv_aload_n hx hb dX10_countWords_179 rfl (lv_at hl 0 rfl) ?_
    refine gfX10_264 C w dX10_countWords_180 ?_
    refine lv_icmp_ge (tgt := 206) hx hb dX10_countWords_183 (by decide) (fun hc => ?_) (fun hc => ?_)
    · have h := fy_if_t h hc
      obtain ⟨x206, e206⟩ : ∃ z : Int32, z = v3 + (1 : Int32) := ⟨_, rfl⟩
      have h := fy_bl_some e206 h
      refine lv_iinc (k := 3) (v := x206) (lv' := [(3, .int x206), (0, .ref (g.2.2.1 0)), (1, .int v1), (2, .int v2), (4, .int v4)]) hx hb dX10_countWords_206 hl rfl (by rw [e206]; rfl) (by decide) rfl (fun ls hl => ?_)
      refine lv_goto (tgt := 59) hx hb dX10_countWords_209 (by decide) ?_
      exact hk59 _ _ _ _ _ _ _ h w (lv_sub hl [1, 2, 3, 0] rfl)
    · have h := fy_if_f h hc
      refine lv_aload_n hx hb dX10_countWords_186 rfl (lv_at hl 0 rfl) ?_
      refine gfX10_104 C w dX10_countWords_187 ?_
      refine lv_iload hx hb dX10_countWords_190 (lv_at hl 4 rfl) ?_
      refine lv_aload_n hx hb dX10_countWords_192 rfl (lv_at hl 0 rfl) ?_
      refine gfX10_108 C w dX10_countWords_193 ?_
      refine lv_iload hx hb dX10_countWords_196 (lv_at hl 4 rfl) ?_
      obtain ⟨g198, h⟩ := fy_gd_some h
      refine fy_lald C w M_a33 g198 dX10_countWords_198 ?_
      obtain ⟨g199, h⟩ := fy_gd_some h
      refine fy_last C w M_a32 g199 dX10_countWords_199 (fun H locs w => ?_)
      obtain ⟨S199, e199⟩ : ∃ z, z = fy_sL S 32 v4.toNatClampNeg (S.2 33 v4.toNatClampNeg) := ⟨_, rfl⟩
      have h := fy_bl_some e199 h
      rw [← e199] at w
      obtain ⟨x200, e200⟩ : ∃ z : Int32, z = v4 + (1 : Int32) := ⟨_, rfl⟩
      have h := fy_bl_some e200 h
      refine lv_iinc (k := 4) (v := x200) (lv' := [(4, .int x200), (0, .ref (g.2.2.1 0)), (1, .int v1), (2, .int v2), (3, .int v3)]) hx hb dX10_countWords_200 hl rfl (by rw [e200]; rfl) (by decide) rfl (fun ls hl => ?_)
      refine lv_goto (tgt := 177) hx hb dX10_countWords_203 (by decide) ?_
      exact ih _ _ _ _ _ _ _ _ h w (lv_sub hl [1, 2, 3, 4, 0] rfl)

set_option maxHeartbeats 4000000 in
set_option maxRecDepth 100000 in
theorem t_M_countWords_105 {p : Program} {l : Launch} {e : Env} {s : State} {m : MethodId} {args : Array Value} {below : List Frame} {meth : Method} {c : Code} {g : fy_G} (C : fy_C g M_Y p s m args meth c yX10_countWords.cls cX10_countWords 6 (some .long)) {Sr : fy_S} {rr : Int64} {k59 : fy_S → Int32 → Int32 → Int32 → Option (fy_S × Int64)} {k93 : fy_S → Int32 → Int32 → Int32 → Int32 → Option (fy_S × Int64)} (hk59 : ∀ (S : fy_S) (v1 : Int32) (v2 : Int32) (v3 : Int32) (H : Heap) (locs : List Loc) (ls : Array Slot), k59 S v1 v2 v3 = some (Sr, rr) → fy_W g M_Y S s H locs → lv_has ls 6 [(0, .ref (g.2.2.1 0)), (1, .int v1), (2, .int v2), (3, .int v3)] → W p l e (fy_rm 4) s m args below meth c H locs 0 0 (MQ below (fy_QL g M_Y rr Sr) args s 0 0 (fy_A g M_Y)) (F0 m 59 ls [])) (hk93 : ∀ (S : fy_S) (v1 : Int32) (v2 : Int32) (v3 : Int32) (v4 : Int32) (H : Heap) (locs : List Loc) (ls : Array Slot), k93 S v1 v2 v3 v4 = some (Sr, rr) → fy_W g M_Y S s H locs → lv_has ls 6 [(0, .ref (g.2.2.1 0)), (1, .int v1), (2, .int v2), (3, .int v3), (4, .int v4)] → W p l e (fy_rm 4) s m args below meth c H locs 0 0 (MQ below (fy_QL g M_Y rr Sr) args s 0 0 (fy_A g M_Y)) (F0 m 93 ls [])) : ∀ (fu : Nat) (S : fy_S) (v1 : Int32) (v2 : Int32) (v3 : Int32) (v4 : Int32) (v5 : Int32) (H : Heap) (locs : List Loc) (ls : Array Slot), M_countWords_105 k59 k93 fu S v1 v2 v3 v4 v5 = some (Sr, rr) → fy_W g M_Y S s H locs → lv_has ls 6 [(0, .ref (g.2.2.1 0)), (1, .int v1), (2, .int v2), (3, .int v3), (4, .int v4), (5, .int v5)] → W p l e (fy_rm 4) s m args below meth c H locs 0 0 (MQ below (fy_QL g M_Y rr Sr) args s 0 0 (fy_A g M_Y)) (F0 m 105 ls []) := by
  obtain ⟨hx, hb, hr, hts, hown, hlk, hml, hK, hD, hE, hN⟩ := id C
  intro fu
  induction fu with
  | zero => intro S v1 v2 v3 v4 v5 H locs ls h; cases h
  | succ fu ih =>
    intro S v1 v2 v3 v4 v5 H locs ls h w  hl
    rw [M_countWords_105] at h
    refine lv_iload hx hb dX10_countWords_105 (lv_at hl 5 rfl) ?_
    refine lv_aload_n hx hb dX10_countWords_107 rfl (lv_at hl 0 rfl) ?_
    refine gfX10_13 C w dX10_countWords_108 ?_
    refine lv_iload_n hx hb dX10_countWords_111 rfl (lv_at hl 1 rfl) ?_
    obtain ⟨g112, h⟩ := fy_gd_some h
    refine fy_iald C w M_a2 g112 dX10_countWords_112 ?_
    refine lv_icmp_ge (tgt := 168) hx hb dX10_countWords_113 (by decide) (fun hc => ?_) (fun hc => ?_)
    · have h := fy_if_t h hc
      obtain ⟨x168, e168⟩ : ∃ z : Int32, z = v4 + (1 : Int32) := ⟨_, rfl⟩
      have h := fy_bl_some e168 h
      refine lv_iinc (k := 4) (v := x168) (lv' := [(4, .int x168), (0, .ref (g.2.2.1 0)), (1, .int v1), (2, .int v2), (3, .int v3), (5, .int v5)]) hx hb dX10_countWords_168 hl rfl (by rw [e168]; rfl) (by decide) rfl (fun ls hl => ?_)
      refine lv_goto (tgt := 93) hx hb dX10_countWords_171 (by decide) ?_
      exact hk93 _ _ _ _ _ _ _ _ h w (lv_sub hl [1, 2, 3, 4, 0] rfl)
    · have h := fy_if_f h hc
      refine lv_aload_n hx hb dX10_countWords_116 rfl (lv_at hl 0 rfl) ?_
      refine gfX10_104 C w dX10_countWords_117 ?_
      refine lv_iload hx hb dX10_countWords_120 (lv_at hl 4 rfl) ?_
      obtain ⟨g122, h⟩ := fy_gd_some h
      refine fy_lald C w M_a32 g122 dX10_countWords_122 ?_
      refine lv_lconst (v := (0 : Int64)) hx hb dX10_countWords_123 (by decide) ?_
      refine W.lcmp hx hb dX10_countWords_124 ?_
      refine lv_if_le (tgt := 168) hx hb dX10_countWords_125 (by decide) (fun hc => ?_) (fun hc => ?_)
      · have h := fy_if_t h hc
        obtain ⟨x168, e168⟩ : ∃ z : Int32, z = v4 + (1 : Int32) := ⟨_, rfl⟩
        have h := fy_bl_some e168 h
        refine lv_iinc (k := 4) (v := x168) (lv' := [(4, .int x168), (0, .ref (g.2.2.1 0)), (1, .int v1), (2, .int v2), (3, .int v3), (5, .int v5)]) hx hb dX10_countWords_168 hl rfl (by rw [e168]; rfl) (by decide) rfl (fun ls hl => ?_)
        refine lv_goto (tgt := 93) hx hb dX10_countWords_171 (by decide) ?_
        exact hk93 _ _ _ _ _ _ _ _ h w (lv_sub hl [1, 2, 3, 4, 0] rfl)
      · have h := fy_if_f h hc
        refine lv_aload_n hx hb dX10_countWords_128 rfl (lv_at hl 0 rfl) ?_
        refine gfX10_108 C w dX10_countWords_129 ?_
        refine lv_aload_n hx hb dX10_countWords_132 rfl (lv_at hl 0 rfl) ?_
        refine gfX10_67 C w dX10_countWords_133 ?_
        refine lv_aload_n hx hb dX10_countWords_136 rfl (lv_at hl 0 rfl) ?_
        refine lv_iload_n hx hb dX10_countWords_137 rfl (lv_at hl 1 rfl) ?_
        refine lv_iload hx hb dX10_countWords_138 (lv_at hl 5 rfl) ?_
        refine lv_aload_n hx hb dX10_countWords_140 rfl (lv_at hl 0 rfl) ?_
        refine gfX10_64 C w dX10_countWords_141 ?_
        refine lv_iload hx hb dX10_countWords_144 (lv_at hl 4 rfl) ?_
        obtain ⟨g146, h⟩ := fy_gd_some h
        refine fy_iald C w M_a19 g146 dX10_countWords_146 ?_
        obtain ⟨r147, h147, h⟩ := fy_bd_some h
        refine fy_calI w (fy_runV (As := [.int v1, .int v5, .int (S.1 19 v4.toNatClampNeg)]) (rest := [.ref (g.2.2.1 20), .ref (g.2.2.1 33)]) C w (c_M_stepOf l g  h147) M_o ksX10_240 rfl ⟨Nat.le_of_ble_eq_true rfl, Nat.le_of_ble_eq_true rfl⟩ rfl hl.1 rfl (Nat.le_of_ble_eq_true rfl) ⟨Nat.le_refl _, Nat.le_refl _⟩ dX10_countWords_147) (fun H locs w => ?_)
        obtain ⟨g150, h⟩ := fy_gd_some h
        refine fy_iald C w M_a20 g150 dX10_countWords_150 ?_
        refine lv_dup2_11 hx hb dX10_countWords_151 rfl rfl ?_
        obtain ⟨g152, h⟩ := fy_gd_some h
        refine fy_lald C w M_a33 g152 dX10_countWords_152 ?_
        refine lv_aload_n hx hb dX10_countWords_153 rfl (lv_at hl 0 rfl) ?_
        refine gfX10_104 C w dX10_countWords_154 ?_
        refine lv_iload hx hb dX10_countWords_157 (lv_at hl 4 rfl) ?_
        obtain ⟨g159, h⟩ := fy_gd_some h
        refine fy_lald C w M_a32 g159 dX10_countWords_159 ?_
        refine lv_ladd hx hb dX10_countWords_160 ?_
        obtain ⟨g161, h⟩ := fy_gd_some h
        refine fy_last C w M_a33 g161 dX10_countWords_161 (fun H locs w => ?_)
        obtain ⟨S161, e161⟩ : ∃ z, z = fy_sL S 33 (S.1 20 r147.toNatClampNeg).toNatClampNeg ((S.2 33 (S.1 20 r147.toNatClampNeg).toNatClampNeg) + (S.2 32 v4.toNatClampNeg)) := ⟨_, rfl⟩
        have h := fy_bl_some e161 h
        rw [← e161] at w
        obtain ⟨x162, e162⟩ : ∃ z : Int32, z = v5 + (1 : Int32) := ⟨_, rfl⟩
        have h := fy_bl_some e162 h
        refine lv_iinc (k := 5) (v := x162) (lv' := [(5, .int x162), (0, .ref (g.2.2.1 0)), (1, .int v1), (2, .int v2), (3, .int v3), (4, .int v4)]) hx hb dX10_countWords_162 hl rfl (by rw [e162]; rfl) (by decide) rfl (fun ls hl => ?_)
        refine lv_goto (tgt := 105) hx hb dX10_countWords_165 (by decide) ?_
        exact ih _ _ _ _ _ _ _ _ _ h w (lv_sub hl [1, 2, 3, 4, 5, 0] rfl)

set_option maxHeartbeats 4000000 in
set_option maxRecDepth 100000 in
theorem t_M_countWords_93 {p : Program} {l : Launch} {e : Env} {s : State} {m : MethodId} {args : Array Value} {below : List Frame} {meth : Method} {c : Code} {g : fy_G} (C : fy_C g M_Y p s m args meth c yX10_countWords.cls cX10_countWords 6 (some .long)) {Sr : fy_S} {rr : Int64} {k59 : fy_S → Int32 → Int32 → Int32 → Option (fy_S × Int64)} (hk59 : ∀ (S : fy_S) (v1 : Int32) (v2 : Int32) (v3 : Int32) (H : Heap) (locs : List Loc) (ls : Array Slot), k59 S v1 v2 v3 = some (Sr, rr) → fy_W g M_Y S s H locs → lv_has ls 6 [(0, .ref (g.2.2.1 0)), (1, .int v1), (2, .int v2), (3, .int v3)] → W p l e (fy_rm 4) s m args below meth c H locs 0 0 (MQ below (fy_QL g M_Y rr Sr) args s 0 0 (fy_A g M_Y)) (F0 m 59 ls [])) : ∀ (fu : Nat) (S : fy_S) (v1 : Int32) (v2 : Int32) (v3 : Int32) (v4 : Int32) (H : Heap) (locs : List Loc) (ls : Array Slot), M_countWords_93 k59 fu S v1 v2 v3 v4 = some (Sr, rr) → fy_W g M_Y S s H locs → lv_has ls 6 [(0, .ref (g.2.2.1 0)), (1, .int v1), (2, .int v2), (3, .int v3), (4, .int v4)] → W p l e (fy_rm 4) s m args below meth c H locs 0 0 (MQ below (fy_QL g M_Y rr Sr) args s 0 0 (fy_A g M_Y)) (F0 m 93 ls []) := by
  obtain ⟨hx, hb, hr, hts, hown, hlk, hml, hK, hD, hE, hN⟩ := id C
  intro fu
  induction fu with
  | zero => intro S v1 v2 v3 v4 H locs ls h; cases h
  | succ fu ih =>
    intro S v1 v2 v3 v4 H locs ls h w  hl
    rw [M_countWords_93] at h
    refine lv_iload hx hb dX10_countWords_93 (lv_at hl 4 rfl) ?_
    refine lv_aload_n hx hb dX10_countWords_95 rfl (lv_at hl 0 rfl) ?_
    refine gfX10_264 C w dX10_countWords_96 ?_
    refine lv_icmp_ge (tgt := 174) hx hb dX10_countWords_99 (by decide) (fun hc => ?_) (fun hc => ?_)
    · have h := fy_if_t h hc
      refine lv_iconst (v := (0 : Int32)) hx hb dX10_countWords_174 (by decide) ?_
      refine lv_istore (lv' := [(4, .int (0 : Int32)), (0, .ref (g.2.2.1 0)), (1, .int v1), (2, .int v2), (3, .int v3)]) hx hb dX10_countWords_175 hl (by decide) rfl (fun ls hl => ?_)
      exact t_M_countWords_177 C hk59 fy_fu _ _ _ _ _ _ _ _ h w (lv_sub hl [1, 2, 3, 4, 0] rfl)
    · have h := fy_if_f h hc
      refine lv_iconst (v := (0 : Int32)) hx hb dX10_countWords_102 (by decide) ?_
      refine lv_istore (lv' := [(5, .int (0 : Int32)), (0, .ref (g.2.2.1 0)), (1, .int v1), (2, .int v2), (3, .int v3), (4, .int v4)]) hx hb dX10_countWords_103 hl (by decide) rfl (fun ls hl => ?_)
      exact t_M_countWords_105 C hk59 ih fy_fu _ _ _ _ _ _ _ _ _ h w (lv_sub hl [1, 2, 3, 4, 5, 0] rfl)

set_option maxHeartbeats 4000000 in
set_option maxRecDepth 100000 in
theorem t_M_countWords_67 {p : Program} {l : Launch} {e : Env} {s : State} {m : MethodId} {args : Array Value} {below : List Frame} {meth : Method} {c : Code} {g : fy_G} (C : fy_C g M_Y p s m args meth c yX10_countWords.cls cX10_countWords 6 (some .long)) {Sr : fy_S} {rr : Int64} {k59 : fy_S → Int32 → Int32 → Int32 → Option (fy_S × Int64)} (hk59 : ∀ (S : fy_S) (v1 : Int32) (v2 : Int32) (v3 : Int32) (H : Heap) (locs : List Loc) (ls : Array Slot), k59 S v1 v2 v3 = some (Sr, rr) → fy_W g M_Y S s H locs → lv_has ls 6 [(0, .ref (g.2.2.1 0)), (1, .int v1), (2, .int v2), (3, .int v3)] → W p l e (fy_rm 4) s m args below meth c H locs 0 0 (MQ below (fy_QL g M_Y rr Sr) args s 0 0 (fy_A g M_Y)) (F0 m 59 ls [])) : ∀ (fu : Nat) (S : fy_S) (v1 : Int32) (v2 : Int32) (v3 : Int32) (v4 : Int32) (H : Heap) (locs : List Loc) (ls : Array Slot), M_countWords_67 k59 fu S v1 v2 v3 v4 = some (Sr, rr) → fy_W g M_Y S s H locs → lv_has ls 6 [(0, .ref (g.2.2.1 0)), (1, .int v1), (2, .int v2), (3, .int v3), (4, .int v4)] → W p l e (fy_rm 4) s m args below meth c H locs 0 0 (MQ below (fy_QL g M_Y rr Sr) args s 0 0 (fy_A g M_Y)) (F0 m 67 ls []) := by
  obtain ⟨hx, hb, hr, hts, hown, hlk, hml, hK, hD, hE, hN⟩ := id C
  intro fu
  induction fu with
  | zero => intro S v1 v2 v3 v4 H locs ls h; cases h
  | succ fu ih =>
    intro S v1 v2 v3 v4 H locs ls h w  hl
    rw [M_countWords_67] at h
    refine lv_iload hx hb dX10_countWords_67 (lv_at hl 4 rfl) ?_
    refine lv_aload_n hx hb dX10_countWords_69 rfl (lv_at hl 0 rfl) ?_
    refine gfX10_264 C w dX10_countWords_70 ?_
    refine lv_icmp_ge (tgt := 90) hx hb dX10_countWords_73 (by decide) (fun hc => ?_) (fun hc => ?_)
    · have h := fy_if_t h hc
      refine lv_iconst (v := (0 : Int32)) hx hb dX10_countWords_90 (by decide) ?_
      refine lv_istore (lv' := [(4, .int (0 : Int32)), (0, .ref (g.2.2.1 0)), (1, .int v1), (2, .int v2), (3, .int v3)]) hx hb dX10_countWords_91 hl (by decide) rfl (fun ls hl => ?_)
      exact t_M_countWords_93 C hk59 fy_fu _ _ _ _ _ _ _ _ h w (lv_sub hl [1, 2, 3, 4, 0] rfl)
    · have h := fy_if_f h hc
      refine lv_aload_n hx hb dX10_countWords_76 rfl (lv_at hl 0 rfl) ?_
      refine gfX10_108 C w dX10_countWords_77 ?_
      refine lv_iload hx hb dX10_countWords_80 (lv_at hl 4 rfl) ?_
      refine lv_lconst (v := (0 : Int64)) hx hb dX10_countWords_82 (by decide) ?_
      obtain ⟨g83, h⟩ := fy_gd_some h
      refine fy_last C w M_a33 g83 dX10_countWords_83 (fun H locs w => ?_)
      obtain ⟨S83, e83⟩ : ∃ z, z = fy_sL S 33 v4.toNatClampNeg (0 : Int64) := ⟨_, rfl⟩
      have h := fy_bl_some e83 h
      rw [← e83] at w
      obtain ⟨x84, e84⟩ : ∃ z : Int32, z = v4 + (1 : Int32) := ⟨_, rfl⟩
      have h := fy_bl_some e84 h
      refine lv_iinc (k := 4) (v := x84) (lv' := [(4, .int x84), (0, .ref (g.2.2.1 0)), (1, .int v1), (2, .int v2), (3, .int v3)]) hx hb dX10_countWords_84 hl rfl (by rw [e84]; rfl) (by decide) rfl (fun ls hl => ?_)
      refine lv_goto (tgt := 67) hx hb dX10_countWords_87 (by decide) ?_
      exact ih _ _ _ _ _ _ _ _ h w (lv_sub hl [1, 2, 3, 4, 0] rfl)

set_option maxHeartbeats 4000000 in
set_option maxRecDepth 100000 in
theorem t_M_countWords_59 {p : Program} {l : Launch} {e : Env} {s : State} {m : MethodId} {args : Array Value} {below : List Frame} {meth : Method} {c : Code} {g : fy_G} (C : fy_C g M_Y p s m args meth c yX10_countWords.cls cX10_countWords 6 (some .long)) {Sr : fy_S} {rr : Int64} : ∀ (fu : Nat) (S : fy_S) (v1 : Int32) (v2 : Int32) (v3 : Int32) (H : Heap) (locs : List Loc) (ls : Array Slot), M_countWords_59 fu S v1 v2 v3 = some (Sr, rr) → fy_W g M_Y S s H locs → lv_has ls 6 [(0, .ref (g.2.2.1 0)), (1, .int v1), (2, .int v2), (3, .int v3)] → W p l e (fy_rm 4) s m args below meth c H locs 0 0 (MQ below (fy_QL g M_Y rr Sr) args s 0 0 (fy_A g M_Y)) (F0 m 59 ls []) := by
  obtain ⟨hx, hb, hr, hts, hown, hlk, hml, hK, hD, hE, hN⟩ := id C
  intro fu
  induction fu with
  | zero => intro S v1 v2 v3 H locs ls h; cases h
  | succ fu ih =>
    intro S v1 v2 v3 H locs ls h w  hl
    rw [M_countWords_59] at h
    refine lv_iload_n hx hb dX10_countWords_59 rfl (lv_at hl 3 rfl) ?_
    refine lv_iload_n hx hb dX10_countWords_60 rfl (lv_at hl 2 rfl) ?_
    refine lv_icmp_ge (tgt := 212) hx hb dX10_countWords_61 (by decide) (fun hc => ?_) (fun hc => ?_)
    · have h := fy_if_t h hc
      refine lv_lconst (v := (0 : Int64)) hx hb dX10_countWords_212 (by decide) ?_
      refine lv_lstore_n (lv' := [(3, .long (0 : Int64)), (0, .ref (g.2.2.1 0)), (1, .int v1), (2, .int v2)]) hx hb dX10_countWords_213 rfl hl (by decide) rfl (fun ls hl => ?_)
      refine lv_iconst (v := (0 : Int32)) hx hb dX10_countWords_214 (by decide) ?_
      refine lv_istore (lv' := [(5, .int (0 : Int32)), (3, .long (0 : Int64)), (0, .ref (g.2.2.1 0)), (1, .int v1), (2, .int v2)]) hx hb dX10_countWords_215 hl (by decide) rfl (fun ls hl => ?_)
      exact t_M_countWords_217 C fy_fu _ _ _ _ _ _ _ h w (lv_sub hl [2, 3, 1, 0] rfl)
    · have h := fy_if_f h hc
      refine lv_iconst (v := (0 : Int32)) hx hb dX10_countWords_64 (by decide) ?_
      refine lv_istore (lv' := [(4, .int (0 : Int32)), (0, .ref (g.2.2.1 0)), (1, .int v1), (2, .int v2), (3, .int v3)]) hx hb dX10_countWords_65 hl (by decide) rfl (fun ls hl => ?_)
      exact t_M_countWords_67 C ih fy_fu _ _ _ _ _ _ _ _ h w (lv_sub hl [1, 2, 3, 4, 0] rfl)

set_option maxHeartbeats 4000000 in
set_option maxRecDepth 100000 in
theorem t_M_countWords_50 {p : Program} {l : Launch} {e : Env} {s : State} {m : MethodId} {args : Array Value} {below : List Frame} {meth : Method} {c : Code} {g : fy_G} (C : fy_C g M_Y p s m args meth c yX10_countWords.cls cX10_countWords 6 (some .long)) {Sr : fy_S} {rr : Int64} {k28 : fy_S → Int32 → Int32 → Int32 → Option (fy_S × Int64)} (hk28 : ∀ (S : fy_S) (v1 : Int32) (v2 : Int32) (v3 : Int32) (H : Heap) (locs : List Loc) (ls : Array Slot), k28 S v1 v2 v3 = some (Sr, rr) → fy_W g M_Y S s H locs → lv_has ls 6 [(0, .ref (g.2.2.1 0)), (1, .int v1), (2, .int v2), (3, .int v3)] → W p l e (fy_rm 4) s m args below meth c H locs 0 0 (MQ below (fy_QL g M_Y rr Sr) args s 0 0 (fy_A g M_Y)) (F0 m 28 ls [])) : ∀ (S : fy_S) (v1 : Int32) (v2 : Int32) (v3 : Int32) (z0 : Int64) (z1 : Int32) (H : Heap) (locs : List Loc) (ls : Array Slot), M_countWords_50 k28 S v1 v2 v3 z0 z1 = some (Sr, rr) → fy_W g M_Y S s H locs → lv_has ls 6 [(0, .ref (g.2.2.1 0)), (1, .int v1), (2, .int v2), (3, .int v3)] → W p l e (fy_rm 4) s m args below meth c H locs 0 0 (MQ below (fy_QL g M_Y rr Sr) args s 0 0 (fy_A g M_Y)) (F0 m 50 ls [.long z0, .int z1, .ref (g.2.2.1 32)]) := by
  obtain ⟨hx, hb, hr, hts, hown, hlk, hml, hK, hD, hE, hN⟩ := id C
  intro S v1 v2 v3 z0 z1 H locs ls h w  hl
  rw [M_countWords_50] at h
  obtain ⟨g50, h⟩ := fy_gd_some h
  refine fy_last C w M_a32 g50 dX10_countWords_50 (fun H locs w => ?_)
  obtain ⟨S50, e50⟩ : ∃ z, z = fy_sL S 32 z1.toNatClampNeg z0 := ⟨_, rfl⟩
  have h := fy_bl_some e50 h
  rw [← e50] at w
  obtain ⟨x51, e51⟩ : ∃ z : Int32, z = v3 + (1 : Int32) := ⟨_, rfl⟩
  have h := fy_bl_some e51 h
  refine lv_iinc (k := 3) (v := x51) (lv' := [(3, .int x51), (0, .ref (g.2.2.1 0)), (1, .int v1), (2, .int v2)]) hx hb dX10_countWords_51 hl rfl (by rw [e51]; rfl) (by decide) rfl (fun ls hl => ?_)
  refine lv_goto (tgt := 28) hx hb dX10_countWords_54 (by decide) ?_
  exact hk28 _ _ _ _ _ _ _ h w (lv_sub hl [1, 2, 3, 0] rfl)

set_option maxHeartbeats 4000000 in
set_option maxRecDepth 100000 in
theorem t_M_countWords_28 {p : Program} {l : Launch} {e : Env} {s : State} {m : MethodId} {args : Array Value} {below : List Frame} {meth : Method} {c : Code} {g : fy_G} (C : fy_C g M_Y p s m args meth c yX10_countWords.cls cX10_countWords 6 (some .long)) {Sr : fy_S} {rr : Int64} : ∀ (fu : Nat) (S : fy_S) (v1 : Int32) (v2 : Int32) (v3 : Int32) (H : Heap) (locs : List Loc) (ls : Array Slot), M_countWords_28 fu S v1 v2 v3 = some (Sr, rr) → fy_W g M_Y S s H locs → lv_has ls 6 [(0, .ref (g.2.2.1 0)), (1, .int v1), (2, .int v2), (3, .int v3)] → W p l e (fy_rm 4) s m args below meth c H locs 0 0 (MQ below (fy_QL g M_Y rr Sr) args s 0 0 (fy_A g M_Y)) (F0 m 28 ls []) := by
  obtain ⟨hx, hb, hr, hts, hown, hlk, hml, hK, hD, hE, hN⟩ := id C
  intro fu
  induction fu with
  | zero => intro S v1 v2 v3 H locs ls h; cases h
  | succ fu ih =>
    intro S v1 v2 v3 H locs ls h w  hl
    rw [M_countWords_28] at h
    refine lv_iload_n hx hb dX10_countWords_28 rfl (lv_at hl 3 rfl) ?_
    refine lv_aload_n hx hb dX10_countWords_29 rfl (lv_at hl 0 rfl) ?_
    refine gfX10_264 C w dX10_countWords_30 ?_
    refine lv_icmp_ge (tgt := 57) hx hb dX10_countWords_33 (by decide) (fun hc => ?_) (fun hc => ?_)
    · have h := fy_if_t h hc
      refine lv_iconst (v := (0 : Int32)) hx hb dX10_countWords_57 (by decide) ?_
      refine lv_istore_n (lv' := [(3, .int (0 : Int32)), (0, .ref (g.2.2.1 0)), (1, .int v1), (2, .int v2)]) hx hb dX10_countWords_58 rfl hl (by decide) rfl (fun ls hl => ?_)
      exact t_M_countWords_59 C fy_fu _ _ _ _ _ _ _ h w (lv_sub hl [1, 2, 3, 0] rfl)
    · have h := fy_if_f h hc
      refine lv_aload_n hx hb dX10_countWords_36 rfl (lv_at hl 0 rfl) ?_
      refine gfX10_104 C w dX10_countWords_37 ?_
      refine lv_iload_n hx hb dX10_countWords_40 rfl (lv_at hl 3 rfl) ?_
      refine lv_iload_n hx hb dX10_countWords_41 rfl (lv_at hl 3 rfl) ?_
      refine lv_if_ne (tgt := 49) hx hb dX10_countWords_42 (by decide) (fun hc => ?_) (fun hc => ?_)
      · have h := fy_if_f h hc
        refine lv_lconst (v := (0 : Int64)) hx hb dX10_countWords_49 (by decide) ?_
        exact t_M_countWords_50 C ih _ _ _ _ _ _ _ _ _ h w (lv_sub hl [0, 1, 2, 3] rfl)
      · have h := fy_if_t h hc
        refine lv_lconst (v := (1 : Int64)) hx hb dX10_countWords_45 (by decide) ?_
        refine lv_goto (tgt := 50) hx hb dX10_countWords_46 (by decide) ?_
        exact t_M_countWords_50 C ih _ _ _ _ _ _ _ _ _ h w (lv_sub hl [0, 1, 2, 3] rfl)

set_option maxHeartbeats 4000000 in
set_option maxRecDepth 100000 in
theorem t_M_countWords {p : Program} {l : Launch} {e : Env} {s : State} {m : MethodId} {args : Array Value} {below : List Frame} {meth : Method} {c : Code} {g : fy_G} (C : fy_C g M_Y p s m args meth c yX10_countWords.cls cX10_countWords 6 (some .long)) {S : fy_S} {v1 : Int32} {v2 : Int32} {Sr : fy_S} {rr : Int64}  {H : Heap} {locs : List Loc} {ls : Array Slot} (h : M_countWords S v1 v2 = some (Sr, rr)) (w : fy_W g M_Y S s H locs) (hl : lv_has ls 6 [(0, .ref (g.2.2.1 0)), (1, .int v1), (2, .int v2)]) : W p l e (fy_rm 4) s m args below meth c H locs 0 0 (MQ below (fy_QL g M_Y rr Sr) args s 0 0 (fy_A g M_Y)) (F0 m 0 ls []) := by
  obtain ⟨hx, hb, hr, hts, hown, hlk, hml, hK, hD, hE, hN⟩ := id C
  rw [M_countWords] at h
  refine lv_iload_n hx hb dX10_countWords_0 rfl (lv_at hl 1 rfl) ?_
  obtain ⟨r1, h1, h⟩ := fy_bd_some h
  refine fy_calI w (fy_runS (As := [.int v1]) (rest := []) C w (c_M_isSlot l g  h1) ksX10_123 ⟨Nat.le_of_ble_eq_true rfl, Nat.le_of_ble_eq_true rfl⟩ rfl hl.1 rfl (Nat.le_of_ble_eq_true rfl) ⟨Nat.le_refl _, Nat.le_refl _⟩ dX10_countWords_1) (fun H locs w => ?_)
  refine lv_if_eq (tgt := 17) hx hb dX10_countWords_4 (by decide) (fun hc => ?_) (fun hc => ?_)
  · have h := fy_if_t h hc
    refine lv_ldc2 (v := (-1 : Int64)) hx hb hown (hts _ tw229) dX10_countWords_17 ?_
    cases h
    exact fy_retL C w dX10_countWords_20
  · have h := fy_if_f h hc
    refine lv_iload_n hx hb dX10_countWords_7 rfl (lv_at hl 2 rfl) ?_
    refine lv_iconst (v := (0 : Int32)) hx hb dX10_countWords_8 (by decide) ?_
    refine lv_bipush (v := (20 : Int32)) hx hb dX10_countWords_9 (by decide) ?_
    obtain ⟨r11, h11, h⟩ := fy_bd_some h
    refine fy_calI w (fy_runS (As := [.int v2, .int (0 : Int32), .int (20 : Int32)]) (rest := []) C w (c_M_isBetween l g  h11) ksX10_127 ⟨Nat.le_of_ble_eq_true rfl, Nat.le_of_ble_eq_true rfl⟩ rfl hl.1 rfl (Nat.le_of_ble_eq_true rfl) ⟨Nat.le_refl _, Nat.le_refl _⟩ dX10_countWords_11) (fun H locs w => ?_)
    refine lv_if_ne (tgt := 21) hx hb dX10_countWords_14 (by decide) (fun hc => ?_) (fun hc => ?_)
    · have h := fy_if_f h hc
      refine lv_aload_n hx hb dX10_countWords_21 rfl (lv_at hl 0 rfl) ?_
      refine lv_iload_n hx hb dX10_countWords_22 rfl (lv_at hl 1 rfl) ?_
      obtain ⟨S23, h23, h⟩ := fy_bd_some h
      refine fy_calV w (fy_runV (As := [.int v1]) (rest := []) C w (c_M_findReverse l g  h23) M_o ksX10_273 rfl ⟨Nat.le_of_ble_eq_true rfl, Nat.le_of_ble_eq_true rfl⟩ rfl hl.1 rfl (Nat.le_of_ble_eq_true rfl) ⟨Nat.le_refl _, Nat.le_refl _⟩ dX10_countWords_23) (fun H locs w => ?_)
      refine lv_iconst (v := (0 : Int32)) hx hb dX10_countWords_26 (by decide) ?_
      refine lv_istore_n (lv' := [(3, .int (0 : Int32)), (0, .ref (g.2.2.1 0)), (1, .int v1), (2, .int v2)]) hx hb dX10_countWords_27 rfl hl (by decide) rfl (fun ls hl => ?_)
      exact t_M_countWords_28 C fy_fu _ _ _ _ _ _ _ h w (lv_sub hl [1, 2, 3, 0] rfl)
    · have h := fy_if_t h hc
      refine lv_ldc2 (v := (-1 : Int64)) hx hb hown (hts _ tw229) dX10_countWords_17 ?_
      cases h
      exact fy_retL C w dX10_countWords_20

set_option maxHeartbeats 4000000 in
set_option maxRecDepth 100000 in
theorem c_M_countWords (l : Launch) (g : fy_G) {S : fy_S} {v1 : Int32} {v2 : Int32} {Sr : fy_S} {rr : Int64}  (h : M_countWords S v1 v2 = some (Sr, rr)) : fy_M g M_Y l yX10_countWords cX10_countWords 6 (some .long) (fy_rm 4) [.ref (g.2.2.1 0), .int v1, .int v2] S (fy_QL g M_Y rr Sr) :=
  fy_entry (by decide +kernel) (Nat.le_of_ble_eq_true rfl) (fun p e s m args below meth c ls C w hl => t_M_countWords C  h w hl)
def M_copies_107 : Nat → fy_S → Int32 → Int32 → Int32 → Option (fy_S)
  | 0, _, _, _, _ => none
  | fu + 1, S, v1, v2, v3 =>
    if (760 : Int32) ≤ v3 then (
      some S)
    else (
      fy_bd (M_at S v2 (0 : Int32)) fun r121 =>
      fy_bd (M_at S v1 (0 : Int32)) fun r133 =>
      fy_gd (fy_ix (r133 + v3) 5320) <|
      fy_gd (fy_ix (r121 + v3) 5320) <|
      fy_bl (fy_sI S 6 (r121 + v3).toNatClampNeg (S.1 6 (r133 + v3).toNatClampNeg)) fun S139 =>
      fy_bl (v3 + (1 : Int32)) fun x140 =>
      M_copies_107 fu S139 v1 v2 x140)
def M_copies_71 : Nat → fy_S → Int32 → Int32 → Int32 → Option (fy_S)
  | 0, _, _, _, _ => none
  | fu + 1, S, v1, v2, v3 =>
    if (19 : Int32) ≤ v3 then (
      M_copies_107 fy_fu S v1 v2 (0 : Int32))
    else (
      fy_gd (fy_ix (((19 : Int32) * v1) + v3) 133) <|
      fy_gd (fy_ix (((19 : Int32) * v2) + v3) 133) <|
      fy_bl (fy_sI S 5 (((19 : Int32) * v2) + v3).toNatClampNeg (S.1 5 (((19 : Int32) * v1) + v3).toNatClampNeg)) fun S98 =>
      fy_bl (v3 + (1 : Int32)) fun x99 =>
      M_copies_71 fu S98 v1 v2 x99)
def M_copies_38 : Nat → fy_S → Int32 → Int32 → Int32 → Option (fy_S)
  | 0, _, _, _, _ => none
  | fu + 1, S, v1, v2, v3 =>
    if (3 : Int32) ≤ v3 then (
      M_copies_71 fy_fu S v1 v2 (0 : Int32))
    else (
      fy_gd (fy_ix (((3 : Int32) * v1) + v3) 21) <|
      fy_gd (fy_ix (((3 : Int32) * v2) + v3) 21) <|
      fy_bl (fy_sI S 4 (((3 : Int32) * v2) + v3).toNatClampNeg (S.1 4 (((3 : Int32) * v1) + v3).toNatClampNeg)) fun S62 =>
      fy_bl (v3 + (1 : Int32)) fun x63 =>
      M_copies_38 fu S62 v1 v2 x63)
def M_copies (S : fy_S) (v1 : Int32) (v2 : Int32) : Option (fy_S) :=
  fy_gd (fy_ix v1 7) <|
  fy_gd (fy_ix v2 7) <|
  fy_bl (fy_sI S 1 v2.toNatClampNeg (S.1 1 v1.toNatClampNeg)) fun S11 =>
  fy_gd (fy_ix v1 7) <|
  fy_gd (fy_ix v2 7) <|
  fy_bl (fy_sI S11 2 v2.toNatClampNeg (S11.1 2 v1.toNatClampNeg)) fun S23 =>
  fy_gd (fy_ix v1 7) <|
  fy_gd (fy_ix v2 7) <|
  fy_bl (fy_sI S23 3 v2.toNatClampNeg (S23.1 3 v1.toNatClampNeg)) fun S35 =>
  M_copies_38 fy_fu S35 v1 v2 (0 : Int32)
set_option maxHeartbeats 4000000 in
set_option maxRecDepth 100000 in
theorem t_M_copies_107 {p : Program} {l : Launch} {e : Env} {s : State} {m : MethodId} {args : Array Value} {below : List Frame} {meth : Method} {c : Code} {g : fy_G} (C : fy_C g M_Y p s m args meth c yX10_copies.cls cX10_copies 4 none) {Sr : fy_S}  : ∀ (fu : Nat) (S : fy_S) (v1 : Int32) (v2 : Int32) (v3 : Int32) (H : Heap) (locs : List Loc) (ls : Array Slot), M_copies_107 fu S v1 v2 v3 = some Sr → fy_W g M_Y S s H locs → lv_has ls 4 [(0, .ref (g.2.2.1 0)), (1, .int v1), (2, .int v2), (3, .int v3)] → W p l e (fy_rm 1) s m args below meth c H locs 0 0 (MQ below (fy_QV g M_Y Sr) args s 0 0 (fy_A g M_Y)) (F0 m 107 ls []) := by
  obtain ⟨hx, hb, hr, hts, hown, hlk, hml, hK, hD, hE, hN⟩ := id C
  intro fu
  induction fu with
  | zero => intro S v1 v2 v3 H locs ls h; cases h
  | succ fu ih =>
    intro S v1 v2 v3 H locs ls h w  hl
    rw [M_copies_107] at h
    refine lv_iload_n hx hb dX10_copies_107 rfl (lv_at hl 3 rfl) ?_
    refine lv_sipush (v := (760 : Int32)) hx hb dX10_copies_108 (by decide) ?_
    refine lv_icmp_ge (tgt := 146) hx hb dX10_copies_111 (by decide) (fun hc => ?_) (fun hc => ?_)
    · have h := fy_if_t h hc
      cases h
      exact fy_retV C w dX10_copies_146
    · have h := fy_if_f h hc
      refine lv_aload_n hx hb dX10_copies_114 rfl (lv_at hl 0 rfl) ?_
      refine gfX10_25 C w dX10_copies_115 ?_
      refine lv_aload_n hx hb dX10_copies_118 rfl (lv_at hl 0 rfl) ?_
      refine lv_iload_n hx hb dX10_copies_119 rfl (lv_at hl 2 rfl) ?_
      refine lv_iconst (v := (0 : Int32)) hx hb dX10_copies_120 (by decide) ?_
      obtain ⟨r121, h121, h⟩ := fy_bd_some h
      refine fy_calI w (fy_runV (As := [.int v2, .int (0 : Int32)]) (rest := [.ref (g.2.2.1 6)]) C w (c_M_at l g  h121) M_o ksX10_119 rfl ⟨Nat.le_of_ble_eq_true rfl, Nat.le_of_ble_eq_true rfl⟩ rfl hl.1 rfl (Nat.le_of_ble_eq_true rfl) ⟨Nat.le_refl _, Nat.le_refl _⟩ dX10_copies_121) (fun H locs w => ?_)
      refine lv_iload_n hx hb dX10_copies_124 rfl (lv_at hl 3 rfl) ?_
      refine lv_iadd hx hb dX10_copies_125 ?_
      refine lv_aload_n hx hb dX10_copies_126 rfl (lv_at hl 0 rfl) ?_
      refine gfX10_25 C w dX10_copies_127 ?_
      refine lv_aload_n hx hb dX10_copies_130 rfl (lv_at hl 0 rfl) ?_
      refine lv_iload_n hx hb dX10_copies_131 rfl (lv_at hl 1 rfl) ?_
      refine lv_iconst (v := (0 : Int32)) hx hb dX10_copies_132 (by decide) ?_
      obtain ⟨r133, h133, h⟩ := fy_bd_some h
      refine fy_calI w (fy_runV (As := [.int v1, .int (0 : Int32)]) (rest := [.ref (g.2.2.1 6), .int (r121 + v3), .ref (g.2.2.1 6)]) C w (c_M_at l g  h133) M_o ksX10_119 rfl ⟨Nat.le_of_ble_eq_true rfl, Nat.le_of_ble_eq_true rfl⟩ rfl hl.1 rfl (Nat.le_of_ble_eq_true rfl) ⟨Nat.le_refl _, Nat.le_refl _⟩ dX10_copies_133) (fun H locs w => ?_)
      refine lv_iload_n hx hb dX10_copies_136 rfl (lv_at hl 3 rfl) ?_
      refine lv_iadd hx hb dX10_copies_137 ?_
      obtain ⟨g138, h⟩ := fy_gd_some h
      refine fy_iald C w M_a6 g138 dX10_copies_138 ?_
      obtain ⟨g139, h⟩ := fy_gd_some h
      refine fy_iast C w M_a6 g139 dX10_copies_139 (fun H locs w => ?_)
      obtain ⟨S139, e139⟩ : ∃ z, z = fy_sI S 6 (r121 + v3).toNatClampNeg (S.1 6 (r133 + v3).toNatClampNeg) := ⟨_, rfl⟩
      have h := fy_bl_some e139 h
      rw [← e139] at w
      obtain ⟨x140, e140⟩ : ∃ z : Int32, z = v3 + (1 : Int32) := ⟨_, rfl⟩
      have h := fy_bl_some e140 h
      refine lv_iinc (k := 3) (v := x140) (lv' := [(3, .int x140), (0, .ref (g.2.2.1 0)), (1, .int v1), (2, .int v2)]) hx hb dX10_copies_140 hl rfl (by rw [e140]; rfl) (by decide) rfl (fun ls hl => ?_)
      refine lv_goto (tgt := 107) hx hb dX10_copies_143 (by decide) ?_
      exact ih _ _ _ _ _ _ _ h w (lv_sub hl [1, 2, 3, 0] rfl)

set_option maxHeartbeats 4000000 in
set_option maxRecDepth 100000 in
theorem t_M_copies_71 {p : Program} {l : Launch} {e : Env} {s : State} {m : MethodId} {args : Array Value} {below : List Frame} {meth : Method} {c : Code} {g : fy_G} (C : fy_C g M_Y p s m args meth c yX10_copies.cls cX10_copies 4 none) {Sr : fy_S}  : ∀ (fu : Nat) (S : fy_S) (v1 : Int32) (v2 : Int32) (v3 : Int32) (H : Heap) (locs : List Loc) (ls : Array Slot), M_copies_71 fu S v1 v2 v3 = some Sr → fy_W g M_Y S s H locs → lv_has ls 4 [(0, .ref (g.2.2.1 0)), (1, .int v1), (2, .int v2), (3, .int v3)] → W p l e (fy_rm 1) s m args below meth c H locs 0 0 (MQ below (fy_QV g M_Y Sr) args s 0 0 (fy_A g M_Y)) (F0 m 71 ls []) := by
  obtain ⟨hx, hb, hr, hts, hown, hlk, hml, hK, hD, hE, hN⟩ := id C
  intro fu
  induction fu with
  | zero => intro S v1 v2 v3 H locs ls h; cases h
  | succ fu ih =>
    intro S v1 v2 v3 H locs ls h w  hl
    rw [M_copies_71] at h
    refine lv_iload_n hx hb dX10_copies_71 rfl (lv_at hl 3 rfl) ?_
    refine lv_bipush (v := (19 : Int32)) hx hb dX10_copies_72 (by decide) ?_
    refine lv_icmp_ge (tgt := 105) hx hb dX10_copies_74 (by decide) (fun hc => ?_) (fun hc => ?_)
    · have h := fy_if_t h hc
      refine lv_iconst (v := (0 : Int32)) hx hb dX10_copies_105 (by decide) ?_
      refine lv_istore_n (lv' := [(3, .int (0 : Int32)), (0, .ref (g.2.2.1 0)), (1, .int v1), (2, .int v2)]) hx hb dX10_copies_106 rfl hl (by decide) rfl (fun ls hl => ?_)
      exact t_M_copies_107 C fy_fu _ _ _ _ _ _ _ h w (lv_sub hl [1, 2, 3, 0] rfl)
    · have h := fy_if_f h hc
      refine lv_aload_n hx hb dX10_copies_77 rfl (lv_at hl 0 rfl) ?_
      refine gfX10_22 C w dX10_copies_78 ?_
      refine lv_bipush (v := (19 : Int32)) hx hb dX10_copies_81 (by decide) ?_
      refine lv_iload_n hx hb dX10_copies_83 rfl (lv_at hl 2 rfl) ?_
      refine lv_imul hx hb dX10_copies_84 ?_
      refine lv_iload_n hx hb dX10_copies_85 rfl (lv_at hl 3 rfl) ?_
      refine lv_iadd hx hb dX10_copies_86 ?_
      refine lv_aload_n hx hb dX10_copies_87 rfl (lv_at hl 0 rfl) ?_
      refine gfX10_22 C w dX10_copies_88 ?_
      refine lv_bipush (v := (19 : Int32)) hx hb dX10_copies_91 (by decide) ?_
      refine lv_iload_n hx hb dX10_copies_93 rfl (lv_at hl 1 rfl) ?_
      refine lv_imul hx hb dX10_copies_94 ?_
      refine lv_iload_n hx hb dX10_copies_95 rfl (lv_at hl 3 rfl) ?_
      refine lv_iadd hx hb dX10_copies_96 ?_
      obtain ⟨g97, h⟩ := fy_gd_some h
      refine fy_iald C w M_a5 g97 dX10_copies_97 ?_
      obtain ⟨g98, h⟩ := fy_gd_some h
      refine fy_iast C w M_a5 g98 dX10_copies_98 (fun H locs w => ?_)
      obtain ⟨S98, e98⟩ : ∃ z, z = fy_sI S 5 (((19 : Int32) * v2) + v3).toNatClampNeg (S.1 5 (((19 : Int32) * v1) + v3).toNatClampNeg) := ⟨_, rfl⟩
      have h := fy_bl_some e98 h
      rw [← e98] at w
      obtain ⟨x99, e99⟩ : ∃ z : Int32, z = v3 + (1 : Int32) := ⟨_, rfl⟩
      have h := fy_bl_some e99 h
      refine lv_iinc (k := 3) (v := x99) (lv' := [(3, .int x99), (0, .ref (g.2.2.1 0)), (1, .int v1), (2, .int v2)]) hx hb dX10_copies_99 hl rfl (by rw [e99]; rfl) (by decide) rfl (fun ls hl => ?_)
      refine lv_goto (tgt := 71) hx hb dX10_copies_102 (by decide) ?_
      exact ih _ _ _ _ _ _ _ h w (lv_sub hl [1, 2, 3, 0] rfl)

set_option maxHeartbeats 4000000 in
set_option maxRecDepth 100000 in
theorem t_M_copies_38 {p : Program} {l : Launch} {e : Env} {s : State} {m : MethodId} {args : Array Value} {below : List Frame} {meth : Method} {c : Code} {g : fy_G} (C : fy_C g M_Y p s m args meth c yX10_copies.cls cX10_copies 4 none) {Sr : fy_S}  : ∀ (fu : Nat) (S : fy_S) (v1 : Int32) (v2 : Int32) (v3 : Int32) (H : Heap) (locs : List Loc) (ls : Array Slot), M_copies_38 fu S v1 v2 v3 = some Sr → fy_W g M_Y S s H locs → lv_has ls 4 [(0, .ref (g.2.2.1 0)), (1, .int v1), (2, .int v2), (3, .int v3)] → W p l e (fy_rm 1) s m args below meth c H locs 0 0 (MQ below (fy_QV g M_Y Sr) args s 0 0 (fy_A g M_Y)) (F0 m 38 ls []) := by
  obtain ⟨hx, hb, hr, hts, hown, hlk, hml, hK, hD, hE, hN⟩ := id C
  intro fu
  induction fu with
  | zero => intro S v1 v2 v3 H locs ls h; cases h
  | succ fu ih =>
    intro S v1 v2 v3 H locs ls h w  hl
    rw [M_copies_38] at h
    refine lv_iload_n hx hb dX10_copies_38 rfl (lv_at hl 3 rfl) ?_
    refine lv_iconst (v := (3 : Int32)) hx hb dX10_copies_39 (by decide) ?_
    refine lv_icmp_ge (tgt := 69) hx hb dX10_copies_40 (by decide) (fun hc => ?_) (fun hc => ?_)
    · have h := fy_if_t h hc
      refine lv_iconst (v := (0 : Int32)) hx hb dX10_copies_69 (by decide) ?_
      refine lv_istore_n (lv' := [(3, .int (0 : Int32)), (0, .ref (g.2.2.1 0)), (1, .int v1), (2, .int v2)]) hx hb dX10_copies_70 rfl hl (by decide) rfl (fun ls hl => ?_)
      exact t_M_copies_71 C fy_fu _ _ _ _ _ _ _ h w (lv_sub hl [1, 2, 3, 0] rfl)
    · have h := fy_if_f h hc
      refine lv_aload_n hx hb dX10_copies_43 rfl (lv_at hl 0 rfl) ?_
      refine gfX10_19 C w dX10_copies_44 ?_
      refine lv_iconst (v := (3 : Int32)) hx hb dX10_copies_47 (by decide) ?_
      refine lv_iload_n hx hb dX10_copies_48 rfl (lv_at hl 2 rfl) ?_
      refine lv_imul hx hb dX10_copies_49 ?_
      refine lv_iload_n hx hb dX10_copies_50 rfl (lv_at hl 3 rfl) ?_
      refine lv_iadd hx hb dX10_copies_51 ?_
      refine lv_aload_n hx hb dX10_copies_52 rfl (lv_at hl 0 rfl) ?_
      refine gfX10_19 C w dX10_copies_53 ?_
      refine lv_iconst (v := (3 : Int32)) hx hb dX10_copies_56 (by decide) ?_
      refine lv_iload_n hx hb dX10_copies_57 rfl (lv_at hl 1 rfl) ?_
      refine lv_imul hx hb dX10_copies_58 ?_
      refine lv_iload_n hx hb dX10_copies_59 rfl (lv_at hl 3 rfl) ?_
      refine lv_iadd hx hb dX10_copies_60 ?_
      obtain ⟨g61, h⟩ := fy_gd_some h
      refine fy_iald C w M_a4 g61 dX10_copies_61 ?_
      obtain ⟨g62, h⟩ := fy_gd_some h
      refine fy_iast C w M_a4 g62 dX10_copies_62 (fun H locs w => ?_)
      obtain ⟨S62, e62⟩ : ∃ z, z = fy_sI S 4 (((3 : Int32) * v2) + v3).toNatClampNeg (S.1 4 (((3 : Int32) * v1) + v3).toNatClampNeg) := ⟨_, rfl⟩
      have h := fy_bl_some e62 h
      rw [← e62] at w
      obtain ⟨x63, e63⟩ : ∃ z : Int32, z = v3 + (1 : Int32) := ⟨_, rfl⟩
      have h := fy_bl_some e63 h
      refine lv_iinc (k := 3) (v := x63) (lv' := [(3, .int x63), (0, .ref (g.2.2.1 0)), (1, .int v1), (2, .int v2)]) hx hb dX10_copies_63 hl rfl (by rw [e63]; rfl) (by decide) rfl (fun ls hl => ?_)
      refine lv_goto (tgt := 38) hx hb dX10_copies_66 (by decide) ?_
      exact ih _ _ _ _ _ _ _ h w (lv_sub hl [1, 2, 3, 0] rfl)

set_option maxHeartbeats 4000000 in
set_option maxRecDepth 100000 in
theorem t_M_copies {p : Program} {l : Launch} {e : Env} {s : State} {m : MethodId} {args : Array Value} {below : List Frame} {meth : Method} {c : Code} {g : fy_G} (C : fy_C g M_Y p s m args meth c yX10_copies.cls cX10_copies 4 none) {S : fy_S} {v1 : Int32} {v2 : Int32} {Sr : fy_S}   {H : Heap} {locs : List Loc} {ls : Array Slot} (h : M_copies S v1 v2 = some Sr) (w : fy_W g M_Y S s H locs) (hl : lv_has ls 4 [(0, .ref (g.2.2.1 0)), (1, .int v1), (2, .int v2)]) : W p l e (fy_rm 1) s m args below meth c H locs 0 0 (MQ below (fy_QV g M_Y Sr) args s 0 0 (fy_A g M_Y)) (F0 m 0 ls []) := by
  obtain ⟨hx, hb, hr, hts, hown, hlk, hml, hK, hD, hE, hN⟩ := id C
  rw [M_copies] at h
  refine lv_aload_n hx hb dX10_copies_0 rfl (lv_at hl 0 rfl) ?_
  refine gfX10_7 C w dX10_copies_1 ?_
  refine lv_iload_n hx hb dX10_copies_4 rfl (lv_at hl 2 rfl) ?_
  refine lv_aload_n hx hb dX10_copies_5 rfl (lv_at hl 0 rfl) ?_
  refine gfX10_7 C w dX10_copies_6 ?_
  refine lv_iload_n hx hb dX10_copies_9 rfl (lv_at hl 1 rfl) ?_
  obtain ⟨g10, h⟩ := fy_gd_some h
  refine fy_iald C w M_a1 g10 dX10_copies_10 ?_
  obtain ⟨g11, h⟩ := fy_gd_some h
  refine fy_iast C w M_a1 g11 dX10_copies_11 (fun H locs w => ?_)
  obtain ⟨S11, e11⟩ : ∃ z, z = fy_sI S 1 v2.toNatClampNeg (S.1 1 v1.toNatClampNeg) := ⟨_, rfl⟩
  have h := fy_bl_some e11 h
  rw [← e11] at w
  refine lv_aload_n hx hb dX10_copies_12 rfl (lv_at hl 0 rfl) ?_
  refine gfX10_13 C w dX10_copies_13 ?_
  refine lv_iload_n hx hb dX10_copies_16 rfl (lv_at hl 2 rfl) ?_
  refine lv_aload_n hx hb dX10_copies_17 rfl (lv_at hl 0 rfl) ?_
  refine gfX10_13 C w dX10_copies_18 ?_
  refine lv_iload_n hx hb dX10_copies_21 rfl (lv_at hl 1 rfl) ?_
  obtain ⟨g22, h⟩ := fy_gd_some h
  refine fy_iald C w M_a2 g22 dX10_copies_22 ?_
  obtain ⟨g23, h⟩ := fy_gd_some h
  refine fy_iast C w M_a2 g23 dX10_copies_23 (fun H locs w => ?_)
  obtain ⟨S23, e23⟩ : ∃ z, z = fy_sI S11 2 v2.toNatClampNeg (S11.1 2 v1.toNatClampNeg) := ⟨_, rfl⟩
  have h := fy_bl_some e23 h
  rw [← e23] at w
  refine lv_aload_n hx hb dX10_copies_24 rfl (lv_at hl 0 rfl) ?_
  refine gfX10_16 C w dX10_copies_25 ?_
  refine lv_iload_n hx hb dX10_copies_28 rfl (lv_at hl 2 rfl) ?_
  refine lv_aload_n hx hb dX10_copies_29 rfl (lv_at hl 0 rfl) ?_
  refine gfX10_16 C w dX10_copies_30 ?_
  refine lv_iload_n hx hb dX10_copies_33 rfl (lv_at hl 1 rfl) ?_
  obtain ⟨g34, h⟩ := fy_gd_some h
  refine fy_iald C w M_a3 g34 dX10_copies_34 ?_
  obtain ⟨g35, h⟩ := fy_gd_some h
  refine fy_iast C w M_a3 g35 dX10_copies_35 (fun H locs w => ?_)
  obtain ⟨S35, e35⟩ : ∃ z, z = fy_sI S23 3 v2.toNatClampNeg (S23.1 3 v1.toNatClampNeg) := ⟨_, rfl⟩
  have h := fy_bl_some e35 h
  rw [← e35] at w
  refine lv_iconst (v := (0 : Int32)) hx hb dX10_copies_36 (by decide) ?_
  refine lv_istore_n (lv' := [(3, .int (0 : Int32)), (0, .ref (g.2.2.1 0)), (1, .int v1), (2, .int v2)]) hx hb dX10_copies_37 rfl hl (by decide) rfl (fun ls hl => ?_)
  exact t_M_copies_38 C fy_fu _ _ _ _ _ _ _ h w (lv_sub hl [1, 2, 3, 0] rfl)

set_option maxHeartbeats 4000000 in
set_option maxRecDepth 100000 in
theorem c_M_copies (l : Launch) (g : fy_G) {S : fy_S} {v1 : Int32} {v2 : Int32} {Sr : fy_S}   (h : M_copies S v1 v2 = some Sr) : fy_M g M_Y l yX10_copies cX10_copies 4 none (fy_rm 1) [.ref (g.2.2.1 0), .int v1, .int v2] S (fy_QV g M_Y Sr) :=
  fy_entry (by decide +kernel) (Nat.le_of_ble_eq_true rfl) (fun p e s m args below meth c ls C w hl => t_M_copies C  h w hl)
def M_dualOf (S : fy_S) (v0 : Int32) : Option (Int32) :=
  if v0 = (8 : Int32) then (
    some (9 : Int32))
  else (
    if v0 = (9 : Int32) then (
      some (8 : Int32))
    else (
      if v0 = (10 : Int32) then (
        some (11 : Int32))
      else (
        if v0 = (11 : Int32) then (
          some (10 : Int32))
        else (
          some v0))))
set_option maxHeartbeats 4000000 in
set_option maxRecDepth 100000 in
theorem t_M_dualOf {p : Program} {l : Launch} {e : Env} {s : State} {m : MethodId} {args : Array Value} {below : List Frame} {meth : Method} {c : Code} {g : fy_G} (C : fy_C g M_Y p s m args meth c yX10_dualOf.cls cX10_dualOf 1 (some .int)) {S : fy_S} {v0 : Int32} {rr : Int32}  {H : Heap} {locs : List Loc} {ls : Array Slot} (h : M_dualOf S v0 = some rr) (w : fy_W g M_Y S s H locs) (hl : lv_has ls 1 [(0, .int v0)]) : W p l e (fy_rm 0) s m args below meth c H locs 0 0 (MQ below (fy_QI g M_Y rr S) args s 0 0 (fy_A g M_Y)) (F0 m 0 ls []) := by
  obtain ⟨hx, hb, hr, hts, hown, hlk, hml, hK, hD, hE, hN⟩ := id C
  rw [M_dualOf] at h
  refine lv_iload_n hx hb dX10_dualOf_0 rfl (lv_at hl 0 rfl) ?_
  refine lv_bipush (v := (8 : Int32)) hx hb dX10_dualOf_1 (by decide) ?_
  refine lv_icmp_ne (tgt := 11) hx hb dX10_dualOf_3 (by decide) (fun hc => ?_) (fun hc => ?_)
  · have h := fy_if_f h hc
    refine lv_iload_n hx hb dX10_dualOf_11 rfl (lv_at hl 0 rfl) ?_
    refine lv_bipush (v := (9 : Int32)) hx hb dX10_dualOf_12 (by decide) ?_
    refine lv_icmp_ne (tgt := 22) hx hb dX10_dualOf_14 (by decide) (fun hc => ?_) (fun hc => ?_)
    · have h := fy_if_f h hc
      refine lv_iload_n hx hb dX10_dualOf_22 rfl (lv_at hl 0 rfl) ?_
      refine lv_bipush (v := (10 : Int32)) hx hb dX10_dualOf_23 (by decide) ?_
      refine lv_icmp_ne (tgt := 33) hx hb dX10_dualOf_25 (by decide) (fun hc => ?_) (fun hc => ?_)
      · have h := fy_if_f h hc
        refine lv_iload_n hx hb dX10_dualOf_33 rfl (lv_at hl 0 rfl) ?_
        refine lv_bipush (v := (11 : Int32)) hx hb dX10_dualOf_34 (by decide) ?_
        refine lv_icmp_ne (tgt := 44) hx hb dX10_dualOf_36 (by decide) (fun hc => ?_) (fun hc => ?_)
        · have h := fy_if_f h hc
          refine lv_iload_n hx hb dX10_dualOf_44 rfl (lv_at hl 0 rfl) ?_
          cases h
          exact fy_retI C w dX10_dualOf_45
        · have h := fy_if_t h hc
          refine lv_bipush (v := (10 : Int32)) hx hb dX10_dualOf_39 (by decide) ?_
          refine lv_goto (tgt := 45) hx hb dX10_dualOf_41 (by decide) ?_
          cases h
          exact fy_retI C w dX10_dualOf_45
      · have h := fy_if_t h hc
        refine lv_bipush (v := (11 : Int32)) hx hb dX10_dualOf_28 (by decide) ?_
        refine lv_goto (tgt := 45) hx hb dX10_dualOf_30 (by decide) ?_
        cases h
        exact fy_retI C w dX10_dualOf_45
    · have h := fy_if_t h hc
      refine lv_bipush (v := (8 : Int32)) hx hb dX10_dualOf_17 (by decide) ?_
      refine lv_goto (tgt := 45) hx hb dX10_dualOf_19 (by decide) ?_
      cases h
      exact fy_retI C w dX10_dualOf_45
  · have h := fy_if_t h hc
    refine lv_bipush (v := (9 : Int32)) hx hb dX10_dualOf_6 (by decide) ?_
    refine lv_goto (tgt := 45) hx hb dX10_dualOf_8 (by decide) ?_
    cases h
    exact fy_retI C w dX10_dualOf_45

set_option maxHeartbeats 4000000 in
set_option maxRecDepth 100000 in
theorem c_M_dualOf (l : Launch) (g : fy_G) {S : fy_S} {v0 : Int32} {rr : Int32}  (h : M_dualOf S v0 = some rr) : fy_M g M_Y l yX10_dualOf cX10_dualOf 1 (some .int) (fy_rm 0) [.int v0] S (fy_QI g M_Y rr S) :=
  fy_entry (by decide +kernel) (Nat.le_of_ble_eq_true rfl) (fun p e s m args below meth c ls C w hl => t_M_dualOf C  h w hl)
def M_dualize_54 (k45 : fy_S → Int32 → Int32 → Option (fy_S × Int32)) : Nat → fy_S → Int32 → Int32 → Int32 → Option (fy_S × Int32)
  | 0, _, _, _, _ => none
  | fu + 1, S, v2, v3, v4 =>
    fy_bd (M_sizeOf S v2 v3) fun r59 =>
    if r59 ≤ v4 then (
      fy_bl (v3 + (1 : Int32)) fun x102 =>
      k45 S v2 x102)
    else (
      fy_bd (M_at S v2 v3) fun r72 =>
      fy_bd (M_at S v2 v3) fun r85 =>
      fy_gd (fy_ix (r85 + v4) 5320) <|
      fy_bd (M_dualOf S (S.1 6 (r85 + v4).toNatClampNeg)) fun r92 =>
      fy_gd (fy_ix (r72 + v4) 5320) <|
      fy_bl (fy_sI S 6 (r72 + v4).toNatClampNeg r92) fun S95 =>
      fy_bl (v4 + (1 : Int32)) fun x96 =>
      M_dualize_54 k45 fu S95 v2 v3 x96)
def M_dualize_45 : Nat → fy_S → Int32 → Int32 → Option (fy_S × Int32)
  | 0, _, _, _ => none
  | fu + 1, S, v2, v3 =>
    if (19 : Int32) ≤ v3 then (
      fy_gd (fy_ix v2 7) <|
      some (S, (S.1 3 v2.toNatClampNeg)))
    else (
      M_dualize_54 (fun S v2 v3 => M_dualize_45 fu S v2 v3) fy_fu S v2 v3 (0 : Int32))
def M_dualize (S : fy_S) (v1 : Int32) (v2 : Int32) : Option (fy_S × Int32) :=
  fy_bd (M_isSlot S v1) fun r1 =>
  if r1 = 0 then (
    some (S, (-2 : Int32)))
  else (
    fy_bd (M_isSlot S v2) fun r8 =>
    if r8 = 0 then (
      some (S, (-2 : Int32)))
    else (
      fy_bd (M_copies S v1 v2) fun S20 =>
      fy_bd (M_allOf S20 v2) fun r30 =>
      fy_gd (fy_ix v2 7) <|
      fy_gd (fy_ix v2 7) <|
      fy_bl (fy_sI S20 3 v2.toNatClampNeg (r30 &&& ((S20.1 3 v2.toNatClampNeg) ^^^ (-1 : Int32)))) fun S42 =>
      M_dualize_45 fy_fu S42 v2 (0 : Int32)))
set_option maxHeartbeats 4000000 in
set_option maxRecDepth 100000 in
theorem t_M_dualize_54 {p : Program} {l : Launch} {e : Env} {s : State} {m : MethodId} {args : Array Value} {below : List Frame} {meth : Method} {c : Code} {g : fy_G} (C : fy_C g M_Y p s m args meth c yX10_dualize.cls cX10_dualize 5 (some .int)) {Sr : fy_S} {rr : Int32} {k45 : fy_S → Int32 → Int32 → Option (fy_S × Int32)} (hk45 : ∀ (S : fy_S) (v2 : Int32) (v3 : Int32) (H : Heap) (locs : List Loc) (ls : Array Slot), k45 S v2 v3 = some (Sr, rr) → fy_W g M_Y S s H locs → lv_has ls 5 [(0, .ref (g.2.2.1 0)), (2, .int v2), (3, .int v3)] → W p l e (fy_rm 2) s m args below meth c H locs 0 0 (MQ below (fy_QI g M_Y rr Sr) args s 0 0 (fy_A g M_Y)) (F0 m 45 ls [])) : ∀ (fu : Nat) (S : fy_S) (v2 : Int32) (v3 : Int32) (v4 : Int32) (H : Heap) (locs : List Loc) (ls : Array Slot), M_dualize_54 k45 fu S v2 v3 v4 = some (Sr, rr) → fy_W g M_Y S s H locs → lv_has ls 5 [(0, .ref (g.2.2.1 0)), (2, .int v2), (3, .int v3), (4, .int v4)] → W p l e (fy_rm 2) s m args below meth c H locs 0 0 (MQ below (fy_QI g M_Y rr Sr) args s 0 0 (fy_A g M_Y)) (F0 m 54 ls []) := by
  obtain ⟨hx, hb, hr, hts, hown, hlk, hml, hK, hD, hE, hN⟩ := id C
  intro fu
  induction fu with
  | zero => intro S v2 v3 v4 H locs ls h; cases h
  | succ fu ih =>
    intro S v2 v3 v4 H locs ls h w  hl
    rw [M_dualize_54] at h
    refine lv_iload hx hb dX10_dualize_54 (lv_at hl 3 rfl) ?_
    refine lv_aload_n hx hb dX10_dualize_56 rfl (lv_at hl 0 rfl) ?_
    refine lv_iload_n hx hb dX10_dualize_57 rfl (lv_at hl 1 rfl) ?_
    refine lv_iload_n hx hb dX10_dualize_58 rfl (lv_at hl 2 rfl) ?_
    obtain ⟨r59, h59, h⟩ := fy_bd_some h
    refine fy_calI w (fy_runV (As := [.int v2, .int v3]) (rest := [.int v4]) C w (c_M_sizeOf l g  h59) M_o ksX10_196 rfl ⟨Nat.le_of_ble_eq_true rfl, Nat.le_of_ble_eq_true rfl⟩ rfl hl.1 rfl (Nat.le_of_ble_eq_true rfl) ⟨Nat.le_refl _, Nat.le_refl _⟩ dX10_dualize_59) (fun H locs w => ?_)
    refine lv_icmp_ge (tgt := 102) hx hb dX10_dualize_62 (by decide) (fun hc => ?_) (fun hc => ?_)
    · have h := fy_if_t h hc
      obtain ⟨x102, e102⟩ : ∃ z : Int32, z = v3 + (1 : Int32) := ⟨_, rfl⟩
      have h := fy_bl_some e102 h
      refine lv_iinc (k := 2) (v := x102) (lv' := [(3, .int x102), (0, .ref (g.2.2.1 0)), (2, .int v2), (4, .int v4)]) hx hb dX10_dualize_102 hl rfl (by rw [e102]; rfl) (by decide) rfl (fun ls hl => ?_)
      refine lv_goto (tgt := 45) hx hb dX10_dualize_105 (by decide) ?_
      exact hk45 _ _ _ _ _ _ h w (lv_sub hl [1, 2, 0] rfl)
    · have h := fy_if_f h hc
      refine lv_aload_n hx hb dX10_dualize_65 rfl (lv_at hl 0 rfl) ?_
      refine gfX10_25 C w dX10_dualize_66 ?_
      refine lv_aload_n hx hb dX10_dualize_69 rfl (lv_at hl 0 rfl) ?_
      refine lv_iload_n hx hb dX10_dualize_70 rfl (lv_at hl 1 rfl) ?_
      refine lv_iload_n hx hb dX10_dualize_71 rfl (lv_at hl 2 rfl) ?_
      obtain ⟨r72, h72, h⟩ := fy_bd_some h
      refine fy_calI w (fy_runV (As := [.int v2, .int v3]) (rest := [.ref (g.2.2.1 6)]) C w (c_M_at l g  h72) M_o ksX10_119 rfl ⟨Nat.le_of_ble_eq_true rfl, Nat.le_of_ble_eq_true rfl⟩ rfl hl.1 rfl (Nat.le_of_ble_eq_true rfl) ⟨Nat.le_refl _, Nat.le_refl _⟩ dX10_dualize_72) (fun H locs w => ?_)
      refine lv_iload hx hb dX10_dualize_75 (lv_at hl 3 rfl) ?_
      refine lv_iadd hx hb dX10_dualize_77 ?_
      refine lv_aload_n hx hb dX10_dualize_78 rfl (lv_at hl 0 rfl) ?_
      refine gfX10_25 C w dX10_dualize_79 ?_
      refine lv_aload_n hx hb dX10_dualize_82 rfl (lv_at hl 0 rfl) ?_
      refine lv_iload_n hx hb dX10_dualize_83 rfl (lv_at hl 1 rfl) ?_
      refine lv_iload_n hx hb dX10_dualize_84 rfl (lv_at hl 2 rfl) ?_
      obtain ⟨r85, h85, h⟩ := fy_bd_some h
      refine fy_calI w (fy_runV (As := [.int v2, .int v3]) (rest := [.ref (g.2.2.1 6), .int (r72 + v4), .ref (g.2.2.1 6)]) C w (c_M_at l g  h85) M_o ksX10_119 rfl ⟨Nat.le_of_ble_eq_true rfl, Nat.le_of_ble_eq_true rfl⟩ rfl hl.1 rfl (Nat.le_of_ble_eq_true rfl) ⟨Nat.le_refl _, Nat.le_refl _⟩ dX10_dualize_85) (fun H locs w => ?_)
      refine lv_iload hx hb dX10_dualize_88 (lv_at hl 3 rfl) ?_
      refine lv_iadd hx hb dX10_dualize_90 ?_
      obtain ⟨g91, h⟩ := fy_gd_some h
      refine fy_iald C w M_a6 g91 dX10_dualize_91 ?_
      obtain ⟨r92, h92, h⟩ := fy_bd_some h
      refine fy_calI w (fy_runS (As := [.int (S.1 6 (r85 + v4).toNatClampNeg)]) (rest := [.int (r72 + v4), .ref (g.2.2.1 6)]) C w (c_M_dualOf l g  h92) ksX10_316 ⟨Nat.le_of_ble_eq_true rfl, Nat.le_of_ble_eq_true rfl⟩ rfl hl.1 rfl (Nat.le_of_ble_eq_true rfl) ⟨Nat.le_refl _, Nat.le_refl _⟩ dX10_dualize_92) (fun H locs w => ?_)
      obtain ⟨g95, h⟩ := fy_gd_some h
      refine fy_iast C w M_a6 g95 dX10_dualize_95 (fun H locs w => ?_)
      obtain ⟨S95, e95⟩ : ∃ z, z = fy_sI S 6 (r72 + v4).toNatClampNeg r92 := ⟨_, rfl⟩
      have h := fy_bl_some e95 h
      rw [← e95] at w
      obtain ⟨x96, e96⟩ : ∃ z : Int32, z = v4 + (1 : Int32) := ⟨_, rfl⟩
      have h := fy_bl_some e96 h
      refine lv_iinc (k := 3) (v := x96) (lv' := [(4, .int x96), (0, .ref (g.2.2.1 0)), (2, .int v2), (3, .int v3)]) hx hb dX10_dualize_96 hl rfl (by rw [e96]; rfl) (by decide) rfl (fun ls hl => ?_)
      refine lv_goto (tgt := 54) hx hb dX10_dualize_99 (by decide) ?_
      exact ih _ _ _ _ _ _ _ h w (lv_sub hl [1, 2, 3, 0] rfl)

set_option maxHeartbeats 4000000 in
set_option maxRecDepth 100000 in
theorem t_M_dualize_45 {p : Program} {l : Launch} {e : Env} {s : State} {m : MethodId} {args : Array Value} {below : List Frame} {meth : Method} {c : Code} {g : fy_G} (C : fy_C g M_Y p s m args meth c yX10_dualize.cls cX10_dualize 5 (some .int)) {Sr : fy_S} {rr : Int32} : ∀ (fu : Nat) (S : fy_S) (v2 : Int32) (v3 : Int32) (H : Heap) (locs : List Loc) (ls : Array Slot), M_dualize_45 fu S v2 v3 = some (Sr, rr) → fy_W g M_Y S s H locs → lv_has ls 5 [(0, .ref (g.2.2.1 0)), (2, .int v2), (3, .int v3)] → W p l e (fy_rm 2) s m args below meth c H locs 0 0 (MQ below (fy_QI g M_Y rr Sr) args s 0 0 (fy_A g M_Y)) (F0 m 45 ls []) := by
  obtain ⟨hx, hb, hr, hts, hown, hlk, hml, hK, hD, hE, hN⟩ := id C
  intro fu
  induction fu with
  | zero => intro S v2 v3 H locs ls h; cases h
  | succ fu ih =>
    intro S v2 v3 H locs ls h w  hl
    rw [M_dualize_45] at h
    refine lv_iload_n hx hb dX10_dualize_45 rfl (lv_at hl 2 rfl) ?_
    refine lv_bipush (v := (19 : Int32)) hx hb dX10_dualize_46 (by decide) ?_
    refine lv_icmp_ge (tgt := 108) hx hb dX10_dualize_48 (by decide) (fun hc => ?_) (fun hc => ?_)
    · have h := fy_if_t h hc
      refine lv_aload_n hx hb dX10_dualize_108 rfl (lv_at hl 0 rfl) ?_
      refine gfX10_16 C w dX10_dualize_109 ?_
      refine lv_iload_n hx hb dX10_dualize_112 rfl (lv_at hl 1 rfl) ?_
      obtain ⟨g113, h⟩ := fy_gd_some h
      refine fy_iald C w M_a3 g113 dX10_dualize_113 ?_
      cases h
      exact fy_retI C w dX10_dualize_114
    · have h := fy_if_f h hc
      refine lv_iconst (v := (0 : Int32)) hx hb dX10_dualize_51 (by decide) ?_
      refine lv_istore (lv' := [(4, .int (0 : Int32)), (0, .ref (g.2.2.1 0)), (2, .int v2), (3, .int v3)]) hx hb dX10_dualize_52 hl (by decide) rfl (fun ls hl => ?_)
      exact t_M_dualize_54 C ih fy_fu _ _ _ _ _ _ _ h w (lv_sub hl [1, 2, 3, 0] rfl)

set_option maxHeartbeats 4000000 in
set_option maxRecDepth 100000 in
theorem t_M_dualize {p : Program} {l : Launch} {e : Env} {s : State} {m : MethodId} {args : Array Value} {below : List Frame} {meth : Method} {c : Code} {g : fy_G} (C : fy_C g M_Y p s m args meth c yX10_dualize.cls cX10_dualize 5 (some .int)) {S : fy_S} {v1 : Int32} {v2 : Int32} {Sr : fy_S} {rr : Int32}  {H : Heap} {locs : List Loc} {ls : Array Slot} (h : M_dualize S v1 v2 = some (Sr, rr)) (w : fy_W g M_Y S s H locs) (hl : lv_has ls 5 [(0, .ref (g.2.2.1 0)), (1, .int v1), (2, .int v2)]) : W p l e (fy_rm 2) s m args below meth c H locs 0 0 (MQ below (fy_QI g M_Y rr Sr) args s 0 0 (fy_A g M_Y)) (F0 m 0 ls []) := by
  obtain ⟨hx, hb, hr, hts, hown, hlk, hml, hK, hD, hE, hN⟩ := id C
  rw [M_dualize] at h
  refine lv_iload_n hx hb dX10_dualize_0 rfl (lv_at hl 1 rfl) ?_
  obtain ⟨r1, h1, h⟩ := fy_bd_some h
  refine fy_calI w (fy_runS (As := [.int v1]) (rest := []) C w (c_M_isSlot l g  h1) ksX10_123 ⟨Nat.le_of_ble_eq_true rfl, Nat.le_of_ble_eq_true rfl⟩ rfl hl.1 rfl (Nat.le_of_ble_eq_true rfl) ⟨Nat.le_refl _, Nat.le_refl _⟩ dX10_dualize_1) (fun H locs w => ?_)
  refine lv_if_eq (tgt := 14) hx hb dX10_dualize_4 (by decide) (fun hc => ?_) (fun hc => ?_)
  · have h := fy_if_t h hc
    refine lv_bipush (v := (-2 : Int32)) hx hb dX10_dualize_14 (by decide) ?_
    cases h
    exact fy_retI C w dX10_dualize_16
  · have h := fy_if_f h hc
    refine lv_iload_n hx hb dX10_dualize_7 rfl (lv_at hl 2 rfl) ?_
    obtain ⟨r8, h8, h⟩ := fy_bd_some h
    refine fy_calI w (fy_runS (As := [.int v2]) (rest := []) C w (c_M_isSlot l g  h8) ksX10_123 ⟨Nat.le_of_ble_eq_true rfl, Nat.le_of_ble_eq_true rfl⟩ rfl hl.1 rfl (Nat.le_of_ble_eq_true rfl) ⟨Nat.le_refl _, Nat.le_refl _⟩ dX10_dualize_8) (fun H locs w => ?_)
    refine lv_if_ne (tgt := 17) hx hb dX10_dualize_11 (by decide) (fun hc => ?_) (fun hc => ?_)
    · have h := fy_if_f h hc
      refine lv_aload_n hx hb dX10_dualize_17 rfl (lv_at hl 0 rfl) ?_
      refine lv_iload_n hx hb dX10_dualize_18 rfl (lv_at hl 1 rfl) ?_
      refine lv_iload_n hx hb dX10_dualize_19 rfl (lv_at hl 2 rfl) ?_
      obtain ⟨S20, h20, h⟩ := fy_bd_some h
      refine fy_calV w (fy_runV (As := [.int v1, .int v2]) (rest := []) C w (c_M_copies l g  h20) M_o ksX10_313 rfl ⟨Nat.le_of_ble_eq_true rfl, Nat.le_of_ble_eq_true rfl⟩ rfl hl.1 rfl (Nat.le_of_ble_eq_true rfl) ⟨Nat.le_refl _, Nat.le_refl _⟩ dX10_dualize_20) (fun H locs w => ?_)
      refine lv_aload_n hx hb dX10_dualize_23 rfl (lv_at hl 0 rfl) ?_
      refine gfX10_16 C w dX10_dualize_24 ?_
      refine lv_iload_n hx hb dX10_dualize_27 rfl (lv_at hl 2 rfl) ?_
      refine lv_aload_n hx hb dX10_dualize_28 rfl (lv_at hl 0 rfl) ?_
      refine lv_iload_n hx hb dX10_dualize_29 rfl (lv_at hl 2 rfl) ?_
      obtain ⟨r30, h30, h⟩ := fy_bd_some h
      refine fy_calI w (fy_runV (As := [.int v2]) (rest := [.int v2, .ref (g.2.2.1 3)]) C w (c_M_allOf l g  h30) M_o ksX10_115 rfl ⟨Nat.le_of_ble_eq_true rfl, Nat.le_of_ble_eq_true rfl⟩ rfl hl.1 rfl (Nat.le_of_ble_eq_true rfl) ⟨Nat.le_refl _, Nat.le_refl _⟩ dX10_dualize_30) (fun H locs w => ?_)
      refine lv_aload_n hx hb dX10_dualize_33 rfl (lv_at hl 0 rfl) ?_
      refine gfX10_16 C w dX10_dualize_34 ?_
      refine lv_iload_n hx hb dX10_dualize_37 rfl (lv_at hl 2 rfl) ?_
      obtain ⟨g38, h⟩ := fy_gd_some h
      refine fy_iald C w M_a3 g38 dX10_dualize_38 ?_
      refine lv_iconst (v := (-1 : Int32)) hx hb dX10_dualize_39 (by decide) ?_
      refine lv_ixor hx hb dX10_dualize_40 ?_
      refine lv_iand hx hb dX10_dualize_41 ?_
      obtain ⟨g42, h⟩ := fy_gd_some h
      refine fy_iast C w M_a3 g42 dX10_dualize_42 (fun H locs w => ?_)
      obtain ⟨S42, e42⟩ : ∃ z, z = fy_sI S20 3 v2.toNatClampNeg (r30 &&& ((S20.1 3 v2.toNatClampNeg) ^^^ (-1 : Int32))) := ⟨_, rfl⟩
      have h := fy_bl_some e42 h
      rw [← e42] at w
      refine lv_iconst (v := (0 : Int32)) hx hb dX10_dualize_43 (by decide) ?_
      refine lv_istore_n (lv' := [(3, .int (0 : Int32)), (0, .ref (g.2.2.1 0)), (1, .int v1), (2, .int v2)]) hx hb dX10_dualize_44 rfl hl (by decide) rfl (fun ls hl => ?_)
      exact t_M_dualize_45 C fy_fu _ _ _ _ _ _ h w (lv_sub hl [1, 3, 0] rfl)
    · have h := fy_if_t h hc
      refine lv_bipush (v := (-2 : Int32)) hx hb dX10_dualize_14 (by decide) ?_
      cases h
      exact fy_retI C w dX10_dualize_16

set_option maxHeartbeats 4000000 in
set_option maxRecDepth 100000 in
theorem c_M_dualize (l : Launch) (g : fy_G) {S : fy_S} {v1 : Int32} {v2 : Int32} {Sr : fy_S} {rr : Int32}  (h : M_dualize S v1 v2 = some (Sr, rr)) : fy_M g M_Y l yX10_dualize cX10_dualize 5 (some .int) (fy_rm 2) [.ref (g.2.2.1 0), .int v1, .int v2] S (fy_QI g M_Y rr Sr) :=
  fy_entry (by decide +kernel) (Nat.le_of_ble_eq_true rfl) (fun p e s m args below meth c ls C w hl => t_M_dualize C  h w hl)
end
