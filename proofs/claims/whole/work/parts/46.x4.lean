noncomputable section
def X5_leafValue (S : fy_S) (v1 : Int32) (v2 : Int32) : Option (Int32) :=
  if (6 : Int32) ≤ v1 then (
    if v1 = (6 : Int32) then (
      some (0 : Int32))
    else (
      some (10000 : Int32)))
  else (
    fy_bd (X5_valueAt S v2 v1) fun r9 =>
    some r9)
set_option maxHeartbeats 4000000 in
set_option maxRecDepth 100000 in
theorem t_X5_leafValue {p : Program} {l : Launch} {e : Env} {s : State} {m : MethodId} {args : Array Value} {below : List Frame} {meth : Method} {c : Code} {g : fy_G} (C : fy_C g X_Y p s m args meth c yX5_leafValue.cls cX5_leafValue 3 (some .int)) {S : fy_S} {v1 : Int32} {v2 : Int32} {rr : Int32}  {H : Heap} {locs : List Loc} {ls : Array Slot} (h : X5_leafValue S v1 v2 = some rr) (w : fy_W g X_Y S s H locs) (hl : lv_has ls 3 [(0, .ref (g.2.2.1 16)), (1, .int v1), (2, .int v2)]) : W p l e (fy_rm 2) s m args below meth c H locs 0 0 (MQ below (fy_QI g X_Y rr S) args s 0 0 (fy_A g X_Y)) (F0 m 0 ls []) := by
  obtain ⟨hx, hb, hr, hts, hown, hlk, hml, hK, hD, hE, hN⟩ := id C
  rw [X5_leafValue] at h
  refine lv_iload_n hx hb dX5_leafValue_0 rfl (lv_at hl 1 rfl) ?_
  refine lv_bipush (v := (6 : Int32)) hx hb dX5_leafValue_1 (by decide) ?_
  refine lv_icmp_ge (tgt := 13) hx hb dX5_leafValue_3 (by decide) (fun hc => ?_) (fun hc => ?_)
  · have h := fy_if_t h hc
    refine lv_iload_n hx hb dX5_leafValue_13 rfl (lv_at hl 1 rfl) ?_
    refine lv_bipush (v := (6 : Int32)) hx hb dX5_leafValue_14 (by decide) ?_
    refine lv_icmp_ne (tgt := 23) hx hb dX5_leafValue_16 (by decide) (fun hc => ?_) (fun hc => ?_)
    · have h := fy_if_f h hc
      refine lv_sipush (v := (10000 : Int32)) hx hb dX5_leafValue_23 (by decide) ?_
      cases h
      exact fy_retI C w dX5_leafValue_26
    · have h := fy_if_t h hc
      refine lv_iconst (v := (0 : Int32)) hx hb dX5_leafValue_19 (by decide) ?_
      refine lv_goto (tgt := 26) hx hb dX5_leafValue_20 (by decide) ?_
      cases h
      exact fy_retI C w dX5_leafValue_26
  · have h := fy_if_f h hc
    refine lv_aload_n hx hb dX5_leafValue_6 rfl (lv_at hl 0 rfl) ?_
    refine lv_iload_n hx hb dX5_leafValue_7 rfl (lv_at hl 2 rfl) ?_
    refine lv_iload_n hx hb dX5_leafValue_8 rfl (lv_at hl 1 rfl) ?_
    obtain ⟨r9, h9, h⟩ := fy_bd_some h
    refine fy_calI w (fy_runV (As := [.int v2, .int v1]) (rest := []) C w (c_X5_valueAt l g  h9) (X_o5 X_full (X_i16)) ksX5_70 rfl ⟨Nat.le_of_ble_eq_true rfl, Nat.le_of_ble_eq_true rfl⟩ rfl hl.1 rfl (Nat.le_of_ble_eq_true rfl) ⟨Nat.le_refl _, Nat.le_refl _⟩ dX5_leafValue_9) (fun H locs w => ?_)
    cases h
    exact fy_retI C w dX5_leafValue_12

set_option maxHeartbeats 4000000 in
set_option maxRecDepth 100000 in
theorem c_X5_leafValue (l : Launch) (g : fy_G) {S : fy_S} {v1 : Int32} {v2 : Int32} {rr : Int32}  (h : X5_leafValue S v1 v2 = some rr) : fy_M g X_Y l yX5_leafValue cX5_leafValue 3 (some .int) (fy_rm 2) [.ref (g.2.2.1 16), .int v1, .int v2] S (fy_QI g X_Y rr S) :=
  fy_entry (by decide +kernel) (Nat.le_of_ble_eq_true rfl) (fun p e s m args below meth c ls C w hl => t_X5_leafValue C  h w hl)
def X5_joinParts_137 (S : fy_S) (z0 : Int32) (z1 : Int32) : Option (fy_S) :=
  fy_gd (fy_ix z1 40) <|
  fy_bl (fy_sI S 18 z1.toNatClampNeg (z0 + (1 : Int32))) fun S139 =>
  some S139
def X5_joinParts_120 (S : fy_S) (v2 : Int32) (v4 : Int32) (v5 : Int32) (v6 : Int32) : Option (fy_S) :=
  if v6 = 0 then (
    X5_joinParts_137 S v4 v2)
  else (
    X5_joinParts_137 S v5 v2)
def X5_joinParts_87 (S : fy_S) (z0 : Int32) (z1 : Int32) : Option (fy_S) :=
  fy_gd (fy_ix z1 40) <|
  fy_bl (fy_sI S 18 z1.toNatClampNeg (z0 + (1 : Int32))) fun S89 =>
  some S89
def X5_joinParts_47 (S : fy_S) (v1 : Int32) (v2 : Int32) (v3 : Int32) (v4 : Int32) (v5 : Int32) (z0 : Int32) : Option (fy_S) :=
  if v1 = (9 : Int32) then (
    fy_gd (fy_ix v2 40) <|
    fy_gd (fy_ix v3 40) <|
    fy_gd (fy_ix v2 40) <|
    fy_bl (fy_sI S 19 v2.toNatClampNeg ((S.1 19 v2.toNatClampNeg) ||| (S.1 19 v3.toNatClampNeg))) fun S69 =>
    if z0 = 0 then (
      X5_joinParts_87 S69 v5 v2)
    else (
      X5_joinParts_87 S69 v4 v2))
  else (
    fy_gd (fy_ix v3 40) <|
    fy_gd (fy_ix v2 40) <|
    if (S.1 18 v2.toNatClampNeg) ≤ (S.1 18 v3.toNatClampNeg) then (
      X5_joinParts_120 S v2 v4 v5 z0)
    else (
      fy_gd (fy_ix v3 40) <|
      fy_gd (fy_ix v2 40) <|
      fy_bl (fy_sI S 19 v2.toNatClampNeg (S.1 19 v3.toNatClampNeg)) fun S119 =>
      X5_joinParts_120 S119 v2 v4 v5 z0))
def X5_joinParts (S : fy_S) (v1 : Int32) (v2 : Int32) (v3 : Int32) : Option (fy_S) :=
  fy_gd (fy_ix v2 40) <|
  fy_gd (fy_ix v3 40) <|
  fy_bl (if (S.1 18 v3.toNatClampNeg) < (S.1 18 v2.toNatClampNeg) then (S.1 18 v3.toNatClampNeg) else (S.1 18 v2.toNatClampNeg)) fun x15 =>
  fy_gd (fy_ix v2 40) <|
  fy_gd (fy_ix v3 40) <|
  fy_bl (if (S.1 18 v2.toNatClampNeg) < (S.1 18 v3.toNatClampNeg) then (S.1 18 v3.toNatClampNeg) else (S.1 18 v2.toNatClampNeg)) fun x32 =>
  if x15 < (10000 : Int32) then (
    X5_joinParts_47 S v1 v2 v3 x15 x32 (0 : Int32))
  else (
    X5_joinParts_47 S v1 v2 v3 x15 x32 (1 : Int32))
set_option maxHeartbeats 4000000 in
set_option maxRecDepth 100000 in
theorem t_X5_joinParts_137 {p : Program} {l : Launch} {e : Env} {s : State} {m : MethodId} {args : Array Value} {below : List Frame} {meth : Method} {c : Code} {g : fy_G} (C : fy_C g X_Y p s m args meth c yX5_joinParts.cls cX5_joinParts 7 none) {Sr : fy_S}  : ∀ (S : fy_S) (z0 : Int32) (z1 : Int32) (H : Heap) (locs : List Loc) (ls : Array Slot), X5_joinParts_137 S z0 z1 = some Sr → fy_W g X_Y S s H locs → lv_has ls 7 [] → W p l e (fy_rm 1) s m args below meth c H locs 0 0 (MQ below (fy_QV g X_Y Sr) args s 0 0 (fy_A g X_Y)) (F0 m 137 ls [.int z0, .int z1, .ref (g.2.2.1 18)]) := by
  obtain ⟨hx, hb, hr, hts, hown, hlk, hml, hK, hD, hE, hN⟩ := id C
  intro S z0 z1 H locs ls h w  hl
  rw [X5_joinParts_137] at h
  refine lv_iconst (v := (1 : Int32)) hx hb dX5_joinParts_137 (by decide) ?_
  refine lv_iadd hx hb dX5_joinParts_138 ?_
  obtain ⟨g139, h⟩ := fy_gd_some h
  refine fy_iast C w X_a18 g139 dX5_joinParts_139 (fun H locs w => ?_)
  obtain ⟨S139, e139⟩ : ∃ z, z = fy_sI S 18 z1.toNatClampNeg (z0 + (1 : Int32)) := ⟨_, rfl⟩
  have h := fy_bl_some e139 h
  rw [← e139] at w
  cases h
  exact fy_retV C w dX5_joinParts_140

set_option maxHeartbeats 4000000 in
set_option maxRecDepth 100000 in
theorem t_X5_joinParts_120 {p : Program} {l : Launch} {e : Env} {s : State} {m : MethodId} {args : Array Value} {below : List Frame} {meth : Method} {c : Code} {g : fy_G} (C : fy_C g X_Y p s m args meth c yX5_joinParts.cls cX5_joinParts 7 none) {Sr : fy_S}  : ∀ (S : fy_S) (v2 : Int32) (v4 : Int32) (v5 : Int32) (v6 : Int32) (H : Heap) (locs : List Loc) (ls : Array Slot), X5_joinParts_120 S v2 v4 v5 v6 = some Sr → fy_W g X_Y S s H locs → lv_has ls 7 [(0, .ref (g.2.2.1 16)), (2, .int v2), (4, .int v4), (5, .int v5), (6, .int v6)] → W p l e (fy_rm 1) s m args below meth c H locs 0 0 (MQ below (fy_QV g X_Y Sr) args s 0 0 (fy_A g X_Y)) (F0 m 120 ls []) := by
  obtain ⟨hx, hb, hr, hts, hown, hlk, hml, hK, hD, hE, hN⟩ := id C
  intro S v2 v4 v5 v6 H locs ls h w  hl
  rw [X5_joinParts_120] at h
  refine lv_aload_n hx hb dX5_joinParts_120 rfl (lv_at hl 0 rfl) ?_
  refine gfX5_15 X_full C w (X_i16) dX5_joinParts_121 ?_
  refine lv_iload_n hx hb dX5_joinParts_124 rfl (lv_at hl 1 rfl) ?_
  refine lv_iload hx hb dX5_joinParts_125 (lv_at hl 4 rfl) ?_
  refine lv_if_eq (tgt := 135) hx hb dX5_joinParts_127 (by decide) (fun hc => ?_) (fun hc => ?_)
  · have h := fy_if_t h hc
    refine lv_iload hx hb dX5_joinParts_135 (lv_at hl 2 rfl) ?_
    exact t_X5_joinParts_137 C _ _ _ _ _ _ h w (lv_sub hl [] rfl)
  · have h := fy_if_f h hc
    refine lv_iload hx hb dX5_joinParts_130 (lv_at hl 3 rfl) ?_
    refine lv_goto (tgt := 137) hx hb dX5_joinParts_132 (by decide) ?_
    exact t_X5_joinParts_137 C _ _ _ _ _ _ h w (lv_sub hl [] rfl)

set_option maxHeartbeats 4000000 in
set_option maxRecDepth 100000 in
theorem t_X5_joinParts_87 {p : Program} {l : Launch} {e : Env} {s : State} {m : MethodId} {args : Array Value} {below : List Frame} {meth : Method} {c : Code} {g : fy_G} (C : fy_C g X_Y p s m args meth c yX5_joinParts.cls cX5_joinParts 7 none) {Sr : fy_S}  : ∀ (S : fy_S) (z0 : Int32) (z1 : Int32) (H : Heap) (locs : List Loc) (ls : Array Slot), X5_joinParts_87 S z0 z1 = some Sr → fy_W g X_Y S s H locs → lv_has ls 7 [] → W p l e (fy_rm 1) s m args below meth c H locs 0 0 (MQ below (fy_QV g X_Y Sr) args s 0 0 (fy_A g X_Y)) (F0 m 87 ls [.int z0, .int z1, .ref (g.2.2.1 18)]) := by
  obtain ⟨hx, hb, hr, hts, hown, hlk, hml, hK, hD, hE, hN⟩ := id C
  intro S z0 z1 H locs ls h w  hl
  rw [X5_joinParts_87] at h
  refine lv_iconst (v := (1 : Int32)) hx hb dX5_joinParts_87 (by decide) ?_
  refine lv_iadd hx hb dX5_joinParts_88 ?_
  obtain ⟨g89, h⟩ := fy_gd_some h
  refine fy_iast C w X_a18 g89 dX5_joinParts_89 (fun H locs w => ?_)
  obtain ⟨S89, e89⟩ : ∃ z, z = fy_sI S 18 z1.toNatClampNeg (z0 + (1 : Int32)) := ⟨_, rfl⟩
  have h := fy_bl_some e89 h
  rw [← e89] at w
  refine lv_goto (tgt := 140) hx hb dX5_joinParts_90 (by decide) ?_
  cases h
  exact fy_retV C w dX5_joinParts_140

set_option maxHeartbeats 4000000 in
set_option maxRecDepth 100000 in
theorem t_X5_joinParts_47 {p : Program} {l : Launch} {e : Env} {s : State} {m : MethodId} {args : Array Value} {below : List Frame} {meth : Method} {c : Code} {g : fy_G} (C : fy_C g X_Y p s m args meth c yX5_joinParts.cls cX5_joinParts 7 none) {Sr : fy_S}  : ∀ (S : fy_S) (v1 : Int32) (v2 : Int32) (v3 : Int32) (v4 : Int32) (v5 : Int32) (z0 : Int32) (H : Heap) (locs : List Loc) (ls : Array Slot), X5_joinParts_47 S v1 v2 v3 v4 v5 z0 = some Sr → fy_W g X_Y S s H locs → lv_has ls 7 [(0, .ref (g.2.2.1 16)), (1, .int v1), (2, .int v2), (3, .int v3), (4, .int v4), (5, .int v5)] → W p l e (fy_rm 1) s m args below meth c H locs 0 0 (MQ below (fy_QV g X_Y Sr) args s 0 0 (fy_A g X_Y)) (F0 m 47 ls [.int z0]) := by
  obtain ⟨hx, hb, hr, hts, hown, hlk, hml, hK, hD, hE, hN⟩ := id C
  intro S v1 v2 v3 v4 v5 z0 H locs ls h w  hl
  rw [X5_joinParts_47] at h
  refine lv_istore (lv' := [(6, .int z0), (0, .ref (g.2.2.1 16)), (1, .int v1), (2, .int v2), (3, .int v3), (4, .int v4), (5, .int v5)]) hx hb dX5_joinParts_47 hl (by decide) rfl (fun ls hl => ?_)
  refine lv_iload_n hx hb dX5_joinParts_49 rfl (lv_at hl 2 rfl) ?_
  refine lv_bipush (v := (9 : Int32)) hx hb dX5_joinParts_50 (by decide) ?_
  refine lv_icmp_ne (tgt := 93) hx hb dX5_joinParts_52 (by decide) (fun hc => ?_) (fun hc => ?_)
  · have h := fy_if_f h hc
    refine lv_aload_n hx hb dX5_joinParts_93 rfl (lv_at hl 1 rfl) ?_
    refine gfX5_15 X_full C w (X_i16) dX5_joinParts_94 ?_
    refine lv_iload_n hx hb dX5_joinParts_97 rfl (lv_at hl 4 rfl) ?_
    obtain ⟨g98, h⟩ := fy_gd_some h
    refine fy_iald C w X_a18 g98 dX5_joinParts_98 ?_
    refine lv_aload_n hx hb dX5_joinParts_99 rfl (lv_at hl 1 rfl) ?_
    refine gfX5_15 X_full C w (X_i16) dX5_joinParts_100 ?_
    refine lv_iload_n hx hb dX5_joinParts_103 rfl (lv_at hl 3 rfl) ?_
    obtain ⟨g104, h⟩ := fy_gd_some h
    refine fy_iald C w X_a18 g104 dX5_joinParts_104 ?_
    refine lv_icmp_ge (tgt := 120) hx hb dX5_joinParts_105 (by decide) (fun hc => ?_) (fun hc => ?_)
    · have h := fy_if_t h hc
      exact t_X5_joinParts_120 C _ _ _ _ _ _ _ _ h w (lv_sub hl [1, 3, 5, 6, 0] rfl)
    · have h := fy_if_f h hc
      refine lv_aload_n hx hb dX5_joinParts_108 rfl (lv_at hl 1 rfl) ?_
      refine gfX5_18 X_full C w (X_i16) dX5_joinParts_109 ?_
      refine lv_iload_n hx hb dX5_joinParts_112 rfl (lv_at hl 3 rfl) ?_
      refine lv_aload_n hx hb dX5_joinParts_113 rfl (lv_at hl 1 rfl) ?_
      refine gfX5_18 X_full C w (X_i16) dX5_joinParts_114 ?_
      refine lv_iload_n hx hb dX5_joinParts_117 rfl (lv_at hl 4 rfl) ?_
      obtain ⟨g118, h⟩ := fy_gd_some h
      refine fy_iald C w X_a19 g118 dX5_joinParts_118 ?_
      obtain ⟨g119, h⟩ := fy_gd_some h
      refine fy_iast C w X_a19 g119 dX5_joinParts_119 (fun H locs w => ?_)
      obtain ⟨S119, e119⟩ : ∃ z, z = fy_sI S 19 v2.toNatClampNeg (S.1 19 v3.toNatClampNeg) := ⟨_, rfl⟩
      have h := fy_bl_some e119 h
      rw [← e119] at w
      exact t_X5_joinParts_120 C _ _ _ _ _ _ _ _ h w (lv_sub hl [1, 3, 5, 6, 0] rfl)
  · have h := fy_if_t h hc
    refine lv_aload_n hx hb dX5_joinParts_55 rfl (lv_at hl 1 rfl) ?_
    refine gfX5_18 X_full C w (X_i16) dX5_joinParts_56 ?_
    refine lv_iload_n hx hb dX5_joinParts_59 rfl (lv_at hl 3 rfl) ?_
    refine lv_dup2_11 hx hb dX5_joinParts_60 rfl rfl ?_
    obtain ⟨g61, h⟩ := fy_gd_some h
    refine fy_iald C w X_a19 g61 dX5_joinParts_61 ?_
    refine lv_aload_n hx hb dX5_joinParts_62 rfl (lv_at hl 1 rfl) ?_
    refine gfX5_18 X_full C w (X_i16) dX5_joinParts_63 ?_
    refine lv_iload_n hx hb dX5_joinParts_66 rfl (lv_at hl 4 rfl) ?_
    obtain ⟨g67, h⟩ := fy_gd_some h
    refine fy_iald C w X_a19 g67 dX5_joinParts_67 ?_
    refine lv_ior hx hb dX5_joinParts_68 ?_
    obtain ⟨g69, h⟩ := fy_gd_some h
    refine fy_iast C w X_a19 g69 dX5_joinParts_69 (fun H locs w => ?_)
    obtain ⟨S69, e69⟩ : ∃ z, z = fy_sI S 19 v2.toNatClampNeg ((S.1 19 v2.toNatClampNeg) ||| (S.1 19 v3.toNatClampNeg)) := ⟨_, rfl⟩
    have h := fy_bl_some e69 h
    rw [← e69] at w
    refine lv_aload_n hx hb dX5_joinParts_70 rfl (lv_at hl 1 rfl) ?_
    refine gfX5_15 X_full C w (X_i16) dX5_joinParts_71 ?_
    refine lv_iload_n hx hb dX5_joinParts_74 rfl (lv_at hl 3 rfl) ?_
    refine lv_iload hx hb dX5_joinParts_75 (lv_at hl 0 rfl) ?_
    refine lv_if_eq (tgt := 85) hx hb dX5_joinParts_77 (by decide) (fun hc => ?_) (fun hc => ?_)
    · have h := fy_if_t h hc
      refine lv_iload hx hb dX5_joinParts_85 (lv_at hl 6 rfl) ?_
      exact t_X5_joinParts_87 C _ _ _ _ _ _ h w (lv_sub hl [] rfl)
    · have h := fy_if_f h hc
      refine lv_iload hx hb dX5_joinParts_80 (lv_at hl 5 rfl) ?_
      refine lv_goto (tgt := 87) hx hb dX5_joinParts_82 (by decide) ?_
      exact t_X5_joinParts_87 C _ _ _ _ _ _ h w (lv_sub hl [] rfl)

set_option maxHeartbeats 4000000 in
set_option maxRecDepth 100000 in
theorem t_X5_joinParts {p : Program} {l : Launch} {e : Env} {s : State} {m : MethodId} {args : Array Value} {below : List Frame} {meth : Method} {c : Code} {g : fy_G} (C : fy_C g X_Y p s m args meth c yX5_joinParts.cls cX5_joinParts 7 none) {S : fy_S} {v1 : Int32} {v2 : Int32} {v3 : Int32} {Sr : fy_S}   {H : Heap} {locs : List Loc} {ls : Array Slot} (h : X5_joinParts S v1 v2 v3 = some Sr) (w : fy_W g X_Y S s H locs) (hl : lv_has ls 7 [(0, .ref (g.2.2.1 16)), (1, .int v1), (2, .int v2), (3, .int v3)]) : W p l e (fy_rm 1) s m args below meth c H locs 0 0 (MQ below (fy_QV g X_Y Sr) args s 0 0 (fy_A g X_Y)) (F0 m 0 ls []) := by
  obtain ⟨hx, hb, hr, hts, hown, hlk, hml, hK, hD, hE, hN⟩ := id C
  rw [X5_joinParts] at h
  refine lv_aload_n hx hb dX5_joinParts_0 rfl (lv_at hl 0 rfl) ?_
  refine gfX5_15 X_full C w (X_i16) dX5_joinParts_1 ?_
  refine lv_iload_n hx hb dX5_joinParts_4 rfl (lv_at hl 2 rfl) ?_
  obtain ⟨g5, h⟩ := fy_gd_some h
  refine fy_iald C w X_a18 g5 dX5_joinParts_5 ?_
  refine lv_aload_n hx hb dX5_joinParts_6 rfl (lv_at hl 0 rfl) ?_
  refine gfX5_15 X_full C w (X_i16) dX5_joinParts_7 ?_
  refine lv_iload_n hx hb dX5_joinParts_10 rfl (lv_at hl 3 rfl) ?_
  obtain ⟨g11, h⟩ := fy_gd_some h
  refine fy_iald C w X_a18 g11 dX5_joinParts_11 ?_
  refine va_mmin (l := l) hx hb (hml.trans hl.1.symm) hown (hts _ tw487) (hts _ tw488) (hts _ tw489) (hts _ tw490) (Nat.le_of_ble_eq_true rfl) (Nat.le_of_ble_eq_true rfl) (Nat.le_refl _) (Nat.le_refl _) dX5_joinParts_12 ?_
  refine lv_topi (fun x15 e15 => ?_)
  have h := fy_bl_some e15 h
  refine lv_istore (lv' := [(4, .int x15), (0, .ref (g.2.2.1 16)), (1, .int v1), (2, .int v2), (3, .int v3)]) hx hb dX5_joinParts_15 hl (by decide) rfl (fun ls hl => ?_)
  refine lv_aload_n hx hb dX5_joinParts_17 rfl (lv_at hl 1 rfl) ?_
  refine gfX5_15 X_full C w (X_i16) dX5_joinParts_18 ?_
  refine lv_iload_n hx hb dX5_joinParts_21 rfl (lv_at hl 3 rfl) ?_
  obtain ⟨g22, h⟩ := fy_gd_some h
  refine fy_iald C w X_a18 g22 dX5_joinParts_22 ?_
  refine lv_aload_n hx hb dX5_joinParts_23 rfl (lv_at hl 1 rfl) ?_
  refine gfX5_15 X_full C w (X_i16) dX5_joinParts_24 ?_
  refine lv_iload_n hx hb dX5_joinParts_27 rfl (lv_at hl 4 rfl) ?_
  obtain ⟨g28, h⟩ := fy_gd_some h
  refine fy_iald C w X_a18 g28 dX5_joinParts_28 ?_
  refine va_mmax (l := l) hx hb (hml.trans hl.1.symm) hown (hts _ tw491) (hts _ tw492) (hts _ tw489) (hts _ tw493) (Nat.le_of_ble_eq_true rfl) (Nat.le_of_ble_eq_true rfl) (Nat.le_refl _) (Nat.le_refl _) dX5_joinParts_29 ?_
  refine lv_topi (fun x32 e32 => ?_)
  have h := fy_bl_some e32 h
  refine lv_istore (lv' := [(5, .int x32), (4, .int x15), (0, .ref (g.2.2.1 16)), (1, .int v1), (2, .int v2), (3, .int v3)]) hx hb dX5_joinParts_32 hl (by decide) rfl (fun ls hl => ?_)
  refine lv_iload hx hb dX5_joinParts_34 (lv_at hl 1 rfl) ?_
  refine lv_sipush (v := (10000 : Int32)) hx hb dX5_joinParts_36 (by decide) ?_
  refine lv_icmp_lt (tgt := 46) hx hb dX5_joinParts_39 (by decide) (fun hc => ?_) (fun hc => ?_)
  · have h := fy_if_t h hc
    refine lv_iconst (v := (0 : Int32)) hx hb dX5_joinParts_46 (by decide) ?_
    exact t_X5_joinParts_47 C _ _ _ _ _ _ _ _ _ _ h w (lv_sub hl [2, 3, 4, 5, 1, 0] rfl)
  · have h := fy_if_f h hc
    refine lv_iconst (v := (1 : Int32)) hx hb dX5_joinParts_42 (by decide) ?_
    refine lv_goto (tgt := 47) hx hb dX5_joinParts_43 (by decide) ?_
    exact t_X5_joinParts_47 C _ _ _ _ _ _ _ _ _ _ h w (lv_sub hl [2, 3, 4, 5, 1, 0] rfl)

set_option maxHeartbeats 4000000 in
set_option maxRecDepth 100000 in
theorem c_X5_joinParts (l : Launch) (g : fy_G) {S : fy_S} {v1 : Int32} {v2 : Int32} {v3 : Int32} {Sr : fy_S}   (h : X5_joinParts S v1 v2 v3 = some Sr) : fy_M g X_Y l yX5_joinParts cX5_joinParts 7 none (fy_rm 1) [.ref (g.2.2.1 16), .int v1, .int v2, .int v3] S (fy_QV g X_Y Sr) :=
  fy_entry (by decide +kernel) (Nat.le_of_ble_eq_true rfl) (fun p e s m args below meth c ls C w hl => t_X5_joinParts C  h w hl)
def X5_evaluate_82 (k5 : fy_S → Nat → Int32 → Int32 → Int32 → Option (fy_S)) (S : fy_S) (v1 : Nat) (v2 : Int32) (v3 : Int32) (v4 : Int32) (v5 : Int32) : Option (fy_S) :=
  if v3 < (2 : Int32) then (
    fy_bl (v4 + (1 : Int32)) fun x100 =>
    k5 S v1 v2 v3 x100)
  else (
    fy_bl (v3 + (-1 : Int32)) fun x87 =>
    fy_bd (X5_joinParts S v5 (x87 - (1 : Int32)) x87) fun S97 =>
    fy_bl (v4 + (1 : Int32)) fun x100 =>
    k5 S97 v1 v2 x87 x100)
def X5_evaluate_75 (k5 : fy_S → Nat → Int32 → Int32 → Int32 → Option (fy_S)) (S : fy_S) (v1 : Nat) (v2 : Int32) (v3 : Int32) (v4 : Int32) (z0 : Int32) (z1 : Int32) : Option (fy_S) :=
  fy_gd (fy_ix z1 40) <|
  fy_bl (fy_sI S 19 z1.toNatClampNeg z0) fun S75 =>
  fy_bl (v3 + (1 : Int32)) fun x76 =>
  fy_bl (v4 + (1 : Int32)) fun x100 =>
  k5 S75 v1 v2 x76 x100
def X5_evaluate_5 : Nat → fy_S → Nat → Int32 → Int32 → Int32 → Option (fy_S)
  | 0, _, _, _, _, _ => none
  | fu + 1, S, v1, v2, v3, v4 =>
    if (S.1 v1 1) ≤ v4 then (
      some S)
    else (
      fy_bd (X2_nodeAt S v1 v4) fun r17 =>
      if r17 = (9 : Int32) then (
        X5_evaluate_82 (fun S v1 v2 v3 v4 => X5_evaluate_5 fu S v1 v2 v3 v4) S v1 v2 v3 v4 r17)
      else (
        if r17 = (8 : Int32) then (
          X5_evaluate_82 (fun S v1 v2 v3 v4 => X5_evaluate_5 fu S v1 v2 v3 v4) S v1 v2 v3 v4 r17)
        else (
          if (40 : Int32) ≤ v3 then (
            fy_bl (v4 + (1 : Int32)) fun x100 =>
            X5_evaluate_5 fu S v1 v2 v3 x100)
          else (
            fy_bd (X5_leafValue S r17 v2) fun r51 =>
            fy_gd (fy_ix v3 40) <|
            fy_bl (fy_sI S 18 v3.toNatClampNeg r51) fun S54 =>
            if (6 : Int32) ≤ r17 then (
              X5_evaluate_75 (fun S v1 v2 v3 v4 => X5_evaluate_5 fu S v1 v2 v3 v4) S54 v1 v2 v3 v4 (0 : Int32) v3)
            else (
              X5_evaluate_75 (fun S v1 v2 v3 v4 => X5_evaluate_5 fu S v1 v2 v3 v4) S54 v1 v2 v3 v4 ((1 : Int32) <<< (r17 &&& 31)) v3)))))
def X5_evaluate (S : fy_S) (v1 : Nat) (v2 : Int32) : Option (fy_S) :=
  X5_evaluate_5 fy_fu S v1 v2 (0 : Int32) (0 : Int32)
set_option maxHeartbeats 4000000 in
set_option maxRecDepth 100000 in
theorem t_X5_evaluate_82 {p : Program} {l : Launch} {e : Env} {s : State} {m : MethodId} {args : Array Value} {below : List Frame} {meth : Method} {c : Code} {g : fy_G} (C : fy_C g X_Y p s m args meth c yX5_evaluate.cls cX5_evaluate 6 none) {Sr : fy_S}  {k5 : fy_S → Nat → Int32 → Int32 → Int32 → Option (fy_S)} (hk5 : ∀ (S : fy_S) (v1 : Nat) (v2 : Int32) (v3 : Int32) (v4 : Int32) (H : Heap) (locs : List Loc) (ls : Array Slot), k5 S v1 v2 v3 v4 = some Sr → fy_W g X_Y S s H locs → X_is X_Y 2 v1 → lv_has ls 6 [(0, .ref (g.2.2.1 16)), (1, .ref (g.2.2.1 v1)), (2, .int v2), (3, .int v3), (4, .int v4)] → W p l e (fy_rm 3) s m args below meth c H locs 0 0 (MQ below (fy_QV g X_Y Sr) args s 0 0 (fy_A g X_Y)) (F0 m 5 ls [])) : ∀ (S : fy_S) (v1 : Nat) (v2 : Int32) (v3 : Int32) (v4 : Int32) (v5 : Int32) (H : Heap) (locs : List Loc) (ls : Array Slot), X5_evaluate_82 k5 S v1 v2 v3 v4 v5 = some Sr → fy_W g X_Y S s H locs → X_is X_Y 2 v1 → lv_has ls 6 [(0, .ref (g.2.2.1 16)), (1, .ref (g.2.2.1 v1)), (2, .int v2), (3, .int v3), (4, .int v4), (5, .int v5)] → W p l e (fy_rm 3) s m args below meth c H locs 0 0 (MQ below (fy_QV g X_Y Sr) args s 0 0 (fy_A g X_Y)) (F0 m 82 ls []) := by
  obtain ⟨hx, hb, hr, hts, hown, hlk, hml, hK, hD, hE, hN⟩ := id C
  intro S v1 v2 v3 v4 v5 H locs ls h w q1 hl
  rw [X5_evaluate_82] at h
  refine lv_iload_n hx hb dX5_evaluate_82 rfl (lv_at hl 3 rfl) ?_
  refine lv_iconst (v := (2 : Int32)) hx hb dX5_evaluate_83 (by decide) ?_
  refine lv_icmp_lt (tgt := 100) hx hb dX5_evaluate_84 (by decide) (fun hc => ?_) (fun hc => ?_)
  · have h := fy_if_t h hc
    obtain ⟨x100, e100⟩ : ∃ z : Int32, z = v4 + (1 : Int32) := ⟨_, rfl⟩
    have h := fy_bl_some e100 h
    refine lv_iinc (k := 4) (v := x100) (lv' := [(4, .int x100), (0, .ref (g.2.2.1 16)), (1, .ref (g.2.2.1 v1)), (2, .int v2), (3, .int v3), (5, .int v5)]) hx hb dX5_evaluate_100 hl rfl (by rw [e100]; rfl) (by decide) rfl (fun ls hl => ?_)
    refine lv_goto (tgt := 5) hx hb dX5_evaluate_103 (by decide) ?_
    exact hk5 _ _ _ _ _ _ _ _ h w q1 (lv_sub hl [1, 2, 3, 4, 0] rfl)
  · have h := fy_if_f h hc
    obtain ⟨x87, e87⟩ : ∃ z : Int32, z = v3 + (-1 : Int32) := ⟨_, rfl⟩
    have h := fy_bl_some e87 h
    refine lv_iinc (k := 3) (v := x87) (lv' := [(3, .int x87), (0, .ref (g.2.2.1 16)), (1, .ref (g.2.2.1 v1)), (2, .int v2), (4, .int v4), (5, .int v5)]) hx hb dX5_evaluate_87 hl rfl (by rw [e87]; rfl) (by decide) rfl (fun ls hl => ?_)
    refine lv_aload_n hx hb dX5_evaluate_90 rfl (lv_at hl 1 rfl) ?_
    refine lv_iload hx hb dX5_evaluate_91 (lv_at hl 5 rfl) ?_
    refine lv_iload_n hx hb dX5_evaluate_93 rfl (lv_at hl 0 rfl) ?_
    refine lv_iconst (v := (1 : Int32)) hx hb dX5_evaluate_94 (by decide) ?_
    refine lv_isub hx hb dX5_evaluate_95 ?_
    refine lv_iload_n hx hb dX5_evaluate_96 rfl (lv_at hl 0 rfl) ?_
    obtain ⟨S97, h97, h⟩ := fy_bd_some h
    refine fy_calV w (fy_runV (As := [.int v5, .int (x87 - (1 : Int32)), .int x87]) (rest := []) C w (c_X5_joinParts l g  h97) (X_o5 X_full (X_i16)) ksX5_67 rfl ⟨Nat.le_of_ble_eq_true rfl, Nat.le_of_ble_eq_true rfl⟩ rfl hl.1 rfl (Nat.le_of_ble_eq_true rfl) ⟨Nat.le_refl _, Nat.le_refl _⟩ dX5_evaluate_97) (fun H locs w => ?_)
    obtain ⟨x100, e100⟩ : ∃ z : Int32, z = v4 + (1 : Int32) := ⟨_, rfl⟩
    have h := fy_bl_some e100 h
    refine lv_iinc (k := 4) (v := x100) (lv' := [(4, .int x100), (3, .int x87), (0, .ref (g.2.2.1 16)), (1, .ref (g.2.2.1 v1)), (2, .int v2), (5, .int v5)]) hx hb dX5_evaluate_100 hl rfl (by rw [e100]; rfl) (by decide) rfl (fun ls hl => ?_)
    refine lv_goto (tgt := 5) hx hb dX5_evaluate_103 (by decide) ?_
    exact hk5 _ _ _ _ _ _ _ _ h w q1 (lv_sub hl [2, 3, 4, 1, 0] rfl)

set_option maxHeartbeats 4000000 in
set_option maxRecDepth 100000 in
theorem t_X5_evaluate_75 {p : Program} {l : Launch} {e : Env} {s : State} {m : MethodId} {args : Array Value} {below : List Frame} {meth : Method} {c : Code} {g : fy_G} (C : fy_C g X_Y p s m args meth c yX5_evaluate.cls cX5_evaluate 6 none) {Sr : fy_S}  {k5 : fy_S → Nat → Int32 → Int32 → Int32 → Option (fy_S)} (hk5 : ∀ (S : fy_S) (v1 : Nat) (v2 : Int32) (v3 : Int32) (v4 : Int32) (H : Heap) (locs : List Loc) (ls : Array Slot), k5 S v1 v2 v3 v4 = some Sr → fy_W g X_Y S s H locs → X_is X_Y 2 v1 → lv_has ls 6 [(0, .ref (g.2.2.1 16)), (1, .ref (g.2.2.1 v1)), (2, .int v2), (3, .int v3), (4, .int v4)] → W p l e (fy_rm 3) s m args below meth c H locs 0 0 (MQ below (fy_QV g X_Y Sr) args s 0 0 (fy_A g X_Y)) (F0 m 5 ls [])) : ∀ (S : fy_S) (v1 : Nat) (v2 : Int32) (v3 : Int32) (v4 : Int32) (z0 : Int32) (z1 : Int32) (H : Heap) (locs : List Loc) (ls : Array Slot), X5_evaluate_75 k5 S v1 v2 v3 v4 z0 z1 = some Sr → fy_W g X_Y S s H locs → X_is X_Y 2 v1 → lv_has ls 6 [(0, .ref (g.2.2.1 16)), (1, .ref (g.2.2.1 v1)), (2, .int v2), (3, .int v3), (4, .int v4)] → W p l e (fy_rm 3) s m args below meth c H locs 0 0 (MQ below (fy_QV g X_Y Sr) args s 0 0 (fy_A g X_Y)) (F0 m 75 ls [.int z0, .int z1, .ref (g.2.2.1 19)]) := by
  obtain ⟨hx, hb, hr, hts, hown, hlk, hml, hK, hD, hE, hN⟩ := id C
  intro S v1 v2 v3 v4 z0 z1 H locs ls h w q1 hl
  rw [X5_evaluate_75] at h
  obtain ⟨g75, h⟩ := fy_gd_some h
  refine fy_iast C w X_a19 g75 dX5_evaluate_75 (fun H locs w => ?_)
  obtain ⟨S75, e75⟩ : ∃ z, z = fy_sI S 19 z1.toNatClampNeg z0 := ⟨_, rfl⟩
  have h := fy_bl_some e75 h
  rw [← e75] at w
  obtain ⟨x76, e76⟩ : ∃ z : Int32, z = v3 + (1 : Int32) := ⟨_, rfl⟩
  have h := fy_bl_some e76 h
  refine lv_iinc (k := 3) (v := x76) (lv' := [(3, .int x76), (0, .ref (g.2.2.1 16)), (1, .ref (g.2.2.1 v1)), (2, .int v2), (4, .int v4)]) hx hb dX5_evaluate_76 hl rfl (by rw [e76]; rfl) (by decide) rfl (fun ls hl => ?_)
  refine lv_goto (tgt := 100) hx hb dX5_evaluate_79 (by decide) ?_
  obtain ⟨x100, e100⟩ : ∃ z : Int32, z = v4 + (1 : Int32) := ⟨_, rfl⟩
  have h := fy_bl_some e100 h
  refine lv_iinc (k := 4) (v := x100) (lv' := [(4, .int x100), (3, .int x76), (0, .ref (g.2.2.1 16)), (1, .ref (g.2.2.1 v1)), (2, .int v2)]) hx hb dX5_evaluate_100 hl rfl (by rw [e100]; rfl) (by decide) rfl (fun ls hl => ?_)
  refine lv_goto (tgt := 5) hx hb dX5_evaluate_103 (by decide) ?_
  exact hk5 _ _ _ _ _ _ _ _ h w q1 (lv_sub hl [2, 3, 4, 1, 0] rfl)

set_option maxHeartbeats 4000000 in
set_option maxRecDepth 100000 in
theorem t_X5_evaluate_5 {p : Program} {l : Launch} {e : Env} {s : State} {m : MethodId} {args : Array Value} {below : List Frame} {meth : Method} {c : Code} {g : fy_G} (C : fy_C g X_Y p s m args meth c yX5_evaluate.cls cX5_evaluate 6 none) {Sr : fy_S}  : ∀ (fu : Nat) (S : fy_S) (v1 : Nat) (v2 : Int32) (v3 : Int32) (v4 : Int32) (H : Heap) (locs : List Loc) (ls : Array Slot), X5_evaluate_5 fu S v1 v2 v3 v4 = some Sr → fy_W g X_Y S s H locs → X_is X_Y 2 v1 → lv_has ls 6 [(0, .ref (g.2.2.1 16)), (1, .ref (g.2.2.1 v1)), (2, .int v2), (3, .int v3), (4, .int v4)] → W p l e (fy_rm 3) s m args below meth c H locs 0 0 (MQ below (fy_QV g X_Y Sr) args s 0 0 (fy_A g X_Y)) (F0 m 5 ls []) := by
  obtain ⟨hx, hb, hr, hts, hown, hlk, hml, hK, hD, hE, hN⟩ := id C
  intro fu
  induction fu with
  | zero => intro S v1 v2 v3 v4 H locs ls h; cases h
  | succ fu ih =>
    intro S v1 v2 v3 v4 H locs ls h w q1 hl
    rw [X5_evaluate_5] at h
    refine lv_iload hx hb dX5_evaluate_5 (lv_at hl 4 rfl) ?_
    refine lv_aload_n hx hb dX5_evaluate_7 rfl (lv_at hl 1 rfl) ?_
    refine gfX5_55 X_full C w q1 dX5_evaluate_8 ?_
    refine lv_icmp_ge (tgt := 106) hx hb dX5_evaluate_11 (by decide) (fun hc => ?_) (fun hc => ?_)
    · have h := fy_if_t h hc
      cases h
      exact fy_retV C w dX5_evaluate_106
    · have h := fy_if_f h hc
      refine lv_aload_n hx hb dX5_evaluate_14 rfl (lv_at hl 1 rfl) ?_
      refine lv_iload hx hb dX5_evaluate_15 (lv_at hl 4 rfl) ?_
      obtain ⟨r17, h17, h⟩ := fy_bd_some h
      refine fy_calI w (fy_runV (As := [.int v4]) (rest := []) C w (c_X2_nodeAt l g X_full q1 h17) (X_o2 X_full q1) ksX5_60 rfl ⟨Nat.le_of_ble_eq_true rfl, Nat.le_of_ble_eq_true rfl⟩ rfl hl.1 rfl (Nat.le_of_ble_eq_true rfl) ⟨Nat.le_refl _, Nat.le_refl _⟩ dX5_evaluate_17) (fun H locs w => ?_)
      refine lv_istore (lv' := [(5, .int r17), (0, .ref (g.2.2.1 16)), (1, .ref (g.2.2.1 v1)), (2, .int v2), (3, .int v3), (4, .int v4)]) hx hb dX5_evaluate_20 hl (by decide) rfl (fun ls hl => ?_)
      refine lv_iload hx hb dX5_evaluate_22 (lv_at hl 0 rfl) ?_
      refine lv_bipush (v := (9 : Int32)) hx hb dX5_evaluate_24 (by decide) ?_
      refine lv_icmp_eq (tgt := 82) hx hb dX5_evaluate_26 (by decide) (fun hc => ?_) (fun hc => ?_)
      · have h := fy_if_t h hc
        exact t_X5_evaluate_82 C ih _ _ _ _ _ _ _ _ _ h w q1 (lv_sub hl [1, 2, 3, 4, 5, 0] rfl)
      · have h := fy_if_f h hc
        refine lv_iload hx hb dX5_evaluate_29 (lv_at hl 0 rfl) ?_
        refine lv_bipush (v := (8 : Int32)) hx hb dX5_evaluate_31 (by decide) ?_
        refine lv_icmp_eq (tgt := 82) hx hb dX5_evaluate_33 (by decide) (fun hc => ?_) (fun hc => ?_)
        · have h := fy_if_t h hc
          exact t_X5_evaluate_82 C ih _ _ _ _ _ _ _ _ _ h w q1 (lv_sub hl [1, 2, 3, 4, 5, 0] rfl)
        · have h := fy_if_f h hc
          refine lv_iload_n hx hb dX5_evaluate_36 rfl (lv_at hl 4 rfl) ?_
          refine lv_bipush (v := (40 : Int32)) hx hb dX5_evaluate_37 (by decide) ?_
          refine lv_icmp_ge (tgt := 100) hx hb dX5_evaluate_39 (by decide) (fun hc => ?_) (fun hc => ?_)
          · have h := fy_if_t h hc
            obtain ⟨x100, e100⟩ : ∃ z : Int32, z = v4 + (1 : Int32) := ⟨_, rfl⟩
            have h := fy_bl_some e100 h
            refine lv_iinc (k := 5) (v := x100) (lv' := [(4, .int x100), (5, .int r17), (0, .ref (g.2.2.1 16)), (1, .ref (g.2.2.1 v1)), (2, .int v2), (3, .int v3)]) hx hb dX5_evaluate_100 hl rfl (by rw [e100]; rfl) (by decide) rfl (fun ls hl => ?_)
            refine lv_goto (tgt := 5) hx hb dX5_evaluate_103 (by decide) ?_
            exact ih _ _ _ _ _ _ _ _ h w q1 (lv_sub hl [2, 3, 4, 5, 0] rfl)
          · have h := fy_if_f h hc
            refine lv_aload_n hx hb dX5_evaluate_42 rfl (lv_at hl 1 rfl) ?_
            refine gfX5_15 X_full C w (X_i16) dX5_evaluate_43 ?_
            refine lv_iload_n hx hb dX5_evaluate_46 rfl (lv_at hl 4 rfl) ?_
            refine lv_aload_n hx hb dX5_evaluate_47 rfl (lv_at hl 1 rfl) ?_
            refine lv_iload hx hb dX5_evaluate_48 (lv_at hl 0 rfl) ?_
            refine lv_iload_n hx hb dX5_evaluate_50 rfl (lv_at hl 3 rfl) ?_
            obtain ⟨r51, h51, h⟩ := fy_bd_some h
            refine fy_calI w (fy_runV (As := [.int r17, .int v2]) (rest := [.int v3, .ref (g.2.2.1 18)]) C w (c_X5_leafValue l g  h51) (X_o5 X_full (X_i16)) ksX5_63 rfl ⟨Nat.le_of_ble_eq_true rfl, Nat.le_of_ble_eq_true rfl⟩ rfl hl.1 rfl (Nat.le_of_ble_eq_true rfl) ⟨Nat.le_refl _, Nat.le_refl _⟩ dX5_evaluate_51) (fun H locs w => ?_)
            obtain ⟨g54, h⟩ := fy_gd_some h
            refine fy_iast C w X_a18 g54 dX5_evaluate_54 (fun H locs w => ?_)
            obtain ⟨S54, e54⟩ : ∃ z, z = fy_sI S 18 v3.toNatClampNeg r51 := ⟨_, rfl⟩
            have h := fy_bl_some e54 h
            rw [← e54] at w
            refine lv_aload_n hx hb dX5_evaluate_55 rfl (lv_at hl 1 rfl) ?_
            refine gfX5_18 X_full C w (X_i16) dX5_evaluate_56 ?_
            refine lv_iload_n hx hb dX5_evaluate_59 rfl (lv_at hl 4 rfl) ?_
            refine lv_iload hx hb dX5_evaluate_60 (lv_at hl 0 rfl) ?_
            refine lv_bipush (v := (6 : Int32)) hx hb dX5_evaluate_62 (by decide) ?_
            refine lv_icmp_ge (tgt := 74) hx hb dX5_evaluate_64 (by decide) (fun hc => ?_) (fun hc => ?_)
            · have h := fy_if_t h hc
              refine lv_iconst (v := (0 : Int32)) hx hb dX5_evaluate_74 (by decide) ?_
              exact t_X5_evaluate_75 C ih _ _ _ _ _ _ _ _ _ _ h w q1 (lv_sub hl [1, 2, 3, 4, 5] rfl)
            · have h := fy_if_f h hc
              refine lv_iconst (v := (1 : Int32)) hx hb dX5_evaluate_67 (by decide) ?_
              refine lv_iload hx hb dX5_evaluate_68 (lv_at hl 0 rfl) ?_
              refine lv_ishl hx hb dX5_evaluate_70 ?_
              refine lv_goto (tgt := 75) hx hb dX5_evaluate_71 (by decide) ?_
              exact t_X5_evaluate_75 C ih _ _ _ _ _ _ _ _ _ _ h w q1 (lv_sub hl [1, 2, 3, 4, 5] rfl)

set_option maxHeartbeats 4000000 in
set_option maxRecDepth 100000 in
theorem t_X5_evaluate {p : Program} {l : Launch} {e : Env} {s : State} {m : MethodId} {args : Array Value} {below : List Frame} {meth : Method} {c : Code} {g : fy_G} (C : fy_C g X_Y p s m args meth c yX5_evaluate.cls cX5_evaluate 6 none) {S : fy_S} {v1 : Nat} {v2 : Int32} {Sr : fy_S}  (q1 : X_is X_Y 2 v1) {H : Heap} {locs : List Loc} {ls : Array Slot} (h : X5_evaluate S v1 v2 = some Sr) (w : fy_W g X_Y S s H locs) (hl : lv_has ls 6 [(0, .ref (g.2.2.1 16)), (1, .ref (g.2.2.1 v1)), (2, .int v2)]) : W p l e (fy_rm 3) s m args below meth c H locs 0 0 (MQ below (fy_QV g X_Y Sr) args s 0 0 (fy_A g X_Y)) (F0 m 0 ls []) := by
  obtain ⟨hx, hb, hr, hts, hown, hlk, hml, hK, hD, hE, hN⟩ := id C
  rw [X5_evaluate] at h
  refine lv_iconst (v := (0 : Int32)) hx hb dX5_evaluate_0 (by decide) ?_
  refine lv_istore_n (lv' := [(3, .int (0 : Int32)), (0, .ref (g.2.2.1 16)), (1, .ref (g.2.2.1 v1)), (2, .int v2)]) hx hb dX5_evaluate_1 rfl hl (by decide) rfl (fun ls hl => ?_)
  refine lv_iconst (v := (0 : Int32)) hx hb dX5_evaluate_2 (by decide) ?_
  refine lv_istore (lv' := [(4, .int (0 : Int32)), (3, .int (0 : Int32)), (0, .ref (g.2.2.1 16)), (1, .ref (g.2.2.1 v1)), (2, .int v2)]) hx hb dX5_evaluate_3 hl (by decide) rfl (fun ls hl => ?_)
  exact t_X5_evaluate_5 C fy_fu _ _ _ _ _ _ _ _ h w q1 (lv_sub hl [2, 3, 4, 1, 0] rfl)

set_option maxHeartbeats 4000000 in
set_option maxRecDepth 100000 in
theorem c_X5_evaluate (l : Launch) (g : fy_G) {S : fy_S} {v1 : Nat} {v2 : Int32} {Sr : fy_S}  (q1 : X_is X_Y 2 v1) (h : X5_evaluate S v1 v2 = some Sr) : fy_M g X_Y l yX5_evaluate cX5_evaluate 6 none (fy_rm 3) [.ref (g.2.2.1 16), .ref (g.2.2.1 v1), .int v2] S (fy_QV g X_Y Sr) :=
  fy_entry (by decide +kernel) (Nat.le_of_ble_eq_true rfl) (fun p e s m args below meth c ls C w hl => t_X5_evaluate C q1 h w hl)
def X5_solve_81 (k67 : fy_S → Nat → Nat → Int32 → Int32 → Option (fy_S)) : Nat → fy_S → Nat → Nat → Int32 → Int32 → Int32 → Option (fy_S)
  | 0, _, _, _, _, _, _ => none
  | fu + 1, S, v1, v2, v3, v4, v5 =>
    if (S.1 v1 3) ≤ v5 then (
      fy_bl (v4 + (-1 : Int32)) fun x132 =>
      k67 S v1 v2 v3 x132)
    else (
      fy_bd (X8_letterAt S v2 v4) fun r97 =>
      fy_bd (X0_move S v1 v5 r97) fun r100 =>
      match r100 with
      | none => (
        none)
      | some r100_ => (
        fy_bd (X5_evaluate S r100_ (v4 + (1 : Int32))) fun S107 =>
        fy_gd (fy_ix (0 : Int32) 40) <|
        fy_bd (X5_setValue S107 v4 v5 ((S107.1 18 (0 : Int32).toNatClampNeg) + (1 : Int32))) fun S123 =>
        fy_bl (v5 + (1 : Int32)) fun x126 =>
        X5_solve_81 k67 fu S123 v1 v2 v3 v4 x126))
def X5_solve_67 : Nat → fy_S → Nat → Nat → Int32 → Int32 → Option (fy_S)
  | 0, _, _, _, _, _ => none
  | fu + 1, S, v1, v2, v3, v4 =>
    if v4 < v3 then (
      some S)
    else (
      if v4 < 0 then (
        some S)
      else (
        X5_solve_81 (fun S v1 v2 v3 v4 => X5_solve_67 fu S v1 v2 v3 v4) fy_fu S v1 v2 v3 v4 (0 : Int32)))
def X5_solve_50 (k3 : fy_S → Nat → Nat → Int32 → Int32 → Option (fy_S)) (S : fy_S) (v1 : Nat) (v2 : Nat) (v3 : Int32) (v4 : Int32) (z0 : Int32) (z1 : Int32) (z2 : Int32) : Option (fy_S) :=
  fy_bd (X5_setValue S z2 z1 z0) fun S50 =>
  fy_bl (v4 + (1 : Int32)) fun x53 =>
  k3 S50 v1 v2 v3 x53
def X5_solve_29 (k3 : fy_S → Nat → Nat → Int32 → Int32 → Option (fy_S)) (S : fy_S) (v1 : Nat) (v2 : Nat) (v3 : Int32) (v4 : Int32) (z0 : Int32) : Option (fy_S) :=
  if z0 = 0 then (
    X5_solve_50 k3 S v1 v2 v3 v4 (10000 : Int32) v4 (S.1 v2 1))
  else (
    X5_solve_50 k3 S v1 v2 v3 v4 (0 : Int32) v4 (S.1 v2 1))
def X5_solve_3 : Nat → fy_S → Nat → Nat → Int32 → Int32 → Option (fy_S)
  | 0, _, _, _, _, _ => none
  | fu + 1, S, v1, v2, v3, v4 =>
    if (S.1 v1 3) ≤ v4 then (
      fy_bl ((S.1 v2 1) - (1 : Int32)) fun x65 =>
      X5_solve_67 fy_fu S v1 v2 v3 x65)
    else (
      if (((S.1 v1 5) >>> (v4 &&& 31)) &&& (1 : Int32)) = 0 then (
        X5_solve_29 (fun S v1 v2 v3 v4 => X5_solve_3 fu S v1 v2 v3 v4) S v1 v2 v3 v4 (0 : Int32))
      else (
        X5_solve_29 (fun S v1 v2 v3 v4 => X5_solve_3 fu S v1 v2 v3 v4) S v1 v2 v3 v4 (1 : Int32)))
def X5_solve (S : fy_S) (v1 : Nat) (v2 : Nat) (v3 : Int32) : Option (fy_S) :=
  X5_solve_3 fy_fu S v1 v2 v3 (0 : Int32)
set_option maxHeartbeats 4000000 in
set_option maxRecDepth 100000 in
theorem t_X5_solve_81 {p : Program} {l : Launch} {e : Env} {s : State} {m : MethodId} {args : Array Value} {below : List Frame} {meth : Method} {c : Code} {g : fy_G} (C : fy_C g X_Y p s m args meth c yX5_solve.cls cX5_solve 6 none) {Sr : fy_S}  {k67 : fy_S → Nat → Nat → Int32 → Int32 → Option (fy_S)} (hk67 : ∀ (S : fy_S) (v1 : Nat) (v2 : Nat) (v3 : Int32) (v4 : Int32) (H : Heap) (locs : List Loc) (ls : Array Slot), k67 S v1 v2 v3 v4 = some Sr → fy_W g X_Y S s H locs → X_is X_Y 0 v1 → X_is X_Y 8 v2 → lv_has ls 6 [(0, .ref (g.2.2.1 16)), (1, .ref (g.2.2.1 v1)), (2, .ref (g.2.2.1 v2)), (3, .int v3), (4, .int v4)] → W p l e (fy_rm 4) s m args below meth c H locs 0 0 (MQ below (fy_QV g X_Y Sr) args s 0 0 (fy_A g X_Y)) (F0 m 67 ls [])) : ∀ (fu : Nat) (S : fy_S) (v1 : Nat) (v2 : Nat) (v3 : Int32) (v4 : Int32) (v5 : Int32) (H : Heap) (locs : List Loc) (ls : Array Slot), X5_solve_81 k67 fu S v1 v2 v3 v4 v5 = some Sr → fy_W g X_Y S s H locs → X_is X_Y 0 v1 → X_is X_Y 8 v2 → lv_has ls 6 [(0, .ref (g.2.2.1 16)), (1, .ref (g.2.2.1 v1)), (2, .ref (g.2.2.1 v2)), (3, .int v3), (4, .int v4), (5, .int v5)] → W p l e (fy_rm 4) s m args below meth c H locs 0 0 (MQ below (fy_QV g X_Y Sr) args s 0 0 (fy_A g X_Y)) (F0 m 81 ls []) := by
  obtain ⟨hx, hb, hr, hts, hown, hlk, hml, hK, hD, hE, hN⟩ := id C
  intro fu
  induction fu with
  | zero => intro S v1 v2 v3 v4 v5 H locs ls h; cases h
  | succ fu ih =>
    intro S v1 v2 v3 v4 v5 H locs ls h w q1 q2 hl
    rw [X5_solve_81] at h
    refine lv_iload hx hb dX5_solve_81 (lv_at hl 5 rfl) ?_
    refine lv_aload_n hx hb dX5_solve_83 rfl (lv_at hl 1 rfl) ?_
    refine gfX5_21 X_full C w q1 dX5_solve_84 ?_
    refine lv_icmp_ge (tgt := 132) hx hb dX5_solve_87 (by decide) (fun hc => ?_) (fun hc => ?_)
    · have h := fy_if_t h hc
      obtain ⟨x132, e132⟩ : ∃ z : Int32, z = v4 + (-1 : Int32) := ⟨_, rfl⟩
      have h := fy_bl_some e132 h
      refine lv_iinc (k := 4) (v := x132) (lv' := [(4, .int x132), (0, .ref (g.2.2.1 16)), (1, .ref (g.2.2.1 v1)), (2, .ref (g.2.2.1 v2)), (3, .int v3), (5, .int v5)]) hx hb dX5_solve_132 hl rfl (by rw [e132]; rfl) (by decide) rfl (fun ls hl => ?_)
      refine lv_goto (tgt := 67) hx hb dX5_solve_135 (by decide) ?_
      exact hk67 _ _ _ _ _ _ _ _ h w q1 q2 (lv_sub hl [1, 2, 3, 4, 0] rfl)
    · have h := fy_if_f h hc
      refine lv_aload_n hx hb dX5_solve_90 rfl (lv_at hl 0 rfl) ?_
      refine lv_aload_n hx hb dX5_solve_91 rfl (lv_at hl 1 rfl) ?_
      refine lv_iload hx hb dX5_solve_92 (lv_at hl 5 rfl) ?_
      refine lv_aload_n hx hb dX5_solve_94 rfl (lv_at hl 2 rfl) ?_
      refine lv_iload hx hb dX5_solve_95 (lv_at hl 4 rfl) ?_
      obtain ⟨r97, h97, h⟩ := fy_bd_some h
      refine fy_calI w (fy_runV (As := [.int v4]) (rest := [.int v5, .ref (g.2.2.1 v1), .ref (g.2.2.1 16)]) C w (c_X8_letterAt l g q2 h97) (X_o8 X_full q2) ksX5_39 rfl ⟨Nat.le_of_ble_eq_true rfl, Nat.le_of_ble_eq_true rfl⟩ rfl hl.1 rfl (Nat.le_of_ble_eq_true rfl) ⟨Nat.le_refl _, Nat.le_refl _⟩ dX5_solve_97) (fun H locs w => ?_)
      obtain ⟨r100, h100, h⟩ := fy_bd_some h
      refine fy_calE w (fy_runV (As := [.int v5, .int r97]) (rest := [.ref (g.2.2.1 16)]) C w (c_X0_move l g X_full q1 h100) (X_o0 X_full q1) ksX5_43 rfl ⟨Nat.le_of_ble_eq_true rfl, Nat.le_of_ble_eq_true rfl⟩ rfl hl.1 rfl (Nat.le_of_ble_eq_true rfl) ⟨Nat.le_refl _, Nat.le_refl _⟩ dX5_solve_100) (fun H locs w => ?_)
      refine lv_iload hx hb dX5_solve_103 (lv_at hl 4 rfl) ?_
      refine lv_iconst (v := (1 : Int32)) hx hb dX5_solve_105 (by decide) ?_
      refine lv_iadd hx hb dX5_solve_106 ?_
      cases r100 with
      | none =>
        dsimp only at h
        cases h
      | some r100_ =>
        dsimp only at h
        obtain ⟨S107, h107, h⟩ := fy_bd_some h
        refine fy_calV w (fy_runV (As := [.ref (g.2.2.1 r100_), .int (v4 + (1 : Int32))]) (rest := []) C w (c_X5_evaluate l g (cls_X0_move X_full q1 h100) h107) (X_o5 X_full (X_i16)) ksX5_47 rfl ⟨Nat.le_of_ble_eq_true rfl, Nat.le_of_ble_eq_true rfl⟩ rfl hl.1 rfl (Nat.le_of_ble_eq_true rfl) ⟨Nat.le_refl _, Nat.le_refl _⟩ dX5_solve_107) (fun H locs w => ?_)
        refine lv_aload_n hx hb dX5_solve_110 rfl (lv_at hl 0 rfl) ?_
        refine lv_iload hx hb dX5_solve_111 (lv_at hl 4 rfl) ?_
        refine lv_iload hx hb dX5_solve_113 (lv_at hl 5 rfl) ?_
        refine lv_aload_n hx hb dX5_solve_115 rfl (lv_at hl 0 rfl) ?_
        refine gfX5_15 X_full C w (X_i16) dX5_solve_116 ?_
        refine lv_iconst (v := (0 : Int32)) hx hb dX5_solve_119 (by decide) ?_
        obtain ⟨g120, h⟩ := fy_gd_some h
        refine fy_iald C w X_a18 g120 dX5_solve_120 ?_
        refine lv_iconst (v := (1 : Int32)) hx hb dX5_solve_121 (by decide) ?_
        refine lv_iadd hx hb dX5_solve_122 ?_
        obtain ⟨S123, h123, h⟩ := fy_bd_some h
        refine fy_calV w (fy_runV (As := [.int v4, .int v5, .int ((S107.1 18 (0 : Int32).toNatClampNeg) + (1 : Int32))]) (rest := []) C w (c_X5_setValue l g  h123) (X_o5 X_full (X_i16)) ksX5_35 rfl ⟨Nat.le_of_ble_eq_true rfl, Nat.le_of_ble_eq_true rfl⟩ rfl hl.1 rfl (Nat.le_of_ble_eq_true rfl) ⟨Nat.le_refl _, Nat.le_refl _⟩ dX5_solve_123) (fun H locs w => ?_)
        obtain ⟨x126, e126⟩ : ∃ z : Int32, z = v5 + (1 : Int32) := ⟨_, rfl⟩
        have h := fy_bl_some e126 h
        refine lv_iinc (k := 5) (v := x126) (lv' := [(5, .int x126), (0, .ref (g.2.2.1 16)), (1, .ref (g.2.2.1 v1)), (2, .ref (g.2.2.1 v2)), (3, .int v3), (4, .int v4)]) hx hb dX5_solve_126 hl rfl (by rw [e126]; rfl) (by decide) rfl (fun ls hl => ?_)
        refine lv_goto (tgt := 81) hx hb dX5_solve_129 (by decide) ?_
        exact ih _ _ _ _ _ _ _ _ _ h w q1 q2 (lv_sub hl [1, 2, 3, 4, 5, 0] rfl)

set_option maxHeartbeats 4000000 in
set_option maxRecDepth 100000 in
theorem t_X5_solve_67 {p : Program} {l : Launch} {e : Env} {s : State} {m : MethodId} {args : Array Value} {below : List Frame} {meth : Method} {c : Code} {g : fy_G} (C : fy_C g X_Y p s m args meth c yX5_solve.cls cX5_solve 6 none) {Sr : fy_S}  : ∀ (fu : Nat) (S : fy_S) (v1 : Nat) (v2 : Nat) (v3 : Int32) (v4 : Int32) (H : Heap) (locs : List Loc) (ls : Array Slot), X5_solve_67 fu S v1 v2 v3 v4 = some Sr → fy_W g X_Y S s H locs → X_is X_Y 0 v1 → X_is X_Y 8 v2 → lv_has ls 6 [(0, .ref (g.2.2.1 16)), (1, .ref (g.2.2.1 v1)), (2, .ref (g.2.2.1 v2)), (3, .int v3), (4, .int v4)] → W p l e (fy_rm 4) s m args below meth c H locs 0 0 (MQ below (fy_QV g X_Y Sr) args s 0 0 (fy_A g X_Y)) (F0 m 67 ls []) := by
  obtain ⟨hx, hb, hr, hts, hown, hlk, hml, hK, hD, hE, hN⟩ := id C
  intro fu
  induction fu with
  | zero => intro S v1 v2 v3 v4 H locs ls h; cases h
  | succ fu ih =>
    intro S v1 v2 v3 v4 H locs ls h w q1 q2 hl
    rw [X5_solve_67] at h
    refine lv_iload hx hb dX5_solve_67 (lv_at hl 4 rfl) ?_
    refine lv_iload_n hx hb dX5_solve_69 rfl (lv_at hl 3 rfl) ?_
    refine lv_icmp_lt (tgt := 138) hx hb dX5_solve_70 (by decide) (fun hc => ?_) (fun hc => ?_)
    · have h := fy_if_t h hc
      cases h
      exact fy_retV C w dX5_solve_138
    · have h := fy_if_f h hc
      refine lv_iload hx hb dX5_solve_73 (lv_at hl 4 rfl) ?_
      refine lv_if_lt (tgt := 138) hx hb dX5_solve_75 (by decide) (fun hc => ?_) (fun hc => ?_)
      · have h := fy_if_t h hc
        cases h
        exact fy_retV C w dX5_solve_138
      · have h := fy_if_f h hc
        refine lv_iconst (v := (0 : Int32)) hx hb dX5_solve_78 (by decide) ?_
        refine lv_istore (lv' := [(5, .int (0 : Int32)), (0, .ref (g.2.2.1 16)), (1, .ref (g.2.2.1 v1)), (2, .ref (g.2.2.1 v2)), (3, .int v3), (4, .int v4)]) hx hb dX5_solve_79 hl (by decide) rfl (fun ls hl => ?_)
        exact t_X5_solve_81 C ih fy_fu _ _ _ _ _ _ _ _ _ h w q1 q2 (lv_sub hl [1, 2, 3, 4, 5, 0] rfl)

set_option maxHeartbeats 4000000 in
set_option maxRecDepth 100000 in
theorem t_X5_solve_50 {p : Program} {l : Launch} {e : Env} {s : State} {m : MethodId} {args : Array Value} {below : List Frame} {meth : Method} {c : Code} {g : fy_G} (C : fy_C g X_Y p s m args meth c yX5_solve.cls cX5_solve 6 none) {Sr : fy_S}  {k3 : fy_S → Nat → Nat → Int32 → Int32 → Option (fy_S)} (hk3 : ∀ (S : fy_S) (v1 : Nat) (v2 : Nat) (v3 : Int32) (v4 : Int32) (H : Heap) (locs : List Loc) (ls : Array Slot), k3 S v1 v2 v3 v4 = some Sr → fy_W g X_Y S s H locs → X_is X_Y 0 v1 → X_is X_Y 8 v2 → lv_has ls 6 [(0, .ref (g.2.2.1 16)), (1, .ref (g.2.2.1 v1)), (2, .ref (g.2.2.1 v2)), (3, .int v3), (4, .int v4)] → W p l e (fy_rm 4) s m args below meth c H locs 0 0 (MQ below (fy_QV g X_Y Sr) args s 0 0 (fy_A g X_Y)) (F0 m 3 ls [])) : ∀ (S : fy_S) (v1 : Nat) (v2 : Nat) (v3 : Int32) (v4 : Int32) (z0 : Int32) (z1 : Int32) (z2 : Int32) (H : Heap) (locs : List Loc) (ls : Array Slot), X5_solve_50 k3 S v1 v2 v3 v4 z0 z1 z2 = some Sr → fy_W g X_Y S s H locs → X_is X_Y 0 v1 → X_is X_Y 8 v2 → lv_has ls 6 [(0, .ref (g.2.2.1 16)), (1, .ref (g.2.2.1 v1)), (2, .ref (g.2.2.1 v2)), (3, .int v3), (4, .int v4)] → W p l e (fy_rm 4) s m args below meth c H locs 0 0 (MQ below (fy_QV g X_Y Sr) args s 0 0 (fy_A g X_Y)) (F0 m 50 ls [.int z0, .int z1, .int z2, .ref (g.2.2.1 16)]) := by
  obtain ⟨hx, hb, hr, hts, hown, hlk, hml, hK, hD, hE, hN⟩ := id C
  intro S v1 v2 v3 v4 z0 z1 z2 H locs ls h w q1 q2 hl
  rw [X5_solve_50] at h
  obtain ⟨S50, h50, h⟩ := fy_bd_some h
  refine fy_calV w (fy_runV (As := [.int z2, .int z1, .int z0]) (rest := []) C w (c_X5_setValue l g  h50) (X_o5 X_full (X_i16)) ksX5_35 rfl ⟨Nat.le_of_ble_eq_true rfl, Nat.le_of_ble_eq_true rfl⟩ rfl hl.1 rfl (Nat.le_of_ble_eq_true rfl) ⟨Nat.le_refl _, Nat.le_refl _⟩ dX5_solve_50) (fun H locs w => ?_)
  obtain ⟨x53, e53⟩ : ∃ z : Int32, z = v4 + (1 : Int32) := ⟨_, rfl⟩
  have h := fy_bl_some e53 h
  refine lv_iinc (k := 4) (v := x53) (lv' := [(4, .int x53), (0, .ref (g.2.2.1 16)), (1, .ref (g.2.2.1 v1)), (2, .ref (g.2.2.1 v2)), (3, .int v3)]) hx hb dX5_solve_53 hl rfl (by rw [e53]; rfl) (by decide) rfl (fun ls hl => ?_)
  refine lv_goto (tgt := 3) hx hb dX5_solve_56 (by decide) ?_
  exact hk3 _ _ _ _ _ _ _ _ h w q1 q2 (lv_sub hl [1, 2, 3, 4, 0] rfl)

set_option maxHeartbeats 4000000 in
set_option maxRecDepth 100000 in
theorem t_X5_solve_29 {p : Program} {l : Launch} {e : Env} {s : State} {m : MethodId} {args : Array Value} {below : List Frame} {meth : Method} {c : Code} {g : fy_G} (C : fy_C g X_Y p s m args meth c yX5_solve.cls cX5_solve 6 none) {Sr : fy_S}  {k3 : fy_S → Nat → Nat → Int32 → Int32 → Option (fy_S)} (hk3 : ∀ (S : fy_S) (v1 : Nat) (v2 : Nat) (v3 : Int32) (v4 : Int32) (H : Heap) (locs : List Loc) (ls : Array Slot), k3 S v1 v2 v3 v4 = some Sr → fy_W g X_Y S s H locs → X_is X_Y 0 v1 → X_is X_Y 8 v2 → lv_has ls 6 [(0, .ref (g.2.2.1 16)), (1, .ref (g.2.2.1 v1)), (2, .ref (g.2.2.1 v2)), (3, .int v3), (4, .int v4)] → W p l e (fy_rm 4) s m args below meth c H locs 0 0 (MQ below (fy_QV g X_Y Sr) args s 0 0 (fy_A g X_Y)) (F0 m 3 ls [])) : ∀ (S : fy_S) (v1 : Nat) (v2 : Nat) (v3 : Int32) (v4 : Int32) (z0 : Int32) (H : Heap) (locs : List Loc) (ls : Array Slot), X5_solve_29 k3 S v1 v2 v3 v4 z0 = some Sr → fy_W g X_Y S s H locs → X_is X_Y 0 v1 → X_is X_Y 8 v2 → lv_has ls 6 [(0, .ref (g.2.2.1 16)), (1, .ref (g.2.2.1 v1)), (2, .ref (g.2.2.1 v2)), (3, .int v3), (4, .int v4)] → W p l e (fy_rm 4) s m args below meth c H locs 0 0 (MQ below (fy_QV g X_Y Sr) args s 0 0 (fy_A g X_Y)) (F0 m 29 ls [.int z0]) := by
  obtain ⟨hx, hb, hr, hts, hown, hlk, hml, hK, hD, hE, hN⟩ := id C
  intro S v1 v2 v3 v4 z0 H locs ls h w q1 q2 hl
  rw [X5_solve_29] at h
  refine lv_istore (lv' := [(5, .int z0), (0, .ref (g.2.2.1 16)), (1, .ref (g.2.2.1 v1)), (2, .ref (g.2.2.1 v2)), (3, .int v3), (4, .int v4)]) hx hb dX5_solve_29 hl (by decide) rfl (fun ls hl => ?_)
  refine lv_aload_n hx hb dX5_solve_31 rfl (lv_at hl 1 rfl) ?_
  refine lv_aload_n hx hb dX5_solve_32 rfl (lv_at hl 3 rfl) ?_
  refine gfX5_30 X_full C w q2 dX5_solve_33 ?_
  refine lv_iload hx hb dX5_solve_36 (lv_at hl 5 rfl) ?_
  refine lv_iload hx hb dX5_solve_38 (lv_at hl 0 rfl) ?_
  refine lv_if_eq (tgt := 47) hx hb dX5_solve_40 (by decide) (fun hc => ?_) (fun hc => ?_)
  · have h := fy_if_t h hc
    refine lv_sipush (v := (10000 : Int32)) hx hb dX5_solve_47 (by decide) ?_
    exact t_X5_solve_50 C hk3 _ _ _ _ _ _ _ _ _ _ _ h w q1 q2 (lv_sub hl [1, 2, 3, 4, 5] rfl)
  · have h := fy_if_f h hc
    refine lv_iconst (v := (0 : Int32)) hx hb dX5_solve_43 (by decide) ?_
    refine lv_goto (tgt := 50) hx hb dX5_solve_44 (by decide) ?_
    exact t_X5_solve_50 C hk3 _ _ _ _ _ _ _ _ _ _ _ h w q1 q2 (lv_sub hl [1, 2, 3, 4, 5] rfl)

set_option maxHeartbeats 4000000 in
set_option maxRecDepth 100000 in
theorem t_X5_solve_3 {p : Program} {l : Launch} {e : Env} {s : State} {m : MethodId} {args : Array Value} {below : List Frame} {meth : Method} {c : Code} {g : fy_G} (C : fy_C g X_Y p s m args meth c yX5_solve.cls cX5_solve 6 none) {Sr : fy_S}  : ∀ (fu : Nat) (S : fy_S) (v1 : Nat) (v2 : Nat) (v3 : Int32) (v4 : Int32) (H : Heap) (locs : List Loc) (ls : Array Slot), X5_solve_3 fu S v1 v2 v3 v4 = some Sr → fy_W g X_Y S s H locs → X_is X_Y 0 v1 → X_is X_Y 8 v2 → lv_has ls 6 [(0, .ref (g.2.2.1 16)), (1, .ref (g.2.2.1 v1)), (2, .ref (g.2.2.1 v2)), (3, .int v3), (4, .int v4)] → W p l e (fy_rm 4) s m args below meth c H locs 0 0 (MQ below (fy_QV g X_Y Sr) args s 0 0 (fy_A g X_Y)) (F0 m 3 ls []) := by
  obtain ⟨hx, hb, hr, hts, hown, hlk, hml, hK, hD, hE, hN⟩ := id C
  intro fu
  induction fu with
  | zero => intro S v1 v2 v3 v4 H locs ls h; cases h
  | succ fu ih =>
    intro S v1 v2 v3 v4 H locs ls h w q1 q2 hl
    rw [X5_solve_3] at h
    refine lv_iload hx hb dX5_solve_3 (lv_at hl 4 rfl) ?_
    refine lv_aload_n hx hb dX5_solve_5 rfl (lv_at hl 1 rfl) ?_
    refine gfX5_21 X_full C w q1 dX5_solve_6 ?_
    refine lv_icmp_ge (tgt := 59) hx hb dX5_solve_9 (by decide) (fun hc => ?_) (fun hc => ?_)
    · have h := fy_if_t h hc
      refine lv_aload_n hx hb dX5_solve_59 rfl (lv_at hl 2 rfl) ?_
      refine gfX5_30 X_full C w q2 dX5_solve_60 ?_
      refine lv_iconst (v := (1 : Int32)) hx hb dX5_solve_63 (by decide) ?_
      refine lv_isub hx hb dX5_solve_64 ?_
      refine lv_topi (fun x65 e65 => ?_)
      have h := fy_bl_some e65 h
      refine lv_istore (lv' := [(4, .int x65), (0, .ref (g.2.2.1 16)), (1, .ref (g.2.2.1 v1)), (2, .ref (g.2.2.1 v2)), (3, .int v3)]) hx hb dX5_solve_65 hl (by decide) rfl (fun ls hl => ?_)
      exact t_X5_solve_67 C fy_fu _ _ _ _ _ _ _ _ h w q1 q2 (lv_sub hl [1, 2, 3, 4, 0] rfl)
    · have h := fy_if_f h hc
      refine lv_aload_n hx hb dX5_solve_12 rfl (lv_at hl 1 rfl) ?_
      refine gfX5_27 X_full C w q1 dX5_solve_13 ?_
      refine lv_iload hx hb dX5_solve_16 (lv_at hl 4 rfl) ?_
      refine lv_ishr hx hb dX5_solve_18 ?_
      refine lv_iconst (v := (1 : Int32)) hx hb dX5_solve_19 (by decide) ?_
      refine lv_iand hx hb dX5_solve_20 ?_
      refine lv_if_eq (tgt := 28) hx hb dX5_solve_21 (by decide) (fun hc => ?_) (fun hc => ?_)
      · have h := fy_if_t h hc
        refine lv_iconst (v := (0 : Int32)) hx hb dX5_solve_28 (by decide) ?_
        exact t_X5_solve_29 C ih _ _ _ _ _ _ _ _ _ h w q1 q2 (lv_sub hl [0, 1, 2, 3, 4] rfl)
      · have h := fy_if_f h hc
        refine lv_iconst (v := (1 : Int32)) hx hb dX5_solve_24 (by decide) ?_
        refine lv_goto (tgt := 29) hx hb dX5_solve_25 (by decide) ?_
        exact t_X5_solve_29 C ih _ _ _ _ _ _ _ _ _ h w q1 q2 (lv_sub hl [0, 1, 2, 3, 4] rfl)

set_option maxHeartbeats 4000000 in
set_option maxRecDepth 100000 in
theorem t_X5_solve {p : Program} {l : Launch} {e : Env} {s : State} {m : MethodId} {args : Array Value} {below : List Frame} {meth : Method} {c : Code} {g : fy_G} (C : fy_C g X_Y p s m args meth c yX5_solve.cls cX5_solve 6 none) {S : fy_S} {v1 : Nat} {v2 : Nat} {v3 : Int32} {Sr : fy_S}  (q1 : X_is X_Y 0 v1) (q2 : X_is X_Y 8 v2) {H : Heap} {locs : List Loc} {ls : Array Slot} (h : X5_solve S v1 v2 v3 = some Sr) (w : fy_W g X_Y S s H locs) (hl : lv_has ls 6 [(0, .ref (g.2.2.1 16)), (1, .ref (g.2.2.1 v1)), (2, .ref (g.2.2.1 v2)), (3, .int v3)]) : W p l e (fy_rm 4) s m args below meth c H locs 0 0 (MQ below (fy_QV g X_Y Sr) args s 0 0 (fy_A g X_Y)) (F0 m 0 ls []) := by
  obtain ⟨hx, hb, hr, hts, hown, hlk, hml, hK, hD, hE, hN⟩ := id C
  rw [X5_solve] at h
  refine lv_iconst (v := (0 : Int32)) hx hb dX5_solve_0 (by decide) ?_
  refine lv_istore (lv' := [(4, .int (0 : Int32)), (0, .ref (g.2.2.1 16)), (1, .ref (g.2.2.1 v1)), (2, .ref (g.2.2.1 v2)), (3, .int v3)]) hx hb dX5_solve_1 hl (by decide) rfl (fun ls hl => ?_)
  exact t_X5_solve_3 C fy_fu _ _ _ _ _ _ _ _ h w q1 q2 (lv_sub hl [1, 2, 3, 4, 0] rfl)

set_option maxHeartbeats 4000000 in
set_option maxRecDepth 100000 in
theorem c_X5_solve (l : Launch) (g : fy_G) {S : fy_S} {v1 : Nat} {v2 : Nat} {v3 : Int32} {Sr : fy_S}  (q1 : X_is X_Y 0 v1) (q2 : X_is X_Y 8 v2) (h : X5_solve S v1 v2 v3 = some Sr) : fy_M g X_Y l yX5_solve cX5_solve 6 none (fy_rm 4) [.ref (g.2.2.1 16), .ref (g.2.2.1 v1), .ref (g.2.2.1 v2), .int v3] S (fy_QV g X_Y Sr) :=
  fy_entry (by decide +kernel) (Nat.le_of_ble_eq_true rfl) (fun p e s m args below meth c ls C w hl => t_X5_solve C q1 q2 h w hl)
def X9_rank (S : fy_S) (v1 : Int32) (v2 : Int32) (v3 : Int32) : Option (fy_S × Int32) :=
  fy_bd (X9_automatonIn S v1) fun r2 =>
  match r2 with
  | none => (
    some (S, (-2 : Int32)))
  | some r2_ => (
    fy_bd (X0_hasState S r2_ v3) fun r15 =>
    if r15 = 0 then (
      some (S, (-2 : Int32)))
    else (
      fy_bd (X9_isWithin S v2 (0 : Int32) (S.1 12 1)) fun r30 =>
      if r30 = 0 then (
        some (S, (-2 : Int32)))
      else (
        fy_bd (X8_fits S 12 r2_) fun r45 =>
        if r45 = 0 then (
          some (S, (-4 : Int32)))
        else (
          fy_bd (X5_solve S r2_ 12 v2) fun S65 =>
          fy_bd (X5_valueAt S65 v2 v3) fun r74 =>
          some (S65, r74)))))
set_option maxHeartbeats 4000000 in
set_option maxRecDepth 100000 in
theorem t_X9_rank {p : Program} {l : Launch} {e : Env} {s : State} {m : MethodId} {args : Array Value} {below : List Frame} {meth : Method} {c : Code} {g : fy_G} (C : fy_C g X_Y p s m args meth c yX9_rank.cls cX9_rank 5 (some .int)) {S : fy_S} {v1 : Int32} {v2 : Int32} {v3 : Int32} {Sr : fy_S} {rr : Int32}  {H : Heap} {locs : List Loc} {ls : Array Slot} (h : X9_rank S v1 v2 v3 = some (Sr, rr)) (w : fy_W g X_Y S s H locs) (hl : lv_has ls 5 [(0, .ref (g.2.2.1 0)), (1, .int v1), (2, .int v2), (3, .int v3)]) : W p l e (fy_rm 5) s m args below meth c H locs 0 0 (MQ below (fy_QI g X_Y rr Sr) args s 0 0 (fy_A g X_Y)) (F0 m 0 ls []) := by
  obtain ⟨hx, hb, hr, hts, hown, hlk, hml, hK, hD, hE, hN⟩ := id C
  rw [X9_rank] at h
  refine lv_aload_n hx hb dX9_rank_0 rfl (lv_at hl 0 rfl) ?_
  refine lv_iload_n hx hb dX9_rank_1 rfl (lv_at hl 1 rfl) ?_
  obtain ⟨r2, h2, h⟩ := fy_bd_some h
  refine fy_calE w (fy_runV (As := [.int v1]) (rest := []) C w (c_X9_automatonIn l g  h2) (X_o9 X_full (X_i0)) ksX9_88 rfl ⟨Nat.le_of_ble_eq_true rfl, Nat.le_of_ble_eq_true rfl⟩ rfl hl.1 rfl (Nat.le_of_ble_eq_true rfl) ⟨Nat.le_refl _, Nat.le_refl _⟩ dX9_rank_2) (fun H locs w => ?_)
  refine fy_astoreO (lv' := [(4, va_re g.2.2.1 r2), (0, .ref (g.2.2.1 0)), (1, .int v1), (2, .int v2), (3, .int v3)]) hx hb dX9_rank_5 hl (by decide) rfl (fun ls hl => ?_)
  cases r2 with
  | none =>
    dsimp only at h
    refine lv_aloadN hx hb dX9_rank_7 (lv_at hl 0 rfl) ?_
    refine lv_ifnullN (tgt := 36) hx hb dX9_rank_9 (by decide) ?_
    refine lv_bipush (v := (-2 : Int32)) hx hb dX9_rank_36 (by decide) ?_
    cases h
    exact fy_retI C w dX9_rank_38
  | some r2_ =>
    dsimp only at h
    refine lv_aload hx hb dX9_rank_7 (lv_at hl 0 rfl) ?_
    refine lv_ifnull hx hb dX9_rank_9 ?_
    refine lv_aload hx hb dX9_rank_12 (lv_at hl 0 rfl) ?_
    refine lv_iload_n hx hb dX9_rank_14 rfl (lv_at hl 4 rfl) ?_
    obtain ⟨r15, h15, h⟩ := fy_bd_some h
    refine fy_calI w (fy_runV (As := [.int v3]) (rest := []) C w (c_X0_hasState l g X_full (cls_X9_automatonIn  h2) h15) (X_o0 X_full (cls_X9_automatonIn  h2)) ksX9_103 rfl ⟨Nat.le_of_ble_eq_true rfl, Nat.le_of_ble_eq_true rfl⟩ rfl hl.1 rfl (Nat.le_of_ble_eq_true rfl) ⟨Nat.le_refl _, Nat.le_refl _⟩ dX9_rank_15) (fun H locs w => ?_)
    refine lv_if_eq (tgt := 36) hx hb dX9_rank_18 (by decide) (fun hc => ?_) (fun hc => ?_)
    · have h := fy_if_t h hc
      refine lv_bipush (v := (-2 : Int32)) hx hb dX9_rank_36 (by decide) ?_
      cases h
      exact fy_retI C w dX9_rank_38
    · have h := fy_if_f h hc
      refine lv_iload_n hx hb dX9_rank_21 rfl (lv_at hl 3 rfl) ?_
      refine lv_iconst (v := (0 : Int32)) hx hb dX9_rank_22 (by decide) ?_
      refine lv_aload_n hx hb dX9_rank_23 rfl (lv_at hl 1 rfl) ?_
      refine gfX9_42 X_full C w (X_i0) dX9_rank_24 ?_
      refine gfX9_170 X_full C w X_i12 dX9_rank_27 ?_
      obtain ⟨r30, h30, h⟩ := fy_bd_some h
      refine fy_calI w (fy_runS (As := [.int v2, .int (0 : Int32), .int (S.1 12 1)]) (rest := []) C w (c_X9_isWithin l g X_full  h30) ksX9_92 ⟨Nat.le_of_ble_eq_true rfl, Nat.le_of_ble_eq_true rfl⟩ rfl hl.1 rfl (Nat.le_of_ble_eq_true rfl) ⟨Nat.le_refl _, Nat.le_refl _⟩ dX9_rank_30) (fun H locs w => ?_)
      refine lv_if_ne (tgt := 39) hx hb dX9_rank_33 (by decide) (fun hc => ?_) (fun hc => ?_)
      · have h := fy_if_f h hc
        refine lv_aload_n hx hb dX9_rank_39 rfl (lv_at hl 1 rfl) ?_
        refine gfX9_42 X_full C w (X_i0) dX9_rank_40 ?_
        refine lv_aload hx hb dX9_rank_43 (lv_at hl 0 rfl) ?_
        obtain ⟨r45, h45, h⟩ := fy_bd_some h
        refine fy_calI w (fy_runV (As := [.ref (g.2.2.1 r2_)]) (rest := []) C w (c_X8_fits l g X_i12 (cls_X9_automatonIn  h2) h45) (X_o8 X_full X_i12) ksX9_173 rfl ⟨Nat.le_of_ble_eq_true rfl, Nat.le_of_ble_eq_true rfl⟩ rfl hl.1 rfl (Nat.le_of_ble_eq_true rfl) ⟨Nat.le_refl _, Nat.le_refl _⟩ dX9_rank_45) (fun H locs w => ?_)
        refine lv_if_ne (tgt := 54) hx hb dX9_rank_48 (by decide) (fun hc => ?_) (fun hc => ?_)
        · have h := fy_if_f h hc
          refine lv_aload_n hx hb dX9_rank_54 rfl (lv_at hl 1 rfl) ?_
          refine gfX9_52 X_full C w (X_i0) dX9_rank_55 ?_
          refine lv_aload hx hb dX9_rank_58 (lv_at hl 0 rfl) ?_
          refine lv_aload_n hx hb dX9_rank_60 rfl (lv_at hl 1 rfl) ?_
          refine gfX9_42 X_full C w (X_i0) dX9_rank_61 ?_
          refine lv_iload_n hx hb dX9_rank_64 rfl (lv_at hl 3 rfl) ?_
          obtain ⟨S65, h65, h⟩ := fy_bd_some h
          refine fy_calV w (fy_runV (As := [.ref (g.2.2.1 r2_), .ref (g.2.2.1 12), .int v2]) (rest := []) C w (c_X5_solve l g (cls_X9_automatonIn  h2) X_i12 h65) (X_o5 X_full X_i16) ksX9_185 rfl ⟨Nat.le_of_ble_eq_true rfl, Nat.le_of_ble_eq_true rfl⟩ rfl hl.1 rfl (Nat.le_of_ble_eq_true rfl) ⟨Nat.le_refl _, Nat.le_refl _⟩ dX9_rank_65) (fun H locs w => ?_)
          refine lv_aload_n hx hb dX9_rank_68 rfl (lv_at hl 1 rfl) ?_
          refine gfX9_52 X_full C w (X_i0) dX9_rank_69 ?_
          refine lv_iload_n hx hb dX9_rank_72 rfl (lv_at hl 3 rfl) ?_
          refine lv_iload_n hx hb dX9_rank_73 rfl (lv_at hl 4 rfl) ?_
          obtain ⟨r74, h74, h⟩ := fy_bd_some h
          refine fy_calI w (fy_runV (As := [.int v2, .int v3]) (rest := []) C w (c_X5_valueAt l g  h74) (X_o5 X_full X_i16) ksX9_189 rfl ⟨Nat.le_of_ble_eq_true rfl, Nat.le_of_ble_eq_true rfl⟩ rfl hl.1 rfl (Nat.le_of_ble_eq_true rfl) ⟨Nat.le_refl _, Nat.le_refl _⟩ dX9_rank_74) (fun H locs w => ?_)
          cases h
          exact fy_retI C w dX9_rank_77
        · have h := fy_if_t h hc
          refine lv_bipush (v := (-4 : Int32)) hx hb dX9_rank_51 (by decide) ?_
          cases h
          exact fy_retI C w dX9_rank_53
      · have h := fy_if_t h hc
        refine lv_bipush (v := (-2 : Int32)) hx hb dX9_rank_36 (by decide) ?_
        cases h
        exact fy_retI C w dX9_rank_38

set_option maxHeartbeats 4000000 in
set_option maxRecDepth 100000 in
theorem c_X9_rank (l : Launch) (g : fy_G) {S : fy_S} {v1 : Int32} {v2 : Int32} {v3 : Int32} {Sr : fy_S} {rr : Int32}  (h : X9_rank S v1 v2 v3 = some (Sr, rr)) : fy_M g X_Y l yX9_rank cX9_rank 5 (some .int) (fy_rm 5) [.ref (g.2.2.1 0), .int v1, .int v2, .int v3] S (fy_QI g X_Y rr Sr) :=
  fy_entry (by decide +kernel) (Nat.le_of_ble_eq_true rfl) (fun p e s m args below meth c ls C w hl => t_X9_rank C  h w hl)
def X5_statesLedTo (S : fy_S) (v1 : Nat) (v2 : Int32) : Option (fy_S × Int32) :=
  fy_bd (X5_evaluate S v1 v2) fun S3 =>
  fy_gd (fy_ix (0 : Int32) 40) <|
  some (S3, (S3.1 19 (0 : Int32).toNatClampNeg))
set_option maxHeartbeats 4000000 in
set_option maxRecDepth 100000 in
theorem t_X5_statesLedTo {p : Program} {l : Launch} {e : Env} {s : State} {m : MethodId} {args : Array Value} {below : List Frame} {meth : Method} {c : Code} {g : fy_G} (C : fy_C g X_Y p s m args meth c yX5_statesLedTo.cls cX5_statesLedTo 3 (some .int)) {S : fy_S} {v1 : Nat} {v2 : Int32} {Sr : fy_S} {rr : Int32} (q1 : X_is X_Y 2 v1) {H : Heap} {locs : List Loc} {ls : Array Slot} (h : X5_statesLedTo S v1 v2 = some (Sr, rr)) (w : fy_W g X_Y S s H locs) (hl : lv_has ls 3 [(0, .ref (g.2.2.1 16)), (1, .ref (g.2.2.1 v1)), (2, .int v2)]) : W p l e (fy_rm 4) s m args below meth c H locs 0 0 (MQ below (fy_QI g X_Y rr Sr) args s 0 0 (fy_A g X_Y)) (F0 m 0 ls []) := by
  obtain ⟨hx, hb, hr, hts, hown, hlk, hml, hK, hD, hE, hN⟩ := id C
  rw [X5_statesLedTo] at h
  refine lv_aload_n hx hb dX5_statesLedTo_0 rfl (lv_at hl 0 rfl) ?_
  refine lv_aload_n hx hb dX5_statesLedTo_1 rfl (lv_at hl 1 rfl) ?_
  refine lv_iload_n hx hb dX5_statesLedTo_2 rfl (lv_at hl 2 rfl) ?_
  obtain ⟨S3, h3, h⟩ := fy_bd_some h
  refine fy_calV w (fy_runV (As := [.ref (g.2.2.1 v1), .int v2]) (rest := []) C w (c_X5_evaluate l g q1 h3) (X_o5 X_full (X_i16)) ksX5_47 rfl ⟨Nat.le_of_ble_eq_true rfl, Nat.le_of_ble_eq_true rfl⟩ rfl hl.1 rfl (Nat.le_of_ble_eq_true rfl) ⟨Nat.le_refl _, Nat.le_refl _⟩ dX5_statesLedTo_3) (fun H locs w => ?_)
  refine lv_aload_n hx hb dX5_statesLedTo_6 rfl (lv_at hl 0 rfl) ?_
  refine gfX5_18 X_full C w (X_i16) dX5_statesLedTo_7 ?_
  refine lv_iconst (v := (0 : Int32)) hx hb dX5_statesLedTo_10 (by decide) ?_
  obtain ⟨g11, h⟩ := fy_gd_some h
  refine fy_iald C w X_a19 g11 dX5_statesLedTo_11 ?_
  cases h
  exact fy_retI C w dX5_statesLedTo_12

set_option maxHeartbeats 4000000 in
set_option maxRecDepth 100000 in
theorem c_X5_statesLedTo (l : Launch) (g : fy_G) {S : fy_S} {v1 : Nat} {v2 : Int32} {Sr : fy_S} {rr : Int32} (q1 : X_is X_Y 2 v1) (h : X5_statesLedTo S v1 v2 = some (Sr, rr)) : fy_M g X_Y l yX5_statesLedTo cX5_statesLedTo 3 (some .int) (fy_rm 4) [.ref (g.2.2.1 16), .ref (g.2.2.1 v1), .int v2] S (fy_QI g X_Y rr Sr) :=
  fy_entry (by decide +kernel) (Nat.le_of_ble_eq_true rfl) (fun p e s m args below meth c ls C w hl => t_X5_statesLedTo C q1 h w hl)
def X9_strategy (S : fy_S) (v1 : Int32) (v2 : Int32) (v3 : Int32) : Option (fy_S × Int32) :=
  fy_bd (X9_automatonIn S v1) fun r2 =>
  match r2 with
  | none => (
    some (S, (-2 : Int32)))
  | some r2_ => (
    fy_bd (X0_hasState S r2_ v3) fun r15 =>
    if r15 = 0 then (
      some (S, (-2 : Int32)))
    else (
      fy_bd (X9_isWithin S v2 (0 : Int32) ((S.1 12 1) - (1 : Int32))) fun r32 =>
      if r32 = 0 then (
        some (S, (-2 : Int32)))
      else (
        fy_bd (X8_fits S 12 r2_) fun r47 =>
        if r47 = 0 then (
          some (S, (-4 : Int32)))
        else (
          fy_bd (X5_solve S r2_ 12 v2) fun S67 =>
          fy_bd (X5_valueAt S67 v2 v3) fun r76 =>
          if r76 < (10000 : Int32) then (
            fy_bd (X8_letterAt S67 12 v2) fun r99 =>
            fy_bd (X0_move S67 r2_ v3 r99) fun r102 =>
            match r102 with
            | none => (
              none)
            | some r102_ => (
              fy_bp (X5_statesLedTo S67 r102_ (v2 + (1 : Int32))) fun S108 r108 =>
              some (S108, r108)))
          else (
            some (S67, (-1 : Int32)))))))
set_option maxHeartbeats 4000000 in
set_option maxRecDepth 100000 in
theorem t_X9_strategy {p : Program} {l : Launch} {e : Env} {s : State} {m : MethodId} {args : Array Value} {below : List Frame} {meth : Method} {c : Code} {g : fy_G} (C : fy_C g X_Y p s m args meth c yX9_strategy.cls cX9_strategy 5 (some .int)) {S : fy_S} {v1 : Int32} {v2 : Int32} {v3 : Int32} {Sr : fy_S} {rr : Int32}  {H : Heap} {locs : List Loc} {ls : Array Slot} (h : X9_strategy S v1 v2 v3 = some (Sr, rr)) (w : fy_W g X_Y S s H locs) (hl : lv_has ls 5 [(0, .ref (g.2.2.1 0)), (1, .int v1), (2, .int v2), (3, .int v3)]) : W p l e (fy_rm 5) s m args below meth c H locs 0 0 (MQ below (fy_QI g X_Y rr Sr) args s 0 0 (fy_A g X_Y)) (F0 m 0 ls []) := by
  obtain ⟨hx, hb, hr, hts, hown, hlk, hml, hK, hD, hE, hN⟩ := id C
  rw [X9_strategy] at h
  refine lv_aload_n hx hb dX9_strategy_0 rfl (lv_at hl 0 rfl) ?_
  refine lv_iload_n hx hb dX9_strategy_1 rfl (lv_at hl 1 rfl) ?_
  obtain ⟨r2, h2, h⟩ := fy_bd_some h
  refine fy_calE w (fy_runV (As := [.int v1]) (rest := []) C w (c_X9_automatonIn l g  h2) (X_o9 X_full (X_i0)) ksX9_88 rfl ⟨Nat.le_of_ble_eq_true rfl, Nat.le_of_ble_eq_true rfl⟩ rfl hl.1 rfl (Nat.le_of_ble_eq_true rfl) ⟨Nat.le_refl _, Nat.le_refl _⟩ dX9_strategy_2) (fun H locs w => ?_)
  refine fy_astoreO (lv' := [(4, va_re g.2.2.1 r2), (0, .ref (g.2.2.1 0)), (1, .int v1), (2, .int v2), (3, .int v3)]) hx hb dX9_strategy_5 hl (by decide) rfl (fun ls hl => ?_)
  cases r2 with
  | none =>
    dsimp only at h
    refine lv_aloadN hx hb dX9_strategy_7 (lv_at hl 0 rfl) ?_
    refine lv_ifnullN (tgt := 38) hx hb dX9_strategy_9 (by decide) ?_
    refine lv_bipush (v := (-2 : Int32)) hx hb dX9_strategy_38 (by decide) ?_
    cases h
    exact fy_retI C w dX9_strategy_40
  | some r2_ =>
    dsimp only at h
    refine lv_aload hx hb dX9_strategy_7 (lv_at hl 0 rfl) ?_
    refine lv_ifnull hx hb dX9_strategy_9 ?_
    refine lv_aload hx hb dX9_strategy_12 (lv_at hl 0 rfl) ?_
    refine lv_iload_n hx hb dX9_strategy_14 rfl (lv_at hl 4 rfl) ?_
    obtain ⟨r15, h15, h⟩ := fy_bd_some h
    refine fy_calI w (fy_runV (As := [.int v3]) (rest := []) C w (c_X0_hasState l g X_full (cls_X9_automatonIn  h2) h15) (X_o0 X_full (cls_X9_automatonIn  h2)) ksX9_103 rfl ⟨Nat.le_of_ble_eq_true rfl, Nat.le_of_ble_eq_true rfl⟩ rfl hl.1 rfl (Nat.le_of_ble_eq_true rfl) ⟨Nat.le_refl _, Nat.le_refl _⟩ dX9_strategy_15) (fun H locs w => ?_)
    refine lv_if_eq (tgt := 38) hx hb dX9_strategy_18 (by decide) (fun hc => ?_) (fun hc => ?_)
    · have h := fy_if_t h hc
      refine lv_bipush (v := (-2 : Int32)) hx hb dX9_strategy_38 (by decide) ?_
      cases h
      exact fy_retI C w dX9_strategy_40
    · have h := fy_if_f h hc
      refine lv_iload_n hx hb dX9_strategy_21 rfl (lv_at hl 3 rfl) ?_
      refine lv_iconst (v := (0 : Int32)) hx hb dX9_strategy_22 (by decide) ?_
      refine lv_aload_n hx hb dX9_strategy_23 rfl (lv_at hl 1 rfl) ?_
      refine gfX9_42 X_full C w (X_i0) dX9_strategy_24 ?_
      refine gfX9_170 X_full C w X_i12 dX9_strategy_27 ?_
      refine lv_iconst (v := (1 : Int32)) hx hb dX9_strategy_30 (by decide) ?_
      refine lv_isub hx hb dX9_strategy_31 ?_
      obtain ⟨r32, h32, h⟩ := fy_bd_some h
      refine fy_calI w (fy_runS (As := [.int v2, .int (0 : Int32), .int ((S.1 12 1) - (1 : Int32))]) (rest := []) C w (c_X9_isWithin l g X_full  h32) ksX9_92 ⟨Nat.le_of_ble_eq_true rfl, Nat.le_of_ble_eq_true rfl⟩ rfl hl.1 rfl (Nat.le_of_ble_eq_true rfl) ⟨Nat.le_refl _, Nat.le_refl _⟩ dX9_strategy_32) (fun H locs w => ?_)
      refine lv_if_ne (tgt := 41) hx hb dX9_strategy_35 (by decide) (fun hc => ?_) (fun hc => ?_)
      · have h := fy_if_f h hc
        refine lv_aload_n hx hb dX9_strategy_41 rfl (lv_at hl 1 rfl) ?_
        refine gfX9_42 X_full C w (X_i0) dX9_strategy_42 ?_
        refine lv_aload hx hb dX9_strategy_45 (lv_at hl 0 rfl) ?_
        obtain ⟨r47, h47, h⟩ := fy_bd_some h
        refine fy_calI w (fy_runV (As := [.ref (g.2.2.1 r2_)]) (rest := []) C w (c_X8_fits l g X_i12 (cls_X9_automatonIn  h2) h47) (X_o8 X_full X_i12) ksX9_173 rfl ⟨Nat.le_of_ble_eq_true rfl, Nat.le_of_ble_eq_true rfl⟩ rfl hl.1 rfl (Nat.le_of_ble_eq_true rfl) ⟨Nat.le_refl _, Nat.le_refl _⟩ dX9_strategy_47) (fun H locs w => ?_)
        refine lv_if_ne (tgt := 56) hx hb dX9_strategy_50 (by decide) (fun hc => ?_) (fun hc => ?_)
        · have h := fy_if_f h hc
          refine lv_aload_n hx hb dX9_strategy_56 rfl (lv_at hl 1 rfl) ?_
          refine gfX9_52 X_full C w (X_i0) dX9_strategy_57 ?_
          refine lv_aload hx hb dX9_strategy_60 (lv_at hl 0 rfl) ?_
          refine lv_aload_n hx hb dX9_strategy_62 rfl (lv_at hl 1 rfl) ?_
          refine gfX9_42 X_full C w (X_i0) dX9_strategy_63 ?_
          refine lv_iload_n hx hb dX9_strategy_66 rfl (lv_at hl 3 rfl) ?_
          obtain ⟨S67, h67, h⟩ := fy_bd_some h
          refine fy_calV w (fy_runV (As := [.ref (g.2.2.1 r2_), .ref (g.2.2.1 12), .int v2]) (rest := []) C w (c_X5_solve l g (cls_X9_automatonIn  h2) X_i12 h67) (X_o5 X_full X_i16) ksX9_185 rfl ⟨Nat.le_of_ble_eq_true rfl, Nat.le_of_ble_eq_true rfl⟩ rfl hl.1 rfl (Nat.le_of_ble_eq_true rfl) ⟨Nat.le_refl _, Nat.le_refl _⟩ dX9_strategy_67) (fun H locs w => ?_)
          refine lv_aload_n hx hb dX9_strategy_70 rfl (lv_at hl 1 rfl) ?_
          refine gfX9_52 X_full C w (X_i0) dX9_strategy_71 ?_
          refine lv_iload_n hx hb dX9_strategy_74 rfl (lv_at hl 3 rfl) ?_
          refine lv_iload_n hx hb dX9_strategy_75 rfl (lv_at hl 4 rfl) ?_
          obtain ⟨r76, h76, h⟩ := fy_bd_some h
          refine fy_calI w (fy_runV (As := [.int v2, .int v3]) (rest := []) C w (c_X5_valueAt l g  h76) (X_o5 X_full X_i16) ksX9_189 rfl ⟨Nat.le_of_ble_eq_true rfl, Nat.le_of_ble_eq_true rfl⟩ rfl hl.1 rfl (Nat.le_of_ble_eq_true rfl) ⟨Nat.le_refl _, Nat.le_refl _⟩ dX9_strategy_76) (fun H locs w => ?_)
          refine lv_sipush (v := (10000 : Int32)) hx hb dX9_strategy_79 (by decide) ?_
          refine lv_icmp_lt (tgt := 87) hx hb dX9_strategy_82 (by decide) (fun hc => ?_) (fun hc => ?_)
          · have h := fy_if_t h hc
            refine lv_aload_n hx hb dX9_strategy_87 rfl (lv_at hl 1 rfl) ?_
            refine gfX9_52 X_full C w (X_i0) dX9_strategy_88 ?_
            refine lv_aload hx hb dX9_strategy_91 (lv_at hl 0 rfl) ?_
            refine lv_iload_n hx hb dX9_strategy_93 rfl (lv_at hl 4 rfl) ?_
            refine lv_aload_n hx hb dX9_strategy_94 rfl (lv_at hl 1 rfl) ?_
            refine gfX9_42 X_full C w (X_i0) dX9_strategy_95 ?_
            refine lv_iload_n hx hb dX9_strategy_98 rfl (lv_at hl 3 rfl) ?_
            obtain ⟨r99, h99, h⟩ := fy_bd_some h
            refine fy_calI w (fy_runV (As := [.int v2]) (rest := [.int v3, .ref (g.2.2.1 r2_), .ref (g.2.2.1 16)]) C w (c_X8_letterAt l g X_i12 h99) (X_o8 X_full X_i12) ksX9_193 rfl ⟨Nat.le_of_ble_eq_true rfl, Nat.le_of_ble_eq_true rfl⟩ rfl hl.1 rfl (Nat.le_of_ble_eq_true rfl) ⟨Nat.le_refl _, Nat.le_refl _⟩ dX9_strategy_99) (fun H locs w => ?_)
            obtain ⟨r102, h102, h⟩ := fy_bd_some h
            refine fy_calE w (fy_runV (As := [.int v3, .int r99]) (rest := [.ref (g.2.2.1 16)]) C w (c_X0_move l g X_full (cls_X9_automatonIn  h2) h102) (X_o0 X_full (cls_X9_automatonIn  h2)) ksX9_197 rfl ⟨Nat.le_of_ble_eq_true rfl, Nat.le_of_ble_eq_true rfl⟩ rfl hl.1 rfl (Nat.le_of_ble_eq_true rfl) ⟨Nat.le_refl _, Nat.le_refl _⟩ dX9_strategy_102) (fun H locs w => ?_)
            refine lv_iload_n hx hb dX9_strategy_105 rfl (lv_at hl 3 rfl) ?_
            refine lv_iconst (v := (1 : Int32)) hx hb dX9_strategy_106 (by decide) ?_
            refine lv_iadd hx hb dX9_strategy_107 ?_
            cases r102 with
            | none =>
              dsimp only at h
              cases h
            | some r102_ =>
              dsimp only at h
              obtain ⟨S108, r108, h108, h⟩ := fy_bp_some h
              refine fy_calI w (fy_runV (As := [.ref (g.2.2.1 r102_), .int (v2 + (1 : Int32))]) (rest := []) C w (c_X5_statesLedTo l g (cls_X0_move X_full (cls_X9_automatonIn  h2) h102) h108) (X_o5 X_full X_i16) ksX9_201 rfl ⟨Nat.le_of_ble_eq_true rfl, Nat.le_of_ble_eq_true rfl⟩ rfl hl.1 rfl (Nat.le_of_ble_eq_true rfl) ⟨Nat.le_refl _, Nat.le_refl _⟩ dX9_strategy_108) (fun H locs w => ?_)
              cases h
              exact fy_retI C w dX9_strategy_111
          · have h := fy_if_f h hc
            refine lv_iconst (v := (-1 : Int32)) hx hb dX9_strategy_85 (by decide) ?_
            cases h
            exact fy_retI C w dX9_strategy_86
        · have h := fy_if_t h hc
          refine lv_bipush (v := (-4 : Int32)) hx hb dX9_strategy_53 (by decide) ?_
          cases h
          exact fy_retI C w dX9_strategy_55
      · have h := fy_if_t h hc
        refine lv_bipush (v := (-2 : Int32)) hx hb dX9_strategy_38 (by decide) ?_
        cases h
        exact fy_retI C w dX9_strategy_40

set_option maxHeartbeats 4000000 in
set_option maxRecDepth 100000 in
theorem c_X9_strategy (l : Launch) (g : fy_G) {S : fy_S} {v1 : Int32} {v2 : Int32} {v3 : Int32} {Sr : fy_S} {rr : Int32}  (h : X9_strategy S v1 v2 v3 = some (Sr, rr)) : fy_M g X_Y l yX9_strategy cX9_strategy 5 (some .int) (fy_rm 5) [.ref (g.2.2.1 0), .int v1, .int v2, .int v3] S (fy_QI g X_Y rr Sr) :=
  fy_entry (by decide +kernel) (Nat.le_of_ble_eq_true rfl) (fun p e s m args below meth c ls C w hl => t_X9_strategy C  h w hl)
def X9_reverseStep (S : fy_S) (v1 : Int32) (v2 : Int32) (v3 : Int32) : Option (Int32) :=
  fy_bd (X9_automatonIn S v1) fun r2 =>
  match r2 with
  | none => (
    some (-2 : Int32))
  | some r2_ => (
    fy_bd (X0_hasLetter S r2_ v2) fun r15 =>
    if r15 = 0 then (
      some (-2 : Int32))
    else (
      fy_bd (X0_hasSet S r2_ v3) fun r24 =>
      if r24 = 0 then (
        some (-2 : Int32))
      else (
        fy_bd (X0_statesBefore S r2_ v2 v3) fun r37 =>
        some r37)))
set_option maxHeartbeats 4000000 in
set_option maxRecDepth 100000 in
theorem t_X9_reverseStep {p : Program} {l : Launch} {e : Env} {s : State} {m : MethodId} {args : Array Value} {below : List Frame} {meth : Method} {c : Code} {g : fy_G} (C : fy_C g X_Y p s m args meth c yX9_reverseStep.cls cX9_reverseStep 5 (some .int)) {S : fy_S} {v1 : Int32} {v2 : Int32} {v3 : Int32} {rr : Int32}  {H : Heap} {locs : List Loc} {ls : Array Slot} (h : X9_reverseStep S v1 v2 v3 = some rr) (w : fy_W g X_Y S s H locs) (hl : lv_has ls 5 [(0, .ref (g.2.2.1 0)), (1, .int v1), (2, .int v2), (3, .int v3)]) : W p l e (fy_rm 3) s m args below meth c H locs 0 0 (MQ below (fy_QI g X_Y rr S) args s 0 0 (fy_A g X_Y)) (F0 m 0 ls []) := by
  obtain ⟨hx, hb, hr, hts, hown, hlk, hml, hK, hD, hE, hN⟩ := id C
  rw [X9_reverseStep] at h
  refine lv_aload_n hx hb dX9_reverseStep_0 rfl (lv_at hl 0 rfl) ?_
  refine lv_iload_n hx hb dX9_reverseStep_1 rfl (lv_at hl 1 rfl) ?_
  obtain ⟨r2, h2, h⟩ := fy_bd_some h
  refine fy_calE w (fy_runV (As := [.int v1]) (rest := []) C w (c_X9_automatonIn l g  h2) (X_o9 X_full (X_i0)) ksX9_88 rfl ⟨Nat.le_of_ble_eq_true rfl, Nat.le_of_ble_eq_true rfl⟩ rfl hl.1 rfl (Nat.le_of_ble_eq_true rfl) ⟨Nat.le_refl _, Nat.le_refl _⟩ dX9_reverseStep_2) (fun H locs w => ?_)
  refine fy_astoreO (lv' := [(4, va_re g.2.2.1 r2), (0, .ref (g.2.2.1 0)), (1, .int v1), (2, .int v2), (3, .int v3)]) hx hb dX9_reverseStep_5 hl (by decide) rfl (fun ls hl => ?_)
  cases r2 with
  | none =>
    dsimp only at h
    refine lv_aloadN hx hb dX9_reverseStep_7 (lv_at hl 0 rfl) ?_
    refine lv_ifnullN (tgt := 30) hx hb dX9_reverseStep_9 (by decide) ?_
    refine lv_bipush (v := (-2 : Int32)) hx hb dX9_reverseStep_30 (by decide) ?_
    cases h
    exact fy_retI C w dX9_reverseStep_32
  | some r2_ =>
    dsimp only at h
    refine lv_aload hx hb dX9_reverseStep_7 (lv_at hl 0 rfl) ?_
    refine lv_ifnull hx hb dX9_reverseStep_9 ?_
    refine lv_aload hx hb dX9_reverseStep_12 (lv_at hl 0 rfl) ?_
    refine lv_iload_n hx hb dX9_reverseStep_14 rfl (lv_at hl 3 rfl) ?_
    obtain ⟨r15, h15, h⟩ := fy_bd_some h
    refine fy_calI w (fy_runV (As := [.int v2]) (rest := []) C w (c_X0_hasLetter l g X_full (cls_X9_automatonIn  h2) h15) (X_o0 X_full (cls_X9_automatonIn  h2)) ksX9_110 rfl ⟨Nat.le_of_ble_eq_true rfl, Nat.le_of_ble_eq_true rfl⟩ rfl hl.1 rfl (Nat.le_of_ble_eq_true rfl) ⟨Nat.le_refl _, Nat.le_refl _⟩ dX9_reverseStep_15) (fun H locs w => ?_)
    refine lv_if_eq (tgt := 30) hx hb dX9_reverseStep_18 (by decide) (fun hc => ?_) (fun hc => ?_)
    · have h := fy_if_t h hc
      refine lv_bipush (v := (-2 : Int32)) hx hb dX9_reverseStep_30 (by decide) ?_
      cases h
      exact fy_retI C w dX9_reverseStep_32
    · have h := fy_if_f h hc
      refine lv_aload hx hb dX9_reverseStep_21 (lv_at hl 0 rfl) ?_
      refine lv_iload_n hx hb dX9_reverseStep_23 rfl (lv_at hl 4 rfl) ?_
      obtain ⟨r24, h24, h⟩ := fy_bd_some h
      refine fy_calI w (fy_runV (As := [.int v3]) (rest := []) C w (c_X0_hasSet l g X_full (cls_X9_automatonIn  h2) h24) (X_o0 X_full (cls_X9_automatonIn  h2)) ksX9_144 rfl ⟨Nat.le_of_ble_eq_true rfl, Nat.le_of_ble_eq_true rfl⟩ rfl hl.1 rfl (Nat.le_of_ble_eq_true rfl) ⟨Nat.le_refl _, Nat.le_refl _⟩ dX9_reverseStep_24) (fun H locs w => ?_)
      refine lv_if_ne (tgt := 33) hx hb dX9_reverseStep_27 (by decide) (fun hc => ?_) (fun hc => ?_)
      · have h := fy_if_f h hc
        refine lv_aload hx hb dX9_reverseStep_33 (lv_at hl 0 rfl) ?_
        refine lv_iload_n hx hb dX9_reverseStep_35 rfl (lv_at hl 3 rfl) ?_
        refine lv_iload_n hx hb dX9_reverseStep_36 rfl (lv_at hl 4 rfl) ?_
        obtain ⟨r37, h37, h⟩ := fy_bd_some h
        refine fy_calI w (fy_runV (As := [.int v2, .int v3]) (rest := []) C w (c_X0_statesBefore l g X_full (cls_X9_automatonIn  h2) h37) (X_o0 X_full (cls_X9_automatonIn  h2)) ksX9_205 rfl ⟨Nat.le_of_ble_eq_true rfl, Nat.le_of_ble_eq_true rfl⟩ rfl hl.1 rfl (Nat.le_of_ble_eq_true rfl) ⟨Nat.le_refl _, Nat.le_refl _⟩ dX9_reverseStep_37) (fun H locs w => ?_)
        cases h
        exact fy_retI C w dX9_reverseStep_40
      · have h := fy_if_t h hc
        refine lv_bipush (v := (-2 : Int32)) hx hb dX9_reverseStep_30 (by decide) ?_
        cases h
        exact fy_retI C w dX9_reverseStep_32

set_option maxHeartbeats 4000000 in
set_option maxRecDepth 100000 in
theorem c_X9_reverseStep (l : Launch) (g : fy_G) {S : fy_S} {v1 : Int32} {v2 : Int32} {v3 : Int32} {rr : Int32}  (h : X9_reverseStep S v1 v2 v3 = some rr) : fy_M g X_Y l yX9_reverseStep cX9_reverseStep 5 (some .int) (fy_rm 3) [.ref (g.2.2.1 0), .int v1, .int v2, .int v3] S (fy_QI g X_Y rr S) :=
  fy_entry (by decide +kernel) (Nat.le_of_ble_eq_true rfl) (fun p e s m args below meth c ls C w hl => t_X9_reverseStep C  h w hl)
end
