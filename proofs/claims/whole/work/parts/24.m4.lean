noncomputable section
def M_joined_73 (S : fy_S) (v1 : Int32) (v4 : Int32) (v5 : Int32) (z0 : Int32) (z1 : Int32) : Option (Int32) :=
  fy_bd (M_isWon S v1) fun r74 =>
  if z0 = r74 then (
    some (z1 + v4))
  else (
    some (z1 + v5))
def M_joined_39 (S : fy_S) (v0 : Int32) (v1 : Int32) (v3 : Int32) (v4 : Int32) (z0 : Int32) : Option (Int32) :=
  if v3 = 0 then (
    if v0 = (11 : Int32) then (
      some ((1 : Int32) + v4))
    else (
      some ((1 : Int32) + z0)))
  else (
    if v0 = (11 : Int32) then (
      M_joined_73 S v1 v4 z0 (1 : Int32) (1 : Int32))
    else (
      M_joined_73 S v1 v4 z0 (0 : Int32) (1 : Int32)))
def M_joined_27 (S : fy_S) (v0 : Int32) (v1 : Int32) (v2 : Int32) (v3 : Int32) (z0 : Int32) : Option (Int32) :=
  if v2 ≤ v1 then (
    M_joined_39 S v0 v1 v3 z0 v1)
  else (
    M_joined_39 S v0 v1 v3 z0 v2)
def M_joined_16 (S : fy_S) (v0 : Int32) (v1 : Int32) (v2 : Int32) (z0 : Int32) : Option (Int32) :=
  if v2 ≤ v1 then (
    M_joined_27 S v0 v1 v2 z0 v2)
  else (
    M_joined_27 S v0 v1 v2 z0 v1)
def M_joined (S : fy_S) (v0 : Int32) (v1 : Int32) (v2 : Int32) : Option (Int32) :=
  fy_bd (M_isWon S v1) fun r1 =>
  fy_bd (M_isWon S v2) fun r5 =>
  if r1 = r5 then (
    M_joined_16 S v0 v1 v2 (1 : Int32))
  else (
    M_joined_16 S v0 v1 v2 (0 : Int32))
set_option maxHeartbeats 4000000 in
set_option maxRecDepth 100000 in
theorem t_M_joined_73 {p : Program} {l : Launch} {e : Env} {s : State} {m : MethodId} {args : Array Value} {below : List Frame} {meth : Method} {c : Code} {g : fy_G} (C : fy_C g M_Y p s m args meth c yX10_joined.cls cX10_joined 6 (some .int)) {S : fy_S} {rr : Int32} : ∀ (v1 : Int32) (v4 : Int32) (v5 : Int32) (z0 : Int32) (z1 : Int32) (H : Heap) (locs : List Loc) (ls : Array Slot), M_joined_73 S v1 v4 v5 z0 z1 = some rr → fy_W g M_Y S s H locs → lv_has ls 6 [(1, .int v1), (4, .int v4), (5, .int v5)] → W p l e (fy_rm 1) s m args below meth c H locs 0 0 (MQ below (fy_QI g M_Y rr S) args s 0 0 (fy_A g M_Y)) (F0 m 73 ls [.int z0, .int z1]) := by
  obtain ⟨hx, hb, hr, hts, hown, hlk, hml, hK, hD, hE, hN⟩ := id C
  intro v1 v4 v5 z0 z1 H locs ls h w  hl
  rw [M_joined_73] at h
  refine lv_iload_n hx hb dX10_joined_73 rfl (lv_at hl 0 rfl) ?_
  obtain ⟨r74, h74, h⟩ := fy_bd_some h
  refine fy_calI w (fy_runS (As := [.int v1]) (rest := [.int z0, .int z1]) C w (c_M_isWon l g  h74) ksX10_252 ⟨Nat.le_of_ble_eq_true rfl, Nat.le_of_ble_eq_true rfl⟩ rfl hl.1 rfl (Nat.le_of_ble_eq_true rfl) ⟨Nat.le_refl _, Nat.le_refl _⟩ dX10_joined_74) (fun H locs w => ?_)
  refine lv_icmp_ne (tgt := 85) hx hb dX10_joined_77 (by decide) (fun hc => ?_) (fun hc => ?_)
  · have h := fy_if_f h hc
    refine lv_iload hx hb dX10_joined_85 (lv_at hl 2 rfl) ?_
    refine lv_iadd hx hb dX10_joined_87 ?_
    cases h
    exact fy_retI C w dX10_joined_88
  · have h := fy_if_t h hc
    refine lv_iload hx hb dX10_joined_80 (lv_at hl 1 rfl) ?_
    refine lv_goto (tgt := 87) hx hb dX10_joined_82 (by decide) ?_
    refine lv_iadd hx hb dX10_joined_87 ?_
    cases h
    exact fy_retI C w dX10_joined_88

set_option maxHeartbeats 4000000 in
set_option maxRecDepth 100000 in
theorem t_M_joined_39 {p : Program} {l : Launch} {e : Env} {s : State} {m : MethodId} {args : Array Value} {below : List Frame} {meth : Method} {c : Code} {g : fy_G} (C : fy_C g M_Y p s m args meth c yX10_joined.cls cX10_joined 6 (some .int)) {S : fy_S} {rr : Int32} : ∀ (v0 : Int32) (v1 : Int32) (v3 : Int32) (v4 : Int32) (z0 : Int32) (H : Heap) (locs : List Loc) (ls : Array Slot), M_joined_39 S v0 v1 v3 v4 z0 = some rr → fy_W g M_Y S s H locs → lv_has ls 6 [(0, .int v0), (1, .int v1), (3, .int v3), (4, .int v4)] → W p l e (fy_rm 1) s m args below meth c H locs 0 0 (MQ below (fy_QI g M_Y rr S) args s 0 0 (fy_A g M_Y)) (F0 m 39 ls [.int z0]) := by
  obtain ⟨hx, hb, hr, hts, hown, hlk, hml, hK, hD, hE, hN⟩ := id C
  intro v0 v1 v3 v4 z0 H locs ls h w  hl
  rw [M_joined_39] at h
  refine lv_istore (lv' := [(5, .int z0), (0, .int v0), (1, .int v1), (3, .int v3), (4, .int v4)]) hx hb dX10_joined_39 hl (by decide) rfl (fun ls hl => ?_)
  refine lv_iload_n hx hb dX10_joined_41 rfl (lv_at hl 3 rfl) ?_
  refine lv_if_ne (tgt := 61) hx hb dX10_joined_42 (by decide) (fun hc => ?_) (fun hc => ?_)
  · have h := fy_if_f h hc
    refine lv_iconst (v := (1 : Int32)) hx hb dX10_joined_61 (by decide) ?_
    refine lv_iload_n hx hb dX10_joined_62 rfl (lv_at hl 1 rfl) ?_
    refine lv_bipush (v := (11 : Int32)) hx hb dX10_joined_63 (by decide) ?_
    refine lv_icmp_ne (tgt := 72) hx hb dX10_joined_65 (by decide) (fun hc => ?_) (fun hc => ?_)
    · have h := fy_if_f h hc
      refine lv_iconst (v := (0 : Int32)) hx hb dX10_joined_72 (by decide) ?_
      exact t_M_joined_73 C _ _ _ _ _ _ _ _ h w (lv_sub hl [2, 4, 0] rfl)
    · have h := fy_if_t h hc
      refine lv_iconst (v := (1 : Int32)) hx hb dX10_joined_68 (by decide) ?_
      refine lv_goto (tgt := 73) hx hb dX10_joined_69 (by decide) ?_
      exact t_M_joined_73 C _ _ _ _ _ _ _ _ h w (lv_sub hl [2, 4, 0] rfl)
  · have h := fy_if_t h hc
    refine lv_iconst (v := (1 : Int32)) hx hb dX10_joined_45 (by decide) ?_
    refine lv_iload_n hx hb dX10_joined_46 rfl (lv_at hl 1 rfl) ?_
    refine lv_bipush (v := (11 : Int32)) hx hb dX10_joined_47 (by decide) ?_
    refine lv_icmp_ne (tgt := 57) hx hb dX10_joined_49 (by decide) (fun hc => ?_) (fun hc => ?_)
    · have h := fy_if_f h hc
      refine lv_iload hx hb dX10_joined_57 (lv_at hl 0 rfl) ?_
      refine lv_iadd hx hb dX10_joined_59 ?_
      cases h
      exact fy_retI C w dX10_joined_60
    · have h := fy_if_t h hc
      refine lv_iload hx hb dX10_joined_52 (lv_at hl 4 rfl) ?_
      refine lv_goto (tgt := 59) hx hb dX10_joined_54 (by decide) ?_
      refine lv_iadd hx hb dX10_joined_59 ?_
      cases h
      exact fy_retI C w dX10_joined_60

set_option maxHeartbeats 4000000 in
set_option maxRecDepth 100000 in
theorem t_M_joined_27 {p : Program} {l : Launch} {e : Env} {s : State} {m : MethodId} {args : Array Value} {below : List Frame} {meth : Method} {c : Code} {g : fy_G} (C : fy_C g M_Y p s m args meth c yX10_joined.cls cX10_joined 6 (some .int)) {S : fy_S} {rr : Int32} : ∀ (v0 : Int32) (v1 : Int32) (v2 : Int32) (v3 : Int32) (z0 : Int32) (H : Heap) (locs : List Loc) (ls : Array Slot), M_joined_27 S v0 v1 v2 v3 z0 = some rr → fy_W g M_Y S s H locs → lv_has ls 6 [(0, .int v0), (1, .int v1), (2, .int v2), (3, .int v3)] → W p l e (fy_rm 1) s m args below meth c H locs 0 0 (MQ below (fy_QI g M_Y rr S) args s 0 0 (fy_A g M_Y)) (F0 m 27 ls [.int z0]) := by
  obtain ⟨hx, hb, hr, hts, hown, hlk, hml, hK, hD, hE, hN⟩ := id C
  intro v0 v1 v2 v3 z0 H locs ls h w  hl
  rw [M_joined_27] at h
  refine lv_istore (lv' := [(4, .int z0), (0, .int v0), (1, .int v1), (2, .int v2), (3, .int v3)]) hx hb dX10_joined_27 hl (by decide) rfl (fun ls hl => ?_)
  refine lv_iload_n hx hb dX10_joined_29 rfl (lv_at hl 2 rfl) ?_
  refine lv_iload_n hx hb dX10_joined_30 rfl (lv_at hl 3 rfl) ?_
  refine lv_icmp_ge (tgt := 38) hx hb dX10_joined_31 (by decide) (fun hc => ?_) (fun hc => ?_)
  · have h := fy_if_t h hc
    refine lv_iload_n hx hb dX10_joined_38 rfl (lv_at hl 2 rfl) ?_
    exact t_M_joined_39 C _ _ _ _ _ _ _ _ h w (lv_sub hl [1, 2, 4, 0] rfl)
  · have h := fy_if_f h hc
    refine lv_iload_n hx hb dX10_joined_34 rfl (lv_at hl 3 rfl) ?_
    refine lv_goto (tgt := 39) hx hb dX10_joined_35 (by decide) ?_
    exact t_M_joined_39 C _ _ _ _ _ _ _ _ h w (lv_sub hl [1, 2, 4, 0] rfl)

set_option maxHeartbeats 4000000 in
set_option maxRecDepth 100000 in
theorem t_M_joined_16 {p : Program} {l : Launch} {e : Env} {s : State} {m : MethodId} {args : Array Value} {below : List Frame} {meth : Method} {c : Code} {g : fy_G} (C : fy_C g M_Y p s m args meth c yX10_joined.cls cX10_joined 6 (some .int)) {S : fy_S} {rr : Int32} : ∀ (v0 : Int32) (v1 : Int32) (v2 : Int32) (z0 : Int32) (H : Heap) (locs : List Loc) (ls : Array Slot), M_joined_16 S v0 v1 v2 z0 = some rr → fy_W g M_Y S s H locs → lv_has ls 6 [(0, .int v0), (1, .int v1), (2, .int v2)] → W p l e (fy_rm 1) s m args below meth c H locs 0 0 (MQ below (fy_QI g M_Y rr S) args s 0 0 (fy_A g M_Y)) (F0 m 16 ls [.int z0]) := by
  obtain ⟨hx, hb, hr, hts, hown, hlk, hml, hK, hD, hE, hN⟩ := id C
  intro v0 v1 v2 z0 H locs ls h w  hl
  rw [M_joined_16] at h
  refine lv_istore_n (lv' := [(3, .int z0), (0, .int v0), (1, .int v1), (2, .int v2)]) hx hb dX10_joined_16 rfl hl (by decide) rfl (fun ls hl => ?_)
  refine lv_iload_n hx hb dX10_joined_17 rfl (lv_at hl 2 rfl) ?_
  refine lv_iload_n hx hb dX10_joined_18 rfl (lv_at hl 3 rfl) ?_
  refine lv_icmp_ge (tgt := 26) hx hb dX10_joined_19 (by decide) (fun hc => ?_) (fun hc => ?_)
  · have h := fy_if_t h hc
    refine lv_iload_n hx hb dX10_joined_26 rfl (lv_at hl 3 rfl) ?_
    exact t_M_joined_27 C _ _ _ _ _ _ _ _ h w (lv_sub hl [1, 2, 3, 0] rfl)
  · have h := fy_if_f h hc
    refine lv_iload_n hx hb dX10_joined_22 rfl (lv_at hl 2 rfl) ?_
    refine lv_goto (tgt := 27) hx hb dX10_joined_23 (by decide) ?_
    exact t_M_joined_27 C _ _ _ _ _ _ _ _ h w (lv_sub hl [1, 2, 3, 0] rfl)

set_option maxHeartbeats 4000000 in
set_option maxRecDepth 100000 in
theorem t_M_joined {p : Program} {l : Launch} {e : Env} {s : State} {m : MethodId} {args : Array Value} {below : List Frame} {meth : Method} {c : Code} {g : fy_G} (C : fy_C g M_Y p s m args meth c yX10_joined.cls cX10_joined 6 (some .int)) {S : fy_S} {v0 : Int32} {v1 : Int32} {v2 : Int32} {rr : Int32}  {H : Heap} {locs : List Loc} {ls : Array Slot} (h : M_joined S v0 v1 v2 = some rr) (w : fy_W g M_Y S s H locs) (hl : lv_has ls 6 [(0, .int v0), (1, .int v1), (2, .int v2)]) : W p l e (fy_rm 1) s m args below meth c H locs 0 0 (MQ below (fy_QI g M_Y rr S) args s 0 0 (fy_A g M_Y)) (F0 m 0 ls []) := by
  obtain ⟨hx, hb, hr, hts, hown, hlk, hml, hK, hD, hE, hN⟩ := id C
  rw [M_joined] at h
  refine lv_iload_n hx hb dX10_joined_0 rfl (lv_at hl 1 rfl) ?_
  obtain ⟨r1, h1, h⟩ := fy_bd_some h
  refine fy_calI w (fy_runS (As := [.int v1]) (rest := []) C w (c_M_isWon l g  h1) ksX10_252 ⟨Nat.le_of_ble_eq_true rfl, Nat.le_of_ble_eq_true rfl⟩ rfl hl.1 rfl (Nat.le_of_ble_eq_true rfl) ⟨Nat.le_refl _, Nat.le_refl _⟩ dX10_joined_1) (fun H locs w => ?_)
  refine lv_iload_n hx hb dX10_joined_4 rfl (lv_at hl 2 rfl) ?_
  obtain ⟨r5, h5, h⟩ := fy_bd_some h
  refine fy_calI w (fy_runS (As := [.int v2]) (rest := [.int r1]) C w (c_M_isWon l g  h5) ksX10_252 ⟨Nat.le_of_ble_eq_true rfl, Nat.le_of_ble_eq_true rfl⟩ rfl hl.1 rfl (Nat.le_of_ble_eq_true rfl) ⟨Nat.le_refl _, Nat.le_refl _⟩ dX10_joined_5) (fun H locs w => ?_)
  refine lv_icmp_ne (tgt := 15) hx hb dX10_joined_8 (by decide) (fun hc => ?_) (fun hc => ?_)
  · have h := fy_if_f h hc
    refine lv_iconst (v := (0 : Int32)) hx hb dX10_joined_15 (by decide) ?_
    exact t_M_joined_16 C _ _ _ _ _ _ _ h w (lv_sub hl [0, 1, 2] rfl)
  · have h := fy_if_t h hc
    refine lv_iconst (v := (1 : Int32)) hx hb dX10_joined_11 (by decide) ?_
    refine lv_goto (tgt := 16) hx hb dX10_joined_12 (by decide) ?_
    exact t_M_joined_16 C _ _ _ _ _ _ _ h w (lv_sub hl [0, 1, 2] rfl)

set_option maxHeartbeats 4000000 in
set_option maxRecDepth 100000 in
theorem c_M_joined (l : Launch) (g : fy_G) {S : fy_S} {v0 : Int32} {v1 : Int32} {v2 : Int32} {rr : Int32}  (h : M_joined S v0 v1 v2 = some rr) : fy_M g M_Y l yX10_joined cX10_joined 6 (some .int) (fy_rm 1) [.int v0, .int v1, .int v2] S (fy_QI g M_Y rr S) :=
  fy_entry (by decide +kernel) (Nat.le_of_ble_eq_true rfl) (fun p e s m args below meth c ls C w hl => t_M_joined C  h w hl)
def M_findNodeRanks_116 (k21 : fy_S → Int32 → Int32 → Int32 → Int32 → Option (fy_S)) (S : fy_S) (v1 : Int32) (v2 : Int32) (v3 : Int32) (v4 : Int32) (z0 : Int32) (z1 : Int32) : Option (fy_S) :=
  fy_gd (fy_ix z1 40) <|
  fy_bl (fy_sI S 17 z1.toNatClampNeg z0) fun S116 =>
  fy_bl (v4 + (1 : Int32)) fun x117 =>
  k21 S116 v1 v2 v3 x117
def M_findNodeRanks_21 : Nat → fy_S → Int32 → Int32 → Int32 → Int32 → Option (fy_S)
  | 0, _, _, _, _, _ => none
  | fu + 1, S, v1, v2, v3, v4 =>
    fy_bd (M_sizeOf S v1 v2) fun r26 =>
    if r26 ≤ v4 then (
      some S)
    else (
      fy_gd (fy_ix (v3 + v4) 5320) <|
      fy_bl (S.1 6 (v3 + v4).toNatClampNeg) fun x41 =>
      if x41 < (10 : Int32) then (
        if x41 = (8 : Int32) then (
          M_findNodeRanks_116 (fun S v1 v2 v3 v4 => M_findNodeRanks_21 fu S v1 v2 v3 v4) S v1 v2 v3 v4 (0 : Int32) v4)
        else (
          if x41 = (9 : Int32) then (
            M_findNodeRanks_116 (fun S v1 v2 v3 v4 => M_findNodeRanks_21 fu S v1 v2 v3 v4) S v1 v2 v3 v4 (10000 : Int32) v4)
          else (
            fy_gd (fy_ix x41 8) <|
            M_findNodeRanks_116 (fun S v1 v2 v3 v4 => M_findNodeRanks_21 fu S v1 v2 v3 v4) S v1 v2 v3 v4 (S.1 15 x41.toNatClampNeg) v4)))
      else (
        fy_gd (fy_ix v4 40) <|
        fy_gd (fy_ix (S.1 10 v4.toNatClampNeg) 40) <|
        fy_gd (fy_ix (v4 - (1 : Int32)) 40) <|
        fy_bd (M_joined S x41 (S.1 17 (S.1 10 v4.toNatClampNeg).toNatClampNeg) (S.1 17 (v4 - (1 : Int32)).toNatClampNeg)) fun r79 =>
        M_findNodeRanks_116 (fun S v1 v2 v3 v4 => M_findNodeRanks_21 fu S v1 v2 v3 v4) S v1 v2 v3 v4 r79 v4))
def M_findNodeRanks (S : fy_S) (v1 : Int32) (v2 : Int32) : Option (fy_S) :=
  fy_bd (M_at S v1 v2) fun r3 =>
  fy_bd (M_sizeOf S v1 v2) fun r12 =>
  fy_bd (M_findParts S r3 r12) fun S15 =>
  M_findNodeRanks_21 fy_fu S15 v1 v2 r3 (0 : Int32)
set_option maxHeartbeats 4000000 in
set_option maxRecDepth 100000 in
theorem t_M_findNodeRanks_116 {p : Program} {l : Launch} {e : Env} {s : State} {m : MethodId} {args : Array Value} {below : List Frame} {meth : Method} {c : Code} {g : fy_G} (C : fy_C g M_Y p s m args meth c yX10_findNodeRanks.cls cX10_findNodeRanks 6 none) {Sr : fy_S}  {k21 : fy_S → Int32 → Int32 → Int32 → Int32 → Option (fy_S)} (hk21 : ∀ (S : fy_S) (v1 : Int32) (v2 : Int32) (v3 : Int32) (v4 : Int32) (H : Heap) (locs : List Loc) (ls : Array Slot), k21 S v1 v2 v3 v4 = some Sr → fy_W g M_Y S s H locs → lv_has ls 6 [(0, .ref (g.2.2.1 0)), (1, .int v1), (2, .int v2), (3, .int v3), (4, .int v4)] → W p l e (fy_rm 2) s m args below meth c H locs 0 0 (MQ below (fy_QV g M_Y Sr) args s 0 0 (fy_A g M_Y)) (F0 m 21 ls [])) : ∀ (S : fy_S) (v1 : Int32) (v2 : Int32) (v3 : Int32) (v4 : Int32) (z0 : Int32) (z1 : Int32) (H : Heap) (locs : List Loc) (ls : Array Slot), M_findNodeRanks_116 k21 S v1 v2 v3 v4 z0 z1 = some Sr → fy_W g M_Y S s H locs → lv_has ls 6 [(0, .ref (g.2.2.1 0)), (1, .int v1), (2, .int v2), (3, .int v3), (4, .int v4)] → W p l e (fy_rm 2) s m args below meth c H locs 0 0 (MQ below (fy_QV g M_Y Sr) args s 0 0 (fy_A g M_Y)) (F0 m 116 ls [.int z0, .int z1, .ref (g.2.2.1 17)]) := by
  obtain ⟨hx, hb, hr, hts, hown, hlk, hml, hK, hD, hE, hN⟩ := id C
  intro S v1 v2 v3 v4 z0 z1 H locs ls h w  hl
  rw [M_findNodeRanks_116] at h
  obtain ⟨g116, h⟩ := fy_gd_some h
  refine fy_iast C w M_a17 g116 dX10_findNodeRanks_116 (fun H locs w => ?_)
  obtain ⟨S116, e116⟩ : ∃ z, z = fy_sI S 17 z1.toNatClampNeg z0 := ⟨_, rfl⟩
  have h := fy_bl_some e116 h
  rw [← e116] at w
  obtain ⟨x117, e117⟩ : ∃ z : Int32, z = v4 + (1 : Int32) := ⟨_, rfl⟩
  have h := fy_bl_some e117 h
  refine lv_iinc (k := 4) (v := x117) (lv' := [(4, .int x117), (0, .ref (g.2.2.1 0)), (1, .int v1), (2, .int v2), (3, .int v3)]) hx hb dX10_findNodeRanks_117 hl rfl (by rw [e117]; rfl) (by decide) rfl (fun ls hl => ?_)
  refine lv_goto (tgt := 21) hx hb dX10_findNodeRanks_120 (by decide) ?_
  exact hk21 _ _ _ _ _ _ _ _ h w (lv_sub hl [1, 2, 3, 4, 0] rfl)

set_option maxHeartbeats 4000000 in
set_option maxRecDepth 100000 in
theorem t_M_findNodeRanks_21 {p : Program} {l : Launch} {e : Env} {s : State} {m : MethodId} {args : Array Value} {below : List Frame} {meth : Method} {c : Code} {g : fy_G} (C : fy_C g M_Y p s m args meth c yX10_findNodeRanks.cls cX10_findNodeRanks 6 none) {Sr : fy_S}  : ∀ (fu : Nat) (S : fy_S) (v1 : Int32) (v2 : Int32) (v3 : Int32) (v4 : Int32) (H : Heap) (locs : List Loc) (ls : Array Slot), M_findNodeRanks_21 fu S v1 v2 v3 v4 = some Sr → fy_W g M_Y S s H locs → lv_has ls 6 [(0, .ref (g.2.2.1 0)), (1, .int v1), (2, .int v2), (3, .int v3), (4, .int v4)] → W p l e (fy_rm 2) s m args below meth c H locs 0 0 (MQ below (fy_QV g M_Y Sr) args s 0 0 (fy_A g M_Y)) (F0 m 21 ls []) := by
  obtain ⟨hx, hb, hr, hts, hown, hlk, hml, hK, hD, hE, hN⟩ := id C
  intro fu
  induction fu with
  | zero => intro S v1 v2 v3 v4 H locs ls h; cases h
  | succ fu ih =>
    intro S v1 v2 v3 v4 H locs ls h w  hl
    rw [M_findNodeRanks_21] at h
    refine lv_iload hx hb dX10_findNodeRanks_21 (lv_at hl 4 rfl) ?_
    refine lv_aload_n hx hb dX10_findNodeRanks_23 rfl (lv_at hl 0 rfl) ?_
    refine lv_iload_n hx hb dX10_findNodeRanks_24 rfl (lv_at hl 1 rfl) ?_
    refine lv_iload_n hx hb dX10_findNodeRanks_25 rfl (lv_at hl 2 rfl) ?_
    obtain ⟨r26, h26, h⟩ := fy_bd_some h
    refine fy_calI w (fy_runV (As := [.int v1, .int v2]) (rest := [.int v4]) C w (c_M_sizeOf l g  h26) M_o ksX10_196 rfl ⟨Nat.le_of_ble_eq_true rfl, Nat.le_of_ble_eq_true rfl⟩ rfl hl.1 rfl (Nat.le_of_ble_eq_true rfl) ⟨Nat.le_refl _, Nat.le_refl _⟩ dX10_findNodeRanks_26) (fun H locs w => ?_)
    refine lv_icmp_ge (tgt := 123) hx hb dX10_findNodeRanks_29 (by decide) (fun hc => ?_) (fun hc => ?_)
    · have h := fy_if_t h hc
      cases h
      exact fy_retV C w dX10_findNodeRanks_123
    · have h := fy_if_f h hc
      refine lv_aload_n hx hb dX10_findNodeRanks_32 rfl (lv_at hl 0 rfl) ?_
      refine gfX10_25 C w dX10_findNodeRanks_33 ?_
      refine lv_iload_n hx hb dX10_findNodeRanks_36 rfl (lv_at hl 3 rfl) ?_
      refine lv_iload hx hb dX10_findNodeRanks_37 (lv_at hl 4 rfl) ?_
      refine lv_iadd hx hb dX10_findNodeRanks_39 ?_
      obtain ⟨g40, h⟩ := fy_gd_some h
      refine fy_iald C w M_a6 g40 dX10_findNodeRanks_40 ?_
      refine lv_topi (fun x41 e41 => ?_)
      have h := fy_bl_some e41 h
      refine lv_istore (lv' := [(5, .int x41), (0, .ref (g.2.2.1 0)), (1, .int v1), (2, .int v2), (3, .int v3), (4, .int v4)]) hx hb dX10_findNodeRanks_41 hl (by decide) rfl (fun ls hl => ?_)
      refine lv_aload_n hx hb dX10_findNodeRanks_43 rfl (lv_at hl 1 rfl) ?_
      refine gfX10_58 C w dX10_findNodeRanks_44 ?_
      refine lv_iload hx hb dX10_findNodeRanks_47 (lv_at hl 5 rfl) ?_
      refine lv_iload hx hb dX10_findNodeRanks_49 (lv_at hl 0 rfl) ?_
      refine lv_bipush (v := (10 : Int32)) hx hb dX10_findNodeRanks_51 (by decide) ?_
      refine lv_icmp_lt (tgt := 85) hx hb dX10_findNodeRanks_53 (by decide) (fun hc => ?_) (fun hc => ?_)
      · have h := fy_if_t h hc
        refine lv_iload hx hb dX10_findNodeRanks_85 (lv_at hl 0 rfl) ?_
        refine lv_bipush (v := (8 : Int32)) hx hb dX10_findNodeRanks_87 (by decide) ?_
        refine lv_icmp_ne (tgt := 96) hx hb dX10_findNodeRanks_89 (by decide) (fun hc => ?_) (fun hc => ?_)
        · have h := fy_if_f h hc
          refine lv_iload hx hb dX10_findNodeRanks_96 (lv_at hl 0 rfl) ?_
          refine lv_bipush (v := (9 : Int32)) hx hb dX10_findNodeRanks_98 (by decide) ?_
          refine lv_icmp_ne (tgt := 109) hx hb dX10_findNodeRanks_100 (by decide) (fun hc => ?_) (fun hc => ?_)
          · have h := fy_if_f h hc
            refine lv_aload_n hx hb dX10_findNodeRanks_109 rfl (lv_at hl 1 rfl) ?_
            refine gfX10_52 C w dX10_findNodeRanks_110 ?_
            refine lv_iload hx hb dX10_findNodeRanks_113 (lv_at hl 0 rfl) ?_
            obtain ⟨g115, h⟩ := fy_gd_some h
            refine fy_iald C w M_a15 g115 dX10_findNodeRanks_115 ?_
            exact t_M_findNodeRanks_116 C ih _ _ _ _ _ _ _ _ _ _ h w (lv_sub hl [1, 2, 3, 4, 5] rfl)
          · have h := fy_if_t h hc
            refine lv_sipush (v := (10000 : Int32)) hx hb dX10_findNodeRanks_103 (by decide) ?_
            refine lv_goto (tgt := 116) hx hb dX10_findNodeRanks_106 (by decide) ?_
            exact t_M_findNodeRanks_116 C ih _ _ _ _ _ _ _ _ _ _ h w (lv_sub hl [1, 2, 3, 4, 5] rfl)
        · have h := fy_if_t h hc
          refine lv_iconst (v := (0 : Int32)) hx hb dX10_findNodeRanks_92 (by decide) ?_
          refine lv_goto (tgt := 116) hx hb dX10_findNodeRanks_93 (by decide) ?_
          exact t_M_findNodeRanks_116 C ih _ _ _ _ _ _ _ _ _ _ h w (lv_sub hl [1, 2, 3, 4, 5] rfl)
      · have h := fy_if_f h hc
        refine lv_iload hx hb dX10_findNodeRanks_56 (lv_at hl 0 rfl) ?_
        refine lv_aload_n hx hb dX10_findNodeRanks_58 rfl (lv_at hl 1 rfl) ?_
        refine gfX10_58 C w dX10_findNodeRanks_59 ?_
        refine lv_aload_n hx hb dX10_findNodeRanks_62 rfl (lv_at hl 1 rfl) ?_
        refine gfX10_37 C w dX10_findNodeRanks_63 ?_
        refine lv_iload hx hb dX10_findNodeRanks_66 (lv_at hl 5 rfl) ?_
        obtain ⟨g68, h⟩ := fy_gd_some h
        refine fy_iald C w M_a10 g68 dX10_findNodeRanks_68 ?_
        obtain ⟨g69, h⟩ := fy_gd_some h
        refine fy_iald C w M_a17 g69 dX10_findNodeRanks_69 ?_
        refine lv_aload_n hx hb dX10_findNodeRanks_70 rfl (lv_at hl 1 rfl) ?_
        refine gfX10_58 C w dX10_findNodeRanks_71 ?_
        refine lv_iload hx hb dX10_findNodeRanks_74 (lv_at hl 5 rfl) ?_
        refine lv_iconst (v := (1 : Int32)) hx hb dX10_findNodeRanks_76 (by decide) ?_
        refine lv_isub hx hb dX10_findNodeRanks_77 ?_
        obtain ⟨g78, h⟩ := fy_gd_some h
        refine fy_iald C w M_a17 g78 dX10_findNodeRanks_78 ?_
        obtain ⟨r79, h79, h⟩ := fy_bd_some h
        refine fy_calI w (fy_runS (As := [.int x41, .int (S.1 17 (S.1 10 v4.toNatClampNeg).toNatClampNeg), .int (S.1 17 (v4 - (1 : Int32)).toNatClampNeg)]) (rest := [.int v4, .ref (g.2.2.1 17)]) C w (c_M_joined l g  h79) ksX10_255 ⟨Nat.le_of_ble_eq_true rfl, Nat.le_of_ble_eq_true rfl⟩ rfl hl.1 rfl (Nat.le_of_ble_eq_true rfl) ⟨Nat.le_refl _, Nat.le_refl _⟩ dX10_findNodeRanks_79) (fun H locs w => ?_)
        refine lv_goto (tgt := 116) hx hb dX10_findNodeRanks_82 (by decide) ?_
        exact t_M_findNodeRanks_116 C ih _ _ _ _ _ _ _ _ _ _ h w (lv_sub hl [1, 2, 3, 4, 5] rfl)

set_option maxHeartbeats 4000000 in
set_option maxRecDepth 100000 in
theorem t_M_findNodeRanks {p : Program} {l : Launch} {e : Env} {s : State} {m : MethodId} {args : Array Value} {below : List Frame} {meth : Method} {c : Code} {g : fy_G} (C : fy_C g M_Y p s m args meth c yX10_findNodeRanks.cls cX10_findNodeRanks 6 none) {S : fy_S} {v1 : Int32} {v2 : Int32} {Sr : fy_S}   {H : Heap} {locs : List Loc} {ls : Array Slot} (h : M_findNodeRanks S v1 v2 = some Sr) (w : fy_W g M_Y S s H locs) (hl : lv_has ls 6 [(0, .ref (g.2.2.1 0)), (1, .int v1), (2, .int v2)]) : W p l e (fy_rm 2) s m args below meth c H locs 0 0 (MQ below (fy_QV g M_Y Sr) args s 0 0 (fy_A g M_Y)) (F0 m 0 ls []) := by
  obtain ⟨hx, hb, hr, hts, hown, hlk, hml, hK, hD, hE, hN⟩ := id C
  rw [M_findNodeRanks] at h
  refine lv_aload_n hx hb dX10_findNodeRanks_0 rfl (lv_at hl 0 rfl) ?_
  refine lv_iload_n hx hb dX10_findNodeRanks_1 rfl (lv_at hl 1 rfl) ?_
  refine lv_iload_n hx hb dX10_findNodeRanks_2 rfl (lv_at hl 2 rfl) ?_
  obtain ⟨r3, h3, h⟩ := fy_bd_some h
  refine fy_calI w (fy_runV (As := [.int v1, .int v2]) (rest := []) C w (c_M_at l g  h3) M_o ksX10_119 rfl ⟨Nat.le_of_ble_eq_true rfl, Nat.le_of_ble_eq_true rfl⟩ rfl hl.1 rfl (Nat.le_of_ble_eq_true rfl) ⟨Nat.le_refl _, Nat.le_refl _⟩ dX10_findNodeRanks_3) (fun H locs w => ?_)
  refine lv_istore_n (lv' := [(3, .int r3), (0, .ref (g.2.2.1 0)), (1, .int v1), (2, .int v2)]) hx hb dX10_findNodeRanks_6 rfl hl (by decide) rfl (fun ls hl => ?_)
  refine lv_aload_n hx hb dX10_findNodeRanks_7 rfl (lv_at hl 1 rfl) ?_
  refine lv_iload_n hx hb dX10_findNodeRanks_8 rfl (lv_at hl 0 rfl) ?_
  refine lv_aload_n hx hb dX10_findNodeRanks_9 rfl (lv_at hl 1 rfl) ?_
  refine lv_iload_n hx hb dX10_findNodeRanks_10 rfl (lv_at hl 2 rfl) ?_
  refine lv_iload_n hx hb dX10_findNodeRanks_11 rfl (lv_at hl 3 rfl) ?_
  obtain ⟨r12, h12, h⟩ := fy_bd_some h
  refine fy_calI w (fy_runV (As := [.int v1, .int v2]) (rest := [.int r3, .ref (g.2.2.1 0)]) C w (c_M_sizeOf l g  h12) M_o ksX10_196 rfl ⟨Nat.le_of_ble_eq_true rfl, Nat.le_of_ble_eq_true rfl⟩ rfl hl.1 rfl (Nat.le_of_ble_eq_true rfl) ⟨Nat.le_refl _, Nat.le_refl _⟩ dX10_findNodeRanks_12) (fun H locs w => ?_)
  obtain ⟨S15, h15, h⟩ := fy_bd_some h
  refine fy_calV w (fy_runV (As := [.int r3, .int r12]) (rest := []) C w (c_M_findParts l g  h15) M_o ksX10_199 rfl ⟨Nat.le_of_ble_eq_true rfl, Nat.le_of_ble_eq_true rfl⟩ rfl hl.1 rfl (Nat.le_of_ble_eq_true rfl) ⟨Nat.le_refl _, Nat.le_refl _⟩ dX10_findNodeRanks_15) (fun H locs w => ?_)
  refine lv_iconst (v := (0 : Int32)) hx hb dX10_findNodeRanks_18 (by decide) ?_
  refine lv_istore (lv' := [(4, .int (0 : Int32)), (3, .int r3), (0, .ref (g.2.2.1 0)), (1, .int v1), (2, .int v2)]) hx hb dX10_findNodeRanks_19 hl (by decide) rfl (fun ls hl => ?_)
  exact t_M_findNodeRanks_21 C fy_fu _ _ _ _ _ _ _ _ h w (lv_sub hl [2, 3, 4, 1, 0] rfl)

set_option maxHeartbeats 4000000 in
set_option maxRecDepth 100000 in
theorem c_M_findNodeRanks (l : Launch) (g : fy_G) {S : fy_S} {v1 : Int32} {v2 : Int32} {Sr : fy_S}   (h : M_findNodeRanks S v1 v2 = some Sr) : fy_M g M_Y l yX10_findNodeRanks cX10_findNodeRanks 6 none (fy_rm 2) [.ref (g.2.2.1 0), .int v1, .int v2] S (fy_QV g M_Y Sr) :=
  fy_entry (by decide +kernel) (Nat.le_of_ble_eq_true rfl) (fun p e s m args below meth c ls C w hl => t_M_findNodeRanks C  h w hl)
def M_findRanks_123 (k52 : fy_S → Int32 → Int32 → Int32 → Option (fy_S)) : Nat → fy_S → Int32 → Int32 → Int32 → Int32 → Option (fy_S)
  | 0, _, _, _, _, _ => none
  | fu + 1, S, v1, v2, v3, v4 =>
    fy_gd (fy_ix v1 7) <|
    if (S.1 1 v1.toNatClampNeg) ≤ v4 then (
      fy_bl (v3 + (-1 : Int32)) fun x154 =>
      k52 S v1 v2 x154)
    else (
      fy_gd (fy_ix v4 8) <|
      fy_gd (fy_ix v4 8) <|
      fy_bl (fy_sI S 15 v4.toNatClampNeg (S.1 16 v4.toNatClampNeg)) fun S147 =>
      fy_bl (v4 + (1 : Int32)) fun x148 =>
      M_findRanks_123 k52 fu S147 v1 v2 v3 x148)
def M_findRanks_60 (k52 : fy_S → Int32 → Int32 → Int32 → Option (fy_S)) : Nat → fy_S → Int32 → Int32 → Int32 → Int32 → Option (fy_S)
  | 0, _, _, _, _, _ => none
  | fu + 1, S, v1, v2, v3, v4 =>
    fy_gd (fy_ix v1 7) <|
    if (S.1 1 v1.toNatClampNeg) ≤ v4 then (
      M_findRanks_123 k52 fy_fu S v1 v2 v3 (0 : Int32))
    else (
      fy_gd (fy_ix v3 12) <|
      fy_bd (M_formulaOf S v4 (S.1 14 v3.toNatClampNeg)) fun r79 =>
      fy_bd (M_findNodeRanks S v1 r79) fun S88 =>
      fy_bd (M_sizeOf S88 v1 r79) fun r106 =>
      fy_gd (fy_ix (r106 - (1 : Int32)) 40) <|
      fy_gd (fy_ix v4 8) <|
      fy_bl (fy_sI S88 16 v4.toNatClampNeg ((1 : Int32) + (S88.1 17 (r106 - (1 : Int32)).toNatClampNeg))) fun S113 =>
      fy_bl (v4 + (1 : Int32)) fun x114 =>
      M_findRanks_60 k52 fu S113 v1 v2 v3 x114)
def M_findRanks_52 : Nat → fy_S → Int32 → Int32 → Int32 → Option (fy_S)
  | 0, _, _, _, _ => none
  | fu + 1, S, v1, v2, v3 =>
    if v3 < v2 then (
      some S)
    else (
      M_findRanks_60 (fun S v1 v2 v3 => M_findRanks_52 fu S v1 v2 v3) fy_fu S v1 v2 v3 (0 : Int32))
def M_findRanks_38 (k2 : fy_S → Int32 → Int32 → Int32 → Option (fy_S)) (S : fy_S) (v1 : Int32) (v2 : Int32) (v3 : Int32) (z0 : Int32) (z1 : Int32) : Option (fy_S) :=
  fy_gd (fy_ix z1 8) <|
  fy_bl (fy_sI S 15 z1.toNatClampNeg z0) fun S38 =>
  fy_bl (v3 + (1 : Int32)) fun x39 =>
  k2 S38 v1 v2 x39
def M_findRanks_2 : Nat → fy_S → Int32 → Int32 → Int32 → Option (fy_S)
  | 0, _, _, _, _ => none
  | fu + 1, S, v1, v2, v3 =>
    fy_gd (fy_ix v1 7) <|
    if (S.1 1 v1.toNatClampNeg) ≤ v3 then (
      fy_bl ((S.1 0 25) - (1 : Int32)) fun x51 =>
      M_findRanks_52 fy_fu S v1 v2 x51)
    else (
      fy_gd (fy_ix v1 7) <|
      if (((S.1 3 v1.toNatClampNeg) >>> (v3 &&& 31)) &&& (1 : Int32)) = (1 : Int32) then (
        M_findRanks_38 (fun S v1 v2 v3 => M_findRanks_2 fu S v1 v2 v3) S v1 v2 v3 (0 : Int32) v3)
      else (
        M_findRanks_38 (fun S v1 v2 v3 => M_findRanks_2 fu S v1 v2 v3) S v1 v2 v3 (10000 : Int32) v3))
def M_findRanks (S : fy_S) (v1 : Int32) (v2 : Int32) : Option (fy_S) :=
  M_findRanks_2 fy_fu S v1 v2 (0 : Int32)
set_option maxHeartbeats 4000000 in
set_option maxRecDepth 100000 in
theorem t_M_findRanks_123 {p : Program} {l : Launch} {e : Env} {s : State} {m : MethodId} {args : Array Value} {below : List Frame} {meth : Method} {c : Code} {g : fy_G} (C : fy_C g M_Y p s m args meth c yX10_findRanks.cls cX10_findRanks 6 none) {Sr : fy_S}  {k52 : fy_S → Int32 → Int32 → Int32 → Option (fy_S)} (hk52 : ∀ (S : fy_S) (v1 : Int32) (v2 : Int32) (v3 : Int32) (H : Heap) (locs : List Loc) (ls : Array Slot), k52 S v1 v2 v3 = some Sr → fy_W g M_Y S s H locs → lv_has ls 6 [(0, .ref (g.2.2.1 0)), (1, .int v1), (2, .int v2), (3, .int v3)] → W p l e (fy_rm 3) s m args below meth c H locs 0 0 (MQ below (fy_QV g M_Y Sr) args s 0 0 (fy_A g M_Y)) (F0 m 52 ls [])) : ∀ (fu : Nat) (S : fy_S) (v1 : Int32) (v2 : Int32) (v3 : Int32) (v4 : Int32) (H : Heap) (locs : List Loc) (ls : Array Slot), M_findRanks_123 k52 fu S v1 v2 v3 v4 = some Sr → fy_W g M_Y S s H locs → lv_has ls 6 [(0, .ref (g.2.2.1 0)), (1, .int v1), (2, .int v2), (3, .int v3), (4, .int v4)] → W p l e (fy_rm 3) s m args below meth c H locs 0 0 (MQ below (fy_QV g M_Y Sr) args s 0 0 (fy_A g M_Y)) (F0 m 123 ls []) := by
  obtain ⟨hx, hb, hr, hts, hown, hlk, hml, hK, hD, hE, hN⟩ := id C
  intro fu
  induction fu with
  | zero => intro S v1 v2 v3 v4 H locs ls h; cases h
  | succ fu ih =>
    intro S v1 v2 v3 v4 H locs ls h w  hl
    rw [M_findRanks_123] at h
    refine lv_iload hx hb dX10_findRanks_123 (lv_at hl 4 rfl) ?_
    refine lv_aload_n hx hb dX10_findRanks_125 rfl (lv_at hl 0 rfl) ?_
    refine gfX10_7 C w dX10_findRanks_126 ?_
    refine lv_iload_n hx hb dX10_findRanks_129 rfl (lv_at hl 1 rfl) ?_
    obtain ⟨g130, h⟩ := fy_gd_some h
    refine fy_iald C w M_a1 g130 dX10_findRanks_130 ?_
    refine lv_icmp_ge (tgt := 154) hx hb dX10_findRanks_131 (by decide) (fun hc => ?_) (fun hc => ?_)
    · have h := fy_if_t h hc
      obtain ⟨x154, e154⟩ : ∃ z : Int32, z = v3 + (-1 : Int32) := ⟨_, rfl⟩
      have h := fy_bl_some e154 h
      refine lv_iinc (k := 3) (v := x154) (lv' := [(3, .int x154), (0, .ref (g.2.2.1 0)), (1, .int v1), (2, .int v2), (4, .int v4)]) hx hb dX10_findRanks_154 hl rfl (by rw [e154]; rfl) (by decide) rfl (fun ls hl => ?_)
      refine lv_goto (tgt := 52) hx hb dX10_findRanks_157 (by decide) ?_
      exact hk52 _ _ _ _ _ _ _ h w (lv_sub hl [1, 2, 3, 0] rfl)
    · have h := fy_if_f h hc
      refine lv_aload_n hx hb dX10_findRanks_134 rfl (lv_at hl 0 rfl) ?_
      refine gfX10_52 C w dX10_findRanks_135 ?_
      refine lv_iload hx hb dX10_findRanks_138 (lv_at hl 4 rfl) ?_
      refine lv_aload_n hx hb dX10_findRanks_140 rfl (lv_at hl 0 rfl) ?_
      refine gfX10_55 C w dX10_findRanks_141 ?_
      refine lv_iload hx hb dX10_findRanks_144 (lv_at hl 4 rfl) ?_
      obtain ⟨g146, h⟩ := fy_gd_some h
      refine fy_iald C w M_a16 g146 dX10_findRanks_146 ?_
      obtain ⟨g147, h⟩ := fy_gd_some h
      refine fy_iast C w M_a15 g147 dX10_findRanks_147 (fun H locs w => ?_)
      obtain ⟨S147, e147⟩ : ∃ z, z = fy_sI S 15 v4.toNatClampNeg (S.1 16 v4.toNatClampNeg) := ⟨_, rfl⟩
      have h := fy_bl_some e147 h
      rw [← e147] at w
      obtain ⟨x148, e148⟩ : ∃ z : Int32, z = v4 + (1 : Int32) := ⟨_, rfl⟩
      have h := fy_bl_some e148 h
      refine lv_iinc (k := 4) (v := x148) (lv' := [(4, .int x148), (0, .ref (g.2.2.1 0)), (1, .int v1), (2, .int v2), (3, .int v3)]) hx hb dX10_findRanks_148 hl rfl (by rw [e148]; rfl) (by decide) rfl (fun ls hl => ?_)
      refine lv_goto (tgt := 123) hx hb dX10_findRanks_151 (by decide) ?_
      exact ih _ _ _ _ _ _ _ _ h w (lv_sub hl [1, 2, 3, 4, 0] rfl)

set_option maxHeartbeats 4000000 in
set_option maxRecDepth 100000 in
theorem t_M_findRanks_60 {p : Program} {l : Launch} {e : Env} {s : State} {m : MethodId} {args : Array Value} {below : List Frame} {meth : Method} {c : Code} {g : fy_G} (C : fy_C g M_Y p s m args meth c yX10_findRanks.cls cX10_findRanks 6 none) {Sr : fy_S}  {k52 : fy_S → Int32 → Int32 → Int32 → Option (fy_S)} (hk52 : ∀ (S : fy_S) (v1 : Int32) (v2 : Int32) (v3 : Int32) (H : Heap) (locs : List Loc) (ls : Array Slot), k52 S v1 v2 v3 = some Sr → fy_W g M_Y S s H locs → lv_has ls 6 [(0, .ref (g.2.2.1 0)), (1, .int v1), (2, .int v2), (3, .int v3)] → W p l e (fy_rm 3) s m args below meth c H locs 0 0 (MQ below (fy_QV g M_Y Sr) args s 0 0 (fy_A g M_Y)) (F0 m 52 ls [])) : ∀ (fu : Nat) (S : fy_S) (v1 : Int32) (v2 : Int32) (v3 : Int32) (v4 : Int32) (H : Heap) (locs : List Loc) (ls : Array Slot), M_findRanks_60 k52 fu S v1 v2 v3 v4 = some Sr → fy_W g M_Y S s H locs → lv_has ls 6 [(0, .ref (g.2.2.1 0)), (1, .int v1), (2, .int v2), (3, .int v3), (4, .int v4)] → W p l e (fy_rm 3) s m args below meth c H locs 0 0 (MQ below (fy_QV g M_Y Sr) args s 0 0 (fy_A g M_Y)) (F0 m 60 ls []) := by
  obtain ⟨hx, hb, hr, hts, hown, hlk, hml, hK, hD, hE, hN⟩ := id C
  intro fu
  induction fu with
  | zero => intro S v1 v2 v3 v4 H locs ls h; cases h
  | succ fu ih =>
    intro S v1 v2 v3 v4 H locs ls h w  hl
    rw [M_findRanks_60] at h
    refine lv_iload hx hb dX10_findRanks_60 (lv_at hl 4 rfl) ?_
    refine lv_aload_n hx hb dX10_findRanks_62 rfl (lv_at hl 0 rfl) ?_
    refine gfX10_7 C w dX10_findRanks_63 ?_
    refine lv_iload_n hx hb dX10_findRanks_66 rfl (lv_at hl 1 rfl) ?_
    obtain ⟨g67, h⟩ := fy_gd_some h
    refine fy_iald C w M_a1 g67 dX10_findRanks_67 ?_
    refine lv_icmp_ge (tgt := 120) hx hb dX10_findRanks_68 (by decide) (fun hc => ?_) (fun hc => ?_)
    · have h := fy_if_t h hc
      refine lv_iconst (v := (0 : Int32)) hx hb dX10_findRanks_120 (by decide) ?_
      refine lv_istore (lv' := [(4, .int (0 : Int32)), (0, .ref (g.2.2.1 0)), (1, .int v1), (2, .int v2), (3, .int v3)]) hx hb dX10_findRanks_121 hl (by decide) rfl (fun ls hl => ?_)
      exact t_M_findRanks_123 C hk52 fy_fu _ _ _ _ _ _ _ _ h w (lv_sub hl [1, 2, 3, 4, 0] rfl)
    · have h := fy_if_f h hc
      refine lv_iload hx hb dX10_findRanks_71 (lv_at hl 4 rfl) ?_
      refine lv_aload_n hx hb dX10_findRanks_73 rfl (lv_at hl 0 rfl) ?_
      refine gfX10_49 C w dX10_findRanks_74 ?_
      refine lv_iload_n hx hb dX10_findRanks_77 rfl (lv_at hl 3 rfl) ?_
      obtain ⟨g78, h⟩ := fy_gd_some h
      refine fy_iald C w M_a14 g78 dX10_findRanks_78 ?_
      obtain ⟨r79, h79, h⟩ := fy_bd_some h
      refine fy_calI w (fy_runS (As := [.int v4, .int (S.1 14 v3.toNatClampNeg)]) (rest := []) C w (c_M_formulaOf l g  h79) ksX10_176 ⟨Nat.le_of_ble_eq_true rfl, Nat.le_of_ble_eq_true rfl⟩ rfl hl.1 rfl (Nat.le_of_ble_eq_true rfl) ⟨Nat.le_refl _, Nat.le_refl _⟩ dX10_findRanks_79) (fun H locs w => ?_)
      refine lv_istore (lv' := [(5, .int r79), (0, .ref (g.2.2.1 0)), (1, .int v1), (2, .int v2), (3, .int v3), (4, .int v4)]) hx hb dX10_findRanks_82 hl (by decide) rfl (fun ls hl => ?_)
      refine lv_aload_n hx hb dX10_findRanks_84 rfl (lv_at hl 1 rfl) ?_
      refine lv_iload_n hx hb dX10_findRanks_85 rfl (lv_at hl 2 rfl) ?_
      refine lv_iload hx hb dX10_findRanks_86 (lv_at hl 0 rfl) ?_
      obtain ⟨S88, h88, h⟩ := fy_bd_some h
      refine fy_calV w (fy_runV (As := [.int v1, .int r79]) (rest := []) C w (c_M_findNodeRanks l g  h88) M_o ksX10_258 rfl ⟨Nat.le_of_ble_eq_true rfl, Nat.le_of_ble_eq_true rfl⟩ rfl hl.1 rfl (Nat.le_of_ble_eq_true rfl) ⟨Nat.le_refl _, Nat.le_refl _⟩ dX10_findRanks_88) (fun H locs w => ?_)
      refine lv_aload_n hx hb dX10_findRanks_91 rfl (lv_at hl 1 rfl) ?_
      refine gfX10_55 C w dX10_findRanks_92 ?_
      refine lv_iload hx hb dX10_findRanks_95 (lv_at hl 5 rfl) ?_
      refine lv_iconst (v := (1 : Int32)) hx hb dX10_findRanks_97 (by decide) ?_
      refine lv_aload_n hx hb dX10_findRanks_98 rfl (lv_at hl 1 rfl) ?_
      refine gfX10_58 C w dX10_findRanks_99 ?_
      refine lv_aload_n hx hb dX10_findRanks_102 rfl (lv_at hl 1 rfl) ?_
      refine lv_iload_n hx hb dX10_findRanks_103 rfl (lv_at hl 2 rfl) ?_
      refine lv_iload hx hb dX10_findRanks_104 (lv_at hl 0 rfl) ?_
      obtain ⟨r106, h106, h⟩ := fy_bd_some h
      refine fy_calI w (fy_runV (As := [.int v1, .int r79]) (rest := [.ref (g.2.2.1 17), .int (1 : Int32), .int v4, .ref (g.2.2.1 16)]) C w (c_M_sizeOf l g  h106) M_o ksX10_196 rfl ⟨Nat.le_of_ble_eq_true rfl, Nat.le_of_ble_eq_true rfl⟩ rfl hl.1 rfl (Nat.le_of_ble_eq_true rfl) ⟨Nat.le_refl _, Nat.le_refl _⟩ dX10_findRanks_106) (fun H locs w => ?_)
      refine lv_iconst (v := (1 : Int32)) hx hb dX10_findRanks_109 (by decide) ?_
      refine lv_isub hx hb dX10_findRanks_110 ?_
      obtain ⟨g111, h⟩ := fy_gd_some h
      refine fy_iald C w M_a17 g111 dX10_findRanks_111 ?_
      refine lv_iadd hx hb dX10_findRanks_112 ?_
      obtain ⟨g113, h⟩ := fy_gd_some h
      refine fy_iast C w M_a16 g113 dX10_findRanks_113 (fun H locs w => ?_)
      obtain ⟨S113, e113⟩ : ∃ z, z = fy_sI S88 16 v4.toNatClampNeg ((1 : Int32) + (S88.1 17 (r106 - (1 : Int32)).toNatClampNeg)) := ⟨_, rfl⟩
      have h := fy_bl_some e113 h
      rw [← e113] at w
      obtain ⟨x114, e114⟩ : ∃ z : Int32, z = v4 + (1 : Int32) := ⟨_, rfl⟩
      have h := fy_bl_some e114 h
      refine lv_iinc (k := 5) (v := x114) (lv' := [(4, .int x114), (5, .int r79), (0, .ref (g.2.2.1 0)), (1, .int v1), (2, .int v2), (3, .int v3)]) hx hb dX10_findRanks_114 hl rfl (by rw [e114]; rfl) (by decide) rfl (fun ls hl => ?_)
      refine lv_goto (tgt := 60) hx hb dX10_findRanks_117 (by decide) ?_
      exact ih _ _ _ _ _ _ _ _ h w (lv_sub hl [2, 3, 4, 5, 0] rfl)

set_option maxHeartbeats 4000000 in
set_option maxRecDepth 100000 in
theorem t_M_findRanks_52 {p : Program} {l : Launch} {e : Env} {s : State} {m : MethodId} {args : Array Value} {below : List Frame} {meth : Method} {c : Code} {g : fy_G} (C : fy_C g M_Y p s m args meth c yX10_findRanks.cls cX10_findRanks 6 none) {Sr : fy_S}  : ∀ (fu : Nat) (S : fy_S) (v1 : Int32) (v2 : Int32) (v3 : Int32) (H : Heap) (locs : List Loc) (ls : Array Slot), M_findRanks_52 fu S v1 v2 v3 = some Sr → fy_W g M_Y S s H locs → lv_has ls 6 [(0, .ref (g.2.2.1 0)), (1, .int v1), (2, .int v2), (3, .int v3)] → W p l e (fy_rm 3) s m args below meth c H locs 0 0 (MQ below (fy_QV g M_Y Sr) args s 0 0 (fy_A g M_Y)) (F0 m 52 ls []) := by
  obtain ⟨hx, hb, hr, hts, hown, hlk, hml, hK, hD, hE, hN⟩ := id C
  intro fu
  induction fu with
  | zero => intro S v1 v2 v3 H locs ls h; cases h
  | succ fu ih =>
    intro S v1 v2 v3 H locs ls h w  hl
    rw [M_findRanks_52] at h
    refine lv_iload_n hx hb dX10_findRanks_52 rfl (lv_at hl 3 rfl) ?_
    refine lv_iload_n hx hb dX10_findRanks_53 rfl (lv_at hl 2 rfl) ?_
    refine lv_icmp_lt (tgt := 160) hx hb dX10_findRanks_54 (by decide) (fun hc => ?_) (fun hc => ?_)
    · have h := fy_if_t h hc
      cases h
      exact fy_retV C w dX10_findRanks_160
    · have h := fy_if_f h hc
      refine lv_iconst (v := (0 : Int32)) hx hb dX10_findRanks_57 (by decide) ?_
      refine lv_istore (lv' := [(4, .int (0 : Int32)), (0, .ref (g.2.2.1 0)), (1, .int v1), (2, .int v2), (3, .int v3)]) hx hb dX10_findRanks_58 hl (by decide) rfl (fun ls hl => ?_)
      exact t_M_findRanks_60 C ih fy_fu _ _ _ _ _ _ _ _ h w (lv_sub hl [1, 2, 3, 4, 0] rfl)

set_option maxHeartbeats 4000000 in
set_option maxRecDepth 100000 in
theorem t_M_findRanks_38 {p : Program} {l : Launch} {e : Env} {s : State} {m : MethodId} {args : Array Value} {below : List Frame} {meth : Method} {c : Code} {g : fy_G} (C : fy_C g M_Y p s m args meth c yX10_findRanks.cls cX10_findRanks 6 none) {Sr : fy_S}  {k2 : fy_S → Int32 → Int32 → Int32 → Option (fy_S)} (hk2 : ∀ (S : fy_S) (v1 : Int32) (v2 : Int32) (v3 : Int32) (H : Heap) (locs : List Loc) (ls : Array Slot), k2 S v1 v2 v3 = some Sr → fy_W g M_Y S s H locs → lv_has ls 6 [(0, .ref (g.2.2.1 0)), (1, .int v1), (2, .int v2), (3, .int v3)] → W p l e (fy_rm 3) s m args below meth c H locs 0 0 (MQ below (fy_QV g M_Y Sr) args s 0 0 (fy_A g M_Y)) (F0 m 2 ls [])) : ∀ (S : fy_S) (v1 : Int32) (v2 : Int32) (v3 : Int32) (z0 : Int32) (z1 : Int32) (H : Heap) (locs : List Loc) (ls : Array Slot), M_findRanks_38 k2 S v1 v2 v3 z0 z1 = some Sr → fy_W g M_Y S s H locs → lv_has ls 6 [(0, .ref (g.2.2.1 0)), (1, .int v1), (2, .int v2), (3, .int v3)] → W p l e (fy_rm 3) s m args below meth c H locs 0 0 (MQ below (fy_QV g M_Y Sr) args s 0 0 (fy_A g M_Y)) (F0 m 38 ls [.int z0, .int z1, .ref (g.2.2.1 15)]) := by
  obtain ⟨hx, hb, hr, hts, hown, hlk, hml, hK, hD, hE, hN⟩ := id C
  intro S v1 v2 v3 z0 z1 H locs ls h w  hl
  rw [M_findRanks_38] at h
  obtain ⟨g38, h⟩ := fy_gd_some h
  refine fy_iast C w M_a15 g38 dX10_findRanks_38 (fun H locs w => ?_)
  obtain ⟨S38, e38⟩ : ∃ z, z = fy_sI S 15 z1.toNatClampNeg z0 := ⟨_, rfl⟩
  have h := fy_bl_some e38 h
  rw [← e38] at w
  obtain ⟨x39, e39⟩ : ∃ z : Int32, z = v3 + (1 : Int32) := ⟨_, rfl⟩
  have h := fy_bl_some e39 h
  refine lv_iinc (k := 3) (v := x39) (lv' := [(3, .int x39), (0, .ref (g.2.2.1 0)), (1, .int v1), (2, .int v2)]) hx hb dX10_findRanks_39 hl rfl (by rw [e39]; rfl) (by decide) rfl (fun ls hl => ?_)
  refine lv_goto (tgt := 2) hx hb dX10_findRanks_42 (by decide) ?_
  exact hk2 _ _ _ _ _ _ _ h w (lv_sub hl [1, 2, 3, 0] rfl)

set_option maxHeartbeats 4000000 in
set_option maxRecDepth 100000 in
theorem t_M_findRanks_2 {p : Program} {l : Launch} {e : Env} {s : State} {m : MethodId} {args : Array Value} {below : List Frame} {meth : Method} {c : Code} {g : fy_G} (C : fy_C g M_Y p s m args meth c yX10_findRanks.cls cX10_findRanks 6 none) {Sr : fy_S}  : ∀ (fu : Nat) (S : fy_S) (v1 : Int32) (v2 : Int32) (v3 : Int32) (H : Heap) (locs : List Loc) (ls : Array Slot), M_findRanks_2 fu S v1 v2 v3 = some Sr → fy_W g M_Y S s H locs → lv_has ls 6 [(0, .ref (g.2.2.1 0)), (1, .int v1), (2, .int v2), (3, .int v3)] → W p l e (fy_rm 3) s m args below meth c H locs 0 0 (MQ below (fy_QV g M_Y Sr) args s 0 0 (fy_A g M_Y)) (F0 m 2 ls []) := by
  obtain ⟨hx, hb, hr, hts, hown, hlk, hml, hK, hD, hE, hN⟩ := id C
  intro fu
  induction fu with
  | zero => intro S v1 v2 v3 H locs ls h; cases h
  | succ fu ih =>
    intro S v1 v2 v3 H locs ls h w  hl
    rw [M_findRanks_2] at h
    refine lv_iload_n hx hb dX10_findRanks_2 rfl (lv_at hl 3 rfl) ?_
    refine lv_aload_n hx hb dX10_findRanks_3 rfl (lv_at hl 0 rfl) ?_
    refine gfX10_7 C w dX10_findRanks_4 ?_
    refine lv_iload_n hx hb dX10_findRanks_7 rfl (lv_at hl 1 rfl) ?_
    obtain ⟨g8, h⟩ := fy_gd_some h
    refine fy_iald C w M_a1 g8 dX10_findRanks_8 ?_
    refine lv_icmp_ge (tgt := 45) hx hb dX10_findRanks_9 (by decide) (fun hc => ?_) (fun hc => ?_)
    · have h := fy_if_t h hc
      refine lv_aload_n hx hb dX10_findRanks_45 rfl (lv_at hl 0 rfl) ?_
      refine gfX10_237 C w dX10_findRanks_46 ?_
      refine lv_iconst (v := (1 : Int32)) hx hb dX10_findRanks_49 (by decide) ?_
      refine lv_isub hx hb dX10_findRanks_50 ?_
      refine lv_topi (fun x51 e51 => ?_)
      have h := fy_bl_some e51 h
      refine lv_istore_n (lv' := [(3, .int x51), (0, .ref (g.2.2.1 0)), (1, .int v1), (2, .int v2)]) hx hb dX10_findRanks_51 rfl hl (by decide) rfl (fun ls hl => ?_)
      exact t_M_findRanks_52 C fy_fu _ _ _ _ _ _ _ h w (lv_sub hl [1, 2, 3, 0] rfl)
    · have h := fy_if_f h hc
      refine lv_aload_n hx hb dX10_findRanks_12 rfl (lv_at hl 0 rfl) ?_
      refine gfX10_52 C w dX10_findRanks_13 ?_
      refine lv_iload_n hx hb dX10_findRanks_16 rfl (lv_at hl 3 rfl) ?_
      refine lv_aload_n hx hb dX10_findRanks_17 rfl (lv_at hl 0 rfl) ?_
      refine gfX10_16 C w dX10_findRanks_18 ?_
      refine lv_iload_n hx hb dX10_findRanks_21 rfl (lv_at hl 1 rfl) ?_
      obtain ⟨g22, h⟩ := fy_gd_some h
      refine fy_iald C w M_a3 g22 dX10_findRanks_22 ?_
      refine lv_iload_n hx hb dX10_findRanks_23 rfl (lv_at hl 3 rfl) ?_
      refine lv_ishr hx hb dX10_findRanks_24 ?_
      refine lv_iconst (v := (1 : Int32)) hx hb dX10_findRanks_25 (by decide) ?_
      refine lv_iand hx hb dX10_findRanks_26 ?_
      refine lv_iconst (v := (1 : Int32)) hx hb dX10_findRanks_27 (by decide) ?_
      refine lv_icmp_ne (tgt := 35) hx hb dX10_findRanks_28 (by decide) (fun hc => ?_) (fun hc => ?_)
      · have h := fy_if_f h hc
        refine lv_sipush (v := (10000 : Int32)) hx hb dX10_findRanks_35 (by decide) ?_
        exact t_M_findRanks_38 C ih _ _ _ _ _ _ _ _ _ h w (lv_sub hl [0, 1, 2, 3] rfl)
      · have h := fy_if_t h hc
        refine lv_iconst (v := (0 : Int32)) hx hb dX10_findRanks_31 (by decide) ?_
        refine lv_goto (tgt := 38) hx hb dX10_findRanks_32 (by decide) ?_
        exact t_M_findRanks_38 C ih _ _ _ _ _ _ _ _ _ h w (lv_sub hl [0, 1, 2, 3] rfl)

set_option maxHeartbeats 4000000 in
set_option maxRecDepth 100000 in
theorem t_M_findRanks {p : Program} {l : Launch} {e : Env} {s : State} {m : MethodId} {args : Array Value} {below : List Frame} {meth : Method} {c : Code} {g : fy_G} (C : fy_C g M_Y p s m args meth c yX10_findRanks.cls cX10_findRanks 6 none) {S : fy_S} {v1 : Int32} {v2 : Int32} {Sr : fy_S}   {H : Heap} {locs : List Loc} {ls : Array Slot} (h : M_findRanks S v1 v2 = some Sr) (w : fy_W g M_Y S s H locs) (hl : lv_has ls 6 [(0, .ref (g.2.2.1 0)), (1, .int v1), (2, .int v2)]) : W p l e (fy_rm 3) s m args below meth c H locs 0 0 (MQ below (fy_QV g M_Y Sr) args s 0 0 (fy_A g M_Y)) (F0 m 0 ls []) := by
  obtain ⟨hx, hb, hr, hts, hown, hlk, hml, hK, hD, hE, hN⟩ := id C
  rw [M_findRanks] at h
  refine lv_iconst (v := (0 : Int32)) hx hb dX10_findRanks_0 (by decide) ?_
  refine lv_istore_n (lv' := [(3, .int (0 : Int32)), (0, .ref (g.2.2.1 0)), (1, .int v1), (2, .int v2)]) hx hb dX10_findRanks_1 rfl hl (by decide) rfl (fun ls hl => ?_)
  exact t_M_findRanks_2 C fy_fu _ _ _ _ _ _ _ h w (lv_sub hl [1, 2, 3, 0] rfl)

set_option maxHeartbeats 4000000 in
set_option maxRecDepth 100000 in
theorem c_M_findRanks (l : Launch) (g : fy_G) {S : fy_S} {v1 : Int32} {v2 : Int32} {Sr : fy_S}   (h : M_findRanks S v1 v2 = some Sr) : fy_M g M_Y l yX10_findRanks cX10_findRanks 6 none (fy_rm 3) [.ref (g.2.2.1 0), .int v1, .int v2] S (fy_QV g M_Y Sr) :=
  fy_entry (by decide +kernel) (Nat.le_of_ble_eq_true rfl) (fun p e s m args below meth c ls C w hl => t_M_findRanks C  h w hl)
def M_rank (S : fy_S) (v1 : Int32) (v2 : Int32) (v3 : Int32) : Option (fy_S × Int32) :=
  fy_bd (M_isSlot S v1) fun r1 =>
  if r1 = 0 then (
    some (S, (-2 : Int32)))
  else (
    fy_bd (M_isState S v1 v3) fun r10 =>
    if r10 = 0 then (
      some (S, (-2 : Int32)))
    else (
      fy_bd (M_isBetween S v2 (0 : Int32) (S.1 0 25)) fun r22 =>
      if r22 = 0 then (
        some (S, (-2 : Int32)))
      else (
        fy_bd (M_isWordOf S v1) fun r33 =>
        if r33 = 0 then (
          some (S, (-4 : Int32)))
        else (
          fy_bd (M_findRanks S v1 v2) fun S45 =>
          fy_gd (fy_ix v3 8) <|
          some (S45, (S45.1 15 v3.toNatClampNeg))))))
set_option maxHeartbeats 4000000 in
set_option maxRecDepth 100000 in
theorem t_M_rank {p : Program} {l : Launch} {e : Env} {s : State} {m : MethodId} {args : Array Value} {below : List Frame} {meth : Method} {c : Code} {g : fy_G} (C : fy_C g M_Y p s m args meth c yX10_rank.cls cX10_rank 4 (some .int)) {S : fy_S} {v1 : Int32} {v2 : Int32} {v3 : Int32} {Sr : fy_S} {rr : Int32}  {H : Heap} {locs : List Loc} {ls : Array Slot} (h : M_rank S v1 v2 v3 = some (Sr, rr)) (w : fy_W g M_Y S s H locs) (hl : lv_has ls 4 [(0, .ref (g.2.2.1 0)), (1, .int v1), (2, .int v2), (3, .int v3)]) : W p l e (fy_rm 4) s m args below meth c H locs 0 0 (MQ below (fy_QI g M_Y rr Sr) args s 0 0 (fy_A g M_Y)) (F0 m 0 ls []) := by
  obtain ⟨hx, hb, hr, hts, hown, hlk, hml, hK, hD, hE, hN⟩ := id C
  rw [M_rank] at h
  refine lv_iload_n hx hb dX10_rank_0 rfl (lv_at hl 1 rfl) ?_
  obtain ⟨r1, h1, h⟩ := fy_bd_some h
  refine fy_calI w (fy_runS (As := [.int v1]) (rest := []) C w (c_M_isSlot l g  h1) ksX10_123 ⟨Nat.le_of_ble_eq_true rfl, Nat.le_of_ble_eq_true rfl⟩ rfl hl.1 rfl (Nat.le_of_ble_eq_true rfl) ⟨Nat.le_refl _, Nat.le_refl _⟩ dX10_rank_1) (fun H locs w => ?_)
  refine lv_if_eq (tgt := 28) hx hb dX10_rank_4 (by decide) (fun hc => ?_) (fun hc => ?_)
  · have h := fy_if_t h hc
    refine lv_bipush (v := (-2 : Int32)) hx hb dX10_rank_28 (by decide) ?_
    cases h
    exact fy_retI C w dX10_rank_30
  · have h := fy_if_f h hc
    refine lv_aload_n hx hb dX10_rank_7 rfl (lv_at hl 0 rfl) ?_
    refine lv_iload_n hx hb dX10_rank_8 rfl (lv_at hl 1 rfl) ?_
    refine lv_iload_n hx hb dX10_rank_9 rfl (lv_at hl 3 rfl) ?_
    obtain ⟨r10, h10, h⟩ := fy_bd_some h
    refine fy_calI w (fy_runV (As := [.int v1, .int v3]) (rest := []) C w (c_M_isState l g  h10) M_o ksX10_131 rfl ⟨Nat.le_of_ble_eq_true rfl, Nat.le_of_ble_eq_true rfl⟩ rfl hl.1 rfl (Nat.le_of_ble_eq_true rfl) ⟨Nat.le_refl _, Nat.le_refl _⟩ dX10_rank_10) (fun H locs w => ?_)
    refine lv_if_eq (tgt := 28) hx hb dX10_rank_13 (by decide) (fun hc => ?_) (fun hc => ?_)
    · have h := fy_if_t h hc
      refine lv_bipush (v := (-2 : Int32)) hx hb dX10_rank_28 (by decide) ?_
      cases h
      exact fy_retI C w dX10_rank_30
    · have h := fy_if_f h hc
      refine lv_iload_n hx hb dX10_rank_16 rfl (lv_at hl 2 rfl) ?_
      refine lv_iconst (v := (0 : Int32)) hx hb dX10_rank_17 (by decide) ?_
      refine lv_aload_n hx hb dX10_rank_18 rfl (lv_at hl 0 rfl) ?_
      refine gfX10_237 C w dX10_rank_19 ?_
      obtain ⟨r22, h22, h⟩ := fy_bd_some h
      refine fy_calI w (fy_runS (As := [.int v2, .int (0 : Int32), .int (S.1 0 25)]) (rest := []) C w (c_M_isBetween l g  h22) ksX10_127 ⟨Nat.le_of_ble_eq_true rfl, Nat.le_of_ble_eq_true rfl⟩ rfl hl.1 rfl (Nat.le_of_ble_eq_true rfl) ⟨Nat.le_refl _, Nat.le_refl _⟩ dX10_rank_22) (fun H locs w => ?_)
      refine lv_if_ne (tgt := 31) hx hb dX10_rank_25 (by decide) (fun hc => ?_) (fun hc => ?_)
      · have h := fy_if_f h hc
        refine lv_aload_n hx hb dX10_rank_31 rfl (lv_at hl 0 rfl) ?_
        refine lv_iload_n hx hb dX10_rank_32 rfl (lv_at hl 1 rfl) ?_
        obtain ⟨r33, h33, h⟩ := fy_bd_some h
        refine fy_calI w (fy_runV (As := [.int v1]) (rest := []) C w (c_M_isWordOf l g  h33) M_o ksX10_243 rfl ⟨Nat.le_of_ble_eq_true rfl, Nat.le_of_ble_eq_true rfl⟩ rfl hl.1 rfl (Nat.le_of_ble_eq_true rfl) ⟨Nat.le_refl _, Nat.le_refl _⟩ dX10_rank_33) (fun H locs w => ?_)
        refine lv_if_ne (tgt := 42) hx hb dX10_rank_36 (by decide) (fun hc => ?_) (fun hc => ?_)
        · have h := fy_if_f h hc
          refine lv_aload_n hx hb dX10_rank_42 rfl (lv_at hl 0 rfl) ?_
          refine lv_iload_n hx hb dX10_rank_43 rfl (lv_at hl 1 rfl) ?_
          refine lv_iload_n hx hb dX10_rank_44 rfl (lv_at hl 2 rfl) ?_
          obtain ⟨S45, h45, h⟩ := fy_bd_some h
          refine fy_calV w (fy_runV (As := [.int v1, .int v2]) (rest := []) C w (c_M_findRanks l g  h45) M_o ksX10_261 rfl ⟨Nat.le_of_ble_eq_true rfl, Nat.le_of_ble_eq_true rfl⟩ rfl hl.1 rfl (Nat.le_of_ble_eq_true rfl) ⟨Nat.le_refl _, Nat.le_refl _⟩ dX10_rank_45) (fun H locs w => ?_)
          refine lv_aload_n hx hb dX10_rank_48 rfl (lv_at hl 0 rfl) ?_
          refine gfX10_52 C w dX10_rank_49 ?_
          refine lv_iload_n hx hb dX10_rank_52 rfl (lv_at hl 3 rfl) ?_
          obtain ⟨g53, h⟩ := fy_gd_some h
          refine fy_iald C w M_a15 g53 dX10_rank_53 ?_
          cases h
          exact fy_retI C w dX10_rank_54
        · have h := fy_if_t h hc
          refine lv_bipush (v := (-4 : Int32)) hx hb dX10_rank_39 (by decide) ?_
          cases h
          exact fy_retI C w dX10_rank_41
      · have h := fy_if_t h hc
        refine lv_bipush (v := (-2 : Int32)) hx hb dX10_rank_28 (by decide) ?_
        cases h
        exact fy_retI C w dX10_rank_30

set_option maxHeartbeats 4000000 in
set_option maxRecDepth 100000 in
theorem c_M_rank (l : Launch) (g : fy_G) {S : fy_S} {v1 : Int32} {v2 : Int32} {v3 : Int32} {Sr : fy_S} {rr : Int32}  (h : M_rank S v1 v2 v3 = some (Sr, rr)) : fy_M g M_Y l yX10_rank cX10_rank 4 (some .int) (fy_rm 4) [.ref (g.2.2.1 0), .int v1, .int v2, .int v3] S (fy_QI g M_Y rr Sr) :=
  fy_entry (by decide +kernel) (Nat.le_of_ble_eq_true rfl) (fun p e s m args below meth c ls C w hl => t_M_rank C  h w hl)
end
