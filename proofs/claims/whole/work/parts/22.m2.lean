noncomputable section
def M_puts (S : fy_S) (v1 : Int32) : Option (fy_S) :=
  fy_gd (fy_ix (S.1 0 19) 200) <|
  fy_bl (fy_sI S 12 (S.1 0 19).toNatClampNeg v1) fun S9 =>
  fy_bl (fy_sI S9 0 19 ((S9.1 0 19) + (1 : Int32))) fun S17 =>
  some S17
set_option maxHeartbeats 4000000 in
set_option maxRecDepth 100000 in
theorem t_M_puts {p : Program} {l : Launch} {e : Env} {s : State} {m : MethodId} {args : Array Value} {below : List Frame} {meth : Method} {c : Code} {g : fy_G} (C : fy_C g M_Y p s m args meth c yX10_puts.cls cX10_puts 2 none) {S : fy_S} {v1 : Int32} {Sr : fy_S}   {H : Heap} {locs : List Loc} {ls : Array Slot} (h : M_puts S v1 = some Sr) (w : fy_W g M_Y S s H locs) (hl : lv_has ls 2 [(0, .ref (g.2.2.1 0)), (1, .int v1)]) : W p l e (fy_rm 0) s m args below meth c H locs 0 0 (MQ below (fy_QV g M_Y Sr) args s 0 0 (fy_A g M_Y)) (F0 m 0 ls []) := by
  obtain ⟨hx, hb, hr, hts, hown, hlk, hml, hK, hD, hE, hN⟩ := id C
  rw [M_puts] at h
  refine lv_aload_n hx hb dX10_puts_0 rfl (lv_at hl 0 rfl) ?_
  refine gfX10_43 C w dX10_puts_1 ?_
  refine lv_aload_n hx hb dX10_puts_4 rfl (lv_at hl 0 rfl) ?_
  refine gfX10_179 C w dX10_puts_5 ?_
  refine lv_iload_n hx hb dX10_puts_8 rfl (lv_at hl 1 rfl) ?_
  obtain ⟨g9, h⟩ := fy_gd_some h
  refine fy_iast C w M_a12 g9 dX10_puts_9 (fun H locs w => ?_)
  obtain ⟨S9, e9⟩ : ∃ z, z = fy_sI S 12 (S.1 0 19).toNatClampNeg v1 := ⟨_, rfl⟩
  have h := fy_bl_some e9 h
  rw [← e9] at w
  refine lv_aload_n hx hb dX10_puts_10 rfl (lv_at hl 0 rfl) ?_
  refine lv_dup hx hb dX10_puts_11 rfl ?_
  refine gfX10_179 C w dX10_puts_12 ?_
  refine lv_iconst (v := (1 : Int32)) hx hb dX10_puts_15 (by decide) ?_
  refine lv_iadd hx hb dX10_puts_16 ?_
  refine pfX10_179 C w dX10_puts_17 (fun H locs w => ?_)
  obtain ⟨S17, e17⟩ : ∃ z, z = fy_sI S9 0 19 ((S9.1 0 19) + (1 : Int32)) := ⟨_, rfl⟩
  have h := fy_bl_some e17 h
  rw [← e17] at w
  cases h
  exact fy_retV C w dX10_puts_20

set_option maxHeartbeats 4000000 in
set_option maxRecDepth 100000 in
theorem c_M_puts (l : Launch) (g : fy_G) {S : fy_S} {v1 : Int32} {Sr : fy_S}   (h : M_puts S v1 = some Sr) : fy_M g M_Y l yX10_puts cX10_puts 2 none (fy_rm 0) [.ref (g.2.2.1 0), .int v1] S (fy_QV g M_Y Sr) :=
  fy_entry (by decide +kernel) (Nat.le_of_ble_eq_true rfl) (fun p e s m args below meth c ls C w hl => t_M_puts C  h w hl)
def M_putsPart_10 (S : fy_S) (v1 : Int32) (v2 : Int32) : Option (fy_S) :=
  fy_bd (M_puts S v1) fun S12 =>
  if v2 = 0 then (
    some S12)
  else (
    fy_bd (M_puts S12 (-40 : Int32)) fun S22 =>
    some S22)
def M_putsPart (S : fy_S) (v1 : Int32) (v2 : Int32) : Option (fy_S) :=
  if v2 = 0 then (
    M_putsPart_10 S v1 v2)
  else (
    fy_bd (M_puts S (-41 : Int32)) fun S7 =>
    M_putsPart_10 S7 v1 v2)
set_option maxHeartbeats 4000000 in
set_option maxRecDepth 100000 in
theorem t_M_putsPart_10 {p : Program} {l : Launch} {e : Env} {s : State} {m : MethodId} {args : Array Value} {below : List Frame} {meth : Method} {c : Code} {g : fy_G} (C : fy_C g M_Y p s m args meth c yX10_putsPart.cls cX10_putsPart 3 none) {Sr : fy_S}  : ∀ (S : fy_S) (v1 : Int32) (v2 : Int32) (H : Heap) (locs : List Loc) (ls : Array Slot), M_putsPart_10 S v1 v2 = some Sr → fy_W g M_Y S s H locs → lv_has ls 3 [(0, .ref (g.2.2.1 0)), (1, .int v1), (2, .int v2)] → W p l e (fy_rm 1) s m args below meth c H locs 0 0 (MQ below (fy_QV g M_Y Sr) args s 0 0 (fy_A g M_Y)) (F0 m 10 ls []) := by
  obtain ⟨hx, hb, hr, hts, hown, hlk, hml, hK, hD, hE, hN⟩ := id C
  intro S v1 v2 H locs ls h w  hl
  rw [M_putsPart_10] at h
  refine lv_aload_n hx hb dX10_putsPart_10 rfl (lv_at hl 0 rfl) ?_
  refine lv_iload_n hx hb dX10_putsPart_11 rfl (lv_at hl 1 rfl) ?_
  obtain ⟨S12, h12, h⟩ := fy_bd_some h
  refine fy_calV w (fy_runV (As := [.int v1]) (rest := []) C w (c_M_puts l g  h12) M_o ksX10_182 rfl ⟨Nat.le_of_ble_eq_true rfl, Nat.le_of_ble_eq_true rfl⟩ rfl hl.1 rfl (Nat.le_of_ble_eq_true rfl) ⟨Nat.le_refl _, Nat.le_refl _⟩ dX10_putsPart_12) (fun H locs w => ?_)
  refine lv_iload_n hx hb dX10_putsPart_15 rfl (lv_at hl 2 rfl) ?_
  refine lv_if_eq (tgt := 25) hx hb dX10_putsPart_16 (by decide) (fun hc => ?_) (fun hc => ?_)
  · have h := fy_if_t h hc
    cases h
    exact fy_retV C w dX10_putsPart_25
  · have h := fy_if_f h hc
    refine lv_aload_n hx hb dX10_putsPart_19 rfl (lv_at hl 0 rfl) ?_
    refine lv_bipush (v := (-40 : Int32)) hx hb dX10_putsPart_20 (by decide) ?_
    obtain ⟨S22, h22, h⟩ := fy_bd_some h
    refine fy_calV w (fy_runV (As := [.int (-40 : Int32)]) (rest := []) C w (c_M_puts l g  h22) M_o ksX10_182 rfl ⟨Nat.le_of_ble_eq_true rfl, Nat.le_of_ble_eq_true rfl⟩ rfl hl.1 rfl (Nat.le_of_ble_eq_true rfl) ⟨Nat.le_refl _, Nat.le_refl _⟩ dX10_putsPart_22) (fun H locs w => ?_)
    cases h
    exact fy_retV C w dX10_putsPart_25

set_option maxHeartbeats 4000000 in
set_option maxRecDepth 100000 in
theorem t_M_putsPart {p : Program} {l : Launch} {e : Env} {s : State} {m : MethodId} {args : Array Value} {below : List Frame} {meth : Method} {c : Code} {g : fy_G} (C : fy_C g M_Y p s m args meth c yX10_putsPart.cls cX10_putsPart 3 none) {S : fy_S} {v1 : Int32} {v2 : Int32} {Sr : fy_S}   {H : Heap} {locs : List Loc} {ls : Array Slot} (h : M_putsPart S v1 v2 = some Sr) (w : fy_W g M_Y S s H locs) (hl : lv_has ls 3 [(0, .ref (g.2.2.1 0)), (1, .int v1), (2, .int v2)]) : W p l e (fy_rm 1) s m args below meth c H locs 0 0 (MQ below (fy_QV g M_Y Sr) args s 0 0 (fy_A g M_Y)) (F0 m 0 ls []) := by
  obtain ⟨hx, hb, hr, hts, hown, hlk, hml, hK, hD, hE, hN⟩ := id C
  rw [M_putsPart] at h
  refine lv_iload_n hx hb dX10_putsPart_0 rfl (lv_at hl 2 rfl) ?_
  refine lv_if_eq (tgt := 10) hx hb dX10_putsPart_1 (by decide) (fun hc => ?_) (fun hc => ?_)
  · have h := fy_if_t h hc
    exact t_M_putsPart_10 C _ _ _ _ _ _ h w (lv_sub hl [0, 1, 2] rfl)
  · have h := fy_if_f h hc
    refine lv_aload_n hx hb dX10_putsPart_4 rfl (lv_at hl 0 rfl) ?_
    refine lv_bipush (v := (-41 : Int32)) hx hb dX10_putsPart_5 (by decide) ?_
    obtain ⟨S7, h7, h⟩ := fy_bd_some h
    refine fy_calV w (fy_runV (As := [.int (-41 : Int32)]) (rest := []) C w (c_M_puts l g  h7) M_o ksX10_182 rfl ⟨Nat.le_of_ble_eq_true rfl, Nat.le_of_ble_eq_true rfl⟩ rfl hl.1 rfl (Nat.le_of_ble_eq_true rfl) ⟨Nat.le_refl _, Nat.le_refl _⟩ dX10_putsPart_7) (fun H locs w => ?_)
    exact t_M_putsPart_10 C _ _ _ _ _ _ h w (lv_sub hl [0, 1, 2] rfl)

set_option maxHeartbeats 4000000 in
set_option maxRecDepth 100000 in
theorem c_M_putsPart (l : Launch) (g : fy_G) {S : fy_S} {v1 : Int32} {v2 : Int32} {Sr : fy_S}   (h : M_putsPart S v1 v2 = some Sr) : fy_M g M_Y l yX10_putsPart cX10_putsPart 3 none (fy_rm 1) [.ref (g.2.2.1 0), .int v1, .int v2] S (fy_QV g M_Y Sr) :=
  fy_entry (by decide +kernel) (Nat.le_of_ble_eq_true rfl) (fun p e s m args below meth c ls C w hl => t_M_putsPart C  h w hl)
def M_tells_161 (S : fy_S) (z0 : Int32) (z1 : Int32) : Option (fy_S) :=
  fy_bd (M_putsPart S z1 z0) fun S161 =>
  some S161
def M_tells_133 (S : fy_S) (v2 : Int32) (v3 : Int32) (v4 : Int32) (z0 : Int32) : Option (fy_S) :=
  fy_bd (M_puts S z0) fun S133 =>
  fy_gd (fy_ix v2 40) <|
  if v3 = (10 : Int32) then (
    if v4 = (11 : Int32) then (
      M_tells_161 S133 (1 : Int32) (S133.1 10 v2.toNatClampNeg))
    else (
      M_tells_161 S133 (0 : Int32) (S133.1 10 v2.toNatClampNeg)))
  else (
    M_tells_161 S133 (0 : Int32) (S133.1 10 v2.toNatClampNeg))
def M_tells_116 (S : fy_S) (v2 : Int32) (v3 : Int32) (v4 : Int32) (z0 : Int32) (z1 : Int32) : Option (fy_S) :=
  fy_bd (M_putsPart S z1 z0) fun S116 =>
  if v3 = (10 : Int32) then (
    M_tells_133 S116 v2 v3 v4 (-38 : Int32))
  else (
    M_tells_133 S116 v2 v3 v4 (-124 : Int32))
def M_tells_49 (S : fy_S) (z0 : Int32) (z1 : Int32) : Option (fy_S) :=
  fy_gd (fy_ix z1 200) <|
  fy_bl (fy_sI S 13 z1.toNatClampNeg z0) fun S49 =>
  fy_bl (fy_sI S49 0 18 ((S49.1 0 18) + (1 : Int32))) fun S57 =>
  some S57
def M_tells (S : fy_S) (v1 : Int32) (v2 : Int32) : Option (fy_S) :=
  fy_gd (fy_ix (v1 + v2) 5320) <|
  fy_bl (S.1 6 (v1 + v2).toNatClampNeg) fun x8 =>
  if (10 : Int32) ≤ x8 then (
    fy_gd (fy_ix v2 40) <|
    fy_gd (fy_ix (v1 + (S.1 10 v2.toNatClampNeg)) 5320) <|
    fy_bl (S.1 6 (v1 + (S.1 10 v2.toNatClampNeg)).toNatClampNeg) fun x74 =>
    fy_gd (fy_ix ((v1 + v2) - (1 : Int32)) 5320) <|
    fy_bl (S.1 6 ((v1 + v2) - (1 : Int32)).toNatClampNeg) fun x86 =>
    if x8 = x86 then (
      M_tells_116 S v2 x8 x74 (1 : Int32) (v2 - (1 : Int32)))
    else (
      if x8 = (10 : Int32) then (
        if x86 = (11 : Int32) then (
          M_tells_116 S v2 x8 x74 (1 : Int32) (v2 - (1 : Int32)))
        else (
          M_tells_116 S v2 x8 x74 (0 : Int32) (v2 - (1 : Int32))))
      else (
        M_tells_116 S v2 x8 x74 (0 : Int32) (v2 - (1 : Int32)))))
  else (
    if x8 = (8 : Int32) then (
      M_tells_49 S (116 : Int32) (S.1 0 18))
    else (
      if x8 = (9 : Int32) then (
        M_tells_49 S (102 : Int32) (S.1 0 18))
      else (
        M_tells_49 S ((48 : Int32) + x8) (S.1 0 18))))
set_option maxHeartbeats 4000000 in
set_option maxRecDepth 100000 in
theorem t_M_tells_161 {p : Program} {l : Launch} {e : Env} {s : State} {m : MethodId} {args : Array Value} {below : List Frame} {meth : Method} {c : Code} {g : fy_G} (C : fy_C g M_Y p s m args meth c yX10_tells.cls cX10_tells 6 none) {Sr : fy_S}  : ∀ (S : fy_S) (z0 : Int32) (z1 : Int32) (H : Heap) (locs : List Loc) (ls : Array Slot), M_tells_161 S z0 z1 = some Sr → fy_W g M_Y S s H locs → lv_has ls 6 [] → W p l e (fy_rm 2) s m args below meth c H locs 0 0 (MQ below (fy_QV g M_Y Sr) args s 0 0 (fy_A g M_Y)) (F0 m 161 ls [.int z0, .int z1, .ref (g.2.2.1 0)]) := by
  obtain ⟨hx, hb, hr, hts, hown, hlk, hml, hK, hD, hE, hN⟩ := id C
  intro S z0 z1 H locs ls h w  hl
  rw [M_tells_161] at h
  obtain ⟨S161, h161, h⟩ := fy_bd_some h
  refine fy_calV w (fy_runV (As := [.int z1, .int z0]) (rest := []) C w (c_M_putsPart l g  h161) M_o ksX10_188 rfl ⟨Nat.le_of_ble_eq_true rfl, Nat.le_of_ble_eq_true rfl⟩ rfl hl.1 rfl (Nat.le_of_ble_eq_true rfl) ⟨Nat.le_refl _, Nat.le_refl _⟩ dX10_tells_161) (fun H locs w => ?_)
  cases h
  exact fy_retV C w dX10_tells_164

set_option maxHeartbeats 4000000 in
set_option maxRecDepth 100000 in
theorem t_M_tells_133 {p : Program} {l : Launch} {e : Env} {s : State} {m : MethodId} {args : Array Value} {below : List Frame} {meth : Method} {c : Code} {g : fy_G} (C : fy_C g M_Y p s m args meth c yX10_tells.cls cX10_tells 6 none) {Sr : fy_S}  : ∀ (S : fy_S) (v2 : Int32) (v3 : Int32) (v4 : Int32) (z0 : Int32) (H : Heap) (locs : List Loc) (ls : Array Slot), M_tells_133 S v2 v3 v4 z0 = some Sr → fy_W g M_Y S s H locs → lv_has ls 6 [(0, .ref (g.2.2.1 0)), (2, .int v2), (3, .int v3), (4, .int v4)] → W p l e (fy_rm 2) s m args below meth c H locs 0 0 (MQ below (fy_QV g M_Y Sr) args s 0 0 (fy_A g M_Y)) (F0 m 133 ls [.int z0, .ref (g.2.2.1 0)]) := by
  obtain ⟨hx, hb, hr, hts, hown, hlk, hml, hK, hD, hE, hN⟩ := id C
  intro S v2 v3 v4 z0 H locs ls h w  hl
  rw [M_tells_133] at h
  obtain ⟨S133, h133, h⟩ := fy_bd_some h
  refine fy_calV w (fy_runV (As := [.int z0]) (rest := []) C w (c_M_puts l g  h133) M_o ksX10_182 rfl ⟨Nat.le_of_ble_eq_true rfl, Nat.le_of_ble_eq_true rfl⟩ rfl hl.1 rfl (Nat.le_of_ble_eq_true rfl) ⟨Nat.le_refl _, Nat.le_refl _⟩ dX10_tells_133) (fun H locs w => ?_)
  refine lv_aload_n hx hb dX10_tells_136 rfl (lv_at hl 0 rfl) ?_
  refine lv_aload_n hx hb dX10_tells_137 rfl (lv_at hl 0 rfl) ?_
  refine gfX10_37 C w dX10_tells_138 ?_
  refine lv_iload_n hx hb dX10_tells_141 rfl (lv_at hl 1 rfl) ?_
  obtain ⟨g142, h⟩ := fy_gd_some h
  refine fy_iald C w M_a10 g142 dX10_tells_142 ?_
  refine lv_iload_n hx hb dX10_tells_143 rfl (lv_at hl 2 rfl) ?_
  refine lv_bipush (v := (10 : Int32)) hx hb dX10_tells_144 (by decide) ?_
  refine lv_icmp_ne (tgt := 160) hx hb dX10_tells_146 (by decide) (fun hc => ?_) (fun hc => ?_)
  · have h := fy_if_f h hc
    refine lv_iconst (v := (0 : Int32)) hx hb dX10_tells_160 (by decide) ?_
    exact t_M_tells_161 C _ _ _ _ _ _ h w (lv_sub hl [] rfl)
  · have h := fy_if_t h hc
    refine lv_iload hx hb dX10_tells_149 (lv_at hl 3 rfl) ?_
    refine lv_bipush (v := (11 : Int32)) hx hb dX10_tells_151 (by decide) ?_
    refine lv_icmp_ne (tgt := 160) hx hb dX10_tells_153 (by decide) (fun hc => ?_) (fun hc => ?_)
    · have h := fy_if_f h hc
      refine lv_iconst (v := (0 : Int32)) hx hb dX10_tells_160 (by decide) ?_
      exact t_M_tells_161 C _ _ _ _ _ _ h w (lv_sub hl [] rfl)
    · have h := fy_if_t h hc
      refine lv_iconst (v := (1 : Int32)) hx hb dX10_tells_156 (by decide) ?_
      refine lv_goto (tgt := 161) hx hb dX10_tells_157 (by decide) ?_
      exact t_M_tells_161 C _ _ _ _ _ _ h w (lv_sub hl [] rfl)

set_option maxHeartbeats 4000000 in
set_option maxRecDepth 100000 in
theorem t_M_tells_116 {p : Program} {l : Launch} {e : Env} {s : State} {m : MethodId} {args : Array Value} {below : List Frame} {meth : Method} {c : Code} {g : fy_G} (C : fy_C g M_Y p s m args meth c yX10_tells.cls cX10_tells 6 none) {Sr : fy_S}  : ∀ (S : fy_S) (v2 : Int32) (v3 : Int32) (v4 : Int32) (z0 : Int32) (z1 : Int32) (H : Heap) (locs : List Loc) (ls : Array Slot), M_tells_116 S v2 v3 v4 z0 z1 = some Sr → fy_W g M_Y S s H locs → lv_has ls 6 [(0, .ref (g.2.2.1 0)), (2, .int v2), (3, .int v3), (4, .int v4)] → W p l e (fy_rm 2) s m args below meth c H locs 0 0 (MQ below (fy_QV g M_Y Sr) args s 0 0 (fy_A g M_Y)) (F0 m 116 ls [.int z0, .int z1, .ref (g.2.2.1 0)]) := by
  obtain ⟨hx, hb, hr, hts, hown, hlk, hml, hK, hD, hE, hN⟩ := id C
  intro S v2 v3 v4 z0 z1 H locs ls h w  hl
  rw [M_tells_116] at h
  obtain ⟨S116, h116, h⟩ := fy_bd_some h
  refine fy_calV w (fy_runV (As := [.int z1, .int z0]) (rest := []) C w (c_M_putsPart l g  h116) M_o ksX10_188 rfl ⟨Nat.le_of_ble_eq_true rfl, Nat.le_of_ble_eq_true rfl⟩ rfl hl.1 rfl (Nat.le_of_ble_eq_true rfl) ⟨Nat.le_refl _, Nat.le_refl _⟩ dX10_tells_116) (fun H locs w => ?_)
  refine lv_aload_n hx hb dX10_tells_119 rfl (lv_at hl 0 rfl) ?_
  refine lv_iload_n hx hb dX10_tells_120 rfl (lv_at hl 2 rfl) ?_
  refine lv_bipush (v := (10 : Int32)) hx hb dX10_tells_121 (by decide) ?_
  refine lv_icmp_ne (tgt := 131) hx hb dX10_tells_123 (by decide) (fun hc => ?_) (fun hc => ?_)
  · have h := fy_if_f h hc
    refine lv_bipush (v := (-124 : Int32)) hx hb dX10_tells_131 (by decide) ?_
    exact t_M_tells_133 C _ _ _ _ _ _ _ _ h w (lv_sub hl [0, 1, 2, 3] rfl)
  · have h := fy_if_t h hc
    refine lv_bipush (v := (-38 : Int32)) hx hb dX10_tells_126 (by decide) ?_
    refine lv_goto (tgt := 133) hx hb dX10_tells_128 (by decide) ?_
    exact t_M_tells_133 C _ _ _ _ _ _ _ _ h w (lv_sub hl [0, 1, 2, 3] rfl)

set_option maxHeartbeats 4000000 in
set_option maxRecDepth 100000 in
theorem t_M_tells_49 {p : Program} {l : Launch} {e : Env} {s : State} {m : MethodId} {args : Array Value} {below : List Frame} {meth : Method} {c : Code} {g : fy_G} (C : fy_C g M_Y p s m args meth c yX10_tells.cls cX10_tells 6 none) {Sr : fy_S}  : ∀ (S : fy_S) (z0 : Int32) (z1 : Int32) (H : Heap) (locs : List Loc) (ls : Array Slot), M_tells_49 S z0 z1 = some Sr → fy_W g M_Y S s H locs → lv_has ls 6 [(0, .ref (g.2.2.1 0))] → W p l e (fy_rm 2) s m args below meth c H locs 0 0 (MQ below (fy_QV g M_Y Sr) args s 0 0 (fy_A g M_Y)) (F0 m 49 ls [.int z0, .int z1, .ref (g.2.2.1 13)]) := by
  obtain ⟨hx, hb, hr, hts, hown, hlk, hml, hK, hD, hE, hN⟩ := id C
  intro S z0 z1 H locs ls h w  hl
  rw [M_tells_49] at h
  obtain ⟨g49, h⟩ := fy_gd_some h
  refine fy_iast C w M_a13 g49 dX10_tells_49 (fun H locs w => ?_)
  obtain ⟨S49, e49⟩ : ∃ z, z = fy_sI S 13 z1.toNatClampNeg z0 := ⟨_, rfl⟩
  have h := fy_bl_some e49 h
  rw [← e49] at w
  refine lv_aload_n hx hb dX10_tells_50 rfl (lv_at hl 0 rfl) ?_
  refine lv_dup hx hb dX10_tells_51 rfl ?_
  refine gfX10_185 C w dX10_tells_52 ?_
  refine lv_iconst (v := (1 : Int32)) hx hb dX10_tells_55 (by decide) ?_
  refine lv_iadd hx hb dX10_tells_56 ?_
  refine pfX10_185 C w dX10_tells_57 (fun H locs w => ?_)
  obtain ⟨S57, e57⟩ : ∃ z, z = fy_sI S49 0 18 ((S49.1 0 18) + (1 : Int32)) := ⟨_, rfl⟩
  have h := fy_bl_some e57 h
  rw [← e57] at w
  cases h
  exact fy_retV C w dX10_tells_60

set_option maxHeartbeats 4000000 in
set_option maxRecDepth 100000 in
theorem t_M_tells {p : Program} {l : Launch} {e : Env} {s : State} {m : MethodId} {args : Array Value} {below : List Frame} {meth : Method} {c : Code} {g : fy_G} (C : fy_C g M_Y p s m args meth c yX10_tells.cls cX10_tells 6 none) {S : fy_S} {v1 : Int32} {v2 : Int32} {Sr : fy_S}   {H : Heap} {locs : List Loc} {ls : Array Slot} (h : M_tells S v1 v2 = some Sr) (w : fy_W g M_Y S s H locs) (hl : lv_has ls 6 [(0, .ref (g.2.2.1 0)), (1, .int v1), (2, .int v2)]) : W p l e (fy_rm 2) s m args below meth c H locs 0 0 (MQ below (fy_QV g M_Y Sr) args s 0 0 (fy_A g M_Y)) (F0 m 0 ls []) := by
  obtain ⟨hx, hb, hr, hts, hown, hlk, hml, hK, hD, hE, hN⟩ := id C
  rw [M_tells] at h
  refine lv_aload_n hx hb dX10_tells_0 rfl (lv_at hl 0 rfl) ?_
  refine gfX10_25 C w dX10_tells_1 ?_
  refine lv_iload_n hx hb dX10_tells_4 rfl (lv_at hl 1 rfl) ?_
  refine lv_iload_n hx hb dX10_tells_5 rfl (lv_at hl 2 rfl) ?_
  refine lv_iadd hx hb dX10_tells_6 ?_
  obtain ⟨g7, h⟩ := fy_gd_some h
  refine fy_iald C w M_a6 g7 dX10_tells_7 ?_
  refine lv_topi (fun x8 e8 => ?_)
  have h := fy_bl_some e8 h
  refine lv_istore_n (lv' := [(3, .int x8), (0, .ref (g.2.2.1 0)), (1, .int v1), (2, .int v2)]) hx hb dX10_tells_8 rfl hl (by decide) rfl (fun ls hl => ?_)
  refine lv_iload_n hx hb dX10_tells_9 rfl (lv_at hl 0 rfl) ?_
  refine lv_bipush (v := (10 : Int32)) hx hb dX10_tells_10 (by decide) ?_
  refine lv_icmp_ge (tgt := 61) hx hb dX10_tells_12 (by decide) (fun hc => ?_) (fun hc => ?_)
  · have h := fy_if_t h hc
    refine lv_aload_n hx hb dX10_tells_61 rfl (lv_at hl 1 rfl) ?_
    refine gfX10_25 C w dX10_tells_62 ?_
    refine lv_iload_n hx hb dX10_tells_65 rfl (lv_at hl 2 rfl) ?_
    refine lv_aload_n hx hb dX10_tells_66 rfl (lv_at hl 1 rfl) ?_
    refine gfX10_37 C w dX10_tells_67 ?_
    refine lv_iload_n hx hb dX10_tells_70 rfl (lv_at hl 3 rfl) ?_
    obtain ⟨g71, h⟩ := fy_gd_some h
    refine fy_iald C w M_a10 g71 dX10_tells_71 ?_
    refine lv_iadd hx hb dX10_tells_72 ?_
    obtain ⟨g73, h⟩ := fy_gd_some h
    refine fy_iald C w M_a6 g73 dX10_tells_73 ?_
    refine lv_topi (fun x74 e74 => ?_)
    have h := fy_bl_some e74 h
    refine lv_istore (lv' := [(4, .int x74), (3, .int x8), (0, .ref (g.2.2.1 0)), (1, .int v1), (2, .int v2)]) hx hb dX10_tells_74 hl (by decide) rfl (fun ls hl => ?_)
    refine lv_aload_n hx hb dX10_tells_76 rfl (lv_at hl 2 rfl) ?_
    refine gfX10_25 C w dX10_tells_77 ?_
    refine lv_iload_n hx hb dX10_tells_80 rfl (lv_at hl 3 rfl) ?_
    refine lv_iload_n hx hb dX10_tells_81 rfl (lv_at hl 4 rfl) ?_
    refine lv_iadd hx hb dX10_tells_82 ?_
    refine lv_iconst (v := (1 : Int32)) hx hb dX10_tells_83 (by decide) ?_
    refine lv_isub hx hb dX10_tells_84 ?_
    obtain ⟨g85, h⟩ := fy_gd_some h
    refine fy_iald C w M_a6 g85 dX10_tells_85 ?_
    refine lv_topi (fun x86 e86 => ?_)
    have h := fy_bl_some e86 h
    refine lv_istore (lv' := [(5, .int x86), (4, .int x74), (3, .int x8), (0, .ref (g.2.2.1 0)), (1, .int v1), (2, .int v2)]) hx hb dX10_tells_86 hl (by decide) rfl (fun ls hl => ?_)
    refine lv_aload_n hx hb dX10_tells_88 rfl (lv_at hl 3 rfl) ?_
    refine lv_iload_n hx hb dX10_tells_89 rfl (lv_at hl 5 rfl) ?_
    refine lv_iconst (v := (1 : Int32)) hx hb dX10_tells_90 (by decide) ?_
    refine lv_isub hx hb dX10_tells_91 ?_
    refine lv_iload_n hx hb dX10_tells_92 rfl (lv_at hl 2 rfl) ?_
    refine lv_iload hx hb dX10_tells_93 (lv_at hl 0 rfl) ?_
    refine lv_icmp_eq (tgt := 111) hx hb dX10_tells_95 (by decide) (fun hc => ?_) (fun hc => ?_)
    · have h := fy_if_t h hc
      refine lv_iconst (v := (1 : Int32)) hx hb dX10_tells_111 (by decide) ?_
      refine lv_goto (tgt := 116) hx hb dX10_tells_112 (by decide) ?_
      exact t_M_tells_116 C _ _ _ _ _ _ _ _ _ h w (lv_sub hl [3, 5, 2, 1] rfl)
    · have h := fy_if_f h hc
      refine lv_iload_n hx hb dX10_tells_98 rfl (lv_at hl 2 rfl) ?_
      refine lv_bipush (v := (10 : Int32)) hx hb dX10_tells_99 (by decide) ?_
      refine lv_icmp_ne (tgt := 115) hx hb dX10_tells_101 (by decide) (fun hc => ?_) (fun hc => ?_)
      · have h := fy_if_f h hc
        refine lv_iconst (v := (0 : Int32)) hx hb dX10_tells_115 (by decide) ?_
        exact t_M_tells_116 C _ _ _ _ _ _ _ _ _ h w (lv_sub hl [3, 5, 2, 1] rfl)
      · have h := fy_if_t h hc
        refine lv_iload hx hb dX10_tells_104 (lv_at hl 0 rfl) ?_
        refine lv_bipush (v := (11 : Int32)) hx hb dX10_tells_106 (by decide) ?_
        refine lv_icmp_ne (tgt := 115) hx hb dX10_tells_108 (by decide) (fun hc => ?_) (fun hc => ?_)
        · have h := fy_if_f h hc
          refine lv_iconst (v := (0 : Int32)) hx hb dX10_tells_115 (by decide) ?_
          exact t_M_tells_116 C _ _ _ _ _ _ _ _ _ h w (lv_sub hl [3, 5, 2, 1] rfl)
        · have h := fy_if_t h hc
          refine lv_iconst (v := (1 : Int32)) hx hb dX10_tells_111 (by decide) ?_
          refine lv_goto (tgt := 116) hx hb dX10_tells_112 (by decide) ?_
          exact t_M_tells_116 C _ _ _ _ _ _ _ _ _ h w (lv_sub hl [3, 5, 2, 1] rfl)
  · have h := fy_if_f h hc
    refine lv_aload_n hx hb dX10_tells_15 rfl (lv_at hl 1 rfl) ?_
    refine gfX10_46 C w dX10_tells_16 ?_
    refine lv_aload_n hx hb dX10_tells_19 rfl (lv_at hl 1 rfl) ?_
    refine gfX10_185 C w dX10_tells_20 ?_
    refine lv_iload_n hx hb dX10_tells_23 rfl (lv_at hl 0 rfl) ?_
    refine lv_bipush (v := (8 : Int32)) hx hb dX10_tells_24 (by decide) ?_
    refine lv_icmp_ne (tgt := 34) hx hb dX10_tells_26 (by decide) (fun hc => ?_) (fun hc => ?_)
    · have h := fy_if_f h hc
      refine lv_iload_n hx hb dX10_tells_34 rfl (lv_at hl 0 rfl) ?_
      refine lv_bipush (v := (9 : Int32)) hx hb dX10_tells_35 (by decide) ?_
      refine lv_icmp_ne (tgt := 45) hx hb dX10_tells_37 (by decide) (fun hc => ?_) (fun hc => ?_)
      · have h := fy_if_f h hc
        refine lv_bipush (v := (48 : Int32)) hx hb dX10_tells_45 (by decide) ?_
        refine lv_iload_n hx hb dX10_tells_47 rfl (lv_at hl 0 rfl) ?_
        refine lv_iadd hx hb dX10_tells_48 ?_
        exact t_M_tells_49 C _ _ _ _ _ _ h w (lv_sub hl [1] rfl)
      · have h := fy_if_t h hc
        refine lv_bipush (v := (102 : Int32)) hx hb dX10_tells_40 (by decide) ?_
        refine lv_goto (tgt := 49) hx hb dX10_tells_42 (by decide) ?_
        exact t_M_tells_49 C _ _ _ _ _ _ h w (lv_sub hl [1] rfl)
    · have h := fy_if_t h hc
      refine lv_bipush (v := (116 : Int32)) hx hb dX10_tells_29 (by decide) ?_
      refine lv_goto (tgt := 49) hx hb dX10_tells_31 (by decide) ?_
      exact t_M_tells_49 C _ _ _ _ _ _ h w (lv_sub hl [1] rfl)

set_option maxHeartbeats 4000000 in
set_option maxRecDepth 100000 in
theorem c_M_tells (l : Launch) (g : fy_G) {S : fy_S} {v1 : Int32} {v2 : Int32} {Sr : fy_S}   (h : M_tells S v1 v2 = some Sr) : fy_M g M_Y l yX10_tells cX10_tells 6 none (fy_rm 2) [.ref (g.2.2.1 0), .int v1, .int v2] S (fy_QV g M_Y Sr) :=
  fy_entry (by decide +kernel) (Nat.le_of_ble_eq_true rfl) (fun p e s m args below meth c ls C w hl => t_M_tells C  h w hl)
def M_print_62 : Nat → fy_S → Int32 → Option (fy_S × Int32)
  | 0, _, _ => none
  | fu + 1, S, v5 =>
    if (S.1 0 19) ≤ 0 then (
      some (S, (S.1 0 18)))
    else (
      fy_bl (fy_sI S 0 19 ((S.1 0 19) - (1 : Int32))) fun S76 =>
      fy_gd (fy_ix (S76.1 0 19) 200) <|
      if (S76.1 12 (S76.1 0 19).toNatClampNeg) < 0 then (
        fy_gd (fy_ix (S76.1 0 19) 200) <|
        fy_gd (fy_ix (S76.1 0 18) 200) <|
        fy_bl (fy_sI S76 13 (S76.1 0 18).toNatClampNeg (-(S76.1 12 (S76.1 0 19).toNatClampNeg))) fun S127 =>
        fy_bl (fy_sI S127 0 18 ((S127.1 0 18) + (1 : Int32))) fun S135 =>
        M_print_62 fu S135 v5)
      else (
        fy_gd (fy_ix (S76.1 0 19) 200) <|
        fy_bd (M_tells S76 v5 (S76.1 12 (S76.1 0 19).toNatClampNeg)) fun S103 =>
        M_print_62 fu S103 v5))
def M_print (S : fy_S) (v1 : Int32) (v2 : Int32) (v3 : Int32) : Option (fy_S × Int32) :=
  fy_bd (M_asked S v1 v2 v3) fun r4 =>
  if 0 ≤ r4 then (
    fy_bd (M_at S v1 r4) fun r21 =>
    fy_bd (M_sizeOf S v1 r4) fun r33 =>
    fy_bd (M_findParts S r21 r33) fun S36 =>
    fy_bl (fy_sI S36 0 18 (0 : Int32)) fun S41 =>
    fy_bl (fy_sI S41 0 19 (0 : Int32)) fun S46 =>
    fy_bd (M_sizeOf S46 v1 r4) fun r54 =>
    fy_bd (M_puts S46 (r54 - (1 : Int32))) fun S59 =>
    M_print_62 fy_fu S59 r21)
  else (
    some (S, (-2 : Int32)))
set_option maxHeartbeats 4000000 in
set_option maxRecDepth 100000 in
theorem t_M_print_62 {p : Program} {l : Launch} {e : Env} {s : State} {m : MethodId} {args : Array Value} {below : List Frame} {meth : Method} {c : Code} {g : fy_G} (C : fy_C g M_Y p s m args meth c yX10_print.cls cX10_print 6 (some .int)) {Sr : fy_S} {rr : Int32} : ∀ (fu : Nat) (S : fy_S) (v5 : Int32) (H : Heap) (locs : List Loc) (ls : Array Slot), M_print_62 fu S v5 = some (Sr, rr) → fy_W g M_Y S s H locs → lv_has ls 6 [(0, .ref (g.2.2.1 0)), (5, .int v5)] → W p l e (fy_rm 3) s m args below meth c H locs 0 0 (MQ below (fy_QI g M_Y rr Sr) args s 0 0 (fy_A g M_Y)) (F0 m 62 ls []) := by
  obtain ⟨hx, hb, hr, hts, hown, hlk, hml, hK, hD, hE, hN⟩ := id C
  intro fu
  induction fu with
  | zero => intro S v5 H locs ls h; cases h
  | succ fu ih =>
    intro S v5 H locs ls h w  hl
    rw [M_print_62] at h
    refine lv_aload_n hx hb dX10_print_62 rfl (lv_at hl 0 rfl) ?_
    refine gfX10_179 C w dX10_print_63 ?_
    refine lv_if_le (tgt := 141) hx hb dX10_print_66 (by decide) (fun hc => ?_) (fun hc => ?_)
    · have h := fy_if_t h hc
      refine lv_aload_n hx hb dX10_print_141 rfl (lv_at hl 0 rfl) ?_
      refine gfX10_185 C w dX10_print_142 ?_
      cases h
      exact fy_retI C w dX10_print_145
    · have h := fy_if_f h hc
      refine lv_aload_n hx hb dX10_print_69 rfl (lv_at hl 0 rfl) ?_
      refine lv_dup hx hb dX10_print_70 rfl ?_
      refine gfX10_179 C w dX10_print_71 ?_
      refine lv_iconst (v := (1 : Int32)) hx hb dX10_print_74 (by decide) ?_
      refine lv_isub hx hb dX10_print_75 ?_
      refine pfX10_179 C w dX10_print_76 (fun H locs w => ?_)
      obtain ⟨S76, e76⟩ : ∃ z, z = fy_sI S 0 19 ((S.1 0 19) - (1 : Int32)) := ⟨_, rfl⟩
      have h := fy_bl_some e76 h
      rw [← e76] at w
      refine lv_aload_n hx hb dX10_print_79 rfl (lv_at hl 0 rfl) ?_
      refine gfX10_43 C w dX10_print_80 ?_
      refine lv_aload_n hx hb dX10_print_83 rfl (lv_at hl 0 rfl) ?_
      refine gfX10_179 C w dX10_print_84 ?_
      obtain ⟨g87, h⟩ := fy_gd_some h
      refine fy_iald C w M_a12 g87 dX10_print_87 ?_
      refine lv_if_lt (tgt := 109) hx hb dX10_print_88 (by decide) (fun hc => ?_) (fun hc => ?_)
      · have h := fy_if_t h hc
        refine lv_aload_n hx hb dX10_print_109 rfl (lv_at hl 0 rfl) ?_
        refine gfX10_46 C w dX10_print_110 ?_
        refine lv_aload_n hx hb dX10_print_113 rfl (lv_at hl 0 rfl) ?_
        refine gfX10_185 C w dX10_print_114 ?_
        refine lv_aload_n hx hb dX10_print_117 rfl (lv_at hl 0 rfl) ?_
        refine gfX10_43 C w dX10_print_118 ?_
        refine lv_aload_n hx hb dX10_print_121 rfl (lv_at hl 0 rfl) ?_
        refine gfX10_179 C w dX10_print_122 ?_
        obtain ⟨g125, h⟩ := fy_gd_some h
        refine fy_iald C w M_a12 g125 dX10_print_125 ?_
        refine lv_ineg hx hb dX10_print_126 ?_
        obtain ⟨g127, h⟩ := fy_gd_some h
        refine fy_iast C w M_a13 g127 dX10_print_127 (fun H locs w => ?_)
        obtain ⟨S127, e127⟩ : ∃ z, z = fy_sI S76 13 (S76.1 0 18).toNatClampNeg (-(S76.1 12 (S76.1 0 19).toNatClampNeg)) := ⟨_, rfl⟩
        have h := fy_bl_some e127 h
        rw [← e127] at w
        refine lv_aload_n hx hb dX10_print_128 rfl (lv_at hl 0 rfl) ?_
        refine lv_dup hx hb dX10_print_129 rfl ?_
        refine gfX10_185 C w dX10_print_130 ?_
        refine lv_iconst (v := (1 : Int32)) hx hb dX10_print_133 (by decide) ?_
        refine lv_iadd hx hb dX10_print_134 ?_
        refine pfX10_185 C w dX10_print_135 (fun H locs w => ?_)
        obtain ⟨S135, e135⟩ : ∃ z, z = fy_sI S127 0 18 ((S127.1 0 18) + (1 : Int32)) := ⟨_, rfl⟩
        have h := fy_bl_some e135 h
        rw [← e135] at w
        refine lv_goto (tgt := 62) hx hb dX10_print_138 (by decide) ?_
        exact ih _ _ _ _ _ h w (lv_sub hl [0, 1] rfl)
      · have h := fy_if_f h hc
        refine lv_aload_n hx hb dX10_print_91 rfl (lv_at hl 0 rfl) ?_
        refine lv_iload hx hb dX10_print_92 (lv_at hl 1 rfl) ?_
        refine lv_aload_n hx hb dX10_print_94 rfl (lv_at hl 0 rfl) ?_
        refine gfX10_43 C w dX10_print_95 ?_
        refine lv_aload_n hx hb dX10_print_98 rfl (lv_at hl 0 rfl) ?_
        refine gfX10_179 C w dX10_print_99 ?_
        obtain ⟨g102, h⟩ := fy_gd_some h
        refine fy_iald C w M_a12 g102 dX10_print_102 ?_
        obtain ⟨S103, h103, h⟩ := fy_bd_some h
        refine fy_calV w (fy_runV (As := [.int v5, .int (S76.1 12 (S76.1 0 19).toNatClampNeg)]) (rest := []) C w (c_M_tells l g  h103) M_o ksX10_203 rfl ⟨Nat.le_of_ble_eq_true rfl, Nat.le_of_ble_eq_true rfl⟩ rfl hl.1 rfl (Nat.le_of_ble_eq_true rfl) ⟨Nat.le_refl _, Nat.le_refl _⟩ dX10_print_103) (fun H locs w => ?_)
        refine lv_goto (tgt := 62) hx hb dX10_print_106 (by decide) ?_
        exact ih _ _ _ _ _ h w (lv_sub hl [0, 1] rfl)

set_option maxHeartbeats 4000000 in
set_option maxRecDepth 100000 in
theorem t_M_print {p : Program} {l : Launch} {e : Env} {s : State} {m : MethodId} {args : Array Value} {below : List Frame} {meth : Method} {c : Code} {g : fy_G} (C : fy_C g M_Y p s m args meth c yX10_print.cls cX10_print 6 (some .int)) {S : fy_S} {v1 : Int32} {v2 : Int32} {v3 : Int32} {Sr : fy_S} {rr : Int32}  {H : Heap} {locs : List Loc} {ls : Array Slot} (h : M_print S v1 v2 v3 = some (Sr, rr)) (w : fy_W g M_Y S s H locs) (hl : lv_has ls 6 [(0, .ref (g.2.2.1 0)), (1, .int v1), (2, .int v2), (3, .int v3)]) : W p l e (fy_rm 3) s m args below meth c H locs 0 0 (MQ below (fy_QI g M_Y rr Sr) args s 0 0 (fy_A g M_Y)) (F0 m 0 ls []) := by
  obtain ⟨hx, hb, hr, hts, hown, hlk, hml, hK, hD, hE, hN⟩ := id C
  rw [M_print] at h
  refine lv_aload_n hx hb dX10_print_0 rfl (lv_at hl 0 rfl) ?_
  refine lv_iload_n hx hb dX10_print_1 rfl (lv_at hl 1 rfl) ?_
  refine lv_iload_n hx hb dX10_print_2 rfl (lv_at hl 2 rfl) ?_
  refine lv_iload_n hx hb dX10_print_3 rfl (lv_at hl 3 rfl) ?_
  obtain ⟨r4, h4, h⟩ := fy_bd_some h
  refine fy_calI w (fy_runV (As := [.int v1, .int v2, .int v3]) (rest := []) C w (c_M_asked l g  h4) M_o ksX10_192 rfl ⟨Nat.le_of_ble_eq_true rfl, Nat.le_of_ble_eq_true rfl⟩ rfl hl.1 rfl (Nat.le_of_ble_eq_true rfl) ⟨Nat.le_refl _, Nat.le_refl _⟩ dX10_print_4) (fun H locs w => ?_)
  refine lv_istore (lv' := [(4, .int r4), (0, .ref (g.2.2.1 0)), (1, .int v1), (2, .int v2), (3, .int v3)]) hx hb dX10_print_7 hl (by decide) rfl (fun ls hl => ?_)
  refine lv_iload hx hb dX10_print_9 (lv_at hl 0 rfl) ?_
  refine lv_if_ge (tgt := 17) hx hb dX10_print_11 (by decide) (fun hc => ?_) (fun hc => ?_)
  · have h := fy_if_t h hc
    refine lv_aload_n hx hb dX10_print_17 rfl (lv_at hl 1 rfl) ?_
    refine lv_iload_n hx hb dX10_print_18 rfl (lv_at hl 2 rfl) ?_
    refine lv_iload hx hb dX10_print_19 (lv_at hl 0 rfl) ?_
    obtain ⟨r21, h21, h⟩ := fy_bd_some h
    refine fy_calI w (fy_runV (As := [.int v1, .int r4]) (rest := []) C w (c_M_at l g  h21) M_o ksX10_119 rfl ⟨Nat.le_of_ble_eq_true rfl, Nat.le_of_ble_eq_true rfl⟩ rfl hl.1 rfl (Nat.le_of_ble_eq_true rfl) ⟨Nat.le_refl _, Nat.le_refl _⟩ dX10_print_21) (fun H locs w => ?_)
    refine lv_istore (lv' := [(5, .int r21), (4, .int r4), (0, .ref (g.2.2.1 0)), (1, .int v1), (2, .int v2), (3, .int v3)]) hx hb dX10_print_24 hl (by decide) rfl (fun ls hl => ?_)
    refine lv_aload_n hx hb dX10_print_26 rfl (lv_at hl 2 rfl) ?_
    refine lv_iload hx hb dX10_print_27 (lv_at hl 0 rfl) ?_
    refine lv_aload_n hx hb dX10_print_29 rfl (lv_at hl 2 rfl) ?_
    refine lv_iload_n hx hb dX10_print_30 rfl (lv_at hl 3 rfl) ?_
    refine lv_iload hx hb dX10_print_31 (lv_at hl 1 rfl) ?_
    obtain ⟨r33, h33, h⟩ := fy_bd_some h
    refine fy_calI w (fy_runV (As := [.int v1, .int r4]) (rest := [.int r21, .ref (g.2.2.1 0)]) C w (c_M_sizeOf l g  h33) M_o ksX10_196 rfl ⟨Nat.le_of_ble_eq_true rfl, Nat.le_of_ble_eq_true rfl⟩ rfl hl.1 rfl (Nat.le_of_ble_eq_true rfl) ⟨Nat.le_refl _, Nat.le_refl _⟩ dX10_print_33) (fun H locs w => ?_)
    obtain ⟨S36, h36, h⟩ := fy_bd_some h
    refine fy_calV w (fy_runV (As := [.int r21, .int r33]) (rest := []) C w (c_M_findParts l g  h36) M_o ksX10_199 rfl ⟨Nat.le_of_ble_eq_true rfl, Nat.le_of_ble_eq_true rfl⟩ rfl hl.1 rfl (Nat.le_of_ble_eq_true rfl) ⟨Nat.le_refl _, Nat.le_refl _⟩ dX10_print_36) (fun H locs w => ?_)
    refine lv_aload_n hx hb dX10_print_39 rfl (lv_at hl 2 rfl) ?_
    refine lv_iconst (v := (0 : Int32)) hx hb dX10_print_40 (by decide) ?_
    refine pfX10_185 C w dX10_print_41 (fun H locs w => ?_)
    obtain ⟨S41, e41⟩ : ∃ z, z = fy_sI S36 0 18 (0 : Int32) := ⟨_, rfl⟩
    have h := fy_bl_some e41 h
    rw [← e41] at w
    refine lv_aload_n hx hb dX10_print_44 rfl (lv_at hl 2 rfl) ?_
    refine lv_iconst (v := (0 : Int32)) hx hb dX10_print_45 (by decide) ?_
    refine pfX10_179 C w dX10_print_46 (fun H locs w => ?_)
    obtain ⟨S46, e46⟩ : ∃ z, z = fy_sI S41 0 19 (0 : Int32) := ⟨_, rfl⟩
    have h := fy_bl_some e46 h
    rw [← e46] at w
    refine lv_aload_n hx hb dX10_print_49 rfl (lv_at hl 2 rfl) ?_
    refine lv_aload_n hx hb dX10_print_50 rfl (lv_at hl 2 rfl) ?_
    refine lv_iload_n hx hb dX10_print_51 rfl (lv_at hl 3 rfl) ?_
    refine lv_iload hx hb dX10_print_52 (lv_at hl 1 rfl) ?_
    obtain ⟨r54, h54, h⟩ := fy_bd_some h
    refine fy_calI w (fy_runV (As := [.int v1, .int r4]) (rest := [.ref (g.2.2.1 0)]) C w (c_M_sizeOf l g  h54) M_o ksX10_196 rfl ⟨Nat.le_of_ble_eq_true rfl, Nat.le_of_ble_eq_true rfl⟩ rfl hl.1 rfl (Nat.le_of_ble_eq_true rfl) ⟨Nat.le_refl _, Nat.le_refl _⟩ dX10_print_54) (fun H locs w => ?_)
    refine lv_iconst (v := (1 : Int32)) hx hb dX10_print_57 (by decide) ?_
    refine lv_isub hx hb dX10_print_58 ?_
    obtain ⟨S59, h59, h⟩ := fy_bd_some h
    refine fy_calV w (fy_runV (As := [.int (r54 - (1 : Int32))]) (rest := []) C w (c_M_puts l g  h59) M_o ksX10_182 rfl ⟨Nat.le_of_ble_eq_true rfl, Nat.le_of_ble_eq_true rfl⟩ rfl hl.1 rfl (Nat.le_of_ble_eq_true rfl) ⟨Nat.le_refl _, Nat.le_refl _⟩ dX10_print_59) (fun H locs w => ?_)
    exact t_M_print_62 C fy_fu _ _ _ _ _ h w (lv_sub hl [2, 0] rfl)
  · have h := fy_if_f h hc
    refine lv_bipush (v := (-2 : Int32)) hx hb dX10_print_14 (by decide) ?_
    cases h
    exact fy_retI C w dX10_print_16

set_option maxHeartbeats 4000000 in
set_option maxRecDepth 100000 in
theorem c_M_print (l : Launch) (g : fy_G) {S : fy_S} {v1 : Int32} {v2 : Int32} {v3 : Int32} {Sr : fy_S} {rr : Int32}  (h : M_print S v1 v2 v3 = some (Sr, rr)) : fy_M g M_Y l yX10_print cX10_print 6 (some .int) (fy_rm 3) [.ref (g.2.2.1 0), .int v1, .int v2, .int v3] S (fy_QI g M_Y rr Sr) :=
  fy_entry (by decide +kernel) (Nat.le_of_ble_eq_true rfl) (fun p e s m args below meth c ls C w hl => t_M_print C  h w hl)
def M_printed (S : fy_S) (v1 : Int32) : Option (Int32) :=
  fy_bd (M_isBetween S v1 (0 : Int32) ((S.1 0 18) - (1 : Int32))) fun r8 =>
  if r8 = 0 then (
    some (-1 : Int32))
  else (
    fy_gd (fy_ix v1 200) <|
    some (S.1 13 v1.toNatClampNeg))
set_option maxHeartbeats 4000000 in
set_option maxRecDepth 100000 in
theorem t_M_printed {p : Program} {l : Launch} {e : Env} {s : State} {m : MethodId} {args : Array Value} {below : List Frame} {meth : Method} {c : Code} {g : fy_G} (C : fy_C g M_Y p s m args meth c yX10_printed.cls cX10_printed 2 (some .int)) {S : fy_S} {v1 : Int32} {rr : Int32}  {H : Heap} {locs : List Loc} {ls : Array Slot} (h : M_printed S v1 = some rr) (w : fy_W g M_Y S s H locs) (hl : lv_has ls 2 [(0, .ref (g.2.2.1 0)), (1, .int v1)]) : W p l e (fy_rm 1) s m args below meth c H locs 0 0 (MQ below (fy_QI g M_Y rr S) args s 0 0 (fy_A g M_Y)) (F0 m 0 ls []) := by
  obtain ⟨hx, hb, hr, hts, hown, hlk, hml, hK, hD, hE, hN⟩ := id C
  rw [M_printed] at h
  refine lv_iload_n hx hb dX10_printed_0 rfl (lv_at hl 1 rfl) ?_
  refine lv_iconst (v := (0 : Int32)) hx hb dX10_printed_1 (by decide) ?_
  refine lv_aload_n hx hb dX10_printed_2 rfl (lv_at hl 0 rfl) ?_
  refine gfX10_185 C w dX10_printed_3 ?_
  refine lv_iconst (v := (1 : Int32)) hx hb dX10_printed_6 (by decide) ?_
  refine lv_isub hx hb dX10_printed_7 ?_
  obtain ⟨r8, h8, h⟩ := fy_bd_some h
  refine fy_calI w (fy_runS (As := [.int v1, .int (0 : Int32), .int ((S.1 0 18) - (1 : Int32))]) (rest := []) C w (c_M_isBetween l g  h8) ksX10_127 ⟨Nat.le_of_ble_eq_true rfl, Nat.le_of_ble_eq_true rfl⟩ rfl hl.1 rfl (Nat.le_of_ble_eq_true rfl) ⟨Nat.le_refl _, Nat.le_refl _⟩ dX10_printed_8) (fun H locs w => ?_)
  refine lv_if_eq (tgt := 23) hx hb dX10_printed_11 (by decide) (fun hc => ?_) (fun hc => ?_)
  · have h := fy_if_t h hc
    refine lv_iconst (v := (-1 : Int32)) hx hb dX10_printed_23 (by decide) ?_
    cases h
    exact fy_retI C w dX10_printed_24
  · have h := fy_if_f h hc
    refine lv_aload_n hx hb dX10_printed_14 rfl (lv_at hl 0 rfl) ?_
    refine gfX10_46 C w dX10_printed_15 ?_
    refine lv_iload_n hx hb dX10_printed_18 rfl (lv_at hl 1 rfl) ?_
    obtain ⟨g19, h⟩ := fy_gd_some h
    refine fy_iald C w M_a13 g19 dX10_printed_19 ?_
    refine lv_goto (tgt := 24) hx hb dX10_printed_20 (by decide) ?_
    cases h
    exact fy_retI C w dX10_printed_24

set_option maxHeartbeats 4000000 in
set_option maxRecDepth 100000 in
theorem c_M_printed (l : Launch) (g : fy_G) {S : fy_S} {v1 : Int32} {rr : Int32}  (h : M_printed S v1 = some rr) : fy_M g M_Y l yX10_printed cX10_printed 2 (some .int) (fy_rm 1) [.ref (g.2.2.1 0), .int v1] S (fy_QI g M_Y rr S) :=
  fy_entry (by decide +kernel) (Nat.le_of_ble_eq_true rfl) (fun p e s m args below meth c ls C w hl => t_M_printed C  h w hl)
def M_allOf (S : fy_S) (v1 : Int32) : Option (Int32) :=
  fy_gd (fy_ix v1 7) <|
  some (((1 : Int32) <<< ((S.1 1 v1.toNatClampNeg) &&& 31)) - (1 : Int32))
set_option maxHeartbeats 4000000 in
set_option maxRecDepth 100000 in
theorem t_M_allOf {p : Program} {l : Launch} {e : Env} {s : State} {m : MethodId} {args : Array Value} {below : List Frame} {meth : Method} {c : Code} {g : fy_G} (C : fy_C g M_Y p s m args meth c yX10_allOf.cls cX10_allOf 2 (some .int)) {S : fy_S} {v1 : Int32} {rr : Int32}  {H : Heap} {locs : List Loc} {ls : Array Slot} (h : M_allOf S v1 = some rr) (w : fy_W g M_Y S s H locs) (hl : lv_has ls 2 [(0, .ref (g.2.2.1 0)), (1, .int v1)]) : W p l e (fy_rm 0) s m args below meth c H locs 0 0 (MQ below (fy_QI g M_Y rr S) args s 0 0 (fy_A g M_Y)) (F0 m 0 ls []) := by
  obtain ⟨hx, hb, hr, hts, hown, hlk, hml, hK, hD, hE, hN⟩ := id C
  rw [M_allOf] at h
  refine lv_iconst (v := (1 : Int32)) hx hb dX10_allOf_0 (by decide) ?_
  refine lv_aload_n hx hb dX10_allOf_1 rfl (lv_at hl 0 rfl) ?_
  refine gfX10_7 C w dX10_allOf_2 ?_
  refine lv_iload_n hx hb dX10_allOf_5 rfl (lv_at hl 1 rfl) ?_
  obtain ⟨g6, h⟩ := fy_gd_some h
  refine fy_iald C w M_a1 g6 dX10_allOf_6 ?_
  refine lv_ishl hx hb dX10_allOf_7 ?_
  refine lv_iconst (v := (1 : Int32)) hx hb dX10_allOf_8 (by decide) ?_
  refine lv_isub hx hb dX10_allOf_9 ?_
  cases h
  exact fy_retI C w dX10_allOf_10

set_option maxHeartbeats 4000000 in
set_option maxRecDepth 100000 in
theorem c_M_allOf (l : Launch) (g : fy_G) {S : fy_S} {v1 : Int32} {rr : Int32}  (h : M_allOf S v1 = some rr) : fy_M g M_Y l yX10_allOf cX10_allOf 2 (some .int) (fy_rm 0) [.ref (g.2.2.1 0), .int v1] S (fy_QI g M_Y rr S) :=
  fy_entry (by decide +kernel) (Nat.le_of_ble_eq_true rfl) (fun p e s m args below meth c ls C w hl => t_M_allOf C  h w hl)
def M_isSet (S : fy_S) (v1 : Int32) (v2 : Int32) : Option (Int32) :=
  if v2 < 0 then (
    some (0 : Int32))
  else (
    fy_bd (M_allOf S v1) fun r7 =>
    if r7 < v2 then (
      some (0 : Int32))
    else (
      some (1 : Int32)))
set_option maxHeartbeats 4000000 in
set_option maxRecDepth 100000 in
theorem t_M_isSet {p : Program} {l : Launch} {e : Env} {s : State} {m : MethodId} {args : Array Value} {below : List Frame} {meth : Method} {c : Code} {g : fy_G} (C : fy_C g M_Y p s m args meth c yX10_isSet.cls cX10_isSet 3 (some .boolean)) {S : fy_S} {v1 : Int32} {v2 : Int32} {rr : Int32}  {H : Heap} {locs : List Loc} {ls : Array Slot} (h : M_isSet S v1 v2 = some rr) (w : fy_W g M_Y S s H locs) (hl : lv_has ls 3 [(0, .ref (g.2.2.1 0)), (1, .int v1), (2, .int v2)]) : W p l e (fy_rm 1) s m args below meth c H locs 0 0 (MQ below (fy_QI g M_Y rr S) args s 0 0 (fy_A g M_Y)) (F0 m 0 ls []) := by
  obtain ⟨hx, hb, hr, hts, hown, hlk, hml, hK, hD, hE, hN⟩ := id C
  rw [M_isSet] at h
  refine lv_iload_n hx hb dX10_isSet_0 rfl (lv_at hl 2 rfl) ?_
  refine lv_if_lt (tgt := 17) hx hb dX10_isSet_1 (by decide) (fun hc => ?_) (fun hc => ?_)
  · have h := fy_if_t h hc
    refine lv_iconst (v := (0 : Int32)) hx hb dX10_isSet_17 (by decide) ?_
    cases h
    exact fy_retZ C w (by decide +kernel) dX10_isSet_18
  · have h := fy_if_f h hc
    refine lv_iload_n hx hb dX10_isSet_4 rfl (lv_at hl 2 rfl) ?_
    refine lv_aload_n hx hb dX10_isSet_5 rfl (lv_at hl 0 rfl) ?_
    refine lv_iload_n hx hb dX10_isSet_6 rfl (lv_at hl 1 rfl) ?_
    obtain ⟨r7, h7, h⟩ := fy_bd_some h
    refine fy_calI w (fy_runV (As := [.int v1]) (rest := [.int v2]) C w (c_M_allOf l g  h7) M_o ksX10_115 rfl ⟨Nat.le_of_ble_eq_true rfl, Nat.le_of_ble_eq_true rfl⟩ rfl hl.1 rfl (Nat.le_of_ble_eq_true rfl) ⟨Nat.le_refl _, Nat.le_refl _⟩ dX10_isSet_7) (fun H locs w => ?_)
    refine lv_icmp_gt (tgt := 17) hx hb dX10_isSet_10 (by decide) (fun hc => ?_) (fun hc => ?_)
    · have h := fy_if_t h hc
      refine lv_iconst (v := (0 : Int32)) hx hb dX10_isSet_17 (by decide) ?_
      cases h
      exact fy_retZ C w (by decide +kernel) dX10_isSet_18
    · have h := fy_if_f h hc
      refine lv_iconst (v := (1 : Int32)) hx hb dX10_isSet_13 (by decide) ?_
      refine lv_goto (tgt := 18) hx hb dX10_isSet_14 (by decide) ?_
      cases h
      exact fy_retZ C w (by decide +kernel) dX10_isSet_18

set_option maxHeartbeats 4000000 in
set_option maxRecDepth 100000 in
theorem c_M_isSet (l : Launch) (g : fy_G) {S : fy_S} {v1 : Int32} {v2 : Int32} {rr : Int32}  (h : M_isSet S v1 v2 = some rr) : fy_M g M_Y l yX10_isSet cX10_isSet 3 (some .boolean) (fy_rm 1) [.ref (g.2.2.1 0), .int v1, .int v2] S (fy_QI g M_Y rr S) :=
  fy_entry (by decide +kernel) (Nat.le_of_ble_eq_true rfl) (fun p e s m args below meth c ls C w hl => t_M_isSet C  h w hl)
def M_satisfies_14 (S : fy_S) : Nat → Int32 → Int32 → Int32 → Int64 → Int32 → Int32 → Option (Int32)
  | 0, _, _, _, _, _, _ => none
  | fu + 1, v1, v2, v3, v4, v6, v7 =>
    fy_bd (M_sizeOf S v1 v2) fun r19 =>
    if r19 ≤ v7 then (
      if (lg_cmp v4 (1 : Int64)) = 0 then (
        some (1 : Int32))
      else (
        some (0 : Int32)))
    else (
      fy_gd (fy_ix (v6 + v7) 5320) <|
      fy_bl (S.1 6 (v6 + v7).toNatClampNeg) fun x35 =>
      if x35 < (10 : Int32) then (
        if x35 = (8 : Int32) then (
          fy_bl ((v4 <<< ((1 : Int32).toInt64 &&& 63)) ||| (1 : Int64)) fun x124 =>
          fy_bl (v7 + (1 : Int32)) fun x126 =>
          M_satisfies_14 S fu v1 v2 v3 x124 v6 x126)
        else (
          if (8 : Int32) ≤ x35 then (
            fy_bl ((v4 <<< ((1 : Int32).toInt64 &&& 63)) ||| (0 : Int64)) fun x124 =>
            fy_bl (v7 + (1 : Int32)) fun x126 =>
            M_satisfies_14 S fu v1 v2 v3 x124 v6 x126)
          else (
            if ((v3 >>> (x35 &&& 31)) &&& (1 : Int32)) = (1 : Int32) then (
              fy_bl ((v4 <<< ((1 : Int32).toInt64 &&& 63)) ||| (1 : Int64)) fun x124 =>
              fy_bl (v7 + (1 : Int32)) fun x126 =>
              M_satisfies_14 S fu v1 v2 v3 x124 v6 x126)
            else (
              fy_bl ((v4 <<< ((1 : Int32).toInt64 &&& 63)) ||| (0 : Int64)) fun x124 =>
              fy_bl (v7 + (1 : Int32)) fun x126 =>
              M_satisfies_14 S fu v1 v2 v3 x124 v6 x126))))
      else (
        fy_bl (v4 &&& (1 : Int64)) fun x48 =>
        fy_bl ((v4 >>> ((1 : Int32).toInt64 &&& 63)) &&& (1 : Int64)) fun x56 =>
        if x35 = (10 : Int32) then (
          fy_bl (((v4 >>> ((2 : Int32).toInt64 &&& 63)) <<< ((1 : Int32).toInt64 &&& 63)) ||| (x48 &&& x56)) fun x85 =>
          fy_bl (v7 + (1 : Int32)) fun x126 =>
          M_satisfies_14 S fu v1 v2 v3 x85 v6 x126)
        else (
          fy_bl (((v4 >>> ((2 : Int32).toInt64 &&& 63)) <<< ((1 : Int32).toInt64 &&& 63)) ||| (x48 ||| x56)) fun x85 =>
          fy_bl (v7 + (1 : Int32)) fun x126 =>
          M_satisfies_14 S fu v1 v2 v3 x85 v6 x126)))
def M_satisfies (S : fy_S) (v1 : Int32) (v2 : Int32) (v3 : Int32) : Option (Int32) :=
  fy_bd (M_at S v1 v2) fun r6 =>
  M_satisfies_14 S fy_fu v1 v2 v3 (0 : Int64) r6 (0 : Int32)
set_option maxHeartbeats 4000000 in
set_option maxRecDepth 100000 in
theorem t_M_satisfies_14 {p : Program} {l : Launch} {e : Env} {s : State} {m : MethodId} {args : Array Value} {below : List Frame} {meth : Method} {c : Code} {g : fy_G} (C : fy_C g M_Y p s m args meth c yX10_satisfies.cls cX10_satisfies 13 (some .boolean)) {S : fy_S} {rr : Int32} : ∀ (fu : Nat) (v1 : Int32) (v2 : Int32) (v3 : Int32) (v4 : Int64) (v6 : Int32) (v7 : Int32) (H : Heap) (locs : List Loc) (ls : Array Slot), M_satisfies_14 S fu v1 v2 v3 v4 v6 v7 = some rr → fy_W g M_Y S s H locs → lv_has ls 13 [(0, .ref (g.2.2.1 0)), (1, .int v1), (2, .int v2), (3, .int v3), (4, .long v4), (6, .int v6), (7, .int v7)] → W p l e (fy_rm 1) s m args below meth c H locs 0 0 (MQ below (fy_QI g M_Y rr S) args s 0 0 (fy_A g M_Y)) (F0 m 14 ls []) := by
  obtain ⟨hx, hb, hr, hts, hown, hlk, hml, hK, hD, hE, hN⟩ := id C
  intro fu
  induction fu with
  | zero => intro v1 v2 v3 v4 v6 v7 H locs ls h; cases h
  | succ fu ih =>
    intro v1 v2 v3 v4 v6 v7 H locs ls h w  hl
    rw [M_satisfies_14] at h
    refine lv_iload hx hb dX10_satisfies_14 (lv_at hl 6 rfl) ?_
    refine lv_aload_n hx hb dX10_satisfies_16 rfl (lv_at hl 0 rfl) ?_
    refine lv_iload_n hx hb dX10_satisfies_17 rfl (lv_at hl 1 rfl) ?_
    refine lv_iload_n hx hb dX10_satisfies_18 rfl (lv_at hl 2 rfl) ?_
    obtain ⟨r19, h19, h⟩ := fy_bd_some h
    refine fy_calI w (fy_runV (As := [.int v1, .int v2]) (rest := [.int v7]) C w (c_M_sizeOf l g  h19) M_o ksX10_196 rfl ⟨Nat.le_of_ble_eq_true rfl, Nat.le_of_ble_eq_true rfl⟩ rfl hl.1 rfl (Nat.le_of_ble_eq_true rfl) ⟨Nat.le_refl _, Nat.le_refl _⟩ dX10_satisfies_19) (fun H locs w => ?_)
    refine lv_icmp_ge (tgt := 132) hx hb dX10_satisfies_22 (by decide) (fun hc => ?_) (fun hc => ?_)
    · have h := fy_if_t h hc
      refine lv_lload hx hb dX10_satisfies_132 (lv_at hl 4 rfl) ?_
      refine lv_lconst (v := (1 : Int64)) hx hb dX10_satisfies_134 (by decide) ?_
      refine W.lcmp hx hb dX10_satisfies_135 ?_
      refine lv_if_ne (tgt := 143) hx hb dX10_satisfies_136 (by decide) (fun hc => ?_) (fun hc => ?_)
      · have h := fy_if_f h hc
        refine lv_iconst (v := (0 : Int32)) hx hb dX10_satisfies_143 (by decide) ?_
        cases h
        exact fy_retZ C w (by decide +kernel) dX10_satisfies_144
      · have h := fy_if_t h hc
        refine lv_iconst (v := (1 : Int32)) hx hb dX10_satisfies_139 (by decide) ?_
        refine lv_goto (tgt := 144) hx hb dX10_satisfies_140 (by decide) ?_
        cases h
        exact fy_retZ C w (by decide +kernel) dX10_satisfies_144
    · have h := fy_if_f h hc
      refine lv_aload_n hx hb dX10_satisfies_25 rfl (lv_at hl 0 rfl) ?_
      refine gfX10_25 C w dX10_satisfies_26 ?_
      refine lv_iload hx hb dX10_satisfies_29 (lv_at hl 5 rfl) ?_
      refine lv_iload hx hb dX10_satisfies_31 (lv_at hl 6 rfl) ?_
      refine lv_iadd hx hb dX10_satisfies_33 ?_
      obtain ⟨g34, h⟩ := fy_gd_some h
      refine fy_iald C w M_a6 g34 dX10_satisfies_34 ?_
      refine lv_topi (fun x35 e35 => ?_)
      have h := fy_bl_some e35 h
      refine lv_istore (lv' := [(8, .int x35), (0, .ref (g.2.2.1 0)), (1, .int v1), (2, .int v2), (3, .int v3), (4, .long v4), (6, .int v6), (7, .int v7)]) hx hb dX10_satisfies_35 hl (by decide) rfl (fun ls hl => ?_)
      refine lv_iload hx hb dX10_satisfies_37 (lv_at hl 0 rfl) ?_
      refine lv_bipush (v := (10 : Int32)) hx hb dX10_satisfies_39 (by decide) ?_
      refine lv_icmp_lt (tgt := 90) hx hb dX10_satisfies_41 (by decide) (fun hc => ?_) (fun hc => ?_)
      · have h := fy_if_t h hc
        refine lv_lload hx hb dX10_satisfies_90 (lv_at hl 5 rfl) ?_
        refine lv_iconst (v := (1 : Int32)) hx hb dX10_satisfies_92 (by decide) ?_
        refine lv_lshl (v := v4 <<< ((1 : Int32).toInt64 &&& 63)) hx hb dX10_satisfies_93 rfl ?_
        refine lv_iload hx hb dX10_satisfies_94 (lv_at hl 0 rfl) ?_
        refine lv_bipush (v := (8 : Int32)) hx hb dX10_satisfies_96 (by decide) ?_
        refine lv_icmp_eq (tgt := 118) hx hb dX10_satisfies_98 (by decide) (fun hc => ?_) (fun hc => ?_)
        · have h := fy_if_t h hc
          refine lv_lconst (v := (1 : Int64)) hx hb dX10_satisfies_118 (by decide) ?_
          refine lv_goto (tgt := 123) hx hb dX10_satisfies_119 (by decide) ?_
          refine lv_lor hx hb dX10_satisfies_123 ?_
          refine lv_topl (fun x124 e124 => ?_)
          have h := fy_bl_some e124 h
          refine lv_lstore (lv' := [(4, .long x124), (8, .int x35), (0, .ref (g.2.2.1 0)), (1, .int v1), (2, .int v2), (3, .int v3), (6, .int v6), (7, .int v7)]) hx hb dX10_satisfies_124 hl (by decide) rfl (fun ls hl => ?_)
          obtain ⟨x126, e126⟩ : ∃ z : Int32, z = v7 + (1 : Int32) := ⟨_, rfl⟩
          have h := fy_bl_some e126 h
          refine lv_iinc (k := 7) (v := x126) (lv' := [(7, .int x126), (4, .long x124), (8, .int x35), (0, .ref (g.2.2.1 0)), (1, .int v1), (2, .int v2), (3, .int v3), (6, .int v6)]) hx hb dX10_satisfies_126 hl rfl (by rw [e126]; rfl) (by decide) rfl (fun ls hl => ?_)
          refine lv_goto (tgt := 14) hx hb dX10_satisfies_129 (by decide) ?_
          exact ih _ _ _ _ _ _ _ _ _ h w (lv_sub hl [3, 4, 5, 6, 1, 7, 0] rfl)
        · have h := fy_if_f h hc
          refine lv_iload hx hb dX10_satisfies_101 (lv_at hl 0 rfl) ?_
          refine lv_bipush (v := (8 : Int32)) hx hb dX10_satisfies_103 (by decide) ?_
          refine lv_icmp_ge (tgt := 122) hx hb dX10_satisfies_105 (by decide) (fun hc => ?_) (fun hc => ?_)
          · have h := fy_if_t h hc
            refine lv_lconst (v := (0 : Int64)) hx hb dX10_satisfies_122 (by decide) ?_
            refine lv_lor hx hb dX10_satisfies_123 ?_
            refine lv_topl (fun x124 e124 => ?_)
            have h := fy_bl_some e124 h
            refine lv_lstore (lv' := [(4, .long x124), (8, .int x35), (0, .ref (g.2.2.1 0)), (1, .int v1), (2, .int v2), (3, .int v3), (6, .int v6), (7, .int v7)]) hx hb dX10_satisfies_124 hl (by decide) rfl (fun ls hl => ?_)
            obtain ⟨x126, e126⟩ : ∃ z : Int32, z = v7 + (1 : Int32) := ⟨_, rfl⟩
            have h := fy_bl_some e126 h
            refine lv_iinc (k := 7) (v := x126) (lv' := [(7, .int x126), (4, .long x124), (8, .int x35), (0, .ref (g.2.2.1 0)), (1, .int v1), (2, .int v2), (3, .int v3), (6, .int v6)]) hx hb dX10_satisfies_126 hl rfl (by rw [e126]; rfl) (by decide) rfl (fun ls hl => ?_)
            refine lv_goto (tgt := 14) hx hb dX10_satisfies_129 (by decide) ?_
            exact ih _ _ _ _ _ _ _ _ _ h w (lv_sub hl [3, 4, 5, 6, 1, 7, 0] rfl)
          · have h := fy_if_f h hc
            refine lv_iload_n hx hb dX10_satisfies_108 rfl (lv_at hl 4 rfl) ?_
            refine lv_iload hx hb dX10_satisfies_109 (lv_at hl 0 rfl) ?_
            refine lv_ishr hx hb dX10_satisfies_111 ?_
            refine lv_iconst (v := (1 : Int32)) hx hb dX10_satisfies_112 (by decide) ?_
            refine lv_iand hx hb dX10_satisfies_113 ?_
            refine lv_iconst (v := (1 : Int32)) hx hb dX10_satisfies_114 (by decide) ?_
            refine lv_icmp_ne (tgt := 122) hx hb dX10_satisfies_115 (by decide) (fun hc => ?_) (fun hc => ?_)
            · have h := fy_if_f h hc
              refine lv_lconst (v := (0 : Int64)) hx hb dX10_satisfies_122 (by decide) ?_
              refine lv_lor hx hb dX10_satisfies_123 ?_
              refine lv_topl (fun x124 e124 => ?_)
              have h := fy_bl_some e124 h
              refine lv_lstore (lv' := [(4, .long x124), (8, .int x35), (0, .ref (g.2.2.1 0)), (1, .int v1), (2, .int v2), (3, .int v3), (6, .int v6), (7, .int v7)]) hx hb dX10_satisfies_124 hl (by decide) rfl (fun ls hl => ?_)
              obtain ⟨x126, e126⟩ : ∃ z : Int32, z = v7 + (1 : Int32) := ⟨_, rfl⟩
              have h := fy_bl_some e126 h
              refine lv_iinc (k := 7) (v := x126) (lv' := [(7, .int x126), (4, .long x124), (8, .int x35), (0, .ref (g.2.2.1 0)), (1, .int v1), (2, .int v2), (3, .int v3), (6, .int v6)]) hx hb dX10_satisfies_126 hl rfl (by rw [e126]; rfl) (by decide) rfl (fun ls hl => ?_)
              refine lv_goto (tgt := 14) hx hb dX10_satisfies_129 (by decide) ?_
              exact ih _ _ _ _ _ _ _ _ _ h w (lv_sub hl [3, 4, 5, 6, 1, 7, 0] rfl)
            · have h := fy_if_t h hc
              refine lv_lconst (v := (1 : Int64)) hx hb dX10_satisfies_118 (by decide) ?_
              refine lv_goto (tgt := 123) hx hb dX10_satisfies_119 (by decide) ?_
              refine lv_lor hx hb dX10_satisfies_123 ?_
              refine lv_topl (fun x124 e124 => ?_)
              have h := fy_bl_some e124 h
              refine lv_lstore (lv' := [(4, .long x124), (8, .int x35), (0, .ref (g.2.2.1 0)), (1, .int v1), (2, .int v2), (3, .int v3), (6, .int v6), (7, .int v7)]) hx hb dX10_satisfies_124 hl (by decide) rfl (fun ls hl => ?_)
              obtain ⟨x126, e126⟩ : ∃ z : Int32, z = v7 + (1 : Int32) := ⟨_, rfl⟩
              have h := fy_bl_some e126 h
              refine lv_iinc (k := 7) (v := x126) (lv' := [(7, .int x126), (4, .long x124), (8, .int x35), (0, .ref (g.2.2.1 0)), (1, .int v1), (2, .int v2), (3, .int v3), (6, .int v6)]) hx hb dX10_satisfies_126 hl rfl (by rw [e126]; rfl) (by decide) rfl (fun ls hl => ?_)
              refine lv_goto (tgt := 14) hx hb dX10_satisfies_129 (by decide) ?_
              exact ih _ _ _ _ _ _ _ _ _ h w (lv_sub hl [3, 4, 5, 6, 1, 7, 0] rfl)
      · have h := fy_if_f h hc
        refine lv_lload hx hb dX10_satisfies_44 (lv_at hl 5 rfl) ?_
        refine lv_lconst (v := (1 : Int64)) hx hb dX10_satisfies_46 (by decide) ?_
        refine lv_land hx hb dX10_satisfies_47 ?_
        refine lv_topl (fun x48 e48 => ?_)
        have h := fy_bl_some e48 h
        refine lv_lstore (lv' := [(9, .long x48), (8, .int x35), (0, .ref (g.2.2.1 0)), (1, .int v1), (2, .int v2), (3, .int v3), (4, .long v4), (6, .int v6), (7, .int v7)]) hx hb dX10_satisfies_48 hl (by decide) rfl (fun ls hl => ?_)
        refine lv_lload hx hb dX10_satisfies_50 (lv_at hl 6 rfl) ?_
        refine lv_iconst (v := (1 : Int32)) hx hb dX10_satisfies_52 (by decide) ?_
        refine lv_lshr (v := v4 >>> ((1 : Int32).toInt64 &&& 63)) hx hb dX10_satisfies_53 rfl ?_
        refine lv_lconst (v := (1 : Int64)) hx hb dX10_satisfies_54 (by decide) ?_
        refine lv_land hx hb dX10_satisfies_55 ?_
        refine lv_topl (fun x56 e56 => ?_)
        have h := fy_bl_some e56 h
        refine lv_lstore (lv' := [(11, .long x56), (9, .long x48), (8, .int x35), (0, .ref (g.2.2.1 0)), (1, .int v1), (2, .int v2), (3, .int v3), (4, .long v4), (6, .int v6), (7, .int v7)]) hx hb dX10_satisfies_56 hl (by decide) rfl (fun ls hl => ?_)
        refine lv_lload hx hb dX10_satisfies_58 (lv_at hl 7 rfl) ?_
        refine lv_iconst (v := (2 : Int32)) hx hb dX10_satisfies_60 (by decide) ?_
        refine lv_lshr (v := v4 >>> ((2 : Int32).toInt64 &&& 63)) hx hb dX10_satisfies_61 rfl ?_
        refine lv_iconst (v := (1 : Int32)) hx hb dX10_satisfies_62 (by decide) ?_
        refine lv_lshl (v := (v4 >>> ((2 : Int32).toInt64 &&& 63)) <<< ((1 : Int32).toInt64 &&& 63)) hx hb dX10_satisfies_63 rfl ?_
        refine lv_iload hx hb dX10_satisfies_64 (lv_at hl 2 rfl) ?_
        refine lv_bipush (v := (10 : Int32)) hx hb dX10_satisfies_66 (by decide) ?_
        refine lv_icmp_ne (tgt := 79) hx hb dX10_satisfies_68 (by decide) (fun hc => ?_) (fun hc => ?_)
        · have h := fy_if_f h hc
          refine lv_lload hx hb dX10_satisfies_79 (lv_at hl 1 rfl) ?_
          refine lv_lload hx hb dX10_satisfies_81 (lv_at hl 0 rfl) ?_
          refine lv_lor hx hb dX10_satisfies_83 ?_
          refine lv_lor hx hb dX10_satisfies_84 ?_
          refine lv_topl (fun x85 e85 => ?_)
          have h := fy_bl_some e85 h
          refine lv_lstore (lv' := [(4, .long x85), (11, .long x56), (9, .long x48), (8, .int x35), (0, .ref (g.2.2.1 0)), (1, .int v1), (2, .int v2), (3, .int v3), (6, .int v6), (7, .int v7)]) hx hb dX10_satisfies_85 hl (by decide) rfl (fun ls hl => ?_)
          refine lv_goto (tgt := 126) hx hb dX10_satisfies_87 (by decide) ?_
          obtain ⟨x126, e126⟩ : ∃ z : Int32, z = v7 + (1 : Int32) := ⟨_, rfl⟩
          have h := fy_bl_some e126 h
          refine lv_iinc (k := 9) (v := x126) (lv' := [(7, .int x126), (4, .long x85), (11, .long x56), (9, .long x48), (8, .int x35), (0, .ref (g.2.2.1 0)), (1, .int v1), (2, .int v2), (3, .int v3), (6, .int v6)]) hx hb dX10_satisfies_126 hl rfl (by rw [e126]; rfl) (by decide) rfl (fun ls hl => ?_)
          refine lv_goto (tgt := 14) hx hb dX10_satisfies_129 (by decide) ?_
          exact ih _ _ _ _ _ _ _ _ _ h w (lv_sub hl [5, 6, 7, 8, 1, 9, 0] rfl)
        · have h := fy_if_t h hc
          refine lv_lload hx hb dX10_satisfies_71 (lv_at hl 1 rfl) ?_
          refine lv_lload hx hb dX10_satisfies_73 (lv_at hl 0 rfl) ?_
          refine lv_land hx hb dX10_satisfies_75 ?_
          refine lv_goto (tgt := 84) hx hb dX10_satisfies_76 (by decide) ?_
          refine lv_lor hx hb dX10_satisfies_84 ?_
          refine lv_topl (fun x85 e85 => ?_)
          have h := fy_bl_some e85 h
          refine lv_lstore (lv' := [(4, .long x85), (11, .long x56), (9, .long x48), (8, .int x35), (0, .ref (g.2.2.1 0)), (1, .int v1), (2, .int v2), (3, .int v3), (6, .int v6), (7, .int v7)]) hx hb dX10_satisfies_85 hl (by decide) rfl (fun ls hl => ?_)
          refine lv_goto (tgt := 126) hx hb dX10_satisfies_87 (by decide) ?_
          obtain ⟨x126, e126⟩ : ∃ z : Int32, z = v7 + (1 : Int32) := ⟨_, rfl⟩
          have h := fy_bl_some e126 h
          refine lv_iinc (k := 9) (v := x126) (lv' := [(7, .int x126), (4, .long x85), (11, .long x56), (9, .long x48), (8, .int x35), (0, .ref (g.2.2.1 0)), (1, .int v1), (2, .int v2), (3, .int v3), (6, .int v6)]) hx hb dX10_satisfies_126 hl rfl (by rw [e126]; rfl) (by decide) rfl (fun ls hl => ?_)
          refine lv_goto (tgt := 14) hx hb dX10_satisfies_129 (by decide) ?_
          exact ih _ _ _ _ _ _ _ _ _ h w (lv_sub hl [5, 6, 7, 8, 1, 9, 0] rfl)

set_option maxHeartbeats 4000000 in
set_option maxRecDepth 100000 in
theorem t_M_satisfies {p : Program} {l : Launch} {e : Env} {s : State} {m : MethodId} {args : Array Value} {below : List Frame} {meth : Method} {c : Code} {g : fy_G} (C : fy_C g M_Y p s m args meth c yX10_satisfies.cls cX10_satisfies 13 (some .boolean)) {S : fy_S} {v1 : Int32} {v2 : Int32} {v3 : Int32} {rr : Int32}  {H : Heap} {locs : List Loc} {ls : Array Slot} (h : M_satisfies S v1 v2 v3 = some rr) (w : fy_W g M_Y S s H locs) (hl : lv_has ls 13 [(0, .ref (g.2.2.1 0)), (1, .int v1), (2, .int v2), (3, .int v3)]) : W p l e (fy_rm 1) s m args below meth c H locs 0 0 (MQ below (fy_QI g M_Y rr S) args s 0 0 (fy_A g M_Y)) (F0 m 0 ls []) := by
  obtain ⟨hx, hb, hr, hts, hown, hlk, hml, hK, hD, hE, hN⟩ := id C
  rw [M_satisfies] at h
  refine lv_lconst (v := (0 : Int64)) hx hb dX10_satisfies_0 (by decide) ?_
  refine lv_lstore (lv' := [(4, .long (0 : Int64)), (0, .ref (g.2.2.1 0)), (1, .int v1), (2, .int v2), (3, .int v3)]) hx hb dX10_satisfies_1 hl (by decide) rfl (fun ls hl => ?_)
  refine lv_aload_n hx hb dX10_satisfies_3 rfl (lv_at hl 1 rfl) ?_
  refine lv_iload_n hx hb dX10_satisfies_4 rfl (lv_at hl 2 rfl) ?_
  refine lv_iload_n hx hb dX10_satisfies_5 rfl (lv_at hl 3 rfl) ?_
  obtain ⟨r6, h6, h⟩ := fy_bd_some h
  refine fy_calI w (fy_runV (As := [.int v1, .int v2]) (rest := []) C w (c_M_at l g  h6) M_o ksX10_119 rfl ⟨Nat.le_of_ble_eq_true rfl, Nat.le_of_ble_eq_true rfl⟩ rfl hl.1 rfl (Nat.le_of_ble_eq_true rfl) ⟨Nat.le_refl _, Nat.le_refl _⟩ dX10_satisfies_6) (fun H locs w => ?_)
  refine lv_istore (lv' := [(6, .int r6), (4, .long (0 : Int64)), (0, .ref (g.2.2.1 0)), (1, .int v1), (2, .int v2), (3, .int v3)]) hx hb dX10_satisfies_9 hl (by decide) rfl (fun ls hl => ?_)
  refine lv_iconst (v := (0 : Int32)) hx hb dX10_satisfies_11 (by decide) ?_
  refine lv_istore (lv' := [(7, .int (0 : Int32)), (6, .int r6), (4, .long (0 : Int64)), (0, .ref (g.2.2.1 0)), (1, .int v1), (2, .int v2), (3, .int v3)]) hx hb dX10_satisfies_12 hl (by decide) rfl (fun ls hl => ?_)
  exact t_M_satisfies_14 C fy_fu _ _ _ _ _ _ _ _ _ h w (lv_sub hl [3, 4, 5, 6, 2, 1, 0] rfl)

set_option maxHeartbeats 4000000 in
set_option maxRecDepth 100000 in
theorem c_M_satisfies (l : Launch) (g : fy_G) {S : fy_S} {v1 : Int32} {v2 : Int32} {v3 : Int32} {rr : Int32}  (h : M_satisfies S v1 v2 v3 = some rr) : fy_M g M_Y l yX10_satisfies cX10_satisfies 13 (some .boolean) (fy_rm 1) [.ref (g.2.2.1 0), .int v1, .int v2, .int v3] S (fy_QI g M_Y rr S) :=
  fy_entry (by decide +kernel) (Nat.le_of_ble_eq_true rfl) (fun p e s m args below meth c ls C w hl => t_M_satisfies C  h w hl)
def M_isSatisfied (S : fy_S) (v1 : Int32) (v2 : Int32) (v3 : Int32) (v4 : Int32) : Option (Int32) :=
  fy_bd (M_asked S v1 v2 v3) fun r4 =>
  if r4 < 0 then (
    some (-2 : Int32))
  else (
    fy_bd (M_isSet S v1 v4) fun r18 =>
    if r18 = 0 then (
      some (-2 : Int32))
    else (
      fy_bd (M_satisfies S v1 r4 v4) fun r33 =>
      if r33 = 0 then (
        some (0 : Int32))
      else (
        some (1 : Int32))))
set_option maxHeartbeats 4000000 in
set_option maxRecDepth 100000 in
theorem t_M_isSatisfied {p : Program} {l : Launch} {e : Env} {s : State} {m : MethodId} {args : Array Value} {below : List Frame} {meth : Method} {c : Code} {g : fy_G} (C : fy_C g M_Y p s m args meth c yX10_isSatisfied.cls cX10_isSatisfied 6 (some .int)) {S : fy_S} {v1 : Int32} {v2 : Int32} {v3 : Int32} {v4 : Int32} {rr : Int32}  {H : Heap} {locs : List Loc} {ls : Array Slot} (h : M_isSatisfied S v1 v2 v3 v4 = some rr) (w : fy_W g M_Y S s H locs) (hl : lv_has ls 6 [(0, .ref (g.2.2.1 0)), (1, .int v1), (2, .int v2), (3, .int v3), (4, .int v4)]) : W p l e (fy_rm 2) s m args below meth c H locs 0 0 (MQ below (fy_QI g M_Y rr S) args s 0 0 (fy_A g M_Y)) (F0 m 0 ls []) := by
  obtain ⟨hx, hb, hr, hts, hown, hlk, hml, hK, hD, hE, hN⟩ := id C
  rw [M_isSatisfied] at h
  refine lv_aload_n hx hb dX10_isSatisfied_0 rfl (lv_at hl 0 rfl) ?_
  refine lv_iload_n hx hb dX10_isSatisfied_1 rfl (lv_at hl 1 rfl) ?_
  refine lv_iload_n hx hb dX10_isSatisfied_2 rfl (lv_at hl 2 rfl) ?_
  refine lv_iload_n hx hb dX10_isSatisfied_3 rfl (lv_at hl 3 rfl) ?_
  obtain ⟨r4, h4, h⟩ := fy_bd_some h
  refine fy_calI w (fy_runV (As := [.int v1, .int v2, .int v3]) (rest := []) C w (c_M_asked l g  h4) M_o ksX10_192 rfl ⟨Nat.le_of_ble_eq_true rfl, Nat.le_of_ble_eq_true rfl⟩ rfl hl.1 rfl (Nat.le_of_ble_eq_true rfl) ⟨Nat.le_refl _, Nat.le_refl _⟩ dX10_isSatisfied_4) (fun H locs w => ?_)
  refine lv_istore (lv' := [(5, .int r4), (0, .ref (g.2.2.1 0)), (1, .int v1), (2, .int v2), (3, .int v3), (4, .int v4)]) hx hb dX10_isSatisfied_7 hl (by decide) rfl (fun ls hl => ?_)
  refine lv_iload hx hb dX10_isSatisfied_9 (lv_at hl 0 rfl) ?_
  refine lv_if_lt (tgt := 24) hx hb dX10_isSatisfied_11 (by decide) (fun hc => ?_) (fun hc => ?_)
  · have h := fy_if_t h hc
    refine lv_bipush (v := (-2 : Int32)) hx hb dX10_isSatisfied_24 (by decide) ?_
    cases h
    exact fy_retI C w dX10_isSatisfied_26
  · have h := fy_if_f h hc
    refine lv_aload_n hx hb dX10_isSatisfied_14 rfl (lv_at hl 1 rfl) ?_
    refine lv_iload_n hx hb dX10_isSatisfied_15 rfl (lv_at hl 2 rfl) ?_
    refine lv_iload hx hb dX10_isSatisfied_16 (lv_at hl 5 rfl) ?_
    obtain ⟨r18, h18, h⟩ := fy_bd_some h
    refine fy_calI w (fy_runV (As := [.int v1, .int v4]) (rest := []) C w (c_M_isSet l g  h18) M_o ksX10_206 rfl ⟨Nat.le_of_ble_eq_true rfl, Nat.le_of_ble_eq_true rfl⟩ rfl hl.1 rfl (Nat.le_of_ble_eq_true rfl) ⟨Nat.le_refl _, Nat.le_refl _⟩ dX10_isSatisfied_18) (fun H locs w => ?_)
    refine lv_if_ne (tgt := 27) hx hb dX10_isSatisfied_21 (by decide) (fun hc => ?_) (fun hc => ?_)
    · have h := fy_if_f h hc
      refine lv_aload_n hx hb dX10_isSatisfied_27 rfl (lv_at hl 1 rfl) ?_
      refine lv_iload_n hx hb dX10_isSatisfied_28 rfl (lv_at hl 2 rfl) ?_
      refine lv_iload hx hb dX10_isSatisfied_29 (lv_at hl 0 rfl) ?_
      refine lv_iload hx hb dX10_isSatisfied_31 (lv_at hl 5 rfl) ?_
      obtain ⟨r33, h33, h⟩ := fy_bd_some h
      refine fy_calI w (fy_runV (As := [.int v1, .int r4, .int v4]) (rest := []) C w (c_M_satisfies l g  h33) M_o ksX10_209 rfl ⟨Nat.le_of_ble_eq_true rfl, Nat.le_of_ble_eq_true rfl⟩ rfl hl.1 rfl (Nat.le_of_ble_eq_true rfl) ⟨Nat.le_refl _, Nat.le_refl _⟩ dX10_isSatisfied_33) (fun H locs w => ?_)
      refine lv_if_eq (tgt := 43) hx hb dX10_isSatisfied_36 (by decide) (fun hc => ?_) (fun hc => ?_)
      · have h := fy_if_t h hc
        refine lv_iconst (v := (0 : Int32)) hx hb dX10_isSatisfied_43 (by decide) ?_
        cases h
        exact fy_retI C w dX10_isSatisfied_44
      · have h := fy_if_f h hc
        refine lv_iconst (v := (1 : Int32)) hx hb dX10_isSatisfied_39 (by decide) ?_
        refine lv_goto (tgt := 44) hx hb dX10_isSatisfied_40 (by decide) ?_
        cases h
        exact fy_retI C w dX10_isSatisfied_44
    · have h := fy_if_t h hc
      refine lv_bipush (v := (-2 : Int32)) hx hb dX10_isSatisfied_24 (by decide) ?_
      cases h
      exact fy_retI C w dX10_isSatisfied_26

set_option maxHeartbeats 4000000 in
set_option maxRecDepth 100000 in
theorem c_M_isSatisfied (l : Launch) (g : fy_G) {S : fy_S} {v1 : Int32} {v2 : Int32} {v3 : Int32} {v4 : Int32} {rr : Int32}  (h : M_isSatisfied S v1 v2 v3 v4 = some rr) : fy_M g M_Y l yX10_isSatisfied cX10_isSatisfied 6 (some .int) (fy_rm 2) [.ref (g.2.2.1 0), .int v1, .int v2, .int v3, .int v4] S (fy_QI g M_Y rr S) :=
  fy_entry (by decide +kernel) (Nat.le_of_ble_eq_true rfl) (fun p e s m args below meth c ls C w hl => t_M_isSatisfied C  h w hl)
def M_wants (S : fy_S) (v1 : Int32) (v2 : Int32) (v3 : Int32) (v4 : Int32) : Option (fy_S) :=
  fy_bl (fy_sI S 0 20 v1) fun S2 =>
  fy_bl (fy_sI S2 0 21 v2) fun S7 =>
  fy_bl (fy_sI S7 0 22 v3) fun S12 =>
  fy_bl (fy_sI S12 0 23 v4) fun S18 =>
  some S18
set_option maxHeartbeats 4000000 in
set_option maxRecDepth 100000 in
theorem t_M_wants {p : Program} {l : Launch} {e : Env} {s : State} {m : MethodId} {args : Array Value} {below : List Frame} {meth : Method} {c : Code} {g : fy_G} (C : fy_C g M_Y p s m args meth c yX10_wants.cls cX10_wants 5 none) {S : fy_S} {v1 : Int32} {v2 : Int32} {v3 : Int32} {v4 : Int32} {Sr : fy_S}   {H : Heap} {locs : List Loc} {ls : Array Slot} (h : M_wants S v1 v2 v3 v4 = some Sr) (w : fy_W g M_Y S s H locs) (hl : lv_has ls 5 [(0, .ref (g.2.2.1 0)), (1, .int v1), (2, .int v2), (3, .int v3), (4, .int v4)]) : W p l e (fy_rm 0) s m args below meth c H locs 0 0 (MQ below (fy_QV g M_Y Sr) args s 0 0 (fy_A g M_Y)) (F0 m 0 ls []) := by
  obtain ⟨hx, hb, hr, hts, hown, hlk, hml, hK, hD, hE, hN⟩ := id C
  rw [M_wants] at h
  refine lv_aload_n hx hb dX10_wants_0 rfl (lv_at hl 0 rfl) ?_
  refine lv_iload_n hx hb dX10_wants_1 rfl (lv_at hl 1 rfl) ?_
  refine pfX10_215 C w dX10_wants_2 (fun H locs w => ?_)
  obtain ⟨S2, e2⟩ : ∃ z, z = fy_sI S 0 20 v1 := ⟨_, rfl⟩
  have h := fy_bl_some e2 h
  rw [← e2] at w
  refine lv_aload_n hx hb dX10_wants_5 rfl (lv_at hl 0 rfl) ?_
  refine lv_iload_n hx hb dX10_wants_6 rfl (lv_at hl 2 rfl) ?_
  refine pfX10_212 C w dX10_wants_7 (fun H locs w => ?_)
  obtain ⟨S7, e7⟩ : ∃ z, z = fy_sI S2 0 21 v2 := ⟨_, rfl⟩
  have h := fy_bl_some e7 h
  rw [← e7] at w
  refine lv_aload_n hx hb dX10_wants_10 rfl (lv_at hl 0 rfl) ?_
  refine lv_iload_n hx hb dX10_wants_11 rfl (lv_at hl 3 rfl) ?_
  refine pfX10_218 C w dX10_wants_12 (fun H locs w => ?_)
  obtain ⟨S12, e12⟩ : ∃ z, z = fy_sI S7 0 22 v3 := ⟨_, rfl⟩
  have h := fy_bl_some e12 h
  rw [← e12] at w
  refine lv_aload_n hx hb dX10_wants_15 rfl (lv_at hl 0 rfl) ?_
  refine lv_iload hx hb dX10_wants_16 (lv_at hl 4 rfl) ?_
  refine pfX10_221 C w dX10_wants_18 (fun H locs w => ?_)
  obtain ⟨S18, e18⟩ : ∃ z, z = fy_sI S12 0 23 v4 := ⟨_, rfl⟩
  have h := fy_bl_some e18 h
  rw [← e18] at w
  cases h
  exact fy_retV C w dX10_wants_21

set_option maxHeartbeats 4000000 in
set_option maxRecDepth 100000 in
theorem c_M_wants (l : Launch) (g : fy_G) {S : fy_S} {v1 : Int32} {v2 : Int32} {v3 : Int32} {v4 : Int32} {Sr : fy_S}   (h : M_wants S v1 v2 v3 v4 = some Sr) : fy_M g M_Y l yX10_wants cX10_wants 5 none (fy_rm 0) [.ref (g.2.2.1 0), .int v1, .int v2, .int v3, .int v4] S (fy_QV g M_Y Sr) :=
  fy_entry (by decide +kernel) (Nat.le_of_ble_eq_true rfl) (fun p e s m args below meth c ls C w hl => t_M_wants C  h w hl)
def M_bits_4 (S : fy_S) : Nat → Int32 → Int32 → Int32 → Option (Int32)
  | 0, _, _, _ => none
  | fu + 1, v0, v1, v2 =>
    if (6 : Int32) ≤ v2 then (
      some v1)
    else (
      fy_bl (v1 + ((v0 >>> (v2 &&& 31)) &&& (1 : Int32))) fun x17 =>
      fy_bl (v2 + (1 : Int32)) fun x18 =>
      M_bits_4 S fu v0 x17 x18)
def M_bits (S : fy_S) (v0 : Int32) : Option (Int32) :=
  M_bits_4 S fy_fu v0 (0 : Int32) (0 : Int32)
set_option maxHeartbeats 4000000 in
set_option maxRecDepth 100000 in
theorem t_M_bits_4 {p : Program} {l : Launch} {e : Env} {s : State} {m : MethodId} {args : Array Value} {below : List Frame} {meth : Method} {c : Code} {g : fy_G} (C : fy_C g M_Y p s m args meth c yX10_bits.cls cX10_bits 3 (some .int)) {S : fy_S} {rr : Int32} : ∀ (fu : Nat) (v0 : Int32) (v1 : Int32) (v2 : Int32) (H : Heap) (locs : List Loc) (ls : Array Slot), M_bits_4 S fu v0 v1 v2 = some rr → fy_W g M_Y S s H locs → lv_has ls 3 [(0, .int v0), (1, .int v1), (2, .int v2)] → W p l e (fy_rm 0) s m args below meth c H locs 0 0 (MQ below (fy_QI g M_Y rr S) args s 0 0 (fy_A g M_Y)) (F0 m 4 ls []) := by
  obtain ⟨hx, hb, hr, hts, hown, hlk, hml, hK, hD, hE, hN⟩ := id C
  intro fu
  induction fu with
  | zero => intro v0 v1 v2 H locs ls h; cases h
  | succ fu ih =>
    intro v0 v1 v2 H locs ls h w  hl
    rw [M_bits_4] at h
    refine lv_iload_n hx hb dX10_bits_4 rfl (lv_at hl 2 rfl) ?_
    refine lv_bipush (v := (6 : Int32)) hx hb dX10_bits_5 (by decide) ?_
    refine lv_icmp_ge (tgt := 24) hx hb dX10_bits_7 (by decide) (fun hc => ?_) (fun hc => ?_)
    · have h := fy_if_t h hc
      refine lv_iload_n hx hb dX10_bits_24 rfl (lv_at hl 1 rfl) ?_
      cases h
      exact fy_retI C w dX10_bits_25
    · have h := fy_if_f h hc
      refine lv_iload_n hx hb dX10_bits_10 rfl (lv_at hl 1 rfl) ?_
      refine lv_iload_n hx hb dX10_bits_11 rfl (lv_at hl 0 rfl) ?_
      refine lv_iload_n hx hb dX10_bits_12 rfl (lv_at hl 2 rfl) ?_
      refine lv_ishr hx hb dX10_bits_13 ?_
      refine lv_iconst (v := (1 : Int32)) hx hb dX10_bits_14 (by decide) ?_
      refine lv_iand hx hb dX10_bits_15 ?_
      refine lv_iadd hx hb dX10_bits_16 ?_
      refine lv_topi (fun x17 e17 => ?_)
      have h := fy_bl_some e17 h
      refine lv_istore_n (lv' := [(1, .int x17), (0, .int v0), (2, .int v2)]) hx hb dX10_bits_17 rfl hl (by decide) rfl (fun ls hl => ?_)
      obtain ⟨x18, e18⟩ : ∃ z : Int32, z = v2 + (1 : Int32) := ⟨_, rfl⟩
      have h := fy_bl_some e18 h
      refine lv_iinc (k := 2) (v := x18) (lv' := [(2, .int x18), (1, .int x17), (0, .int v0)]) hx hb dX10_bits_18 hl rfl (by rw [e18]; rfl) (by decide) rfl (fun ls hl => ?_)
      refine lv_goto (tgt := 4) hx hb dX10_bits_21 (by decide) ?_
      exact ih _ _ _ _ _ _ h w (lv_sub hl [2, 1, 0] rfl)

set_option maxHeartbeats 4000000 in
set_option maxRecDepth 100000 in
theorem t_M_bits {p : Program} {l : Launch} {e : Env} {s : State} {m : MethodId} {args : Array Value} {below : List Frame} {meth : Method} {c : Code} {g : fy_G} (C : fy_C g M_Y p s m args meth c yX10_bits.cls cX10_bits 3 (some .int)) {S : fy_S} {v0 : Int32} {rr : Int32}  {H : Heap} {locs : List Loc} {ls : Array Slot} (h : M_bits S v0 = some rr) (w : fy_W g M_Y S s H locs) (hl : lv_has ls 3 [(0, .int v0)]) : W p l e (fy_rm 0) s m args below meth c H locs 0 0 (MQ below (fy_QI g M_Y rr S) args s 0 0 (fy_A g M_Y)) (F0 m 0 ls []) := by
  obtain ⟨hx, hb, hr, hts, hown, hlk, hml, hK, hD, hE, hN⟩ := id C
  rw [M_bits] at h
  refine lv_iconst (v := (0 : Int32)) hx hb dX10_bits_0 (by decide) ?_
  refine lv_istore_n (lv' := [(1, .int (0 : Int32)), (0, .int v0)]) hx hb dX10_bits_1 rfl hl (by decide) rfl (fun ls hl => ?_)
  refine lv_iconst (v := (0 : Int32)) hx hb dX10_bits_2 (by decide) ?_
  refine lv_istore_n (lv' := [(2, .int (0 : Int32)), (1, .int (0 : Int32)), (0, .int v0)]) hx hb dX10_bits_3 rfl hl (by decide) rfl (fun ls hl => ?_)
  exact t_M_bits_4 C fy_fu _ _ _ _ _ _ h w (lv_sub hl [2, 1, 0] rfl)

set_option maxHeartbeats 4000000 in
set_option maxRecDepth 100000 in
theorem c_M_bits (l : Launch) (g : fy_G) {S : fy_S} {v0 : Int32} {rr : Int32}  (h : M_bits S v0 = some rr) : fy_M g M_Y l yX10_bits cX10_bits 3 (some .int) (fy_rm 0) [.int v0] S (fy_QI g M_Y rr S) :=
  fy_entry (by decide +kernel) (Nat.le_of_ble_eq_true rfl) (fun p e s m args below meth c ls C w hl => t_M_bits C  h w hl)
end
