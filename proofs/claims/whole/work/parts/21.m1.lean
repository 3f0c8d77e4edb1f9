noncomputable section
def M_takesFactor_143 : Nat → fy_S → Option (fy_S × Int32)
  | 0, _ => none
  | fu + 1, S =>
    fy_bd (M_next S ) fun r144 =>
    if r144 = (41 : Int32) then (
      if (S.1 0 13) ≤ 0 then (
        some (S, (1 : Int32)))
      else (
        fy_bd (M_makesFrom S (11 : Int32)) fun S162 =>
        fy_bl (fy_sI S162 0 12 ((S162.1 0 12) - (1 : Int32))) fun S172 =>
        fy_bl (fy_sI S172 0 13 ((S172.1 0 13) - (1 : Int32))) fun S182 =>
        fy_bl (fy_sI S182 0 10 ((S182.1 0 10) + (1 : Int32))) fun S192 =>
        M_takesFactor_143 fu S192 ))
    else (
      some (S, (1 : Int32)))
def M_takesFactor_121 (S : fy_S) (z0 : Int32) : Option (fy_S × Int32) :=
  if 0 ≤ z0 then (
    fy_bd (M_makes S z0) fun S130 =>
    fy_bl (fy_sI S130 0 10 ((S130.1 0 10) + (1 : Int32))) fun S140 =>
    M_takesFactor_143 fy_fu S140 )
  else (
    some (S, (0 : Int32)))
def M_takesFactor_0 : Nat → fy_S → Int32 → Option (fy_S × Int32)
  | 0, _, _ => none
  | fu + 1, S, v1 =>
    fy_bd (M_next S ) fun r1 =>
    if r1 = (40 : Int32) then (
      fy_gd (fy_ix (S.1 0 12) 64) <|
      fy_bl (fy_sI S 9 (S.1 0 12).toNatClampNeg (99 : Int32)) fun S19 =>
      fy_bl (fy_sI S19 0 12 ((S19.1 0 12) + (1 : Int32))) fun S27 =>
      fy_bl (fy_sI S27 0 13 ((S27.1 0 13) + (1 : Int32))) fun S37 =>
      fy_bl (fy_sI S37 0 10 ((S37.1 0 10) + (1 : Int32))) fun S47 =>
      M_takesFactor_0 fu S47 v1)
    else (
      fy_bd (M_next S ) fun r54 =>
      if r54 = (116 : Int32) then (
        M_takesFactor_121 S (8 : Int32))
      else (
        fy_bd (M_next S ) fun r68 =>
        if r68 = (102 : Int32) then (
          M_takesFactor_121 S (9 : Int32))
        else (
          fy_bd (M_next S ) fun r82 =>
          fy_bd (M_isBetween S r82 (48 : Int32) (57 : Int32)) fun r89 =>
          if r89 = 0 then (
            M_takesFactor_121 S (-1 : Int32))
          else (
            fy_bd (M_next S ) fun r98 =>
            fy_bd (M_isState S v1 (r98 - (48 : Int32))) fun r104 =>
            if r104 = 0 then (
              M_takesFactor_121 S (-1 : Int32))
            else (
              fy_bd (M_next S ) fun r111 =>
              M_takesFactor_121 S (r111 - (48 : Int32)))))))
def M_takesFactor (S : fy_S) (v1 : Int32) : Option (fy_S × Int32) :=
  fy_bd (M_next S ) fun r1 =>
  if r1 = (40 : Int32) then (
    fy_gd (fy_ix (S.1 0 12) 64) <|
    fy_bl (fy_sI S 9 (S.1 0 12).toNatClampNeg (99 : Int32)) fun S19 =>
    fy_bl (fy_sI S19 0 12 ((S19.1 0 12) + (1 : Int32))) fun S27 =>
    fy_bl (fy_sI S27 0 13 ((S27.1 0 13) + (1 : Int32))) fun S37 =>
    fy_bl (fy_sI S37 0 10 ((S37.1 0 10) + (1 : Int32))) fun S47 =>
    M_takesFactor_0 fy_fu S47 v1)
  else (
    fy_bd (M_next S ) fun r54 =>
    if r54 = (116 : Int32) then (
      M_takesFactor_121 S (8 : Int32))
    else (
      fy_bd (M_next S ) fun r68 =>
      if r68 = (102 : Int32) then (
        M_takesFactor_121 S (9 : Int32))
      else (
        fy_bd (M_next S ) fun r82 =>
        fy_bd (M_isBetween S r82 (48 : Int32) (57 : Int32)) fun r89 =>
        if r89 = 0 then (
          M_takesFactor_121 S (-1 : Int32))
        else (
          fy_bd (M_next S ) fun r98 =>
          fy_bd (M_isState S v1 (r98 - (48 : Int32))) fun r104 =>
          if r104 = 0 then (
            M_takesFactor_121 S (-1 : Int32))
          else (
            fy_bd (M_next S ) fun r111 =>
            M_takesFactor_121 S (r111 - (48 : Int32)))))))
set_option maxHeartbeats 4000000 in
set_option maxRecDepth 100000 in
theorem t_M_takesFactor_143 {p : Program} {l : Launch} {e : Env} {s : State} {m : MethodId} {args : Array Value} {below : List Frame} {meth : Method} {c : Code} {g : fy_G} (C : fy_C g M_Y p s m args meth c yX10_takesFactor.cls cX10_takesFactor 3 (some .boolean)) {Sr : fy_S} {rr : Int32} : ∀ (fu : Nat) (S : fy_S)  (H : Heap) (locs : List Loc) (ls : Array Slot), M_takesFactor_143 fu S  = some (Sr, rr) → fy_W g M_Y S s H locs → lv_has ls 3 [(0, .ref (g.2.2.1 0))] → W p l e (fy_rm 2) s m args below meth c H locs 0 0 (MQ below (fy_QI g M_Y rr Sr) args s 0 0 (fy_A g M_Y)) (F0 m 143 ls []) := by
  obtain ⟨hx, hb, hr, hts, hown, hlk, hml, hK, hD, hE, hN⟩ := id C
  intro fu
  induction fu with
  | zero => intro S  H locs ls h; cases h
  | succ fu ih =>
    intro S  H locs ls h w  hl
    rw [M_takesFactor_143] at h
    refine lv_aload_n hx hb dX10_takesFactor_143 rfl (lv_at hl 0 rfl) ?_
    obtain ⟨r144, h144, h⟩ := fy_bd_some h
    refine fy_calI w (fy_runV (As := []) (rest := []) C w (c_M_next l g  h144) M_o ksX10_154 rfl ⟨Nat.le_of_ble_eq_true rfl, Nat.le_of_ble_eq_true rfl⟩ rfl hl.1 rfl (Nat.le_of_ble_eq_true rfl) ⟨Nat.le_refl _, Nat.le_refl _⟩ dX10_takesFactor_144) (fun H locs w => ?_)
    refine lv_bipush (v := (41 : Int32)) hx hb dX10_takesFactor_147 (by decide) ?_
    refine lv_icmp_ne (tgt := 198) hx hb dX10_takesFactor_149 (by decide) (fun hc => ?_) (fun hc => ?_)
    · have h := fy_if_f h hc
      refine lv_iconst (v := (1 : Int32)) hx hb dX10_takesFactor_198 (by decide) ?_
      cases h
      exact fy_retZ C w (by decide +kernel) dX10_takesFactor_199
    · have h := fy_if_t h hc
      refine lv_aload_n hx hb dX10_takesFactor_152 rfl (lv_at hl 0 rfl) ?_
      refine gfX10_158 C w dX10_takesFactor_153 ?_
      refine lv_if_le (tgt := 198) hx hb dX10_takesFactor_156 (by decide) (fun hc => ?_) (fun hc => ?_)
      · have h := fy_if_t h hc
        refine lv_iconst (v := (1 : Int32)) hx hb dX10_takesFactor_198 (by decide) ?_
        cases h
        exact fy_retZ C w (by decide +kernel) dX10_takesFactor_199
      · have h := fy_if_f h hc
        refine lv_aload_n hx hb dX10_takesFactor_159 rfl (lv_at hl 0 rfl) ?_
        refine lv_bipush (v := (11 : Int32)) hx hb dX10_takesFactor_160 (by decide) ?_
        obtain ⟨S162, h162, h⟩ := fy_bd_some h
        refine fy_calV w (fy_runV (As := [.int (11 : Int32)]) (rest := []) C w (c_M_makesFrom l g  h162) M_o ksX10_161 rfl ⟨Nat.le_of_ble_eq_true rfl, Nat.le_of_ble_eq_true rfl⟩ rfl hl.1 rfl (Nat.le_of_ble_eq_true rfl) ⟨Nat.le_refl _, Nat.le_refl _⟩ dX10_takesFactor_162) (fun H locs w => ?_)
        refine lv_aload_n hx hb dX10_takesFactor_165 rfl (lv_at hl 0 rfl) ?_
        refine lv_dup hx hb dX10_takesFactor_166 rfl ?_
        refine gfX10_147 C w dX10_takesFactor_167 ?_
        refine lv_iconst (v := (1 : Int32)) hx hb dX10_takesFactor_170 (by decide) ?_
        refine lv_isub hx hb dX10_takesFactor_171 ?_
        refine pfX10_147 C w dX10_takesFactor_172 (fun H locs w => ?_)
        obtain ⟨S172, e172⟩ : ∃ z, z = fy_sI S162 0 12 ((S162.1 0 12) - (1 : Int32)) := ⟨_, rfl⟩
        have h := fy_bl_some e172 h
        rw [← e172] at w
        refine lv_aload_n hx hb dX10_takesFactor_175 rfl (lv_at hl 0 rfl) ?_
        refine lv_dup hx hb dX10_takesFactor_176 rfl ?_
        refine gfX10_158 C w dX10_takesFactor_177 ?_
        refine lv_iconst (v := (1 : Int32)) hx hb dX10_takesFactor_180 (by decide) ?_
        refine lv_isub hx hb dX10_takesFactor_181 ?_
        refine pfX10_158 C w dX10_takesFactor_182 (fun H locs w => ?_)
        obtain ⟨S182, e182⟩ : ∃ z, z = fy_sI S172 0 13 ((S172.1 0 13) - (1 : Int32)) := ⟨_, rfl⟩
        have h := fy_bl_some e182 h
        rw [← e182] at w
        refine lv_aload_n hx hb dX10_takesFactor_185 rfl (lv_at hl 0 rfl) ?_
        refine lv_dup hx hb dX10_takesFactor_186 rfl ?_
        refine gfX10_142 C w dX10_takesFactor_187 ?_
        refine lv_iconst (v := (1 : Int32)) hx hb dX10_takesFactor_190 (by decide) ?_
        refine lv_iadd hx hb dX10_takesFactor_191 ?_
        refine pfX10_142 C w dX10_takesFactor_192 (fun H locs w => ?_)
        obtain ⟨S192, e192⟩ : ∃ z, z = fy_sI S182 0 10 ((S182.1 0 10) + (1 : Int32)) := ⟨_, rfl⟩
        have h := fy_bl_some e192 h
        rw [← e192] at w
        refine lv_goto (tgt := 143) hx hb dX10_takesFactor_195 (by decide) ?_
        exact ih _ _ _ _ h w (lv_sub hl [0] rfl)

set_option maxHeartbeats 4000000 in
set_option maxRecDepth 100000 in
theorem t_M_takesFactor_121 {p : Program} {l : Launch} {e : Env} {s : State} {m : MethodId} {args : Array Value} {below : List Frame} {meth : Method} {c : Code} {g : fy_G} (C : fy_C g M_Y p s m args meth c yX10_takesFactor.cls cX10_takesFactor 3 (some .boolean)) {Sr : fy_S} {rr : Int32} : ∀ (S : fy_S) (z0 : Int32) (H : Heap) (locs : List Loc) (ls : Array Slot), M_takesFactor_121 S z0 = some (Sr, rr) → fy_W g M_Y S s H locs → lv_has ls 3 [(0, .ref (g.2.2.1 0))] → W p l e (fy_rm 2) s m args below meth c H locs 0 0 (MQ below (fy_QI g M_Y rr Sr) args s 0 0 (fy_A g M_Y)) (F0 m 121 ls [.int z0]) := by
  obtain ⟨hx, hb, hr, hts, hown, hlk, hml, hK, hD, hE, hN⟩ := id C
  intro S z0 H locs ls h w  hl
  rw [M_takesFactor_121] at h
  refine lv_istore_n (lv' := [(2, .int z0), (0, .ref (g.2.2.1 0))]) hx hb dX10_takesFactor_121 rfl hl (by decide) rfl (fun ls hl => ?_)
  refine lv_iload_n hx hb dX10_takesFactor_122 rfl (lv_at hl 0 rfl) ?_
  refine lv_if_ge (tgt := 128) hx hb dX10_takesFactor_123 (by decide) (fun hc => ?_) (fun hc => ?_)
  · have h := fy_if_t h hc
    refine lv_aload_n hx hb dX10_takesFactor_128 rfl (lv_at hl 1 rfl) ?_
    refine lv_iload_n hx hb dX10_takesFactor_129 rfl (lv_at hl 0 rfl) ?_
    obtain ⟨S130, h130, h⟩ := fy_bd_some h
    refine fy_calV w (fy_runV (As := [.int z0]) (rest := []) C w (c_M_makes l g  h130) M_o ksX10_150 rfl ⟨Nat.le_of_ble_eq_true rfl, Nat.le_of_ble_eq_true rfl⟩ rfl hl.1 rfl (Nat.le_of_ble_eq_true rfl) ⟨Nat.le_refl _, Nat.le_refl _⟩ dX10_takesFactor_130) (fun H locs w => ?_)
    refine lv_aload_n hx hb dX10_takesFactor_133 rfl (lv_at hl 1 rfl) ?_
    refine lv_dup hx hb dX10_takesFactor_134 rfl ?_
    refine gfX10_142 C w dX10_takesFactor_135 ?_
    refine lv_iconst (v := (1 : Int32)) hx hb dX10_takesFactor_138 (by decide) ?_
    refine lv_iadd hx hb dX10_takesFactor_139 ?_
    refine pfX10_142 C w dX10_takesFactor_140 (fun H locs w => ?_)
    obtain ⟨S140, e140⟩ : ∃ z, z = fy_sI S130 0 10 ((S130.1 0 10) + (1 : Int32)) := ⟨_, rfl⟩
    have h := fy_bl_some e140 h
    rw [← e140] at w
    exact t_M_takesFactor_143 C fy_fu _ _ _ _ h w (lv_sub hl [1] rfl)
  · have h := fy_if_f h hc
    refine lv_iconst (v := (0 : Int32)) hx hb dX10_takesFactor_126 (by decide) ?_
    cases h
    exact fy_retZ C w (by decide +kernel) dX10_takesFactor_127

set_option maxHeartbeats 4000000 in
set_option maxRecDepth 100000 in
theorem t_M_takesFactor_0 {p : Program} {l : Launch} {e : Env} {s : State} {m : MethodId} {args : Array Value} {below : List Frame} {meth : Method} {c : Code} {g : fy_G} (C : fy_C g M_Y p s m args meth c yX10_takesFactor.cls cX10_takesFactor 3 (some .boolean)) {Sr : fy_S} {rr : Int32} : ∀ (fu : Nat) (S : fy_S) (v1 : Int32) (H : Heap) (locs : List Loc) (ls : Array Slot), M_takesFactor_0 fu S v1 = some (Sr, rr) → fy_W g M_Y S s H locs → lv_has ls 3 [(0, .ref (g.2.2.1 0)), (1, .int v1)] → W p l e (fy_rm 2) s m args below meth c H locs 0 0 (MQ below (fy_QI g M_Y rr Sr) args s 0 0 (fy_A g M_Y)) (F0 m 0 ls []) := by
  obtain ⟨hx, hb, hr, hts, hown, hlk, hml, hK, hD, hE, hN⟩ := id C
  intro fu
  induction fu with
  | zero => intro S v1 H locs ls h; cases h
  | succ fu ih =>
    intro S v1 H locs ls h w  hl
    rw [M_takesFactor_0] at h
    refine lv_aload_n hx hb dX10_takesFactor_0 rfl (lv_at hl 0 rfl) ?_
    obtain ⟨r1, h1, h⟩ := fy_bd_some h
    refine fy_calI w (fy_runV (As := []) (rest := []) C w (c_M_next l g  h1) M_o ksX10_154 rfl ⟨Nat.le_of_ble_eq_true rfl, Nat.le_of_ble_eq_true rfl⟩ rfl hl.1 rfl (Nat.le_of_ble_eq_true rfl) ⟨Nat.le_refl _, Nat.le_refl _⟩ dX10_takesFactor_1) (fun H locs w => ?_)
    refine lv_bipush (v := (40 : Int32)) hx hb dX10_takesFactor_4 (by decide) ?_
    refine lv_icmp_ne (tgt := 53) hx hb dX10_takesFactor_6 (by decide) (fun hc => ?_) (fun hc => ?_)
    · have h := fy_if_f h hc
      refine lv_aload_n hx hb dX10_takesFactor_53 rfl (lv_at hl 0 rfl) ?_
      obtain ⟨r54, h54, h⟩ := fy_bd_some h
      refine fy_calI w (fy_runV (As := []) (rest := []) C w (c_M_next l g  h54) M_o ksX10_154 rfl ⟨Nat.le_of_ble_eq_true rfl, Nat.le_of_ble_eq_true rfl⟩ rfl hl.1 rfl (Nat.le_of_ble_eq_true rfl) ⟨Nat.le_refl _, Nat.le_refl _⟩ dX10_takesFactor_54) (fun H locs w => ?_)
      refine lv_bipush (v := (116 : Int32)) hx hb dX10_takesFactor_57 (by decide) ?_
      refine lv_icmp_ne (tgt := 67) hx hb dX10_takesFactor_59 (by decide) (fun hc => ?_) (fun hc => ?_)
      · have h := fy_if_f h hc
        refine lv_aload_n hx hb dX10_takesFactor_67 rfl (lv_at hl 0 rfl) ?_
        obtain ⟨r68, h68, h⟩ := fy_bd_some h
        refine fy_calI w (fy_runV (As := []) (rest := []) C w (c_M_next l g  h68) M_o ksX10_154 rfl ⟨Nat.le_of_ble_eq_true rfl, Nat.le_of_ble_eq_true rfl⟩ rfl hl.1 rfl (Nat.le_of_ble_eq_true rfl) ⟨Nat.le_refl _, Nat.le_refl _⟩ dX10_takesFactor_68) (fun H locs w => ?_)
        refine lv_bipush (v := (102 : Int32)) hx hb dX10_takesFactor_71 (by decide) ?_
        refine lv_icmp_ne (tgt := 81) hx hb dX10_takesFactor_73 (by decide) (fun hc => ?_) (fun hc => ?_)
        · have h := fy_if_f h hc
          refine lv_aload_n hx hb dX10_takesFactor_81 rfl (lv_at hl 0 rfl) ?_
          obtain ⟨r82, h82, h⟩ := fy_bd_some h
          refine fy_calI w (fy_runV (As := []) (rest := []) C w (c_M_next l g  h82) M_o ksX10_154 rfl ⟨Nat.le_of_ble_eq_true rfl, Nat.le_of_ble_eq_true rfl⟩ rfl hl.1 rfl (Nat.le_of_ble_eq_true rfl) ⟨Nat.le_refl _, Nat.le_refl _⟩ dX10_takesFactor_82) (fun H locs w => ?_)
          refine lv_bipush (v := (48 : Int32)) hx hb dX10_takesFactor_85 (by decide) ?_
          refine lv_bipush (v := (57 : Int32)) hx hb dX10_takesFactor_87 (by decide) ?_
          obtain ⟨r89, h89, h⟩ := fy_bd_some h
          refine fy_calI w (fy_runS (As := [.int r82, .int (48 : Int32), .int (57 : Int32)]) (rest := []) C w (c_M_isBetween l g  h89) ksX10_127 ⟨Nat.le_of_ble_eq_true rfl, Nat.le_of_ble_eq_true rfl⟩ rfl hl.1 rfl (Nat.le_of_ble_eq_true rfl) ⟨Nat.le_refl _, Nat.le_refl _⟩ dX10_takesFactor_89) (fun H locs w => ?_)
          refine lv_if_eq (tgt := 120) hx hb dX10_takesFactor_92 (by decide) (fun hc => ?_) (fun hc => ?_)
          · have h := fy_if_t h hc
            refine lv_iconst (v := (-1 : Int32)) hx hb dX10_takesFactor_120 (by decide) ?_
            exact t_M_takesFactor_121 C _ _ _ _ _ h w (lv_sub hl [0] rfl)
          · have h := fy_if_f h hc
            refine lv_aload_n hx hb dX10_takesFactor_95 rfl (lv_at hl 0 rfl) ?_
            refine lv_iload_n hx hb dX10_takesFactor_96 rfl (lv_at hl 1 rfl) ?_
            refine lv_aload_n hx hb dX10_takesFactor_97 rfl (lv_at hl 0 rfl) ?_
            obtain ⟨r98, h98, h⟩ := fy_bd_some h
            refine fy_calI w (fy_runV (As := []) (rest := [.int v1, .ref (g.2.2.1 0)]) C w (c_M_next l g  h98) M_o ksX10_154 rfl ⟨Nat.le_of_ble_eq_true rfl, Nat.le_of_ble_eq_true rfl⟩ rfl hl.1 rfl (Nat.le_of_ble_eq_true rfl) ⟨Nat.le_refl _, Nat.le_refl _⟩ dX10_takesFactor_98) (fun H locs w => ?_)
            refine lv_bipush (v := (48 : Int32)) hx hb dX10_takesFactor_101 (by decide) ?_
            refine lv_isub hx hb dX10_takesFactor_103 ?_
            obtain ⟨r104, h104, h⟩ := fy_bd_some h
            refine fy_calI w (fy_runV (As := [.int v1, .int (r98 - (48 : Int32))]) (rest := []) C w (c_M_isState l g  h104) M_o ksX10_131 rfl ⟨Nat.le_of_ble_eq_true rfl, Nat.le_of_ble_eq_true rfl⟩ rfl hl.1 rfl (Nat.le_of_ble_eq_true rfl) ⟨Nat.le_refl _, Nat.le_refl _⟩ dX10_takesFactor_104) (fun H locs w => ?_)
            refine lv_if_eq (tgt := 120) hx hb dX10_takesFactor_107 (by decide) (fun hc => ?_) (fun hc => ?_)
            · have h := fy_if_t h hc
              refine lv_iconst (v := (-1 : Int32)) hx hb dX10_takesFactor_120 (by decide) ?_
              exact t_M_takesFactor_121 C _ _ _ _ _ h w (lv_sub hl [0] rfl)
            · have h := fy_if_f h hc
              refine lv_aload_n hx hb dX10_takesFactor_110 rfl (lv_at hl 0 rfl) ?_
              obtain ⟨r111, h111, h⟩ := fy_bd_some h
              refine fy_calI w (fy_runV (As := []) (rest := []) C w (c_M_next l g  h111) M_o ksX10_154 rfl ⟨Nat.le_of_ble_eq_true rfl, Nat.le_of_ble_eq_true rfl⟩ rfl hl.1 rfl (Nat.le_of_ble_eq_true rfl) ⟨Nat.le_refl _, Nat.le_refl _⟩ dX10_takesFactor_111) (fun H locs w => ?_)
              refine lv_bipush (v := (48 : Int32)) hx hb dX10_takesFactor_114 (by decide) ?_
              refine lv_isub hx hb dX10_takesFactor_116 ?_
              refine lv_goto (tgt := 121) hx hb dX10_takesFactor_117 (by decide) ?_
              exact t_M_takesFactor_121 C _ _ _ _ _ h w (lv_sub hl [0] rfl)
        · have h := fy_if_t h hc
          refine lv_bipush (v := (9 : Int32)) hx hb dX10_takesFactor_76 (by decide) ?_
          refine lv_goto (tgt := 121) hx hb dX10_takesFactor_78 (by decide) ?_
          exact t_M_takesFactor_121 C _ _ _ _ _ h w (lv_sub hl [0] rfl)
      · have h := fy_if_t h hc
        refine lv_bipush (v := (8 : Int32)) hx hb dX10_takesFactor_62 (by decide) ?_
        refine lv_goto (tgt := 121) hx hb dX10_takesFactor_64 (by decide) ?_
        exact t_M_takesFactor_121 C _ _ _ _ _ h w (lv_sub hl [0] rfl)
    · have h := fy_if_t h hc
      refine lv_aload_n hx hb dX10_takesFactor_9 rfl (lv_at hl 0 rfl) ?_
      refine gfX10_34 C w dX10_takesFactor_10 ?_
      refine lv_aload_n hx hb dX10_takesFactor_13 rfl (lv_at hl 0 rfl) ?_
      refine gfX10_147 C w dX10_takesFactor_14 ?_
      refine lv_bipush (v := (99 : Int32)) hx hb dX10_takesFactor_17 (by decide) ?_
      obtain ⟨g19, h⟩ := fy_gd_some h
      refine fy_iast C w M_a9 g19 dX10_takesFactor_19 (fun H locs w => ?_)
      obtain ⟨S19, e19⟩ : ∃ z, z = fy_sI S 9 (S.1 0 12).toNatClampNeg (99 : Int32) := ⟨_, rfl⟩
      have h := fy_bl_some e19 h
      rw [← e19] at w
      refine lv_aload_n hx hb dX10_takesFactor_20 rfl (lv_at hl 0 rfl) ?_
      refine lv_dup hx hb dX10_takesFactor_21 rfl ?_
      refine gfX10_147 C w dX10_takesFactor_22 ?_
      refine lv_iconst (v := (1 : Int32)) hx hb dX10_takesFactor_25 (by decide) ?_
      refine lv_iadd hx hb dX10_takesFactor_26 ?_
      refine pfX10_147 C w dX10_takesFactor_27 (fun H locs w => ?_)
      obtain ⟨S27, e27⟩ : ∃ z, z = fy_sI S19 0 12 ((S19.1 0 12) + (1 : Int32)) := ⟨_, rfl⟩
      have h := fy_bl_some e27 h
      rw [← e27] at w
      refine lv_aload_n hx hb dX10_takesFactor_30 rfl (lv_at hl 0 rfl) ?_
      refine lv_dup hx hb dX10_takesFactor_31 rfl ?_
      refine gfX10_158 C w dX10_takesFactor_32 ?_
      refine lv_iconst (v := (1 : Int32)) hx hb dX10_takesFactor_35 (by decide) ?_
      refine lv_iadd hx hb dX10_takesFactor_36 ?_
      refine pfX10_158 C w dX10_takesFactor_37 (fun H locs w => ?_)
      obtain ⟨S37, e37⟩ : ∃ z, z = fy_sI S27 0 13 ((S27.1 0 13) + (1 : Int32)) := ⟨_, rfl⟩
      have h := fy_bl_some e37 h
      rw [← e37] at w
      refine lv_aload_n hx hb dX10_takesFactor_40 rfl (lv_at hl 0 rfl) ?_
      refine lv_dup hx hb dX10_takesFactor_41 rfl ?_
      refine gfX10_142 C w dX10_takesFactor_42 ?_
      refine lv_iconst (v := (1 : Int32)) hx hb dX10_takesFactor_45 (by decide) ?_
      refine lv_iadd hx hb dX10_takesFactor_46 ?_
      refine pfX10_142 C w dX10_takesFactor_47 (fun H locs w => ?_)
      obtain ⟨S47, e47⟩ : ∃ z, z = fy_sI S37 0 10 ((S37.1 0 10) + (1 : Int32)) := ⟨_, rfl⟩
      have h := fy_bl_some e47 h
      rw [← e47] at w
      refine lv_goto (tgt := 0) hx hb dX10_takesFactor_50 (by decide) ?_
      exact ih _ _ _ _ _ h w (lv_sub hl [0, 1] rfl)

set_option maxHeartbeats 4000000 in
set_option maxRecDepth 100000 in
theorem t_M_takesFactor {p : Program} {l : Launch} {e : Env} {s : State} {m : MethodId} {args : Array Value} {below : List Frame} {meth : Method} {c : Code} {g : fy_G} (C : fy_C g M_Y p s m args meth c yX10_takesFactor.cls cX10_takesFactor 3 (some .boolean)) {S : fy_S} {v1 : Int32} {Sr : fy_S} {rr : Int32}  {H : Heap} {locs : List Loc} {ls : Array Slot} (h : M_takesFactor S v1 = some (Sr, rr)) (w : fy_W g M_Y S s H locs) (hl : lv_has ls 3 [(0, .ref (g.2.2.1 0)), (1, .int v1)]) : W p l e (fy_rm 2) s m args below meth c H locs 0 0 (MQ below (fy_QI g M_Y rr Sr) args s 0 0 (fy_A g M_Y)) (F0 m 0 ls []) := by
  obtain ⟨hx, hb, hr, hts, hown, hlk, hml, hK, hD, hE, hN⟩ := id C
  rw [M_takesFactor] at h
  refine lv_aload_n hx hb dX10_takesFactor_0 rfl (lv_at hl 0 rfl) ?_
  obtain ⟨r1, h1, h⟩ := fy_bd_some h
  refine fy_calI w (fy_runV (As := []) (rest := []) C w (c_M_next l g  h1) M_o ksX10_154 rfl ⟨Nat.le_of_ble_eq_true rfl, Nat.le_of_ble_eq_true rfl⟩ rfl hl.1 rfl (Nat.le_of_ble_eq_true rfl) ⟨Nat.le_refl _, Nat.le_refl _⟩ dX10_takesFactor_1) (fun H locs w => ?_)
  refine lv_bipush (v := (40 : Int32)) hx hb dX10_takesFactor_4 (by decide) ?_
  refine lv_icmp_ne (tgt := 53) hx hb dX10_takesFactor_6 (by decide) (fun hc => ?_) (fun hc => ?_)
  · have h := fy_if_f h hc
    refine lv_aload_n hx hb dX10_takesFactor_53 rfl (lv_at hl 0 rfl) ?_
    obtain ⟨r54, h54, h⟩ := fy_bd_some h
    refine fy_calI w (fy_runV (As := []) (rest := []) C w (c_M_next l g  h54) M_o ksX10_154 rfl ⟨Nat.le_of_ble_eq_true rfl, Nat.le_of_ble_eq_true rfl⟩ rfl hl.1 rfl (Nat.le_of_ble_eq_true rfl) ⟨Nat.le_refl _, Nat.le_refl _⟩ dX10_takesFactor_54) (fun H locs w => ?_)
    refine lv_bipush (v := (116 : Int32)) hx hb dX10_takesFactor_57 (by decide) ?_
    refine lv_icmp_ne (tgt := 67) hx hb dX10_takesFactor_59 (by decide) (fun hc => ?_) (fun hc => ?_)
    · have h := fy_if_f h hc
      refine lv_aload_n hx hb dX10_takesFactor_67 rfl (lv_at hl 0 rfl) ?_
      obtain ⟨r68, h68, h⟩ := fy_bd_some h
      refine fy_calI w (fy_runV (As := []) (rest := []) C w (c_M_next l g  h68) M_o ksX10_154 rfl ⟨Nat.le_of_ble_eq_true rfl, Nat.le_of_ble_eq_true rfl⟩ rfl hl.1 rfl (Nat.le_of_ble_eq_true rfl) ⟨Nat.le_refl _, Nat.le_refl _⟩ dX10_takesFactor_68) (fun H locs w => ?_)
      refine lv_bipush (v := (102 : Int32)) hx hb dX10_takesFactor_71 (by decide) ?_
      refine lv_icmp_ne (tgt := 81) hx hb dX10_takesFactor_73 (by decide) (fun hc => ?_) (fun hc => ?_)
      · have h := fy_if_f h hc
        refine lv_aload_n hx hb dX10_takesFactor_81 rfl (lv_at hl 0 rfl) ?_
        obtain ⟨r82, h82, h⟩ := fy_bd_some h
        refine fy_calI w (fy_runV (As := []) (rest := []) C w (c_M_next l g  h82) M_o ksX10_154 rfl ⟨Nat.le_of_ble_eq_true rfl, Nat.le_of_ble_eq_true rfl⟩ rfl hl.1 rfl (Nat.le_of_ble_eq_true rfl) ⟨Nat.le_refl _, Nat.le_refl _⟩ dX10_takesFactor_82) (fun H locs w => ?_)
        refine lv_bipush (v := (48 : Int32)) hx hb dX10_takesFactor_85 (by decide) ?_
        refine lv_bipush (v := (57 : Int32)) hx hb dX10_takesFactor_87 (by decide) ?_
        obtain ⟨r89, h89, h⟩ := fy_bd_some h
        refine fy_calI w (fy_runS (As := [.int r82, .int (48 : Int32), .int (57 : Int32)]) (rest := []) C w (c_M_isBetween l g  h89) ksX10_127 ⟨Nat.le_of_ble_eq_true rfl, Nat.le_of_ble_eq_true rfl⟩ rfl hl.1 rfl (Nat.le_of_ble_eq_true rfl) ⟨Nat.le_refl _, Nat.le_refl _⟩ dX10_takesFactor_89) (fun H locs w => ?_)
        refine lv_if_eq (tgt := 120) hx hb dX10_takesFactor_92 (by decide) (fun hc => ?_) (fun hc => ?_)
        · have h := fy_if_t h hc
          refine lv_iconst (v := (-1 : Int32)) hx hb dX10_takesFactor_120 (by decide) ?_
          exact t_M_takesFactor_121 C _ _ _ _ _ h w (lv_sub hl [0] rfl)
        · have h := fy_if_f h hc
          refine lv_aload_n hx hb dX10_takesFactor_95 rfl (lv_at hl 0 rfl) ?_
          refine lv_iload_n hx hb dX10_takesFactor_96 rfl (lv_at hl 1 rfl) ?_
          refine lv_aload_n hx hb dX10_takesFactor_97 rfl (lv_at hl 0 rfl) ?_
          obtain ⟨r98, h98, h⟩ := fy_bd_some h
          refine fy_calI w (fy_runV (As := []) (rest := [.int v1, .ref (g.2.2.1 0)]) C w (c_M_next l g  h98) M_o ksX10_154 rfl ⟨Nat.le_of_ble_eq_true rfl, Nat.le_of_ble_eq_true rfl⟩ rfl hl.1 rfl (Nat.le_of_ble_eq_true rfl) ⟨Nat.le_refl _, Nat.le_refl _⟩ dX10_takesFactor_98) (fun H locs w => ?_)
          refine lv_bipush (v := (48 : Int32)) hx hb dX10_takesFactor_101 (by decide) ?_
          refine lv_isub hx hb dX10_takesFactor_103 ?_
          obtain ⟨r104, h104, h⟩ := fy_bd_some h
          refine fy_calI w (fy_runV (As := [.int v1, .int (r98 - (48 : Int32))]) (rest := []) C w (c_M_isState l g  h104) M_o ksX10_131 rfl ⟨Nat.le_of_ble_eq_true rfl, Nat.le_of_ble_eq_true rfl⟩ rfl hl.1 rfl (Nat.le_of_ble_eq_true rfl) ⟨Nat.le_refl _, Nat.le_refl _⟩ dX10_takesFactor_104) (fun H locs w => ?_)
          refine lv_if_eq (tgt := 120) hx hb dX10_takesFactor_107 (by decide) (fun hc => ?_) (fun hc => ?_)
          · have h := fy_if_t h hc
            refine lv_iconst (v := (-1 : Int32)) hx hb dX10_takesFactor_120 (by decide) ?_
            exact t_M_takesFactor_121 C _ _ _ _ _ h w (lv_sub hl [0] rfl)
          · have h := fy_if_f h hc
            refine lv_aload_n hx hb dX10_takesFactor_110 rfl (lv_at hl 0 rfl) ?_
            obtain ⟨r111, h111, h⟩ := fy_bd_some h
            refine fy_calI w (fy_runV (As := []) (rest := []) C w (c_M_next l g  h111) M_o ksX10_154 rfl ⟨Nat.le_of_ble_eq_true rfl, Nat.le_of_ble_eq_true rfl⟩ rfl hl.1 rfl (Nat.le_of_ble_eq_true rfl) ⟨Nat.le_refl _, Nat.le_refl _⟩ dX10_takesFactor_111) (fun H locs w => ?_)
            refine lv_bipush (v := (48 : Int32)) hx hb dX10_takesFactor_114 (by decide) ?_
            refine lv_isub hx hb dX10_takesFactor_116 ?_
            refine lv_goto (tgt := 121) hx hb dX10_takesFactor_117 (by decide) ?_
            exact t_M_takesFactor_121 C _ _ _ _ _ h w (lv_sub hl [0] rfl)
      · have h := fy_if_t h hc
        refine lv_bipush (v := (9 : Int32)) hx hb dX10_takesFactor_76 (by decide) ?_
        refine lv_goto (tgt := 121) hx hb dX10_takesFactor_78 (by decide) ?_
        exact t_M_takesFactor_121 C _ _ _ _ _ h w (lv_sub hl [0] rfl)
    · have h := fy_if_t h hc
      refine lv_bipush (v := (8 : Int32)) hx hb dX10_takesFactor_62 (by decide) ?_
      refine lv_goto (tgt := 121) hx hb dX10_takesFactor_64 (by decide) ?_
      exact t_M_takesFactor_121 C _ _ _ _ _ h w (lv_sub hl [0] rfl)
  · have h := fy_if_t h hc
    refine lv_aload_n hx hb dX10_takesFactor_9 rfl (lv_at hl 0 rfl) ?_
    refine gfX10_34 C w dX10_takesFactor_10 ?_
    refine lv_aload_n hx hb dX10_takesFactor_13 rfl (lv_at hl 0 rfl) ?_
    refine gfX10_147 C w dX10_takesFactor_14 ?_
    refine lv_bipush (v := (99 : Int32)) hx hb dX10_takesFactor_17 (by decide) ?_
    obtain ⟨g19, h⟩ := fy_gd_some h
    refine fy_iast C w M_a9 g19 dX10_takesFactor_19 (fun H locs w => ?_)
    obtain ⟨S19, e19⟩ : ∃ z, z = fy_sI S 9 (S.1 0 12).toNatClampNeg (99 : Int32) := ⟨_, rfl⟩
    have h := fy_bl_some e19 h
    rw [← e19] at w
    refine lv_aload_n hx hb dX10_takesFactor_20 rfl (lv_at hl 0 rfl) ?_
    refine lv_dup hx hb dX10_takesFactor_21 rfl ?_
    refine gfX10_147 C w dX10_takesFactor_22 ?_
    refine lv_iconst (v := (1 : Int32)) hx hb dX10_takesFactor_25 (by decide) ?_
    refine lv_iadd hx hb dX10_takesFactor_26 ?_
    refine pfX10_147 C w dX10_takesFactor_27 (fun H locs w => ?_)
    obtain ⟨S27, e27⟩ : ∃ z, z = fy_sI S19 0 12 ((S19.1 0 12) + (1 : Int32)) := ⟨_, rfl⟩
    have h := fy_bl_some e27 h
    rw [← e27] at w
    refine lv_aload_n hx hb dX10_takesFactor_30 rfl (lv_at hl 0 rfl) ?_
    refine lv_dup hx hb dX10_takesFactor_31 rfl ?_
    refine gfX10_158 C w dX10_takesFactor_32 ?_
    refine lv_iconst (v := (1 : Int32)) hx hb dX10_takesFactor_35 (by decide) ?_
    refine lv_iadd hx hb dX10_takesFactor_36 ?_
    refine pfX10_158 C w dX10_takesFactor_37 (fun H locs w => ?_)
    obtain ⟨S37, e37⟩ : ∃ z, z = fy_sI S27 0 13 ((S27.1 0 13) + (1 : Int32)) := ⟨_, rfl⟩
    have h := fy_bl_some e37 h
    rw [← e37] at w
    refine lv_aload_n hx hb dX10_takesFactor_40 rfl (lv_at hl 0 rfl) ?_
    refine lv_dup hx hb dX10_takesFactor_41 rfl ?_
    refine gfX10_142 C w dX10_takesFactor_42 ?_
    refine lv_iconst (v := (1 : Int32)) hx hb dX10_takesFactor_45 (by decide) ?_
    refine lv_iadd hx hb dX10_takesFactor_46 ?_
    refine pfX10_142 C w dX10_takesFactor_47 (fun H locs w => ?_)
    obtain ⟨S47, e47⟩ : ∃ z, z = fy_sI S37 0 10 ((S37.1 0 10) + (1 : Int32)) := ⟨_, rfl⟩
    have h := fy_bl_some e47 h
    rw [← e47] at w
    refine lv_goto (tgt := 0) hx hb dX10_takesFactor_50 (by decide) ?_
    exact t_M_takesFactor_0 C fy_fu _ _ _ _ _ h w (lv_sub hl [0, 1] rfl)

set_option maxHeartbeats 4000000 in
set_option maxRecDepth 100000 in
theorem c_M_takesFactor (l : Launch) (g : fy_G) {S : fy_S} {v1 : Int32} {Sr : fy_S} {rr : Int32}  (h : M_takesFactor S v1 = some (Sr, rr)) : fy_M g M_Y l yX10_takesFactor cX10_takesFactor 3 (some .boolean) (fy_rm 2) [.ref (g.2.2.1 0), .int v1] S (fy_QI g M_Y rr Sr) :=
  fy_entry (by decide +kernel) (Nat.le_of_ble_eq_true rfl) (fun p e s m args below meth c ls C w hl => t_M_takesFactor C  h w hl)
def M_takesText_57 (k20 : fy_S → Int32 → Option (fy_S × Int32)) (S : fy_S) (v1 : Int32) (z0 : Int32) : Option (fy_S × Int32) :=
  if z0 = 0 then (
    fy_bd (M_makesFrom S (11 : Int32)) fun S65 =>
    if (S65.1 0 10) = (S65.1 0 9) then (
      if (S65.1 0 13) = 0 then (
        some (S65, (1 : Int32)))
      else (
        some (S65, (0 : Int32))))
    else (
      some (S65, (0 : Int32))))
  else (
    fy_bd (M_makesFrom S z0) fun S94 =>
    fy_gd (fy_ix (S94.1 0 12) 64) <|
    fy_bl (fy_sI S94 9 (S94.1 0 12).toNatClampNeg z0) fun S106 =>
    fy_bl (fy_sI S106 0 12 ((S106.1 0 12) + (1 : Int32))) fun S114 =>
    fy_bl (fy_sI S114 0 10 ((S114.1 0 10) + (1 : Int32))) fun S124 =>
    k20 S124 v1)
def M_takesText_20 : Nat → fy_S → Int32 → Option (fy_S × Int32)
  | 0, _, _ => none
  | fu + 1, S, v1 =>
    fy_bp (M_takesFactor S v1) fun S22 r22 =>
    if r22 = 0 then (
      some (S22, (0 : Int32)))
    else (
      fy_bd (M_next S22 ) fun r29 =>
      if r29 = (38 : Int32) then (
        M_takesText_57 (fun S v1 => M_takesText_20 fu S v1) S22 v1 (10 : Int32))
      else (
        fy_bd (M_next S22 ) fun r43 =>
        if r43 = (124 : Int32) then (
          M_takesText_57 (fun S v1 => M_takesText_20 fu S v1) S22 v1 (11 : Int32))
        else (
          M_takesText_57 (fun S v1 => M_takesText_20 fu S v1) S22 v1 (0 : Int32))))
def M_takesText (S : fy_S) (v1 : Int32) : Option (fy_S × Int32) :=
  fy_bl (fy_sI S 0 10 (0 : Int32)) fun S2 =>
  fy_bl (fy_sI S2 0 11 (0 : Int32)) fun S7 =>
  fy_bl (fy_sI S7 0 12 (0 : Int32)) fun S12 =>
  fy_bl (fy_sI S12 0 13 (0 : Int32)) fun S17 =>
  M_takesText_20 fy_fu S17 v1
set_option maxHeartbeats 4000000 in
set_option maxRecDepth 100000 in
theorem t_M_takesText_57 {p : Program} {l : Launch} {e : Env} {s : State} {m : MethodId} {args : Array Value} {below : List Frame} {meth : Method} {c : Code} {g : fy_G} (C : fy_C g M_Y p s m args meth c yX10_takesText.cls cX10_takesText 3 (some .boolean)) {Sr : fy_S} {rr : Int32} {k20 : fy_S → Int32 → Option (fy_S × Int32)} (hk20 : ∀ (S : fy_S) (v1 : Int32) (H : Heap) (locs : List Loc) (ls : Array Slot), k20 S v1 = some (Sr, rr) → fy_W g M_Y S s H locs → lv_has ls 3 [(0, .ref (g.2.2.1 0)), (1, .int v1)] → W p l e (fy_rm 3) s m args below meth c H locs 0 0 (MQ below (fy_QI g M_Y rr Sr) args s 0 0 (fy_A g M_Y)) (F0 m 20 ls [])) : ∀ (S : fy_S) (v1 : Int32) (z0 : Int32) (H : Heap) (locs : List Loc) (ls : Array Slot), M_takesText_57 k20 S v1 z0 = some (Sr, rr) → fy_W g M_Y S s H locs → lv_has ls 3 [(0, .ref (g.2.2.1 0)), (1, .int v1)] → W p l e (fy_rm 3) s m args below meth c H locs 0 0 (MQ below (fy_QI g M_Y rr Sr) args s 0 0 (fy_A g M_Y)) (F0 m 57 ls [.int z0]) := by
  obtain ⟨hx, hb, hr, hts, hown, hlk, hml, hK, hD, hE, hN⟩ := id C
  intro S v1 z0 H locs ls h w  hl
  rw [M_takesText_57] at h
  refine lv_istore_n (lv' := [(2, .int z0), (0, .ref (g.2.2.1 0)), (1, .int v1)]) hx hb dX10_takesText_57 rfl hl (by decide) rfl (fun ls hl => ?_)
  refine lv_iload_n hx hb dX10_takesText_58 rfl (lv_at hl 0 rfl) ?_
  refine lv_if_ne (tgt := 92) hx hb dX10_takesText_59 (by decide) (fun hc => ?_) (fun hc => ?_)
  · have h := fy_if_f h hc
    refine lv_aload_n hx hb dX10_takesText_92 rfl (lv_at hl 1 rfl) ?_
    refine lv_iload_n hx hb dX10_takesText_93 rfl (lv_at hl 0 rfl) ?_
    obtain ⟨S94, h94, h⟩ := fy_bd_some h
    refine fy_calV w (fy_runV (As := [.int z0]) (rest := []) C w (c_M_makesFrom l g  h94) M_o ksX10_161 rfl ⟨Nat.le_of_ble_eq_true rfl, Nat.le_of_ble_eq_true rfl⟩ rfl hl.1 rfl (Nat.le_of_ble_eq_true rfl) ⟨Nat.le_refl _, Nat.le_refl _⟩ dX10_takesText_94) (fun H locs w => ?_)
    refine lv_aload_n hx hb dX10_takesText_97 rfl (lv_at hl 1 rfl) ?_
    refine gfX10_34 C w dX10_takesText_98 ?_
    refine lv_aload_n hx hb dX10_takesText_101 rfl (lv_at hl 1 rfl) ?_
    refine gfX10_147 C w dX10_takesText_102 ?_
    refine lv_iload_n hx hb dX10_takesText_105 rfl (lv_at hl 0 rfl) ?_
    obtain ⟨g106, h⟩ := fy_gd_some h
    refine fy_iast C w M_a9 g106 dX10_takesText_106 (fun H locs w => ?_)
    obtain ⟨S106, e106⟩ : ∃ z, z = fy_sI S94 9 (S94.1 0 12).toNatClampNeg z0 := ⟨_, rfl⟩
    have h := fy_bl_some e106 h
    rw [← e106] at w
    refine lv_aload_n hx hb dX10_takesText_107 rfl (lv_at hl 1 rfl) ?_
    refine lv_dup hx hb dX10_takesText_108 rfl ?_
    refine gfX10_147 C w dX10_takesText_109 ?_
    refine lv_iconst (v := (1 : Int32)) hx hb dX10_takesText_112 (by decide) ?_
    refine lv_iadd hx hb dX10_takesText_113 ?_
    refine pfX10_147 C w dX10_takesText_114 (fun H locs w => ?_)
    obtain ⟨S114, e114⟩ : ∃ z, z = fy_sI S106 0 12 ((S106.1 0 12) + (1 : Int32)) := ⟨_, rfl⟩
    have h := fy_bl_some e114 h
    rw [← e114] at w
    refine lv_aload_n hx hb dX10_takesText_117 rfl (lv_at hl 1 rfl) ?_
    refine lv_dup hx hb dX10_takesText_118 rfl ?_
    refine gfX10_142 C w dX10_takesText_119 ?_
    refine lv_iconst (v := (1 : Int32)) hx hb dX10_takesText_122 (by decide) ?_
    refine lv_iadd hx hb dX10_takesText_123 ?_
    refine pfX10_142 C w dX10_takesText_124 (fun H locs w => ?_)
    obtain ⟨S124, e124⟩ : ∃ z, z = fy_sI S114 0 10 ((S114.1 0 10) + (1 : Int32)) := ⟨_, rfl⟩
    have h := fy_bl_some e124 h
    rw [← e124] at w
    refine lv_goto (tgt := 20) hx hb dX10_takesText_127 (by decide) ?_
    exact hk20 _ _ _ _ _ h w (lv_sub hl [1, 2] rfl)
  · have h := fy_if_t h hc
    refine lv_aload_n hx hb dX10_takesText_62 rfl (lv_at hl 1 rfl) ?_
    refine lv_bipush (v := (11 : Int32)) hx hb dX10_takesText_63 (by decide) ?_
    obtain ⟨S65, h65, h⟩ := fy_bd_some h
    refine fy_calV w (fy_runV (As := [.int (11 : Int32)]) (rest := []) C w (c_M_makesFrom l g  h65) M_o ksX10_161 rfl ⟨Nat.le_of_ble_eq_true rfl, Nat.le_of_ble_eq_true rfl⟩ rfl hl.1 rfl (Nat.le_of_ble_eq_true rfl) ⟨Nat.le_refl _, Nat.le_refl _⟩ dX10_takesText_65) (fun H locs w => ?_)
    refine lv_aload_n hx hb dX10_takesText_68 rfl (lv_at hl 1 rfl) ?_
    refine gfX10_142 C w dX10_takesText_69 ?_
    refine lv_aload_n hx hb dX10_takesText_72 rfl (lv_at hl 1 rfl) ?_
    refine gfX10_138 C w dX10_takesText_73 ?_
    refine lv_icmp_ne (tgt := 90) hx hb dX10_takesText_76 (by decide) (fun hc => ?_) (fun hc => ?_)
    · have h := fy_if_f h hc
      refine lv_iconst (v := (0 : Int32)) hx hb dX10_takesText_90 (by decide) ?_
      cases h
      exact fy_retZ C w (by decide +kernel) dX10_takesText_91
    · have h := fy_if_t h hc
      refine lv_aload_n hx hb dX10_takesText_79 rfl (lv_at hl 1 rfl) ?_
      refine gfX10_158 C w dX10_takesText_80 ?_
      refine lv_if_ne (tgt := 90) hx hb dX10_takesText_83 (by decide) (fun hc => ?_) (fun hc => ?_)
      · have h := fy_if_f h hc
        refine lv_iconst (v := (0 : Int32)) hx hb dX10_takesText_90 (by decide) ?_
        cases h
        exact fy_retZ C w (by decide +kernel) dX10_takesText_91
      · have h := fy_if_t h hc
        refine lv_iconst (v := (1 : Int32)) hx hb dX10_takesText_86 (by decide) ?_
        refine lv_goto (tgt := 91) hx hb dX10_takesText_87 (by decide) ?_
        cases h
        exact fy_retZ C w (by decide +kernel) dX10_takesText_91

set_option maxHeartbeats 4000000 in
set_option maxRecDepth 100000 in
theorem t_M_takesText_20 {p : Program} {l : Launch} {e : Env} {s : State} {m : MethodId} {args : Array Value} {below : List Frame} {meth : Method} {c : Code} {g : fy_G} (C : fy_C g M_Y p s m args meth c yX10_takesText.cls cX10_takesText 3 (some .boolean)) {Sr : fy_S} {rr : Int32} : ∀ (fu : Nat) (S : fy_S) (v1 : Int32) (H : Heap) (locs : List Loc) (ls : Array Slot), M_takesText_20 fu S v1 = some (Sr, rr) → fy_W g M_Y S s H locs → lv_has ls 3 [(0, .ref (g.2.2.1 0)), (1, .int v1)] → W p l e (fy_rm 3) s m args below meth c H locs 0 0 (MQ below (fy_QI g M_Y rr Sr) args s 0 0 (fy_A g M_Y)) (F0 m 20 ls []) := by
  obtain ⟨hx, hb, hr, hts, hown, hlk, hml, hK, hD, hE, hN⟩ := id C
  intro fu
  induction fu with
  | zero => intro S v1 H locs ls h; cases h
  | succ fu ih =>
    intro S v1 H locs ls h w  hl
    rw [M_takesText_20] at h
    refine lv_aload_n hx hb dX10_takesText_20 rfl (lv_at hl 0 rfl) ?_
    refine lv_iload_n hx hb dX10_takesText_21 rfl (lv_at hl 1 rfl) ?_
    obtain ⟨S22, r22, h22, h⟩ := fy_bp_some h
    refine fy_calI w (fy_runV (As := [.int v1]) (rest := []) C w (c_M_takesFactor l g  h22) M_o ksX10_164 rfl ⟨Nat.le_of_ble_eq_true rfl, Nat.le_of_ble_eq_true rfl⟩ rfl hl.1 rfl (Nat.le_of_ble_eq_true rfl) ⟨Nat.le_refl _, Nat.le_refl _⟩ dX10_takesText_22) (fun H locs w => ?_)
    refine lv_if_eq (tgt := 130) hx hb dX10_takesText_25 (by decide) (fun hc => ?_) (fun hc => ?_)
    · have h := fy_if_t h hc
      refine lv_iconst (v := (0 : Int32)) hx hb dX10_takesText_130 (by decide) ?_
      cases h
      exact fy_retZ C w (by decide +kernel) dX10_takesText_131
    · have h := fy_if_f h hc
      refine lv_aload_n hx hb dX10_takesText_28 rfl (lv_at hl 0 rfl) ?_
      obtain ⟨r29, h29, h⟩ := fy_bd_some h
      refine fy_calI w (fy_runV (As := []) (rest := []) C w (c_M_next l g  h29) M_o ksX10_154 rfl ⟨Nat.le_of_ble_eq_true rfl, Nat.le_of_ble_eq_true rfl⟩ rfl hl.1 rfl (Nat.le_of_ble_eq_true rfl) ⟨Nat.le_refl _, Nat.le_refl _⟩ dX10_takesText_29) (fun H locs w => ?_)
      refine lv_bipush (v := (38 : Int32)) hx hb dX10_takesText_32 (by decide) ?_
      refine lv_icmp_ne (tgt := 42) hx hb dX10_takesText_34 (by decide) (fun hc => ?_) (fun hc => ?_)
      · have h := fy_if_f h hc
        refine lv_aload_n hx hb dX10_takesText_42 rfl (lv_at hl 0 rfl) ?_
        obtain ⟨r43, h43, h⟩ := fy_bd_some h
        refine fy_calI w (fy_runV (As := []) (rest := []) C w (c_M_next l g  h43) M_o ksX10_154 rfl ⟨Nat.le_of_ble_eq_true rfl, Nat.le_of_ble_eq_true rfl⟩ rfl hl.1 rfl (Nat.le_of_ble_eq_true rfl) ⟨Nat.le_refl _, Nat.le_refl _⟩ dX10_takesText_43) (fun H locs w => ?_)
        refine lv_bipush (v := (124 : Int32)) hx hb dX10_takesText_46 (by decide) ?_
        refine lv_icmp_ne (tgt := 56) hx hb dX10_takesText_48 (by decide) (fun hc => ?_) (fun hc => ?_)
        · have h := fy_if_f h hc
          refine lv_iconst (v := (0 : Int32)) hx hb dX10_takesText_56 (by decide) ?_
          exact t_M_takesText_57 C ih _ _ _ _ _ _ h w (lv_sub hl [0, 1] rfl)
        · have h := fy_if_t h hc
          refine lv_bipush (v := (11 : Int32)) hx hb dX10_takesText_51 (by decide) ?_
          refine lv_goto (tgt := 57) hx hb dX10_takesText_53 (by decide) ?_
          exact t_M_takesText_57 C ih _ _ _ _ _ _ h w (lv_sub hl [0, 1] rfl)
      · have h := fy_if_t h hc
        refine lv_bipush (v := (10 : Int32)) hx hb dX10_takesText_37 (by decide) ?_
        refine lv_goto (tgt := 57) hx hb dX10_takesText_39 (by decide) ?_
        exact t_M_takesText_57 C ih _ _ _ _ _ _ h w (lv_sub hl [0, 1] rfl)

set_option maxHeartbeats 4000000 in
set_option maxRecDepth 100000 in
theorem t_M_takesText {p : Program} {l : Launch} {e : Env} {s : State} {m : MethodId} {args : Array Value} {below : List Frame} {meth : Method} {c : Code} {g : fy_G} (C : fy_C g M_Y p s m args meth c yX10_takesText.cls cX10_takesText 3 (some .boolean)) {S : fy_S} {v1 : Int32} {Sr : fy_S} {rr : Int32}  {H : Heap} {locs : List Loc} {ls : Array Slot} (h : M_takesText S v1 = some (Sr, rr)) (w : fy_W g M_Y S s H locs) (hl : lv_has ls 3 [(0, .ref (g.2.2.1 0)), (1, .int v1)]) : W p l e (fy_rm 3) s m args below meth c H locs 0 0 (MQ below (fy_QI g M_Y rr Sr) args s 0 0 (fy_A g M_Y)) (F0 m 0 ls []) := by
  obtain ⟨hx, hb, hr, hts, hown, hlk, hml, hK, hD, hE, hN⟩ := id C
  rw [M_takesText] at h
  refine lv_aload_n hx hb dX10_takesText_0 rfl (lv_at hl 0 rfl) ?_
  refine lv_iconst (v := (0 : Int32)) hx hb dX10_takesText_1 (by decide) ?_
  refine pfX10_142 C w dX10_takesText_2 (fun H locs w => ?_)
  obtain ⟨S2, e2⟩ : ∃ z, z = fy_sI S 0 10 (0 : Int32) := ⟨_, rfl⟩
  have h := fy_bl_some e2 h
  rw [← e2] at w
  refine lv_aload_n hx hb dX10_takesText_5 rfl (lv_at hl 0 rfl) ?_
  refine lv_iconst (v := (0 : Int32)) hx hb dX10_takesText_6 (by decide) ?_
  refine pfX10_144 C w dX10_takesText_7 (fun H locs w => ?_)
  obtain ⟨S7, e7⟩ : ∃ z, z = fy_sI S2 0 11 (0 : Int32) := ⟨_, rfl⟩
  have h := fy_bl_some e7 h
  rw [← e7] at w
  refine lv_aload_n hx hb dX10_takesText_10 rfl (lv_at hl 0 rfl) ?_
  refine lv_iconst (v := (0 : Int32)) hx hb dX10_takesText_11 (by decide) ?_
  refine pfX10_147 C w dX10_takesText_12 (fun H locs w => ?_)
  obtain ⟨S12, e12⟩ : ∃ z, z = fy_sI S7 0 12 (0 : Int32) := ⟨_, rfl⟩
  have h := fy_bl_some e12 h
  rw [← e12] at w
  refine lv_aload_n hx hb dX10_takesText_15 rfl (lv_at hl 0 rfl) ?_
  refine lv_iconst (v := (0 : Int32)) hx hb dX10_takesText_16 (by decide) ?_
  refine pfX10_158 C w dX10_takesText_17 (fun H locs w => ?_)
  obtain ⟨S17, e17⟩ : ∃ z, z = fy_sI S12 0 13 (0 : Int32) := ⟨_, rfl⟩
  have h := fy_bl_some e17 h
  rw [← e17] at w
  exact t_M_takesText_20 C fy_fu _ _ _ _ _ h w (lv_sub hl [0, 1] rfl)

set_option maxHeartbeats 4000000 in
set_option maxRecDepth 100000 in
theorem c_M_takesText (l : Launch) (g : fy_G) {S : fy_S} {v1 : Int32} {Sr : fy_S} {rr : Int32}  (h : M_takesText S v1 = some (Sr, rr)) : fy_M g M_Y l yX10_takesText cX10_takesText 3 (some .boolean) (fy_rm 3) [.ref (g.2.2.1 0), .int v1] S (fy_QI g M_Y rr Sr) :=
  fy_entry (by decide +kernel) (Nat.le_of_ble_eq_true rfl) (fun p e s m args below meth c ls C w hl => t_M_takesText C  h w hl)
def M_parses_53 : Nat → fy_S → Int32 → Int32 → Int32 → Option (fy_S × Int32)
  | 0, _, _, _, _ => none
  | fu + 1, S, v1, v2, v4 =>
    if (S.1 0 11) ≤ v4 then (
      some (S, (S.1 0 11)))
    else (
      fy_bd (M_at S v1 v2) fun r69 =>
      fy_gd (fy_ix v4 64) <|
      fy_gd (fy_ix (r69 + v4) 5320) <|
      fy_bl (fy_sI S 6 (r69 + v4).toNatClampNeg (S.1 8 v4.toNatClampNeg)) fun S82 =>
      fy_bl (v4 + (1 : Int32)) fun x83 =>
      M_parses_53 fu S82 v1 v2 x83)
def M_parses (S : fy_S) (v1 : Int32) (v2 : Int32) : Option (fy_S × Int32) :=
  fy_bp (M_takesText S v1) fun S2 r2 =>
  fy_bl (fy_sI S2 0 9 (0 : Int32)) fun S8 =>
  if r2 = 0 then (
    some (S8, ((-100 : Int32) - (S8.1 0 10))))
  else (
    if (S8.1 0 11) ≤ (40 : Int32) then (
      fy_gd (fy_ix (((19 : Int32) * v1) + v2) 133) <|
      fy_bl (fy_sI S8 5 (((19 : Int32) * v1) + v2).toNatClampNeg (S8.1 0 11)) fun S49 =>
      M_parses_53 fy_fu S49 v1 v2 (0 : Int32))
    else (
      some (S8, (-3 : Int32))))
set_option maxHeartbeats 4000000 in
set_option maxRecDepth 100000 in
theorem t_M_parses_53 {p : Program} {l : Launch} {e : Env} {s : State} {m : MethodId} {args : Array Value} {below : List Frame} {meth : Method} {c : Code} {g : fy_G} (C : fy_C g M_Y p s m args meth c yX10_parses.cls cX10_parses 5 (some .int)) {Sr : fy_S} {rr : Int32} : ∀ (fu : Nat) (S : fy_S) (v1 : Int32) (v2 : Int32) (v4 : Int32) (H : Heap) (locs : List Loc) (ls : Array Slot), M_parses_53 fu S v1 v2 v4 = some (Sr, rr) → fy_W g M_Y S s H locs → lv_has ls 5 [(0, .ref (g.2.2.1 0)), (1, .int v1), (2, .int v2), (4, .int v4)] → W p l e (fy_rm 4) s m args below meth c H locs 0 0 (MQ below (fy_QI g M_Y rr Sr) args s 0 0 (fy_A g M_Y)) (F0 m 53 ls []) := by
  obtain ⟨hx, hb, hr, hts, hown, hlk, hml, hK, hD, hE, hN⟩ := id C
  intro fu
  induction fu with
  | zero => intro S v1 v2 v4 H locs ls h; cases h
  | succ fu ih =>
    intro S v1 v2 v4 H locs ls h w  hl
    rw [M_parses_53] at h
    refine lv_iload hx hb dX10_parses_53 (lv_at hl 3 rfl) ?_
    refine lv_aload_n hx hb dX10_parses_55 rfl (lv_at hl 0 rfl) ?_
    refine gfX10_144 C w dX10_parses_56 ?_
    refine lv_icmp_ge (tgt := 89) hx hb dX10_parses_59 (by decide) (fun hc => ?_) (fun hc => ?_)
    · have h := fy_if_t h hc
      refine lv_aload_n hx hb dX10_parses_89 rfl (lv_at hl 0 rfl) ?_
      refine gfX10_144 C w dX10_parses_90 ?_
      cases h
      exact fy_retI C w dX10_parses_93
    · have h := fy_if_f h hc
      refine lv_aload_n hx hb dX10_parses_62 rfl (lv_at hl 0 rfl) ?_
      refine gfX10_25 C w dX10_parses_63 ?_
      refine lv_aload_n hx hb dX10_parses_66 rfl (lv_at hl 0 rfl) ?_
      refine lv_iload_n hx hb dX10_parses_67 rfl (lv_at hl 1 rfl) ?_
      refine lv_iload_n hx hb dX10_parses_68 rfl (lv_at hl 2 rfl) ?_
      obtain ⟨r69, h69, h⟩ := fy_bd_some h
      refine fy_calI w (fy_runV (As := [.int v1, .int v2]) (rest := [.ref (g.2.2.1 6)]) C w (c_M_at l g  h69) M_o ksX10_119 rfl ⟨Nat.le_of_ble_eq_true rfl, Nat.le_of_ble_eq_true rfl⟩ rfl hl.1 rfl (Nat.le_of_ble_eq_true rfl) ⟨Nat.le_refl _, Nat.le_refl _⟩ dX10_parses_69) (fun H locs w => ?_)
      refine lv_iload hx hb dX10_parses_72 (lv_at hl 3 rfl) ?_
      refine lv_iadd hx hb dX10_parses_74 ?_
      refine lv_aload_n hx hb dX10_parses_75 rfl (lv_at hl 0 rfl) ?_
      refine gfX10_31 C w dX10_parses_76 ?_
      refine lv_iload hx hb dX10_parses_79 (lv_at hl 3 rfl) ?_
      obtain ⟨g81, h⟩ := fy_gd_some h
      refine fy_iald C w M_a8 g81 dX10_parses_81 ?_
      obtain ⟨g82, h⟩ := fy_gd_some h
      refine fy_iast C w M_a6 g82 dX10_parses_82 (fun H locs w => ?_)
      obtain ⟨S82, e82⟩ : ∃ z, z = fy_sI S 6 (r69 + v4).toNatClampNeg (S.1 8 v4.toNatClampNeg) := ⟨_, rfl⟩
      have h := fy_bl_some e82 h
      rw [← e82] at w
      obtain ⟨x83, e83⟩ : ∃ z : Int32, z = v4 + (1 : Int32) := ⟨_, rfl⟩
      have h := fy_bl_some e83 h
      refine lv_iinc (k := 3) (v := x83) (lv' := [(4, .int x83), (0, .ref (g.2.2.1 0)), (1, .int v1), (2, .int v2)]) hx hb dX10_parses_83 hl rfl (by rw [e83]; rfl) (by decide) rfl (fun ls hl => ?_)
      refine lv_goto (tgt := 53) hx hb dX10_parses_86 (by decide) ?_
      exact ih _ _ _ _ _ _ _ h w (lv_sub hl [1, 2, 3, 0] rfl)

set_option maxHeartbeats 4000000 in
set_option maxRecDepth 100000 in
theorem t_M_parses {p : Program} {l : Launch} {e : Env} {s : State} {m : MethodId} {args : Array Value} {below : List Frame} {meth : Method} {c : Code} {g : fy_G} (C : fy_C g M_Y p s m args meth c yX10_parses.cls cX10_parses 5 (some .int)) {S : fy_S} {v1 : Int32} {v2 : Int32} {Sr : fy_S} {rr : Int32}  {H : Heap} {locs : List Loc} {ls : Array Slot} (h : M_parses S v1 v2 = some (Sr, rr)) (w : fy_W g M_Y S s H locs) (hl : lv_has ls 5 [(0, .ref (g.2.2.1 0)), (1, .int v1), (2, .int v2)]) : W p l e (fy_rm 4) s m args below meth c H locs 0 0 (MQ below (fy_QI g M_Y rr Sr) args s 0 0 (fy_A g M_Y)) (F0 m 0 ls []) := by
  obtain ⟨hx, hb, hr, hts, hown, hlk, hml, hK, hD, hE, hN⟩ := id C
  rw [M_parses] at h
  refine lv_aload_n hx hb dX10_parses_0 rfl (lv_at hl 0 rfl) ?_
  refine lv_iload_n hx hb dX10_parses_1 rfl (lv_at hl 1 rfl) ?_
  obtain ⟨S2, r2, h2, h⟩ := fy_bp_some h
  refine fy_calI w (fy_runV (As := [.int v1]) (rest := []) C w (c_M_takesText l g  h2) M_o ksX10_167 rfl ⟨Nat.le_of_ble_eq_true rfl, Nat.le_of_ble_eq_true rfl⟩ rfl hl.1 rfl (Nat.le_of_ble_eq_true rfl) ⟨Nat.le_refl _, Nat.le_refl _⟩ dX10_parses_2) (fun H locs w => ?_)
  refine lv_istore_n (lv' := [(3, .int r2), (0, .ref (g.2.2.1 0)), (1, .int v1), (2, .int v2)]) hx hb dX10_parses_5 rfl hl (by decide) rfl (fun ls hl => ?_)
  refine lv_aload_n hx hb dX10_parses_6 rfl (lv_at hl 1 rfl) ?_
  refine lv_iconst (v := (0 : Int32)) hx hb dX10_parses_7 (by decide) ?_
  refine pfX10_138 C w dX10_parses_8 (fun H locs w => ?_)
  obtain ⟨S8, e8⟩ : ∃ z, z = fy_sI S2 0 9 (0 : Int32) := ⟨_, rfl⟩
  have h := fy_bl_some e8 h
  rw [← e8] at w
  refine lv_iload_n hx hb dX10_parses_11 rfl (lv_at hl 0 rfl) ?_
  refine lv_if_ne (tgt := 23) hx hb dX10_parses_12 (by decide) (fun hc => ?_) (fun hc => ?_)
  · have h := fy_if_f h hc
    refine lv_aload_n hx hb dX10_parses_23 rfl (lv_at hl 1 rfl) ?_
    refine gfX10_144 C w dX10_parses_24 ?_
    refine lv_bipush (v := (40 : Int32)) hx hb dX10_parses_27 (by decide) ?_
    refine lv_icmp_le (tgt := 35) hx hb dX10_parses_29 (by decide) (fun hc => ?_) (fun hc => ?_)
    · have h := fy_if_t h hc
      refine lv_aload_n hx hb dX10_parses_35 rfl (lv_at hl 1 rfl) ?_
      refine gfX10_22 C w dX10_parses_36 ?_
      refine lv_bipush (v := (19 : Int32)) hx hb dX10_parses_39 (by decide) ?_
      refine lv_iload_n hx hb dX10_parses_41 rfl (lv_at hl 2 rfl) ?_
      refine lv_imul hx hb dX10_parses_42 ?_
      refine lv_iload_n hx hb dX10_parses_43 rfl (lv_at hl 3 rfl) ?_
      refine lv_iadd hx hb dX10_parses_44 ?_
      refine lv_aload_n hx hb dX10_parses_45 rfl (lv_at hl 1 rfl) ?_
      refine gfX10_144 C w dX10_parses_46 ?_
      obtain ⟨g49, h⟩ := fy_gd_some h
      refine fy_iast C w M_a5 g49 dX10_parses_49 (fun H locs w => ?_)
      obtain ⟨S49, e49⟩ : ∃ z, z = fy_sI S8 5 (((19 : Int32) * v1) + v2).toNatClampNeg (S8.1 0 11) := ⟨_, rfl⟩
      have h := fy_bl_some e49 h
      rw [← e49] at w
      refine lv_iconst (v := (0 : Int32)) hx hb dX10_parses_50 (by decide) ?_
      refine lv_istore (lv' := [(4, .int (0 : Int32)), (3, .int r2), (0, .ref (g.2.2.1 0)), (1, .int v1), (2, .int v2)]) hx hb dX10_parses_51 hl (by decide) rfl (fun ls hl => ?_)
      exact t_M_parses_53 C fy_fu _ _ _ _ _ _ _ h w (lv_sub hl [2, 3, 4, 0] rfl)
    · have h := fy_if_f h hc
      refine lv_bipush (v := (-3 : Int32)) hx hb dX10_parses_32 (by decide) ?_
      cases h
      exact fy_retI C w dX10_parses_34
  · have h := fy_if_t h hc
    refine lv_bipush (v := (-100 : Int32)) hx hb dX10_parses_15 (by decide) ?_
    refine lv_aload_n hx hb dX10_parses_17 rfl (lv_at hl 1 rfl) ?_
    refine gfX10_142 C w dX10_parses_18 ?_
    refine lv_isub hx hb dX10_parses_21 ?_
    cases h
    exact fy_retI C w dX10_parses_22

set_option maxHeartbeats 4000000 in
set_option maxRecDepth 100000 in
theorem c_M_parses (l : Launch) (g : fy_G) {S : fy_S} {v1 : Int32} {v2 : Int32} {Sr : fy_S} {rr : Int32}  (h : M_parses S v1 v2 = some (Sr, rr)) : fy_M g M_Y l yX10_parses cX10_parses 5 (some .int) (fy_rm 4) [.ref (g.2.2.1 0), .int v1, .int v2] S (fy_QI g M_Y rr Sr) :=
  fy_entry (by decide +kernel) (Nat.le_of_ble_eq_true rfl) (fun p e s m args below meth c ls C w hl => t_M_parses C  h w hl)
def M_refusesText (S : fy_S)  : Option (fy_S × Int32) :=
  fy_bl (fy_sI S 0 9 (0 : Int32)) fun S2 =>
  some (S2, (-2 : Int32))
set_option maxHeartbeats 4000000 in
set_option maxRecDepth 100000 in
theorem t_M_refusesText {p : Program} {l : Launch} {e : Env} {s : State} {m : MethodId} {args : Array Value} {below : List Frame} {meth : Method} {c : Code} {g : fy_G} (C : fy_C g M_Y p s m args meth c yX10_refusesText.cls cX10_refusesText 1 (some .int)) {S : fy_S}  {Sr : fy_S} {rr : Int32}  {H : Heap} {locs : List Loc} {ls : Array Slot} (h : M_refusesText S  = some (Sr, rr)) (w : fy_W g M_Y S s H locs) (hl : lv_has ls 1 [(0, .ref (g.2.2.1 0))]) : W p l e (fy_rm 0) s m args below meth c H locs 0 0 (MQ below (fy_QI g M_Y rr Sr) args s 0 0 (fy_A g M_Y)) (F0 m 0 ls []) := by
  obtain ⟨hx, hb, hr, hts, hown, hlk, hml, hK, hD, hE, hN⟩ := id C
  rw [M_refusesText] at h
  refine lv_aload_n hx hb dX10_refusesText_0 rfl (lv_at hl 0 rfl) ?_
  refine lv_iconst (v := (0 : Int32)) hx hb dX10_refusesText_1 (by decide) ?_
  refine pfX10_138 C w dX10_refusesText_2 (fun H locs w => ?_)
  obtain ⟨S2, e2⟩ : ∃ z, z = fy_sI S 0 9 (0 : Int32) := ⟨_, rfl⟩
  have h := fy_bl_some e2 h
  rw [← e2] at w
  refine lv_bipush (v := (-2 : Int32)) hx hb dX10_refusesText_5 (by decide) ?_
  cases h
  exact fy_retI C w dX10_refusesText_7

set_option maxHeartbeats 4000000 in
set_option maxRecDepth 100000 in
theorem c_M_refusesText (l : Launch) (g : fy_G) {S : fy_S}  {Sr : fy_S} {rr : Int32}  (h : M_refusesText S  = some (Sr, rr)) : fy_M g M_Y l yX10_refusesText cX10_refusesText 1 (some .int) (fy_rm 0) [.ref (g.2.2.1 0)] S (fy_QI g M_Y rr Sr) :=
  fy_entry (by decide +kernel) (Nat.le_of_ble_eq_true rfl) (fun p e s m args below meth c ls C w hl => t_M_refusesText C  h w hl)
def M_setInitial (S : fy_S) (v1 : Int32) : Option (fy_S × Int32) :=
  fy_bd (M_isSlot S v1) fun r1 =>
  if r1 = 0 then (
    fy_bp (M_refusesText S ) fun S17 r17 =>
    some (S17, r17))
  else (
    fy_bp (M_parses S v1 (0 : Int32)) fun S10 r10 =>
    some (S10, r10))
set_option maxHeartbeats 4000000 in
set_option maxRecDepth 100000 in
theorem t_M_setInitial {p : Program} {l : Launch} {e : Env} {s : State} {m : MethodId} {args : Array Value} {below : List Frame} {meth : Method} {c : Code} {g : fy_G} (C : fy_C g M_Y p s m args meth c yX10_setInitial.cls cX10_setInitial 2 (some .int)) {S : fy_S} {v1 : Int32} {Sr : fy_S} {rr : Int32}  {H : Heap} {locs : List Loc} {ls : Array Slot} (h : M_setInitial S v1 = some (Sr, rr)) (w : fy_W g M_Y S s H locs) (hl : lv_has ls 2 [(0, .ref (g.2.2.1 0)), (1, .int v1)]) : W p l e (fy_rm 5) s m args below meth c H locs 0 0 (MQ below (fy_QI g M_Y rr Sr) args s 0 0 (fy_A g M_Y)) (F0 m 0 ls []) := by
  obtain ⟨hx, hb, hr, hts, hown, hlk, hml, hK, hD, hE, hN⟩ := id C
  rw [M_setInitial] at h
  refine lv_iload_n hx hb dX10_setInitial_0 rfl (lv_at hl 1 rfl) ?_
  obtain ⟨r1, h1, h⟩ := fy_bd_some h
  refine fy_calI w (fy_runS (As := [.int v1]) (rest := []) C w (c_M_isSlot l g  h1) ksX10_123 ⟨Nat.le_of_ble_eq_true rfl, Nat.le_of_ble_eq_true rfl⟩ rfl hl.1 rfl (Nat.le_of_ble_eq_true rfl) ⟨Nat.le_refl _, Nat.le_refl _⟩ dX10_setInitial_1) (fun H locs w => ?_)
  refine lv_if_eq (tgt := 16) hx hb dX10_setInitial_4 (by decide) (fun hc => ?_) (fun hc => ?_)
  · have h := fy_if_t h hc
    refine lv_aload_n hx hb dX10_setInitial_16 rfl (lv_at hl 0 rfl) ?_
    obtain ⟨S17, r17, h17, h⟩ := fy_bp_some h
    refine fy_calI w (fy_runV (As := []) (rest := []) C w (c_M_refusesText l g  h17) M_o ksX10_173 rfl ⟨Nat.le_of_ble_eq_true rfl, Nat.le_of_ble_eq_true rfl⟩ rfl hl.1 rfl (Nat.le_of_ble_eq_true rfl) ⟨Nat.le_refl _, Nat.le_refl _⟩ dX10_setInitial_17) (fun H locs w => ?_)
    cases h
    exact fy_retI C w dX10_setInitial_20
  · have h := fy_if_f h hc
    refine lv_aload_n hx hb dX10_setInitial_7 rfl (lv_at hl 0 rfl) ?_
    refine lv_iload_n hx hb dX10_setInitial_8 rfl (lv_at hl 1 rfl) ?_
    refine lv_iconst (v := (0 : Int32)) hx hb dX10_setInitial_9 (by decide) ?_
    obtain ⟨S10, r10, h10, h⟩ := fy_bp_some h
    refine fy_calI w (fy_runV (As := [.int v1, .int (0 : Int32)]) (rest := []) C w (c_M_parses l g  h10) M_o ksX10_170 rfl ⟨Nat.le_of_ble_eq_true rfl, Nat.le_of_ble_eq_true rfl⟩ rfl hl.1 rfl (Nat.le_of_ble_eq_true rfl) ⟨Nat.le_refl _, Nat.le_refl _⟩ dX10_setInitial_10) (fun H locs w => ?_)
    refine lv_goto (tgt := 20) hx hb dX10_setInitial_13 (by decide) ?_
    cases h
    exact fy_retI C w dX10_setInitial_20

set_option maxHeartbeats 4000000 in
set_option maxRecDepth 100000 in
theorem c_M_setInitial (l : Launch) (g : fy_G) {S : fy_S} {v1 : Int32} {Sr : fy_S} {rr : Int32}  (h : M_setInitial S v1 = some (Sr, rr)) : fy_M g M_Y l yX10_setInitial cX10_setInitial 2 (some .int) (fy_rm 5) [.ref (g.2.2.1 0), .int v1] S (fy_QI g M_Y rr Sr) :=
  fy_entry (by decide +kernel) (Nat.le_of_ble_eq_true rfl) (fun p e s m args below meth c ls C w hl => t_M_setInitial C  h w hl)
def M_formulaOf (S : fy_S) (v0 : Int32) (v1 : Int32) : Option (Int32) :=
  some (((1 : Int32) + ((3 : Int32) * v0)) + v1)
set_option maxHeartbeats 4000000 in
set_option maxRecDepth 100000 in
theorem t_M_formulaOf {p : Program} {l : Launch} {e : Env} {s : State} {m : MethodId} {args : Array Value} {below : List Frame} {meth : Method} {c : Code} {g : fy_G} (C : fy_C g M_Y p s m args meth c yX10_formulaOf.cls cX10_formulaOf 2 (some .int)) {S : fy_S} {v0 : Int32} {v1 : Int32} {rr : Int32}  {H : Heap} {locs : List Loc} {ls : Array Slot} (h : M_formulaOf S v0 v1 = some rr) (w : fy_W g M_Y S s H locs) (hl : lv_has ls 2 [(0, .int v0), (1, .int v1)]) : W p l e (fy_rm 0) s m args below meth c H locs 0 0 (MQ below (fy_QI g M_Y rr S) args s 0 0 (fy_A g M_Y)) (F0 m 0 ls []) := by
  obtain ⟨hx, hb, hr, hts, hown, hlk, hml, hK, hD, hE, hN⟩ := id C
  rw [M_formulaOf] at h
  refine lv_iconst (v := (1 : Int32)) hx hb dX10_formulaOf_0 (by decide) ?_
  refine lv_iconst (v := (3 : Int32)) hx hb dX10_formulaOf_1 (by decide) ?_
  refine lv_iload_n hx hb dX10_formulaOf_2 rfl (lv_at hl 0 rfl) ?_
  refine lv_imul hx hb dX10_formulaOf_3 ?_
  refine lv_iadd hx hb dX10_formulaOf_4 ?_
  refine lv_iload_n hx hb dX10_formulaOf_5 rfl (lv_at hl 1 rfl) ?_
  refine lv_iadd hx hb dX10_formulaOf_6 ?_
  cases h
  exact fy_retI C w dX10_formulaOf_7

set_option maxHeartbeats 4000000 in
set_option maxRecDepth 100000 in
theorem c_M_formulaOf (l : Launch) (g : fy_G) {S : fy_S} {v0 : Int32} {v1 : Int32} {rr : Int32}  (h : M_formulaOf S v0 v1 = some rr) : fy_M g M_Y l yX10_formulaOf cX10_formulaOf 2 (some .int) (fy_rm 0) [.int v0, .int v1] S (fy_QI g M_Y rr S) :=
  fy_entry (by decide +kernel) (Nat.le_of_ble_eq_true rfl) (fun p e s m args below meth c ls C w hl => t_M_formulaOf C  h w hl)
def M_setTransition_38 (S : fy_S)  : Option (fy_S × Int32) :=
  fy_bp (M_refusesText S ) fun S39 r39 =>
  some (S39, r39)
def M_setTransition (S : fy_S) (v1 : Int32) (v2 : Int32) (v3 : Int32) : Option (fy_S × Int32) :=
  fy_bd (M_isSlot S v1) fun r1 =>
  if r1 = 0 then (
    M_setTransition_38 S )
  else (
    fy_bd (M_isState S v1 v2) fun r10 =>
    if r10 = 0 then (
      M_setTransition_38 S )
    else (
      fy_bd (M_isLetter S v1 v3) fun r19 =>
      if r19 = 0 then (
        M_setTransition_38 S )
      else (
        fy_bd (M_formulaOf S v2 v3) fun r29 =>
        fy_bp (M_parses S v1 r29) fun S32 r32 =>
        some (S32, r32))))
set_option maxHeartbeats 4000000 in
set_option maxRecDepth 100000 in
theorem t_M_setTransition_38 {p : Program} {l : Launch} {e : Env} {s : State} {m : MethodId} {args : Array Value} {below : List Frame} {meth : Method} {c : Code} {g : fy_G} (C : fy_C g M_Y p s m args meth c yX10_setTransition.cls cX10_setTransition 4 (some .int)) {Sr : fy_S} {rr : Int32} : ∀ (S : fy_S)  (H : Heap) (locs : List Loc) (ls : Array Slot), M_setTransition_38 S  = some (Sr, rr) → fy_W g M_Y S s H locs → lv_has ls 4 [(0, .ref (g.2.2.1 0))] → W p l e (fy_rm 5) s m args below meth c H locs 0 0 (MQ below (fy_QI g M_Y rr Sr) args s 0 0 (fy_A g M_Y)) (F0 m 38 ls []) := by
  obtain ⟨hx, hb, hr, hts, hown, hlk, hml, hK, hD, hE, hN⟩ := id C
  intro S  H locs ls h w  hl
  rw [M_setTransition_38] at h
  refine lv_aload_n hx hb dX10_setTransition_38 rfl (lv_at hl 0 rfl) ?_
  obtain ⟨S39, r39, h39, h⟩ := fy_bp_some h
  refine fy_calI w (fy_runV (As := []) (rest := []) C w (c_M_refusesText l g  h39) M_o ksX10_173 rfl ⟨Nat.le_of_ble_eq_true rfl, Nat.le_of_ble_eq_true rfl⟩ rfl hl.1 rfl (Nat.le_of_ble_eq_true rfl) ⟨Nat.le_refl _, Nat.le_refl _⟩ dX10_setTransition_39) (fun H locs w => ?_)
  cases h
  exact fy_retI C w dX10_setTransition_42

set_option maxHeartbeats 4000000 in
set_option maxRecDepth 100000 in
theorem t_M_setTransition {p : Program} {l : Launch} {e : Env} {s : State} {m : MethodId} {args : Array Value} {below : List Frame} {meth : Method} {c : Code} {g : fy_G} (C : fy_C g M_Y p s m args meth c yX10_setTransition.cls cX10_setTransition 4 (some .int)) {S : fy_S} {v1 : Int32} {v2 : Int32} {v3 : Int32} {Sr : fy_S} {rr : Int32}  {H : Heap} {locs : List Loc} {ls : Array Slot} (h : M_setTransition S v1 v2 v3 = some (Sr, rr)) (w : fy_W g M_Y S s H locs) (hl : lv_has ls 4 [(0, .ref (g.2.2.1 0)), (1, .int v1), (2, .int v2), (3, .int v3)]) : W p l e (fy_rm 5) s m args below meth c H locs 0 0 (MQ below (fy_QI g M_Y rr Sr) args s 0 0 (fy_A g M_Y)) (F0 m 0 ls []) := by
  obtain ⟨hx, hb, hr, hts, hown, hlk, hml, hK, hD, hE, hN⟩ := id C
  rw [M_setTransition] at h
  refine lv_iload_n hx hb dX10_setTransition_0 rfl (lv_at hl 1 rfl) ?_
  obtain ⟨r1, h1, h⟩ := fy_bd_some h
  refine fy_calI w (fy_runS (As := [.int v1]) (rest := []) C w (c_M_isSlot l g  h1) ksX10_123 ⟨Nat.le_of_ble_eq_true rfl, Nat.le_of_ble_eq_true rfl⟩ rfl hl.1 rfl (Nat.le_of_ble_eq_true rfl) ⟨Nat.le_refl _, Nat.le_refl _⟩ dX10_setTransition_1) (fun H locs w => ?_)
  refine lv_if_eq (tgt := 38) hx hb dX10_setTransition_4 (by decide) (fun hc => ?_) (fun hc => ?_)
  · have h := fy_if_t h hc
    exact t_M_setTransition_38 C _ _ _ _ h w (lv_sub hl [0] rfl)
  · have h := fy_if_f h hc
    refine lv_aload_n hx hb dX10_setTransition_7 rfl (lv_at hl 0 rfl) ?_
    refine lv_iload_n hx hb dX10_setTransition_8 rfl (lv_at hl 1 rfl) ?_
    refine lv_iload_n hx hb dX10_setTransition_9 rfl (lv_at hl 2 rfl) ?_
    obtain ⟨r10, h10, h⟩ := fy_bd_some h
    refine fy_calI w (fy_runV (As := [.int v1, .int v2]) (rest := []) C w (c_M_isState l g  h10) M_o ksX10_131 rfl ⟨Nat.le_of_ble_eq_true rfl, Nat.le_of_ble_eq_true rfl⟩ rfl hl.1 rfl (Nat.le_of_ble_eq_true rfl) ⟨Nat.le_refl _, Nat.le_refl _⟩ dX10_setTransition_10) (fun H locs w => ?_)
    refine lv_if_eq (tgt := 38) hx hb dX10_setTransition_13 (by decide) (fun hc => ?_) (fun hc => ?_)
    · have h := fy_if_t h hc
      exact t_M_setTransition_38 C _ _ _ _ h w (lv_sub hl [0] rfl)
    · have h := fy_if_f h hc
      refine lv_aload_n hx hb dX10_setTransition_16 rfl (lv_at hl 0 rfl) ?_
      refine lv_iload_n hx hb dX10_setTransition_17 rfl (lv_at hl 1 rfl) ?_
      refine lv_iload_n hx hb dX10_setTransition_18 rfl (lv_at hl 3 rfl) ?_
      obtain ⟨r19, h19, h⟩ := fy_bd_some h
      refine fy_calI w (fy_runV (As := [.int v1, .int v3]) (rest := []) C w (c_M_isLetter l g  h19) M_o ksX10_135 rfl ⟨Nat.le_of_ble_eq_true rfl, Nat.le_of_ble_eq_true rfl⟩ rfl hl.1 rfl (Nat.le_of_ble_eq_true rfl) ⟨Nat.le_refl _, Nat.le_refl _⟩ dX10_setTransition_19) (fun H locs w => ?_)
      refine lv_if_eq (tgt := 38) hx hb dX10_setTransition_22 (by decide) (fun hc => ?_) (fun hc => ?_)
      · have h := fy_if_t h hc
        exact t_M_setTransition_38 C _ _ _ _ h w (lv_sub hl [0] rfl)
      · have h := fy_if_f h hc
        refine lv_aload_n hx hb dX10_setTransition_25 rfl (lv_at hl 0 rfl) ?_
        refine lv_iload_n hx hb dX10_setTransition_26 rfl (lv_at hl 1 rfl) ?_
        refine lv_iload_n hx hb dX10_setTransition_27 rfl (lv_at hl 2 rfl) ?_
        refine lv_iload_n hx hb dX10_setTransition_28 rfl (lv_at hl 3 rfl) ?_
        obtain ⟨r29, h29, h⟩ := fy_bd_some h
        refine fy_calI w (fy_runS (As := [.int v2, .int v3]) (rest := [.int v1, .ref (g.2.2.1 0)]) C w (c_M_formulaOf l g  h29) ksX10_176 ⟨Nat.le_of_ble_eq_true rfl, Nat.le_of_ble_eq_true rfl⟩ rfl hl.1 rfl (Nat.le_of_ble_eq_true rfl) ⟨Nat.le_refl _, Nat.le_refl _⟩ dX10_setTransition_29) (fun H locs w => ?_)
        obtain ⟨S32, r32, h32, h⟩ := fy_bp_some h
        refine fy_calI w (fy_runV (As := [.int v1, .int r29]) (rest := []) C w (c_M_parses l g  h32) M_o ksX10_170 rfl ⟨Nat.le_of_ble_eq_true rfl, Nat.le_of_ble_eq_true rfl⟩ rfl hl.1 rfl (Nat.le_of_ble_eq_true rfl) ⟨Nat.le_refl _, Nat.le_refl _⟩ dX10_setTransition_32) (fun H locs w => ?_)
        refine lv_goto (tgt := 42) hx hb dX10_setTransition_35 (by decide) ?_
        cases h
        exact fy_retI C w dX10_setTransition_42

set_option maxHeartbeats 4000000 in
set_option maxRecDepth 100000 in
theorem c_M_setTransition (l : Launch) (g : fy_G) {S : fy_S} {v1 : Int32} {v2 : Int32} {v3 : Int32} {Sr : fy_S} {rr : Int32}  (h : M_setTransition S v1 v2 v3 = some (Sr, rr)) : fy_M g M_Y l yX10_setTransition cX10_setTransition 4 (some .int) (fy_rm 5) [.ref (g.2.2.1 0), .int v1, .int v2, .int v3] S (fy_QI g M_Y rr Sr) :=
  fy_entry (by decide +kernel) (Nat.le_of_ble_eq_true rfl) (fun p e s m args below meth c ls C w hl => t_M_setTransition C  h w hl)
def M_asked (S : fy_S) (v1 : Int32) (v2 : Int32) (v3 : Int32) : Option (Int32) :=
  fy_bd (M_isSlot S v1) fun r1 =>
  if r1 = 0 then (
    some (-1 : Int32))
  else (
    if v2 = (-1 : Int32) then (
      some (0 : Int32))
    else (
      fy_bd (M_isState S v1 v2) fun r19 =>
      if r19 = 0 then (
        some (-1 : Int32))
      else (
        fy_bd (M_isLetter S v1 v3) fun r28 =>
        if r28 = 0 then (
          some (-1 : Int32))
        else (
          fy_bd (M_formulaOf S v2 v3) fun r36 =>
          some r36))))
set_option maxHeartbeats 4000000 in
set_option maxRecDepth 100000 in
theorem t_M_asked {p : Program} {l : Launch} {e : Env} {s : State} {m : MethodId} {args : Array Value} {below : List Frame} {meth : Method} {c : Code} {g : fy_G} (C : fy_C g M_Y p s m args meth c yX10_asked.cls cX10_asked 4 (some .int)) {S : fy_S} {v1 : Int32} {v2 : Int32} {v3 : Int32} {rr : Int32}  {H : Heap} {locs : List Loc} {ls : Array Slot} (h : M_asked S v1 v2 v3 = some rr) (w : fy_W g M_Y S s H locs) (hl : lv_has ls 4 [(0, .ref (g.2.2.1 0)), (1, .int v1), (2, .int v2), (3, .int v3)]) : W p l e (fy_rm 1) s m args below meth c H locs 0 0 (MQ below (fy_QI g M_Y rr S) args s 0 0 (fy_A g M_Y)) (F0 m 0 ls []) := by
  obtain ⟨hx, hb, hr, hts, hown, hlk, hml, hK, hD, hE, hN⟩ := id C
  rw [M_asked] at h
  refine lv_iload_n hx hb dX10_asked_0 rfl (lv_at hl 1 rfl) ?_
  obtain ⟨r1, h1, h⟩ := fy_bd_some h
  refine fy_calI w (fy_runS (As := [.int v1]) (rest := []) C w (c_M_isSlot l g  h1) ksX10_123 ⟨Nat.le_of_ble_eq_true rfl, Nat.le_of_ble_eq_true rfl⟩ rfl hl.1 rfl (Nat.le_of_ble_eq_true rfl) ⟨Nat.le_refl _, Nat.le_refl _⟩ dX10_asked_1) (fun H locs w => ?_)
  refine lv_if_ne (tgt := 9) hx hb dX10_asked_4 (by decide) (fun hc => ?_) (fun hc => ?_)
  · have h := fy_if_f h hc
    refine lv_iload_n hx hb dX10_asked_9 rfl (lv_at hl 2 rfl) ?_
    refine lv_iconst (v := (-1 : Int32)) hx hb dX10_asked_10 (by decide) ?_
    refine lv_icmp_ne (tgt := 16) hx hb dX10_asked_11 (by decide) (fun hc => ?_) (fun hc => ?_)
    · have h := fy_if_f h hc
      refine lv_aload_n hx hb dX10_asked_16 rfl (lv_at hl 0 rfl) ?_
      refine lv_iload_n hx hb dX10_asked_17 rfl (lv_at hl 1 rfl) ?_
      refine lv_iload_n hx hb dX10_asked_18 rfl (lv_at hl 2 rfl) ?_
      obtain ⟨r19, h19, h⟩ := fy_bd_some h
      refine fy_calI w (fy_runV (As := [.int v1, .int v2]) (rest := []) C w (c_M_isState l g  h19) M_o ksX10_131 rfl ⟨Nat.le_of_ble_eq_true rfl, Nat.le_of_ble_eq_true rfl⟩ rfl hl.1 rfl (Nat.le_of_ble_eq_true rfl) ⟨Nat.le_refl _, Nat.le_refl _⟩ dX10_asked_19) (fun H locs w => ?_)
      refine lv_if_eq (tgt := 42) hx hb dX10_asked_22 (by decide) (fun hc => ?_) (fun hc => ?_)
      · have h := fy_if_t h hc
        refine lv_iconst (v := (-1 : Int32)) hx hb dX10_asked_42 (by decide) ?_
        cases h
        exact fy_retI C w dX10_asked_43
      · have h := fy_if_f h hc
        refine lv_aload_n hx hb dX10_asked_25 rfl (lv_at hl 0 rfl) ?_
        refine lv_iload_n hx hb dX10_asked_26 rfl (lv_at hl 1 rfl) ?_
        refine lv_iload_n hx hb dX10_asked_27 rfl (lv_at hl 3 rfl) ?_
        obtain ⟨r28, h28, h⟩ := fy_bd_some h
        refine fy_calI w (fy_runV (As := [.int v1, .int v3]) (rest := []) C w (c_M_isLetter l g  h28) M_o ksX10_135 rfl ⟨Nat.le_of_ble_eq_true rfl, Nat.le_of_ble_eq_true rfl⟩ rfl hl.1 rfl (Nat.le_of_ble_eq_true rfl) ⟨Nat.le_refl _, Nat.le_refl _⟩ dX10_asked_28) (fun H locs w => ?_)
        refine lv_if_eq (tgt := 42) hx hb dX10_asked_31 (by decide) (fun hc => ?_) (fun hc => ?_)
        · have h := fy_if_t h hc
          refine lv_iconst (v := (-1 : Int32)) hx hb dX10_asked_42 (by decide) ?_
          cases h
          exact fy_retI C w dX10_asked_43
        · have h := fy_if_f h hc
          refine lv_iload_n hx hb dX10_asked_34 rfl (lv_at hl 2 rfl) ?_
          refine lv_iload_n hx hb dX10_asked_35 rfl (lv_at hl 3 rfl) ?_
          obtain ⟨r36, h36, h⟩ := fy_bd_some h
          refine fy_calI w (fy_runS (As := [.int v2, .int v3]) (rest := []) C w (c_M_formulaOf l g  h36) ksX10_176 ⟨Nat.le_of_ble_eq_true rfl, Nat.le_of_ble_eq_true rfl⟩ rfl hl.1 rfl (Nat.le_of_ble_eq_true rfl) ⟨Nat.le_refl _, Nat.le_refl _⟩ dX10_asked_36) (fun H locs w => ?_)
          refine lv_goto (tgt := 43) hx hb dX10_asked_39 (by decide) ?_
          cases h
          exact fy_retI C w dX10_asked_43
    · have h := fy_if_t h hc
      refine lv_iconst (v := (0 : Int32)) hx hb dX10_asked_14 (by decide) ?_
      cases h
      exact fy_retI C w dX10_asked_15
  · have h := fy_if_t h hc
    refine lv_iconst (v := (-1 : Int32)) hx hb dX10_asked_7 (by decide) ?_
    cases h
    exact fy_retI C w dX10_asked_8

set_option maxHeartbeats 4000000 in
set_option maxRecDepth 100000 in
theorem c_M_asked (l : Launch) (g : fy_G) {S : fy_S} {v1 : Int32} {v2 : Int32} {v3 : Int32} {rr : Int32}  (h : M_asked S v1 v2 v3 = some rr) : fy_M g M_Y l yX10_asked cX10_asked 4 (some .int) (fy_rm 1) [.ref (g.2.2.1 0), .int v1, .int v2, .int v3] S (fy_QI g M_Y rr S) :=
  fy_entry (by decide +kernel) (Nat.le_of_ble_eq_true rfl) (fun p e s m args below meth c ls C w hl => t_M_asked C  h w hl)
def M_sizeOf (S : fy_S) (v1 : Int32) (v2 : Int32) : Option (Int32) :=
  fy_gd (fy_ix (((19 : Int32) * v1) + v2) 133) <|
  some (S.1 5 (((19 : Int32) * v1) + v2).toNatClampNeg)
set_option maxHeartbeats 4000000 in
set_option maxRecDepth 100000 in
theorem t_M_sizeOf {p : Program} {l : Launch} {e : Env} {s : State} {m : MethodId} {args : Array Value} {below : List Frame} {meth : Method} {c : Code} {g : fy_G} (C : fy_C g M_Y p s m args meth c yX10_sizeOf.cls cX10_sizeOf 3 (some .int)) {S : fy_S} {v1 : Int32} {v2 : Int32} {rr : Int32}  {H : Heap} {locs : List Loc} {ls : Array Slot} (h : M_sizeOf S v1 v2 = some rr) (w : fy_W g M_Y S s H locs) (hl : lv_has ls 3 [(0, .ref (g.2.2.1 0)), (1, .int v1), (2, .int v2)]) : W p l e (fy_rm 0) s m args below meth c H locs 0 0 (MQ below (fy_QI g M_Y rr S) args s 0 0 (fy_A g M_Y)) (F0 m 0 ls []) := by
  obtain ⟨hx, hb, hr, hts, hown, hlk, hml, hK, hD, hE, hN⟩ := id C
  rw [M_sizeOf] at h
  refine lv_aload_n hx hb dX10_sizeOf_0 rfl (lv_at hl 0 rfl) ?_
  refine gfX10_22 C w dX10_sizeOf_1 ?_
  refine lv_bipush (v := (19 : Int32)) hx hb dX10_sizeOf_4 (by decide) ?_
  refine lv_iload_n hx hb dX10_sizeOf_6 rfl (lv_at hl 1 rfl) ?_
  refine lv_imul hx hb dX10_sizeOf_7 ?_
  refine lv_iload_n hx hb dX10_sizeOf_8 rfl (lv_at hl 2 rfl) ?_
  refine lv_iadd hx hb dX10_sizeOf_9 ?_
  obtain ⟨g10, h⟩ := fy_gd_some h
  refine fy_iald C w M_a5 g10 dX10_sizeOf_10 ?_
  cases h
  exact fy_retI C w dX10_sizeOf_11

set_option maxHeartbeats 4000000 in
set_option maxRecDepth 100000 in
theorem c_M_sizeOf (l : Launch) (g : fy_G) {S : fy_S} {v1 : Int32} {v2 : Int32} {rr : Int32}  (h : M_sizeOf S v1 v2 = some rr) : fy_M g M_Y l yX10_sizeOf cX10_sizeOf 3 (some .int) (fy_rm 0) [.ref (g.2.2.1 0), .int v1, .int v2] S (fy_QI g M_Y rr S) :=
  fy_entry (by decide +kernel) (Nat.le_of_ble_eq_true rfl) (fun p e s m args below meth c ls C w hl => t_M_sizeOf C  h w hl)
def M_findParts_2 : Nat → fy_S → Int32 → Int32 → Int32 → Option (fy_S)
  | 0, _, _, _, _ => none
  | fu + 1, S, v1, v2, v3 =>
    if v2 ≤ v3 then (
      some S)
    else (
      fy_gd (fy_ix v3 40) <|
      fy_bl (fy_sI S 11 v3.toNatClampNeg v3) fun S13 =>
      fy_gd (fy_ix (v1 + v3) 5320) <|
      if (10 : Int32) ≤ (S13.1 6 (v1 + v3).toNatClampNeg) then (
        fy_gd (fy_ix (v3 - (1 : Int32)) 40) <|
        fy_gd (fy_ix v3 40) <|
        fy_bl (fy_sI S13 10 v3.toNatClampNeg ((S13.1 11 (v3 - (1 : Int32)).toNatClampNeg) - (1 : Int32))) fun S45 =>
        fy_gd (fy_ix v3 40) <|
        fy_gd (fy_ix (S45.1 10 v3.toNatClampNeg) 40) <|
        fy_gd (fy_ix v3 40) <|
        fy_bl (fy_sI S45 11 v3.toNatClampNeg (S45.1 11 (S45.1 10 v3.toNatClampNeg).toNatClampNeg)) fun S62 =>
        fy_bl (v3 + (1 : Int32)) fun x63 =>
        M_findParts_2 fu S62 v1 v2 x63)
      else (
        fy_bl (v3 + (1 : Int32)) fun x63 =>
        M_findParts_2 fu S13 v1 v2 x63))
def M_findParts (S : fy_S) (v1 : Int32) (v2 : Int32) : Option (fy_S) :=
  M_findParts_2 fy_fu S v1 v2 (0 : Int32)
set_option maxHeartbeats 4000000 in
set_option maxRecDepth 100000 in
theorem t_M_findParts_2 {p : Program} {l : Launch} {e : Env} {s : State} {m : MethodId} {args : Array Value} {below : List Frame} {meth : Method} {c : Code} {g : fy_G} (C : fy_C g M_Y p s m args meth c yX10_findParts.cls cX10_findParts 4 none) {Sr : fy_S}  : ∀ (fu : Nat) (S : fy_S) (v1 : Int32) (v2 : Int32) (v3 : Int32) (H : Heap) (locs : List Loc) (ls : Array Slot), M_findParts_2 fu S v1 v2 v3 = some Sr → fy_W g M_Y S s H locs → lv_has ls 4 [(0, .ref (g.2.2.1 0)), (1, .int v1), (2, .int v2), (3, .int v3)] → W p l e (fy_rm 0) s m args below meth c H locs 0 0 (MQ below (fy_QV g M_Y Sr) args s 0 0 (fy_A g M_Y)) (F0 m 2 ls []) := by
  obtain ⟨hx, hb, hr, hts, hown, hlk, hml, hK, hD, hE, hN⟩ := id C
  intro fu
  induction fu with
  | zero => intro S v1 v2 v3 H locs ls h; cases h
  | succ fu ih =>
    intro S v1 v2 v3 H locs ls h w  hl
    rw [M_findParts_2] at h
    refine lv_iload_n hx hb dX10_findParts_2 rfl (lv_at hl 3 rfl) ?_
    refine lv_iload_n hx hb dX10_findParts_3 rfl (lv_at hl 2 rfl) ?_
    refine lv_icmp_ge (tgt := 69) hx hb dX10_findParts_4 (by decide) (fun hc => ?_) (fun hc => ?_)
    · have h := fy_if_t h hc
      cases h
      exact fy_retV C w dX10_findParts_69
    · have h := fy_if_f h hc
      refine lv_aload_n hx hb dX10_findParts_7 rfl (lv_at hl 0 rfl) ?_
      refine gfX10_40 C w dX10_findParts_8 ?_
      refine lv_iload_n hx hb dX10_findParts_11 rfl (lv_at hl 3 rfl) ?_
      refine lv_iload_n hx hb dX10_findParts_12 rfl (lv_at hl 3 rfl) ?_
      obtain ⟨g13, h⟩ := fy_gd_some h
      refine fy_iast C w M_a11 g13 dX10_findParts_13 (fun H locs w => ?_)
      obtain ⟨S13, e13⟩ : ∃ z, z = fy_sI S 11 v3.toNatClampNeg v3 := ⟨_, rfl⟩
      have h := fy_bl_some e13 h
      rw [← e13] at w
      refine lv_aload_n hx hb dX10_findParts_14 rfl (lv_at hl 0 rfl) ?_
      refine gfX10_25 C w dX10_findParts_15 ?_
      refine lv_iload_n hx hb dX10_findParts_18 rfl (lv_at hl 1 rfl) ?_
      refine lv_iload_n hx hb dX10_findParts_19 rfl (lv_at hl 3 rfl) ?_
      refine lv_iadd hx hb dX10_findParts_20 ?_
      obtain ⟨g21, h⟩ := fy_gd_some h
      refine fy_iald C w M_a6 g21 dX10_findParts_21 ?_
      refine lv_bipush (v := (10 : Int32)) hx hb dX10_findParts_22 (by decide) ?_
      refine lv_icmp_ge (tgt := 30) hx hb dX10_findParts_24 (by decide) (fun hc => ?_) (fun hc => ?_)
      · have h := fy_if_t h hc
        refine lv_aload_n hx hb dX10_findParts_30 rfl (lv_at hl 0 rfl) ?_
        refine gfX10_37 C w dX10_findParts_31 ?_
        refine lv_iload_n hx hb dX10_findParts_34 rfl (lv_at hl 3 rfl) ?_
        refine lv_aload_n hx hb dX10_findParts_35 rfl (lv_at hl 0 rfl) ?_
        refine gfX10_40 C w dX10_findParts_36 ?_
        refine lv_iload_n hx hb dX10_findParts_39 rfl (lv_at hl 3 rfl) ?_
        refine lv_iconst (v := (1 : Int32)) hx hb dX10_findParts_40 (by decide) ?_
        refine lv_isub hx hb dX10_findParts_41 ?_
        obtain ⟨g42, h⟩ := fy_gd_some h
        refine fy_iald C w M_a11 g42 dX10_findParts_42 ?_
        refine lv_iconst (v := (1 : Int32)) hx hb dX10_findParts_43 (by decide) ?_
        refine lv_isub hx hb dX10_findParts_44 ?_
        obtain ⟨g45, h⟩ := fy_gd_some h
        refine fy_iast C w M_a10 g45 dX10_findParts_45 (fun H locs w => ?_)
        obtain ⟨S45, e45⟩ : ∃ z, z = fy_sI S13 10 v3.toNatClampNeg ((S13.1 11 (v3 - (1 : Int32)).toNatClampNeg) - (1 : Int32)) := ⟨_, rfl⟩
        have h := fy_bl_some e45 h
        rw [← e45] at w
        refine lv_aload_n hx hb dX10_findParts_46 rfl (lv_at hl 0 rfl) ?_
        refine gfX10_40 C w dX10_findParts_47 ?_
        refine lv_iload_n hx hb dX10_findParts_50 rfl (lv_at hl 3 rfl) ?_
        refine lv_aload_n hx hb dX10_findParts_51 rfl (lv_at hl 0 rfl) ?_
        refine gfX10_40 C w dX10_findParts_52 ?_
        refine lv_aload_n hx hb dX10_findParts_55 rfl (lv_at hl 0 rfl) ?_
        refine gfX10_37 C w dX10_findParts_56 ?_
        refine lv_iload_n hx hb dX10_findParts_59 rfl (lv_at hl 3 rfl) ?_
        obtain ⟨g60, h⟩ := fy_gd_some h
        refine fy_iald C w M_a10 g60 dX10_findParts_60 ?_
        obtain ⟨g61, h⟩ := fy_gd_some h
        refine fy_iald C w M_a11 g61 dX10_findParts_61 ?_
        obtain ⟨g62, h⟩ := fy_gd_some h
        refine fy_iast C w M_a11 g62 dX10_findParts_62 (fun H locs w => ?_)
        obtain ⟨S62, e62⟩ : ∃ z, z = fy_sI S45 11 v3.toNatClampNeg (S45.1 11 (S45.1 10 v3.toNatClampNeg).toNatClampNeg) := ⟨_, rfl⟩
        have h := fy_bl_some e62 h
        rw [← e62] at w
        obtain ⟨x63, e63⟩ : ∃ z : Int32, z = v3 + (1 : Int32) := ⟨_, rfl⟩
        have h := fy_bl_some e63 h
        refine lv_iinc (k := 3) (v := x63) (lv' := [(3, .int x63), (0, .ref (g.2.2.1 0)), (1, .int v1), (2, .int v2)]) hx hb dX10_findParts_63 hl rfl (by rw [e63]; rfl) (by decide) rfl (fun ls hl => ?_)
        refine lv_goto (tgt := 2) hx hb dX10_findParts_66 (by decide) ?_
        exact ih _ _ _ _ _ _ _ h w (lv_sub hl [1, 2, 3, 0] rfl)
      · have h := fy_if_f h hc
        refine lv_goto (tgt := 63) hx hb dX10_findParts_27 (by decide) ?_
        obtain ⟨x63, e63⟩ : ∃ z : Int32, z = v3 + (1 : Int32) := ⟨_, rfl⟩
        have h := fy_bl_some e63 h
        refine lv_iinc (k := 3) (v := x63) (lv' := [(3, .int x63), (0, .ref (g.2.2.1 0)), (1, .int v1), (2, .int v2)]) hx hb dX10_findParts_63 hl rfl (by rw [e63]; rfl) (by decide) rfl (fun ls hl => ?_)
        refine lv_goto (tgt := 2) hx hb dX10_findParts_66 (by decide) ?_
        exact ih _ _ _ _ _ _ _ h w (lv_sub hl [1, 2, 3, 0] rfl)

set_option maxHeartbeats 4000000 in
set_option maxRecDepth 100000 in
theorem t_M_findParts {p : Program} {l : Launch} {e : Env} {s : State} {m : MethodId} {args : Array Value} {below : List Frame} {meth : Method} {c : Code} {g : fy_G} (C : fy_C g M_Y p s m args meth c yX10_findParts.cls cX10_findParts 4 none) {S : fy_S} {v1 : Int32} {v2 : Int32} {Sr : fy_S}   {H : Heap} {locs : List Loc} {ls : Array Slot} (h : M_findParts S v1 v2 = some Sr) (w : fy_W g M_Y S s H locs) (hl : lv_has ls 4 [(0, .ref (g.2.2.1 0)), (1, .int v1), (2, .int v2)]) : W p l e (fy_rm 0) s m args below meth c H locs 0 0 (MQ below (fy_QV g M_Y Sr) args s 0 0 (fy_A g M_Y)) (F0 m 0 ls []) := by
  obtain ⟨hx, hb, hr, hts, hown, hlk, hml, hK, hD, hE, hN⟩ := id C
  rw [M_findParts] at h
  refine lv_iconst (v := (0 : Int32)) hx hb dX10_findParts_0 (by decide) ?_
  refine lv_istore_n (lv' := [(3, .int (0 : Int32)), (0, .ref (g.2.2.1 0)), (1, .int v1), (2, .int v2)]) hx hb dX10_findParts_1 rfl hl (by decide) rfl (fun ls hl => ?_)
  exact t_M_findParts_2 C fy_fu _ _ _ _ _ _ _ h w (lv_sub hl [1, 2, 3, 0] rfl)

set_option maxHeartbeats 4000000 in
set_option maxRecDepth 100000 in
theorem c_M_findParts (l : Launch) (g : fy_G) {S : fy_S} {v1 : Int32} {v2 : Int32} {Sr : fy_S}   (h : M_findParts S v1 v2 = some Sr) : fy_M g M_Y l yX10_findParts cX10_findParts 4 none (fy_rm 0) [.ref (g.2.2.1 0), .int v1, .int v2] S (fy_QV g M_Y Sr) :=
  fy_entry (by decide +kernel) (Nat.le_of_ble_eq_true rfl) (fun p e s m args below meth c ls C w hl => t_M_findParts C  h w hl)
end
