noncomputable section
def X9_combine_128 (S : fy_S) (v7 : Nat) (z0 : Int32) (z1 : Nat) (z2 : Nat) : Option (fy_S × Int32) :=
  fy_bd (X0_becomeJoin S 284 z2 z1 z0) fun S128 =>
  fy_bd (X0_copy S128 v7 284) fun S137 =>
  some (S137, (S137.1 v7 3))
def X9_combine (S : fy_S) (v1 : Int32) (v2 : Int32) (v3 : Int32) (v4 : Int32) : Option (fy_S × Int32) :=
  fy_bd (X9_automatonIn S v1) fun r2 =>
  fy_bd (X9_automatonIn S v2) fun r9 =>
  fy_bd (X9_automatonIn S v3) fun r16 =>
  match r2 with
  | none => (
    some (S, (-2 : Int32)))
  | some r2_ => (
    match r9 with
    | none => (
      some (S, (-2 : Int32)))
    | some r9_ => (
      match r16 with
      | none => (
        some (S, (-2 : Int32)))
      | some r16_ => (
        fy_bd (X9_isWithin S v4 (0 : Int32) (1 : Int32)) fun r40 =>
        if r40 = 0 then (
          some (S, (-2 : Int32)))
        else (
          if (S.1 r2_ 4) = (S.1 r9_ 4) then (
            if (6 : Int32) < ((S.1 r2_ 3) + (S.1 r9_ 3)) then (
              some (S, (-3 : Int32)))
            else (
              if (((S.1 (r2_ + 3) 1) + (S.1 (r9_ + 3) 1)) + (1 : Int32)) ≤ (40 : Int32) then (
                if v4 = 0 then (
                  X9_combine_128 S r16_ (8 : Int32) r9_ r2_)
                else (
                  X9_combine_128 S r16_ (9 : Int32) r9_ r2_))
              else (
                some (S, (-3 : Int32)))))
          else (
            some (S, (-4 : Int32)))))))
set_option maxHeartbeats 4000000 in
set_option maxRecDepth 100000 in
theorem t_X9_combine_128 {p : Program} {l : Launch} {e : Env} {s : State} {m : MethodId} {args : Array Value} {below : List Frame} {meth : Method} {c : Code} {g : fy_G} (C : fy_C g X_Y p s m args meth c yX9_combine.cls cX9_combine 8 (some .int)) {Sr : fy_S} {rr : Int32} : ∀ (S : fy_S) (v7 : Nat) (z0 : Int32) (z1 : Nat) (z2 : Nat) (H : Heap) (locs : List Loc) (ls : Array Slot), X9_combine_128 S v7 z0 z1 z2 = some (Sr, rr) → fy_W g X_Y S s H locs → X_is X_Y 0 v7 → X_is X_Y 0 z1 → X_is X_Y 0 z2 → lv_has ls 8 [(0, .ref (g.2.2.1 0)), (7, .ref (g.2.2.1 v7))] → W p l e (fy_rm 5) s m args below meth c H locs 0 0 (MQ below (fy_QI g X_Y rr Sr) args s 0 0 (fy_A g X_Y)) (F0 m 128 ls [.int z0, .ref (g.2.2.1 z1), .ref (g.2.2.1 z2), .ref (g.2.2.1 284)]) := by
  obtain ⟨hx, hb, hr, hts, hown, hlk, hml, hK, hD, hE, hN⟩ := id C
  intro S v7 z0 z1 z2 H locs ls h w q7 qz1 qz2 hl
  rw [X9_combine_128] at h
  obtain ⟨S128, h128, h⟩ := fy_bd_some h
  refine fy_calV w (fy_runV (As := [.ref (g.2.2.1 z2), .ref (g.2.2.1 z1), .int z0]) (rest := []) C w (c_X0_becomeJoin l g X_full X_i284 qz2 qz1 h128) (X_o0 X_full X_i284) ksX9_264 rfl ⟨Nat.le_of_ble_eq_true rfl, Nat.le_of_ble_eq_true rfl⟩ rfl hl.1 rfl (Nat.le_of_ble_eq_true rfl) ⟨Nat.le_refl _, Nat.le_refl _⟩ dX9_combine_128) (fun H locs w => ?_)
  refine lv_aload hx hb dX9_combine_131 (lv_at hl 1 rfl) ?_
  refine lv_aload_n hx hb dX9_combine_133 rfl (lv_at hl 0 rfl) ?_
  refine gfX9_19 X_full C w (X_i0) dX9_combine_134 ?_
  obtain ⟨S137, h137, h⟩ := fy_bd_some h
  refine fy_calV w (fy_runV (As := [.ref (g.2.2.1 284)]) (rest := []) C w (c_X0_copy l g X_full q7 X_i284 h137) (X_o0 X_full q7) ksX9_268 rfl ⟨Nat.le_of_ble_eq_true rfl, Nat.le_of_ble_eq_true rfl⟩ rfl hl.1 rfl (Nat.le_of_ble_eq_true rfl) ⟨Nat.le_refl _, Nat.le_refl _⟩ dX9_combine_137) (fun H locs w => ?_)
  refine lv_aload hx hb dX9_combine_140 (lv_at hl 1 rfl) ?_
  refine gfX9_96 X_full C w q7 dX9_combine_142 ?_
  cases h
  exact fy_retI C w dX9_combine_145

set_option maxHeartbeats 4000000 in
set_option maxRecDepth 100000 in
theorem t_X9_combine {p : Program} {l : Launch} {e : Env} {s : State} {m : MethodId} {args : Array Value} {below : List Frame} {meth : Method} {c : Code} {g : fy_G} (C : fy_C g X_Y p s m args meth c yX9_combine.cls cX9_combine 8 (some .int)) {S : fy_S} {v1 : Int32} {v2 : Int32} {v3 : Int32} {v4 : Int32} {Sr : fy_S} {rr : Int32}  {H : Heap} {locs : List Loc} {ls : Array Slot} (h : X9_combine S v1 v2 v3 v4 = some (Sr, rr)) (w : fy_W g X_Y S s H locs) (hl : lv_has ls 8 [(0, .ref (g.2.2.1 0)), (1, .int v1), (2, .int v2), (3, .int v3), (4, .int v4)]) : W p l e (fy_rm 5) s m args below meth c H locs 0 0 (MQ below (fy_QI g X_Y rr Sr) args s 0 0 (fy_A g X_Y)) (F0 m 0 ls []) := by
  obtain ⟨hx, hb, hr, hts, hown, hlk, hml, hK, hD, hE, hN⟩ := id C
  rw [X9_combine] at h
  refine lv_aload_n hx hb dX9_combine_0 rfl (lv_at hl 0 rfl) ?_
  refine lv_iload_n hx hb dX9_combine_1 rfl (lv_at hl 1 rfl) ?_
  obtain ⟨r2, h2, h⟩ := fy_bd_some h
  refine fy_calE w (fy_runV (As := [.int v1]) (rest := []) C w (c_X9_automatonIn l g  h2) (X_o9 X_full (X_i0)) ksX9_88 rfl ⟨Nat.le_of_ble_eq_true rfl, Nat.le_of_ble_eq_true rfl⟩ rfl hl.1 rfl (Nat.le_of_ble_eq_true rfl) ⟨Nat.le_refl _, Nat.le_refl _⟩ dX9_combine_2) (fun H locs w => ?_)
  refine fy_astoreO (lv' := [(5, va_re g.2.2.1 r2), (0, .ref (g.2.2.1 0)), (1, .int v1), (2, .int v2), (3, .int v3), (4, .int v4)]) hx hb dX9_combine_5 hl (by decide) rfl (fun ls hl => ?_)
  refine lv_aload_n hx hb dX9_combine_7 rfl (lv_at hl 1 rfl) ?_
  refine lv_iload_n hx hb dX9_combine_8 rfl (lv_at hl 3 rfl) ?_
  obtain ⟨r9, h9, h⟩ := fy_bd_some h
  refine fy_calE w (fy_runV (As := [.int v2]) (rest := []) C w (c_X9_automatonIn l g  h9) (X_o9 X_full (X_i0)) ksX9_88 rfl ⟨Nat.le_of_ble_eq_true rfl, Nat.le_of_ble_eq_true rfl⟩ rfl hl.1 rfl (Nat.le_of_ble_eq_true rfl) ⟨Nat.le_refl _, Nat.le_refl _⟩ dX9_combine_9) (fun H locs w => ?_)
  refine fy_astoreO (lv' := [(6, va_re g.2.2.1 r9), (5, va_re g.2.2.1 r2), (0, .ref (g.2.2.1 0)), (1, .int v1), (2, .int v2), (3, .int v3), (4, .int v4)]) hx hb dX9_combine_12 hl (by decide) (by simp [fy_recat]) (fun ls hl => ?_)
  refine lv_aload_n hx hb dX9_combine_14 rfl (lv_at hl 2 rfl) ?_
  refine lv_iload_n hx hb dX9_combine_15 rfl (lv_at hl 5 rfl) ?_
  obtain ⟨r16, h16, h⟩ := fy_bd_some h
  refine fy_calE w (fy_runV (As := [.int v3]) (rest := []) C w (c_X9_automatonIn l g  h16) (X_o9 X_full (X_i0)) ksX9_88 rfl ⟨Nat.le_of_ble_eq_true rfl, Nat.le_of_ble_eq_true rfl⟩ rfl hl.1 rfl (Nat.le_of_ble_eq_true rfl) ⟨Nat.le_refl _, Nat.le_refl _⟩ dX9_combine_16) (fun H locs w => ?_)
  refine fy_astoreO (lv' := [(7, va_re g.2.2.1 r16), (6, va_re g.2.2.1 r9), (5, va_re g.2.2.1 r2), (0, .ref (g.2.2.1 0)), (1, .int v1), (2, .int v2), (3, .int v3), (4, .int v4)]) hx hb dX9_combine_19 hl (by decide) (by simp [fy_recat]) (fun ls hl => ?_)
  cases r2 with
  | none =>
    dsimp only at h
    refine lv_aloadN hx hb dX9_combine_21 (lv_at hl 2 rfl) ?_
    refine lv_ifnullN (tgt := 46) hx hb dX9_combine_23 (by decide) ?_
    refine lv_bipush (v := (-2 : Int32)) hx hb dX9_combine_46 (by decide) ?_
    cases h
    exact fy_retI C w dX9_combine_48
  | some r2_ =>
    dsimp only at h
    refine lv_aload hx hb dX9_combine_21 (lv_at hl 2 rfl) ?_
    refine lv_ifnull hx hb dX9_combine_23 ?_
    cases r9 with
    | none =>
      dsimp only at h
      refine lv_aloadN hx hb dX9_combine_26 (lv_at hl 1 rfl) ?_
      refine lv_ifnullN (tgt := 46) hx hb dX9_combine_28 (by decide) ?_
      refine lv_bipush (v := (-2 : Int32)) hx hb dX9_combine_46 (by decide) ?_
      cases h
      exact fy_retI C w dX9_combine_48
    | some r9_ =>
      dsimp only at h
      refine lv_aload hx hb dX9_combine_26 (lv_at hl 1 rfl) ?_
      refine lv_ifnull hx hb dX9_combine_28 ?_
      cases r16 with
      | none =>
        dsimp only at h
        refine lv_aloadN hx hb dX9_combine_31 (lv_at hl 0 rfl) ?_
        refine lv_ifnullN (tgt := 46) hx hb dX9_combine_33 (by decide) ?_
        refine lv_bipush (v := (-2 : Int32)) hx hb dX9_combine_46 (by decide) ?_
        cases h
        exact fy_retI C w dX9_combine_48
      | some r16_ =>
        dsimp only at h
        refine lv_aload hx hb dX9_combine_31 (lv_at hl 0 rfl) ?_
        refine lv_ifnull hx hb dX9_combine_33 ?_
        refine lv_iload hx hb dX9_combine_36 (lv_at hl 7 rfl) ?_
        refine lv_iconst (v := (0 : Int32)) hx hb dX9_combine_38 (by decide) ?_
        refine lv_iconst (v := (1 : Int32)) hx hb dX9_combine_39 (by decide) ?_
        obtain ⟨r40, h40, h⟩ := fy_bd_some h
        refine fy_calI w (fy_runS (As := [.int v4, .int (0 : Int32), .int (1 : Int32)]) (rest := []) C w (c_X9_isWithin l g X_full  h40) ksX9_92 ⟨Nat.le_of_ble_eq_true rfl, Nat.le_of_ble_eq_true rfl⟩ rfl hl.1 rfl (Nat.le_of_ble_eq_true rfl) ⟨Nat.le_refl _, Nat.le_refl _⟩ dX9_combine_40) (fun H locs w => ?_)
        refine lv_if_ne (tgt := 49) hx hb dX9_combine_43 (by decide) (fun hc => ?_) (fun hc => ?_)
        · have h := fy_if_f h hc
          refine lv_aload hx hb dX9_combine_49 (lv_at hl 2 rfl) ?_
          refine gfX9_128 X_full C w (cls_X9_automatonIn  h2) dX9_combine_51 ?_
          refine lv_aload hx hb dX9_combine_54 (lv_at hl 1 rfl) ?_
          refine gfX9_128 X_full C w (cls_X9_automatonIn  h9) dX9_combine_56 ?_
          refine lv_icmp_eq (tgt := 65) hx hb dX9_combine_59 (by decide) (fun hc => ?_) (fun hc => ?_)
          · have h := fy_if_t h hc
            refine lv_aload hx hb dX9_combine_65 (lv_at hl 2 rfl) ?_
            refine gfX9_96 X_full C w (cls_X9_automatonIn  h2) dX9_combine_67 ?_
            refine lv_aload hx hb dX9_combine_70 (lv_at hl 1 rfl) ?_
            refine gfX9_96 X_full C w (cls_X9_automatonIn  h9) dX9_combine_72 ?_
            refine lv_iadd hx hb dX9_combine_75 ?_
            refine lv_bipush (v := (6 : Int32)) hx hb dX9_combine_76 (by decide) ?_
            refine lv_icmp_gt (tgt := 105) hx hb dX9_combine_78 (by decide) (fun hc => ?_) (fun hc => ?_)
            · have h := fy_if_t h hc
              refine lv_bipush (v := (-3 : Int32)) hx hb dX9_combine_105 (by decide) ?_
              cases h
              exact fy_retI C w dX9_combine_107
            · have h := fy_if_f h hc
              refine lv_aload hx hb dX9_combine_81 (lv_at hl 2 rfl) ?_
              refine gfX9_181 X_full C w (cls_X9_automatonIn  h2) dX9_combine_83 ?_
              refine gfX9_261 X_full C w (X_f0_initial X_full (cls_X9_automatonIn  h2)) dX9_combine_86 ?_
              refine lv_aload hx hb dX9_combine_89 (lv_at hl 1 rfl) ?_
              refine gfX9_181 X_full C w (cls_X9_automatonIn  h9) dX9_combine_91 ?_
              refine gfX9_261 X_full C w (X_f0_initial X_full (cls_X9_automatonIn  h9)) dX9_combine_94 ?_
              refine lv_iadd hx hb dX9_combine_97 ?_
              refine lv_iconst (v := (1 : Int32)) hx hb dX9_combine_98 (by decide) ?_
              refine lv_iadd hx hb dX9_combine_99 ?_
              refine lv_bipush (v := (40 : Int32)) hx hb dX9_combine_100 (by decide) ?_
              refine lv_icmp_le (tgt := 108) hx hb dX9_combine_102 (by decide) (fun hc => ?_) (fun hc => ?_)
              · have h := fy_if_t h hc
                refine lv_aload_n hx hb dX9_combine_108 rfl (lv_at hl 3 rfl) ?_
                refine gfX9_19 X_full C w (X_i0) dX9_combine_109 ?_
                refine lv_aload hx hb dX9_combine_112 (lv_at hl 2 rfl) ?_
                refine lv_aload hx hb dX9_combine_114 (lv_at hl 1 rfl) ?_
                refine lv_iload hx hb dX9_combine_116 (lv_at hl 7 rfl) ?_
                refine lv_if_ne (tgt := 126) hx hb dX9_combine_118 (by decide) (fun hc => ?_) (fun hc => ?_)
                · have h := fy_if_f h hc
                  refine lv_bipush (v := (9 : Int32)) hx hb dX9_combine_126 (by decide) ?_
                  exact t_X9_combine_128 C _ _ _ _ _ _ _ _ h w (cls_X9_automatonIn h16) (cls_X9_automatonIn h9) (cls_X9_automatonIn h2) (lv_sub hl [3, 0] rfl)
                · have h := fy_if_t h hc
                  refine lv_bipush (v := (8 : Int32)) hx hb dX9_combine_121 (by decide) ?_
                  refine lv_goto (tgt := 128) hx hb dX9_combine_123 (by decide) ?_
                  exact t_X9_combine_128 C _ _ _ _ _ _ _ _ h w (cls_X9_automatonIn h16) (cls_X9_automatonIn h9) (cls_X9_automatonIn h2) (lv_sub hl [3, 0] rfl)
              · have h := fy_if_f h hc
                refine lv_bipush (v := (-3 : Int32)) hx hb dX9_combine_105 (by decide) ?_
                cases h
                exact fy_retI C w dX9_combine_107
          · have h := fy_if_f h hc
            refine lv_bipush (v := (-4 : Int32)) hx hb dX9_combine_62 (by decide) ?_
            cases h
            exact fy_retI C w dX9_combine_64
        · have h := fy_if_t h hc
          refine lv_bipush (v := (-2 : Int32)) hx hb dX9_combine_46 (by decide) ?_
          cases h
          exact fy_retI C w dX9_combine_48

set_option maxHeartbeats 4000000 in
set_option maxRecDepth 100000 in
theorem c_X9_combine (l : Launch) (g : fy_G) {S : fy_S} {v1 : Int32} {v2 : Int32} {v3 : Int32} {v4 : Int32} {Sr : fy_S} {rr : Int32}  (h : X9_combine S v1 v2 v3 v4 = some (Sr, rr)) : fy_M g X_Y l yX9_combine cX9_combine 8 (some .int) (fy_rm 5) [.ref (g.2.2.1 0), .int v1, .int v2, .int v3, .int v4] S (fy_QI g X_Y rr Sr) :=
  fy_entry (by decide +kernel) (Nat.le_of_ble_eq_true rfl) (fun p e s m args below meth c ls C w hl => t_X9_combine C  h w hl)
def X9_copyAll_4 : Nat → fy_S → Nat → Nat → Int32 → Int32 → Option (fy_S × Int32)
  | 0, _, _, _, _, _ => none
  | fu + 1, S, v0, v1, v2, v3 =>
    if (3 : Int32) ≤ v3 then (
      some (S, v2))
    else (
      fy_gd (fy_ix v3 (X_al v1)) <|
      fy_gd (fy_ix v3 (X_al v0)) <|
      fy_bd (X0_copy S (X_ar v1 v3.toNatClampNeg) (X_ar v0 v3.toNatClampNeg)) fun S15 =>
      fy_gd (fy_ix v3 (X_al v1)) <|
      fy_bl (v2 + (S15.1 (X_ar v1 v3.toNatClampNeg) 3)) fun x26 =>
      fy_bl (v3 + (1 : Int32)) fun x27 =>
      X9_copyAll_4 fu S15 v0 v1 x26 x27)
def X9_copyAll (S : fy_S) (v0 : Nat) (v1 : Nat) : Option (fy_S × Int32) :=
  X9_copyAll_4 fy_fu S v0 v1 (0 : Int32) (0 : Int32)
set_option maxHeartbeats 4000000 in
set_option maxRecDepth 100000 in
theorem t_X9_copyAll_4 {p : Program} {l : Launch} {e : Env} {s : State} {m : MethodId} {args : Array Value} {below : List Frame} {meth : Method} {c : Code} {g : fy_G} (C : fy_C g X_Y p s m args meth c yX9_copyAll.cls cX9_copyAll 4 (some .int)) {Sr : fy_S} {rr : Int32} : ∀ (fu : Nat) (S : fy_S) (v0 : Nat) (v1 : Nat) (v2 : Int32) (v3 : Int32) (H : Heap) (locs : List Loc) (ls : Array Slot), X9_copyAll_4 fu S v0 v1 v2 v3 = some (Sr, rr) → fy_W g X_Y S s H locs → v0 ∈ X_Y.2 ∧ X_Y.1 v0 = .inl (6, (X_al v0), X_ar v0) → v1 ∈ X_Y.2 ∧ X_Y.1 v1 = .inl (6, (X_al v1), X_ar v1) → lv_has ls 4 [(0, .ref (g.2.2.1 v0)), (1, .ref (g.2.2.1 v1)), (2, .int v2), (3, .int v3)] → W p l e (fy_rm 5) s m args below meth c H locs 0 0 (MQ below (fy_QI g X_Y rr Sr) args s 0 0 (fy_A g X_Y)) (F0 m 4 ls []) := by
  obtain ⟨hx, hb, hr, hts, hown, hlk, hml, hK, hD, hE, hN⟩ := id C
  intro fu
  induction fu with
  | zero => intro S v0 v1 v2 v3 H locs ls h; cases h
  | succ fu ih =>
    intro S v0 v1 v2 v3 H locs ls h w q0 q1 hl
    rw [X9_copyAll_4] at h
    refine lv_iload_n hx hb dX9_copyAll_4 rfl (lv_at hl 3 rfl) ?_
    refine lv_iconst (v := (3 : Int32)) hx hb dX9_copyAll_5 (by decide) ?_
    refine lv_icmp_ge (tgt := 33) hx hb dX9_copyAll_6 (by decide) (fun hc => ?_) (fun hc => ?_)
    · have h := fy_if_t h hc
      refine lv_iload_n hx hb dX9_copyAll_33 rfl (lv_at hl 2 rfl) ?_
      cases h
      exact fy_retI C w dX9_copyAll_34
    · have h := fy_if_f h hc
      refine lv_aload_n hx hb dX9_copyAll_9 rfl (lv_at hl 1 rfl) ?_
      refine lv_iload_n hx hb dX9_copyAll_10 rfl (lv_at hl 3 rfl) ?_
      obtain ⟨g11, h⟩ := fy_gd_some h
      refine fy_aald6 C w q1 g11 dX9_copyAll_11 ?_
      refine lv_aload_n hx hb dX9_copyAll_12 rfl (lv_at hl 0 rfl) ?_
      refine lv_iload_n hx hb dX9_copyAll_13 rfl (lv_at hl 3 rfl) ?_
      obtain ⟨g14, h⟩ := fy_gd_some h
      refine fy_aald6 C w q0 g14 dX9_copyAll_14 ?_
      obtain ⟨S15, h15, h⟩ := fy_bd_some h
      refine fy_calV w (fy_runV (As := [.ref (g.2.2.1 (X_ar v0 v3.toNatClampNeg))]) (rest := []) C w (c_X0_copy l g X_full (X_e6 X_full q1 g11) (X_e6 X_full q0 g14) h15) (X_o0 X_full (X_e6 X_full q1 g11)) ksX9_268 rfl ⟨Nat.le_of_ble_eq_true rfl, Nat.le_of_ble_eq_true rfl⟩ rfl hl.1 rfl (Nat.le_of_ble_eq_true rfl) ⟨Nat.le_refl _, Nat.le_refl _⟩ dX9_copyAll_15) (fun H locs w => ?_)
      refine lv_iload_n hx hb dX9_copyAll_18 rfl (lv_at hl 2 rfl) ?_
      refine lv_aload_n hx hb dX9_copyAll_19 rfl (lv_at hl 1 rfl) ?_
      refine lv_iload_n hx hb dX9_copyAll_20 rfl (lv_at hl 3 rfl) ?_
      obtain ⟨g21, h⟩ := fy_gd_some h
      refine fy_aald6 C w q1 g21 dX9_copyAll_21 ?_
      refine gfX9_96 X_full C w (X_e6 X_full q1 g21) dX9_copyAll_22 ?_
      refine lv_iadd hx hb dX9_copyAll_25 ?_
      refine lv_topi (fun x26 e26 => ?_)
      have h := fy_bl_some e26 h
      refine lv_istore_n (lv' := [(2, .int x26), (0, .ref (g.2.2.1 v0)), (1, .ref (g.2.2.1 v1)), (3, .int v3)]) hx hb dX9_copyAll_26 rfl hl (by decide) rfl (fun ls hl => ?_)
      obtain ⟨x27, e27⟩ : ∃ z : Int32, z = v3 + (1 : Int32) := ⟨_, rfl⟩
      have h := fy_bl_some e27 h
      refine lv_iinc (k := 3) (v := x27) (lv' := [(3, .int x27), (2, .int x26), (0, .ref (g.2.2.1 v0)), (1, .ref (g.2.2.1 v1))]) hx hb dX9_copyAll_27 hl rfl (by rw [e27]; rfl) (by decide) rfl (fun ls hl => ?_)
      refine lv_goto (tgt := 4) hx hb dX9_copyAll_30 (by decide) ?_
      exact ih _ _ _ _ _ _ _ _ h w q0 q1 (lv_sub hl [2, 3, 1, 0] rfl)

set_option maxHeartbeats 4000000 in
set_option maxRecDepth 100000 in
theorem t_X9_copyAll {p : Program} {l : Launch} {e : Env} {s : State} {m : MethodId} {args : Array Value} {below : List Frame} {meth : Method} {c : Code} {g : fy_G} (C : fy_C g X_Y p s m args meth c yX9_copyAll.cls cX9_copyAll 4 (some .int)) {S : fy_S} {v0 : Nat} {v1 : Nat} {Sr : fy_S} {rr : Int32} (q0 : v0 ∈ X_Y.2 ∧ X_Y.1 v0 = .inl (6, X_al v0, X_ar v0)) (q1 : v1 ∈ X_Y.2 ∧ X_Y.1 v1 = .inl (6, X_al v1, X_ar v1)) {H : Heap} {locs : List Loc} {ls : Array Slot} (h : X9_copyAll S v0 v1 = some (Sr, rr)) (w : fy_W g X_Y S s H locs) (hl : lv_has ls 4 [(0, .ref (g.2.2.1 v0)), (1, .ref (g.2.2.1 v1))]) : W p l e (fy_rm 5) s m args below meth c H locs 0 0 (MQ below (fy_QI g X_Y rr Sr) args s 0 0 (fy_A g X_Y)) (F0 m 0 ls []) := by
  obtain ⟨hx, hb, hr, hts, hown, hlk, hml, hK, hD, hE, hN⟩ := id C
  rw [X9_copyAll] at h
  refine lv_iconst (v := (0 : Int32)) hx hb dX9_copyAll_0 (by decide) ?_
  refine lv_istore_n (lv' := [(2, .int (0 : Int32)), (0, .ref (g.2.2.1 v0)), (1, .ref (g.2.2.1 v1))]) hx hb dX9_copyAll_1 rfl hl (by decide) rfl (fun ls hl => ?_)
  refine lv_iconst (v := (0 : Int32)) hx hb dX9_copyAll_2 (by decide) ?_
  refine lv_istore_n (lv' := [(3, .int (0 : Int32)), (2, .int (0 : Int32)), (0, .ref (g.2.2.1 v0)), (1, .ref (g.2.2.1 v1))]) hx hb dX9_copyAll_3 rfl hl (by decide) rfl (fun ls hl => ?_)
  exact t_X9_copyAll_4 C fy_fu _ _ _ _ _ _ _ _ h w q0 q1 (lv_sub hl [2, 3, 1, 0] rfl)

set_option maxHeartbeats 4000000 in
set_option maxRecDepth 100000 in
theorem c_X9_copyAll (l : Launch) (g : fy_G) {S : fy_S} {v0 : Nat} {v1 : Nat} {Sr : fy_S} {rr : Int32} (q0 : v0 ∈ X_Y.2 ∧ X_Y.1 v0 = .inl (6, X_al v0, X_ar v0)) (q1 : v1 ∈ X_Y.2 ∧ X_Y.1 v1 = .inl (6, X_al v1, X_ar v1)) (h : X9_copyAll S v0 v1 = some (Sr, rr)) : fy_M g X_Y l yX9_copyAll cX9_copyAll 4 (some .int) (fy_rm 5) [.ref (g.2.2.1 v0), .ref (g.2.2.1 v1)] S (fy_QI g X_Y rr Sr) :=
  fy_entry (by decide +kernel) (Nat.le_of_ble_eq_true rfl) (fun p e s m args below meth c ls C w hl => t_X9_copyAll C q0 q1 h w hl)
def X9_save (S : fy_S)  : Option (fy_S × Int32) :=
  fy_bl (fy_sI S 0 12 (1 : Int32)) fun S2 =>
  fy_bp (X9_copyAll S2 1 2) fun S13 r13 =>
  some (S13, r13)
set_option maxHeartbeats 4000000 in
set_option maxRecDepth 100000 in
theorem t_X9_save {p : Program} {l : Launch} {e : Env} {s : State} {m : MethodId} {args : Array Value} {below : List Frame} {meth : Method} {c : Code} {g : fy_G} (C : fy_C g X_Y p s m args meth c yX9_save.cls cX9_save 1 (some .int)) {S : fy_S}  {Sr : fy_S} {rr : Int32}  {H : Heap} {locs : List Loc} {ls : Array Slot} (h : X9_save S  = some (Sr, rr)) (w : fy_W g X_Y S s H locs) (hl : lv_has ls 1 [(0, .ref (g.2.2.1 0))]) : W p l e (fy_rm 6) s m args below meth c H locs 0 0 (MQ below (fy_QI g X_Y rr Sr) args s 0 0 (fy_A g X_Y)) (F0 m 0 ls []) := by
  obtain ⟨hx, hb, hr, hts, hown, hlk, hml, hK, hD, hE, hN⟩ := id C
  rw [X9_save] at h
  refine lv_aload_n hx hb dX9_save_0 rfl (lv_at hl 0 rfl) ?_
  refine lv_iconst (v := (1 : Int32)) hx hb dX9_save_1 (by decide) ?_
  refine pfX9_80 X_full C w (X_i0) dX9_save_2 (by decide +kernel) (by decide +kernel) (fun H locs w => ?_)
  obtain ⟨S2, e2⟩ : ∃ z, z = fy_sI S 0 12 (1 : Int32) := ⟨_, rfl⟩
  have h := fy_bl_some e2 h
  rw [← e2] at w
  refine lv_aload_n hx hb dX9_save_5 rfl (lv_at hl 0 rfl) ?_
  refine gfX9_11 X_full C w (X_i0) dX9_save_6 ?_
  refine lv_aload_n hx hb dX9_save_9 rfl (lv_at hl 0 rfl) ?_
  refine gfX9_15 X_full C w (X_i0) dX9_save_10 ?_
  obtain ⟨S13, r13, h13, h⟩ := fy_bp_some h
  refine fy_calI w (fy_runS (As := [.ref (g.2.2.1 1), .ref (g.2.2.1 2)]) (rest := []) C w (c_X9_copyAll l g (X_an X_full X_a1) (X_an X_full X_a2) h13) ksX9_271 ⟨Nat.le_of_ble_eq_true rfl, Nat.le_of_ble_eq_true rfl⟩ rfl hl.1 rfl (Nat.le_of_ble_eq_true rfl) ⟨Nat.le_refl _, Nat.le_refl _⟩ dX9_save_13) (fun H locs w => ?_)
  cases h
  exact fy_retI C w dX9_save_16

set_option maxHeartbeats 4000000 in
set_option maxRecDepth 100000 in
theorem c_X9_save (l : Launch) (g : fy_G) {S : fy_S}  {Sr : fy_S} {rr : Int32}  (h : X9_save S  = some (Sr, rr)) : fy_M g X_Y l yX9_save cX9_save 1 (some .int) (fy_rm 6) [.ref (g.2.2.1 0)] S (fy_QI g X_Y rr Sr) :=
  fy_entry (by decide +kernel) (Nat.le_of_ble_eq_true rfl) (fun p e s m args below meth c ls C w hl => t_X9_save C  h w hl)
def X9_restore (S : fy_S)  : Option (fy_S × Int32) :=
  if (S.1 0 12) = 0 then (
    some (S, (-5 : Int32)))
  else (
    fy_bp (X9_copyAll S 2 1) fun S15 r15 =>
    some (S15, r15))
set_option maxHeartbeats 4000000 in
set_option maxRecDepth 100000 in
theorem t_X9_restore {p : Program} {l : Launch} {e : Env} {s : State} {m : MethodId} {args : Array Value} {below : List Frame} {meth : Method} {c : Code} {g : fy_G} (C : fy_C g X_Y p s m args meth c yX9_restore.cls cX9_restore 1 (some .int)) {S : fy_S}  {Sr : fy_S} {rr : Int32}  {H : Heap} {locs : List Loc} {ls : Array Slot} (h : X9_restore S  = some (Sr, rr)) (w : fy_W g X_Y S s H locs) (hl : lv_has ls 1 [(0, .ref (g.2.2.1 0))]) : W p l e (fy_rm 6) s m args below meth c H locs 0 0 (MQ below (fy_QI g X_Y rr Sr) args s 0 0 (fy_A g X_Y)) (F0 m 0 ls []) := by
  obtain ⟨hx, hb, hr, hts, hown, hlk, hml, hK, hD, hE, hN⟩ := id C
  rw [X9_restore] at h
  refine lv_aload_n hx hb dX9_restore_0 rfl (lv_at hl 0 rfl) ?_
  refine gfX9_80 X_full C w (X_i0) dX9_restore_1 ?_
  refine lv_if_eq (tgt := 21) hx hb dX9_restore_4 (by decide) (fun hc => ?_) (fun hc => ?_)
  · have h := fy_if_t h hc
    refine lv_bipush (v := (-5 : Int32)) hx hb dX9_restore_21 (by decide) ?_
    cases h
    exact fy_retI C w dX9_restore_23
  · have h := fy_if_f h hc
    refine lv_aload_n hx hb dX9_restore_7 rfl (lv_at hl 0 rfl) ?_
    refine gfX9_15 X_full C w (X_i0) dX9_restore_8 ?_
    refine lv_aload_n hx hb dX9_restore_11 rfl (lv_at hl 0 rfl) ?_
    refine gfX9_11 X_full C w (X_i0) dX9_restore_12 ?_
    obtain ⟨S15, r15, h15, h⟩ := fy_bp_some h
    refine fy_calI w (fy_runS (As := [.ref (g.2.2.1 2), .ref (g.2.2.1 1)]) (rest := []) C w (c_X9_copyAll l g (X_an X_full X_a2) (X_an X_full X_a1) h15) ksX9_271 ⟨Nat.le_of_ble_eq_true rfl, Nat.le_of_ble_eq_true rfl⟩ rfl hl.1 rfl (Nat.le_of_ble_eq_true rfl) ⟨Nat.le_refl _, Nat.le_refl _⟩ dX9_restore_15) (fun H locs w => ?_)
    refine lv_goto (tgt := 23) hx hb dX9_restore_18 (by decide) ?_
    cases h
    exact fy_retI C w dX9_restore_23

set_option maxHeartbeats 4000000 in
set_option maxRecDepth 100000 in
theorem c_X9_restore (l : Launch) (g : fy_G) {S : fy_S}  {Sr : fy_S} {rr : Int32}  (h : X9_restore S  = some (Sr, rr)) : fy_M g X_Y l yX9_restore cX9_restore 1 (some .int) (fy_rm 6) [.ref (g.2.2.1 0)] S (fy_QI g X_Y rr Sr) :=
  fy_entry (by decide +kernel) (Nat.le_of_ble_eq_true rfl) (fun p e s m args below meth c ls C w hl => t_X9_restore C  h w hl)
end
