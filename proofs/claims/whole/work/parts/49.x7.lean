noncomputable section
def X1_lowerPrices_15 (k5 : fy_S → Nat → Nat → Int32 → Int32 → Option (fy_S × Int32)) : Nat → fy_S → Nat → Nat → Int32 → Int32 → Int32 → Option (fy_S × Int32)
  | 0, _, _, _, _, _, _ => none
  | fu + 1, S, v1, v2, v3, v4, v5 =>
    if (S.1 v1 5) ≤ v5 then (
      fy_bl (v4 + (1 : Int32)) fun x91 =>
      k5 S v1 v2 v3 x91)
    else (
      fy_gd (fy_ix v4 64) <|
      if (1000000000 : Int32) ≤ (S.1 33 v4.toNatClampNeg) then (
        fy_bl (v4 + (1 : Int32)) fun x91 =>
        k5 S v1 v2 v3 x91)
      else (
        fy_gd (fy_ix v4 64) <|
        fy_bd (X1_priceOf S v2 v5) fun r46 =>
        fy_bl ((S.1 33 v4.toNatClampNeg) + r46) fun x50 =>
        fy_bd (X7_step S v1 v4 v5) fun r57 =>
        fy_gd (fy_ix r57 64) <|
        if (S.1 33 r57.toNatClampNeg) ≤ x50 then (
          fy_bl (v5 + (1 : Int32)) fun x85 =>
          X1_lowerPrices_15 k5 fu S v1 v2 v3 v4 x85)
        else (
          fy_gd (fy_ix r57 64) <|
          fy_bl (fy_sI S 33 r57.toNatClampNeg x50) fun S82 =>
          fy_bl (v5 + (1 : Int32)) fun x85 =>
          X1_lowerPrices_15 k5 fu S82 v1 v2 (1 : Int32) v4 x85)))
def X1_lowerPrices_5 : Nat → fy_S → Nat → Nat → Int32 → Int32 → Option (fy_S × Int32)
  | 0, _, _, _, _, _ => none
  | fu + 1, S, v1, v2, v3, v4 =>
    if (64 : Int32) ≤ v4 then (
      fy_gd (fy_nr .boolean v3) <| some (S, v3))
    else (
      X1_lowerPrices_15 (fun S v1 v2 v3 v4 => X1_lowerPrices_5 fu S v1 v2 v3 v4) fy_fu S v1 v2 v3 v4 (0 : Int32))
def X1_lowerPrices (S : fy_S) (v1 : Nat) (v2 : Nat) : Option (fy_S × Int32) :=
  X1_lowerPrices_5 fy_fu S v1 v2 (0 : Int32) (0 : Int32)
set_option maxHeartbeats 4000000 in
set_option maxRecDepth 100000 in
theorem t_X1_lowerPrices_15 {p : Program} {l : Launch} {e : Env} {s : State} {m : MethodId} {args : Array Value} {below : List Frame} {meth : Method} {c : Code} {g : fy_G} (C : fy_C g X_Y p s m args meth c yX1_lowerPrices.cls cX1_lowerPrices 8 (some .boolean)) {Sr : fy_S} {rr : Int32} {k5 : fy_S → Nat → Nat → Int32 → Int32 → Option (fy_S × Int32)} (hk5 : ∀ (S : fy_S) (v1 : Nat) (v2 : Nat) (v3 : Int32) (v4 : Int32) (H : Heap) (locs : List Loc) (ls : Array Slot), k5 S v1 v2 v3 v4 = some (Sr, rr) → fy_W g X_Y S s H locs → X_is X_Y 7 v1 → v2 ∈ X_Y.2 ∧ X_Y.1 v2 = .inl (0, (X_al v2), X_ar v2) → lv_has ls 8 [(0, .ref (g.2.2.1 32)), (1, .ref (g.2.2.1 v1)), (2, .ref (g.2.2.1 v2)), (3, .int v3), (4, .int v4)] → W p l e (fy_rm 1) s m args below meth c H locs 0 0 (MQ below (fy_QI g X_Y rr Sr) args s 0 0 (fy_A g X_Y)) (F0 m 5 ls [])) : ∀ (fu : Nat) (S : fy_S) (v1 : Nat) (v2 : Nat) (v3 : Int32) (v4 : Int32) (v5 : Int32) (H : Heap) (locs : List Loc) (ls : Array Slot), X1_lowerPrices_15 k5 fu S v1 v2 v3 v4 v5 = some (Sr, rr) → fy_W g X_Y S s H locs → X_is X_Y 7 v1 → v2 ∈ X_Y.2 ∧ X_Y.1 v2 = .inl (0, (X_al v2), X_ar v2) → lv_has ls 8 [(0, .ref (g.2.2.1 32)), (1, .ref (g.2.2.1 v1)), (2, .ref (g.2.2.1 v2)), (3, .int v3), (4, .int v4), (5, .int v5)] → W p l e (fy_rm 1) s m args below meth c H locs 0 0 (MQ below (fy_QI g X_Y rr Sr) args s 0 0 (fy_A g X_Y)) (F0 m 15 ls []) := by
  obtain ⟨hx, hb, hr, hts, hown, hlk, hml, hK, hD, hE, hN⟩ := id C
  intro fu
  induction fu with
  | zero => intro S v1 v2 v3 v4 v5 H locs ls h; cases h
  | succ fu ih =>
    intro S v1 v2 v3 v4 v5 H locs ls h w q1 q2 hl
    rw [X1_lowerPrices_15] at h
    refine lv_iload hx hb dX1_lowerPrices_15 (lv_at hl 5 rfl) ?_
    refine lv_aload_n hx hb dX1_lowerPrices_17 rfl (lv_at hl 1 rfl) ?_
    refine gfX1_45 X_full C w q1 dX1_lowerPrices_18 ?_
    refine lv_icmp_ge (tgt := 91) hx hb dX1_lowerPrices_21 (by decide) (fun hc => ?_) (fun hc => ?_)
    · have h := fy_if_t h hc
      obtain ⟨x91, e91⟩ : ∃ z : Int32, z = v4 + (1 : Int32) := ⟨_, rfl⟩
      have h := fy_bl_some e91 h
      refine lv_iinc (k := 4) (v := x91) (lv' := [(4, .int x91), (0, .ref (g.2.2.1 32)), (1, .ref (g.2.2.1 v1)), (2, .ref (g.2.2.1 v2)), (3, .int v3), (5, .int v5)]) hx hb dX1_lowerPrices_91 hl rfl (by rw [e91]; rfl) (by decide) rfl (fun ls hl => ?_)
      refine lv_goto (tgt := 5) hx hb dX1_lowerPrices_94 (by decide) ?_
      exact hk5 _ _ _ _ _ _ _ _ h w q1 q2 (lv_sub hl [1, 2, 3, 4, 0] rfl)
    · have h := fy_if_f h hc
      refine lv_aload_n hx hb dX1_lowerPrices_24 rfl (lv_at hl 0 rfl) ?_
      refine gfX1_9 X_full C w (X_i32) dX1_lowerPrices_25 ?_
      refine lv_iload hx hb dX1_lowerPrices_28 (lv_at hl 4 rfl) ?_
      obtain ⟨g30, h⟩ := fy_gd_some h
      refine fy_iald C w X_a33 g30 dX1_lowerPrices_30 ?_
      refine lv_ldc (v := (1000000000 : Int32)) hx hb hown (hts _ tw619) dX1_lowerPrices_31 ?_
      refine lv_icmp_ge (tgt := 91) hx hb dX1_lowerPrices_33 (by decide) (fun hc => ?_) (fun hc => ?_)
      · have h := fy_if_t h hc
        obtain ⟨x91, e91⟩ : ∃ z : Int32, z = v4 + (1 : Int32) := ⟨_, rfl⟩
        have h := fy_bl_some e91 h
        refine lv_iinc (k := 4) (v := x91) (lv' := [(4, .int x91), (0, .ref (g.2.2.1 32)), (1, .ref (g.2.2.1 v1)), (2, .ref (g.2.2.1 v2)), (3, .int v3), (5, .int v5)]) hx hb dX1_lowerPrices_91 hl rfl (by rw [e91]; rfl) (by decide) rfl (fun ls hl => ?_)
        refine lv_goto (tgt := 5) hx hb dX1_lowerPrices_94 (by decide) ?_
        exact hk5 _ _ _ _ _ _ _ _ h w q1 q2 (lv_sub hl [1, 2, 3, 4, 0] rfl)
      · have h := fy_if_f h hc
        refine lv_aload_n hx hb dX1_lowerPrices_36 rfl (lv_at hl 0 rfl) ?_
        refine gfX1_9 X_full C w (X_i32) dX1_lowerPrices_37 ?_
        refine lv_iload hx hb dX1_lowerPrices_40 (lv_at hl 4 rfl) ?_
        obtain ⟨g42, h⟩ := fy_gd_some h
        refine fy_iald C w X_a33 g42 dX1_lowerPrices_42 ?_
        refine lv_aload_n hx hb dX1_lowerPrices_43 rfl (lv_at hl 2 rfl) ?_
        refine lv_iload hx hb dX1_lowerPrices_44 (lv_at hl 5 rfl) ?_
        obtain ⟨r46, h46, h⟩ := fy_bd_some h
        refine fy_calI w (fy_runS (As := [.ref (g.2.2.1 v2), .int v5]) (rest := [.int (S.1 33 v4.toNatClampNeg)]) C w (c_X1_priceOf l g (X_an X_full q2) h46) ksX1_48 ⟨Nat.le_of_ble_eq_true rfl, Nat.le_of_ble_eq_true rfl⟩ rfl hl.1 rfl (Nat.le_of_ble_eq_true rfl) ⟨Nat.le_refl _, Nat.le_refl _⟩ dX1_lowerPrices_46) (fun H locs w => ?_)
        refine lv_iadd hx hb dX1_lowerPrices_49 ?_
        refine lv_topi (fun x50 e50 => ?_)
        have h := fy_bl_some e50 h
        refine lv_istore (lv' := [(6, .int x50), (0, .ref (g.2.2.1 32)), (1, .ref (g.2.2.1 v1)), (2, .ref (g.2.2.1 v2)), (3, .int v3), (4, .int v4), (5, .int v5)]) hx hb dX1_lowerPrices_50 hl (by decide) rfl (fun ls hl => ?_)
        refine lv_aload_n hx hb dX1_lowerPrices_52 rfl (lv_at hl 2 rfl) ?_
        refine lv_iload hx hb dX1_lowerPrices_53 (lv_at hl 5 rfl) ?_
        refine lv_iload hx hb dX1_lowerPrices_55 (lv_at hl 6 rfl) ?_
        obtain ⟨r57, h57, h⟩ := fy_bd_some h
        refine fy_calI w (fy_runV (As := [.int v4, .int v5]) (rest := []) C w (c_X7_step l g q1 h57) (X_o7 X_full q1) ksX1_52 rfl ⟨Nat.le_of_ble_eq_true rfl, Nat.le_of_ble_eq_true rfl⟩ rfl hl.1 rfl (Nat.le_of_ble_eq_true rfl) ⟨Nat.le_refl _, Nat.le_refl _⟩ dX1_lowerPrices_57) (fun H locs w => ?_)
        refine lv_istore (lv' := [(7, .int r57), (6, .int x50), (0, .ref (g.2.2.1 32)), (1, .ref (g.2.2.1 v1)), (2, .ref (g.2.2.1 v2)), (3, .int v3), (4, .int v4), (5, .int v5)]) hx hb dX1_lowerPrices_60 hl (by decide) rfl (fun ls hl => ?_)
        refine lv_iload hx hb dX1_lowerPrices_62 (lv_at hl 1 rfl) ?_
        refine lv_aload_n hx hb dX1_lowerPrices_64 rfl (lv_at hl 2 rfl) ?_
        refine gfX1_9 X_full C w (X_i32) dX1_lowerPrices_65 ?_
        refine lv_iload hx hb dX1_lowerPrices_68 (lv_at hl 0 rfl) ?_
        obtain ⟨g70, h⟩ := fy_gd_some h
        refine fy_iald C w X_a33 g70 dX1_lowerPrices_70 ?_
        refine lv_icmp_ge (tgt := 85) hx hb dX1_lowerPrices_71 (by decide) (fun hc => ?_) (fun hc => ?_)
        · have h := fy_if_t h hc
          obtain ⟨x85, e85⟩ : ∃ z : Int32, z = v5 + (1 : Int32) := ⟨_, rfl⟩
          have h := fy_bl_some e85 h
          refine lv_iinc (k := 7) (v := x85) (lv' := [(5, .int x85), (7, .int r57), (6, .int x50), (0, .ref (g.2.2.1 32)), (1, .ref (g.2.2.1 v1)), (2, .ref (g.2.2.1 v2)), (3, .int v3), (4, .int v4)]) hx hb dX1_lowerPrices_85 hl rfl (by rw [e85]; rfl) (by decide) rfl (fun ls hl => ?_)
          refine lv_goto (tgt := 15) hx hb dX1_lowerPrices_88 (by decide) ?_
          exact ih _ _ _ _ _ _ _ _ _ h w q1 q2 (lv_sub hl [3, 4, 5, 6, 7, 0] rfl)
        · have h := fy_if_f h hc
          refine lv_aload_n hx hb dX1_lowerPrices_74 rfl (lv_at hl 2 rfl) ?_
          refine gfX1_9 X_full C w (X_i32) dX1_lowerPrices_75 ?_
          refine lv_iload hx hb dX1_lowerPrices_78 (lv_at hl 0 rfl) ?_
          refine lv_iload hx hb dX1_lowerPrices_80 (lv_at hl 1 rfl) ?_
          obtain ⟨g82, h⟩ := fy_gd_some h
          refine fy_iast C w X_a33 g82 dX1_lowerPrices_82 (fun H locs w => ?_)
          obtain ⟨S82, e82⟩ : ∃ z, z = fy_sI S 33 r57.toNatClampNeg x50 := ⟨_, rfl⟩
          have h := fy_bl_some e82 h
          rw [← e82] at w
          refine lv_iconst (v := (1 : Int32)) hx hb dX1_lowerPrices_83 (by decide) ?_
          refine lv_istore_n (lv' := [(3, .int (1 : Int32)), (7, .int r57), (6, .int x50), (0, .ref (g.2.2.1 32)), (1, .ref (g.2.2.1 v1)), (2, .ref (g.2.2.1 v2)), (4, .int v4), (5, .int v5)]) hx hb dX1_lowerPrices_84 rfl hl (by decide) rfl (fun ls hl => ?_)
          obtain ⟨x85, e85⟩ : ∃ z : Int32, z = v5 + (1 : Int32) := ⟨_, rfl⟩
          have h := fy_bl_some e85 h
          refine lv_iinc (k := 7) (v := x85) (lv' := [(5, .int x85), (3, .int (1 : Int32)), (7, .int r57), (6, .int x50), (0, .ref (g.2.2.1 32)), (1, .ref (g.2.2.1 v1)), (2, .ref (g.2.2.1 v2)), (4, .int v4)]) hx hb dX1_lowerPrices_85 hl rfl (by rw [e85]; rfl) (by decide) rfl (fun ls hl => ?_)
          refine lv_goto (tgt := 15) hx hb dX1_lowerPrices_88 (by decide) ?_
          exact ih _ _ _ _ _ _ _ _ _ h w q1 q2 (lv_sub hl [4, 5, 6, 1, 7, 0] rfl)

set_option maxHeartbeats 4000000 in
set_option maxRecDepth 100000 in
theorem t_X1_lowerPrices_5 {p : Program} {l : Launch} {e : Env} {s : State} {m : MethodId} {args : Array Value} {below : List Frame} {meth : Method} {c : Code} {g : fy_G} (C : fy_C g X_Y p s m args meth c yX1_lowerPrices.cls cX1_lowerPrices 8 (some .boolean)) {Sr : fy_S} {rr : Int32} : ∀ (fu : Nat) (S : fy_S) (v1 : Nat) (v2 : Nat) (v3 : Int32) (v4 : Int32) (H : Heap) (locs : List Loc) (ls : Array Slot), X1_lowerPrices_5 fu S v1 v2 v3 v4 = some (Sr, rr) → fy_W g X_Y S s H locs → X_is X_Y 7 v1 → v2 ∈ X_Y.2 ∧ X_Y.1 v2 = .inl (0, (X_al v2), X_ar v2) → lv_has ls 8 [(0, .ref (g.2.2.1 32)), (1, .ref (g.2.2.1 v1)), (2, .ref (g.2.2.1 v2)), (3, .int v3), (4, .int v4)] → W p l e (fy_rm 1) s m args below meth c H locs 0 0 (MQ below (fy_QI g X_Y rr Sr) args s 0 0 (fy_A g X_Y)) (F0 m 5 ls []) := by
  obtain ⟨hx, hb, hr, hts, hown, hlk, hml, hK, hD, hE, hN⟩ := id C
  intro fu
  induction fu with
  | zero => intro S v1 v2 v3 v4 H locs ls h; cases h
  | succ fu ih =>
    intro S v1 v2 v3 v4 H locs ls h w q1 q2 hl
    rw [X1_lowerPrices_5] at h
    refine lv_iload hx hb dX1_lowerPrices_5 (lv_at hl 4 rfl) ?_
    refine lv_bipush (v := (64 : Int32)) hx hb dX1_lowerPrices_7 (by decide) ?_
    refine lv_icmp_ge (tgt := 97) hx hb dX1_lowerPrices_9 (by decide) (fun hc => ?_) (fun hc => ?_)
    · have h := fy_if_t h hc
      refine lv_iload_n hx hb dX1_lowerPrices_97 rfl (lv_at hl 3 rfl) ?_
      obtain ⟨gg, h⟩ := fy_gd_some h
      cases h
      exact fy_retZ C w (fy_nr_ok gg) dX1_lowerPrices_98
    · have h := fy_if_f h hc
      refine lv_iconst (v := (0 : Int32)) hx hb dX1_lowerPrices_12 (by decide) ?_
      refine lv_istore (lv' := [(5, .int (0 : Int32)), (0, .ref (g.2.2.1 32)), (1, .ref (g.2.2.1 v1)), (2, .ref (g.2.2.1 v2)), (3, .int v3), (4, .int v4)]) hx hb dX1_lowerPrices_13 hl (by decide) rfl (fun ls hl => ?_)
      exact t_X1_lowerPrices_15 C ih fy_fu _ _ _ _ _ _ _ _ _ h w q1 q2 (lv_sub hl [1, 2, 3, 4, 5, 0] rfl)

set_option maxHeartbeats 4000000 in
set_option maxRecDepth 100000 in
theorem t_X1_lowerPrices {p : Program} {l : Launch} {e : Env} {s : State} {m : MethodId} {args : Array Value} {below : List Frame} {meth : Method} {c : Code} {g : fy_G} (C : fy_C g X_Y p s m args meth c yX1_lowerPrices.cls cX1_lowerPrices 8 (some .boolean)) {S : fy_S} {v1 : Nat} {v2 : Nat} {Sr : fy_S} {rr : Int32} (q1 : X_is X_Y 7 v1) (q2 : v2 ∈ X_Y.2 ∧ X_Y.1 v2 = .inl (0, X_al v2, X_ar v2)) {H : Heap} {locs : List Loc} {ls : Array Slot} (h : X1_lowerPrices S v1 v2 = some (Sr, rr)) (w : fy_W g X_Y S s H locs) (hl : lv_has ls 8 [(0, .ref (g.2.2.1 32)), (1, .ref (g.2.2.1 v1)), (2, .ref (g.2.2.1 v2))]) : W p l e (fy_rm 1) s m args below meth c H locs 0 0 (MQ below (fy_QI g X_Y rr Sr) args s 0 0 (fy_A g X_Y)) (F0 m 0 ls []) := by
  obtain ⟨hx, hb, hr, hts, hown, hlk, hml, hK, hD, hE, hN⟩ := id C
  rw [X1_lowerPrices] at h
  refine lv_iconst (v := (0 : Int32)) hx hb dX1_lowerPrices_0 (by decide) ?_
  refine lv_istore_n (lv' := [(3, .int (0 : Int32)), (0, .ref (g.2.2.1 32)), (1, .ref (g.2.2.1 v1)), (2, .ref (g.2.2.1 v2))]) hx hb dX1_lowerPrices_1 rfl hl (by decide) rfl (fun ls hl => ?_)
  refine lv_iconst (v := (0 : Int32)) hx hb dX1_lowerPrices_2 (by decide) ?_
  refine lv_istore (lv' := [(4, .int (0 : Int32)), (3, .int (0 : Int32)), (0, .ref (g.2.2.1 32)), (1, .ref (g.2.2.1 v1)), (2, .ref (g.2.2.1 v2))]) hx hb dX1_lowerPrices_3 hl (by decide) rfl (fun ls hl => ?_)
  exact t_X1_lowerPrices_5 C fy_fu _ _ _ _ _ _ _ _ h w q1 q2 (lv_sub hl [2, 3, 4, 1, 0] rfl)

set_option maxHeartbeats 4000000 in
set_option maxRecDepth 100000 in
theorem c_X1_lowerPrices (l : Launch) (g : fy_G) {S : fy_S} {v1 : Nat} {v2 : Nat} {Sr : fy_S} {rr : Int32} (q1 : X_is X_Y 7 v1) (q2 : v2 ∈ X_Y.2 ∧ X_Y.1 v2 = .inl (0, X_al v2, X_ar v2)) (h : X1_lowerPrices S v1 v2 = some (Sr, rr)) : fy_M g X_Y l yX1_lowerPrices cX1_lowerPrices 8 (some .boolean) (fy_rm 1) [.ref (g.2.2.1 32), .ref (g.2.2.1 v1), .ref (g.2.2.1 v2)] S (fy_QI g X_Y rr Sr) :=
  fy_entry (by decide +kernel) (Nat.le_of_ble_eq_true rfl) (fun p e s m args below meth c ls C w hl => t_X1_lowerPrices C q1 q2 h w hl)
def X7_isAccepting (S : fy_S) (v0 : Nat) (v1 : Int32) : Option (Int32) :=
  fy_bd (X9_isIn S (S.2 v0 7) v1) fun r5 =>
  fy_gd (fy_nr .boolean r5) <| some r5
set_option maxHeartbeats 4000000 in
set_option maxRecDepth 100000 in
theorem t_X7_isAccepting {p : Program} {l : Launch} {e : Env} {s : State} {m : MethodId} {args : Array Value} {below : List Frame} {meth : Method} {c : Code} {g : fy_G} (C : fy_C g X_Y p s m args meth c yX7_isAccepting.cls cX7_isAccepting 2 (some .boolean)) {S : fy_S} {v0 : Nat} {v1 : Int32} {rr : Int32} (q0 : X_is X_Y 7 v0) {H : Heap} {locs : List Loc} {ls : Array Slot} (h : X7_isAccepting S v0 v1 = some rr) (w : fy_W g X_Y S s H locs) (hl : lv_has ls 2 [(0, .ref (g.2.2.1 v0)), (1, .int v1)]) : W p l e (fy_rm 1) s m args below meth c H locs 0 0 (MQ below (fy_QI g X_Y rr S) args s 0 0 (fy_A g X_Y)) (F0 m 0 ls []) := by
  obtain ⟨hx, hb, hr, hts, hown, hlk, hml, hK, hD, hE, hN⟩ := id C
  rw [X7_isAccepting] at h
  refine lv_aload_n hx hb dX7_isAccepting_0 rfl (lv_at hl 0 rfl) ?_
  refine gfX7_35 X_full C w q0 dX7_isAccepting_1 ?_
  refine lv_iload_n hx hb dX7_isAccepting_4 rfl (lv_at hl 1 rfl) ?_
  obtain ⟨r5, h5, h⟩ := fy_bd_some h
  refine fy_calI w (fy_runN (As := [.long (S.2 v0 7), .int v1]) (rest := []) C w (c_X9_isIn l g X_full  h5) ksX7_61 ⟨Nat.le_of_ble_eq_true rfl, Nat.le_of_ble_eq_true rfl⟩ rfl hl.1 rfl (Nat.le_of_ble_eq_true rfl) ⟨Nat.le_refl _, Nat.le_refl _⟩ dX7_isAccepting_5) (fun H locs w => ?_)
  obtain ⟨gg, h⟩ := fy_gd_some h
  cases h
  exact fy_retZ C w (fy_nr_ok gg) dX7_isAccepting_8

set_option maxHeartbeats 4000000 in
set_option maxRecDepth 100000 in
theorem c_X7_isAccepting (l : Launch) (g : fy_G) {S : fy_S} {v0 : Nat} {v1 : Int32} {rr : Int32} (q0 : X_is X_Y 7 v0) (h : X7_isAccepting S v0 v1 = some rr) : fy_M g X_Y l yX7_isAccepting cX7_isAccepting 2 (some .boolean) (fy_rm 1) [.ref (g.2.2.1 v0), .int v1] S (fy_QI g X_Y rr S) :=
  fy_entry (by decide +kernel) (Nat.le_of_ble_eq_true rfl) (fun p e s m args below meth c ls C w hl => t_X7_isAccepting C q0 h w hl)
def X1_search_57 : Nat → fy_S → Nat → Int32 → Option (fy_S × Int32)
  | 0, _, _, _ => none
  | fu + 1, S, v1, v4 =>
    if (64 : Int32) ≤ v4 then (
      if (1000000000 : Int32) ≤ (S.1 32 1) then (
        some (S, (0 : Int32)))
      else (
        some (S, (1 : Int32))))
    else (
      fy_bd (X7_isAccepting S v1 v4) fun r67 =>
      if r67 = 0 then (
        fy_bl (v4 + (1 : Int32)) fun x91 =>
        X1_search_57 fu S v1 x91)
      else (
        fy_gd (fy_ix v4 64) <|
        fy_bl (fy_sI S 32 1 (if (S.1 33 v4.toNatClampNeg) < (S.1 32 1) then (S.1 33 v4.toNatClampNeg) else (S.1 32 1))) fun S88 =>
        fy_bl (v4 + (1 : Int32)) fun x91 =>
        X1_search_57 fu S88 v1 x91))
def X1_search_48 (S : fy_S) (v1 : Nat) : Option (fy_S × Int32) :=
  fy_bl (fy_sI S 32 1 (1000000000 : Int32)) fun S51 =>
  X1_search_57 fy_fu S51 v1 (0 : Int32)
def X1_search_24 : Nat → fy_S → Nat → Nat → Int32 → Int32 → Option (fy_S × Int32)
  | 0, _, _, _, _, _ => none
  | fu + 1, S, v1, v2, v3, v4 =>
    if (64 : Int32) < v4 then (
      X1_search_48 S v1)
    else (
      if v3 = 0 then (
        X1_search_48 S v1)
      else (
        fy_bp (X1_lowerPrices S v1 v2) fun S38 r38 =>
        fy_bl (v4 + (1 : Int32)) fun x42 =>
        X1_search_24 fu S38 v1 v2 r38 x42))
def X1_search (S : fy_S) (v1 : Nat) (v2 : Nat) : Option (fy_S × Int32) :=
  fy_bd (J7_fill_53178 S 33 (1000000000 : Int32)) fun S6 =>
  fy_gd (fy_ix (S6.1 v1 6) 64) <|
  fy_bl (fy_sI S6 33 (S6.1 v1 6).toNatClampNeg (0 : Int32)) fun S18 =>
  X1_search_24 fy_fu S18 v1 v2 (1 : Int32) (0 : Int32)
set_option maxHeartbeats 4000000 in
set_option maxRecDepth 100000 in
theorem t_X1_search_57 {p : Program} {l : Launch} {e : Env} {s : State} {m : MethodId} {args : Array Value} {below : List Frame} {meth : Method} {c : Code} {g : fy_G} (C : fy_C g X_Y p s m args meth c yX1_search.cls cX1_search 5 (some .boolean)) {Sr : fy_S} {rr : Int32} : ∀ (fu : Nat) (S : fy_S) (v1 : Nat) (v4 : Int32) (H : Heap) (locs : List Loc) (ls : Array Slot), X1_search_57 fu S v1 v4 = some (Sr, rr) → fy_W g X_Y S s H locs → X_is X_Y 7 v1 → lv_has ls 5 [(0, .ref (g.2.2.1 32)), (1, .ref (g.2.2.1 v1)), (4, .int v4)] → W p l e (fy_rm 2) s m args below meth c H locs 0 0 (MQ below (fy_QI g X_Y rr Sr) args s 0 0 (fy_A g X_Y)) (F0 m 57 ls []) := by
  obtain ⟨hx, hb, hr, hts, hown, hlk, hml, hK, hD, hE, hN⟩ := id C
  intro fu
  induction fu with
  | zero => intro S v1 v4 H locs ls h; cases h
  | succ fu ih =>
    intro S v1 v4 H locs ls h w q1 hl
    rw [X1_search_57] at h
    refine lv_iload hx hb dX1_search_57 (lv_at hl 2 rfl) ?_
    refine lv_bipush (v := (64 : Int32)) hx hb dX1_search_59 (by decide) ?_
    refine lv_icmp_ge (tgt := 97) hx hb dX1_search_61 (by decide) (fun hc => ?_) (fun hc => ?_)
    · have h := fy_if_t h hc
      refine lv_aload_n hx hb dX1_search_97 rfl (lv_at hl 0 rfl) ?_
      refine gfX1_16 X_full C w (X_i32) dX1_search_98 ?_
      refine lv_ldc (v := (1000000000 : Int32)) hx hb hown (hts _ tw619) dX1_search_101 ?_
      refine lv_icmp_ge (tgt := 110) hx hb dX1_search_103 (by decide) (fun hc => ?_) (fun hc => ?_)
      · have h := fy_if_t h hc
        refine lv_iconst (v := (0 : Int32)) hx hb dX1_search_110 (by decide) ?_
        cases h
        exact fy_retZ C w (by decide +kernel) dX1_search_111
      · have h := fy_if_f h hc
        refine lv_iconst (v := (1 : Int32)) hx hb dX1_search_106 (by decide) ?_
        refine lv_goto (tgt := 111) hx hb dX1_search_107 (by decide) ?_
        cases h
        exact fy_retZ C w (by decide +kernel) dX1_search_111
    · have h := fy_if_f h hc
      refine lv_aload_n hx hb dX1_search_64 rfl (lv_at hl 1 rfl) ?_
      refine lv_iload hx hb dX1_search_65 (lv_at hl 2 rfl) ?_
      obtain ⟨r67, h67, h⟩ := fy_bd_some h
      refine fy_calI w (fy_runV (As := [.int v4]) (rest := []) C w (c_X7_isAccepting l g q1 h67) (X_o7 X_full q1) ksX1_35 rfl ⟨Nat.le_of_ble_eq_true rfl, Nat.le_of_ble_eq_true rfl⟩ rfl hl.1 rfl (Nat.le_of_ble_eq_true rfl) ⟨Nat.le_refl _, Nat.le_refl _⟩ dX1_search_67) (fun H locs w => ?_)
      refine lv_if_eq (tgt := 91) hx hb dX1_search_70 (by decide) (fun hc => ?_) (fun hc => ?_)
      · have h := fy_if_t h hc
        obtain ⟨x91, e91⟩ : ∃ z : Int32, z = v4 + (1 : Int32) := ⟨_, rfl⟩
        have h := fy_bl_some e91 h
        refine lv_iinc (k := 2) (v := x91) (lv' := [(4, .int x91), (0, .ref (g.2.2.1 32)), (1, .ref (g.2.2.1 v1))]) hx hb dX1_search_91 hl rfl (by rw [e91]; rfl) (by decide) rfl (fun ls hl => ?_)
        refine lv_goto (tgt := 57) hx hb dX1_search_94 (by decide) ?_
        exact ih _ _ _ _ _ _ h w q1 (lv_sub hl [1, 2, 0] rfl)
      · have h := fy_if_f h hc
        refine lv_aload_n hx hb dX1_search_73 rfl (lv_at hl 0 rfl) ?_
        refine lv_aload_n hx hb dX1_search_74 rfl (lv_at hl 0 rfl) ?_
        refine gfX1_16 X_full C w (X_i32) dX1_search_75 ?_
        refine lv_aload_n hx hb dX1_search_78 rfl (lv_at hl 0 rfl) ?_
        refine gfX1_9 X_full C w (X_i32) dX1_search_79 ?_
        refine lv_iload hx hb dX1_search_82 (lv_at hl 2 rfl) ?_
        obtain ⟨g84, h⟩ := fy_gd_some h
        refine fy_iald C w X_a33 g84 dX1_search_84 ?_
        refine va_mmin (l := l) hx hb (hml.trans hl.1.symm) hown (hts _ tw632) (hts _ tw488) (hts _ tw489) (hts _ tw490) (Nat.le_of_ble_eq_true rfl) (Nat.le_of_ble_eq_true rfl) (Nat.le_refl _) (Nat.le_refl _) dX1_search_85 ?_
        refine pfX1_16 X_full C w (X_i32) dX1_search_88 (fun H locs w => ?_)
        obtain ⟨S88, e88⟩ : ∃ z, z = fy_sI S 32 1 (if (S.1 33 v4.toNatClampNeg) < (S.1 32 1) then (S.1 33 v4.toNatClampNeg) else (S.1 32 1)) := ⟨_, rfl⟩
        have h := fy_bl_some e88 h
        rw [← e88] at w
        obtain ⟨x91, e91⟩ : ∃ z : Int32, z = v4 + (1 : Int32) := ⟨_, rfl⟩
        have h := fy_bl_some e91 h
        refine lv_iinc (k := 2) (v := x91) (lv' := [(4, .int x91), (0, .ref (g.2.2.1 32)), (1, .ref (g.2.2.1 v1))]) hx hb dX1_search_91 hl rfl (by rw [e91]; rfl) (by decide) rfl (fun ls hl => ?_)
        refine lv_goto (tgt := 57) hx hb dX1_search_94 (by decide) ?_
        exact ih _ _ _ _ _ _ h w q1 (lv_sub hl [1, 2, 0] rfl)

set_option maxHeartbeats 4000000 in
set_option maxRecDepth 100000 in
theorem t_X1_search_48 {p : Program} {l : Launch} {e : Env} {s : State} {m : MethodId} {args : Array Value} {below : List Frame} {meth : Method} {c : Code} {g : fy_G} (C : fy_C g X_Y p s m args meth c yX1_search.cls cX1_search 5 (some .boolean)) {Sr : fy_S} {rr : Int32} : ∀ (S : fy_S) (v1 : Nat) (H : Heap) (locs : List Loc) (ls : Array Slot), X1_search_48 S v1 = some (Sr, rr) → fy_W g X_Y S s H locs → X_is X_Y 7 v1 → lv_has ls 5 [(0, .ref (g.2.2.1 32)), (1, .ref (g.2.2.1 v1))] → W p l e (fy_rm 2) s m args below meth c H locs 0 0 (MQ below (fy_QI g X_Y rr Sr) args s 0 0 (fy_A g X_Y)) (F0 m 48 ls []) := by
  obtain ⟨hx, hb, hr, hts, hown, hlk, hml, hK, hD, hE, hN⟩ := id C
  intro S v1 H locs ls h w q1 hl
  rw [X1_search_48] at h
  refine lv_aload_n hx hb dX1_search_48 rfl (lv_at hl 0 rfl) ?_
  refine lv_ldc (v := (1000000000 : Int32)) hx hb hown (hts _ tw619) dX1_search_49 ?_
  refine pfX1_16 X_full C w (X_i32) dX1_search_51 (fun H locs w => ?_)
  obtain ⟨S51, e51⟩ : ∃ z, z = fy_sI S 32 1 (1000000000 : Int32) := ⟨_, rfl⟩
  have h := fy_bl_some e51 h
  rw [← e51] at w
  refine lv_iconst (v := (0 : Int32)) hx hb dX1_search_54 (by decide) ?_
  refine lv_istore (lv' := [(4, .int (0 : Int32)), (0, .ref (g.2.2.1 32)), (1, .ref (g.2.2.1 v1))]) hx hb dX1_search_55 hl (by decide) rfl (fun ls hl => ?_)
  exact t_X1_search_57 C fy_fu _ _ _ _ _ _ h w q1 (lv_sub hl [1, 2, 0] rfl)

set_option maxHeartbeats 4000000 in
set_option maxRecDepth 100000 in
theorem t_X1_search_24 {p : Program} {l : Launch} {e : Env} {s : State} {m : MethodId} {args : Array Value} {below : List Frame} {meth : Method} {c : Code} {g : fy_G} (C : fy_C g X_Y p s m args meth c yX1_search.cls cX1_search 5 (some .boolean)) {Sr : fy_S} {rr : Int32} : ∀ (fu : Nat) (S : fy_S) (v1 : Nat) (v2 : Nat) (v3 : Int32) (v4 : Int32) (H : Heap) (locs : List Loc) (ls : Array Slot), X1_search_24 fu S v1 v2 v3 v4 = some (Sr, rr) → fy_W g X_Y S s H locs → X_is X_Y 7 v1 → v2 ∈ X_Y.2 ∧ X_Y.1 v2 = .inl (0, (X_al v2), X_ar v2) → lv_has ls 5 [(0, .ref (g.2.2.1 32)), (1, .ref (g.2.2.1 v1)), (2, .ref (g.2.2.1 v2)), (3, .int v3), (4, .int v4)] → W p l e (fy_rm 2) s m args below meth c H locs 0 0 (MQ below (fy_QI g X_Y rr Sr) args s 0 0 (fy_A g X_Y)) (F0 m 24 ls []) := by
  obtain ⟨hx, hb, hr, hts, hown, hlk, hml, hK, hD, hE, hN⟩ := id C
  intro fu
  induction fu with
  | zero => intro S v1 v2 v3 v4 H locs ls h; cases h
  | succ fu ih =>
    intro S v1 v2 v3 v4 H locs ls h w q1 q2 hl
    rw [X1_search_24] at h
    refine lv_iload hx hb dX1_search_24 (lv_at hl 4 rfl) ?_
    refine lv_bipush (v := (64 : Int32)) hx hb dX1_search_26 (by decide) ?_
    refine lv_icmp_gt (tgt := 48) hx hb dX1_search_28 (by decide) (fun hc => ?_) (fun hc => ?_)
    · have h := fy_if_t h hc
      exact t_X1_search_48 C _ _ _ _ _ h w q1 (lv_sub hl [0, 1] rfl)
    · have h := fy_if_f h hc
      refine lv_iload_n hx hb dX1_search_31 rfl (lv_at hl 3 rfl) ?_
      refine lv_if_eq (tgt := 48) hx hb dX1_search_32 (by decide) (fun hc => ?_) (fun hc => ?_)
      · have h := fy_if_t h hc
        exact t_X1_search_48 C _ _ _ _ _ h w q1 (lv_sub hl [0, 1] rfl)
      · have h := fy_if_f h hc
        refine lv_aload_n hx hb dX1_search_35 rfl (lv_at hl 0 rfl) ?_
        refine lv_aload_n hx hb dX1_search_36 rfl (lv_at hl 1 rfl) ?_
        refine lv_aload_n hx hb dX1_search_37 rfl (lv_at hl 2 rfl) ?_
        obtain ⟨S38, r38, h38, h⟩ := fy_bp_some h
        refine fy_calI w (fy_runV (As := [.ref (g.2.2.1 v1), .ref (g.2.2.1 v2)]) (rest := []) C w (c_X1_lowerPrices l g q1 (X_an X_full q2) h38) (X_o1 X_full (X_i32)) ksX1_31 rfl ⟨Nat.le_of_ble_eq_true rfl, Nat.le_of_ble_eq_true rfl⟩ rfl hl.1 rfl (Nat.le_of_ble_eq_true rfl) ⟨Nat.le_refl _, Nat.le_refl _⟩ dX1_search_38) (fun H locs w => ?_)
        refine lv_istore_n (lv' := [(3, .int r38), (0, .ref (g.2.2.1 32)), (1, .ref (g.2.2.1 v1)), (2, .ref (g.2.2.1 v2)), (4, .int v4)]) hx hb dX1_search_41 rfl hl (by decide) rfl (fun ls hl => ?_)
        obtain ⟨x42, e42⟩ : ∃ z : Int32, z = v4 + (1 : Int32) := ⟨_, rfl⟩
        have h := fy_bl_some e42 h
        refine lv_iinc (k := 4) (v := x42) (lv' := [(4, .int x42), (3, .int r38), (0, .ref (g.2.2.1 32)), (1, .ref (g.2.2.1 v1)), (2, .ref (g.2.2.1 v2))]) hx hb dX1_search_42 hl rfl (by rw [e42]; rfl) (by decide) rfl (fun ls hl => ?_)
        refine lv_goto (tgt := 24) hx hb dX1_search_45 (by decide) ?_
        exact ih _ _ _ _ _ _ _ _ h w q1 q2 (lv_sub hl [2, 3, 4, 1, 0] rfl)

set_option maxHeartbeats 4000000 in
set_option maxRecDepth 100000 in
theorem t_X1_search {p : Program} {l : Launch} {e : Env} {s : State} {m : MethodId} {args : Array Value} {below : List Frame} {meth : Method} {c : Code} {g : fy_G} (C : fy_C g X_Y p s m args meth c yX1_search.cls cX1_search 5 (some .boolean)) {S : fy_S} {v1 : Nat} {v2 : Nat} {Sr : fy_S} {rr : Int32} (q1 : X_is X_Y 7 v1) (q2 : v2 ∈ X_Y.2 ∧ X_Y.1 v2 = .inl (0, X_al v2, X_ar v2)) {H : Heap} {locs : List Loc} {ls : Array Slot} (h : X1_search S v1 v2 = some (Sr, rr)) (w : fy_W g X_Y S s H locs) (hl : lv_has ls 5 [(0, .ref (g.2.2.1 32)), (1, .ref (g.2.2.1 v1)), (2, .ref (g.2.2.1 v2))]) : W p l e (fy_rm 2) s m args below meth c H locs 0 0 (MQ below (fy_QI g X_Y rr Sr) args s 0 0 (fy_A g X_Y)) (F0 m 0 ls []) := by
  obtain ⟨hx, hb, hr, hts, hown, hlk, hml, hK, hD, hE, hN⟩ := id C
  rw [X1_search] at h
  refine lv_aload_n hx hb dX1_search_0 rfl (lv_at hl 0 rfl) ?_
  refine gfX1_9 X_full C w (X_i32) dX1_search_1 ?_
  refine lv_ldc (v := (1000000000 : Int32)) hx hb hown (hts _ tw619) dX1_search_4 ?_
  obtain ⟨S6, h6, h⟩ := fy_bd_some h
  refine fy_calV w (fy_runS (As := [.ref (g.2.2.1 33), .int (1000000000 : Int32)]) (rest := []) C w (c_J7_fill_53178 l g X_full (X_an X_full X_a33) h6) ksX1_20 ⟨Nat.le_of_ble_eq_true rfl, Nat.le_of_ble_eq_true rfl⟩ rfl hl.1 rfl (Nat.le_of_ble_eq_true rfl) ⟨Nat.le_refl _, Nat.le_refl _⟩ dX1_search_6) (fun H locs w => ?_)
  refine lv_aload_n hx hb dX1_search_9 rfl (lv_at hl 0 rfl) ?_
  refine gfX1_9 X_full C w (X_i32) dX1_search_10 ?_
  refine lv_aload_n hx hb dX1_search_13 rfl (lv_at hl 1 rfl) ?_
  refine gfX1_26 X_full C w q1 dX1_search_14 ?_
  refine lv_iconst (v := (0 : Int32)) hx hb dX1_search_17 (by decide) ?_
  obtain ⟨g18, h⟩ := fy_gd_some h
  refine fy_iast C w X_a33 g18 dX1_search_18 (fun H locs w => ?_)
  obtain ⟨S18, e18⟩ : ∃ z, z = fy_sI S6 33 (S6.1 v1 6).toNatClampNeg (0 : Int32) := ⟨_, rfl⟩
  have h := fy_bl_some e18 h
  rw [← e18] at w
  refine lv_iconst (v := (1 : Int32)) hx hb dX1_search_19 (by decide) ?_
  refine lv_istore_n (lv' := [(3, .int (1 : Int32)), (0, .ref (g.2.2.1 32)), (1, .ref (g.2.2.1 v1)), (2, .ref (g.2.2.1 v2))]) hx hb dX1_search_20 rfl hl (by decide) rfl (fun ls hl => ?_)
  refine lv_iconst (v := (0 : Int32)) hx hb dX1_search_21 (by decide) ?_
  refine lv_istore (lv' := [(4, .int (0 : Int32)), (3, .int (1 : Int32)), (0, .ref (g.2.2.1 32)), (1, .ref (g.2.2.1 v1)), (2, .ref (g.2.2.1 v2))]) hx hb dX1_search_22 hl (by decide) rfl (fun ls hl => ?_)
  exact t_X1_search_24 C fy_fu _ _ _ _ _ _ _ _ h w q1 q2 (lv_sub hl [2, 3, 4, 1, 0] rfl)

set_option maxHeartbeats 4000000 in
set_option maxRecDepth 100000 in
theorem c_X1_search (l : Launch) (g : fy_G) {S : fy_S} {v1 : Nat} {v2 : Nat} {Sr : fy_S} {rr : Int32} (q1 : X_is X_Y 7 v1) (q2 : v2 ∈ X_Y.2 ∧ X_Y.1 v2 = .inl (0, X_al v2, X_ar v2)) (h : X1_search S v1 v2 = some (Sr, rr)) : fy_M g X_Y l yX1_search cX1_search 5 (some .boolean) (fy_rm 2) [.ref (g.2.2.1 32), .ref (g.2.2.1 v1), .ref (g.2.2.1 v2)] S (fy_QI g X_Y rr Sr) :=
  fy_entry (by decide +kernel) (Nat.le_of_ble_eq_true rfl) (fun p e s m args below meth c ls C w hl => t_X1_search C q1 q2 h w hl)
def X1_waysInto_6 (S : fy_S) : Nat → Nat → Int64 → Int32 → Int32 → Int64 → Int32 → Option (Int64)
  | 0, _, _, _, _, _, _ => none
  | fu + 1, v1, v2, v4, v5, v6, v8 =>
    if (64 : Int32) ≤ v8 then (
      some v6)
    else (
      fy_gd (fy_ix v8 64) <|
      if (S.1 33 v8.toNatClampNeg) = v5 then (
        fy_bd (X7_step S v1 v8 v4) fun r31 =>
        fy_bd (X9_isIn S v2 r31) fun r34 =>
        if r34 = 0 then (
          fy_bl (v8 + (1 : Int32)) fun x49 =>
          X1_waysInto_6 S fu v1 v2 v4 v5 v6 x49)
        else (
          fy_bl (v6 ||| ((1 : Int64) <<< (v8.toInt64 &&& 63))) fun x47 =>
          fy_bl (v8 + (1 : Int32)) fun x49 =>
          X1_waysInto_6 S fu v1 v2 v4 v5 x47 x49))
      else (
        fy_bl (v8 + (1 : Int32)) fun x49 =>
        X1_waysInto_6 S fu v1 v2 v4 v5 v6 x49))
def X1_waysInto (S : fy_S) (v1 : Nat) (v2 : Int64) (v4 : Int32) (v5 : Int32) : Option (Int64) :=
  X1_waysInto_6 S fy_fu v1 v2 v4 v5 (0 : Int64) (0 : Int32)
set_option maxHeartbeats 4000000 in
set_option maxRecDepth 100000 in
theorem t_X1_waysInto_6 {p : Program} {l : Launch} {e : Env} {s : State} {m : MethodId} {args : Array Value} {below : List Frame} {meth : Method} {c : Code} {g : fy_G} (C : fy_C g X_Y p s m args meth c yX1_waysInto.cls cX1_waysInto 9 (some .long)) {S : fy_S} {rr : Int64} : ∀ (fu : Nat) (v1 : Nat) (v2 : Int64) (v4 : Int32) (v5 : Int32) (v6 : Int64) (v8 : Int32) (H : Heap) (locs : List Loc) (ls : Array Slot), X1_waysInto_6 S fu v1 v2 v4 v5 v6 v8 = some rr → fy_W g X_Y S s H locs → X_is X_Y 7 v1 → lv_has ls 9 [(0, .ref (g.2.2.1 32)), (1, .ref (g.2.2.1 v1)), (2, .long v2), (4, .int v4), (5, .int v5), (6, .long v6), (8, .int v8)] → W p l e (fy_rm 1) s m args below meth c H locs 0 0 (MQ below (fy_QL g X_Y rr S) args s 0 0 (fy_A g X_Y)) (F0 m 6 ls []) := by
  obtain ⟨hx, hb, hr, hts, hown, hlk, hml, hK, hD, hE, hN⟩ := id C
  intro fu
  induction fu with
  | zero => intro v1 v2 v4 v5 v6 v8 H locs ls h; cases h
  | succ fu ih =>
    intro v1 v2 v4 v5 v6 v8 H locs ls h w q1 hl
    rw [X1_waysInto_6] at h
    refine lv_iload hx hb dX1_waysInto_6 (lv_at hl 6 rfl) ?_
    refine lv_bipush (v := (64 : Int32)) hx hb dX1_waysInto_8 (by decide) ?_
    refine lv_icmp_ge (tgt := 55) hx hb dX1_waysInto_10 (by decide) (fun hc => ?_) (fun hc => ?_)
    · have h := fy_if_t h hc
      refine lv_lload hx hb dX1_waysInto_55 (lv_at hl 5 rfl) ?_
      cases h
      exact fy_retL C w dX1_waysInto_57
    · have h := fy_if_f h hc
      refine lv_aload_n hx hb dX1_waysInto_13 rfl (lv_at hl 0 rfl) ?_
      refine gfX1_9 X_full C w (X_i32) dX1_waysInto_14 ?_
      refine lv_iload hx hb dX1_waysInto_17 (lv_at hl 6 rfl) ?_
      obtain ⟨g19, h⟩ := fy_gd_some h
      refine fy_iald C w X_a33 g19 dX1_waysInto_19 ?_
      refine lv_iload hx hb dX1_waysInto_20 (lv_at hl 4 rfl) ?_
      refine lv_icmp_ne (tgt := 49) hx hb dX1_waysInto_22 (by decide) (fun hc => ?_) (fun hc => ?_)
      · have h := fy_if_f h hc
        obtain ⟨x49, e49⟩ : ∃ z : Int32, z = v8 + (1 : Int32) := ⟨_, rfl⟩
        have h := fy_bl_some e49 h
        refine lv_iinc (k := 6) (v := x49) (lv' := [(8, .int x49), (0, .ref (g.2.2.1 32)), (1, .ref (g.2.2.1 v1)), (2, .long v2), (4, .int v4), (5, .int v5), (6, .long v6)]) hx hb dX1_waysInto_49 hl rfl (by rw [e49]; rfl) (by decide) rfl (fun ls hl => ?_)
        refine lv_goto (tgt := 6) hx hb dX1_waysInto_52 (by decide) ?_
        exact ih _ _ _ _ _ _ _ _ _ h w q1 (lv_sub hl [1, 2, 3, 4, 5, 6, 0] rfl)
      · have h := fy_if_t h hc
        refine lv_lload_n hx hb dX1_waysInto_25 rfl (lv_at hl 2 rfl) ?_
        refine lv_aload_n hx hb dX1_waysInto_26 rfl (lv_at hl 1 rfl) ?_
        refine lv_iload hx hb dX1_waysInto_27 (lv_at hl 6 rfl) ?_
        refine lv_iload hx hb dX1_waysInto_29 (lv_at hl 3 rfl) ?_
        obtain ⟨r31, h31, h⟩ := fy_bd_some h
        refine fy_calI w (fy_runV (As := [.int v8, .int v4]) (rest := [.long v2]) C w (c_X7_step l g q1 h31) (X_o7 X_full q1) ksX1_52 rfl ⟨Nat.le_of_ble_eq_true rfl, Nat.le_of_ble_eq_true rfl⟩ rfl hl.1 rfl (Nat.le_of_ble_eq_true rfl) ⟨Nat.le_refl _, Nat.le_refl _⟩ dX1_waysInto_31) (fun H locs w => ?_)
        obtain ⟨r34, h34, h⟩ := fy_bd_some h
        refine fy_calI w (fy_runN (As := [.long v2, .int r31]) (rest := []) C w (c_X9_isIn l g X_full  h34) ksX1_68 ⟨Nat.le_of_ble_eq_true rfl, Nat.le_of_ble_eq_true rfl⟩ rfl hl.1 rfl (Nat.le_of_ble_eq_true rfl) ⟨Nat.le_refl _, Nat.le_refl _⟩ dX1_waysInto_34) (fun H locs w => ?_)
        refine lv_if_eq (tgt := 49) hx hb dX1_waysInto_37 (by decide) (fun hc => ?_) (fun hc => ?_)
        · have h := fy_if_t h hc
          obtain ⟨x49, e49⟩ : ∃ z : Int32, z = v8 + (1 : Int32) := ⟨_, rfl⟩
          have h := fy_bl_some e49 h
          refine lv_iinc (k := 6) (v := x49) (lv' := [(8, .int x49), (0, .ref (g.2.2.1 32)), (1, .ref (g.2.2.1 v1)), (2, .long v2), (4, .int v4), (5, .int v5), (6, .long v6)]) hx hb dX1_waysInto_49 hl rfl (by rw [e49]; rfl) (by decide) rfl (fun ls hl => ?_)
          refine lv_goto (tgt := 6) hx hb dX1_waysInto_52 (by decide) ?_
          exact ih _ _ _ _ _ _ _ _ _ h w q1 (lv_sub hl [1, 2, 3, 4, 5, 6, 0] rfl)
        · have h := fy_if_f h hc
          refine lv_lload hx hb dX1_waysInto_40 (lv_at hl 5 rfl) ?_
          refine lv_lconst (v := (1 : Int64)) hx hb dX1_waysInto_42 (by decide) ?_
          refine lv_iload hx hb dX1_waysInto_43 (lv_at hl 6 rfl) ?_
          refine lv_lshl (v := (1 : Int64) <<< (v8.toInt64 &&& 63)) hx hb dX1_waysInto_45 rfl ?_
          refine lv_lor hx hb dX1_waysInto_46 ?_
          refine lv_topl (fun x47 e47 => ?_)
          have h := fy_bl_some e47 h
          refine lv_lstore (lv' := [(6, .long x47), (0, .ref (g.2.2.1 32)), (1, .ref (g.2.2.1 v1)), (2, .long v2), (4, .int v4), (5, .int v5), (8, .int v8)]) hx hb dX1_waysInto_47 hl (by decide) rfl (fun ls hl => ?_)
          obtain ⟨x49, e49⟩ : ∃ z : Int32, z = v8 + (1 : Int32) := ⟨_, rfl⟩
          have h := fy_bl_some e49 h
          refine lv_iinc (k := 6) (v := x49) (lv' := [(8, .int x49), (6, .long x47), (0, .ref (g.2.2.1 32)), (1, .ref (g.2.2.1 v1)), (2, .long v2), (4, .int v4), (5, .int v5)]) hx hb dX1_waysInto_49 hl rfl (by rw [e49]; rfl) (by decide) rfl (fun ls hl => ?_)
          refine lv_goto (tgt := 6) hx hb dX1_waysInto_52 (by decide) ?_
          exact ih _ _ _ _ _ _ _ _ _ h w q1 (lv_sub hl [2, 3, 4, 5, 6, 1, 0] rfl)

set_option maxHeartbeats 4000000 in
set_option maxRecDepth 100000 in
theorem t_X1_waysInto {p : Program} {l : Launch} {e : Env} {s : State} {m : MethodId} {args : Array Value} {below : List Frame} {meth : Method} {c : Code} {g : fy_G} (C : fy_C g X_Y p s m args meth c yX1_waysInto.cls cX1_waysInto 9 (some .long)) {S : fy_S} {v1 : Nat} {v2 : Int64} {v4 : Int32} {v5 : Int32} {rr : Int64} (q1 : X_is X_Y 7 v1) {H : Heap} {locs : List Loc} {ls : Array Slot} (h : X1_waysInto S v1 v2 v4 v5 = some rr) (w : fy_W g X_Y S s H locs) (hl : lv_has ls 9 [(0, .ref (g.2.2.1 32)), (1, .ref (g.2.2.1 v1)), (2, .long v2), (4, .int v4), (5, .int v5)]) : W p l e (fy_rm 1) s m args below meth c H locs 0 0 (MQ below (fy_QL g X_Y rr S) args s 0 0 (fy_A g X_Y)) (F0 m 0 ls []) := by
  obtain ⟨hx, hb, hr, hts, hown, hlk, hml, hK, hD, hE, hN⟩ := id C
  rw [X1_waysInto] at h
  refine lv_lconst (v := (0 : Int64)) hx hb dX1_waysInto_0 (by decide) ?_
  refine lv_lstore (lv' := [(6, .long (0 : Int64)), (0, .ref (g.2.2.1 32)), (1, .ref (g.2.2.1 v1)), (2, .long v2), (4, .int v4), (5, .int v5)]) hx hb dX1_waysInto_1 hl (by decide) rfl (fun ls hl => ?_)
  refine lv_iconst (v := (0 : Int32)) hx hb dX1_waysInto_3 (by decide) ?_
  refine lv_istore (lv' := [(8, .int (0 : Int32)), (6, .long (0 : Int64)), (0, .ref (g.2.2.1 32)), (1, .ref (g.2.2.1 v1)), (2, .long v2), (4, .int v4), (5, .int v5)]) hx hb dX1_waysInto_4 hl (by decide) rfl (fun ls hl => ?_)
  exact t_X1_waysInto_6 C fy_fu _ _ _ _ _ _ _ _ _ h w q1 (lv_sub hl [2, 3, 4, 5, 6, 1, 0] rfl)

set_option maxHeartbeats 4000000 in
set_option maxRecDepth 100000 in
theorem c_X1_waysInto (l : Launch) (g : fy_G) {S : fy_S} {v1 : Nat} {v2 : Int64} {v4 : Int32} {v5 : Int32} {rr : Int64} (q1 : X_is X_Y 7 v1) (h : X1_waysInto S v1 v2 v4 v5 = some rr) : fy_M g X_Y l yX1_waysInto cX1_waysInto 9 (some .long) (fy_rm 1) [.ref (g.2.2.1 32), .ref (g.2.2.1 v1), .long v2, .int v4, .int v5] S (fy_QL g X_Y rr S) :=
  fy_entry (by decide +kernel) (Nat.le_of_ble_eq_true rfl) (fun p e s m args below meth c ls C w hl => t_X1_waysInto C q1 h w hl)
def X1_spell_132 (k65 : fy_S → Nat → Nat → Nat → Int64 → Int32 → Int32 → Option (fy_S)) (S : fy_S) (v1 : Nat) (v2 : Nat) (v3 : Nat) (v6 : Int32) (v7 : Int32) (v8 : Int32) (v9 : Int64) : Option (fy_S) :=
  fy_bd (X8_add S v3 v8) fun S135 =>
  fy_bd (X1_priceOf S135 v2 v8) fun r143 =>
  fy_bl (v6 - r143) fun x147 =>
  fy_bl (v7 + (1 : Int32)) fun x153 =>
  k65 S135 v1 v2 v3 v9 x147 x153
def X1_spell_86 (k65 : fy_S → Nat → Nat → Nat → Int64 → Int32 → Int32 → Option (fy_S)) : Nat → fy_S → Nat → Nat → Nat → Int64 → Int32 → Int32 → Int32 → Int64 → Int32 → Option (fy_S)
  | 0, _, _, _, _, _, _, _, _, _, _ => none
  | fu + 1, S, v1, v2, v3, v4, v6, v7, v8, v9, v11 =>
    if (S.1 v1 5) ≤ v11 then (
      X1_spell_132 k65 S v1 v2 v3 v6 v7 v8 v9)
    else (
      if (lg_cmp v9 (0 : Int64)) = 0 then (
        fy_bd (X1_priceOf S v2 v11) fun r117 =>
        fy_bd (X1_waysInto S v1 v4 v11 (v6 - r117)) fun r121 =>
        fy_bl (v11 + (1 : Int32)) fun x126 =>
        X1_spell_86 k65 fu S v1 v2 v3 v4 v6 v7 v11 r121 x126)
      else (
        X1_spell_132 k65 S v1 v2 v3 v6 v7 v8 v9))
def X1_spell_65 : Nat → fy_S → Nat → Nat → Nat → Int64 → Int32 → Int32 → Option (fy_S)
  | 0, _, _, _, _, _, _, _ => none
  | fu + 1, S, v1, v2, v3, v4, v6, v7 =>
    if (64 : Int32) ≤ v7 then (
      some S)
    else (
      if v6 ≤ 0 then (
        some S)
      else (
        X1_spell_86 (fun S v1 v2 v3 v4 v6 v7 => X1_spell_65 fu S v1 v2 v3 v4 v6 v7) fy_fu S v1 v2 v3 v4 v6 v7 (0 : Int32) (0 : Int64) (0 : Int32)))
def X1_spell_11 : Nat → fy_S → Nat → Nat → Nat → Int64 → Int32 → Option (fy_S)
  | 0, _, _, _, _, _, _ => none
  | fu + 1, S, v1, v2, v3, v4, v6 =>
    if (64 : Int32) ≤ v6 then (
      fy_bl (S.1 32 1) fun x60 =>
      X1_spell_65 fy_fu S v1 v2 v3 v4 x60 (0 : Int32))
    else (
      fy_bd (X7_isAccepting S v1 v6) fun r21 =>
      if r21 = 0 then (
        fy_bl (v6 + (1 : Int32)) fun x50 =>
        X1_spell_11 fu S v1 v2 v3 v4 x50)
      else (
        fy_gd (fy_ix v6 64) <|
        if (S.1 33 v6.toNatClampNeg) = (S.1 32 1) then (
          fy_bl (v4 ||| ((1 : Int64) <<< (v6.toInt64 &&& 63))) fun x48 =>
          fy_bl (v6 + (1 : Int32)) fun x50 =>
          X1_spell_11 fu S v1 v2 v3 x48 x50)
        else (
          fy_bl (v6 + (1 : Int32)) fun x50 =>
          X1_spell_11 fu S v1 v2 v3 v4 x50)))
def X1_spell (S : fy_S) (v1 : Nat) (v2 : Nat) (v3 : Nat) : Option (fy_S) :=
  fy_bl (fy_sI S v3 1 (0 : Int32)) fun S2 =>
  X1_spell_11 fy_fu S2 v1 v2 v3 (0 : Int64) (0 : Int32)
set_option maxHeartbeats 4000000 in
set_option maxRecDepth 100000 in
theorem t_X1_spell_132 {p : Program} {l : Launch} {e : Env} {s : State} {m : MethodId} {args : Array Value} {below : List Frame} {meth : Method} {c : Code} {g : fy_G} (C : fy_C g X_Y p s m args meth c yX1_spell.cls cX1_spell 12 none) {Sr : fy_S}  {k65 : fy_S → Nat → Nat → Nat → Int64 → Int32 → Int32 → Option (fy_S)} (hk65 : ∀ (S : fy_S) (v1 : Nat) (v2 : Nat) (v3 : Nat) (v4 : Int64) (v6 : Int32) (v7 : Int32) (H : Heap) (locs : List Loc) (ls : Array Slot), k65 S v1 v2 v3 v4 v6 v7 = some Sr → fy_W g X_Y S s H locs → X_is X_Y 7 v1 → v2 ∈ X_Y.2 ∧ X_Y.1 v2 = .inl (0, (X_al v2), X_ar v2) → X_is X_Y 8 v3 → lv_has ls 12 [(0, .ref (g.2.2.1 32)), (1, .ref (g.2.2.1 v1)), (2, .ref (g.2.2.1 v2)), (3, .ref (g.2.2.1 v3)), (4, .long v4), (6, .int v6), (7, .int v7)] → W p l e (fy_rm 2) s m args below meth c H locs 0 0 (MQ below (fy_QV g X_Y Sr) args s 0 0 (fy_A g X_Y)) (F0 m 65 ls [])) : ∀ (S : fy_S) (v1 : Nat) (v2 : Nat) (v3 : Nat) (v6 : Int32) (v7 : Int32) (v8 : Int32) (v9 : Int64) (H : Heap) (locs : List Loc) (ls : Array Slot), X1_spell_132 k65 S v1 v2 v3 v6 v7 v8 v9 = some Sr → fy_W g X_Y S s H locs → X_is X_Y 7 v1 → v2 ∈ X_Y.2 ∧ X_Y.1 v2 = .inl (0, (X_al v2), X_ar v2) → X_is X_Y 8 v3 → lv_has ls 12 [(0, .ref (g.2.2.1 32)), (1, .ref (g.2.2.1 v1)), (2, .ref (g.2.2.1 v2)), (3, .ref (g.2.2.1 v3)), (6, .int v6), (7, .int v7), (8, .int v8), (9, .long v9)] → W p l e (fy_rm 2) s m args below meth c H locs 0 0 (MQ below (fy_QV g X_Y Sr) args s 0 0 (fy_A g X_Y)) (F0 m 132 ls []) := by
  obtain ⟨hx, hb, hr, hts, hown, hlk, hml, hK, hD, hE, hN⟩ := id C
  intro S v1 v2 v3 v6 v7 v8 v9 H locs ls h w q1 q2 q3 hl
  rw [X1_spell_132] at h
  refine lv_aload_n hx hb dX1_spell_132 rfl (lv_at hl 3 rfl) ?_
  refine lv_iload hx hb dX1_spell_133 (lv_at hl 6 rfl) ?_
  obtain ⟨S135, h135, h⟩ := fy_bd_some h
  refine fy_calV w (fy_runV (As := [.int v8]) (rest := []) C w (c_X8_add l g q3 h135) (X_o8 X_full q3) ksX1_64 rfl ⟨Nat.le_of_ble_eq_true rfl, Nat.le_of_ble_eq_true rfl⟩ rfl hl.1 rfl (Nat.le_of_ble_eq_true rfl) ⟨Nat.le_refl _, Nat.le_refl _⟩ dX1_spell_135) (fun H locs w => ?_)
  refine lv_iload hx hb dX1_spell_138 (lv_at hl 4 rfl) ?_
  refine lv_aload_n hx hb dX1_spell_140 rfl (lv_at hl 2 rfl) ?_
  refine lv_iload hx hb dX1_spell_141 (lv_at hl 6 rfl) ?_
  obtain ⟨r143, h143, h⟩ := fy_bd_some h
  refine fy_calI w (fy_runS (As := [.ref (g.2.2.1 v2), .int v8]) (rest := [.int v6]) C w (c_X1_priceOf l g (X_an X_full q2) h143) ksX1_48 ⟨Nat.le_of_ble_eq_true rfl, Nat.le_of_ble_eq_true rfl⟩ rfl hl.1 rfl (Nat.le_of_ble_eq_true rfl) ⟨Nat.le_refl _, Nat.le_refl _⟩ dX1_spell_143) (fun H locs w => ?_)
  refine lv_isub hx hb dX1_spell_146 ?_
  refine lv_topi (fun x147 e147 => ?_)
  have h := fy_bl_some e147 h
  refine lv_istore (lv' := [(6, .int x147), (0, .ref (g.2.2.1 32)), (1, .ref (g.2.2.1 v1)), (2, .ref (g.2.2.1 v2)), (3, .ref (g.2.2.1 v3)), (7, .int v7), (8, .int v8), (9, .long v9)]) hx hb dX1_spell_147 hl (by decide) rfl (fun ls hl => ?_)
  refine lv_lload hx hb dX1_spell_149 (lv_at hl 7 rfl) ?_
  refine lv_lstore (lv' := [(4, .long v9), (6, .int x147), (0, .ref (g.2.2.1 32)), (1, .ref (g.2.2.1 v1)), (2, .ref (g.2.2.1 v2)), (3, .ref (g.2.2.1 v3)), (7, .int v7), (8, .int v8), (9, .long v9)]) hx hb dX1_spell_151 hl (by decide) rfl (fun ls hl => ?_)
  obtain ⟨x153, e153⟩ : ∃ z : Int32, z = v7 + (1 : Int32) := ⟨_, rfl⟩
  have h := fy_bl_some e153 h
  refine lv_iinc (k := 6) (v := x153) (lv' := [(7, .int x153), (4, .long v9), (6, .int x147), (0, .ref (g.2.2.1 32)), (1, .ref (g.2.2.1 v1)), (2, .ref (g.2.2.1 v2)), (3, .ref (g.2.2.1 v3)), (8, .int v8), (9, .long v9)]) hx hb dX1_spell_153 hl rfl (by rw [e153]; rfl) (by decide) rfl (fun ls hl => ?_)
  refine lv_goto (tgt := 65) hx hb dX1_spell_156 (by decide) ?_
  exact hk65 _ _ _ _ _ _ _ _ _ _ h w q1 q2 q3 (lv_sub hl [3, 4, 5, 6, 1, 2, 0] rfl)

set_option maxHeartbeats 4000000 in
set_option maxRecDepth 100000 in
theorem t_X1_spell_86 {p : Program} {l : Launch} {e : Env} {s : State} {m : MethodId} {args : Array Value} {below : List Frame} {meth : Method} {c : Code} {g : fy_G} (C : fy_C g X_Y p s m args meth c yX1_spell.cls cX1_spell 12 none) {Sr : fy_S}  {k65 : fy_S → Nat → Nat → Nat → Int64 → Int32 → Int32 → Option (fy_S)} (hk65 : ∀ (S : fy_S) (v1 : Nat) (v2 : Nat) (v3 : Nat) (v4 : Int64) (v6 : Int32) (v7 : Int32) (H : Heap) (locs : List Loc) (ls : Array Slot), k65 S v1 v2 v3 v4 v6 v7 = some Sr → fy_W g X_Y S s H locs → X_is X_Y 7 v1 → v2 ∈ X_Y.2 ∧ X_Y.1 v2 = .inl (0, (X_al v2), X_ar v2) → X_is X_Y 8 v3 → lv_has ls 12 [(0, .ref (g.2.2.1 32)), (1, .ref (g.2.2.1 v1)), (2, .ref (g.2.2.1 v2)), (3, .ref (g.2.2.1 v3)), (4, .long v4), (6, .int v6), (7, .int v7)] → W p l e (fy_rm 2) s m args below meth c H locs 0 0 (MQ below (fy_QV g X_Y Sr) args s 0 0 (fy_A g X_Y)) (F0 m 65 ls [])) : ∀ (fu : Nat) (S : fy_S) (v1 : Nat) (v2 : Nat) (v3 : Nat) (v4 : Int64) (v6 : Int32) (v7 : Int32) (v8 : Int32) (v9 : Int64) (v11 : Int32) (H : Heap) (locs : List Loc) (ls : Array Slot), X1_spell_86 k65 fu S v1 v2 v3 v4 v6 v7 v8 v9 v11 = some Sr → fy_W g X_Y S s H locs → X_is X_Y 7 v1 → v2 ∈ X_Y.2 ∧ X_Y.1 v2 = .inl (0, (X_al v2), X_ar v2) → X_is X_Y 8 v3 → lv_has ls 12 [(0, .ref (g.2.2.1 32)), (1, .ref (g.2.2.1 v1)), (2, .ref (g.2.2.1 v2)), (3, .ref (g.2.2.1 v3)), (4, .long v4), (6, .int v6), (7, .int v7), (8, .int v8), (9, .long v9), (11, .int v11)] → W p l e (fy_rm 2) s m args below meth c H locs 0 0 (MQ below (fy_QV g X_Y Sr) args s 0 0 (fy_A g X_Y)) (F0 m 86 ls []) := by
  obtain ⟨hx, hb, hr, hts, hown, hlk, hml, hK, hD, hE, hN⟩ := id C
  intro fu
  induction fu with
  | zero => intro S v1 v2 v3 v4 v6 v7 v8 v9 v11 H locs ls h; cases h
  | succ fu ih =>
    intro S v1 v2 v3 v4 v6 v7 v8 v9 v11 H locs ls h w q1 q2 q3 hl
    rw [X1_spell_86] at h
    refine lv_iload hx hb dX1_spell_86 (lv_at hl 9 rfl) ?_
    refine lv_aload_n hx hb dX1_spell_88 rfl (lv_at hl 1 rfl) ?_
    refine gfX1_45 X_full C w q1 dX1_spell_89 ?_
    refine lv_icmp_ge (tgt := 132) hx hb dX1_spell_92 (by decide) (fun hc => ?_) (fun hc => ?_)
    · have h := fy_if_t h hc
      exact t_X1_spell_132 C hk65 _ _ _ _ _ _ _ _ _ _ _ h w q1 q2 q3 (lv_sub hl [0, 1, 2, 3, 5, 6, 7, 8] rfl)
    · have h := fy_if_f h hc
      refine lv_lload hx hb dX1_spell_95 (lv_at hl 8 rfl) ?_
      refine lv_lconst (v := (0 : Int64)) hx hb dX1_spell_97 (by decide) ?_
      refine W.lcmp hx hb dX1_spell_98 ?_
      refine lv_if_ne (tgt := 132) hx hb dX1_spell_99 (by decide) (fun hc => ?_) (fun hc => ?_)
      · have h := fy_if_f h hc
        exact t_X1_spell_132 C hk65 _ _ _ _ _ _ _ _ _ _ _ h w q1 q2 q3 (lv_sub hl [0, 1, 2, 3, 5, 6, 7, 8] rfl)
      · have h := fy_if_t h hc
        refine lv_iload hx hb dX1_spell_102 (lv_at hl 9 rfl) ?_
        refine lv_istore (lv' := [(8, .int v11), (0, .ref (g.2.2.1 32)), (1, .ref (g.2.2.1 v1)), (2, .ref (g.2.2.1 v2)), (3, .ref (g.2.2.1 v3)), (4, .long v4), (6, .int v6), (7, .int v7), (9, .long v9), (11, .int v11)]) hx hb dX1_spell_104 hl (by decide) rfl (fun ls hl => ?_)
        refine lv_aload_n hx hb dX1_spell_106 rfl (lv_at hl 1 rfl) ?_
        refine lv_aload_n hx hb dX1_spell_107 rfl (lv_at hl 2 rfl) ?_
        refine lv_lload hx hb dX1_spell_108 (lv_at hl 5 rfl) ?_
        refine lv_iload hx hb dX1_spell_110 (lv_at hl 9 rfl) ?_
        refine lv_iload hx hb dX1_spell_112 (lv_at hl 6 rfl) ?_
        refine lv_aload_n hx hb dX1_spell_114 rfl (lv_at hl 3 rfl) ?_
        refine lv_iload hx hb dX1_spell_115 (lv_at hl 9 rfl) ?_
        obtain ⟨r117, h117, h⟩ := fy_bd_some h
        refine fy_calI w (fy_runS (As := [.ref (g.2.2.1 v2), .int v11]) (rest := [.int v6, .int v11, .long v4, .ref (g.2.2.1 v1), .ref (g.2.2.1 32)]) C w (c_X1_priceOf l g (X_an X_full q2) h117) ksX1_48 ⟨Nat.le_of_ble_eq_true rfl, Nat.le_of_ble_eq_true rfl⟩ rfl hl.1 rfl (Nat.le_of_ble_eq_true rfl) ⟨Nat.le_refl _, Nat.le_refl _⟩ dX1_spell_117) (fun H locs w => ?_)
        refine lv_isub hx hb dX1_spell_120 ?_
        obtain ⟨r121, h121, h⟩ := fy_bd_some h
        refine fy_calL w (fy_runV (As := [.ref (g.2.2.1 v1), .long v4, .int v11, .int (v6 - r117)]) (rest := []) C w (c_X1_waysInto l g q1 h121) (X_o1 X_full (X_i32)) ksX1_60 rfl ⟨Nat.le_of_ble_eq_true rfl, Nat.le_of_ble_eq_true rfl⟩ rfl hl.1 rfl (Nat.le_of_ble_eq_true rfl) ⟨Nat.le_refl _, Nat.le_refl _⟩ dX1_spell_121) (fun H locs w => ?_)
        refine lv_lstore (lv' := [(9, .long r121), (8, .int v11), (0, .ref (g.2.2.1 32)), (1, .ref (g.2.2.1 v1)), (2, .ref (g.2.2.1 v2)), (3, .ref (g.2.2.1 v3)), (4, .long v4), (6, .int v6), (7, .int v7), (11, .int v11)]) hx hb dX1_spell_124 hl (by decide) rfl (fun ls hl => ?_)
        obtain ⟨x126, e126⟩ : ∃ z : Int32, z = v11 + (1 : Int32) := ⟨_, rfl⟩
        have h := fy_bl_some e126 h
        refine lv_iinc (k := 9) (v := x126) (lv' := [(11, .int x126), (9, .long r121), (8, .int v11), (0, .ref (g.2.2.1 32)), (1, .ref (g.2.2.1 v1)), (2, .ref (g.2.2.1 v2)), (3, .ref (g.2.2.1 v3)), (4, .long v4), (6, .int v6), (7, .int v7)]) hx hb dX1_spell_126 hl rfl (by rw [e126]; rfl) (by decide) rfl (fun ls hl => ?_)
        refine lv_goto (tgt := 86) hx hb dX1_spell_129 (by decide) ?_
        exact ih _ _ _ _ _ _ _ _ _ _ _ _ _ h w q1 q2 q3 (lv_sub hl [3, 4, 5, 6, 7, 8, 9, 2, 1, 0] rfl)

set_option maxHeartbeats 4000000 in
set_option maxRecDepth 100000 in
theorem t_X1_spell_65 {p : Program} {l : Launch} {e : Env} {s : State} {m : MethodId} {args : Array Value} {below : List Frame} {meth : Method} {c : Code} {g : fy_G} (C : fy_C g X_Y p s m args meth c yX1_spell.cls cX1_spell 12 none) {Sr : fy_S}  : ∀ (fu : Nat) (S : fy_S) (v1 : Nat) (v2 : Nat) (v3 : Nat) (v4 : Int64) (v6 : Int32) (v7 : Int32) (H : Heap) (locs : List Loc) (ls : Array Slot), X1_spell_65 fu S v1 v2 v3 v4 v6 v7 = some Sr → fy_W g X_Y S s H locs → X_is X_Y 7 v1 → v2 ∈ X_Y.2 ∧ X_Y.1 v2 = .inl (0, (X_al v2), X_ar v2) → X_is X_Y 8 v3 → lv_has ls 12 [(0, .ref (g.2.2.1 32)), (1, .ref (g.2.2.1 v1)), (2, .ref (g.2.2.1 v2)), (3, .ref (g.2.2.1 v3)), (4, .long v4), (6, .int v6), (7, .int v7)] → W p l e (fy_rm 2) s m args below meth c H locs 0 0 (MQ below (fy_QV g X_Y Sr) args s 0 0 (fy_A g X_Y)) (F0 m 65 ls []) := by
  obtain ⟨hx, hb, hr, hts, hown, hlk, hml, hK, hD, hE, hN⟩ := id C
  intro fu
  induction fu with
  | zero => intro S v1 v2 v3 v4 v6 v7 H locs ls h; cases h
  | succ fu ih =>
    intro S v1 v2 v3 v4 v6 v7 H locs ls h w q1 q2 q3 hl
    rw [X1_spell_65] at h
    refine lv_iload hx hb dX1_spell_65 (lv_at hl 6 rfl) ?_
    refine lv_bipush (v := (64 : Int32)) hx hb dX1_spell_67 (by decide) ?_
    refine lv_icmp_ge (tgt := 159) hx hb dX1_spell_69 (by decide) (fun hc => ?_) (fun hc => ?_)
    · have h := fy_if_t h hc
      cases h
      exact fy_retV C w dX1_spell_159
    · have h := fy_if_f h hc
      refine lv_iload hx hb dX1_spell_72 (lv_at hl 5 rfl) ?_
      refine lv_if_le (tgt := 159) hx hb dX1_spell_74 (by decide) (fun hc => ?_) (fun hc => ?_)
      · have h := fy_if_t h hc
        cases h
        exact fy_retV C w dX1_spell_159
      · have h := fy_if_f h hc
        refine lv_iconst (v := (0 : Int32)) hx hb dX1_spell_77 (by decide) ?_
        refine lv_istore (lv' := [(8, .int (0 : Int32)), (0, .ref (g.2.2.1 32)), (1, .ref (g.2.2.1 v1)), (2, .ref (g.2.2.1 v2)), (3, .ref (g.2.2.1 v3)), (4, .long v4), (6, .int v6), (7, .int v7)]) hx hb dX1_spell_78 hl (by decide) rfl (fun ls hl => ?_)
        refine lv_lconst (v := (0 : Int64)) hx hb dX1_spell_80 (by decide) ?_
        refine lv_lstore (lv' := [(9, .long (0 : Int64)), (8, .int (0 : Int32)), (0, .ref (g.2.2.1 32)), (1, .ref (g.2.2.1 v1)), (2, .ref (g.2.2.1 v2)), (3, .ref (g.2.2.1 v3)), (4, .long v4), (6, .int v6), (7, .int v7)]) hx hb dX1_spell_81 hl (by decide) rfl (fun ls hl => ?_)
        refine lv_iconst (v := (0 : Int32)) hx hb dX1_spell_83 (by decide) ?_
        refine lv_istore (lv' := [(11, .int (0 : Int32)), (9, .long (0 : Int64)), (8, .int (0 : Int32)), (0, .ref (g.2.2.1 32)), (1, .ref (g.2.2.1 v1)), (2, .ref (g.2.2.1 v2)), (3, .ref (g.2.2.1 v3)), (4, .long v4), (6, .int v6), (7, .int v7)]) hx hb dX1_spell_84 hl (by decide) rfl (fun ls hl => ?_)
        exact t_X1_spell_86 C ih fy_fu _ _ _ _ _ _ _ _ _ _ _ _ _ h w q1 q2 q3 (lv_sub hl [3, 4, 5, 6, 7, 8, 9, 2, 1, 0] rfl)

set_option maxHeartbeats 4000000 in
set_option maxRecDepth 100000 in
theorem t_X1_spell_11 {p : Program} {l : Launch} {e : Env} {s : State} {m : MethodId} {args : Array Value} {below : List Frame} {meth : Method} {c : Code} {g : fy_G} (C : fy_C g X_Y p s m args meth c yX1_spell.cls cX1_spell 12 none) {Sr : fy_S}  : ∀ (fu : Nat) (S : fy_S) (v1 : Nat) (v2 : Nat) (v3 : Nat) (v4 : Int64) (v6 : Int32) (H : Heap) (locs : List Loc) (ls : Array Slot), X1_spell_11 fu S v1 v2 v3 v4 v6 = some Sr → fy_W g X_Y S s H locs → X_is X_Y 7 v1 → v2 ∈ X_Y.2 ∧ X_Y.1 v2 = .inl (0, (X_al v2), X_ar v2) → X_is X_Y 8 v3 → lv_has ls 12 [(0, .ref (g.2.2.1 32)), (1, .ref (g.2.2.1 v1)), (2, .ref (g.2.2.1 v2)), (3, .ref (g.2.2.1 v3)), (4, .long v4), (6, .int v6)] → W p l e (fy_rm 2) s m args below meth c H locs 0 0 (MQ below (fy_QV g X_Y Sr) args s 0 0 (fy_A g X_Y)) (F0 m 11 ls []) := by
  obtain ⟨hx, hb, hr, hts, hown, hlk, hml, hK, hD, hE, hN⟩ := id C
  intro fu
  induction fu with
  | zero => intro S v1 v2 v3 v4 v6 H locs ls h; cases h
  | succ fu ih =>
    intro S v1 v2 v3 v4 v6 H locs ls h w q1 q2 q3 hl
    rw [X1_spell_11] at h
    refine lv_iload hx hb dX1_spell_11 (lv_at hl 5 rfl) ?_
    refine lv_bipush (v := (64 : Int32)) hx hb dX1_spell_13 (by decide) ?_
    refine lv_icmp_ge (tgt := 56) hx hb dX1_spell_15 (by decide) (fun hc => ?_) (fun hc => ?_)
    · have h := fy_if_t h hc
      refine lv_aload_n hx hb dX1_spell_56 rfl (lv_at hl 0 rfl) ?_
      refine gfX1_16 X_full C w (X_i32) dX1_spell_57 ?_
      refine lv_topi (fun x60 e60 => ?_)
      have h := fy_bl_some e60 h
      refine lv_istore (lv' := [(6, .int x60), (0, .ref (g.2.2.1 32)), (1, .ref (g.2.2.1 v1)), (2, .ref (g.2.2.1 v2)), (3, .ref (g.2.2.1 v3)), (4, .long v4)]) hx hb dX1_spell_60 hl (by decide) rfl (fun ls hl => ?_)
      refine lv_iconst (v := (0 : Int32)) hx hb dX1_spell_62 (by decide) ?_
      refine lv_istore (lv' := [(7, .int (0 : Int32)), (6, .int x60), (0, .ref (g.2.2.1 32)), (1, .ref (g.2.2.1 v1)), (2, .ref (g.2.2.1 v2)), (3, .ref (g.2.2.1 v3)), (4, .long v4)]) hx hb dX1_spell_63 hl (by decide) rfl (fun ls hl => ?_)
      exact t_X1_spell_65 C fy_fu _ _ _ _ _ _ _ _ _ _ h w q1 q2 q3 (lv_sub hl [2, 3, 4, 5, 6, 1, 0] rfl)
    · have h := fy_if_f h hc
      refine lv_aload_n hx hb dX1_spell_18 rfl (lv_at hl 1 rfl) ?_
      refine lv_iload hx hb dX1_spell_19 (lv_at hl 5 rfl) ?_
      obtain ⟨r21, h21, h⟩ := fy_bd_some h
      refine fy_calI w (fy_runV (As := [.int v6]) (rest := []) C w (c_X7_isAccepting l g q1 h21) (X_o7 X_full q1) ksX1_35 rfl ⟨Nat.le_of_ble_eq_true rfl, Nat.le_of_ble_eq_true rfl⟩ rfl hl.1 rfl (Nat.le_of_ble_eq_true rfl) ⟨Nat.le_refl _, Nat.le_refl _⟩ dX1_spell_21) (fun H locs w => ?_)
      refine lv_if_eq (tgt := 50) hx hb dX1_spell_24 (by decide) (fun hc => ?_) (fun hc => ?_)
      · have h := fy_if_t h hc
        obtain ⟨x50, e50⟩ : ∃ z : Int32, z = v6 + (1 : Int32) := ⟨_, rfl⟩
        have h := fy_bl_some e50 h
        refine lv_iinc (k := 5) (v := x50) (lv' := [(6, .int x50), (0, .ref (g.2.2.1 32)), (1, .ref (g.2.2.1 v1)), (2, .ref (g.2.2.1 v2)), (3, .ref (g.2.2.1 v3)), (4, .long v4)]) hx hb dX1_spell_50 hl rfl (by rw [e50]; rfl) (by decide) rfl (fun ls hl => ?_)
        refine lv_goto (tgt := 11) hx hb dX1_spell_53 (by decide) ?_
        exact ih _ _ _ _ _ _ _ _ _ h w q1 q2 q3 (lv_sub hl [1, 2, 3, 4, 5, 0] rfl)
      · have h := fy_if_f h hc
        refine lv_aload_n hx hb dX1_spell_27 rfl (lv_at hl 0 rfl) ?_
        refine gfX1_9 X_full C w (X_i32) dX1_spell_28 ?_
        refine lv_iload hx hb dX1_spell_31 (lv_at hl 5 rfl) ?_
        obtain ⟨g33, h⟩ := fy_gd_some h
        refine fy_iald C w X_a33 g33 dX1_spell_33 ?_
        refine lv_aload_n hx hb dX1_spell_34 rfl (lv_at hl 0 rfl) ?_
        refine gfX1_16 X_full C w (X_i32) dX1_spell_35 ?_
        refine lv_icmp_ne (tgt := 50) hx hb dX1_spell_38 (by decide) (fun hc => ?_) (fun hc => ?_)
        · have h := fy_if_f h hc
          obtain ⟨x50, e50⟩ : ∃ z : Int32, z = v6 + (1 : Int32) := ⟨_, rfl⟩
          have h := fy_bl_some e50 h
          refine lv_iinc (k := 5) (v := x50) (lv' := [(6, .int x50), (0, .ref (g.2.2.1 32)), (1, .ref (g.2.2.1 v1)), (2, .ref (g.2.2.1 v2)), (3, .ref (g.2.2.1 v3)), (4, .long v4)]) hx hb dX1_spell_50 hl rfl (by rw [e50]; rfl) (by decide) rfl (fun ls hl => ?_)
          refine lv_goto (tgt := 11) hx hb dX1_spell_53 (by decide) ?_
          exact ih _ _ _ _ _ _ _ _ _ h w q1 q2 q3 (lv_sub hl [1, 2, 3, 4, 5, 0] rfl)
        · have h := fy_if_t h hc
          refine lv_lload hx hb dX1_spell_41 (lv_at hl 4 rfl) ?_
          refine lv_lconst (v := (1 : Int64)) hx hb dX1_spell_43 (by decide) ?_
          refine lv_iload hx hb dX1_spell_44 (lv_at hl 5 rfl) ?_
          refine lv_lshl (v := (1 : Int64) <<< (v6.toInt64 &&& 63)) hx hb dX1_spell_46 rfl ?_
          refine lv_lor hx hb dX1_spell_47 ?_
          refine lv_topl (fun x48 e48 => ?_)
          have h := fy_bl_some e48 h
          refine lv_lstore (lv' := [(4, .long x48), (0, .ref (g.2.2.1 32)), (1, .ref (g.2.2.1 v1)), (2, .ref (g.2.2.1 v2)), (3, .ref (g.2.2.1 v3)), (6, .int v6)]) hx hb dX1_spell_48 hl (by decide) rfl (fun ls hl => ?_)
          obtain ⟨x50, e50⟩ : ∃ z : Int32, z = v6 + (1 : Int32) := ⟨_, rfl⟩
          have h := fy_bl_some e50 h
          refine lv_iinc (k := 5) (v := x50) (lv' := [(6, .int x50), (4, .long x48), (0, .ref (g.2.2.1 32)), (1, .ref (g.2.2.1 v1)), (2, .ref (g.2.2.1 v2)), (3, .ref (g.2.2.1 v3))]) hx hb dX1_spell_50 hl rfl (by rw [e50]; rfl) (by decide) rfl (fun ls hl => ?_)
          refine lv_goto (tgt := 11) hx hb dX1_spell_53 (by decide) ?_
          exact ih _ _ _ _ _ _ _ _ _ h w q1 q2 q3 (lv_sub hl [2, 3, 4, 5, 1, 0] rfl)

set_option maxHeartbeats 4000000 in
set_option maxRecDepth 100000 in
theorem t_X1_spell {p : Program} {l : Launch} {e : Env} {s : State} {m : MethodId} {args : Array Value} {below : List Frame} {meth : Method} {c : Code} {g : fy_G} (C : fy_C g X_Y p s m args meth c yX1_spell.cls cX1_spell 12 none) {S : fy_S} {v1 : Nat} {v2 : Nat} {v3 : Nat} {Sr : fy_S}  (q1 : X_is X_Y 7 v1) (q2 : v2 ∈ X_Y.2 ∧ X_Y.1 v2 = .inl (0, X_al v2, X_ar v2)) (q3 : X_is X_Y 8 v3) {H : Heap} {locs : List Loc} {ls : Array Slot} (h : X1_spell S v1 v2 v3 = some Sr) (w : fy_W g X_Y S s H locs) (hl : lv_has ls 12 [(0, .ref (g.2.2.1 32)), (1, .ref (g.2.2.1 v1)), (2, .ref (g.2.2.1 v2)), (3, .ref (g.2.2.1 v3))]) : W p l e (fy_rm 2) s m args below meth c H locs 0 0 (MQ below (fy_QV g X_Y Sr) args s 0 0 (fy_A g X_Y)) (F0 m 0 ls []) := by
  obtain ⟨hx, hb, hr, hts, hown, hlk, hml, hK, hD, hE, hN⟩ := id C
  rw [X1_spell] at h
  refine lv_aload_n hx hb dX1_spell_0 rfl (lv_at hl 3 rfl) ?_
  refine lv_iconst (v := (0 : Int32)) hx hb dX1_spell_1 (by decide) ?_
  refine pfX1_55 X_full C w q3 dX1_spell_2 (fun H locs w => ?_)
  obtain ⟨S2, e2⟩ : ∃ z, z = fy_sI S v3 1 (0 : Int32) := ⟨_, rfl⟩
  have h := fy_bl_some e2 h
  rw [← e2] at w
  refine lv_lconst (v := (0 : Int64)) hx hb dX1_spell_5 (by decide) ?_
  refine lv_lstore (lv' := [(4, .long (0 : Int64)), (0, .ref (g.2.2.1 32)), (1, .ref (g.2.2.1 v1)), (2, .ref (g.2.2.1 v2)), (3, .ref (g.2.2.1 v3))]) hx hb dX1_spell_6 hl (by decide) rfl (fun ls hl => ?_)
  refine lv_iconst (v := (0 : Int32)) hx hb dX1_spell_8 (by decide) ?_
  refine lv_istore (lv' := [(6, .int (0 : Int32)), (4, .long (0 : Int64)), (0, .ref (g.2.2.1 32)), (1, .ref (g.2.2.1 v1)), (2, .ref (g.2.2.1 v2)), (3, .ref (g.2.2.1 v3))]) hx hb dX1_spell_9 hl (by decide) rfl (fun ls hl => ?_)
  exact t_X1_spell_11 C fy_fu _ _ _ _ _ _ _ _ _ h w q1 q2 q3 (lv_sub hl [2, 3, 4, 5, 1, 0] rfl)

set_option maxHeartbeats 4000000 in
set_option maxRecDepth 100000 in
theorem c_X1_spell (l : Launch) (g : fy_G) {S : fy_S} {v1 : Nat} {v2 : Nat} {v3 : Nat} {Sr : fy_S}  (q1 : X_is X_Y 7 v1) (q2 : v2 ∈ X_Y.2 ∧ X_Y.1 v2 = .inl (0, X_al v2, X_ar v2)) (q3 : X_is X_Y 8 v3) (h : X1_spell S v1 v2 v3 = some Sr) : fy_M g X_Y l yX1_spell cX1_spell 12 none (fy_rm 2) [.ref (g.2.2.1 32), .ref (g.2.2.1 v1), .ref (g.2.2.1 v2), .ref (g.2.2.1 v3)] S (fy_QV g X_Y Sr) :=
  fy_entry (by decide +kernel) (Nat.le_of_ble_eq_true rfl) (fun p e s m args below meth c ls C w hl => t_X1_spell C q1 q2 q3 h w hl)
def X8_costIn_4 (S : fy_S) : Nat → Nat → Nat → Int32 → Int32 → Option (Int32)
  | 0, _, _, _, _ => none
  | fu + 1, v0, v1, v2, v3 =>
    if (S.1 v0 1) ≤ v3 then (
      some v2)
    else (
      fy_gd (fy_ix v3 (X_al (v0 + 1))) <|
      fy_bd (X0_hasLetter S v1 (S.1 (v0 + 1) v3.toNatClampNeg)) fun r19 =>
      if r19 = 0 then (
        fy_bl (v3 + (1 : Int32)) fun x39 =>
        X8_costIn_4 S fu v0 v1 v2 x39)
      else (
        fy_gd (fy_ix v3 (X_al (v0 + 1))) <|
        fy_gd (fy_ix (S.1 (v0 + 1) v3.toNatClampNeg) 3) <|
        fy_bl (v2 + (S.1 (v1 + 1) (S.1 (v0 + 1) v3.toNatClampNeg).toNatClampNeg)) fun x38 =>
        fy_bl (v3 + (1 : Int32)) fun x39 =>
        X8_costIn_4 S fu v0 v1 x38 x39))
def X8_costIn (S : fy_S) (v0 : Nat) (v1 : Nat) : Option (Int32) :=
  X8_costIn_4 S fy_fu v0 v1 (0 : Int32) (0 : Int32)
set_option maxHeartbeats 4000000 in
set_option maxRecDepth 100000 in
theorem t_X8_costIn_4 {p : Program} {l : Launch} {e : Env} {s : State} {m : MethodId} {args : Array Value} {below : List Frame} {meth : Method} {c : Code} {g : fy_G} (C : fy_C g X_Y p s m args meth c yX8_costIn.cls cX8_costIn 4 (some .int)) {S : fy_S} {rr : Int32} : ∀ (fu : Nat) (v0 : Nat) (v1 : Nat) (v2 : Int32) (v3 : Int32) (H : Heap) (locs : List Loc) (ls : Array Slot), X8_costIn_4 S fu v0 v1 v2 v3 = some rr → fy_W g X_Y S s H locs → X_is X_Y 8 v0 → X_is X_Y 0 v1 → lv_has ls 4 [(0, .ref (g.2.2.1 v0)), (1, .ref (g.2.2.1 v1)), (2, .int v2), (3, .int v3)] → W p l e (fy_rm 1) s m args below meth c H locs 0 0 (MQ below (fy_QI g X_Y rr S) args s 0 0 (fy_A g X_Y)) (F0 m 4 ls []) := by
  obtain ⟨hx, hb, hr, hts, hown, hlk, hml, hK, hD, hE, hN⟩ := id C
  intro fu
  induction fu with
  | zero => intro v0 v1 v2 v3 H locs ls h; cases h
  | succ fu ih =>
    intro v0 v1 v2 v3 H locs ls h w q0 q1 hl
    rw [X8_costIn_4] at h
    refine lv_iload_n hx hb dX8_costIn_4 rfl (lv_at hl 3 rfl) ?_
    refine lv_aload_n hx hb dX8_costIn_5 rfl (lv_at hl 0 rfl) ?_
    refine gfX8_7 X_full C w q0 dX8_costIn_6 ?_
    refine lv_icmp_ge (tgt := 45) hx hb dX8_costIn_9 (by decide) (fun hc => ?_) (fun hc => ?_)
    · have h := fy_if_t h hc
      refine lv_iload_n hx hb dX8_costIn_45 rfl (lv_at hl 2 rfl) ?_
      cases h
      exact fy_retI C w dX8_costIn_46
    · have h := fy_if_f h hc
      refine lv_aload_n hx hb dX8_costIn_12 rfl (lv_at hl 1 rfl) ?_
      refine lv_aload_n hx hb dX8_costIn_13 rfl (lv_at hl 0 rfl) ?_
      refine gfX8_19 X_full C w q0 dX8_costIn_14 ?_
      refine lv_iload_n hx hb dX8_costIn_17 rfl (lv_at hl 3 rfl) ?_
      obtain ⟨g18, h⟩ := fy_gd_some h
      refine fy_bald C w (X_f8_letters X_full q0) g18 dX8_costIn_18 ?_
      obtain ⟨r19, h19, h⟩ := fy_bd_some h
      refine fy_calI w (fy_runV (As := [.int (S.1 (v0 + 1) v3.toNatClampNeg)]) (rest := []) C w (c_X0_hasLetter l g X_full q1 h19) (X_o0 X_full q1) ksX8_23 rfl ⟨Nat.le_of_ble_eq_true rfl, Nat.le_of_ble_eq_true rfl⟩ rfl hl.1 rfl (Nat.le_of_ble_eq_true rfl) ⟨Nat.le_refl _, Nat.le_refl _⟩ dX8_costIn_19) (fun H locs w => ?_)
      refine lv_if_eq (tgt := 39) hx hb dX8_costIn_22 (by decide) (fun hc => ?_) (fun hc => ?_)
      · have h := fy_if_t h hc
        obtain ⟨x39, e39⟩ : ∃ z : Int32, z = v3 + (1 : Int32) := ⟨_, rfl⟩
        have h := fy_bl_some e39 h
        refine lv_iinc (k := 3) (v := x39) (lv' := [(3, .int x39), (0, .ref (g.2.2.1 v0)), (1, .ref (g.2.2.1 v1)), (2, .int v2)]) hx hb dX8_costIn_39 hl rfl (by rw [e39]; rfl) (by decide) rfl (fun ls hl => ?_)
        refine lv_goto (tgt := 4) hx hb dX8_costIn_42 (by decide) ?_
        exact ih _ _ _ _ _ _ _ h w q0 q1 (lv_sub hl [1, 2, 3, 0] rfl)
      · have h := fy_if_f h hc
        refine lv_iload_n hx hb dX8_costIn_25 rfl (lv_at hl 2 rfl) ?_
        refine lv_aload_n hx hb dX8_costIn_26 rfl (lv_at hl 1 rfl) ?_
        refine gfX8_35 X_full C w q1 dX8_costIn_27 ?_
        refine lv_aload_n hx hb dX8_costIn_30 rfl (lv_at hl 0 rfl) ?_
        refine gfX8_19 X_full C w q0 dX8_costIn_31 ?_
        refine lv_iload_n hx hb dX8_costIn_34 rfl (lv_at hl 3 rfl) ?_
        obtain ⟨g35, h⟩ := fy_gd_some h
        refine fy_bald C w (X_f8_letters X_full q0) g35 dX8_costIn_35 ?_
        obtain ⟨g36, h⟩ := fy_gd_some h
        refine fy_iald C w (X_f0_weights X_full q1) g36 dX8_costIn_36 ?_
        refine lv_iadd hx hb dX8_costIn_37 ?_
        refine lv_topi (fun x38 e38 => ?_)
        have h := fy_bl_some e38 h
        refine lv_istore_n (lv' := [(2, .int x38), (0, .ref (g.2.2.1 v0)), (1, .ref (g.2.2.1 v1)), (3, .int v3)]) hx hb dX8_costIn_38 rfl hl (by decide) rfl (fun ls hl => ?_)
        obtain ⟨x39, e39⟩ : ∃ z : Int32, z = v3 + (1 : Int32) := ⟨_, rfl⟩
        have h := fy_bl_some e39 h
        refine lv_iinc (k := 3) (v := x39) (lv' := [(3, .int x39), (2, .int x38), (0, .ref (g.2.2.1 v0)), (1, .ref (g.2.2.1 v1))]) hx hb dX8_costIn_39 hl rfl (by rw [e39]; rfl) (by decide) rfl (fun ls hl => ?_)
        refine lv_goto (tgt := 4) hx hb dX8_costIn_42 (by decide) ?_
        exact ih _ _ _ _ _ _ _ h w q0 q1 (lv_sub hl [2, 3, 1, 0] rfl)

set_option maxHeartbeats 4000000 in
set_option maxRecDepth 100000 in
theorem t_X8_costIn {p : Program} {l : Launch} {e : Env} {s : State} {m : MethodId} {args : Array Value} {below : List Frame} {meth : Method} {c : Code} {g : fy_G} (C : fy_C g X_Y p s m args meth c yX8_costIn.cls cX8_costIn 4 (some .int)) {S : fy_S} {v0 : Nat} {v1 : Nat} {rr : Int32} (q0 : X_is X_Y 8 v0) (q1 : X_is X_Y 0 v1) {H : Heap} {locs : List Loc} {ls : Array Slot} (h : X8_costIn S v0 v1 = some rr) (w : fy_W g X_Y S s H locs) (hl : lv_has ls 4 [(0, .ref (g.2.2.1 v0)), (1, .ref (g.2.2.1 v1))]) : W p l e (fy_rm 1) s m args below meth c H locs 0 0 (MQ below (fy_QI g X_Y rr S) args s 0 0 (fy_A g X_Y)) (F0 m 0 ls []) := by
  obtain ⟨hx, hb, hr, hts, hown, hlk, hml, hK, hD, hE, hN⟩ := id C
  rw [X8_costIn] at h
  refine lv_iconst (v := (0 : Int32)) hx hb dX8_costIn_0 (by decide) ?_
  refine lv_istore_n (lv' := [(2, .int (0 : Int32)), (0, .ref (g.2.2.1 v0)), (1, .ref (g.2.2.1 v1))]) hx hb dX8_costIn_1 rfl hl (by decide) rfl (fun ls hl => ?_)
  refine lv_iconst (v := (0 : Int32)) hx hb dX8_costIn_2 (by decide) ?_
  refine lv_istore_n (lv' := [(3, .int (0 : Int32)), (2, .int (0 : Int32)), (0, .ref (g.2.2.1 v0)), (1, .ref (g.2.2.1 v1))]) hx hb dX8_costIn_3 rfl hl (by decide) rfl (fun ls hl => ?_)
  exact t_X8_costIn_4 C fy_fu _ _ _ _ _ _ _ h w q0 q1 (lv_sub hl [2, 3, 1, 0] rfl)

set_option maxHeartbeats 4000000 in
set_option maxRecDepth 100000 in
theorem c_X8_costIn (l : Launch) (g : fy_G) {S : fy_S} {v0 : Nat} {v1 : Nat} {rr : Int32} (q0 : X_is X_Y 8 v0) (q1 : X_is X_Y 0 v1) (h : X8_costIn S v0 v1 = some rr) : fy_M g X_Y l yX8_costIn cX8_costIn 4 (some .int) (fy_rm 1) [.ref (g.2.2.1 v0), .ref (g.2.2.1 v1)] S (fy_QI g X_Y rr S) :=
  fy_entry (by decide +kernel) (Nat.le_of_ble_eq_true rfl) (fun p e s m args below meth c ls C w hl => t_X8_costIn C q0 q1 h w hl)
def X9_findCheapest (S : fy_S) (v1 : Int32) : Option (fy_S × Int32) :=
  fy_bd (X9_automatonIn S v1) fun r2 =>
  match r2 with
  | none => (
    some (S, (-2 : Int32)))
  | some r2_ => (
    fy_bd (X7_load S 20 r2_) fun S18 =>
    fy_bp (X1_search S18 20 (r2_ + 1)) fun S33 r33 =>
    if r33 = 0 then (
      some (S33, (-1 : Int32)))
    else (
      fy_bd (X1_spell S33 20 (r2_ + 1) 14) fun S57 =>
      fy_bd (X8_costIn S57 14 r2_) fun r66 =>
      fy_bl (fy_sI S57 0 13 r66) fun S69 =>
      some (S69, (S69.1 14 1))))
set_option maxHeartbeats 4000000 in
set_option maxRecDepth 100000 in
theorem t_X9_findCheapest {p : Program} {l : Launch} {e : Env} {s : State} {m : MethodId} {args : Array Value} {below : List Frame} {meth : Method} {c : Code} {g : fy_G} (C : fy_C g X_Y p s m args meth c yX9_findCheapest.cls cX9_findCheapest 3 (some .int)) {S : fy_S} {v1 : Int32} {Sr : fy_S} {rr : Int32}  {H : Heap} {locs : List Loc} {ls : Array Slot} (h : X9_findCheapest S v1 = some (Sr, rr)) (w : fy_W g X_Y S s H locs) (hl : lv_has ls 3 [(0, .ref (g.2.2.1 0)), (1, .int v1)]) : W p l e (fy_rm 4) s m args below meth c H locs 0 0 (MQ below (fy_QI g X_Y rr Sr) args s 0 0 (fy_A g X_Y)) (F0 m 0 ls []) := by
  obtain ⟨hx, hb, hr, hts, hown, hlk, hml, hK, hD, hE, hN⟩ := id C
  rw [X9_findCheapest] at h
  refine lv_aload_n hx hb dX9_findCheapest_0 rfl (lv_at hl 0 rfl) ?_
  refine lv_iload_n hx hb dX9_findCheapest_1 rfl (lv_at hl 1 rfl) ?_
  obtain ⟨r2, h2, h⟩ := fy_bd_some h
  refine fy_calE w (fy_runV (As := [.int v1]) (rest := []) C w (c_X9_automatonIn l g  h2) (X_o9 X_full (X_i0)) ksX9_88 rfl ⟨Nat.le_of_ble_eq_true rfl, Nat.le_of_ble_eq_true rfl⟩ rfl hl.1 rfl (Nat.le_of_ble_eq_true rfl) ⟨Nat.le_refl _, Nat.le_refl _⟩ dX9_findCheapest_2) (fun H locs w => ?_)
  refine fy_astoreO_n (lv' := [(2, va_re g.2.2.1 r2), (0, .ref (g.2.2.1 0)), (1, .int v1)]) hx hb dX9_findCheapest_5 rfl hl (by decide) rfl (fun ls hl => ?_)
  cases r2 with
  | none =>
    dsimp only at h
    refine lv_aload_nN hx hb dX9_findCheapest_6 rfl (lv_at hl 0 rfl) ?_
    refine lv_ifnonnullN hx hb dX9_findCheapest_7 ?_
    refine lv_bipush (v := (-2 : Int32)) hx hb dX9_findCheapest_10 (by decide) ?_
    cases h
    exact fy_retI C w dX9_findCheapest_12
  | some r2_ =>
    dsimp only at h
    refine lv_aload_n hx hb dX9_findCheapest_6 rfl (lv_at hl 0 rfl) ?_
    refine lv_ifnonnull (tgt := 13) hx hb dX9_findCheapest_7 (by decide) ?_
    refine lv_aload_n hx hb dX9_findCheapest_13 rfl (lv_at hl 1 rfl) ?_
    refine gfX9_59 X_full C w (X_i0) dX9_findCheapest_14 ?_
    refine lv_aload_n hx hb dX9_findCheapest_17 rfl (lv_at hl 0 rfl) ?_
    obtain ⟨S18, h18, h⟩ := fy_bd_some h
    refine fy_calV w (fy_runV (As := [.ref (g.2.2.1 r2_)]) (rest := []) C w (c_X7_load l g X_i20 (cls_X9_automatonIn  h2) h18) (X_o7 X_full X_i20) ksX9_208 rfl ⟨Nat.le_of_ble_eq_true rfl, Nat.le_of_ble_eq_true rfl⟩ rfl hl.1 rfl (Nat.le_of_ble_eq_true rfl) ⟨Nat.le_refl _, Nat.le_refl _⟩ dX9_findCheapest_18) (fun H locs w => ?_)
    refine lv_aload_n hx hb dX9_findCheapest_21 rfl (lv_at hl 1 rfl) ?_
    refine gfX9_69 X_full C w (X_i0) dX9_findCheapest_22 ?_
    refine lv_aload_n hx hb dX9_findCheapest_25 rfl (lv_at hl 1 rfl) ?_
    refine gfX9_59 X_full C w (X_i0) dX9_findCheapest_26 ?_
    refine lv_aload_n hx hb dX9_findCheapest_29 rfl (lv_at hl 0 rfl) ?_
    refine gfX9_113 X_full C w (cls_X9_automatonIn  h2) dX9_findCheapest_30 ?_
    obtain ⟨S33, r33, h33, h⟩ := fy_bp_some h
    refine fy_calI w (fy_runV (As := [.ref (g.2.2.1 20), .ref (g.2.2.1 (r2_ + 1))]) (rest := []) C w (c_X1_search l g X_i20 (X_an X_full (X_f0_weights X_full (cls_X9_automatonIn  h2))) h33) (X_o1 X_full X_i32) ksX9_233 rfl ⟨Nat.le_of_ble_eq_true rfl, Nat.le_of_ble_eq_true rfl⟩ rfl hl.1 rfl (Nat.le_of_ble_eq_true rfl) ⟨Nat.le_refl _, Nat.le_refl _⟩ dX9_findCheapest_33) (fun H locs w => ?_)
    refine lv_if_ne (tgt := 41) hx hb dX9_findCheapest_36 (by decide) (fun hc => ?_) (fun hc => ?_)
    · have h := fy_if_f h hc
      refine lv_aload_n hx hb dX9_findCheapest_41 rfl (lv_at hl 1 rfl) ?_
      refine gfX9_69 X_full C w (X_i0) dX9_findCheapest_42 ?_
      refine lv_aload_n hx hb dX9_findCheapest_45 rfl (lv_at hl 1 rfl) ?_
      refine gfX9_59 X_full C w (X_i0) dX9_findCheapest_46 ?_
      refine lv_aload_n hx hb dX9_findCheapest_49 rfl (lv_at hl 0 rfl) ?_
      refine gfX9_113 X_full C w (cls_X9_automatonIn  h2) dX9_findCheapest_50 ?_
      refine lv_aload_n hx hb dX9_findCheapest_53 rfl (lv_at hl 1 rfl) ?_
      refine gfX9_46 X_full C w (X_i0) dX9_findCheapest_54 ?_
      obtain ⟨S57, h57, h⟩ := fy_bd_some h
      refine fy_calV w (fy_runV (As := [.ref (g.2.2.1 20), .ref (g.2.2.1 (r2_ + 1)), .ref (g.2.2.1 14)]) (rest := []) C w (c_X1_spell l g X_i20 (X_an X_full (X_f0_weights X_full (cls_X9_automatonIn  h2))) X_i14 h57) (X_o1 X_full X_i32) ksX9_237 rfl ⟨Nat.le_of_ble_eq_true rfl, Nat.le_of_ble_eq_true rfl⟩ rfl hl.1 rfl (Nat.le_of_ble_eq_true rfl) ⟨Nat.le_refl _, Nat.le_refl _⟩ dX9_findCheapest_57) (fun H locs w => ?_)
      refine lv_aload_n hx hb dX9_findCheapest_60 rfl (lv_at hl 1 rfl) ?_
      refine lv_aload_n hx hb dX9_findCheapest_61 rfl (lv_at hl 1 rfl) ?_
      refine gfX9_46 X_full C w (X_i0) dX9_findCheapest_62 ?_
      refine lv_aload_n hx hb dX9_findCheapest_65 rfl (lv_at hl 0 rfl) ?_
      obtain ⟨r66, h66, h⟩ := fy_bd_some h
      refine fy_calI w (fy_runV (As := [.ref (g.2.2.1 r2_)]) (rest := [.ref (g.2.2.1 0)]) C w (c_X8_costIn l g X_i14 (cls_X9_automatonIn  h2) h66) (X_o8 X_full X_i14) ksX9_241 rfl ⟨Nat.le_of_ble_eq_true rfl, Nat.le_of_ble_eq_true rfl⟩ rfl hl.1 rfl (Nat.le_of_ble_eq_true rfl) ⟨Nat.le_refl _, Nat.le_refl _⟩ dX9_findCheapest_66) (fun H locs w => ?_)
      refine pfX9_84 X_full C w (X_i0) dX9_findCheapest_69 (fun H locs w => ?_)
      obtain ⟨S69, e69⟩ : ∃ z, z = fy_sI S57 0 13 r66 := ⟨_, rfl⟩
      have h := fy_bl_some e69 h
      rw [← e69] at w
      refine lv_aload_n hx hb dX9_findCheapest_72 rfl (lv_at hl 1 rfl) ?_
      refine gfX9_46 X_full C w (X_i0) dX9_findCheapest_73 ?_
      refine gfX9_170 X_full C w X_i14 dX9_findCheapest_76 ?_
      cases h
      exact fy_retI C w dX9_findCheapest_79
    · have h := fy_if_t h hc
      refine lv_iconst (v := (-1 : Int32)) hx hb dX9_findCheapest_39 (by decide) ?_
      cases h
      exact fy_retI C w dX9_findCheapest_40

set_option maxHeartbeats 4000000 in
set_option maxRecDepth 100000 in
theorem c_X9_findCheapest (l : Launch) (g : fy_G) {S : fy_S} {v1 : Int32} {Sr : fy_S} {rr : Int32}  (h : X9_findCheapest S v1 = some (Sr, rr)) : fy_M g X_Y l yX9_findCheapest cX9_findCheapest 3 (some .int) (fy_rm 4) [.ref (g.2.2.1 0), .int v1] S (fy_QI g X_Y rr Sr) :=
  fy_entry (by decide +kernel) (Nat.le_of_ble_eq_true rfl) (fun p e s m args below meth c ls C w hl => t_X9_findCheapest C  h w hl)
end
