noncomputable section
def M_satisfiesWanted_25 (S : fy_S) : Nat → Int32 → Int32 → Int32 → Option (Int32)
  | 0, _, _, _ => none
  | fu + 1, v1, v2, v3 =>
    fy_gd (fy_ix (S.1 0 20) 7) <|
    if (S.1 1 (S.1 0 20).toNatClampNeg) ≤ v3 then (
      fy_gd (fy_nr .boolean v2) <| some v2)
    else (
      if v2 = 0 then (
        fy_bl (v3 + (1 : Int32)) fun x79 =>
        M_satisfiesWanted_25 S fu v1 (0 : Int32) x79)
      else (
        if (((S.1 0 22) >>> (v3 &&& 31)) &&& (1 : Int32)) = 0 then (
          fy_bl (v3 + (1 : Int32)) fun x79 =>
          M_satisfiesWanted_25 S fu v1 (1 : Int32) x79)
        else (
          fy_bd (M_formulaOf S v3 (S.1 0 23)) fun r63 =>
          fy_bd (M_satisfies S (S.1 0 20) r63 v1) fun r67 =>
          if r67 = 0 then (
            fy_bl (v3 + (1 : Int32)) fun x79 =>
            M_satisfiesWanted_25 S fu v1 (0 : Int32) x79)
          else (
            fy_bl (v3 + (1 : Int32)) fun x79 =>
            M_satisfiesWanted_25 S fu v1 (1 : Int32) x79))))
def M_satisfiesWanted (S : fy_S) (v1 : Int32) : Option (Int32) :=
  if (S.1 0 21) < 0 then (
    M_satisfiesWanted_25 S fy_fu v1 (1 : Int32) (0 : Int32))
  else (
    fy_bd (M_satisfies S (S.1 0 20) (S.1 0 21) v1) fun r17 =>
    fy_gd (fy_nr .boolean r17) <| some r17)
set_option maxHeartbeats 4000000 in
set_option maxRecDepth 100000 in
theorem t_M_satisfiesWanted_25 {p : Program} {l : Launch} {e : Env} {s : State} {m : MethodId} {args : Array Value} {below : List Frame} {meth : Method} {c : Code} {g : fy_G} (C : fy_C g M_Y p s m args meth c yX10_satisfiesWanted.cls cX10_satisfiesWanted 4 (some .boolean)) {S : fy_S} {rr : Int32} : ∀ (fu : Nat) (v1 : Int32) (v2 : Int32) (v3 : Int32) (H : Heap) (locs : List Loc) (ls : Array Slot), M_satisfiesWanted_25 S fu v1 v2 v3 = some rr → fy_W g M_Y S s H locs → lv_has ls 4 [(0, .ref (g.2.2.1 0)), (1, .int v1), (2, .int v2), (3, .int v3)] → W p l e (fy_rm 2) s m args below meth c H locs 0 0 (MQ below (fy_QI g M_Y rr S) args s 0 0 (fy_A g M_Y)) (F0 m 25 ls []) := by
  obtain ⟨hx, hb, hr, hts, hown, hlk, hml, hK, hD, hE, hN⟩ := id C
  intro fu
  induction fu with
  | zero => intro v1 v2 v3 H locs ls h; cases h
  | succ fu ih =>
    intro v1 v2 v3 H locs ls h w  hl
    rw [M_satisfiesWanted_25] at h
    refine lv_iload_n hx hb dX10_satisfiesWanted_25 rfl (lv_at hl 3 rfl) ?_
    refine lv_aload_n hx hb dX10_satisfiesWanted_26 rfl (lv_at hl 0 rfl) ?_
    refine gfX10_7 C w dX10_satisfiesWanted_27 ?_
    refine lv_aload_n hx hb dX10_satisfiesWanted_30 rfl (lv_at hl 0 rfl) ?_
    refine gfX10_215 C w dX10_satisfiesWanted_31 ?_
    obtain ⟨g34, h⟩ := fy_gd_some h
    refine fy_iald C w M_a1 g34 dX10_satisfiesWanted_34 ?_
    refine lv_icmp_ge (tgt := 85) hx hb dX10_satisfiesWanted_35 (by decide) (fun hc => ?_) (fun hc => ?_)
    · have h := fy_if_t h hc
      refine lv_iload_n hx hb dX10_satisfiesWanted_85 rfl (lv_at hl 2 rfl) ?_
      obtain ⟨gg, h⟩ := fy_gd_some h
      cases h
      exact fy_retZ C w (fy_nr_ok gg) dX10_satisfiesWanted_86
    · have h := fy_if_f h hc
      refine lv_iload_n hx hb dX10_satisfiesWanted_38 rfl (lv_at hl 2 rfl) ?_
      refine lv_if_eq (tgt := 77) hx hb dX10_satisfiesWanted_39 (by decide) (fun hc => ?_) (fun hc => ?_)
      · have h := fy_if_t h hc
        refine lv_iconst (v := (0 : Int32)) hx hb dX10_satisfiesWanted_77 (by decide) ?_
        refine lv_istore_n (lv' := [(2, .int (0 : Int32)), (0, .ref (g.2.2.1 0)), (1, .int v1), (3, .int v3)]) hx hb dX10_satisfiesWanted_78 rfl hl (by decide) rfl (fun ls hl => ?_)
        obtain ⟨x79, e79⟩ : ∃ z : Int32, z = v3 + (1 : Int32) := ⟨_, rfl⟩
        have h := fy_bl_some e79 h
        refine lv_iinc (k := 3) (v := x79) (lv' := [(3, .int x79), (2, .int (0 : Int32)), (0, .ref (g.2.2.1 0)), (1, .int v1)]) hx hb dX10_satisfiesWanted_79 hl rfl (by rw [e79]; rfl) (by decide) rfl (fun ls hl => ?_)
        refine lv_goto (tgt := 25) hx hb dX10_satisfiesWanted_82 (by decide) ?_
        exact ih _ _ _ _ _ _ h w (lv_sub hl [2, 3, 1, 0] rfl)
      · have h := fy_if_f h hc
        refine lv_aload_n hx hb dX10_satisfiesWanted_42 rfl (lv_at hl 0 rfl) ?_
        refine gfX10_218 C w dX10_satisfiesWanted_43 ?_
        refine lv_iload_n hx hb dX10_satisfiesWanted_46 rfl (lv_at hl 3 rfl) ?_
        refine lv_ishr hx hb dX10_satisfiesWanted_47 ?_
        refine lv_iconst (v := (1 : Int32)) hx hb dX10_satisfiesWanted_48 (by decide) ?_
        refine lv_iand hx hb dX10_satisfiesWanted_49 ?_
        refine lv_if_eq (tgt := 73) hx hb dX10_satisfiesWanted_50 (by decide) (fun hc => ?_) (fun hc => ?_)
        · have h := fy_if_t h hc
          refine lv_iconst (v := (1 : Int32)) hx hb dX10_satisfiesWanted_73 (by decide) ?_
          refine lv_goto (tgt := 78) hx hb dX10_satisfiesWanted_74 (by decide) ?_
          refine lv_istore_n (lv' := [(2, .int (1 : Int32)), (0, .ref (g.2.2.1 0)), (1, .int v1), (3, .int v3)]) hx hb dX10_satisfiesWanted_78 rfl hl (by decide) rfl (fun ls hl => ?_)
          obtain ⟨x79, e79⟩ : ∃ z : Int32, z = v3 + (1 : Int32) := ⟨_, rfl⟩
          have h := fy_bl_some e79 h
          refine lv_iinc (k := 3) (v := x79) (lv' := [(3, .int x79), (2, .int (1 : Int32)), (0, .ref (g.2.2.1 0)), (1, .int v1)]) hx hb dX10_satisfiesWanted_79 hl rfl (by rw [e79]; rfl) (by decide) rfl (fun ls hl => ?_)
          refine lv_goto (tgt := 25) hx hb dX10_satisfiesWanted_82 (by decide) ?_
          exact ih _ _ _ _ _ _ h w (lv_sub hl [2, 3, 1, 0] rfl)
        · have h := fy_if_f h hc
          refine lv_aload_n hx hb dX10_satisfiesWanted_53 rfl (lv_at hl 0 rfl) ?_
          refine lv_aload_n hx hb dX10_satisfiesWanted_54 rfl (lv_at hl 0 rfl) ?_
          refine gfX10_215 C w dX10_satisfiesWanted_55 ?_
          refine lv_iload_n hx hb dX10_satisfiesWanted_58 rfl (lv_at hl 3 rfl) ?_
          refine lv_aload_n hx hb dX10_satisfiesWanted_59 rfl (lv_at hl 0 rfl) ?_
          refine gfX10_221 C w dX10_satisfiesWanted_60 ?_
          obtain ⟨r63, h63, h⟩ := fy_bd_some h
          refine fy_calI w (fy_runS (As := [.int v3, .int (S.1 0 23)]) (rest := [.int (S.1 0 20), .ref (g.2.2.1 0)]) C w (c_M_formulaOf l g  h63) ksX10_176 ⟨Nat.le_of_ble_eq_true rfl, Nat.le_of_ble_eq_true rfl⟩ rfl hl.1 rfl (Nat.le_of_ble_eq_true rfl) ⟨Nat.le_refl _, Nat.le_refl _⟩ dX10_satisfiesWanted_63) (fun H locs w => ?_)
          refine lv_iload_n hx hb dX10_satisfiesWanted_66 rfl (lv_at hl 1 rfl) ?_
          obtain ⟨r67, h67, h⟩ := fy_bd_some h
          refine fy_calI w (fy_runV (As := [.int (S.1 0 20), .int r63, .int v1]) (rest := []) C w (c_M_satisfies l g  h67) M_o ksX10_209 rfl ⟨Nat.le_of_ble_eq_true rfl, Nat.le_of_ble_eq_true rfl⟩ rfl hl.1 rfl (Nat.le_of_ble_eq_true rfl) ⟨Nat.le_refl _, Nat.le_refl _⟩ dX10_satisfiesWanted_67) (fun H locs w => ?_)
          refine lv_if_eq (tgt := 77) hx hb dX10_satisfiesWanted_70 (by decide) (fun hc => ?_) (fun hc => ?_)
          · have h := fy_if_t h hc
            refine lv_iconst (v := (0 : Int32)) hx hb dX10_satisfiesWanted_77 (by decide) ?_
            refine lv_istore_n (lv' := [(2, .int (0 : Int32)), (0, .ref (g.2.2.1 0)), (1, .int v1), (3, .int v3)]) hx hb dX10_satisfiesWanted_78 rfl hl (by decide) rfl (fun ls hl => ?_)
            obtain ⟨x79, e79⟩ : ∃ z : Int32, z = v3 + (1 : Int32) := ⟨_, rfl⟩
            have h := fy_bl_some e79 h
            refine lv_iinc (k := 3) (v := x79) (lv' := [(3, .int x79), (2, .int (0 : Int32)), (0, .ref (g.2.2.1 0)), (1, .int v1)]) hx hb dX10_satisfiesWanted_79 hl rfl (by rw [e79]; rfl) (by decide) rfl (fun ls hl => ?_)
            refine lv_goto (tgt := 25) hx hb dX10_satisfiesWanted_82 (by decide) ?_
            exact ih _ _ _ _ _ _ h w (lv_sub hl [2, 3, 1, 0] rfl)
          · have h := fy_if_f h hc
            refine lv_iconst (v := (1 : Int32)) hx hb dX10_satisfiesWanted_73 (by decide) ?_
            refine lv_goto (tgt := 78) hx hb dX10_satisfiesWanted_74 (by decide) ?_
            refine lv_istore_n (lv' := [(2, .int (1 : Int32)), (0, .ref (g.2.2.1 0)), (1, .int v1), (3, .int v3)]) hx hb dX10_satisfiesWanted_78 rfl hl (by decide) rfl (fun ls hl => ?_)
            obtain ⟨x79, e79⟩ : ∃ z : Int32, z = v3 + (1 : Int32) := ⟨_, rfl⟩
            have h := fy_bl_some e79 h
            refine lv_iinc (k := 3) (v := x79) (lv' := [(3, .int x79), (2, .int (1 : Int32)), (0, .ref (g.2.2.1 0)), (1, .int v1)]) hx hb dX10_satisfiesWanted_79 hl rfl (by rw [e79]; rfl) (by decide) rfl (fun ls hl => ?_)
            refine lv_goto (tgt := 25) hx hb dX10_satisfiesWanted_82 (by decide) ?_
            exact ih _ _ _ _ _ _ h w (lv_sub hl [2, 3, 1, 0] rfl)

set_option maxHeartbeats 4000000 in
set_option maxRecDepth 100000 in
theorem t_M_satisfiesWanted {p : Program} {l : Launch} {e : Env} {s : State} {m : MethodId} {args : Array Value} {below : List Frame} {meth : Method} {c : Code} {g : fy_G} (C : fy_C g M_Y p s m args meth c yX10_satisfiesWanted.cls cX10_satisfiesWanted 4 (some .boolean)) {S : fy_S} {v1 : Int32} {rr : Int32}  {H : Heap} {locs : List Loc} {ls : Array Slot} (h : M_satisfiesWanted S v1 = some rr) (w : fy_W g M_Y S s H locs) (hl : lv_has ls 4 [(0, .ref (g.2.2.1 0)), (1, .int v1)]) : W p l e (fy_rm 2) s m args below meth c H locs 0 0 (MQ below (fy_QI g M_Y rr S) args s 0 0 (fy_A g M_Y)) (F0 m 0 ls []) := by
  obtain ⟨hx, hb, hr, hts, hown, hlk, hml, hK, hD, hE, hN⟩ := id C
  rw [M_satisfiesWanted] at h
  refine lv_aload_n hx hb dX10_satisfiesWanted_0 rfl (lv_at hl 0 rfl) ?_
  refine gfX10_212 C w dX10_satisfiesWanted_1 ?_
  refine lv_if_lt (tgt := 21) hx hb dX10_satisfiesWanted_4 (by decide) (fun hc => ?_) (fun hc => ?_)
  · have h := fy_if_t h hc
    refine lv_iconst (v := (1 : Int32)) hx hb dX10_satisfiesWanted_21 (by decide) ?_
    refine lv_istore_n (lv' := [(2, .int (1 : Int32)), (0, .ref (g.2.2.1 0)), (1, .int v1)]) hx hb dX10_satisfiesWanted_22 rfl hl (by decide) rfl (fun ls hl => ?_)
    refine lv_iconst (v := (0 : Int32)) hx hb dX10_satisfiesWanted_23 (by decide) ?_
    refine lv_istore_n (lv' := [(3, .int (0 : Int32)), (2, .int (1 : Int32)), (0, .ref (g.2.2.1 0)), (1, .int v1)]) hx hb dX10_satisfiesWanted_24 rfl hl (by decide) rfl (fun ls hl => ?_)
    exact t_M_satisfiesWanted_25 C fy_fu _ _ _ _ _ _ h w (lv_sub hl [2, 3, 1, 0] rfl)
  · have h := fy_if_f h hc
    refine lv_aload_n hx hb dX10_satisfiesWanted_7 rfl (lv_at hl 0 rfl) ?_
    refine lv_aload_n hx hb dX10_satisfiesWanted_8 rfl (lv_at hl 0 rfl) ?_
    refine gfX10_215 C w dX10_satisfiesWanted_9 ?_
    refine lv_aload_n hx hb dX10_satisfiesWanted_12 rfl (lv_at hl 0 rfl) ?_
    refine gfX10_212 C w dX10_satisfiesWanted_13 ?_
    refine lv_iload_n hx hb dX10_satisfiesWanted_16 rfl (lv_at hl 1 rfl) ?_
    obtain ⟨r17, h17, h⟩ := fy_bd_some h
    refine fy_calI w (fy_runV (As := [.int (S.1 0 20), .int (S.1 0 21), .int v1]) (rest := []) C w (c_M_satisfies l g  h17) M_o ksX10_209 rfl ⟨Nat.le_of_ble_eq_true rfl, Nat.le_of_ble_eq_true rfl⟩ rfl hl.1 rfl (Nat.le_of_ble_eq_true rfl) ⟨Nat.le_refl _, Nat.le_refl _⟩ dX10_satisfiesWanted_17) (fun H locs w => ?_)
    obtain ⟨gg, h⟩ := fy_gd_some h
    cases h
    exact fy_retZ C w (fy_nr_ok gg) dX10_satisfiesWanted_20

set_option maxHeartbeats 4000000 in
set_option maxRecDepth 100000 in
theorem c_M_satisfiesWanted (l : Launch) (g : fy_G) {S : fy_S} {v1 : Int32} {rr : Int32}  (h : M_satisfiesWanted S v1 = some rr) : fy_M g M_Y l yX10_satisfiesWanted cX10_satisfiesWanted 4 (some .boolean) (fy_rm 2) [.ref (g.2.2.1 0), .int v1] S (fy_QI g M_Y rr S) :=
  fy_entry (by decide +kernel) (Nat.le_of_ble_eq_true rfl) (fun p e s m args below meth c ls C w hl => t_M_satisfiesWanted C  h w hl)
def M_isMinimal_8 (S : fy_S) : Nat → Int32 → Int32 → Int32 → Option (Int32)
  | 0, _, _, _ => none
  | fu + 1, v1, v2, v3 =>
    if (6 : Int32) ≤ v3 then (
      fy_gd (fy_nr .boolean v2) <| some v2)
    else (
      if v2 = 0 then (
        fy_gd (fy_nr .boolean v2) <| some v2)
      else (
        if ((v1 >>> (v3 &&& 31)) &&& (1 : Int32)) = 0 then (
          fy_bl (v3 + (1 : Int32)) fun x46 =>
          M_isMinimal_8 S fu v1 (1 : Int32) x46)
        else (
          fy_bd (M_satisfiesWanted S (v1 &&& (((1 : Int32) <<< (v3 &&& 31)) ^^^ (-1 : Int32)))) fun r34 =>
          if r34 = 0 then (
            fy_bl (v3 + (1 : Int32)) fun x46 =>
            M_isMinimal_8 S fu v1 (1 : Int32) x46)
          else (
            fy_bl (v3 + (1 : Int32)) fun x46 =>
            M_isMinimal_8 S fu v1 (0 : Int32) x46))))
def M_isMinimal (S : fy_S) (v1 : Int32) : Option (Int32) :=
  fy_bd (M_satisfiesWanted S v1) fun r2 =>
  M_isMinimal_8 S fy_fu v1 r2 (0 : Int32)
set_option maxHeartbeats 4000000 in
set_option maxRecDepth 100000 in
theorem t_M_isMinimal_8 {p : Program} {l : Launch} {e : Env} {s : State} {m : MethodId} {args : Array Value} {below : List Frame} {meth : Method} {c : Code} {g : fy_G} (C : fy_C g M_Y p s m args meth c yX10_isMinimal.cls cX10_isMinimal 4 (some .boolean)) {S : fy_S} {rr : Int32} : ∀ (fu : Nat) (v1 : Int32) (v2 : Int32) (v3 : Int32) (H : Heap) (locs : List Loc) (ls : Array Slot), M_isMinimal_8 S fu v1 v2 v3 = some rr → fy_W g M_Y S s H locs → lv_has ls 4 [(0, .ref (g.2.2.1 0)), (1, .int v1), (2, .int v2), (3, .int v3)] → W p l e (fy_rm 3) s m args below meth c H locs 0 0 (MQ below (fy_QI g M_Y rr S) args s 0 0 (fy_A g M_Y)) (F0 m 8 ls []) := by
  obtain ⟨hx, hb, hr, hts, hown, hlk, hml, hK, hD, hE, hN⟩ := id C
  intro fu
  induction fu with
  | zero => intro v1 v2 v3 H locs ls h; cases h
  | succ fu ih =>
    intro v1 v2 v3 H locs ls h w  hl
    rw [M_isMinimal_8] at h
    refine lv_iload_n hx hb dX10_isMinimal_8 rfl (lv_at hl 3 rfl) ?_
    refine lv_bipush (v := (6 : Int32)) hx hb dX10_isMinimal_9 (by decide) ?_
    refine lv_icmp_ge (tgt := 52) hx hb dX10_isMinimal_11 (by decide) (fun hc => ?_) (fun hc => ?_)
    · have h := fy_if_t h hc
      refine lv_iload_n hx hb dX10_isMinimal_52 rfl (lv_at hl 2 rfl) ?_
      obtain ⟨gg, h⟩ := fy_gd_some h
      cases h
      exact fy_retZ C w (fy_nr_ok gg) dX10_isMinimal_53
    · have h := fy_if_f h hc
      refine lv_iload_n hx hb dX10_isMinimal_14 rfl (lv_at hl 2 rfl) ?_
      refine lv_if_eq (tgt := 52) hx hb dX10_isMinimal_15 (by decide) (fun hc => ?_) (fun hc => ?_)
      · have h := fy_if_t h hc
        refine lv_iload_n hx hb dX10_isMinimal_52 rfl (lv_at hl 2 rfl) ?_
        obtain ⟨gg, h⟩ := fy_gd_some h
        cases h
        exact fy_retZ C w (fy_nr_ok gg) dX10_isMinimal_53
      · have h := fy_if_f h hc
        refine lv_iload_n hx hb dX10_isMinimal_18 rfl (lv_at hl 1 rfl) ?_
        refine lv_iload_n hx hb dX10_isMinimal_19 rfl (lv_at hl 3 rfl) ?_
        refine lv_ishr hx hb dX10_isMinimal_20 ?_
        refine lv_iconst (v := (1 : Int32)) hx hb dX10_isMinimal_21 (by decide) ?_
        refine lv_iand hx hb dX10_isMinimal_22 ?_
        refine lv_if_eq (tgt := 40) hx hb dX10_isMinimal_23 (by decide) (fun hc => ?_) (fun hc => ?_)
        · have h := fy_if_t h hc
          refine lv_iconst (v := (1 : Int32)) hx hb dX10_isMinimal_40 (by decide) ?_
          refine lv_goto (tgt := 45) hx hb dX10_isMinimal_41 (by decide) ?_
          refine lv_istore_n (lv' := [(2, .int (1 : Int32)), (0, .ref (g.2.2.1 0)), (1, .int v1), (3, .int v3)]) hx hb dX10_isMinimal_45 rfl hl (by decide) rfl (fun ls hl => ?_)
          obtain ⟨x46, e46⟩ : ∃ z : Int32, z = v3 + (1 : Int32) := ⟨_, rfl⟩
          have h := fy_bl_some e46 h
          refine lv_iinc (k := 3) (v := x46) (lv' := [(3, .int x46), (2, .int (1 : Int32)), (0, .ref (g.2.2.1 0)), (1, .int v1)]) hx hb dX10_isMinimal_46 hl rfl (by rw [e46]; rfl) (by decide) rfl (fun ls hl => ?_)
          refine lv_goto (tgt := 8) hx hb dX10_isMinimal_49 (by decide) ?_
          exact ih _ _ _ _ _ _ h w (lv_sub hl [2, 3, 1, 0] rfl)
        · have h := fy_if_f h hc
          refine lv_aload_n hx hb dX10_isMinimal_26 rfl (lv_at hl 0 rfl) ?_
          refine lv_iload_n hx hb dX10_isMinimal_27 rfl (lv_at hl 1 rfl) ?_
          refine lv_iconst (v := (1 : Int32)) hx hb dX10_isMinimal_28 (by decide) ?_
          refine lv_iload_n hx hb dX10_isMinimal_29 rfl (lv_at hl 3 rfl) ?_
          refine lv_ishl hx hb dX10_isMinimal_30 ?_
          refine lv_iconst (v := (-1 : Int32)) hx hb dX10_isMinimal_31 (by decide) ?_
          refine lv_ixor hx hb dX10_isMinimal_32 ?_
          refine lv_iand hx hb dX10_isMinimal_33 ?_
          obtain ⟨r34, h34, h⟩ := fy_bd_some h
          refine fy_calI w (fy_runV (As := [.int (v1 &&& (((1 : Int32) <<< (v3 &&& 31)) ^^^ (-1 : Int32)))]) (rest := []) C w (c_M_satisfiesWanted l g  h34) M_o ksX10_224 rfl ⟨Nat.le_of_ble_eq_true rfl, Nat.le_of_ble_eq_true rfl⟩ rfl hl.1 rfl (Nat.le_of_ble_eq_true rfl) ⟨Nat.le_refl _, Nat.le_refl _⟩ dX10_isMinimal_34) (fun H locs w => ?_)
          refine lv_if_ne (tgt := 44) hx hb dX10_isMinimal_37 (by decide) (fun hc => ?_) (fun hc => ?_)
          · have h := fy_if_f h hc
            refine lv_iconst (v := (0 : Int32)) hx hb dX10_isMinimal_44 (by decide) ?_
            refine lv_istore_n (lv' := [(2, .int (0 : Int32)), (0, .ref (g.2.2.1 0)), (1, .int v1), (3, .int v3)]) hx hb dX10_isMinimal_45 rfl hl (by decide) rfl (fun ls hl => ?_)
            obtain ⟨x46, e46⟩ : ∃ z : Int32, z = v3 + (1 : Int32) := ⟨_, rfl⟩
            have h := fy_bl_some e46 h
            refine lv_iinc (k := 3) (v := x46) (lv' := [(3, .int x46), (2, .int (0 : Int32)), (0, .ref (g.2.2.1 0)), (1, .int v1)]) hx hb dX10_isMinimal_46 hl rfl (by rw [e46]; rfl) (by decide) rfl (fun ls hl => ?_)
            refine lv_goto (tgt := 8) hx hb dX10_isMinimal_49 (by decide) ?_
            exact ih _ _ _ _ _ _ h w (lv_sub hl [2, 3, 1, 0] rfl)
          · have h := fy_if_t h hc
            refine lv_iconst (v := (1 : Int32)) hx hb dX10_isMinimal_40 (by decide) ?_
            refine lv_goto (tgt := 45) hx hb dX10_isMinimal_41 (by decide) ?_
            refine lv_istore_n (lv' := [(2, .int (1 : Int32)), (0, .ref (g.2.2.1 0)), (1, .int v1), (3, .int v3)]) hx hb dX10_isMinimal_45 rfl hl (by decide) rfl (fun ls hl => ?_)
            obtain ⟨x46, e46⟩ : ∃ z : Int32, z = v3 + (1 : Int32) := ⟨_, rfl⟩
            have h := fy_bl_some e46 h
            refine lv_iinc (k := 3) (v := x46) (lv' := [(3, .int x46), (2, .int (1 : Int32)), (0, .ref (g.2.2.1 0)), (1, .int v1)]) hx hb dX10_isMinimal_46 hl rfl (by rw [e46]; rfl) (by decide) rfl (fun ls hl => ?_)
            refine lv_goto (tgt := 8) hx hb dX10_isMinimal_49 (by decide) ?_
            exact ih _ _ _ _ _ _ h w (lv_sub hl [2, 3, 1, 0] rfl)

set_option maxHeartbeats 4000000 in
set_option maxRecDepth 100000 in
theorem t_M_isMinimal {p : Program} {l : Launch} {e : Env} {s : State} {m : MethodId} {args : Array Value} {below : List Frame} {meth : Method} {c : Code} {g : fy_G} (C : fy_C g M_Y p s m args meth c yX10_isMinimal.cls cX10_isMinimal 4 (some .boolean)) {S : fy_S} {v1 : Int32} {rr : Int32}  {H : Heap} {locs : List Loc} {ls : Array Slot} (h : M_isMinimal S v1 = some rr) (w : fy_W g M_Y S s H locs) (hl : lv_has ls 4 [(0, .ref (g.2.2.1 0)), (1, .int v1)]) : W p l e (fy_rm 3) s m args below meth c H locs 0 0 (MQ below (fy_QI g M_Y rr S) args s 0 0 (fy_A g M_Y)) (F0 m 0 ls []) := by
  obtain ⟨hx, hb, hr, hts, hown, hlk, hml, hK, hD, hE, hN⟩ := id C
  rw [M_isMinimal] at h
  refine lv_aload_n hx hb dX10_isMinimal_0 rfl (lv_at hl 0 rfl) ?_
  refine lv_iload_n hx hb dX10_isMinimal_1 rfl (lv_at hl 1 rfl) ?_
  obtain ⟨r2, h2, h⟩ := fy_bd_some h
  refine fy_calI w (fy_runV (As := [.int v1]) (rest := []) C w (c_M_satisfiesWanted l g  h2) M_o ksX10_224 rfl ⟨Nat.le_of_ble_eq_true rfl, Nat.le_of_ble_eq_true rfl⟩ rfl hl.1 rfl (Nat.le_of_ble_eq_true rfl) ⟨Nat.le_refl _, Nat.le_refl _⟩ dX10_isMinimal_2) (fun H locs w => ?_)
  refine lv_istore_n (lv' := [(2, .int r2), (0, .ref (g.2.2.1 0)), (1, .int v1)]) hx hb dX10_isMinimal_5 rfl hl (by decide) rfl (fun ls hl => ?_)
  refine lv_iconst (v := (0 : Int32)) hx hb dX10_isMinimal_6 (by decide) ?_
  refine lv_istore_n (lv' := [(3, .int (0 : Int32)), (2, .int r2), (0, .ref (g.2.2.1 0)), (1, .int v1)]) hx hb dX10_isMinimal_7 rfl hl (by decide) rfl (fun ls hl => ?_)
  exact t_M_isMinimal_8 C fy_fu _ _ _ _ _ _ h w (lv_sub hl [2, 3, 1, 0] rfl)

set_option maxHeartbeats 4000000 in
set_option maxRecDepth 100000 in
theorem c_M_isMinimal (l : Launch) (g : fy_G) {S : fy_S} {v1 : Int32} {rr : Int32}  (h : M_isMinimal S v1 = some rr) : fy_M g M_Y l yX10_isMinimal cX10_isMinimal 4 (some .boolean) (fy_rm 3) [.ref (g.2.2.1 0), .int v1] S (fy_QI g M_Y rr S) :=
  fy_entry (by decide +kernel) (Nat.le_of_ble_eq_true rfl) (fun p e s m args below meth c ls C w hl => t_M_isMinimal C  h w hl)
def M_model_52 (k38 : fy_S → Int32 → Int32 → Int32 → Int32 → Option (fy_S × Int32)) : Nat → fy_S → Int32 → Int32 → Int32 → Int32 → Int32 → Option (fy_S × Int32)
  | 0, _, _, _, _, _, _ => none
  | fu + 1, S, v1, v4, v6, v7, v8 =>
    fy_bd (M_allOf S v1) fun r56 =>
    if r56 < v8 then (
      fy_bl (v7 + (1 : Int32)) fun x103 =>
      k38 S v1 v4 v6 x103)
    else (
      fy_bd (M_bits S v8) fun r64 =>
      if r64 = v7 then (
        fy_bd (M_isMinimal S v8) fun r75 =>
        if r75 = 0 then (
          fy_bl (v8 + (1 : Int32)) fun x97 =>
          M_model_52 k38 fu S v1 v4 v6 v7 x97)
        else (
          if v6 = v4 then (
            some (S, v8))
          else (
            fy_bl (v6 + (1 : Int32)) fun x94 =>
            fy_bl (v8 + (1 : Int32)) fun x97 =>
            M_model_52 k38 fu S v1 v4 x94 v7 x97)))
      else (
        fy_bl (v8 + (1 : Int32)) fun x97 =>
        M_model_52 k38 fu S v1 v4 v6 v7 x97))
def M_model_38 : Nat → fy_S → Int32 → Int32 → Int32 → Int32 → Option (fy_S × Int32)
  | 0, _, _, _, _, _ => none
  | fu + 1, S, v1, v4, v6, v7 =>
    fy_gd (fy_ix v1 7) <|
    if (S.1 1 v1.toNatClampNeg) < v7 then (
      if v4 = (-1 : Int32) then (
        some (S, v6))
      else (
        some (S, (-1 : Int32))))
    else (
      M_model_52 (fun S v1 v4 v6 v7 => M_model_38 fu S v1 v4 v6 v7) fy_fu S v1 v4 v6 v7 (0 : Int32))
def M_model (S : fy_S) (v1 : Int32) (v2 : Int32) (v3 : Int32) (v4 : Int32) : Option (fy_S × Int32) :=
  fy_bd (M_asked S v1 v2 v3) fun r4 =>
  if r4 < 0 then (
    some (S, (-2 : Int32)))
  else (
    if (-1 : Int32) ≤ v4 then (
      fy_bd (M_wants S v1 r4 (0 : Int32) (0 : Int32)) fun S29 =>
      M_model_38 fy_fu S29 v1 v4 (0 : Int32) (0 : Int32))
    else (
      some (S, (-2 : Int32))))
set_option maxHeartbeats 4000000 in
set_option maxRecDepth 100000 in
theorem t_M_model_52 {p : Program} {l : Launch} {e : Env} {s : State} {m : MethodId} {args : Array Value} {below : List Frame} {meth : Method} {c : Code} {g : fy_G} (C : fy_C g M_Y p s m args meth c yX10_model.cls cX10_model 9 (some .int)) {Sr : fy_S} {rr : Int32} {k38 : fy_S → Int32 → Int32 → Int32 → Int32 → Option (fy_S × Int32)} (hk38 : ∀ (S : fy_S) (v1 : Int32) (v4 : Int32) (v6 : Int32) (v7 : Int32) (H : Heap) (locs : List Loc) (ls : Array Slot), k38 S v1 v4 v6 v7 = some (Sr, rr) → fy_W g M_Y S s H locs → lv_has ls 9 [(0, .ref (g.2.2.1 0)), (1, .int v1), (4, .int v4), (6, .int v6), (7, .int v7)] → W p l e (fy_rm 4) s m args below meth c H locs 0 0 (MQ below (fy_QI g M_Y rr Sr) args s 0 0 (fy_A g M_Y)) (F0 m 38 ls [])) : ∀ (fu : Nat) (S : fy_S) (v1 : Int32) (v4 : Int32) (v6 : Int32) (v7 : Int32) (v8 : Int32) (H : Heap) (locs : List Loc) (ls : Array Slot), M_model_52 k38 fu S v1 v4 v6 v7 v8 = some (Sr, rr) → fy_W g M_Y S s H locs → lv_has ls 9 [(0, .ref (g.2.2.1 0)), (1, .int v1), (4, .int v4), (6, .int v6), (7, .int v7), (8, .int v8)] → W p l e (fy_rm 4) s m args below meth c H locs 0 0 (MQ below (fy_QI g M_Y rr Sr) args s 0 0 (fy_A g M_Y)) (F0 m 52 ls []) := by
  obtain ⟨hx, hb, hr, hts, hown, hlk, hml, hK, hD, hE, hN⟩ := id C
  intro fu
  induction fu with
  | zero => intro S v1 v4 v6 v7 v8 H locs ls h; cases h
  | succ fu ih =>
    intro S v1 v4 v6 v7 v8 H locs ls h w  hl
    rw [M_model_52] at h
    refine lv_iload hx hb dX10_model_52 (lv_at hl 5 rfl) ?_
    refine lv_aload_n hx hb dX10_model_54 rfl (lv_at hl 0 rfl) ?_
    refine lv_iload_n hx hb dX10_model_55 rfl (lv_at hl 1 rfl) ?_
    obtain ⟨r56, h56, h⟩ := fy_bd_some h
    refine fy_calI w (fy_runV (As := [.int v1]) (rest := [.int v8]) C w (c_M_allOf l g  h56) M_o ksX10_115 rfl ⟨Nat.le_of_ble_eq_true rfl, Nat.le_of_ble_eq_true rfl⟩ rfl hl.1 rfl (Nat.le_of_ble_eq_true rfl) ⟨Nat.le_refl _, Nat.le_refl _⟩ dX10_model_56) (fun H locs w => ?_)
    refine lv_icmp_gt (tgt := 103) hx hb dX10_model_59 (by decide) (fun hc => ?_) (fun hc => ?_)
    · have h := fy_if_t h hc
      obtain ⟨x103, e103⟩ : ∃ z : Int32, z = v7 + (1 : Int32) := ⟨_, rfl⟩
      have h := fy_bl_some e103 h
      refine lv_iinc (k := 4) (v := x103) (lv' := [(7, .int x103), (0, .ref (g.2.2.1 0)), (1, .int v1), (4, .int v4), (6, .int v6), (8, .int v8)]) hx hb dX10_model_103 hl rfl (by rw [e103]; rfl) (by decide) rfl (fun ls hl => ?_)
      refine lv_goto (tgt := 38) hx hb dX10_model_106 (by decide) ?_
      exact hk38 _ _ _ _ _ _ _ _ h w (lv_sub hl [1, 2, 3, 4, 0] rfl)
    · have h := fy_if_f h hc
      refine lv_iload hx hb dX10_model_62 (lv_at hl 5 rfl) ?_
      obtain ⟨r64, h64, h⟩ := fy_bd_some h
      refine fy_calI w (fy_runS (As := [.int v8]) (rest := []) C w (c_M_bits l g  h64) ksX10_231 ⟨Nat.le_of_ble_eq_true rfl, Nat.le_of_ble_eq_true rfl⟩ rfl hl.1 rfl (Nat.le_of_ble_eq_true rfl) ⟨Nat.le_refl _, Nat.le_refl _⟩ dX10_model_64) (fun H locs w => ?_)
      refine lv_iload hx hb dX10_model_67 (lv_at hl 4 rfl) ?_
      refine lv_icmp_ne (tgt := 97) hx hb dX10_model_69 (by decide) (fun hc => ?_) (fun hc => ?_)
      · have h := fy_if_f h hc
        obtain ⟨x97, e97⟩ : ∃ z : Int32, z = v8 + (1 : Int32) := ⟨_, rfl⟩
        have h := fy_bl_some e97 h
        refine lv_iinc (k := 5) (v := x97) (lv' := [(8, .int x97), (0, .ref (g.2.2.1 0)), (1, .int v1), (4, .int v4), (6, .int v6), (7, .int v7)]) hx hb dX10_model_97 hl rfl (by rw [e97]; rfl) (by decide) rfl (fun ls hl => ?_)
        refine lv_goto (tgt := 52) hx hb dX10_model_100 (by decide) ?_
        exact ih _ _ _ _ _ _ _ _ _ h w (lv_sub hl [1, 2, 3, 4, 5, 0] rfl)
      · have h := fy_if_t h hc
        refine lv_aload_n hx hb dX10_model_72 rfl (lv_at hl 0 rfl) ?_
        refine lv_iload hx hb dX10_model_73 (lv_at hl 5 rfl) ?_
        obtain ⟨r75, h75, h⟩ := fy_bd_some h
        refine fy_calI w (fy_runV (As := [.int v8]) (rest := []) C w (c_M_isMinimal l g  h75) M_o ksX10_234 rfl ⟨Nat.le_of_ble_eq_true rfl, Nat.le_of_ble_eq_true rfl⟩ rfl hl.1 rfl (Nat.le_of_ble_eq_true rfl) ⟨Nat.le_refl _, Nat.le_refl _⟩ dX10_model_75) (fun H locs w => ?_)
        refine lv_if_ne (tgt := 84) hx hb dX10_model_78 (by decide) (fun hc => ?_) (fun hc => ?_)
        · have h := fy_if_f h hc
          refine lv_iload hx hb dX10_model_84 (lv_at hl 3 rfl) ?_
          refine lv_iload hx hb dX10_model_86 (lv_at hl 2 rfl) ?_
          refine lv_icmp_ne (tgt := 94) hx hb dX10_model_88 (by decide) (fun hc => ?_) (fun hc => ?_)
          · have h := fy_if_f h hc
            obtain ⟨x94, e94⟩ : ∃ z : Int32, z = v6 + (1 : Int32) := ⟨_, rfl⟩
            have h := fy_bl_some e94 h
            refine lv_iinc (k := 3) (v := x94) (lv' := [(6, .int x94), (0, .ref (g.2.2.1 0)), (1, .int v1), (4, .int v4), (7, .int v7), (8, .int v8)]) hx hb dX10_model_94 hl rfl (by rw [e94]; rfl) (by decide) rfl (fun ls hl => ?_)
            obtain ⟨x97, e97⟩ : ∃ z : Int32, z = v8 + (1 : Int32) := ⟨_, rfl⟩
            have h := fy_bl_some e97 h
            refine lv_iinc (k := 5) (v := x97) (lv' := [(8, .int x97), (6, .int x94), (0, .ref (g.2.2.1 0)), (1, .int v1), (4, .int v4), (7, .int v7)]) hx hb dX10_model_97 hl rfl (by rw [e97]; rfl) (by decide) rfl (fun ls hl => ?_)
            refine lv_goto (tgt := 52) hx hb dX10_model_100 (by decide) ?_
            exact ih _ _ _ _ _ _ _ _ _ h w (lv_sub hl [2, 3, 4, 1, 5, 0] rfl)
          · have h := fy_if_t h hc
            refine lv_iload hx hb dX10_model_91 (lv_at hl 5 rfl) ?_
            cases h
            exact fy_retI C w dX10_model_93
        · have h := fy_if_t h hc
          refine lv_goto (tgt := 97) hx hb dX10_model_81 (by decide) ?_
          obtain ⟨x97, e97⟩ : ∃ z : Int32, z = v8 + (1 : Int32) := ⟨_, rfl⟩
          have h := fy_bl_some e97 h
          refine lv_iinc (k := 5) (v := x97) (lv' := [(8, .int x97), (0, .ref (g.2.2.1 0)), (1, .int v1), (4, .int v4), (6, .int v6), (7, .int v7)]) hx hb dX10_model_97 hl rfl (by rw [e97]; rfl) (by decide) rfl (fun ls hl => ?_)
          refine lv_goto (tgt := 52) hx hb dX10_model_100 (by decide) ?_
          exact ih _ _ _ _ _ _ _ _ _ h w (lv_sub hl [1, 2, 3, 4, 5, 0] rfl)

set_option maxHeartbeats 4000000 in
set_option maxRecDepth 100000 in
theorem t_M_model_38 {p : Program} {l : Launch} {e : Env} {s : State} {m : MethodId} {args : Array Value} {below : List Frame} {meth : Method} {c : Code} {g : fy_G} (C : fy_C g M_Y p s m args meth c yX10_model.cls cX10_model 9 (some .int)) {Sr : fy_S} {rr : Int32} : ∀ (fu : Nat) (S : fy_S) (v1 : Int32) (v4 : Int32) (v6 : Int32) (v7 : Int32) (H : Heap) (locs : List Loc) (ls : Array Slot), M_model_38 fu S v1 v4 v6 v7 = some (Sr, rr) → fy_W g M_Y S s H locs → lv_has ls 9 [(0, .ref (g.2.2.1 0)), (1, .int v1), (4, .int v4), (6, .int v6), (7, .int v7)] → W p l e (fy_rm 4) s m args below meth c H locs 0 0 (MQ below (fy_QI g M_Y rr Sr) args s 0 0 (fy_A g M_Y)) (F0 m 38 ls []) := by
  obtain ⟨hx, hb, hr, hts, hown, hlk, hml, hK, hD, hE, hN⟩ := id C
  intro fu
  induction fu with
  | zero => intro S v1 v4 v6 v7 H locs ls h; cases h
  | succ fu ih =>
    intro S v1 v4 v6 v7 H locs ls h w  hl
    rw [M_model_38] at h
    refine lv_iload hx hb dX10_model_38 (lv_at hl 4 rfl) ?_
    refine lv_aload_n hx hb dX10_model_40 rfl (lv_at hl 0 rfl) ?_
    refine gfX10_7 C w dX10_model_41 ?_
    refine lv_iload_n hx hb dX10_model_44 rfl (lv_at hl 1 rfl) ?_
    obtain ⟨g45, h⟩ := fy_gd_some h
    refine fy_iald C w M_a1 g45 dX10_model_45 ?_
    refine lv_icmp_gt (tgt := 109) hx hb dX10_model_46 (by decide) (fun hc => ?_) (fun hc => ?_)
    · have h := fy_if_t h hc
      refine lv_iload hx hb dX10_model_109 (lv_at hl 2 rfl) ?_
      refine lv_iconst (v := (-1 : Int32)) hx hb dX10_model_111 (by decide) ?_
      refine lv_icmp_ne (tgt := 120) hx hb dX10_model_112 (by decide) (fun hc => ?_) (fun hc => ?_)
      · have h := fy_if_f h hc
        refine lv_iconst (v := (-1 : Int32)) hx hb dX10_model_120 (by decide) ?_
        cases h
        exact fy_retI C w dX10_model_121
      · have h := fy_if_t h hc
        refine lv_iload hx hb dX10_model_115 (lv_at hl 3 rfl) ?_
        refine lv_goto (tgt := 121) hx hb dX10_model_117 (by decide) ?_
        cases h
        exact fy_retI C w dX10_model_121
    · have h := fy_if_f h hc
      refine lv_iconst (v := (0 : Int32)) hx hb dX10_model_49 (by decide) ?_
      refine lv_istore (lv' := [(8, .int (0 : Int32)), (0, .ref (g.2.2.1 0)), (1, .int v1), (4, .int v4), (6, .int v6), (7, .int v7)]) hx hb dX10_model_50 hl (by decide) rfl (fun ls hl => ?_)
      exact t_M_model_52 C ih fy_fu _ _ _ _ _ _ _ _ _ h w (lv_sub hl [1, 2, 3, 4, 5, 0] rfl)

set_option maxHeartbeats 4000000 in
set_option maxRecDepth 100000 in
theorem t_M_model {p : Program} {l : Launch} {e : Env} {s : State} {m : MethodId} {args : Array Value} {below : List Frame} {meth : Method} {c : Code} {g : fy_G} (C : fy_C g M_Y p s m args meth c yX10_model.cls cX10_model 9 (some .int)) {S : fy_S} {v1 : Int32} {v2 : Int32} {v3 : Int32} {v4 : Int32} {Sr : fy_S} {rr : Int32}  {H : Heap} {locs : List Loc} {ls : Array Slot} (h : M_model S v1 v2 v3 v4 = some (Sr, rr)) (w : fy_W g M_Y S s H locs) (hl : lv_has ls 9 [(0, .ref (g.2.2.1 0)), (1, .int v1), (2, .int v2), (3, .int v3), (4, .int v4)]) : W p l e (fy_rm 4) s m args below meth c H locs 0 0 (MQ below (fy_QI g M_Y rr Sr) args s 0 0 (fy_A g M_Y)) (F0 m 0 ls []) := by
  obtain ⟨hx, hb, hr, hts, hown, hlk, hml, hK, hD, hE, hN⟩ := id C
  rw [M_model] at h
  refine lv_aload_n hx hb dX10_model_0 rfl (lv_at hl 0 rfl) ?_
  refine lv_iload_n hx hb dX10_model_1 rfl (lv_at hl 1 rfl) ?_
  refine lv_iload_n hx hb dX10_model_2 rfl (lv_at hl 2 rfl) ?_
  refine lv_iload_n hx hb dX10_model_3 rfl (lv_at hl 3 rfl) ?_
  obtain ⟨r4, h4, h⟩ := fy_bd_some h
  refine fy_calI w (fy_runV (As := [.int v1, .int v2, .int v3]) (rest := []) C w (c_M_asked l g  h4) M_o ksX10_192 rfl ⟨Nat.le_of_ble_eq_true rfl, Nat.le_of_ble_eq_true rfl⟩ rfl hl.1 rfl (Nat.le_of_ble_eq_true rfl) ⟨Nat.le_refl _, Nat.le_refl _⟩ dX10_model_4) (fun H locs w => ?_)
  refine lv_istore (lv' := [(5, .int r4), (0, .ref (g.2.2.1 0)), (1, .int v1), (2, .int v2), (3, .int v3), (4, .int v4)]) hx hb dX10_model_7 hl (by decide) rfl (fun ls hl => ?_)
  refine lv_iload hx hb dX10_model_9 (lv_at hl 0 rfl) ?_
  refine lv_if_lt (tgt := 20) hx hb dX10_model_11 (by decide) (fun hc => ?_) (fun hc => ?_)
  · have h := fy_if_t h hc
    refine lv_bipush (v := (-2 : Int32)) hx hb dX10_model_20 (by decide) ?_
    cases h
    exact fy_retI C w dX10_model_22
  · have h := fy_if_f h hc
    refine lv_iload hx hb dX10_model_14 (lv_at hl 5 rfl) ?_
    refine lv_iconst (v := (-1 : Int32)) hx hb dX10_model_16 (by decide) ?_
    refine lv_icmp_ge (tgt := 23) hx hb dX10_model_17 (by decide) (fun hc => ?_) (fun hc => ?_)
    · have h := fy_if_t h hc
      refine lv_aload_n hx hb dX10_model_23 rfl (lv_at hl 1 rfl) ?_
      refine lv_iload_n hx hb dX10_model_24 rfl (lv_at hl 2 rfl) ?_
      refine lv_iload hx hb dX10_model_25 (lv_at hl 0 rfl) ?_
      refine lv_iconst (v := (0 : Int32)) hx hb dX10_model_27 (by decide) ?_
      refine lv_iconst (v := (0 : Int32)) hx hb dX10_model_28 (by decide) ?_
      obtain ⟨S29, h29, h⟩ := fy_bd_some h
      refine fy_calV w (fy_runV (As := [.int v1, .int r4, .int (0 : Int32), .int (0 : Int32)]) (rest := []) C w (c_M_wants l g  h29) M_o ksX10_227 rfl ⟨Nat.le_of_ble_eq_true rfl, Nat.le_of_ble_eq_true rfl⟩ rfl hl.1 rfl (Nat.le_of_ble_eq_true rfl) ⟨Nat.le_refl _, Nat.le_refl _⟩ dX10_model_29) (fun H locs w => ?_)
      refine lv_iconst (v := (0 : Int32)) hx hb dX10_model_32 (by decide) ?_
      refine lv_istore (lv' := [(6, .int (0 : Int32)), (5, .int r4), (0, .ref (g.2.2.1 0)), (1, .int v1), (2, .int v2), (3, .int v3), (4, .int v4)]) hx hb dX10_model_33 hl (by decide) rfl (fun ls hl => ?_)
      refine lv_iconst (v := (0 : Int32)) hx hb dX10_model_35 (by decide) ?_
      refine lv_istore (lv' := [(7, .int (0 : Int32)), (6, .int (0 : Int32)), (5, .int r4), (0, .ref (g.2.2.1 0)), (1, .int v1), (2, .int v2), (3, .int v3), (4, .int v4)]) hx hb dX10_model_36 hl (by decide) rfl (fun ls hl => ?_)
      exact t_M_model_38 C fy_fu _ _ _ _ _ _ _ _ h w (lv_sub hl [3, 4, 7, 1, 0] rfl)
    · have h := fy_if_f h hc
      refine lv_bipush (v := (-2 : Int32)) hx hb dX10_model_20 (by decide) ?_
      cases h
      exact fy_retI C w dX10_model_22

set_option maxHeartbeats 4000000 in
set_option maxRecDepth 100000 in
theorem c_M_model (l : Launch) (g : fy_G) {S : fy_S} {v1 : Int32} {v2 : Int32} {v3 : Int32} {v4 : Int32} {Sr : fy_S} {rr : Int32}  (h : M_model S v1 v2 v3 v4 = some (Sr, rr)) : fy_M g M_Y l yX10_model cX10_model 9 (some .int) (fy_rm 4) [.ref (g.2.2.1 0), .int v1, .int v2, .int v3, .int v4] S (fy_QI g M_Y rr Sr) :=
  fy_entry (by decide +kernel) (Nat.le_of_ble_eq_true rfl) (fun p e s m args below meth c ls C w hl => t_M_model C  h w hl)
def M_push (S : fy_S) (v1 : Int32) : Option (fy_S × Int32) :=
  fy_bd (M_isBetween S v1 (0 : Int32) (2 : Int32)) fun r3 =>
  if r3 = 0 then (
    some (S, (-2 : Int32)))
  else (
    if (S.1 0 25) = (12 : Int32) then (
      some (S, (-3 : Int32)))
    else (
      fy_gd (fy_ix (S.1 0 25) 12) <|
      fy_bl (fy_sI S 14 (S.1 0 25).toNatClampNeg v1) fun S33 =>
      fy_bl (fy_sI S33 0 25 ((S33.1 0 25) + (1 : Int32))) fun S41 =>
      some (S41, (S41.1 0 25))))
set_option maxHeartbeats 4000000 in
set_option maxRecDepth 100000 in
theorem t_M_push {p : Program} {l : Launch} {e : Env} {s : State} {m : MethodId} {args : Array Value} {below : List Frame} {meth : Method} {c : Code} {g : fy_G} (C : fy_C g M_Y p s m args meth c yX10_push.cls cX10_push 2 (some .int)) {S : fy_S} {v1 : Int32} {Sr : fy_S} {rr : Int32}  {H : Heap} {locs : List Loc} {ls : Array Slot} (h : M_push S v1 = some (Sr, rr)) (w : fy_W g M_Y S s H locs) (hl : lv_has ls 2 [(0, .ref (g.2.2.1 0)), (1, .int v1)]) : W p l e (fy_rm 1) s m args below meth c H locs 0 0 (MQ below (fy_QI g M_Y rr Sr) args s 0 0 (fy_A g M_Y)) (F0 m 0 ls []) := by
  obtain ⟨hx, hb, hr, hts, hown, hlk, hml, hK, hD, hE, hN⟩ := id C
  rw [M_push] at h
  refine lv_iload_n hx hb dX10_push_0 rfl (lv_at hl 1 rfl) ?_
  refine lv_iconst (v := (0 : Int32)) hx hb dX10_push_1 (by decide) ?_
  refine lv_iconst (v := (2 : Int32)) hx hb dX10_push_2 (by decide) ?_
  obtain ⟨r3, h3, h⟩ := fy_bd_some h
  refine fy_calI w (fy_runS (As := [.int v1, .int (0 : Int32), .int (2 : Int32)]) (rest := []) C w (c_M_isBetween l g  h3) ksX10_127 ⟨Nat.le_of_ble_eq_true rfl, Nat.le_of_ble_eq_true rfl⟩ rfl hl.1 rfl (Nat.le_of_ble_eq_true rfl) ⟨Nat.le_refl _, Nat.le_refl _⟩ dX10_push_3) (fun H locs w => ?_)
  refine lv_if_ne (tgt := 12) hx hb dX10_push_6 (by decide) (fun hc => ?_) (fun hc => ?_)
  · have h := fy_if_f h hc
    refine lv_aload_n hx hb dX10_push_12 rfl (lv_at hl 0 rfl) ?_
    refine gfX10_237 C w dX10_push_13 ?_
    refine lv_bipush (v := (12 : Int32)) hx hb dX10_push_16 (by decide) ?_
    refine lv_icmp_ne (tgt := 24) hx hb dX10_push_18 (by decide) (fun hc => ?_) (fun hc => ?_)
    · have h := fy_if_f h hc
      refine lv_aload_n hx hb dX10_push_24 rfl (lv_at hl 0 rfl) ?_
      refine gfX10_49 C w dX10_push_25 ?_
      refine lv_aload_n hx hb dX10_push_28 rfl (lv_at hl 0 rfl) ?_
      refine gfX10_237 C w dX10_push_29 ?_
      refine lv_iload_n hx hb dX10_push_32 rfl (lv_at hl 1 rfl) ?_
      obtain ⟨g33, h⟩ := fy_gd_some h
      refine fy_iast C w M_a14 g33 dX10_push_33 (fun H locs w => ?_)
      obtain ⟨S33, e33⟩ : ∃ z, z = fy_sI S 14 (S.1 0 25).toNatClampNeg v1 := ⟨_, rfl⟩
      have h := fy_bl_some e33 h
      rw [← e33] at w
      refine lv_aload_n hx hb dX10_push_34 rfl (lv_at hl 0 rfl) ?_
      refine lv_dup hx hb dX10_push_35 rfl ?_
      refine gfX10_237 C w dX10_push_36 ?_
      refine lv_iconst (v := (1 : Int32)) hx hb dX10_push_39 (by decide) ?_
      refine lv_iadd hx hb dX10_push_40 ?_
      refine pfX10_237 C w dX10_push_41 (fun H locs w => ?_)
      obtain ⟨S41, e41⟩ : ∃ z, z = fy_sI S33 0 25 ((S33.1 0 25) + (1 : Int32)) := ⟨_, rfl⟩
      have h := fy_bl_some e41 h
      rw [← e41] at w
      refine lv_aload_n hx hb dX10_push_44 rfl (lv_at hl 0 rfl) ?_
      refine gfX10_237 C w dX10_push_45 ?_
      cases h
      exact fy_retI C w dX10_push_48
    · have h := fy_if_t h hc
      refine lv_bipush (v := (-3 : Int32)) hx hb dX10_push_21 (by decide) ?_
      cases h
      exact fy_retI C w dX10_push_23
  · have h := fy_if_t h hc
    refine lv_bipush (v := (-2 : Int32)) hx hb dX10_push_9 (by decide) ?_
    cases h
    exact fy_retI C w dX10_push_11

set_option maxHeartbeats 4000000 in
set_option maxRecDepth 100000 in
theorem c_M_push (l : Launch) (g : fy_G) {S : fy_S} {v1 : Int32} {Sr : fy_S} {rr : Int32}  (h : M_push S v1 = some (Sr, rr)) : fy_M g M_Y l yX10_push cX10_push 2 (some .int) (fy_rm 1) [.ref (g.2.2.1 0), .int v1] S (fy_QI g M_Y rr Sr) :=
  fy_entry (by decide +kernel) (Nat.le_of_ble_eq_true rfl) (fun p e s m args below meth c ls C w hl => t_M_push C  h w hl)
def M_clearWord (S : fy_S)  : Option (fy_S × Int32) :=
  fy_bl (S.1 0 25) fun x4 =>
  fy_bl (fy_sI S 0 25 (0 : Int32)) fun S7 =>
  some (S7, x4)
set_option maxHeartbeats 4000000 in
set_option maxRecDepth 100000 in
theorem t_M_clearWord {p : Program} {l : Launch} {e : Env} {s : State} {m : MethodId} {args : Array Value} {below : List Frame} {meth : Method} {c : Code} {g : fy_G} (C : fy_C g M_Y p s m args meth c yX10_clearWord.cls cX10_clearWord 2 (some .int)) {S : fy_S}  {Sr : fy_S} {rr : Int32}  {H : Heap} {locs : List Loc} {ls : Array Slot} (h : M_clearWord S  = some (Sr, rr)) (w : fy_W g M_Y S s H locs) (hl : lv_has ls 2 [(0, .ref (g.2.2.1 0))]) : W p l e (fy_rm 0) s m args below meth c H locs 0 0 (MQ below (fy_QI g M_Y rr Sr) args s 0 0 (fy_A g M_Y)) (F0 m 0 ls []) := by
  obtain ⟨hx, hb, hr, hts, hown, hlk, hml, hK, hD, hE, hN⟩ := id C
  rw [M_clearWord] at h
  refine lv_aload_n hx hb dX10_clearWord_0 rfl (lv_at hl 0 rfl) ?_
  refine gfX10_237 C w dX10_clearWord_1 ?_
  refine lv_topi (fun x4 e4 => ?_)
  have h := fy_bl_some e4 h
  refine lv_istore_n (lv' := [(1, .int x4), (0, .ref (g.2.2.1 0))]) hx hb dX10_clearWord_4 rfl hl (by decide) rfl (fun ls hl => ?_)
  refine lv_aload_n hx hb dX10_clearWord_5 rfl (lv_at hl 1 rfl) ?_
  refine lv_iconst (v := (0 : Int32)) hx hb dX10_clearWord_6 (by decide) ?_
  refine pfX10_237 C w dX10_clearWord_7 (fun H locs w => ?_)
  obtain ⟨S7, e7⟩ : ∃ z, z = fy_sI S 0 25 (0 : Int32) := ⟨_, rfl⟩
  have h := fy_bl_some e7 h
  rw [← e7] at w
  refine lv_iload_n hx hb dX10_clearWord_10 rfl (lv_at hl 0 rfl) ?_
  cases h
  exact fy_retI C w dX10_clearWord_11

set_option maxHeartbeats 4000000 in
set_option maxRecDepth 100000 in
theorem c_M_clearWord (l : Launch) (g : fy_G) {S : fy_S}  {Sr : fy_S} {rr : Int32}  (h : M_clearWord S  = some (Sr, rr)) : fy_M g M_Y l yX10_clearWord cX10_clearWord 2 (some .int) (fy_rm 0) [.ref (g.2.2.1 0)] S (fy_QI g M_Y rr Sr) :=
  fy_entry (by decide +kernel) (Nat.le_of_ble_eq_true rfl) (fun p e s m args below meth c ls C w hl => t_M_clearWord C  h w hl)
def M_isWordOf_4 (S : fy_S) : Nat → Int32 → Int32 → Int32 → Option (Int32)
  | 0, _, _, _ => none
  | fu + 1, v1, v2, v3 =>
    if (S.1 0 25) ≤ v3 then (
      fy_gd (fy_nr .boolean v2) <| some v2)
    else (
      if v2 = 0 then (
        fy_bl (v3 + (1 : Int32)) fun x36 =>
        M_isWordOf_4 S fu v1 (0 : Int32) x36)
      else (
        fy_gd (fy_ix v3 12) <|
        fy_bd (M_isLetter S v1 (S.1 14 v3.toNatClampNeg)) fun r24 =>
        if r24 = 0 then (
          fy_bl (v3 + (1 : Int32)) fun x36 =>
          M_isWordOf_4 S fu v1 (0 : Int32) x36)
        else (
          fy_bl (v3 + (1 : Int32)) fun x36 =>
          M_isWordOf_4 S fu v1 (1 : Int32) x36)))
def M_isWordOf (S : fy_S) (v1 : Int32) : Option (Int32) :=
  M_isWordOf_4 S fy_fu v1 (1 : Int32) (0 : Int32)
set_option maxHeartbeats 4000000 in
set_option maxRecDepth 100000 in
theorem t_M_isWordOf_4 {p : Program} {l : Launch} {e : Env} {s : State} {m : MethodId} {args : Array Value} {below : List Frame} {meth : Method} {c : Code} {g : fy_G} (C : fy_C g M_Y p s m args meth c yX10_isWordOf.cls cX10_isWordOf 4 (some .boolean)) {S : fy_S} {rr : Int32} : ∀ (fu : Nat) (v1 : Int32) (v2 : Int32) (v3 : Int32) (H : Heap) (locs : List Loc) (ls : Array Slot), M_isWordOf_4 S fu v1 v2 v3 = some rr → fy_W g M_Y S s H locs → lv_has ls 4 [(0, .ref (g.2.2.1 0)), (1, .int v1), (2, .int v2), (3, .int v3)] → W p l e (fy_rm 1) s m args below meth c H locs 0 0 (MQ below (fy_QI g M_Y rr S) args s 0 0 (fy_A g M_Y)) (F0 m 4 ls []) := by
  obtain ⟨hx, hb, hr, hts, hown, hlk, hml, hK, hD, hE, hN⟩ := id C
  intro fu
  induction fu with
  | zero => intro v1 v2 v3 H locs ls h; cases h
  | succ fu ih =>
    intro v1 v2 v3 H locs ls h w  hl
    rw [M_isWordOf_4] at h
    refine lv_iload_n hx hb dX10_isWordOf_4 rfl (lv_at hl 3 rfl) ?_
    refine lv_aload_n hx hb dX10_isWordOf_5 rfl (lv_at hl 0 rfl) ?_
    refine gfX10_237 C w dX10_isWordOf_6 ?_
    refine lv_icmp_ge (tgt := 42) hx hb dX10_isWordOf_9 (by decide) (fun hc => ?_) (fun hc => ?_)
    · have h := fy_if_t h hc
      refine lv_iload_n hx hb dX10_isWordOf_42 rfl (lv_at hl 2 rfl) ?_
      obtain ⟨gg, h⟩ := fy_gd_some h
      cases h
      exact fy_retZ C w (fy_nr_ok gg) dX10_isWordOf_43
    · have h := fy_if_f h hc
      refine lv_iload_n hx hb dX10_isWordOf_12 rfl (lv_at hl 2 rfl) ?_
      refine lv_if_eq (tgt := 34) hx hb dX10_isWordOf_13 (by decide) (fun hc => ?_) (fun hc => ?_)
      · have h := fy_if_t h hc
        refine lv_iconst (v := (0 : Int32)) hx hb dX10_isWordOf_34 (by decide) ?_
        refine lv_istore_n (lv' := [(2, .int (0 : Int32)), (0, .ref (g.2.2.1 0)), (1, .int v1), (3, .int v3)]) hx hb dX10_isWordOf_35 rfl hl (by decide) rfl (fun ls hl => ?_)
        obtain ⟨x36, e36⟩ : ∃ z : Int32, z = v3 + (1 : Int32) := ⟨_, rfl⟩
        have h := fy_bl_some e36 h
        refine lv_iinc (k := 3) (v := x36) (lv' := [(3, .int x36), (2, .int (0 : Int32)), (0, .ref (g.2.2.1 0)), (1, .int v1)]) hx hb dX10_isWordOf_36 hl rfl (by rw [e36]; rfl) (by decide) rfl (fun ls hl => ?_)
        refine lv_goto (tgt := 4) hx hb dX10_isWordOf_39 (by decide) ?_
        exact ih _ _ _ _ _ _ h w (lv_sub hl [2, 3, 1, 0] rfl)
      · have h := fy_if_f h hc
        refine lv_aload_n hx hb dX10_isWordOf_16 rfl (lv_at hl 0 rfl) ?_
        refine lv_iload_n hx hb dX10_isWordOf_17 rfl (lv_at hl 1 rfl) ?_
        refine lv_aload_n hx hb dX10_isWordOf_18 rfl (lv_at hl 0 rfl) ?_
        refine gfX10_49 C w dX10_isWordOf_19 ?_
        refine lv_iload_n hx hb dX10_isWordOf_22 rfl (lv_at hl 3 rfl) ?_
        obtain ⟨g23, h⟩ := fy_gd_some h
        refine fy_iald C w M_a14 g23 dX10_isWordOf_23 ?_
        obtain ⟨r24, h24, h⟩ := fy_bd_some h
        refine fy_calI w (fy_runV (As := [.int v1, .int (S.1 14 v3.toNatClampNeg)]) (rest := []) C w (c_M_isLetter l g  h24) M_o ksX10_135 rfl ⟨Nat.le_of_ble_eq_true rfl, Nat.le_of_ble_eq_true rfl⟩ rfl hl.1 rfl (Nat.le_of_ble_eq_true rfl) ⟨Nat.le_refl _, Nat.le_refl _⟩ dX10_isWordOf_24) (fun H locs w => ?_)
        refine lv_if_eq (tgt := 34) hx hb dX10_isWordOf_27 (by decide) (fun hc => ?_) (fun hc => ?_)
        · have h := fy_if_t h hc
          refine lv_iconst (v := (0 : Int32)) hx hb dX10_isWordOf_34 (by decide) ?_
          refine lv_istore_n (lv' := [(2, .int (0 : Int32)), (0, .ref (g.2.2.1 0)), (1, .int v1), (3, .int v3)]) hx hb dX10_isWordOf_35 rfl hl (by decide) rfl (fun ls hl => ?_)
          obtain ⟨x36, e36⟩ : ∃ z : Int32, z = v3 + (1 : Int32) := ⟨_, rfl⟩
          have h := fy_bl_some e36 h
          refine lv_iinc (k := 3) (v := x36) (lv' := [(3, .int x36), (2, .int (0 : Int32)), (0, .ref (g.2.2.1 0)), (1, .int v1)]) hx hb dX10_isWordOf_36 hl rfl (by rw [e36]; rfl) (by decide) rfl (fun ls hl => ?_)
          refine lv_goto (tgt := 4) hx hb dX10_isWordOf_39 (by decide) ?_
          exact ih _ _ _ _ _ _ h w (lv_sub hl [2, 3, 1, 0] rfl)
        · have h := fy_if_f h hc
          refine lv_iconst (v := (1 : Int32)) hx hb dX10_isWordOf_30 (by decide) ?_
          refine lv_goto (tgt := 35) hx hb dX10_isWordOf_31 (by decide) ?_
          refine lv_istore_n (lv' := [(2, .int (1 : Int32)), (0, .ref (g.2.2.1 0)), (1, .int v1), (3, .int v3)]) hx hb dX10_isWordOf_35 rfl hl (by decide) rfl (fun ls hl => ?_)
          obtain ⟨x36, e36⟩ : ∃ z : Int32, z = v3 + (1 : Int32) := ⟨_, rfl⟩
          have h := fy_bl_some e36 h
          refine lv_iinc (k := 3) (v := x36) (lv' := [(3, .int x36), (2, .int (1 : Int32)), (0, .ref (g.2.2.1 0)), (1, .int v1)]) hx hb dX10_isWordOf_36 hl rfl (by rw [e36]; rfl) (by decide) rfl (fun ls hl => ?_)
          refine lv_goto (tgt := 4) hx hb dX10_isWordOf_39 (by decide) ?_
          exact ih _ _ _ _ _ _ h w (lv_sub hl [2, 3, 1, 0] rfl)

set_option maxHeartbeats 4000000 in
set_option maxRecDepth 100000 in
theorem t_M_isWordOf {p : Program} {l : Launch} {e : Env} {s : State} {m : MethodId} {args : Array Value} {below : List Frame} {meth : Method} {c : Code} {g : fy_G} (C : fy_C g M_Y p s m args meth c yX10_isWordOf.cls cX10_isWordOf 4 (some .boolean)) {S : fy_S} {v1 : Int32} {rr : Int32}  {H : Heap} {locs : List Loc} {ls : Array Slot} (h : M_isWordOf S v1 = some rr) (w : fy_W g M_Y S s H locs) (hl : lv_has ls 4 [(0, .ref (g.2.2.1 0)), (1, .int v1)]) : W p l e (fy_rm 1) s m args below meth c H locs 0 0 (MQ below (fy_QI g M_Y rr S) args s 0 0 (fy_A g M_Y)) (F0 m 0 ls []) := by
  obtain ⟨hx, hb, hr, hts, hown, hlk, hml, hK, hD, hE, hN⟩ := id C
  rw [M_isWordOf] at h
  refine lv_iconst (v := (1 : Int32)) hx hb dX10_isWordOf_0 (by decide) ?_
  refine lv_istore_n (lv' := [(2, .int (1 : Int32)), (0, .ref (g.2.2.1 0)), (1, .int v1)]) hx hb dX10_isWordOf_1 rfl hl (by decide) rfl (fun ls hl => ?_)
  refine lv_iconst (v := (0 : Int32)) hx hb dX10_isWordOf_2 (by decide) ?_
  refine lv_istore_n (lv' := [(3, .int (0 : Int32)), (2, .int (1 : Int32)), (0, .ref (g.2.2.1 0)), (1, .int v1)]) hx hb dX10_isWordOf_3 rfl hl (by decide) rfl (fun ls hl => ?_)
  exact t_M_isWordOf_4 C fy_fu _ _ _ _ _ _ h w (lv_sub hl [2, 3, 1, 0] rfl)

set_option maxHeartbeats 4000000 in
set_option maxRecDepth 100000 in
theorem c_M_isWordOf (l : Launch) (g : fy_G) {S : fy_S} {v1 : Int32} {rr : Int32}  (h : M_isWordOf S v1 = some rr) : fy_M g M_Y l yX10_isWordOf cX10_isWordOf 4 (some .boolean) (fy_rm 1) [.ref (g.2.2.1 0), .int v1] S (fy_QI g M_Y rr S) :=
  fy_entry (by decide +kernel) (Nat.le_of_ble_eq_true rfl) (fun p e s m args below meth c ls C w hl => t_M_isWordOf C  h w hl)
def M_stepOf_6 (S : fy_S) : Nat → Int32 → Int32 → Int32 → Int32 → Int32 → Option (Int32)
  | 0, _, _, _, _, _ => none
  | fu + 1, v1, v2, v3, v4, v5 =>
    fy_gd (fy_ix v1 7) <|
    if (S.1 1 v1.toNatClampNeg) ≤ v5 then (
      some v4)
    else (
      fy_bd (M_formulaOf S v5 v2) fun r24 =>
      fy_bd (M_satisfies S v1 r24 v3) fun r28 =>
      if r28 = 0 then (
        fy_bl (v4 ||| (0 : Int32)) fun x43 =>
        fy_bl (v5 + (1 : Int32)) fun x45 =>
        M_stepOf_6 S fu v1 v2 v3 x43 x45)
      else (
        fy_bl (v4 ||| ((1 : Int32) <<< (v5 &&& 31))) fun x43 =>
        fy_bl (v5 + (1 : Int32)) fun x45 =>
        M_stepOf_6 S fu v1 v2 v3 x43 x45))
def M_stepOf (S : fy_S) (v1 : Int32) (v2 : Int32) (v3 : Int32) : Option (Int32) :=
  M_stepOf_6 S fy_fu v1 v2 v3 (0 : Int32) (0 : Int32)
set_option maxHeartbeats 4000000 in
set_option maxRecDepth 100000 in
theorem t_M_stepOf_6 {p : Program} {l : Launch} {e : Env} {s : State} {m : MethodId} {args : Array Value} {below : List Frame} {meth : Method} {c : Code} {g : fy_G} (C : fy_C g M_Y p s m args meth c yX10_stepOf.cls cX10_stepOf 6 (some .int)) {S : fy_S} {rr : Int32} : ∀ (fu : Nat) (v1 : Int32) (v2 : Int32) (v3 : Int32) (v4 : Int32) (v5 : Int32) (H : Heap) (locs : List Loc) (ls : Array Slot), M_stepOf_6 S fu v1 v2 v3 v4 v5 = some rr → fy_W g M_Y S s H locs → lv_has ls 6 [(0, .ref (g.2.2.1 0)), (1, .int v1), (2, .int v2), (3, .int v3), (4, .int v4), (5, .int v5)] → W p l e (fy_rm 2) s m args below meth c H locs 0 0 (MQ below (fy_QI g M_Y rr S) args s 0 0 (fy_A g M_Y)) (F0 m 6 ls []) := by
  obtain ⟨hx, hb, hr, hts, hown, hlk, hml, hK, hD, hE, hN⟩ := id C
  intro fu
  induction fu with
  | zero => intro v1 v2 v3 v4 v5 H locs ls h; cases h
  | succ fu ih =>
    intro v1 v2 v3 v4 v5 H locs ls h w  hl
    rw [M_stepOf_6] at h
    refine lv_iload hx hb dX10_stepOf_6 (lv_at hl 5 rfl) ?_
    refine lv_aload_n hx hb dX10_stepOf_8 rfl (lv_at hl 0 rfl) ?_
    refine gfX10_7 C w dX10_stepOf_9 ?_
    refine lv_iload_n hx hb dX10_stepOf_12 rfl (lv_at hl 1 rfl) ?_
    obtain ⟨g13, h⟩ := fy_gd_some h
    refine fy_iald C w M_a1 g13 dX10_stepOf_13 ?_
    refine lv_icmp_ge (tgt := 51) hx hb dX10_stepOf_14 (by decide) (fun hc => ?_) (fun hc => ?_)
    · have h := fy_if_t h hc
      refine lv_iload hx hb dX10_stepOf_51 (lv_at hl 4 rfl) ?_
      cases h
      exact fy_retI C w dX10_stepOf_53
    · have h := fy_if_f h hc
      refine lv_iload hx hb dX10_stepOf_17 (lv_at hl 4 rfl) ?_
      refine lv_aload_n hx hb dX10_stepOf_19 rfl (lv_at hl 0 rfl) ?_
      refine lv_iload_n hx hb dX10_stepOf_20 rfl (lv_at hl 1 rfl) ?_
      refine lv_iload hx hb dX10_stepOf_21 (lv_at hl 5 rfl) ?_
      refine lv_iload_n hx hb dX10_stepOf_23 rfl (lv_at hl 2 rfl) ?_
      obtain ⟨r24, h24, h⟩ := fy_bd_some h
      refine fy_calI w (fy_runS (As := [.int v5, .int v2]) (rest := [.int v1, .ref (g.2.2.1 0), .int v4]) C w (c_M_formulaOf l g  h24) ksX10_176 ⟨Nat.le_of_ble_eq_true rfl, Nat.le_of_ble_eq_true rfl⟩ rfl hl.1 rfl (Nat.le_of_ble_eq_true rfl) ⟨Nat.le_refl _, Nat.le_refl _⟩ dX10_stepOf_24) (fun H locs w => ?_)
      refine lv_iload_n hx hb dX10_stepOf_27 rfl (lv_at hl 3 rfl) ?_
      obtain ⟨r28, h28, h⟩ := fy_bd_some h
      refine fy_calI w (fy_runV (As := [.int v1, .int r24, .int v3]) (rest := [.int v4]) C w (c_M_satisfies l g  h28) M_o ksX10_209 rfl ⟨Nat.le_of_ble_eq_true rfl, Nat.le_of_ble_eq_true rfl⟩ rfl hl.1 rfl (Nat.le_of_ble_eq_true rfl) ⟨Nat.le_refl _, Nat.le_refl _⟩ dX10_stepOf_28) (fun H locs w => ?_)
      refine lv_if_eq (tgt := 41) hx hb dX10_stepOf_31 (by decide) (fun hc => ?_) (fun hc => ?_)
      · have h := fy_if_t h hc
        refine lv_iconst (v := (0 : Int32)) hx hb dX10_stepOf_41 (by decide) ?_
        refine lv_ior hx hb dX10_stepOf_42 ?_
        refine lv_topi (fun x43 e43 => ?_)
        have h := fy_bl_some e43 h
        refine lv_istore (lv' := [(4, .int x43), (0, .ref (g.2.2.1 0)), (1, .int v1), (2, .int v2), (3, .int v3), (5, .int v5)]) hx hb dX10_stepOf_43 hl (by decide) rfl (fun ls hl => ?_)
        obtain ⟨x45, e45⟩ : ∃ z : Int32, z = v5 + (1 : Int32) := ⟨_, rfl⟩
        have h := fy_bl_some e45 h
        refine lv_iinc (k := 5) (v := x45) (lv' := [(5, .int x45), (4, .int x43), (0, .ref (g.2.2.1 0)), (1, .int v1), (2, .int v2), (3, .int v3)]) hx hb dX10_stepOf_45 hl rfl (by rw [e45]; rfl) (by decide) rfl (fun ls hl => ?_)
        refine lv_goto (tgt := 6) hx hb dX10_stepOf_48 (by decide) ?_
        exact ih _ _ _ _ _ _ _ _ h w (lv_sub hl [2, 3, 4, 5, 1, 0] rfl)
      · have h := fy_if_f h hc
        refine lv_iconst (v := (1 : Int32)) hx hb dX10_stepOf_34 (by decide) ?_
        refine lv_iload hx hb dX10_stepOf_35 (lv_at hl 5 rfl) ?_
        refine lv_ishl hx hb dX10_stepOf_37 ?_
        refine lv_goto (tgt := 42) hx hb dX10_stepOf_38 (by decide) ?_
        refine lv_ior hx hb dX10_stepOf_42 ?_
        refine lv_topi (fun x43 e43 => ?_)
        have h := fy_bl_some e43 h
        refine lv_istore (lv' := [(4, .int x43), (0, .ref (g.2.2.1 0)), (1, .int v1), (2, .int v2), (3, .int v3), (5, .int v5)]) hx hb dX10_stepOf_43 hl (by decide) rfl (fun ls hl => ?_)
        obtain ⟨x45, e45⟩ : ∃ z : Int32, z = v5 + (1 : Int32) := ⟨_, rfl⟩
        have h := fy_bl_some e45 h
        refine lv_iinc (k := 5) (v := x45) (lv' := [(5, .int x45), (4, .int x43), (0, .ref (g.2.2.1 0)), (1, .int v1), (2, .int v2), (3, .int v3)]) hx hb dX10_stepOf_45 hl rfl (by rw [e45]; rfl) (by decide) rfl (fun ls hl => ?_)
        refine lv_goto (tgt := 6) hx hb dX10_stepOf_48 (by decide) ?_
        exact ih _ _ _ _ _ _ _ _ h w (lv_sub hl [2, 3, 4, 5, 1, 0] rfl)

set_option maxHeartbeats 4000000 in
set_option maxRecDepth 100000 in
theorem t_M_stepOf {p : Program} {l : Launch} {e : Env} {s : State} {m : MethodId} {args : Array Value} {below : List Frame} {meth : Method} {c : Code} {g : fy_G} (C : fy_C g M_Y p s m args meth c yX10_stepOf.cls cX10_stepOf 6 (some .int)) {S : fy_S} {v1 : Int32} {v2 : Int32} {v3 : Int32} {rr : Int32}  {H : Heap} {locs : List Loc} {ls : Array Slot} (h : M_stepOf S v1 v2 v3 = some rr) (w : fy_W g M_Y S s H locs) (hl : lv_has ls 6 [(0, .ref (g.2.2.1 0)), (1, .int v1), (2, .int v2), (3, .int v3)]) : W p l e (fy_rm 2) s m args below meth c H locs 0 0 (MQ below (fy_QI g M_Y rr S) args s 0 0 (fy_A g M_Y)) (F0 m 0 ls []) := by
  obtain ⟨hx, hb, hr, hts, hown, hlk, hml, hK, hD, hE, hN⟩ := id C
  rw [M_stepOf] at h
  refine lv_iconst (v := (0 : Int32)) hx hb dX10_stepOf_0 (by decide) ?_
  refine lv_istore (lv' := [(4, .int (0 : Int32)), (0, .ref (g.2.2.1 0)), (1, .int v1), (2, .int v2), (3, .int v3)]) hx hb dX10_stepOf_1 hl (by decide) rfl (fun ls hl => ?_)
  refine lv_iconst (v := (0 : Int32)) hx hb dX10_stepOf_3 (by decide) ?_
  refine lv_istore (lv' := [(5, .int (0 : Int32)), (4, .int (0 : Int32)), (0, .ref (g.2.2.1 0)), (1, .int v1), (2, .int v2), (3, .int v3)]) hx hb dX10_stepOf_4 hl (by decide) rfl (fun ls hl => ?_)
  exact t_M_stepOf_6 C fy_fu _ _ _ _ _ _ _ _ h w (lv_sub hl [2, 3, 4, 5, 1, 0] rfl)

set_option maxHeartbeats 4000000 in
set_option maxRecDepth 100000 in
theorem c_M_stepOf (l : Launch) (g : fy_G) {S : fy_S} {v1 : Int32} {v2 : Int32} {v3 : Int32} {rr : Int32}  (h : M_stepOf S v1 v2 v3 = some rr) : fy_M g M_Y l yX10_stepOf cX10_stepOf 6 (some .int) (fy_rm 2) [.ref (g.2.2.1 0), .int v1, .int v2, .int v3] S (fy_QI g M_Y rr S) :=
  fy_entry (by decide +kernel) (Nat.le_of_ble_eq_true rfl) (fun p e s m args below meth c ls C w hl => t_M_stepOf C  h w hl)
def M_acceptingFrom_15 (S : fy_S) : Nat → Int32 → Int32 → Int32 → Int32 → Option (Int32)
  | 0, _, _, _, _ => none
  | fu + 1, v1, v2, v3, v4 =>
    if v4 < v2 then (
      some v3)
    else (
      fy_gd (fy_ix v4 12) <|
      fy_bd (M_stepOf S v1 (S.1 14 v4.toNatClampNeg) v3) fun r31 =>
      fy_bl (v4 + (-1 : Int32)) fun x35 =>
      M_acceptingFrom_15 S fu v1 v2 r31 x35)
def M_acceptingFrom (S : fy_S) (v1 : Int32) (v2 : Int32) : Option (Int32) :=
  fy_gd (fy_ix v1 7) <|
  fy_bl (S.1 3 v1.toNatClampNeg) fun x6 =>
  fy_bl ((S.1 0 25) - (1 : Int32)) fun x13 =>
  M_acceptingFrom_15 S fy_fu v1 v2 x6 x13
set_option maxHeartbeats 4000000 in
set_option maxRecDepth 100000 in
theorem t_M_acceptingFrom_15 {p : Program} {l : Launch} {e : Env} {s : State} {m : MethodId} {args : Array Value} {below : List Frame} {meth : Method} {c : Code} {g : fy_G} (C : fy_C g M_Y p s m args meth c yX10_acceptingFrom.cls cX10_acceptingFrom 5 (some .int)) {S : fy_S} {rr : Int32} : ∀ (fu : Nat) (v1 : Int32) (v2 : Int32) (v3 : Int32) (v4 : Int32) (H : Heap) (locs : List Loc) (ls : Array Slot), M_acceptingFrom_15 S fu v1 v2 v3 v4 = some rr → fy_W g M_Y S s H locs → lv_has ls 5 [(0, .ref (g.2.2.1 0)), (1, .int v1), (2, .int v2), (3, .int v3), (4, .int v4)] → W p l e (fy_rm 3) s m args below meth c H locs 0 0 (MQ below (fy_QI g M_Y rr S) args s 0 0 (fy_A g M_Y)) (F0 m 15 ls []) := by
  obtain ⟨hx, hb, hr, hts, hown, hlk, hml, hK, hD, hE, hN⟩ := id C
  intro fu
  induction fu with
  | zero => intro v1 v2 v3 v4 H locs ls h; cases h
  | succ fu ih =>
    intro v1 v2 v3 v4 H locs ls h w  hl
    rw [M_acceptingFrom_15] at h
    refine lv_iload hx hb dX10_acceptingFrom_15 (lv_at hl 4 rfl) ?_
    refine lv_iload_n hx hb dX10_acceptingFrom_17 rfl (lv_at hl 2 rfl) ?_
    refine lv_icmp_lt (tgt := 41) hx hb dX10_acceptingFrom_18 (by decide) (fun hc => ?_) (fun hc => ?_)
    · have h := fy_if_t h hc
      refine lv_iload_n hx hb dX10_acceptingFrom_41 rfl (lv_at hl 3 rfl) ?_
      cases h
      exact fy_retI C w dX10_acceptingFrom_42
    · have h := fy_if_f h hc
      refine lv_aload_n hx hb dX10_acceptingFrom_21 rfl (lv_at hl 0 rfl) ?_
      refine lv_iload_n hx hb dX10_acceptingFrom_22 rfl (lv_at hl 1 rfl) ?_
      refine lv_aload_n hx hb dX10_acceptingFrom_23 rfl (lv_at hl 0 rfl) ?_
      refine gfX10_49 C w dX10_acceptingFrom_24 ?_
      refine lv_iload hx hb dX10_acceptingFrom_27 (lv_at hl 4 rfl) ?_
      obtain ⟨g29, h⟩ := fy_gd_some h
      refine fy_iald C w M_a14 g29 dX10_acceptingFrom_29 ?_
      refine lv_iload_n hx hb dX10_acceptingFrom_30 rfl (lv_at hl 3 rfl) ?_
      obtain ⟨r31, h31, h⟩ := fy_bd_some h
      refine fy_calI w (fy_runV (As := [.int v1, .int (S.1 14 v4.toNatClampNeg), .int v3]) (rest := []) C w (c_M_stepOf l g  h31) M_o ksX10_240 rfl ⟨Nat.le_of_ble_eq_true rfl, Nat.le_of_ble_eq_true rfl⟩ rfl hl.1 rfl (Nat.le_of_ble_eq_true rfl) ⟨Nat.le_refl _, Nat.le_refl _⟩ dX10_acceptingFrom_31) (fun H locs w => ?_)
      refine lv_istore_n (lv' := [(3, .int r31), (0, .ref (g.2.2.1 0)), (1, .int v1), (2, .int v2), (4, .int v4)]) hx hb dX10_acceptingFrom_34 rfl hl (by decide) rfl (fun ls hl => ?_)
      obtain ⟨x35, e35⟩ : ∃ z : Int32, z = v4 + (-1 : Int32) := ⟨_, rfl⟩
      have h := fy_bl_some e35 h
      refine lv_iinc (k := 4) (v := x35) (lv' := [(4, .int x35), (3, .int r31), (0, .ref (g.2.2.1 0)), (1, .int v1), (2, .int v2)]) hx hb dX10_acceptingFrom_35 hl rfl (by rw [e35]; rfl) (by decide) rfl (fun ls hl => ?_)
      refine lv_goto (tgt := 15) hx hb dX10_acceptingFrom_38 (by decide) ?_
      exact ih _ _ _ _ _ _ _ h w (lv_sub hl [2, 3, 4, 1, 0] rfl)

set_option maxHeartbeats 4000000 in
set_option maxRecDepth 100000 in
theorem t_M_acceptingFrom {p : Program} {l : Launch} {e : Env} {s : State} {m : MethodId} {args : Array Value} {below : List Frame} {meth : Method} {c : Code} {g : fy_G} (C : fy_C g M_Y p s m args meth c yX10_acceptingFrom.cls cX10_acceptingFrom 5 (some .int)) {S : fy_S} {v1 : Int32} {v2 : Int32} {rr : Int32}  {H : Heap} {locs : List Loc} {ls : Array Slot} (h : M_acceptingFrom S v1 v2 = some rr) (w : fy_W g M_Y S s H locs) (hl : lv_has ls 5 [(0, .ref (g.2.2.1 0)), (1, .int v1), (2, .int v2)]) : W p l e (fy_rm 3) s m args below meth c H locs 0 0 (MQ below (fy_QI g M_Y rr S) args s 0 0 (fy_A g M_Y)) (F0 m 0 ls []) := by
  obtain ⟨hx, hb, hr, hts, hown, hlk, hml, hK, hD, hE, hN⟩ := id C
  rw [M_acceptingFrom] at h
  refine lv_aload_n hx hb dX10_acceptingFrom_0 rfl (lv_at hl 0 rfl) ?_
  refine gfX10_16 C w dX10_acceptingFrom_1 ?_
  refine lv_iload_n hx hb dX10_acceptingFrom_4 rfl (lv_at hl 1 rfl) ?_
  obtain ⟨g5, h⟩ := fy_gd_some h
  refine fy_iald C w M_a3 g5 dX10_acceptingFrom_5 ?_
  refine lv_topi (fun x6 e6 => ?_)
  have h := fy_bl_some e6 h
  refine lv_istore_n (lv' := [(3, .int x6), (0, .ref (g.2.2.1 0)), (1, .int v1), (2, .int v2)]) hx hb dX10_acceptingFrom_6 rfl hl (by decide) rfl (fun ls hl => ?_)
  refine lv_aload_n hx hb dX10_acceptingFrom_7 rfl (lv_at hl 1 rfl) ?_
  refine gfX10_237 C w dX10_acceptingFrom_8 ?_
  refine lv_iconst (v := (1 : Int32)) hx hb dX10_acceptingFrom_11 (by decide) ?_
  refine lv_isub hx hb dX10_acceptingFrom_12 ?_
  refine lv_topi (fun x13 e13 => ?_)
  have h := fy_bl_some e13 h
  refine lv_istore (lv' := [(4, .int x13), (3, .int x6), (0, .ref (g.2.2.1 0)), (1, .int v1), (2, .int v2)]) hx hb dX10_acceptingFrom_13 hl (by decide) rfl (fun ls hl => ?_)
  exact t_M_acceptingFrom_15 C fy_fu _ _ _ _ _ _ _ h w (lv_sub hl [2, 3, 4, 1, 0] rfl)

set_option maxHeartbeats 4000000 in
set_option maxRecDepth 100000 in
theorem c_M_acceptingFrom (l : Launch) (g : fy_G) {S : fy_S} {v1 : Int32} {v2 : Int32} {rr : Int32}  (h : M_acceptingFrom S v1 v2 = some rr) : fy_M g M_Y l yX10_acceptingFrom cX10_acceptingFrom 5 (some .int) (fy_rm 3) [.ref (g.2.2.1 0), .int v1, .int v2] S (fy_QI g M_Y rr S) :=
  fy_entry (by decide +kernel) (Nat.le_of_ble_eq_true rfl) (fun p e s m args below meth c ls C w hl => t_M_acceptingFrom C  h w hl)
def M_acceptingStates (S : fy_S) (v1 : Int32) (v2 : Int32) : Option (Int32) :=
  fy_bd (M_isSlot S v1) fun r1 =>
  if r1 = 0 then (
    some (-2 : Int32))
  else (
    fy_bd (M_isBetween S v2 (0 : Int32) (S.1 0 25)) fun r13 =>
    if r13 = 0 then (
      some (-2 : Int32))
    else (
      fy_bd (M_isWordOf S v1) fun r24 =>
      if r24 = 0 then (
        some (-4 : Int32))
      else (
        fy_bd (M_acceptingFrom S v1 v2) fun r33 =>
        some r33)))
set_option maxHeartbeats 4000000 in
set_option maxRecDepth 100000 in
theorem t_M_acceptingStates {p : Program} {l : Launch} {e : Env} {s : State} {m : MethodId} {args : Array Value} {below : List Frame} {meth : Method} {c : Code} {g : fy_G} (C : fy_C g M_Y p s m args meth c yX10_acceptingStates.cls cX10_acceptingStates 3 (some .int)) {S : fy_S} {v1 : Int32} {v2 : Int32} {rr : Int32}  {H : Heap} {locs : List Loc} {ls : Array Slot} (h : M_acceptingStates S v1 v2 = some rr) (w : fy_W g M_Y S s H locs) (hl : lv_has ls 3 [(0, .ref (g.2.2.1 0)), (1, .int v1), (2, .int v2)]) : W p l e (fy_rm 4) s m args below meth c H locs 0 0 (MQ below (fy_QI g M_Y rr S) args s 0 0 (fy_A g M_Y)) (F0 m 0 ls []) := by
  obtain ⟨hx, hb, hr, hts, hown, hlk, hml, hK, hD, hE, hN⟩ := id C
  rw [M_acceptingStates] at h
  refine lv_iload_n hx hb dX10_acceptingStates_0 rfl (lv_at hl 1 rfl) ?_
  obtain ⟨r1, h1, h⟩ := fy_bd_some h
  refine fy_calI w (fy_runS (As := [.int v1]) (rest := []) C w (c_M_isSlot l g  h1) ksX10_123 ⟨Nat.le_of_ble_eq_true rfl, Nat.le_of_ble_eq_true rfl⟩ rfl hl.1 rfl (Nat.le_of_ble_eq_true rfl) ⟨Nat.le_refl _, Nat.le_refl _⟩ dX10_acceptingStates_1) (fun H locs w => ?_)
  refine lv_if_eq (tgt := 19) hx hb dX10_acceptingStates_4 (by decide) (fun hc => ?_) (fun hc => ?_)
  · have h := fy_if_t h hc
    refine lv_bipush (v := (-2 : Int32)) hx hb dX10_acceptingStates_19 (by decide) ?_
    cases h
    exact fy_retI C w dX10_acceptingStates_21
  · have h := fy_if_f h hc
    refine lv_iload_n hx hb dX10_acceptingStates_7 rfl (lv_at hl 2 rfl) ?_
    refine lv_iconst (v := (0 : Int32)) hx hb dX10_acceptingStates_8 (by decide) ?_
    refine lv_aload_n hx hb dX10_acceptingStates_9 rfl (lv_at hl 0 rfl) ?_
    refine gfX10_237 C w dX10_acceptingStates_10 ?_
    obtain ⟨r13, h13, h⟩ := fy_bd_some h
    refine fy_calI w (fy_runS (As := [.int v2, .int (0 : Int32), .int (S.1 0 25)]) (rest := []) C w (c_M_isBetween l g  h13) ksX10_127 ⟨Nat.le_of_ble_eq_true rfl, Nat.le_of_ble_eq_true rfl⟩ rfl hl.1 rfl (Nat.le_of_ble_eq_true rfl) ⟨Nat.le_refl _, Nat.le_refl _⟩ dX10_acceptingStates_13) (fun H locs w => ?_)
    refine lv_if_ne (tgt := 22) hx hb dX10_acceptingStates_16 (by decide) (fun hc => ?_) (fun hc => ?_)
    · have h := fy_if_f h hc
      refine lv_aload_n hx hb dX10_acceptingStates_22 rfl (lv_at hl 0 rfl) ?_
      refine lv_iload_n hx hb dX10_acceptingStates_23 rfl (lv_at hl 1 rfl) ?_
      obtain ⟨r24, h24, h⟩ := fy_bd_some h
      refine fy_calI w (fy_runV (As := [.int v1]) (rest := []) C w (c_M_isWordOf l g  h24) M_o ksX10_243 rfl ⟨Nat.le_of_ble_eq_true rfl, Nat.le_of_ble_eq_true rfl⟩ rfl hl.1 rfl (Nat.le_of_ble_eq_true rfl) ⟨Nat.le_refl _, Nat.le_refl _⟩ dX10_acceptingStates_24) (fun H locs w => ?_)
      refine lv_if_eq (tgt := 39) hx hb dX10_acceptingStates_27 (by decide) (fun hc => ?_) (fun hc => ?_)
      · have h := fy_if_t h hc
        refine lv_bipush (v := (-4 : Int32)) hx hb dX10_acceptingStates_39 (by decide) ?_
        cases h
        exact fy_retI C w dX10_acceptingStates_41
      · have h := fy_if_f h hc
        refine lv_aload_n hx hb dX10_acceptingStates_30 rfl (lv_at hl 0 rfl) ?_
        refine lv_iload_n hx hb dX10_acceptingStates_31 rfl (lv_at hl 1 rfl) ?_
        refine lv_iload_n hx hb dX10_acceptingStates_32 rfl (lv_at hl 2 rfl) ?_
        obtain ⟨r33, h33, h⟩ := fy_bd_some h
        refine fy_calI w (fy_runV (As := [.int v1, .int v2]) (rest := []) C w (c_M_acceptingFrom l g  h33) M_o ksX10_246 rfl ⟨Nat.le_of_ble_eq_true rfl, Nat.le_of_ble_eq_true rfl⟩ rfl hl.1 rfl (Nat.le_of_ble_eq_true rfl) ⟨Nat.le_refl _, Nat.le_refl _⟩ dX10_acceptingStates_33) (fun H locs w => ?_)
        refine lv_goto (tgt := 41) hx hb dX10_acceptingStates_36 (by decide) ?_
        cases h
        exact fy_retI C w dX10_acceptingStates_41
    · have h := fy_if_t h hc
      refine lv_bipush (v := (-2 : Int32)) hx hb dX10_acceptingStates_19 (by decide) ?_
      cases h
      exact fy_retI C w dX10_acceptingStates_21

set_option maxHeartbeats 4000000 in
set_option maxRecDepth 100000 in
theorem c_M_acceptingStates (l : Launch) (g : fy_G) {S : fy_S} {v1 : Int32} {v2 : Int32} {rr : Int32}  (h : M_acceptingStates S v1 v2 = some rr) : fy_M g M_Y l yX10_acceptingStates cX10_acceptingStates 3 (some .int) (fy_rm 4) [.ref (g.2.2.1 0), .int v1, .int v2] S (fy_QI g M_Y rr S) :=
  fy_entry (by decide +kernel) (Nat.le_of_ble_eq_true rfl) (fun p e s m args below meth c ls C w hl => t_M_acceptingStates C  h w hl)
def M_isAccepting (S : fy_S) (v1 : Int32) (v2 : Int32) : Option (Int32) :=
  fy_bd (M_satisfies S v1 (0 : Int32) v2) fun r4 =>
  fy_gd (fy_nr .boolean r4) <| some r4
set_option maxHeartbeats 4000000 in
set_option maxRecDepth 100000 in
theorem t_M_isAccepting {p : Program} {l : Launch} {e : Env} {s : State} {m : MethodId} {args : Array Value} {below : List Frame} {meth : Method} {c : Code} {g : fy_G} (C : fy_C g M_Y p s m args meth c yX10_isAccepting.cls cX10_isAccepting 3 (some .boolean)) {S : fy_S} {v1 : Int32} {v2 : Int32} {rr : Int32}  {H : Heap} {locs : List Loc} {ls : Array Slot} (h : M_isAccepting S v1 v2 = some rr) (w : fy_W g M_Y S s H locs) (hl : lv_has ls 3 [(0, .ref (g.2.2.1 0)), (1, .int v1), (2, .int v2)]) : W p l e (fy_rm 2) s m args below meth c H locs 0 0 (MQ below (fy_QI g M_Y rr S) args s 0 0 (fy_A g M_Y)) (F0 m 0 ls []) := by
  obtain ⟨hx, hb, hr, hts, hown, hlk, hml, hK, hD, hE, hN⟩ := id C
  rw [M_isAccepting] at h
  refine lv_aload_n hx hb dX10_isAccepting_0 rfl (lv_at hl 0 rfl) ?_
  refine lv_iload_n hx hb dX10_isAccepting_1 rfl (lv_at hl 1 rfl) ?_
  refine lv_iconst (v := (0 : Int32)) hx hb dX10_isAccepting_2 (by decide) ?_
  refine lv_iload_n hx hb dX10_isAccepting_3 rfl (lv_at hl 2 rfl) ?_
  obtain ⟨r4, h4, h⟩ := fy_bd_some h
  refine fy_calI w (fy_runV (As := [.int v1, .int (0 : Int32), .int v2]) (rest := []) C w (c_M_satisfies l g  h4) M_o ksX10_209 rfl ⟨Nat.le_of_ble_eq_true rfl, Nat.le_of_ble_eq_true rfl⟩ rfl hl.1 rfl (Nat.le_of_ble_eq_true rfl) ⟨Nat.le_refl _, Nat.le_refl _⟩ dX10_isAccepting_4) (fun H locs w => ?_)
  obtain ⟨gg, h⟩ := fy_gd_some h
  cases h
  exact fy_retZ C w (fy_nr_ok gg) dX10_isAccepting_7

set_option maxHeartbeats 4000000 in
set_option maxRecDepth 100000 in
theorem c_M_isAccepting (l : Launch) (g : fy_G) {S : fy_S} {v1 : Int32} {v2 : Int32} {rr : Int32}  (h : M_isAccepting S v1 v2 = some rr) : fy_M g M_Y l yX10_isAccepting cX10_isAccepting 3 (some .boolean) (fy_rm 2) [.ref (g.2.2.1 0), .int v1, .int v2] S (fy_QI g M_Y rr S) :=
  fy_entry (by decide +kernel) (Nat.le_of_ble_eq_true rfl) (fun p e s m args below meth c ls C w hl => t_M_isAccepting C  h w hl)
def M_accepts (S : fy_S) (v1 : Int32) : Option (Int32) :=
  fy_bd (M_isSlot S v1) fun r1 =>
  if r1 = 0 then (
    some (-2 : Int32))
  else (
    fy_bd (M_isWordOf S v1) fun r12 =>
    if r12 = 0 then (
      some (-4 : Int32))
    else (
      fy_bd (M_acceptingFrom S v1 (0 : Int32)) fun r28 =>
      fy_bd (M_isAccepting S v1 r28) fun r31 =>
      if r31 = 0 then (
        some (0 : Int32))
      else (
        some (1 : Int32))))
set_option maxHeartbeats 4000000 in
set_option maxRecDepth 100000 in
theorem t_M_accepts {p : Program} {l : Launch} {e : Env} {s : State} {m : MethodId} {args : Array Value} {below : List Frame} {meth : Method} {c : Code} {g : fy_G} (C : fy_C g M_Y p s m args meth c yX10_accepts.cls cX10_accepts 2 (some .int)) {S : fy_S} {v1 : Int32} {rr : Int32}  {H : Heap} {locs : List Loc} {ls : Array Slot} (h : M_accepts S v1 = some rr) (w : fy_W g M_Y S s H locs) (hl : lv_has ls 2 [(0, .ref (g.2.2.1 0)), (1, .int v1)]) : W p l e (fy_rm 4) s m args below meth c H locs 0 0 (MQ below (fy_QI g M_Y rr S) args s 0 0 (fy_A g M_Y)) (F0 m 0 ls []) := by
  obtain ⟨hx, hb, hr, hts, hown, hlk, hml, hK, hD, hE, hN⟩ := id C
  rw [M_accepts] at h
  refine lv_iload_n hx hb dX10_accepts_0 rfl (lv_at hl 1 rfl) ?_
  obtain ⟨r1, h1, h⟩ := fy_bd_some h
  refine fy_calI w (fy_runS (As := [.int v1]) (rest := []) C w (c_M_isSlot l g  h1) ksX10_123 ⟨Nat.le_of_ble_eq_true rfl, Nat.le_of_ble_eq_true rfl⟩ rfl hl.1 rfl (Nat.le_of_ble_eq_true rfl) ⟨Nat.le_refl _, Nat.le_refl _⟩ dX10_accepts_1) (fun H locs w => ?_)
  refine lv_if_ne (tgt := 10) hx hb dX10_accepts_4 (by decide) (fun hc => ?_) (fun hc => ?_)
  · have h := fy_if_f h hc
    refine lv_aload_n hx hb dX10_accepts_10 rfl (lv_at hl 0 rfl) ?_
    refine lv_iload_n hx hb dX10_accepts_11 rfl (lv_at hl 1 rfl) ?_
    obtain ⟨r12, h12, h⟩ := fy_bd_some h
    refine fy_calI w (fy_runV (As := [.int v1]) (rest := []) C w (c_M_isWordOf l g  h12) M_o ksX10_243 rfl ⟨Nat.le_of_ble_eq_true rfl, Nat.le_of_ble_eq_true rfl⟩ rfl hl.1 rfl (Nat.le_of_ble_eq_true rfl) ⟨Nat.le_refl _, Nat.le_refl _⟩ dX10_accepts_12) (fun H locs w => ?_)
    refine lv_if_ne (tgt := 23) hx hb dX10_accepts_15 (by decide) (fun hc => ?_) (fun hc => ?_)
    · have h := fy_if_f h hc
      refine lv_aload_n hx hb dX10_accepts_23 rfl (lv_at hl 0 rfl) ?_
      refine lv_iload_n hx hb dX10_accepts_24 rfl (lv_at hl 1 rfl) ?_
      refine lv_aload_n hx hb dX10_accepts_25 rfl (lv_at hl 0 rfl) ?_
      refine lv_iload_n hx hb dX10_accepts_26 rfl (lv_at hl 1 rfl) ?_
      refine lv_iconst (v := (0 : Int32)) hx hb dX10_accepts_27 (by decide) ?_
      obtain ⟨r28, h28, h⟩ := fy_bd_some h
      refine fy_calI w (fy_runV (As := [.int v1, .int (0 : Int32)]) (rest := [.int v1, .ref (g.2.2.1 0)]) C w (c_M_acceptingFrom l g  h28) M_o ksX10_246 rfl ⟨Nat.le_of_ble_eq_true rfl, Nat.le_of_ble_eq_true rfl⟩ rfl hl.1 rfl (Nat.le_of_ble_eq_true rfl) ⟨Nat.le_refl _, Nat.le_refl _⟩ dX10_accepts_28) (fun H locs w => ?_)
      obtain ⟨r31, h31, h⟩ := fy_bd_some h
      refine fy_calI w (fy_runV (As := [.int v1, .int r28]) (rest := []) C w (c_M_isAccepting l g  h31) M_o ksX10_249 rfl ⟨Nat.le_of_ble_eq_true rfl, Nat.le_of_ble_eq_true rfl⟩ rfl hl.1 rfl (Nat.le_of_ble_eq_true rfl) ⟨Nat.le_refl _, Nat.le_refl _⟩ dX10_accepts_31) (fun H locs w => ?_)
      refine lv_if_eq (tgt := 41) hx hb dX10_accepts_34 (by decide) (fun hc => ?_) (fun hc => ?_)
      · have h := fy_if_t h hc
        refine lv_iconst (v := (0 : Int32)) hx hb dX10_accepts_41 (by decide) ?_
        cases h
        exact fy_retI C w dX10_accepts_42
      · have h := fy_if_f h hc
        refine lv_iconst (v := (1 : Int32)) hx hb dX10_accepts_37 (by decide) ?_
        refine lv_goto (tgt := 42) hx hb dX10_accepts_38 (by decide) ?_
        cases h
        exact fy_retI C w dX10_accepts_42
    · have h := fy_if_t h hc
      refine lv_bipush (v := (-4 : Int32)) hx hb dX10_accepts_18 (by decide) ?_
      refine lv_goto (tgt := 42) hx hb dX10_accepts_20 (by decide) ?_
      cases h
      exact fy_retI C w dX10_accepts_42
  · have h := fy_if_t h hc
    refine lv_bipush (v := (-2 : Int32)) hx hb dX10_accepts_7 (by decide) ?_
    cases h
    exact fy_retI C w dX10_accepts_9

set_option maxHeartbeats 4000000 in
set_option maxRecDepth 100000 in
theorem c_M_accepts (l : Launch) (g : fy_G) {S : fy_S} {v1 : Int32} {rr : Int32}  (h : M_accepts S v1 = some rr) : fy_M g M_Y l yX10_accepts cX10_accepts 2 (some .int) (fy_rm 4) [.ref (g.2.2.1 0), .int v1] S (fy_QI g M_Y rr S) :=
  fy_entry (by decide +kernel) (Nat.le_of_ble_eq_true rfl) (fun p e s m args below meth c ls C w hl => t_M_accepts C  h w hl)
def M_isWon (S : fy_S) (v0 : Int32) : Option (Int32) :=
  if (10000 : Int32) ≤ v0 then (
    some (0 : Int32))
  else (
    some (1 : Int32))
set_option maxHeartbeats 4000000 in
set_option maxRecDepth 100000 in
theorem t_M_isWon {p : Program} {l : Launch} {e : Env} {s : State} {m : MethodId} {args : Array Value} {below : List Frame} {meth : Method} {c : Code} {g : fy_G} (C : fy_C g M_Y p s m args meth c yX10_isWon.cls cX10_isWon 1 (some .boolean)) {S : fy_S} {v0 : Int32} {rr : Int32}  {H : Heap} {locs : List Loc} {ls : Array Slot} (h : M_isWon S v0 = some rr) (w : fy_W g M_Y S s H locs) (hl : lv_has ls 1 [(0, .int v0)]) : W p l e (fy_rm 0) s m args below meth c H locs 0 0 (MQ below (fy_QI g M_Y rr S) args s 0 0 (fy_A g M_Y)) (F0 m 0 ls []) := by
  obtain ⟨hx, hb, hr, hts, hown, hlk, hml, hK, hD, hE, hN⟩ := id C
  rw [M_isWon] at h
  refine lv_iload_n hx hb dX10_isWon_0 rfl (lv_at hl 0 rfl) ?_
  refine lv_sipush (v := (10000 : Int32)) hx hb dX10_isWon_1 (by decide) ?_
  refine lv_icmp_ge (tgt := 11) hx hb dX10_isWon_4 (by decide) (fun hc => ?_) (fun hc => ?_)
  · have h := fy_if_t h hc
    refine lv_iconst (v := (0 : Int32)) hx hb dX10_isWon_11 (by decide) ?_
    cases h
    exact fy_retZ C w (by decide +kernel) dX10_isWon_12
  · have h := fy_if_f h hc
    refine lv_iconst (v := (1 : Int32)) hx hb dX10_isWon_7 (by decide) ?_
    refine lv_goto (tgt := 12) hx hb dX10_isWon_8 (by decide) ?_
    cases h
    exact fy_retZ C w (by decide +kernel) dX10_isWon_12

set_option maxHeartbeats 4000000 in
set_option maxRecDepth 100000 in
theorem c_M_isWon (l : Launch) (g : fy_G) {S : fy_S} {v0 : Int32} {rr : Int32}  (h : M_isWon S v0 = some rr) : fy_M g M_Y l yX10_isWon cX10_isWon 1 (some .boolean) (fy_rm 0) [.int v0] S (fy_QI g M_Y rr S) :=
  fy_entry (by decide +kernel) (Nat.le_of_ble_eq_true rfl) (fun p e s m args below meth c ls C w hl => t_M_isWon C  h w hl)
end
