noncomputable section
def X2_becomeFalse (S : fy_S) (v0 : Nat) : Option (fy_S) :=
  fy_gd (fy_ix (0 : Int32) 40) <|
  fy_bl (fy_sI S (v0 + 1) (0 : Int32).toNatClampNeg (vp_nar .byte (7 : Int32))) fun S7 =>
  fy_bl (fy_sI S7 v0 1 (1 : Int32)) fun S10 =>
  fy_bl (fy_sL S10 v0 2 (0 : Int64)) fun S15 =>
  some S15
set_option maxHeartbeats 4000000 in
set_option maxRecDepth 100000 in
theorem t_X2_becomeFalse {p : Program} {l : Launch} {e : Env} {s : State} {m : MethodId} {args : Array Value} {below : List Frame} {meth : Method} {c : Code} {g : fy_G} {y : fy_Y} (C : fy_C g y p s m args meth c yX2_becomeFalse.cls cX2_becomeFalse 1 none) (hcl : X_clo y) {S : fy_S} {v0 : Nat} {Sr : fy_S}  (q0 : X_is y 2 v0) {H : Heap} {locs : List Loc} {ls : Array Slot} (h : X2_becomeFalse S v0 = some Sr) (w : fy_W g y S s H locs) (hl : lv_has ls 1 [(0, .ref (g.2.2.1 v0))]) : W p l e (fy_rm 0) s m args below meth c H locs 0 0 (MQ below (fy_QV g y Sr) args s 0 0 (fy_A g y)) (F0 m 0 ls []) := by
  obtain ⟨hx, hb, hr, hts, hown, hlk, hml, hK, hD, hE, hN⟩ := id C
  rw [X2_becomeFalse] at h
  refine lv_aload_n hx hb dX2_becomeFalse_0 rfl (lv_at hl 0 rfl) ?_
  refine gfX2_9 hcl C w q0 dX2_becomeFalse_1 ?_
  refine lv_iconst (v := (0 : Int32)) hx hb dX2_becomeFalse_4 (by decide) ?_
  refine lv_bipush (v := (7 : Int32)) hx hb dX2_becomeFalse_5 (by decide) ?_
  obtain ⟨g7, h⟩ := fy_gd_some h
  refine fy_bast C w (X_f2_nodes hcl q0) g7 dX2_becomeFalse_7 (fun H locs w => ?_)
  obtain ⟨S7, e7⟩ : ∃ z, z = fy_sI S (v0 + 1) (0 : Int32).toNatClampNeg (vp_nar .byte (7 : Int32)) := ⟨_, rfl⟩
  have h := fy_bl_some e7 h
  rw [← e7] at w
  refine lv_aload_n hx hb dX2_becomeFalse_8 rfl (lv_at hl 0 rfl) ?_
  refine lv_iconst (v := (1 : Int32)) hx hb dX2_becomeFalse_9 (by decide) ?_
  refine pfX2_18 hcl C w q0 dX2_becomeFalse_10 (fun H locs w => ?_)
  obtain ⟨S10, e10⟩ : ∃ z, z = fy_sI S7 v0 1 (1 : Int32) := ⟨_, rfl⟩
  have h := fy_bl_some e10 h
  rw [← e10] at w
  refine lv_aload_n hx hb dX2_becomeFalse_13 rfl (lv_at hl 0 rfl) ?_
  refine lv_lconst (v := (0 : Int64)) hx hb dX2_becomeFalse_14 (by decide) ?_
  refine pfX2_22 hcl C w q0 dX2_becomeFalse_15 (fun H locs w => ?_)
  obtain ⟨S15, e15⟩ : ∃ z, z = fy_sL S10 v0 2 (0 : Int64) := ⟨_, rfl⟩
  have h := fy_bl_some e15 h
  rw [← e15] at w
  cases h
  exact fy_retV C w dX2_becomeFalse_18

set_option maxHeartbeats 4000000 in
set_option maxRecDepth 100000 in
theorem c_X2_becomeFalse (l : Launch) (g : fy_G) {y : fy_Y} (hcl : X_clo y) {S : fy_S} {v0 : Nat} {Sr : fy_S}  (q0 : X_is y 2 v0) (h : X2_becomeFalse S v0 = some Sr) : fy_M g y l yX2_becomeFalse cX2_becomeFalse 1 none (fy_rm 0) [.ref (g.2.2.1 v0)] S (fy_QV g y Sr) :=
  fy_entry (by decide +kernel) (Nat.le_of_ble_eq_true rfl) (fun p e s m args below meth c ls C w hl => t_X2_becomeFalse C hcl q0 h w hl)
def J7_fill_53178_5 : Nat → fy_S → Nat → Int32 → Int32 → Int32 → Option (fy_S)
  | 0, _, _, _, _, _ => none
  | fu + 1, S, v0, v1, v2, v3 =>
    if v3 ≤ v2 then (
      some S)
    else (
      fy_gd (fy_ix v2 (X_al v0)) <|
      fy_bl (fy_sI S v0 v2.toNatClampNeg v1) fun S13 =>
      fy_bl (v2 + (1 : Int32)) fun x14 =>
      J7_fill_53178_5 fu S13 v0 v1 x14 v3)
def J7_fill_53178 (S : fy_S) (v0 : Nat) (v1 : Int32) : Option (fy_S) :=
  fy_bl (Int32.ofNat (X_al v0)) fun x4 =>
  J7_fill_53178_5 fy_fu S v0 v1 (0 : Int32) x4
set_option maxHeartbeats 4000000 in
set_option maxRecDepth 100000 in
theorem t_J7_fill_53178_5 {p : Program} {l : Launch} {e : Env} {s : State} {m : MethodId} {args : Array Value} {below : List Frame} {meth : Method} {c : Code} {g : fy_G} {y : fy_Y} (C : fy_C g y p s m args meth c yJ7_fill_53178.cls cJ7_fill_53178 4 none) (hcl : X_clo y) {Sr : fy_S}  : ∀ (fu : Nat) (S : fy_S) (v0 : Nat) (v1 : Int32) (v2 : Int32) (v3 : Int32) (H : Heap) (locs : List Loc) (ls : Array Slot), J7_fill_53178_5 fu S v0 v1 v2 v3 = some Sr → fy_W g y S s H locs → v0 ∈ y.2 ∧ y.1 v0 = .inl (0, (X_al v0), X_ar v0) → lv_has ls 4 [(0, .ref (g.2.2.1 v0)), (1, .int v1), (2, .int v2), (3, .int v3)] → W p l e (fy_rm 0) s m args below meth c H locs 0 0 (MQ below (fy_QV g y Sr) args s 0 0 (fy_A g y)) (F0 m 5 ls []) := by
  obtain ⟨hx, hb, hr, hts, hown, hlk, hml, hK, hD, hE, hN⟩ := id C
  intro fu
  induction fu with
  | zero => intro S v0 v1 v2 v3 H locs ls h; cases h
  | succ fu ih =>
    intro S v0 v1 v2 v3 H locs ls h w q0 hl
    rw [J7_fill_53178_5] at h
    refine lv_iload_n hx hb dJ7_fill_53178_5 rfl (lv_at hl 2 rfl) ?_
    refine lv_iload_n hx hb dJ7_fill_53178_6 rfl (lv_at hl 3 rfl) ?_
    refine lv_icmp_ge (tgt := 20) hx hb dJ7_fill_53178_7 (by decide) (fun hc => ?_) (fun hc => ?_)
    · have h := fy_if_t h hc
      cases h
      exact fy_retV C w dJ7_fill_53178_20
    · have h := fy_if_f h hc
      refine lv_aload_n hx hb dJ7_fill_53178_10 rfl (lv_at hl 0 rfl) ?_
      refine lv_iload_n hx hb dJ7_fill_53178_11 rfl (lv_at hl 2 rfl) ?_
      refine lv_iload_n hx hb dJ7_fill_53178_12 rfl (lv_at hl 1 rfl) ?_
      obtain ⟨g13, h⟩ := fy_gd_some h
      refine fy_iast C w q0 g13 dJ7_fill_53178_13 (fun H locs w => ?_)
      obtain ⟨S13, e13⟩ : ∃ z, z = fy_sI S v0 v2.toNatClampNeg v1 := ⟨_, rfl⟩
      have h := fy_bl_some e13 h
      rw [← e13] at w
      obtain ⟨x14, e14⟩ : ∃ z : Int32, z = v2 + (1 : Int32) := ⟨_, rfl⟩
      have h := fy_bl_some e14 h
      refine lv_iinc (k := 2) (v := x14) (lv' := [(2, .int x14), (0, .ref (g.2.2.1 v0)), (1, .int v1), (3, .int v3)]) hx hb dJ7_fill_53178_14 hl rfl (by rw [e14]; rfl) (by decide) rfl (fun ls hl => ?_)
      refine lv_goto (tgt := 5) hx hb dJ7_fill_53178_17 (by decide) ?_
      exact ih _ _ _ _ _ _ _ _ h w q0 (lv_sub hl [1, 2, 0, 3] rfl)

set_option maxHeartbeats 4000000 in
set_option maxRecDepth 100000 in
theorem t_J7_fill_53178 {p : Program} {l : Launch} {e : Env} {s : State} {m : MethodId} {args : Array Value} {below : List Frame} {meth : Method} {c : Code} {g : fy_G} {y : fy_Y} (C : fy_C g y p s m args meth c yJ7_fill_53178.cls cJ7_fill_53178 4 none) (hcl : X_clo y) {S : fy_S} {v0 : Nat} {v1 : Int32} {Sr : fy_S}  (q0 : v0 ∈ y.2 ∧ y.1 v0 = .inl (0, X_al v0, X_ar v0)) {H : Heap} {locs : List Loc} {ls : Array Slot} (h : J7_fill_53178 S v0 v1 = some Sr) (w : fy_W g y S s H locs) (hl : lv_has ls 4 [(0, .ref (g.2.2.1 v0)), (1, .int v1)]) : W p l e (fy_rm 0) s m args below meth c H locs 0 0 (MQ below (fy_QV g y Sr) args s 0 0 (fy_A g y)) (F0 m 0 ls []) := by
  obtain ⟨hx, hb, hr, hts, hown, hlk, hml, hK, hD, hE, hN⟩ := id C
  rw [J7_fill_53178] at h
  refine lv_iconst (v := (0 : Int32)) hx hb dJ7_fill_53178_0 (by decide) ?_
  refine lv_istore_n (lv' := [(2, .int (0 : Int32)), (0, .ref (g.2.2.1 v0)), (1, .int v1)]) hx hb dJ7_fill_53178_1 rfl hl (by decide) rfl (fun ls hl => ?_)
  refine lv_aload_n hx hb dJ7_fill_53178_2 rfl (lv_at hl 1 rfl) ?_
  refine fy_alen C w q0 (by decide) dJ7_fill_53178_3 ?_
  refine lv_topi (fun x4 e4 => ?_)
  have h := fy_bl_some e4 h
  refine lv_istore_n (lv' := [(3, .int x4), (2, .int (0 : Int32)), (0, .ref (g.2.2.1 v0)), (1, .int v1)]) hx hb dJ7_fill_53178_4 rfl hl (by decide) rfl (fun ls hl => ?_)
  exact t_J7_fill_53178_5 C hcl fy_fu _ _ _ _ _ _ _ _ h w q0 (lv_sub hl [2, 3, 1, 0] rfl)

set_option maxHeartbeats 4000000 in
set_option maxRecDepth 100000 in
theorem c_J7_fill_53178 (l : Launch) (g : fy_G) {y : fy_Y} (hcl : X_clo y) {S : fy_S} {v0 : Nat} {v1 : Int32} {Sr : fy_S}  (q0 : v0 ∈ y.2 ∧ y.1 v0 = .inl (0, X_al v0, X_ar v0)) (h : J7_fill_53178 S v0 v1 = some Sr) : fy_M g y l yJ7_fill_53178 cJ7_fill_53178 4 none (fy_rm 0) [.ref (g.2.2.1 v0), .int v1] S (fy_QV g y Sr) :=
  fy_entry (by decide +kernel) (Nat.le_of_ble_eq_true rfl) (fun p e s m args below meth c ls C w hl => t_J7_fill_53178 C hcl q0 h w hl)
def X0_clear_24 : Nat → fy_S → Nat → Int32 → Option (fy_S)
  | 0, _, _, _ => none
  | fu + 1, S, v0, v3 =>
    if (Int32.ofNat 18) ≤ v3 then (
      fy_bd (J7_fill_53178 S (v0 + 1) (1 : Int32)) fun S53 =>
      some S53)
    else (
      fy_gd (fy_ix v3 18) <|
      fy_bd (X2_becomeFalse S (X_ar (v0 + 2) v3.toNatClampNeg)) fun S39 =>
      fy_bl (v3 + (1 : Int32)) fun x42 =>
      X0_clear_24 fu S39 v0 x42)
def X0_clear (S : fy_S) (v0 : Nat) (v1 : Int32) (v2 : Int32) : Option (fy_S) :=
  fy_bl (fy_sI S v0 3 v1) fun S2 =>
  fy_bl (fy_sI S2 v0 4 v2) fun S7 =>
  fy_bl (fy_sI S7 v0 5 (0 : Int32)) fun S12 =>
  fy_bd (X2_becomeFalse S12 (v0 + 3)) fun S19 =>
  X0_clear_24 fy_fu S19 v0 (0 : Int32)
set_option maxHeartbeats 4000000 in
set_option maxRecDepth 100000 in
theorem t_X0_clear_24 {p : Program} {l : Launch} {e : Env} {s : State} {m : MethodId} {args : Array Value} {below : List Frame} {meth : Method} {c : Code} {g : fy_G} {y : fy_Y} (C : fy_C g y p s m args meth c yX0_clear.cls cX0_clear 4 none) (hcl : X_clo y) {Sr : fy_S}  : ∀ (fu : Nat) (S : fy_S) (v0 : Nat) (v3 : Int32) (H : Heap) (locs : List Loc) (ls : Array Slot), X0_clear_24 fu S v0 v3 = some Sr → fy_W g y S s H locs → X_is y 0 v0 → lv_has ls 4 [(0, .ref (g.2.2.1 v0)), (3, .int v3)] → W p l e (fy_rm 1) s m args below meth c H locs 0 0 (MQ below (fy_QV g y Sr) args s 0 0 (fy_A g y)) (F0 m 24 ls []) := by
  obtain ⟨hx, hb, hr, hts, hown, hlk, hml, hK, hD, hE, hN⟩ := id C
  intro fu
  induction fu with
  | zero => intro S v0 v3 H locs ls h; cases h
  | succ fu ih =>
    intro S v0 v3 H locs ls h w q0 hl
    rw [X0_clear_24] at h
    refine lv_iload_n hx hb dX0_clear_24 rfl (lv_at hl 1 rfl) ?_
    refine lv_aload_n hx hb dX0_clear_25 rfl (lv_at hl 0 rfl) ?_
    refine gfX0_22 hcl C w q0 dX0_clear_26 ?_
    refine fy_alen C w (X_f0_moves hcl q0) (by decide) dX0_clear_29 ?_
    refine lv_icmp_ge (tgt := 48) hx hb dX0_clear_30 (by decide) (fun hc => ?_) (fun hc => ?_)
    · have h := fy_if_t h hc
      refine lv_aload_n hx hb dX0_clear_48 rfl (lv_at hl 0 rfl) ?_
      refine gfX0_9 hcl C w q0 dX0_clear_49 ?_
      refine lv_iconst (v := (1 : Int32)) hx hb dX0_clear_52 (by decide) ?_
      obtain ⟨S53, h53, h⟩ := fy_bd_some h
      refine fy_calV w (fy_runS (As := [.ref (g.2.2.1 (v0 + 1)), .int (1 : Int32)]) (rest := []) C w (c_J7_fill_53178 l g hcl (X_an hcl (X_f0_weights hcl q0)) h53) ksX0_43 ⟨Nat.le_of_ble_eq_true rfl, Nat.le_of_ble_eq_true rfl⟩ rfl hl.1 rfl (Nat.le_of_ble_eq_true rfl) ⟨Nat.le_refl _, Nat.le_refl _⟩ dX0_clear_53) (fun H locs w => ?_)
      cases h
      exact fy_retV C w dX0_clear_56
    · have h := fy_if_f h hc
      refine lv_aload_n hx hb dX0_clear_33 rfl (lv_at hl 0 rfl) ?_
      refine gfX0_22 hcl C w q0 dX0_clear_34 ?_
      refine lv_iload_n hx hb dX0_clear_37 rfl (lv_at hl 1 rfl) ?_
      obtain ⟨g38, h⟩ := fy_gd_some h
      refine fy_aald7 C w (X_f0_moves hcl q0) g38 dX0_clear_38 ?_
      obtain ⟨S39, h39, h⟩ := fy_bd_some h
      refine fy_calV w (fy_runV (As := []) (rest := []) C w (c_X2_becomeFalse l g hcl (X_e7 hcl (X_f0_moves hcl q0) g38) h39) (X_o2 hcl (X_e7 hcl (X_f0_moves hcl q0) g38)) ksX0_40 rfl ⟨Nat.le_of_ble_eq_true rfl, Nat.le_of_ble_eq_true rfl⟩ rfl hl.1 rfl (Nat.le_of_ble_eq_true rfl) ⟨Nat.le_refl _, Nat.le_refl _⟩ dX0_clear_39) (fun H locs w => ?_)
      obtain ⟨x42, e42⟩ : ∃ z : Int32, z = v3 + (1 : Int32) := ⟨_, rfl⟩
      have h := fy_bl_some e42 h
      refine lv_iinc (k := 1) (v := x42) (lv' := [(3, .int x42), (0, .ref (g.2.2.1 v0))]) hx hb dX0_clear_42 hl rfl (by rw [e42]; rfl) (by decide) rfl (fun ls hl => ?_)
      refine lv_goto (tgt := 24) hx hb dX0_clear_45 (by decide) ?_
      exact ih _ _ _ _ _ _ h w q0 (lv_sub hl [1, 0] rfl)

set_option maxHeartbeats 4000000 in
set_option maxRecDepth 100000 in
theorem t_X0_clear {p : Program} {l : Launch} {e : Env} {s : State} {m : MethodId} {args : Array Value} {below : List Frame} {meth : Method} {c : Code} {g : fy_G} {y : fy_Y} (C : fy_C g y p s m args meth c yX0_clear.cls cX0_clear 4 none) (hcl : X_clo y) {S : fy_S} {v0 : Nat} {v1 : Int32} {v2 : Int32} {Sr : fy_S}  (q0 : X_is y 0 v0) {H : Heap} {locs : List Loc} {ls : Array Slot} (h : X0_clear S v0 v1 v2 = some Sr) (w : fy_W g y S s H locs) (hl : lv_has ls 4 [(0, .ref (g.2.2.1 v0)), (1, .int v1), (2, .int v2)]) : W p l e (fy_rm 1) s m args below meth c H locs 0 0 (MQ below (fy_QV g y Sr) args s 0 0 (fy_A g y)) (F0 m 0 ls []) := by
  obtain ⟨hx, hb, hr, hts, hown, hlk, hml, hK, hD, hE, hN⟩ := id C
  rw [X0_clear] at h
  refine lv_aload_n hx hb dX0_clear_0 rfl (lv_at hl 0 rfl) ?_
  refine lv_iload_n hx hb dX0_clear_1 rfl (lv_at hl 1 rfl) ?_
  refine pfX0_30 hcl C w q0 dX0_clear_2 (fun H locs w => ?_)
  obtain ⟨S2, e2⟩ : ∃ z, z = fy_sI S v0 3 v1 := ⟨_, rfl⟩
  have h := fy_bl_some e2 h
  rw [← e2] at w
  refine lv_aload_n hx hb dX0_clear_5 rfl (lv_at hl 0 rfl) ?_
  refine lv_iload_n hx hb dX0_clear_6 rfl (lv_at hl 2 rfl) ?_
  refine pfX0_34 hcl C w q0 dX0_clear_7 (fun H locs w => ?_)
  obtain ⟨S7, e7⟩ : ∃ z, z = fy_sI S2 v0 4 v2 := ⟨_, rfl⟩
  have h := fy_bl_some e7 h
  rw [← e7] at w
  refine lv_aload_n hx hb dX0_clear_10 rfl (lv_at hl 0 rfl) ?_
  refine lv_iconst (v := (0 : Int32)) hx hb dX0_clear_11 (by decide) ?_
  refine pfX0_37 hcl C w q0 dX0_clear_12 (fun H locs w => ?_)
  obtain ⟨S12, e12⟩ : ∃ z, z = fy_sI S7 v0 5 (0 : Int32) := ⟨_, rfl⟩
  have h := fy_bl_some e12 h
  rw [← e12] at w
  refine lv_aload_n hx hb dX0_clear_15 rfl (lv_at hl 0 rfl) ?_
  refine gfX0_18 hcl C w q0 dX0_clear_16 ?_
  obtain ⟨S19, h19, h⟩ := fy_bd_some h
  refine fy_calV w (fy_runV (As := []) (rest := []) C w (c_X2_becomeFalse l g hcl (X_f0_initial hcl q0) h19) (X_o2 hcl (X_f0_initial hcl q0)) ksX0_40 rfl ⟨Nat.le_of_ble_eq_true rfl, Nat.le_of_ble_eq_true rfl⟩ rfl hl.1 rfl (Nat.le_of_ble_eq_true rfl) ⟨Nat.le_refl _, Nat.le_refl _⟩ dX0_clear_19) (fun H locs w => ?_)
  refine lv_iconst (v := (0 : Int32)) hx hb dX0_clear_22 (by decide) ?_
  refine lv_istore_n (lv' := [(3, .int (0 : Int32)), (0, .ref (g.2.2.1 v0)), (1, .int v1), (2, .int v2)]) hx hb dX0_clear_23 rfl hl (by decide) rfl (fun ls hl => ?_)
  exact t_X0_clear_24 C hcl fy_fu _ _ _ _ _ _ h w q0 (lv_sub hl [1, 0] rfl)

set_option maxHeartbeats 4000000 in
set_option maxRecDepth 100000 in
theorem c_X0_clear (l : Launch) (g : fy_G) {y : fy_Y} (hcl : X_clo y) {S : fy_S} {v0 : Nat} {v1 : Int32} {v2 : Int32} {Sr : fy_S}  (q0 : X_is y 0 v0) (h : X0_clear S v0 v1 v2 = some Sr) : fy_M g y l yX0_clear cX0_clear 4 none (fy_rm 1) [.ref (g.2.2.1 v0), .int v1, .int v2] S (fy_QV g y Sr) :=
  fy_entry (by decide +kernel) (Nat.le_of_ble_eq_true rfl) (fun p e s m args below meth c ls C w hl => t_X0_clear C hcl q0 h w hl)
def J7_fill_fb410_5 : Nat → fy_S → Nat → Int32 → Int32 → Int32 → Option (fy_S)
  | 0, _, _, _, _, _ => none
  | fu + 1, S, v0, v1, v2, v3 =>
    if v3 ≤ v2 then (
      some S)
    else (
      fy_gd (fy_ix v2 (X_al v0)) <|
      fy_bl (fy_sI S v0 v2.toNatClampNeg (vp_nar .short v1)) fun S13 =>
      fy_bl (v2 + (1 : Int32)) fun x14 =>
      J7_fill_fb410_5 fu S13 v0 v1 x14 v3)
def J7_fill_fb410 (S : fy_S) (v0 : Nat) (v1 : Int32) : Option (fy_S) :=
  fy_bl (Int32.ofNat (X_al v0)) fun x4 =>
  J7_fill_fb410_5 fy_fu S v0 v1 (0 : Int32) x4
set_option maxHeartbeats 4000000 in
set_option maxRecDepth 100000 in
theorem t_J7_fill_fb410_5 {p : Program} {l : Launch} {e : Env} {s : State} {m : MethodId} {args : Array Value} {below : List Frame} {meth : Method} {c : Code} {g : fy_G} {y : fy_Y} (C : fy_C g y p s m args meth c yJ7_fill_fb410.cls cJ7_fill_fb410 4 none) (hcl : X_clo y) {Sr : fy_S}  : ∀ (fu : Nat) (S : fy_S) (v0 : Nat) (v1 : Int32) (v2 : Int32) (v3 : Int32) (H : Heap) (locs : List Loc) (ls : Array Slot), J7_fill_fb410_5 fu S v0 v1 v2 v3 = some Sr → fy_W g y S s H locs → v0 ∈ y.2 ∧ y.1 v0 = .inl (3, (X_al v0), X_ar v0) → lv_has ls 4 [(0, .ref (g.2.2.1 v0)), (1, .int v1), (2, .int v2), (3, .int v3)] → W p l e (fy_rm 0) s m args below meth c H locs 0 0 (MQ below (fy_QV g y Sr) args s 0 0 (fy_A g y)) (F0 m 5 ls []) := by
  obtain ⟨hx, hb, hr, hts, hown, hlk, hml, hK, hD, hE, hN⟩ := id C
  intro fu
  induction fu with
  | zero => intro S v0 v1 v2 v3 H locs ls h; cases h
  | succ fu ih =>
    intro S v0 v1 v2 v3 H locs ls h w q0 hl
    rw [J7_fill_fb410_5] at h
    refine lv_iload_n hx hb dJ7_fill_fb410_5 rfl (lv_at hl 2 rfl) ?_
    refine lv_iload_n hx hb dJ7_fill_fb410_6 rfl (lv_at hl 3 rfl) ?_
    refine lv_icmp_ge (tgt := 20) hx hb dJ7_fill_fb410_7 (by decide) (fun hc => ?_) (fun hc => ?_)
    · have h := fy_if_t h hc
      cases h
      exact fy_retV C w dJ7_fill_fb410_20
    · have h := fy_if_f h hc
      refine lv_aload_n hx hb dJ7_fill_fb410_10 rfl (lv_at hl 0 rfl) ?_
      refine lv_iload_n hx hb dJ7_fill_fb410_11 rfl (lv_at hl 2 rfl) ?_
      refine lv_iload_n hx hb dJ7_fill_fb410_12 rfl (lv_at hl 1 rfl) ?_
      obtain ⟨g13, h⟩ := fy_gd_some h
      refine fy_sast C w q0 g13 dJ7_fill_fb410_13 (fun H locs w => ?_)
      obtain ⟨S13, e13⟩ : ∃ z, z = fy_sI S v0 v2.toNatClampNeg (vp_nar .short v1) := ⟨_, rfl⟩
      have h := fy_bl_some e13 h
      rw [← e13] at w
      obtain ⟨x14, e14⟩ : ∃ z : Int32, z = v2 + (1 : Int32) := ⟨_, rfl⟩
      have h := fy_bl_some e14 h
      refine lv_iinc (k := 2) (v := x14) (lv' := [(2, .int x14), (0, .ref (g.2.2.1 v0)), (1, .int v1), (3, .int v3)]) hx hb dJ7_fill_fb410_14 hl rfl (by rw [e14]; rfl) (by decide) rfl (fun ls hl => ?_)
      refine lv_goto (tgt := 5) hx hb dJ7_fill_fb410_17 (by decide) ?_
      exact ih _ _ _ _ _ _ _ _ h w q0 (lv_sub hl [1, 2, 0, 3] rfl)

set_option maxHeartbeats 4000000 in
set_option maxRecDepth 100000 in
theorem t_J7_fill_fb410 {p : Program} {l : Launch} {e : Env} {s : State} {m : MethodId} {args : Array Value} {below : List Frame} {meth : Method} {c : Code} {g : fy_G} {y : fy_Y} (C : fy_C g y p s m args meth c yJ7_fill_fb410.cls cJ7_fill_fb410 4 none) (hcl : X_clo y) {S : fy_S} {v0 : Nat} {v1 : Int32} {Sr : fy_S}  (q0 : v0 ∈ y.2 ∧ y.1 v0 = .inl (3, X_al v0, X_ar v0)) {H : Heap} {locs : List Loc} {ls : Array Slot} (h : J7_fill_fb410 S v0 v1 = some Sr) (w : fy_W g y S s H locs) (hl : lv_has ls 4 [(0, .ref (g.2.2.1 v0)), (1, .int v1)]) : W p l e (fy_rm 0) s m args below meth c H locs 0 0 (MQ below (fy_QV g y Sr) args s 0 0 (fy_A g y)) (F0 m 0 ls []) := by
  obtain ⟨hx, hb, hr, hts, hown, hlk, hml, hK, hD, hE, hN⟩ := id C
  rw [J7_fill_fb410] at h
  refine lv_iconst (v := (0 : Int32)) hx hb dJ7_fill_fb410_0 (by decide) ?_
  refine lv_istore_n (lv' := [(2, .int (0 : Int32)), (0, .ref (g.2.2.1 v0)), (1, .int v1)]) hx hb dJ7_fill_fb410_1 rfl hl (by decide) rfl (fun ls hl => ?_)
  refine lv_aload_n hx hb dJ7_fill_fb410_2 rfl (lv_at hl 1 rfl) ?_
  refine fy_alen C w q0 (by decide) dJ7_fill_fb410_3 ?_
  refine lv_topi (fun x4 e4 => ?_)
  have h := fy_bl_some e4 h
  refine lv_istore_n (lv' := [(3, .int x4), (2, .int (0 : Int32)), (0, .ref (g.2.2.1 v0)), (1, .int v1)]) hx hb dJ7_fill_fb410_4 rfl hl (by decide) rfl (fun ls hl => ?_)
  exact t_J7_fill_fb410_5 C hcl fy_fu _ _ _ _ _ _ _ _ h w q0 (lv_sub hl [2, 3, 1, 0] rfl)

set_option maxHeartbeats 4000000 in
set_option maxRecDepth 100000 in
theorem c_J7_fill_fb410 (l : Launch) (g : fy_G) {y : fy_Y} (hcl : X_clo y) {S : fy_S} {v0 : Nat} {v1 : Int32} {Sr : fy_S}  (q0 : v0 ∈ y.2 ∧ y.1 v0 = .inl (3, X_al v0, X_ar v0)) (h : J7_fill_fb410 S v0 v1 = some Sr) : fy_M g y l yJ7_fill_fb410 cJ7_fill_fb410 4 none (fy_rm 0) [.ref (g.2.2.1 v0), .int v1] S (fy_QV g y Sr) :=
  fy_entry (by decide +kernel) (Nat.le_of_ble_eq_true rfl) (fun p e s m args below meth c ls C w hl => t_J7_fill_fb410 C hcl q0 h w hl)
def X9_automatonIn (S : fy_S) (v1 : Int32) : Option (Option Nat) :=
  if v1 < 0 then (
    some none)
  else (
    if (3 : Int32) ≤ v1 then (
      some none)
    else (
      fy_gd (fy_ix v1 3) <|
      some (some (X_ar 1 v1.toNatClampNeg))))
theorem cls_X9_automatonIn {S : fy_S} {v1 : Int32} {z : Nat} (h : X9_automatonIn S v1 = some (some z)) : X_is X_Y 0 z := by
  rw [X9_automatonIn] at h
  split at h
  · cases h
  · split at h
    · cases h
    · obtain ⟨g, h⟩ := fy_gd_some h
      cases h
      exact X_e6 X_full X_a1 g
set_option maxHeartbeats 4000000 in
set_option maxRecDepth 100000 in
theorem t_X9_automatonIn {p : Program} {l : Launch} {e : Env} {s : State} {m : MethodId} {args : Array Value} {below : List Frame} {meth : Method} {c : Code} {g : fy_G} (C : fy_C g X_Y p s m args meth c yX9_automatonIn.cls cX9_automatonIn 2 (some (.object "AlternatingAutomata$Automaton"))) {S : fy_S} {v1 : Int32} {rr : Option Nat}  {H : Heap} {locs : List Loc} {ls : Array Slot} (h : X9_automatonIn S v1 = some rr) (w : fy_W g X_Y S s H locs) (hl : lv_has ls 2 [(0, .ref (g.2.2.1 0)), (1, .int v1)]) : W p l e (fy_rm 0) s m args below meth c H locs 0 0 (MQ below (fy_QE g X_Y rr S) args s 0 0 (fy_A g X_Y)) (F0 m 0 ls []) := by
  obtain ⟨hx, hb, hr, hts, hown, hlk, hml, hK, hD, hE, hN⟩ := id C
  rw [X9_automatonIn] at h
  refine lv_iload_n hx hb dX9_automatonIn_0 rfl (lv_at hl 1 rfl) ?_
  refine lv_if_lt (tgt := 18) hx hb dX9_automatonIn_1 (by decide) (fun hc => ?_) (fun hc => ?_)
  · have h := fy_if_t h hc
    refine lv_null hx hb dX9_automatonIn_18 ?_
    cases h
    exact fy_retE C w rfl dX9_automatonIn_19
  · have h := fy_if_f h hc
    refine lv_iload_n hx hb dX9_automatonIn_4 rfl (lv_at hl 1 rfl) ?_
    refine lv_iconst (v := (3 : Int32)) hx hb dX9_automatonIn_5 (by decide) ?_
    refine lv_icmp_ge (tgt := 18) hx hb dX9_automatonIn_6 (by decide) (fun hc => ?_) (fun hc => ?_)
    · have h := fy_if_t h hc
      refine lv_null hx hb dX9_automatonIn_18 ?_
      cases h
      exact fy_retE C w rfl dX9_automatonIn_19
    · have h := fy_if_f h hc
      refine lv_aload_n hx hb dX9_automatonIn_9 rfl (lv_at hl 0 rfl) ?_
      refine gfX9_11 X_full C w (X_i0) dX9_automatonIn_10 ?_
      refine lv_iload_n hx hb dX9_automatonIn_13 rfl (lv_at hl 1 rfl) ?_
      obtain ⟨g14, h⟩ := fy_gd_some h
      refine fy_aald6 C w X_a1 g14 dX9_automatonIn_14 ?_
      refine lv_goto (tgt := 19) hx hb dX9_automatonIn_15 (by decide) ?_
      cases h
      exact fy_retE C w rfl dX9_automatonIn_19

set_option maxHeartbeats 4000000 in
set_option maxRecDepth 100000 in
theorem c_X9_automatonIn (l : Launch) (g : fy_G) {S : fy_S} {v1 : Int32} {rr : Option Nat}  (h : X9_automatonIn S v1 = some rr) : fy_M g X_Y l yX9_automatonIn cX9_automatonIn 2 (some (.object "AlternatingAutomata$Automaton")) (fy_rm 0) [.ref (g.2.2.1 0), .int v1] S (fy_QE g X_Y rr S) :=
  fy_entry (by decide +kernel) (Nat.le_of_ble_eq_true rfl) (fun p e s m args below meth c ls C w hl => t_X9_automatonIn C  h w hl)
def X9_isWithin (S : fy_S) (v0 : Int32) (v1 : Int32) (v2 : Int32) : Option (Int32) :=
  if v0 < v1 then (
    some (0 : Int32))
  else (
    if v2 < v0 then (
      some (0 : Int32))
    else (
      some (1 : Int32)))
set_option maxHeartbeats 4000000 in
set_option maxRecDepth 100000 in
theorem t_X9_isWithin {p : Program} {l : Launch} {e : Env} {s : State} {m : MethodId} {args : Array Value} {below : List Frame} {meth : Method} {c : Code} {g : fy_G} {y : fy_Y} (C : fy_C g y p s m args meth c yX9_isWithin.cls cX9_isWithin 3 (some .boolean)) (hcl : X_clo y) {S : fy_S} {v0 : Int32} {v1 : Int32} {v2 : Int32} {rr : Int32}  {H : Heap} {locs : List Loc} {ls : Array Slot} (h : X9_isWithin S v0 v1 v2 = some rr) (w : fy_W g y S s H locs) (hl : lv_has ls 3 [(0, .int v0), (1, .int v1), (2, .int v2)]) : W p l e (fy_rm 0) s m args below meth c H locs 0 0 (MQ below (fy_QI g y rr S) args s 0 0 (fy_A g y)) (F0 m 0 ls []) := by
  obtain ⟨hx, hb, hr, hts, hown, hlk, hml, hK, hD, hE, hN⟩ := id C
  rw [X9_isWithin] at h
  refine lv_iload_n hx hb dX9_isWithin_0 rfl (lv_at hl 0 rfl) ?_
  refine lv_iload_n hx hb dX9_isWithin_1 rfl (lv_at hl 1 rfl) ?_
  refine lv_icmp_lt (tgt := 14) hx hb dX9_isWithin_2 (by decide) (fun hc => ?_) (fun hc => ?_)
  · have h := fy_if_t h hc
    refine lv_iconst (v := (0 : Int32)) hx hb dX9_isWithin_14 (by decide) ?_
    cases h
    exact fy_retZ C w (by decide +kernel) dX9_isWithin_15
  · have h := fy_if_f h hc
    refine lv_iload_n hx hb dX9_isWithin_5 rfl (lv_at hl 0 rfl) ?_
    refine lv_iload_n hx hb dX9_isWithin_6 rfl (lv_at hl 2 rfl) ?_
    refine lv_icmp_gt (tgt := 14) hx hb dX9_isWithin_7 (by decide) (fun hc => ?_) (fun hc => ?_)
    · have h := fy_if_t h hc
      refine lv_iconst (v := (0 : Int32)) hx hb dX9_isWithin_14 (by decide) ?_
      cases h
      exact fy_retZ C w (by decide +kernel) dX9_isWithin_15
    · have h := fy_if_f h hc
      refine lv_iconst (v := (1 : Int32)) hx hb dX9_isWithin_10 (by decide) ?_
      refine lv_goto (tgt := 15) hx hb dX9_isWithin_11 (by decide) ?_
      cases h
      exact fy_retZ C w (by decide +kernel) dX9_isWithin_15

set_option maxHeartbeats 4000000 in
set_option maxRecDepth 100000 in
theorem c_X9_isWithin (l : Launch) (g : fy_G) {y : fy_Y} (hcl : X_clo y) {S : fy_S} {v0 : Int32} {v1 : Int32} {v2 : Int32} {rr : Int32}  (h : X9_isWithin S v0 v1 v2 = some rr) : fy_M g y l yX9_isWithin cX9_isWithin 3 (some .boolean) (fy_rm 0) [.int v0, .int v1, .int v2] S (fy_QI g y rr S) :=
  fy_entry (by decide +kernel) (Nat.le_of_ble_eq_true rfl) (fun p e s m args below meth c ls C w hl => t_X9_isWithin C hcl  h w hl)
def X9_create (S : fy_S) (v1 : Int32) (v2 : Int32) (v3 : Int32) : Option (fy_S × Int32) :=
  fy_bd (X9_automatonIn S v1) fun r2 =>
  match r2 with
  | none => (
    some (S, (-2 : Int32)))
  | some r2_ => (
    fy_bd (X9_isWithin S v2 (1 : Int32) (6 : Int32)) fun r16 =>
    if r16 = 0 then (
      some (S, (-2 : Int32)))
    else (
      fy_bd (X9_isWithin S v3 (1 : Int32) (3 : Int32)) fun r25 =>
      if r25 = 0 then (
        some (S, (-2 : Int32)))
      else (
        fy_bl (S.1 r2_ 3) fun x39 =>
        fy_bd (X0_clear S r2_ v2 v3) fun S45 =>
        some (S45, x39))))
set_option maxHeartbeats 4000000 in
set_option maxRecDepth 100000 in
theorem t_X9_create {p : Program} {l : Launch} {e : Env} {s : State} {m : MethodId} {args : Array Value} {below : List Frame} {meth : Method} {c : Code} {g : fy_G} (C : fy_C g X_Y p s m args meth c yX9_create.cls cX9_create 6 (some .int)) {S : fy_S} {v1 : Int32} {v2 : Int32} {v3 : Int32} {Sr : fy_S} {rr : Int32}  {H : Heap} {locs : List Loc} {ls : Array Slot} (h : X9_create S v1 v2 v3 = some (Sr, rr)) (w : fy_W g X_Y S s H locs) (hl : lv_has ls 6 [(0, .ref (g.2.2.1 0)), (1, .int v1), (2, .int v2), (3, .int v3)]) : W p l e (fy_rm 2) s m args below meth c H locs 0 0 (MQ below (fy_QI g X_Y rr Sr) args s 0 0 (fy_A g X_Y)) (F0 m 0 ls []) := by
  obtain ⟨hx, hb, hr, hts, hown, hlk, hml, hK, hD, hE, hN⟩ := id C
  rw [X9_create] at h
  refine lv_aload_n hx hb dX9_create_0 rfl (lv_at hl 0 rfl) ?_
  refine lv_iload_n hx hb dX9_create_1 rfl (lv_at hl 1 rfl) ?_
  obtain ⟨r2, h2, h⟩ := fy_bd_some h
  refine fy_calE w (fy_runV (As := [.int v1]) (rest := []) C w (c_X9_automatonIn l g  h2) (X_o9 X_full (X_i0)) ksX9_88 rfl ⟨Nat.le_of_ble_eq_true rfl, Nat.le_of_ble_eq_true rfl⟩ rfl hl.1 rfl (Nat.le_of_ble_eq_true rfl) ⟨Nat.le_refl _, Nat.le_refl _⟩ dX9_create_2) (fun H locs w => ?_)
  refine fy_astoreO (lv' := [(4, va_re g.2.2.1 r2), (0, .ref (g.2.2.1 0)), (1, .int v1), (2, .int v2), (3, .int v3)]) hx hb dX9_create_5 hl (by decide) rfl (fun ls hl => ?_)
  cases r2 with
  | none =>
    dsimp only at h
    refine lv_aloadN hx hb dX9_create_7 (lv_at hl 0 rfl) ?_
    refine lv_ifnullN (tgt := 31) hx hb dX9_create_9 (by decide) ?_
    refine lv_bipush (v := (-2 : Int32)) hx hb dX9_create_31 (by decide) ?_
    cases h
    exact fy_retI C w dX9_create_33
  | some r2_ =>
    dsimp only at h
    refine lv_aload hx hb dX9_create_7 (lv_at hl 0 rfl) ?_
    refine lv_ifnull hx hb dX9_create_9 ?_
    refine lv_iload_n hx hb dX9_create_12 rfl (lv_at hl 3 rfl) ?_
    refine lv_iconst (v := (1 : Int32)) hx hb dX9_create_13 (by decide) ?_
    refine lv_bipush (v := (6 : Int32)) hx hb dX9_create_14 (by decide) ?_
    obtain ⟨r16, h16, h⟩ := fy_bd_some h
    refine fy_calI w (fy_runS (As := [.int v2, .int (1 : Int32), .int (6 : Int32)]) (rest := []) C w (c_X9_isWithin l g X_full  h16) ksX9_92 ⟨Nat.le_of_ble_eq_true rfl, Nat.le_of_ble_eq_true rfl⟩ rfl hl.1 rfl (Nat.le_of_ble_eq_true rfl) ⟨Nat.le_refl _, Nat.le_refl _⟩ dX9_create_16) (fun H locs w => ?_)
    refine lv_if_eq (tgt := 31) hx hb dX9_create_19 (by decide) (fun hc => ?_) (fun hc => ?_)
    · have h := fy_if_t h hc
      refine lv_bipush (v := (-2 : Int32)) hx hb dX9_create_31 (by decide) ?_
      cases h
      exact fy_retI C w dX9_create_33
    · have h := fy_if_f h hc
      refine lv_iload_n hx hb dX9_create_22 rfl (lv_at hl 4 rfl) ?_
      refine lv_iconst (v := (1 : Int32)) hx hb dX9_create_23 (by decide) ?_
      refine lv_iconst (v := (3 : Int32)) hx hb dX9_create_24 (by decide) ?_
      obtain ⟨r25, h25, h⟩ := fy_bd_some h
      refine fy_calI w (fy_runS (As := [.int v3, .int (1 : Int32), .int (3 : Int32)]) (rest := []) C w (c_X9_isWithin l g X_full  h25) ksX9_92 ⟨Nat.le_of_ble_eq_true rfl, Nat.le_of_ble_eq_true rfl⟩ rfl hl.1 rfl (Nat.le_of_ble_eq_true rfl) ⟨Nat.le_refl _, Nat.le_refl _⟩ dX9_create_25) (fun H locs w => ?_)
      refine lv_if_ne (tgt := 34) hx hb dX9_create_28 (by decide) (fun hc => ?_) (fun hc => ?_)
      · have h := fy_if_f h hc
        refine lv_aload hx hb dX9_create_34 (lv_at hl 0 rfl) ?_
        refine gfX9_96 X_full C w (cls_X9_automatonIn  h2) dX9_create_36 ?_
        refine lv_topi (fun x39 e39 => ?_)
        have h := fy_bl_some e39 h
        refine lv_istore (lv' := [(5, .int x39), (4, .ref (g.2.2.1 r2_)), (0, .ref (g.2.2.1 0)), (1, .int v1), (2, .int v2), (3, .int v3)]) hx hb dX9_create_39 hl (by decide) rfl (fun ls hl => ?_)
        refine lv_aload hx hb dX9_create_41 (lv_at hl 1 rfl) ?_
        refine lv_iload_n hx hb dX9_create_43 rfl (lv_at hl 4 rfl) ?_
        refine lv_iload_n hx hb dX9_create_44 rfl (lv_at hl 5 rfl) ?_
        obtain ⟨S45, h45, h⟩ := fy_bd_some h
        refine fy_calV w (fy_runV (As := [.int v2, .int v3]) (rest := []) C w (c_X0_clear l g X_full (cls_X9_automatonIn  h2) h45) (X_o0 X_full (cls_X9_automatonIn  h2)) ksX9_99 rfl ⟨Nat.le_of_ble_eq_true rfl, Nat.le_of_ble_eq_true rfl⟩ rfl hl.1 rfl (Nat.le_of_ble_eq_true rfl) ⟨Nat.le_refl _, Nat.le_refl _⟩ dX9_create_45) (fun H locs w => ?_)
        refine lv_iload hx hb dX9_create_48 (lv_at hl 0 rfl) ?_
        cases h
        exact fy_retI C w dX9_create_50
      · have h := fy_if_t h hc
        refine lv_bipush (v := (-2 : Int32)) hx hb dX9_create_31 (by decide) ?_
        cases h
        exact fy_retI C w dX9_create_33

set_option maxHeartbeats 4000000 in
set_option maxRecDepth 100000 in
theorem c_X9_create (l : Launch) (g : fy_G) {S : fy_S} {v1 : Int32} {v2 : Int32} {v3 : Int32} {Sr : fy_S} {rr : Int32}  (h : X9_create S v1 v2 v3 = some (Sr, rr)) : fy_M g X_Y l yX9_create cX9_create 6 (some .int) (fy_rm 2) [.ref (g.2.2.1 0), .int v1, .int v2, .int v3] S (fy_QI g X_Y rr Sr) :=
  fy_entry (by decide +kernel) (Nat.le_of_ble_eq_true rfl) (fun p e s m args below meth c ls C w hl => t_X9_create C  h w hl)
def X0_hasState (S : fy_S) (v0 : Nat) (v1 : Int32) : Option (Int32) :=
  if v1 < 0 then (
    some (0 : Int32))
  else (
    if (S.1 v0 3) ≤ v1 then (
      some (0 : Int32))
    else (
      some (1 : Int32)))
set_option maxHeartbeats 4000000 in
set_option maxRecDepth 100000 in
theorem t_X0_hasState {p : Program} {l : Launch} {e : Env} {s : State} {m : MethodId} {args : Array Value} {below : List Frame} {meth : Method} {c : Code} {g : fy_G} {y : fy_Y} (C : fy_C g y p s m args meth c yX0_hasState.cls cX0_hasState 2 (some .boolean)) (hcl : X_clo y) {S : fy_S} {v0 : Nat} {v1 : Int32} {rr : Int32} (q0 : X_is y 0 v0) {H : Heap} {locs : List Loc} {ls : Array Slot} (h : X0_hasState S v0 v1 = some rr) (w : fy_W g y S s H locs) (hl : lv_has ls 2 [(0, .ref (g.2.2.1 v0)), (1, .int v1)]) : W p l e (fy_rm 0) s m args below meth c H locs 0 0 (MQ below (fy_QI g y rr S) args s 0 0 (fy_A g y)) (F0 m 0 ls []) := by
  obtain ⟨hx, hb, hr, hts, hown, hlk, hml, hK, hD, hE, hN⟩ := id C
  rw [X0_hasState] at h
  refine lv_iload_n hx hb dX0_hasState_0 rfl (lv_at hl 1 rfl) ?_
  refine lv_if_lt (tgt := 16) hx hb dX0_hasState_1 (by decide) (fun hc => ?_) (fun hc => ?_)
  · have h := fy_if_t h hc
    refine lv_iconst (v := (0 : Int32)) hx hb dX0_hasState_16 (by decide) ?_
    cases h
    exact fy_retZ C w (by decide +kernel) dX0_hasState_17
  · have h := fy_if_f h hc
    refine lv_iload_n hx hb dX0_hasState_4 rfl (lv_at hl 1 rfl) ?_
    refine lv_aload_n hx hb dX0_hasState_5 rfl (lv_at hl 0 rfl) ?_
    refine gfX0_30 hcl C w q0 dX0_hasState_6 ?_
    refine lv_icmp_ge (tgt := 16) hx hb dX0_hasState_9 (by decide) (fun hc => ?_) (fun hc => ?_)
    · have h := fy_if_t h hc
      refine lv_iconst (v := (0 : Int32)) hx hb dX0_hasState_16 (by decide) ?_
      cases h
      exact fy_retZ C w (by decide +kernel) dX0_hasState_17
    · have h := fy_if_f h hc
      refine lv_iconst (v := (1 : Int32)) hx hb dX0_hasState_12 (by decide) ?_
      refine lv_goto (tgt := 17) hx hb dX0_hasState_13 (by decide) ?_
      cases h
      exact fy_retZ C w (by decide +kernel) dX0_hasState_17

set_option maxHeartbeats 4000000 in
set_option maxRecDepth 100000 in
theorem c_X0_hasState (l : Launch) (g : fy_G) {y : fy_Y} (hcl : X_clo y) {S : fy_S} {v0 : Nat} {v1 : Int32} {rr : Int32} (q0 : X_is y 0 v0) (h : X0_hasState S v0 v1 = some rr) : fy_M g y l yX0_hasState cX0_hasState 2 (some .boolean) (fy_rm 0) [.ref (g.2.2.1 v0), .int v1] S (fy_QI g y rr S) :=
  fy_entry (by decide +kernel) (Nat.le_of_ble_eq_true rfl) (fun p e s m args below meth c ls C w hl => t_X0_hasState C hcl q0 h w hl)
def X9_setFinal (S : fy_S) (v1 : Int32) (v2 : Int32) (v3 : Int32) : Option (fy_S × Int32) :=
  fy_bd (X9_automatonIn S v1) fun r2 =>
  match r2 with
  | none => (
    some (S, (-2 : Int32)))
  | some r2_ => (
    fy_bd (X0_hasState S r2_ v2) fun r15 =>
    if r15 = 0 then (
      some (S, (-2 : Int32)))
    else (
      fy_bd (X9_isWithin S v3 (0 : Int32) (1 : Int32)) fun r24 =>
      if r24 = 0 then (
        some (S, (-2 : Int32)))
      else (
        fy_bl ((S.1 r2_ 5) &&& (((1 : Int32) <<< (v2 &&& 31)) ^^^ (-1 : Int32))) fun x44 =>
        fy_bl (fy_sI S r2_ 5 (x44 ||| (v3 <<< (v2 &&& 31)))) fun S54 =>
        some (S54, (S54.1 r2_ 5)))))
set_option maxHeartbeats 4000000 in
set_option maxRecDepth 100000 in
theorem t_X9_setFinal {p : Program} {l : Launch} {e : Env} {s : State} {m : MethodId} {args : Array Value} {below : List Frame} {meth : Method} {c : Code} {g : fy_G} (C : fy_C g X_Y p s m args meth c yX9_setFinal.cls cX9_setFinal 6 (some .int)) {S : fy_S} {v1 : Int32} {v2 : Int32} {v3 : Int32} {Sr : fy_S} {rr : Int32}  {H : Heap} {locs : List Loc} {ls : Array Slot} (h : X9_setFinal S v1 v2 v3 = some (Sr, rr)) (w : fy_W g X_Y S s H locs) (hl : lv_has ls 6 [(0, .ref (g.2.2.1 0)), (1, .int v1), (2, .int v2), (3, .int v3)]) : W p l e (fy_rm 1) s m args below meth c H locs 0 0 (MQ below (fy_QI g X_Y rr Sr) args s 0 0 (fy_A g X_Y)) (F0 m 0 ls []) := by
  obtain ⟨hx, hb, hr, hts, hown, hlk, hml, hK, hD, hE, hN⟩ := id C
  rw [X9_setFinal] at h
  refine lv_aload_n hx hb dX9_setFinal_0 rfl (lv_at hl 0 rfl) ?_
  refine lv_iload_n hx hb dX9_setFinal_1 rfl (lv_at hl 1 rfl) ?_
  obtain ⟨r2, h2, h⟩ := fy_bd_some h
  refine fy_calE w (fy_runV (As := [.int v1]) (rest := []) C w (c_X9_automatonIn l g  h2) (X_o9 X_full (X_i0)) ksX9_88 rfl ⟨Nat.le_of_ble_eq_true rfl, Nat.le_of_ble_eq_true rfl⟩ rfl hl.1 rfl (Nat.le_of_ble_eq_true rfl) ⟨Nat.le_refl _, Nat.le_refl _⟩ dX9_setFinal_2) (fun H locs w => ?_)
  refine fy_astoreO (lv' := [(4, va_re g.2.2.1 r2), (0, .ref (g.2.2.1 0)), (1, .int v1), (2, .int v2), (3, .int v3)]) hx hb dX9_setFinal_5 hl (by decide) rfl (fun ls hl => ?_)
  cases r2 with
  | none =>
    dsimp only at h
    refine lv_aloadN hx hb dX9_setFinal_7 (lv_at hl 0 rfl) ?_
    refine lv_ifnullN (tgt := 30) hx hb dX9_setFinal_9 (by decide) ?_
    refine lv_bipush (v := (-2 : Int32)) hx hb dX9_setFinal_30 (by decide) ?_
    cases h
    exact fy_retI C w dX9_setFinal_32
  | some r2_ =>
    dsimp only at h
    refine lv_aload hx hb dX9_setFinal_7 (lv_at hl 0 rfl) ?_
    refine lv_ifnull hx hb dX9_setFinal_9 ?_
    refine lv_aload hx hb dX9_setFinal_12 (lv_at hl 0 rfl) ?_
    refine lv_iload_n hx hb dX9_setFinal_14 rfl (lv_at hl 3 rfl) ?_
    obtain ⟨r15, h15, h⟩ := fy_bd_some h
    refine fy_calI w (fy_runV (As := [.int v2]) (rest := []) C w (c_X0_hasState l g X_full (cls_X9_automatonIn  h2) h15) (X_o0 X_full (cls_X9_automatonIn  h2)) ksX9_103 rfl ⟨Nat.le_of_ble_eq_true rfl, Nat.le_of_ble_eq_true rfl⟩ rfl hl.1 rfl (Nat.le_of_ble_eq_true rfl) ⟨Nat.le_refl _, Nat.le_refl _⟩ dX9_setFinal_15) (fun H locs w => ?_)
    refine lv_if_eq (tgt := 30) hx hb dX9_setFinal_18 (by decide) (fun hc => ?_) (fun hc => ?_)
    · have h := fy_if_t h hc
      refine lv_bipush (v := (-2 : Int32)) hx hb dX9_setFinal_30 (by decide) ?_
      cases h
      exact fy_retI C w dX9_setFinal_32
    · have h := fy_if_f h hc
      refine lv_iload_n hx hb dX9_setFinal_21 rfl (lv_at hl 4 rfl) ?_
      refine lv_iconst (v := (0 : Int32)) hx hb dX9_setFinal_22 (by decide) ?_
      refine lv_iconst (v := (1 : Int32)) hx hb dX9_setFinal_23 (by decide) ?_
      obtain ⟨r24, h24, h⟩ := fy_bd_some h
      refine fy_calI w (fy_runS (As := [.int v3, .int (0 : Int32), .int (1 : Int32)]) (rest := []) C w (c_X9_isWithin l g X_full  h24) ksX9_92 ⟨Nat.le_of_ble_eq_true rfl, Nat.le_of_ble_eq_true rfl⟩ rfl hl.1 rfl (Nat.le_of_ble_eq_true rfl) ⟨Nat.le_refl _, Nat.le_refl _⟩ dX9_setFinal_24) (fun H locs w => ?_)
      refine lv_if_ne (tgt := 33) hx hb dX9_setFinal_27 (by decide) (fun hc => ?_) (fun hc => ?_)
      · have h := fy_if_f h hc
        refine lv_aload hx hb dX9_setFinal_33 (lv_at hl 0 rfl) ?_
        refine gfX9_107 X_full C w (cls_X9_automatonIn  h2) dX9_setFinal_35 ?_
        refine lv_iconst (v := (1 : Int32)) hx hb dX9_setFinal_38 (by decide) ?_
        refine lv_iload_n hx hb dX9_setFinal_39 rfl (lv_at hl 3 rfl) ?_
        refine lv_ishl hx hb dX9_setFinal_40 ?_
        refine lv_iconst (v := (-1 : Int32)) hx hb dX9_setFinal_41 (by decide) ?_
        refine lv_ixor hx hb dX9_setFinal_42 ?_
        refine lv_iand hx hb dX9_setFinal_43 ?_
        refine lv_topi (fun x44 e44 => ?_)
        have h := fy_bl_some e44 h
        refine lv_istore (lv' := [(5, .int x44), (4, .ref (g.2.2.1 r2_)), (0, .ref (g.2.2.1 0)), (1, .int v1), (2, .int v2), (3, .int v3)]) hx hb dX9_setFinal_44 hl (by decide) rfl (fun ls hl => ?_)
        refine lv_aload hx hb dX9_setFinal_46 (lv_at hl 1 rfl) ?_
        refine lv_iload hx hb dX9_setFinal_48 (lv_at hl 0 rfl) ?_
        refine lv_iload_n hx hb dX9_setFinal_50 rfl (lv_at hl 5 rfl) ?_
        refine lv_iload_n hx hb dX9_setFinal_51 rfl (lv_at hl 4 rfl) ?_
        refine lv_ishl hx hb dX9_setFinal_52 ?_
        refine lv_ior hx hb dX9_setFinal_53 ?_
        refine pfX9_107 X_full C w (cls_X9_automatonIn  h2) dX9_setFinal_54 (fun H locs w => ?_)
        obtain ⟨S54, e54⟩ : ∃ z, z = fy_sI S r2_ 5 (x44 ||| (v3 <<< (v2 &&& 31))) := ⟨_, rfl⟩
        have h := fy_bl_some e54 h
        rw [← e54] at w
        refine lv_aload hx hb dX9_setFinal_57 (lv_at hl 1 rfl) ?_
        refine gfX9_107 X_full C w (cls_X9_automatonIn  h2) dX9_setFinal_59 ?_
        cases h
        exact fy_retI C w dX9_setFinal_62
      · have h := fy_if_t h hc
        refine lv_bipush (v := (-2 : Int32)) hx hb dX9_setFinal_30 (by decide) ?_
        cases h
        exact fy_retI C w dX9_setFinal_32

set_option maxHeartbeats 4000000 in
set_option maxRecDepth 100000 in
theorem c_X9_setFinal (l : Launch) (g : fy_G) {S : fy_S} {v1 : Int32} {v2 : Int32} {v3 : Int32} {Sr : fy_S} {rr : Int32}  (h : X9_setFinal S v1 v2 v3 = some (Sr, rr)) : fy_M g X_Y l yX9_setFinal cX9_setFinal 6 (some .int) (fy_rm 1) [.ref (g.2.2.1 0), .int v1, .int v2, .int v3] S (fy_QI g X_Y rr Sr) :=
  fy_entry (by decide +kernel) (Nat.le_of_ble_eq_true rfl) (fun p e s m args below meth c ls C w hl => t_X9_setFinal C  h w hl)
def X0_hasLetter (S : fy_S) (v0 : Nat) (v1 : Int32) : Option (Int32) :=
  if v1 < 0 then (
    some (0 : Int32))
  else (
    if (S.1 v0 4) ≤ v1 then (
      some (0 : Int32))
    else (
      some (1 : Int32)))
set_option maxHeartbeats 4000000 in
set_option maxRecDepth 100000 in
theorem t_X0_hasLetter {p : Program} {l : Launch} {e : Env} {s : State} {m : MethodId} {args : Array Value} {below : List Frame} {meth : Method} {c : Code} {g : fy_G} {y : fy_Y} (C : fy_C g y p s m args meth c yX0_hasLetter.cls cX0_hasLetter 2 (some .boolean)) (hcl : X_clo y) {S : fy_S} {v0 : Nat} {v1 : Int32} {rr : Int32} (q0 : X_is y 0 v0) {H : Heap} {locs : List Loc} {ls : Array Slot} (h : X0_hasLetter S v0 v1 = some rr) (w : fy_W g y S s H locs) (hl : lv_has ls 2 [(0, .ref (g.2.2.1 v0)), (1, .int v1)]) : W p l e (fy_rm 0) s m args below meth c H locs 0 0 (MQ below (fy_QI g y rr S) args s 0 0 (fy_A g y)) (F0 m 0 ls []) := by
  obtain ⟨hx, hb, hr, hts, hown, hlk, hml, hK, hD, hE, hN⟩ := id C
  rw [X0_hasLetter] at h
  refine lv_iload_n hx hb dX0_hasLetter_0 rfl (lv_at hl 1 rfl) ?_
  refine lv_if_lt (tgt := 16) hx hb dX0_hasLetter_1 (by decide) (fun hc => ?_) (fun hc => ?_)
  · have h := fy_if_t h hc
    refine lv_iconst (v := (0 : Int32)) hx hb dX0_hasLetter_16 (by decide) ?_
    cases h
    exact fy_retZ C w (by decide +kernel) dX0_hasLetter_17
  · have h := fy_if_f h hc
    refine lv_iload_n hx hb dX0_hasLetter_4 rfl (lv_at hl 1 rfl) ?_
    refine lv_aload_n hx hb dX0_hasLetter_5 rfl (lv_at hl 0 rfl) ?_
    refine gfX0_34 hcl C w q0 dX0_hasLetter_6 ?_
    refine lv_icmp_ge (tgt := 16) hx hb dX0_hasLetter_9 (by decide) (fun hc => ?_) (fun hc => ?_)
    · have h := fy_if_t h hc
      refine lv_iconst (v := (0 : Int32)) hx hb dX0_hasLetter_16 (by decide) ?_
      cases h
      exact fy_retZ C w (by decide +kernel) dX0_hasLetter_17
    · have h := fy_if_f h hc
      refine lv_iconst (v := (1 : Int32)) hx hb dX0_hasLetter_12 (by decide) ?_
      refine lv_goto (tgt := 17) hx hb dX0_hasLetter_13 (by decide) ?_
      cases h
      exact fy_retZ C w (by decide +kernel) dX0_hasLetter_17

set_option maxHeartbeats 4000000 in
set_option maxRecDepth 100000 in
theorem c_X0_hasLetter (l : Launch) (g : fy_G) {y : fy_Y} (hcl : X_clo y) {S : fy_S} {v0 : Nat} {v1 : Int32} {rr : Int32} (q0 : X_is y 0 v0) (h : X0_hasLetter S v0 v1 = some rr) : fy_M g y l yX0_hasLetter cX0_hasLetter 2 (some .boolean) (fy_rm 0) [.ref (g.2.2.1 v0), .int v1] S (fy_QI g y rr S) :=
  fy_entry (by decide +kernel) (Nat.le_of_ble_eq_true rfl) (fun p e s m args below meth c ls C w hl => t_X0_hasLetter C hcl q0 h w hl)
def X9_setWeight (S : fy_S) (v1 : Int32) (v2 : Int32) (v3 : Int32) : Option (fy_S × Int32) :=
  fy_bd (X9_automatonIn S v1) fun r2 =>
  match r2 with
  | none => (
    some (S, (-2 : Int32)))
  | some r2_ => (
    fy_bd (X0_hasLetter S r2_ v2) fun r15 =>
    if r15 = 0 then (
      some (S, (-2 : Int32)))
    else (
      fy_bd (X9_isWithin S v3 (1 : Int32) (9 : Int32)) fun r25 =>
      if r25 = 0 then (
        some (S, (-2 : Int32)))
      else (
        fy_gd (fy_ix v2 3) <|
        fy_bl (S.1 (r2_ + 1) v2.toNatClampNeg) fun x41 =>
        fy_gd (fy_ix v2 3) <|
        fy_bl (fy_sI S (r2_ + 1) v2.toNatClampNeg v3) fun S50 =>
        some (S50, x41))))
set_option maxHeartbeats 4000000 in
set_option maxRecDepth 100000 in
theorem t_X9_setWeight {p : Program} {l : Launch} {e : Env} {s : State} {m : MethodId} {args : Array Value} {below : List Frame} {meth : Method} {c : Code} {g : fy_G} (C : fy_C g X_Y p s m args meth c yX9_setWeight.cls cX9_setWeight 6 (some .int)) {S : fy_S} {v1 : Int32} {v2 : Int32} {v3 : Int32} {Sr : fy_S} {rr : Int32}  {H : Heap} {locs : List Loc} {ls : Array Slot} (h : X9_setWeight S v1 v2 v3 = some (Sr, rr)) (w : fy_W g X_Y S s H locs) (hl : lv_has ls 6 [(0, .ref (g.2.2.1 0)), (1, .int v1), (2, .int v2), (3, .int v3)]) : W p l e (fy_rm 1) s m args below meth c H locs 0 0 (MQ below (fy_QI g X_Y rr Sr) args s 0 0 (fy_A g X_Y)) (F0 m 0 ls []) := by
  obtain ⟨hx, hb, hr, hts, hown, hlk, hml, hK, hD, hE, hN⟩ := id C
  rw [X9_setWeight] at h
  refine lv_aload_n hx hb dX9_setWeight_0 rfl (lv_at hl 0 rfl) ?_
  refine lv_iload_n hx hb dX9_setWeight_1 rfl (lv_at hl 1 rfl) ?_
  obtain ⟨r2, h2, h⟩ := fy_bd_some h
  refine fy_calE w (fy_runV (As := [.int v1]) (rest := []) C w (c_X9_automatonIn l g  h2) (X_o9 X_full (X_i0)) ksX9_88 rfl ⟨Nat.le_of_ble_eq_true rfl, Nat.le_of_ble_eq_true rfl⟩ rfl hl.1 rfl (Nat.le_of_ble_eq_true rfl) ⟨Nat.le_refl _, Nat.le_refl _⟩ dX9_setWeight_2) (fun H locs w => ?_)
  refine fy_astoreO (lv' := [(4, va_re g.2.2.1 r2), (0, .ref (g.2.2.1 0)), (1, .int v1), (2, .int v2), (3, .int v3)]) hx hb dX9_setWeight_5 hl (by decide) rfl (fun ls hl => ?_)
  cases r2 with
  | none =>
    dsimp only at h
    refine lv_aloadN hx hb dX9_setWeight_7 (lv_at hl 0 rfl) ?_
    refine lv_ifnullN (tgt := 31) hx hb dX9_setWeight_9 (by decide) ?_
    refine lv_bipush (v := (-2 : Int32)) hx hb dX9_setWeight_31 (by decide) ?_
    cases h
    exact fy_retI C w dX9_setWeight_33
  | some r2_ =>
    dsimp only at h
    refine lv_aload hx hb dX9_setWeight_7 (lv_at hl 0 rfl) ?_
    refine lv_ifnull hx hb dX9_setWeight_9 ?_
    refine lv_aload hx hb dX9_setWeight_12 (lv_at hl 0 rfl) ?_
    refine lv_iload_n hx hb dX9_setWeight_14 rfl (lv_at hl 3 rfl) ?_
    obtain ⟨r15, h15, h⟩ := fy_bd_some h
    refine fy_calI w (fy_runV (As := [.int v2]) (rest := []) C w (c_X0_hasLetter l g X_full (cls_X9_automatonIn  h2) h15) (X_o0 X_full (cls_X9_automatonIn  h2)) ksX9_110 rfl ⟨Nat.le_of_ble_eq_true rfl, Nat.le_of_ble_eq_true rfl⟩ rfl hl.1 rfl (Nat.le_of_ble_eq_true rfl) ⟨Nat.le_refl _, Nat.le_refl _⟩ dX9_setWeight_15) (fun H locs w => ?_)
    refine lv_if_eq (tgt := 31) hx hb dX9_setWeight_18 (by decide) (fun hc => ?_) (fun hc => ?_)
    · have h := fy_if_t h hc
      refine lv_bipush (v := (-2 : Int32)) hx hb dX9_setWeight_31 (by decide) ?_
      cases h
      exact fy_retI C w dX9_setWeight_33
    · have h := fy_if_f h hc
      refine lv_iload_n hx hb dX9_setWeight_21 rfl (lv_at hl 4 rfl) ?_
      refine lv_iconst (v := (1 : Int32)) hx hb dX9_setWeight_22 (by decide) ?_
      refine lv_bipush (v := (9 : Int32)) hx hb dX9_setWeight_23 (by decide) ?_
      obtain ⟨r25, h25, h⟩ := fy_bd_some h
      refine fy_calI w (fy_runS (As := [.int v3, .int (1 : Int32), .int (9 : Int32)]) (rest := []) C w (c_X9_isWithin l g X_full  h25) ksX9_92 ⟨Nat.le_of_ble_eq_true rfl, Nat.le_of_ble_eq_true rfl⟩ rfl hl.1 rfl (Nat.le_of_ble_eq_true rfl) ⟨Nat.le_refl _, Nat.le_refl _⟩ dX9_setWeight_25) (fun H locs w => ?_)
      refine lv_if_ne (tgt := 34) hx hb dX9_setWeight_28 (by decide) (fun hc => ?_) (fun hc => ?_)
      · have h := fy_if_f h hc
        refine lv_aload hx hb dX9_setWeight_34 (lv_at hl 0 rfl) ?_
        refine gfX9_113 X_full C w (cls_X9_automatonIn  h2) dX9_setWeight_36 ?_
        refine lv_iload_n hx hb dX9_setWeight_39 rfl (lv_at hl 3 rfl) ?_
        obtain ⟨g40, h⟩ := fy_gd_some h
        refine fy_iald C w (X_f0_weights X_full (cls_X9_automatonIn  h2)) g40 dX9_setWeight_40 ?_
        refine lv_topi (fun x41 e41 => ?_)
        have h := fy_bl_some e41 h
        refine lv_istore (lv' := [(5, .int x41), (4, .ref (g.2.2.1 r2_)), (0, .ref (g.2.2.1 0)), (1, .int v1), (2, .int v2), (3, .int v3)]) hx hb dX9_setWeight_41 hl (by decide) rfl (fun ls hl => ?_)
        refine lv_aload hx hb dX9_setWeight_43 (lv_at hl 1 rfl) ?_
        refine gfX9_113 X_full C w (cls_X9_automatonIn  h2) dX9_setWeight_45 ?_
        refine lv_iload_n hx hb dX9_setWeight_48 rfl (lv_at hl 4 rfl) ?_
        refine lv_iload_n hx hb dX9_setWeight_49 rfl (lv_at hl 5 rfl) ?_
        obtain ⟨g50, h⟩ := fy_gd_some h
        refine fy_iast C w (X_f0_weights X_full (cls_X9_automatonIn  h2)) g50 dX9_setWeight_50 (fun H locs w => ?_)
        obtain ⟨S50, e50⟩ : ∃ z, z = fy_sI S (r2_ + 1) v2.toNatClampNeg v3 := ⟨_, rfl⟩
        have h := fy_bl_some e50 h
        rw [← e50] at w
        refine lv_iload hx hb dX9_setWeight_51 (lv_at hl 0 rfl) ?_
        cases h
        exact fy_retI C w dX9_setWeight_53
      · have h := fy_if_t h hc
        refine lv_bipush (v := (-2 : Int32)) hx hb dX9_setWeight_31 (by decide) ?_
        cases h
        exact fy_retI C w dX9_setWeight_33

set_option maxHeartbeats 4000000 in
set_option maxRecDepth 100000 in
theorem c_X9_setWeight (l : Launch) (g : fy_G) {S : fy_S} {v1 : Int32} {v2 : Int32} {v3 : Int32} {Sr : fy_S} {rr : Int32}  (h : X9_setWeight S v1 v2 v3 = some (Sr, rr)) : fy_M g X_Y l yX9_setWeight cX9_setWeight 6 (some .int) (fy_rm 1) [.ref (g.2.2.1 0), .int v1, .int v2, .int v3] S (fy_QI g X_Y rr Sr) :=
  fy_entry (by decide +kernel) (Nat.le_of_ble_eq_true rfl) (fun p e s m args below meth c ls C w hl => t_X9_setWeight C  h w hl)
def X4_add_2 : Nat → fy_S → Int32 → Int32 → Int32 → Option (fy_S)
  | 0, _, _, _, _ => none
  | fu + 1, S, v1, v2, v3 =>
    if v2 ≤ v3 then (
      some S)
    else (
      if (60 : Int32) ≤ (S.1 3 4) then (
        some S)
      else (
        fy_gd (fy_ix (S.1 3 4) 60) <|
        fy_bl (fy_sI S 4 (S.1 3 4).toNatClampNeg (vp_nar .char v1)) fun S25 =>
        fy_bl (fy_sI S25 3 4 ((S25.1 3 4) + (1 : Int32))) fun S33 =>
        fy_bl (v3 + (1 : Int32)) fun x36 =>
        X4_add_2 fu S33 v1 v2 x36))
def X4_add (S : fy_S) (v1 : Int32) (v2 : Int32) : Option (fy_S) :=
  X4_add_2 fy_fu S v1 v2 (0 : Int32)
set_option maxHeartbeats 4000000 in
set_option maxRecDepth 100000 in
theorem t_X4_add_2 {p : Program} {l : Launch} {e : Env} {s : State} {m : MethodId} {args : Array Value} {below : List Frame} {meth : Method} {c : Code} {g : fy_G} (C : fy_C g X_Y p s m args meth c yX4_add.cls cX4_add 4 none) {Sr : fy_S}  : ∀ (fu : Nat) (S : fy_S) (v1 : Int32) (v2 : Int32) (v3 : Int32) (H : Heap) (locs : List Loc) (ls : Array Slot), X4_add_2 fu S v1 v2 v3 = some Sr → fy_W g X_Y S s H locs → lv_has ls 4 [(0, .ref (g.2.2.1 3)), (1, .int v1), (2, .int v2), (3, .int v3)] → W p l e (fy_rm 0) s m args below meth c H locs 0 0 (MQ below (fy_QV g X_Y Sr) args s 0 0 (fy_A g X_Y)) (F0 m 2 ls []) := by
  obtain ⟨hx, hb, hr, hts, hown, hlk, hml, hK, hD, hE, hN⟩ := id C
  intro fu
  induction fu with
  | zero => intro S v1 v2 v3 H locs ls h; cases h
  | succ fu ih =>
    intro S v1 v2 v3 H locs ls h w  hl
    rw [X4_add_2] at h
    refine lv_iload_n hx hb dX4_add_2 rfl (lv_at hl 3 rfl) ?_
    refine lv_iload_n hx hb dX4_add_3 rfl (lv_at hl 2 rfl) ?_
    refine lv_icmp_ge (tgt := 42) hx hb dX4_add_4 (by decide) (fun hc => ?_) (fun hc => ?_)
    · have h := fy_if_t h hc
      cases h
      exact fy_retV C w dX4_add_42
    · have h := fy_if_f h hc
      refine lv_aload_n hx hb dX4_add_7 rfl (lv_at hl 0 rfl) ?_
      refine gfX4_26 X_full C w (X_i3) dX4_add_8 ?_
      refine lv_bipush (v := (60 : Int32)) hx hb dX4_add_11 (by decide) ?_
      refine lv_icmp_ge (tgt := 42) hx hb dX4_add_13 (by decide) (fun hc => ?_) (fun hc => ?_)
      · have h := fy_if_t h hc
        cases h
        exact fy_retV C w dX4_add_42
      · have h := fy_if_f h hc
        refine lv_aload_n hx hb dX4_add_16 rfl (lv_at hl 0 rfl) ?_
        refine gfX4_9 X_full C w (X_i3) dX4_add_17 ?_
        refine lv_aload_n hx hb dX4_add_20 rfl (lv_at hl 0 rfl) ?_
        refine gfX4_26 X_full C w (X_i3) dX4_add_21 ?_
        refine lv_iload_n hx hb dX4_add_24 rfl (lv_at hl 1 rfl) ?_
        obtain ⟨g25, h⟩ := fy_gd_some h
        refine fy_cast C w X_a4 g25 dX4_add_25 (fun H locs w => ?_)
        obtain ⟨S25, e25⟩ : ∃ z, z = fy_sI S 4 (S.1 3 4).toNatClampNeg (vp_nar .char v1) := ⟨_, rfl⟩
        have h := fy_bl_some e25 h
        rw [← e25] at w
        refine lv_aload_n hx hb dX4_add_26 rfl (lv_at hl 0 rfl) ?_
        refine lv_dup hx hb dX4_add_27 rfl ?_
        refine gfX4_26 X_full C w (X_i3) dX4_add_28 ?_
        refine lv_iconst (v := (1 : Int32)) hx hb dX4_add_31 (by decide) ?_
        refine lv_iadd hx hb dX4_add_32 ?_
        refine pfX4_26 X_full C w (X_i3) dX4_add_33 (fun H locs w => ?_)
        obtain ⟨S33, e33⟩ : ∃ z, z = fy_sI S25 3 4 ((S25.1 3 4) + (1 : Int32)) := ⟨_, rfl⟩
        have h := fy_bl_some e33 h
        rw [← e33] at w
        obtain ⟨x36, e36⟩ : ∃ z : Int32, z = v3 + (1 : Int32) := ⟨_, rfl⟩
        have h := fy_bl_some e36 h
        refine lv_iinc (k := 3) (v := x36) (lv' := [(3, .int x36), (0, .ref (g.2.2.1 3)), (1, .int v1), (2, .int v2)]) hx hb dX4_add_36 hl rfl (by rw [e36]; rfl) (by decide) rfl (fun ls hl => ?_)
        refine lv_goto (tgt := 2) hx hb dX4_add_39 (by decide) ?_
        exact ih _ _ _ _ _ _ _ h w (lv_sub hl [1, 2, 3, 0] rfl)

set_option maxHeartbeats 4000000 in
set_option maxRecDepth 100000 in
theorem t_X4_add {p : Program} {l : Launch} {e : Env} {s : State} {m : MethodId} {args : Array Value} {below : List Frame} {meth : Method} {c : Code} {g : fy_G} (C : fy_C g X_Y p s m args meth c yX4_add.cls cX4_add 4 none) {S : fy_S} {v1 : Int32} {v2 : Int32} {Sr : fy_S}   {H : Heap} {locs : List Loc} {ls : Array Slot} (h : X4_add S v1 v2 = some Sr) (w : fy_W g X_Y S s H locs) (hl : lv_has ls 4 [(0, .ref (g.2.2.1 3)), (1, .int v1), (2, .int v2)]) : W p l e (fy_rm 0) s m args below meth c H locs 0 0 (MQ below (fy_QV g X_Y Sr) args s 0 0 (fy_A g X_Y)) (F0 m 0 ls []) := by
  obtain ⟨hx, hb, hr, hts, hown, hlk, hml, hK, hD, hE, hN⟩ := id C
  rw [X4_add] at h
  refine lv_iconst (v := (0 : Int32)) hx hb dX4_add_0 (by decide) ?_
  refine lv_istore_n (lv' := [(3, .int (0 : Int32)), (0, .ref (g.2.2.1 3)), (1, .int v1), (2, .int v2)]) hx hb dX4_add_1 rfl hl (by decide) rfl (fun ls hl => ?_)
  exact t_X4_add_2 C fy_fu _ _ _ _ _ _ _ h w (lv_sub hl [1, 2, 3, 0] rfl)

set_option maxHeartbeats 4000000 in
set_option maxRecDepth 100000 in
theorem c_X4_add (l : Launch) (g : fy_G) {S : fy_S} {v1 : Int32} {v2 : Int32} {Sr : fy_S}   (h : X4_add S v1 v2 = some Sr) : fy_M g X_Y l yX4_add cX4_add 4 none (fy_rm 0) [.ref (g.2.2.1 3), .int v1, .int v2] S (fy_QV g X_Y Sr) :=
  fy_entry (by decide +kernel) (Nat.le_of_ble_eq_true rfl) (fun p e s m args below meth c ls C w hl => t_X4_add C  h w hl)
def X9_append (S : fy_S) (v1 : Int32) (v2 : Int32) : Option (fy_S × Int32) :=
  fy_bd (X9_isWithin S v1 (0 : Int32) (127 : Int32)) fun r4 =>
  if r4 = 0 then (
    some (S, (-2 : Int32)))
  else (
    fy_bd (X9_isWithin S v2 (1 : Int32) (60 : Int32)) fun r14 =>
    if r14 = 0 then (
      some (S, (-2 : Int32)))
    else (
      if ((S.1 3 4) + v2) ≤ (60 : Int32) then (
        fy_bd (X4_add S ((v1.toUInt32 % 65536).toInt32) v2) fun S47 =>
        some (S47, (S47.1 3 4)))
      else (
        some (S, (-3 : Int32)))))
set_option maxHeartbeats 4000000 in
set_option maxRecDepth 100000 in
theorem t_X9_append {p : Program} {l : Launch} {e : Env} {s : State} {m : MethodId} {args : Array Value} {below : List Frame} {meth : Method} {c : Code} {g : fy_G} (C : fy_C g X_Y p s m args meth c yX9_append.cls cX9_append 3 (some .int)) {S : fy_S} {v1 : Int32} {v2 : Int32} {Sr : fy_S} {rr : Int32}  {H : Heap} {locs : List Loc} {ls : Array Slot} (h : X9_append S v1 v2 = some (Sr, rr)) (w : fy_W g X_Y S s H locs) (hl : lv_has ls 3 [(0, .ref (g.2.2.1 0)), (1, .int v1), (2, .int v2)]) : W p l e (fy_rm 1) s m args below meth c H locs 0 0 (MQ below (fy_QI g X_Y rr Sr) args s 0 0 (fy_A g X_Y)) (F0 m 0 ls []) := by
  obtain ⟨hx, hb, hr, hts, hown, hlk, hml, hK, hD, hE, hN⟩ := id C
  rw [X9_append] at h
  refine lv_iload_n hx hb dX9_append_0 rfl (lv_at hl 1 rfl) ?_
  refine lv_iconst (v := (0 : Int32)) hx hb dX9_append_1 (by decide) ?_
  refine lv_bipush (v := (127 : Int32)) hx hb dX9_append_2 (by decide) ?_
  obtain ⟨r4, h4, h⟩ := fy_bd_some h
  refine fy_calI w (fy_runS (As := [.int v1, .int (0 : Int32), .int (127 : Int32)]) (rest := []) C w (c_X9_isWithin l g X_full  h4) ksX9_92 ⟨Nat.le_of_ble_eq_true rfl, Nat.le_of_ble_eq_true rfl⟩ rfl hl.1 rfl (Nat.le_of_ble_eq_true rfl) ⟨Nat.le_refl _, Nat.le_refl _⟩ dX9_append_4) (fun H locs w => ?_)
  refine lv_if_eq (tgt := 20) hx hb dX9_append_7 (by decide) (fun hc => ?_) (fun hc => ?_)
  · have h := fy_if_t h hc
    refine lv_bipush (v := (-2 : Int32)) hx hb dX9_append_20 (by decide) ?_
    cases h
    exact fy_retI C w dX9_append_22
  · have h := fy_if_f h hc
    refine lv_iload_n hx hb dX9_append_10 rfl (lv_at hl 2 rfl) ?_
    refine lv_iconst (v := (1 : Int32)) hx hb dX9_append_11 (by decide) ?_
    refine lv_bipush (v := (60 : Int32)) hx hb dX9_append_12 (by decide) ?_
    obtain ⟨r14, h14, h⟩ := fy_bd_some h
    refine fy_calI w (fy_runS (As := [.int v2, .int (1 : Int32), .int (60 : Int32)]) (rest := []) C w (c_X9_isWithin l g X_full  h14) ksX9_92 ⟨Nat.le_of_ble_eq_true rfl, Nat.le_of_ble_eq_true rfl⟩ rfl hl.1 rfl (Nat.le_of_ble_eq_true rfl) ⟨Nat.le_refl _, Nat.le_refl _⟩ dX9_append_14) (fun H locs w => ?_)
    refine lv_if_ne (tgt := 23) hx hb dX9_append_17 (by decide) (fun hc => ?_) (fun hc => ?_)
    · have h := fy_if_f h hc
      refine lv_aload_n hx hb dX9_append_23 rfl (lv_at hl 0 rfl) ?_
      refine gfX9_26 X_full C w (X_i0) dX9_append_24 ?_
      refine gfX9_117 X_full C w X_i3 dX9_append_27 ?_
      refine lv_iload_n hx hb dX9_append_30 rfl (lv_at hl 2 rfl) ?_
      refine lv_iadd hx hb dX9_append_31 ?_
      refine lv_bipush (v := (60 : Int32)) hx hb dX9_append_32 (by decide) ?_
      refine lv_icmp_le (tgt := 40) hx hb dX9_append_34 (by decide) (fun hc => ?_) (fun hc => ?_)
      · have h := fy_if_t h hc
        refine lv_aload_n hx hb dX9_append_40 rfl (lv_at hl 0 rfl) ?_
        refine gfX9_26 X_full C w (X_i0) dX9_append_41 ?_
        refine lv_iload_n hx hb dX9_append_44 rfl (lv_at hl 1 rfl) ?_
        refine lv_i2c (v := ((v1.toUInt32 % 65536).toInt32)) hx hb dX9_append_45 rfl ?_
        refine lv_iload_n hx hb dX9_append_46 rfl (lv_at hl 2 rfl) ?_
        obtain ⟨S47, h47, h⟩ := fy_bd_some h
        refine fy_calV w (fy_runV (As := [.int ((v1.toUInt32 % 65536).toInt32), .int v2]) (rest := []) C w (c_X4_add l g  h47) (X_o4 X_full X_i3) ksX9_120 rfl ⟨Nat.le_of_ble_eq_true rfl, Nat.le_of_ble_eq_true rfl⟩ rfl hl.1 rfl (Nat.le_of_ble_eq_true rfl) ⟨Nat.le_refl _, Nat.le_refl _⟩ dX9_append_47) (fun H locs w => ?_)
        refine lv_aload_n hx hb dX9_append_50 rfl (lv_at hl 0 rfl) ?_
        refine gfX9_26 X_full C w (X_i0) dX9_append_51 ?_
        refine gfX9_117 X_full C w X_i3 dX9_append_54 ?_
        cases h
        exact fy_retI C w dX9_append_57
      · have h := fy_if_f h hc
        refine lv_bipush (v := (-3 : Int32)) hx hb dX9_append_37 (by decide) ?_
        cases h
        exact fy_retI C w dX9_append_39
    · have h := fy_if_t h hc
      refine lv_bipush (v := (-2 : Int32)) hx hb dX9_append_20 (by decide) ?_
      cases h
      exact fy_retI C w dX9_append_22

set_option maxHeartbeats 4000000 in
set_option maxRecDepth 100000 in
theorem c_X9_append (l : Launch) (g : fy_G) {S : fy_S} {v1 : Int32} {v2 : Int32} {Sr : fy_S} {rr : Int32}  (h : X9_append S v1 v2 = some (Sr, rr)) : fy_M g X_Y l yX9_append cX9_append 3 (some .int) (fy_rm 1) [.ref (g.2.2.1 0), .int v1, .int v2] S (fy_QI g X_Y rr Sr) :=
  fy_entry (by decide +kernel) (Nat.le_of_ble_eq_true rfl) (fun p e s m args below meth c ls C w hl => t_X9_append C  h w hl)
def X0_move (S : fy_S) (v0 : Nat) (v1 : Int32) (v2 : Int32) : Option (Option Nat) :=
  fy_bd (X0_hasState S v0 v1) fun r2 =>
  if r2 = 0 then (
    some (some (v0 + 3)))
  else (
    fy_bd (X0_hasLetter S v0 v2) fun r10 =>
    if r10 = 0 then (
      some (some (v0 + 3)))
    else (
      fy_gd (fy_ix ((v1 * (3 : Int32)) + v2) 18) <|
      some (some (X_ar (v0 + 2) ((v1 * (3 : Int32)) + v2).toNatClampNeg))))
theorem cls_X0_move {y : fy_Y} (hcl : X_clo y) {v0 : Nat} (q0 : X_is y 0 v0) {S : fy_S} {v1 v2 : Int32} {z : Nat} (h : X0_move S v0 v1 v2 = some (some z)) : X_is y 2 z := by
  rw [X0_move] at h
  obtain ⟨r2, -, h⟩ := fy_bd_some h
  split at h
  · cases h; exact X_f0_initial hcl q0
  · obtain ⟨r10, -, h⟩ := fy_bd_some h
    split at h
    · cases h; exact X_f0_initial hcl q0
    · obtain ⟨g, h⟩ := fy_gd_some h
      cases h; exact X_e7 hcl (X_f0_moves hcl q0) g
set_option maxHeartbeats 4000000 in
set_option maxRecDepth 100000 in
theorem t_X0_move {p : Program} {l : Launch} {e : Env} {s : State} {m : MethodId} {args : Array Value} {below : List Frame} {meth : Method} {c : Code} {g : fy_G} {y : fy_Y} (C : fy_C g y p s m args meth c yX0_move.cls cX0_move 3 (some (.object "AlternatingAutomata$Formula"))) (hcl : X_clo y) {S : fy_S} {v0 : Nat} {v1 : Int32} {v2 : Int32} {rr : Option Nat} (q0 : X_is y 0 v0) {H : Heap} {locs : List Loc} {ls : Array Slot} (h : X0_move S v0 v1 v2 = some rr) (w : fy_W g y S s H locs) (hl : lv_has ls 3 [(0, .ref (g.2.2.1 v0)), (1, .int v1), (2, .int v2)]) : W p l e (fy_rm 1) s m args below meth c H locs 0 0 (MQ below (fy_QE g y rr S) args s 0 0 (fy_A g y)) (F0 m 0 ls []) := by
  obtain ⟨hx, hb, hr, hts, hown, hlk, hml, hK, hD, hE, hN⟩ := id C
  rw [X0_move] at h
  refine lv_aload_n hx hb dX0_move_0 rfl (lv_at hl 0 rfl) ?_
  refine lv_iload_n hx hb dX0_move_1 rfl (lv_at hl 1 rfl) ?_
  obtain ⟨r2, h2, h⟩ := fy_bd_some h
  refine fy_calI w (fy_runV (As := [.int v1]) (rest := []) C w (c_X0_hasState l g hcl q0 h2) (X_o0 hcl q0) ksX0_49 rfl ⟨Nat.le_of_ble_eq_true rfl, Nat.le_of_ble_eq_true rfl⟩ rfl hl.1 rfl (Nat.le_of_ble_eq_true rfl) ⟨Nat.le_refl _, Nat.le_refl _⟩ dX0_move_2) (fun H locs w => ?_)
  refine lv_if_eq (tgt := 29) hx hb dX0_move_5 (by decide) (fun hc => ?_) (fun hc => ?_)
  · have h := fy_if_t h hc
    refine lv_aload_n hx hb dX0_move_29 rfl (lv_at hl 0 rfl) ?_
    refine gfX0_18 hcl C w q0 dX0_move_30 ?_
    cases h
    exact fy_retE C w rfl dX0_move_33
  · have h := fy_if_f h hc
    refine lv_aload_n hx hb dX0_move_8 rfl (lv_at hl 0 rfl) ?_
    refine lv_iload_n hx hb dX0_move_9 rfl (lv_at hl 2 rfl) ?_
    obtain ⟨r10, h10, h⟩ := fy_bd_some h
    refine fy_calI w (fy_runV (As := [.int v2]) (rest := []) C w (c_X0_hasLetter l g hcl q0 h10) (X_o0 hcl q0) ksX0_53 rfl ⟨Nat.le_of_ble_eq_true rfl, Nat.le_of_ble_eq_true rfl⟩ rfl hl.1 rfl (Nat.le_of_ble_eq_true rfl) ⟨Nat.le_refl _, Nat.le_refl _⟩ dX0_move_10) (fun H locs w => ?_)
    refine lv_if_eq (tgt := 29) hx hb dX0_move_13 (by decide) (fun hc => ?_) (fun hc => ?_)
    · have h := fy_if_t h hc
      refine lv_aload_n hx hb dX0_move_29 rfl (lv_at hl 0 rfl) ?_
      refine gfX0_18 hcl C w q0 dX0_move_30 ?_
      cases h
      exact fy_retE C w rfl dX0_move_33
    · have h := fy_if_f h hc
      refine lv_aload_n hx hb dX0_move_16 rfl (lv_at hl 0 rfl) ?_
      refine gfX0_22 hcl C w q0 dX0_move_17 ?_
      refine lv_iload_n hx hb dX0_move_20 rfl (lv_at hl 1 rfl) ?_
      refine lv_iconst (v := (3 : Int32)) hx hb dX0_move_21 (by decide) ?_
      refine lv_imul hx hb dX0_move_22 ?_
      refine lv_iload_n hx hb dX0_move_23 rfl (lv_at hl 2 rfl) ?_
      refine lv_iadd hx hb dX0_move_24 ?_
      obtain ⟨g25, h⟩ := fy_gd_some h
      refine fy_aald7 C w (X_f0_moves hcl q0) g25 dX0_move_25 ?_
      refine lv_goto (tgt := 33) hx hb dX0_move_26 (by decide) ?_
      cases h
      exact fy_retE C w rfl dX0_move_33

set_option maxHeartbeats 4000000 in
set_option maxRecDepth 100000 in
theorem c_X0_move (l : Launch) (g : fy_G) {y : fy_Y} (hcl : X_clo y) {S : fy_S} {v0 : Nat} {v1 : Int32} {v2 : Int32} {rr : Option Nat} (q0 : X_is y 0 v0) (h : X0_move S v0 v1 v2 = some rr) : fy_M g y l yX0_move cX0_move 3 (some (.object "AlternatingAutomata$Formula")) (fy_rm 1) [.ref (g.2.2.1 v0), .int v1, .int v2] S (fy_QE g y rr S) :=
  fy_entry (by decide +kernel) (Nat.le_of_ble_eq_true rfl) (fun p e s m args below meth c ls C w hl => t_X0_move C hcl q0 h w hl)
def X0_formula (S : fy_S) (v0 : Nat) (v1 : Int32) (v2 : Int32) : Option (Option Nat) :=
  if v1 = (-1 : Int32) then (
    some (some (v0 + 3)))
  else (
    fy_bd (X0_hasState S v0 v1) fun r12 =>
    if r12 = 0 then (
      some none)
    else (
      fy_bd (X0_hasLetter S v0 v2) fun r20 =>
      if r20 = 0 then (
        some none)
      else (
        fy_bd (X0_move S v0 v1 v2) fun r29 =>
        some r29)))
theorem cls_X0_formula {y : fy_Y} (hcl : X_clo y) {v0 : Nat} (q0 : X_is y 0 v0) {S : fy_S} {v1 v2 : Int32} {z : Nat} (h : X0_formula S v0 v1 v2 = some (some z)) : X_is y 2 z := by
  rw [X0_formula] at h
  split at h
  · cases h; exact X_f0_initial hcl q0
  · obtain ⟨r2, -, h⟩ := fy_bd_some h
    split at h
    · cases h
    · obtain ⟨r10, -, h⟩ := fy_bd_some h
      split at h
      · cases h
      · obtain ⟨r, hr, h⟩ := fy_bd_some h
        cases h; exact cls_X0_move hcl q0 hr
set_option maxHeartbeats 4000000 in
set_option maxRecDepth 100000 in
theorem t_X0_formula {p : Program} {l : Launch} {e : Env} {s : State} {m : MethodId} {args : Array Value} {below : List Frame} {meth : Method} {c : Code} {g : fy_G} {y : fy_Y} (C : fy_C g y p s m args meth c yX0_formula.cls cX0_formula 3 (some (.object "AlternatingAutomata$Formula"))) (hcl : X_clo y) {S : fy_S} {v0 : Nat} {v1 : Int32} {v2 : Int32} {rr : Option Nat} (q0 : X_is y 0 v0) {H : Heap} {locs : List Loc} {ls : Array Slot} (h : X0_formula S v0 v1 v2 = some rr) (w : fy_W g y S s H locs) (hl : lv_has ls 3 [(0, .ref (g.2.2.1 v0)), (1, .int v1), (2, .int v2)]) : W p l e (fy_rm 2) s m args below meth c H locs 0 0 (MQ below (fy_QE g y rr S) args s 0 0 (fy_A g y)) (F0 m 0 ls []) := by
  obtain ⟨hx, hb, hr, hts, hown, hlk, hml, hK, hD, hE, hN⟩ := id C
  rw [X0_formula] at h
  refine lv_iload_n hx hb dX0_formula_0 rfl (lv_at hl 1 rfl) ?_
  refine lv_iconst (v := (-1 : Int32)) hx hb dX0_formula_1 (by decide) ?_
  refine lv_icmp_ne (tgt := 10) hx hb dX0_formula_2 (by decide) (fun hc => ?_) (fun hc => ?_)
  · have h := fy_if_f h hc
    refine lv_aload_n hx hb dX0_formula_10 rfl (lv_at hl 0 rfl) ?_
    refine lv_iload_n hx hb dX0_formula_11 rfl (lv_at hl 1 rfl) ?_
    obtain ⟨r12, h12, h⟩ := fy_bd_some h
    refine fy_calI w (fy_runV (As := [.int v1]) (rest := []) C w (c_X0_hasState l g hcl q0 h12) (X_o0 hcl q0) ksX0_49 rfl ⟨Nat.le_of_ble_eq_true rfl, Nat.le_of_ble_eq_true rfl⟩ rfl hl.1 rfl (Nat.le_of_ble_eq_true rfl) ⟨Nat.le_refl _, Nat.le_refl _⟩ dX0_formula_12) (fun H locs w => ?_)
    refine lv_if_eq (tgt := 35) hx hb dX0_formula_15 (by decide) (fun hc => ?_) (fun hc => ?_)
    · have h := fy_if_t h hc
      refine lv_null hx hb dX0_formula_35 ?_
      cases h
      exact fy_retE C w rfl dX0_formula_36
    · have h := fy_if_f h hc
      refine lv_aload_n hx hb dX0_formula_18 rfl (lv_at hl 0 rfl) ?_
      refine lv_iload_n hx hb dX0_formula_19 rfl (lv_at hl 2 rfl) ?_
      obtain ⟨r20, h20, h⟩ := fy_bd_some h
      refine fy_calI w (fy_runV (As := [.int v2]) (rest := []) C w (c_X0_hasLetter l g hcl q0 h20) (X_o0 hcl q0) ksX0_53 rfl ⟨Nat.le_of_ble_eq_true rfl, Nat.le_of_ble_eq_true rfl⟩ rfl hl.1 rfl (Nat.le_of_ble_eq_true rfl) ⟨Nat.le_refl _, Nat.le_refl _⟩ dX0_formula_20) (fun H locs w => ?_)
      refine lv_if_eq (tgt := 35) hx hb dX0_formula_23 (by decide) (fun hc => ?_) (fun hc => ?_)
      · have h := fy_if_t h hc
        refine lv_null hx hb dX0_formula_35 ?_
        cases h
        exact fy_retE C w rfl dX0_formula_36
      · have h := fy_if_f h hc
        refine lv_aload_n hx hb dX0_formula_26 rfl (lv_at hl 0 rfl) ?_
        refine lv_iload_n hx hb dX0_formula_27 rfl (lv_at hl 1 rfl) ?_
        refine lv_iload_n hx hb dX0_formula_28 rfl (lv_at hl 2 rfl) ?_
        obtain ⟨r29, h29, h⟩ := fy_bd_some h
        refine fy_calE w (fy_runV (As := [.int v1, .int v2]) (rest := []) C w (c_X0_move l g hcl q0 h29) (X_o0 hcl q0) ksX0_56 rfl ⟨Nat.le_of_ble_eq_true rfl, Nat.le_of_ble_eq_true rfl⟩ rfl hl.1 rfl (Nat.le_of_ble_eq_true rfl) ⟨Nat.le_refl _, Nat.le_refl _⟩ dX0_formula_29) (fun H locs w => ?_)
        refine lv_goto (tgt := 36) hx hb dX0_formula_32 (by decide) ?_
        cases h
        exact fy_retE C w rfl dX0_formula_36
  · have h := fy_if_t h hc
    refine lv_aload_n hx hb dX0_formula_5 rfl (lv_at hl 0 rfl) ?_
    refine gfX0_18 hcl C w q0 dX0_formula_6 ?_
    cases h
    exact fy_retE C w rfl dX0_formula_9

set_option maxHeartbeats 4000000 in
set_option maxRecDepth 100000 in
theorem c_X0_formula (l : Launch) (g : fy_G) {y : fy_Y} (hcl : X_clo y) {S : fy_S} {v0 : Nat} {v1 : Int32} {v2 : Int32} {rr : Option Nat} (q0 : X_is y 0 v0) (h : X0_formula S v0 v1 v2 = some rr) : fy_M g y l yX0_formula cX0_formula 3 (some (.object "AlternatingAutomata$Formula")) (fy_rm 2) [.ref (g.2.2.1 v0), .int v1, .int v2] S (fy_QE g y rr S) :=
  fy_entry (by decide +kernel) (Nat.le_of_ble_eq_true rfl) (fun p e s m args below meth c ls C w hl => t_X0_formula C hcl q0 h w hl)
def X9_formulaIn (S : fy_S) (v1 : Int32) (v2 : Int32) (v3 : Int32) : Option (Option Nat) :=
  fy_bd (X9_automatonIn S v1) fun r2 =>
  match r2 with
  | none => (
    some none)
  | some r2_ => (
    fy_bd (X0_formula S r2_ v2 v3) fun r20 =>
    some r20)
theorem cls_X9_formulaIn {S : fy_S} {v1 v2 v3 : Int32} {z : Nat} (h : X9_formulaIn S v1 v2 v3 = some (some z)) : X_is X_Y 2 z := by
  rw [X9_formulaIn] at h
  obtain ⟨r2, h2, h⟩ := fy_bd_some h
  cases r2 with
  | none => cases h
  | some a =>
    obtain ⟨r, hr, h⟩ := fy_bd_some h
    cases h; exact cls_X0_formula X_full (cls_X9_automatonIn h2) hr
set_option maxHeartbeats 4000000 in
set_option maxRecDepth 100000 in
theorem t_X9_formulaIn {p : Program} {l : Launch} {e : Env} {s : State} {m : MethodId} {args : Array Value} {below : List Frame} {meth : Method} {c : Code} {g : fy_G} (C : fy_C g X_Y p s m args meth c yX9_formulaIn.cls cX9_formulaIn 5 (some (.object "AlternatingAutomata$Formula"))) {S : fy_S} {v1 : Int32} {v2 : Int32} {v3 : Int32} {rr : Option Nat}  {H : Heap} {locs : List Loc} {ls : Array Slot} (h : X9_formulaIn S v1 v2 v3 = some rr) (w : fy_W g X_Y S s H locs) (hl : lv_has ls 5 [(0, .ref (g.2.2.1 0)), (1, .int v1), (2, .int v2), (3, .int v3)]) : W p l e (fy_rm 3) s m args below meth c H locs 0 0 (MQ below (fy_QE g X_Y rr S) args s 0 0 (fy_A g X_Y)) (F0 m 0 ls []) := by
  obtain ⟨hx, hb, hr, hts, hown, hlk, hml, hK, hD, hE, hN⟩ := id C
  rw [X9_formulaIn] at h
  refine lv_aload_n hx hb dX9_formulaIn_0 rfl (lv_at hl 0 rfl) ?_
  refine lv_iload_n hx hb dX9_formulaIn_1 rfl (lv_at hl 1 rfl) ?_
  obtain ⟨r2, h2, h⟩ := fy_bd_some h
  refine fy_calE w (fy_runV (As := [.int v1]) (rest := []) C w (c_X9_automatonIn l g  h2) (X_o9 X_full (X_i0)) ksX9_88 rfl ⟨Nat.le_of_ble_eq_true rfl, Nat.le_of_ble_eq_true rfl⟩ rfl hl.1 rfl (Nat.le_of_ble_eq_true rfl) ⟨Nat.le_refl _, Nat.le_refl _⟩ dX9_formulaIn_2) (fun H locs w => ?_)
  refine fy_astoreO (lv' := [(4, va_re g.2.2.1 r2), (0, .ref (g.2.2.1 0)), (1, .int v1), (2, .int v2), (3, .int v3)]) hx hb dX9_formulaIn_5 hl (by decide) rfl (fun ls hl => ?_)
  cases r2 with
  | none =>
    dsimp only at h
    refine lv_aloadN hx hb dX9_formulaIn_7 (lv_at hl 0 rfl) ?_
    refine lv_ifnonnullN hx hb dX9_formulaIn_9 ?_
    refine lv_null hx hb dX9_formulaIn_12 ?_
    refine lv_goto (tgt := 23) hx hb dX9_formulaIn_13 (by decide) ?_
    cases h
    exact fy_retE C w rfl dX9_formulaIn_23
  | some r2_ =>
    dsimp only at h
    refine lv_aload hx hb dX9_formulaIn_7 (lv_at hl 0 rfl) ?_
    refine lv_ifnonnull (tgt := 16) hx hb dX9_formulaIn_9 (by decide) ?_
    refine lv_aload hx hb dX9_formulaIn_16 (lv_at hl 0 rfl) ?_
    refine lv_iload_n hx hb dX9_formulaIn_18 rfl (lv_at hl 3 rfl) ?_
    refine lv_iload_n hx hb dX9_formulaIn_19 rfl (lv_at hl 4 rfl) ?_
    obtain ⟨r20, h20, h⟩ := fy_bd_some h
    refine fy_calE w (fy_runV (As := [.int v2, .int v3]) (rest := []) C w (c_X0_formula l g X_full (cls_X9_automatonIn  h2) h20) (X_o0 X_full (cls_X9_automatonIn  h2)) ksX9_275 rfl ⟨Nat.le_of_ble_eq_true rfl, Nat.le_of_ble_eq_true rfl⟩ rfl hl.1 rfl (Nat.le_of_ble_eq_true rfl) ⟨Nat.le_refl _, Nat.le_refl _⟩ dX9_formulaIn_20) (fun H locs w => ?_)
    cases h
    exact fy_retE C w rfl dX9_formulaIn_23

set_option maxHeartbeats 4000000 in
set_option maxRecDepth 100000 in
theorem c_X9_formulaIn (l : Launch) (g : fy_G) {S : fy_S} {v1 : Int32} {v2 : Int32} {v3 : Int32} {rr : Option Nat}  (h : X9_formulaIn S v1 v2 v3 = some rr) : fy_M g X_Y l yX9_formulaIn cX9_formulaIn 5 (some (.object "AlternatingAutomata$Formula")) (fy_rm 3) [.ref (g.2.2.1 0), .int v1, .int v2, .int v3] S (fy_QE g X_Y rr S) :=
  fy_entry (by decide +kernel) (Nat.le_of_ble_eq_true rfl) (fun p e s m args below meth c ls C w hl => t_X9_formulaIn C  h w hl)
def X4_addWaiting (S : fy_S) (v1 : Int32) : Option (fy_S) :=
  if (60 : Int32) ≤ (S.1 3 7) then (
    some S)
  else (
    fy_gd (fy_ix (S.1 3 7) 60) <|
    fy_bl (fy_sI S 7 (S.1 3 7).toNatClampNeg (vp_nar .byte (v1.toInt8.toInt32))) fun S19 =>
    fy_bl (fy_sI S19 3 7 ((S19.1 3 7) + (1 : Int32))) fun S27 =>
    some S27)
set_option maxHeartbeats 4000000 in
set_option maxRecDepth 100000 in
theorem t_X4_addWaiting {p : Program} {l : Launch} {e : Env} {s : State} {m : MethodId} {args : Array Value} {below : List Frame} {meth : Method} {c : Code} {g : fy_G} (C : fy_C g X_Y p s m args meth c yX4_addWaiting.cls cX4_addWaiting 2 none) {S : fy_S} {v1 : Int32} {Sr : fy_S}   {H : Heap} {locs : List Loc} {ls : Array Slot} (h : X4_addWaiting S v1 = some Sr) (w : fy_W g X_Y S s H locs) (hl : lv_has ls 2 [(0, .ref (g.2.2.1 3)), (1, .int v1)]) : W p l e (fy_rm 0) s m args below meth c H locs 0 0 (MQ below (fy_QV g X_Y Sr) args s 0 0 (fy_A g X_Y)) (F0 m 0 ls []) := by
  obtain ⟨hx, hb, hr, hts, hown, hlk, hml, hK, hD, hE, hN⟩ := id C
  rw [X4_addWaiting] at h
  refine lv_aload_n hx hb dX4_addWaiting_0 rfl (lv_at hl 0 rfl) ?_
  refine gfX4_36 X_full C w (X_i3) dX4_addWaiting_1 ?_
  refine lv_bipush (v := (60 : Int32)) hx hb dX4_addWaiting_4 (by decide) ?_
  refine lv_icmp_ge (tgt := 30) hx hb dX4_addWaiting_6 (by decide) (fun hc => ?_) (fun hc => ?_)
  · have h := fy_if_t h hc
    cases h
    exact fy_retV C w dX4_addWaiting_30
  · have h := fy_if_f h hc
    refine lv_aload_n hx hb dX4_addWaiting_9 rfl (lv_at hl 0 rfl) ?_
    refine gfX4_23 X_full C w (X_i3) dX4_addWaiting_10 ?_
    refine lv_aload_n hx hb dX4_addWaiting_13 rfl (lv_at hl 0 rfl) ?_
    refine gfX4_36 X_full C w (X_i3) dX4_addWaiting_14 ?_
    refine lv_iload_n hx hb dX4_addWaiting_17 rfl (lv_at hl 1 rfl) ?_
    refine lv_i2b (v := (v1.toInt8.toInt32)) hx hb dX4_addWaiting_18 rfl ?_
    obtain ⟨g19, h⟩ := fy_gd_some h
    refine fy_bast C w X_a7 g19 dX4_addWaiting_19 (fun H locs w => ?_)
    obtain ⟨S19, e19⟩ : ∃ z, z = fy_sI S 7 (S.1 3 7).toNatClampNeg (vp_nar .byte (v1.toInt8.toInt32)) := ⟨_, rfl⟩
    have h := fy_bl_some e19 h
    rw [← e19] at w
    refine lv_aload_n hx hb dX4_addWaiting_20 rfl (lv_at hl 0 rfl) ?_
    refine lv_dup hx hb dX4_addWaiting_21 rfl ?_
    refine gfX4_36 X_full C w (X_i3) dX4_addWaiting_22 ?_
    refine lv_iconst (v := (1 : Int32)) hx hb dX4_addWaiting_25 (by decide) ?_
    refine lv_iadd hx hb dX4_addWaiting_26 ?_
    refine pfX4_36 X_full C w (X_i3) dX4_addWaiting_27 (fun H locs w => ?_)
    obtain ⟨S27, e27⟩ : ∃ z, z = fy_sI S19 3 7 ((S19.1 3 7) + (1 : Int32)) := ⟨_, rfl⟩
    have h := fy_bl_some e27 h
    rw [← e27] at w
    cases h
    exact fy_retV C w dX4_addWaiting_30

set_option maxHeartbeats 4000000 in
set_option maxRecDepth 100000 in
theorem c_X4_addWaiting (l : Launch) (g : fy_G) {S : fy_S} {v1 : Int32} {Sr : fy_S}   (h : X4_addWaiting S v1 = some Sr) : fy_M g X_Y l yX4_addWaiting cX4_addWaiting 2 none (fy_rm 0) [.ref (g.2.2.1 3), .int v1] S (fy_QV g X_Y Sr) :=
  fy_entry (by decide +kernel) (Nat.le_of_ble_eq_true rfl) (fun p e s m args below meth c ls C w hl => t_X4_addWaiting C  h w hl)
def X4_openGroup (S : fy_S)  : Option (fy_S) :=
  fy_bd (X4_addWaiting S (0 : Int32)) fun S2 =>
  fy_bl (fy_sI S2 3 8 ((S2.1 3 8) + (1 : Int32))) fun S12 =>
  some S12
set_option maxHeartbeats 4000000 in
set_option maxRecDepth 100000 in
theorem t_X4_openGroup {p : Program} {l : Launch} {e : Env} {s : State} {m : MethodId} {args : Array Value} {below : List Frame} {meth : Method} {c : Code} {g : fy_G} (C : fy_C g X_Y p s m args meth c yX4_openGroup.cls cX4_openGroup 1 none) {S : fy_S}  {Sr : fy_S}   {H : Heap} {locs : List Loc} {ls : Array Slot} (h : X4_openGroup S  = some Sr) (w : fy_W g X_Y S s H locs) (hl : lv_has ls 1 [(0, .ref (g.2.2.1 3))]) : W p l e (fy_rm 1) s m args below meth c H locs 0 0 (MQ below (fy_QV g X_Y Sr) args s 0 0 (fy_A g X_Y)) (F0 m 0 ls []) := by
  obtain ⟨hx, hb, hr, hts, hown, hlk, hml, hK, hD, hE, hN⟩ := id C
  rw [X4_openGroup] at h
  refine lv_aload_n hx hb dX4_openGroup_0 rfl (lv_at hl 0 rfl) ?_
  refine lv_iconst (v := (0 : Int32)) hx hb dX4_openGroup_1 (by decide) ?_
  obtain ⟨S2, h2, h⟩ := fy_bd_some h
  refine fy_calV w (fy_runV (As := [.int (0 : Int32)]) (rest := []) C w (c_X4_addWaiting l g  h2) (X_o4 X_full (X_i3)) ksX4_84 rfl ⟨Nat.le_of_ble_eq_true rfl, Nat.le_of_ble_eq_true rfl⟩ rfl hl.1 rfl (Nat.le_of_ble_eq_true rfl) ⟨Nat.le_refl _, Nat.le_refl _⟩ dX4_openGroup_2) (fun H locs w => ?_)
  refine lv_aload_n hx hb dX4_openGroup_5 rfl (lv_at hl 0 rfl) ?_
  refine lv_dup hx hb dX4_openGroup_6 rfl ?_
  refine gfX4_39 X_full C w (X_i3) dX4_openGroup_7 ?_
  refine lv_iconst (v := (1 : Int32)) hx hb dX4_openGroup_10 (by decide) ?_
  refine lv_iadd hx hb dX4_openGroup_11 ?_
  refine pfX4_39 X_full C w (X_i3) dX4_openGroup_12 (fun H locs w => ?_)
  obtain ⟨S12, e12⟩ : ∃ z, z = fy_sI S2 3 8 ((S2.1 3 8) + (1 : Int32)) := ⟨_, rfl⟩
  have h := fy_bl_some e12 h
  rw [← e12] at w
  cases h
  exact fy_retV C w dX4_openGroup_15

set_option maxHeartbeats 4000000 in
set_option maxRecDepth 100000 in
theorem c_X4_openGroup (l : Launch) (g : fy_G) {S : fy_S}  {Sr : fy_S}   (h : X4_openGroup S  = some Sr) : fy_M g X_Y l yX4_openGroup cX4_openGroup 1 none (fy_rm 1) [.ref (g.2.2.1 3)] S (fy_QV g X_Y Sr) :=
  fy_entry (by decide +kernel) (Nat.le_of_ble_eq_true rfl) (fun p e s m args below meth c ls C w hl => t_X4_openGroup C  h w hl)
end
