noncomputable section
def M_isAhead_80 (S : fy_S) : Nat → Int32 → Int32 → Int32 → Int32 → Option (Int32)
  | 0, _, _, _, _ => none
  | fu + 1, v1, v3, v4, v5 =>
    fy_gd (fy_ix v1 64) <|
    if (S.1 28 v1.toNatClampNeg) ≤ v5 then (
      some (0 : Int32))
    else (
      fy_gd (fy_ix v3 64) <|
      fy_gd (fy_ix v4 64) <|
      if (S.1 29 v3.toNatClampNeg) = (S.1 29 v4.toNatClampNeg) then (
        fy_gd (fy_ix v3 64) <|
        fy_bl (S.1 30 v3.toNatClampNeg) fun x135 =>
        fy_gd (fy_ix v4 64) <|
        fy_bl (S.1 30 v4.toNatClampNeg) fun x143 =>
        fy_bl (v5 + (1 : Int32)) fun x145 =>
        M_isAhead_80 S fu v1 x135 x143 x145)
      else (
        fy_gd (fy_ix v3 64) <|
        fy_gd (fy_ix v4 64) <|
        if (S.1 29 v4.toNatClampNeg) ≤ (S.1 29 v3.toNatClampNeg) then (
          some (0 : Int32))
        else (
          some (1 : Int32))))
def M_isAhead (S : fy_S) (v1 : Int32) (v2 : Int32) : Option (Int32) :=
  fy_gd (fy_ix v1 64) <|
  fy_gd (fy_ix v2 64) <|
  if (S.1 27 v1.toNatClampNeg) = (S.1 27 v2.toNatClampNeg) then (
    fy_gd (fy_ix v1 64) <|
    fy_gd (fy_ix v2 64) <|
    if (S.1 28 v1.toNatClampNeg) = (S.1 28 v2.toNatClampNeg) then (
      M_isAhead_80 S fy_fu v1 v1 v2 (0 : Int32))
    else (
      fy_gd (fy_ix v1 64) <|
      fy_gd (fy_ix v2 64) <|
      if (S.1 28 v2.toNatClampNeg) ≤ (S.1 28 v1.toNatClampNeg) then (
        some (0 : Int32))
      else (
        some (1 : Int32))))
  else (
    fy_gd (fy_ix v1 64) <|
    fy_gd (fy_ix v2 64) <|
    if (S.1 27 v2.toNatClampNeg) ≤ (S.1 27 v1.toNatClampNeg) then (
      some (0 : Int32))
    else (
      some (1 : Int32)))
set_option maxHeartbeats 4000000 in
set_option maxRecDepth 100000 in
theorem t_M_isAhead_80 {p : Program} {l : Launch} {e : Env} {s : State} {m : MethodId} {args : Array Value} {below : List Frame} {meth : Method} {c : Code} {g : fy_G} (C : fy_C g M_Y p s m args meth c yX10_isAhead.cls cX10_isAhead 6 (some .boolean)) {S : fy_S} {rr : Int32} : ∀ (fu : Nat) (v1 : Int32) (v3 : Int32) (v4 : Int32) (v5 : Int32) (H : Heap) (locs : List Loc) (ls : Array Slot), M_isAhead_80 S fu v1 v3 v4 v5 = some rr → fy_W g M_Y S s H locs → lv_has ls 6 [(0, .ref (g.2.2.1 0)), (1, .int v1), (3, .int v3), (4, .int v4), (5, .int v5)] → W p l e (fy_rm 0) s m args below meth c H locs 0 0 (MQ below (fy_QI g M_Y rr S) args s 0 0 (fy_A g M_Y)) (F0 m 80 ls []) := by
  obtain ⟨hx, hb, hr, hts, hown, hlk, hml, hK, hD, hE, hN⟩ := id C
  intro fu
  induction fu with
  | zero => intro v1 v3 v4 v5 H locs ls h; cases h
  | succ fu ih =>
    intro v1 v3 v4 v5 H locs ls h w  hl
    rw [M_isAhead_80] at h
    refine lv_iload hx hb dX10_isAhead_80 (lv_at hl 4 rfl) ?_
    refine lv_aload_n hx hb dX10_isAhead_82 rfl (lv_at hl 0 rfl) ?_
    refine gfX10_91 C w dX10_isAhead_83 ?_
    refine lv_iload_n hx hb dX10_isAhead_86 rfl (lv_at hl 1 rfl) ?_
    obtain ⟨g87, h⟩ := fy_gd_some h
    refine fy_iald C w M_a28 g87 dX10_isAhead_87 ?_
    refine lv_icmp_ge (tgt := 151) hx hb dX10_isAhead_88 (by decide) (fun hc => ?_) (fun hc => ?_)
    · have h := fy_if_t h hc
      refine lv_iconst (v := (0 : Int32)) hx hb dX10_isAhead_151 (by decide) ?_
      cases h
      exact fy_retZ C w (by decide +kernel) dX10_isAhead_152
    · have h := fy_if_f h hc
      refine lv_aload_n hx hb dX10_isAhead_91 rfl (lv_at hl 0 rfl) ?_
      refine gfX10_94 C w dX10_isAhead_92 ?_
      refine lv_iload_n hx hb dX10_isAhead_95 rfl (lv_at hl 2 rfl) ?_
      obtain ⟨g96, h⟩ := fy_gd_some h
      refine fy_iald C w M_a29 g96 dX10_isAhead_96 ?_
      refine lv_aload_n hx hb dX10_isAhead_97 rfl (lv_at hl 0 rfl) ?_
      refine gfX10_94 C w dX10_isAhead_98 ?_
      refine lv_iload hx hb dX10_isAhead_101 (lv_at hl 3 rfl) ?_
      obtain ⟨g103, h⟩ := fy_gd_some h
      refine fy_iald C w M_a29 g103 dX10_isAhead_103 ?_
      refine lv_icmp_eq (tgt := 129) hx hb dX10_isAhead_104 (by decide) (fun hc => ?_) (fun hc => ?_)
      · have h := fy_if_t h hc
        refine lv_aload_n hx hb dX10_isAhead_129 rfl (lv_at hl 0 rfl) ?_
        refine gfX10_97 C w dX10_isAhead_130 ?_
        refine lv_iload_n hx hb dX10_isAhead_133 rfl (lv_at hl 2 rfl) ?_
        obtain ⟨g134, h⟩ := fy_gd_some h
        refine fy_iald C w M_a30 g134 dX10_isAhead_134 ?_
        refine lv_topi (fun x135 e135 => ?_)
        have h := fy_bl_some e135 h
        refine lv_istore_n (lv' := [(3, .int x135), (0, .ref (g.2.2.1 0)), (1, .int v1), (4, .int v4), (5, .int v5)]) hx hb dX10_isAhead_135 rfl hl (by decide) rfl (fun ls hl => ?_)
        refine lv_aload_n hx hb dX10_isAhead_136 rfl (lv_at hl 1 rfl) ?_
        refine gfX10_97 C w dX10_isAhead_137 ?_
        refine lv_iload hx hb dX10_isAhead_140 (lv_at hl 3 rfl) ?_
        obtain ⟨g142, h⟩ := fy_gd_some h
        refine fy_iald C w M_a30 g142 dX10_isAhead_142 ?_
        refine lv_topi (fun x143 e143 => ?_)
        have h := fy_bl_some e143 h
        refine lv_istore (lv' := [(4, .int x143), (3, .int x135), (0, .ref (g.2.2.1 0)), (1, .int v1), (5, .int v5)]) hx hb dX10_isAhead_143 hl (by decide) rfl (fun ls hl => ?_)
        obtain ⟨x145, e145⟩ : ∃ z : Int32, z = v5 + (1 : Int32) := ⟨_, rfl⟩
        have h := fy_bl_some e145 h
        refine lv_iinc (k := 4) (v := x145) (lv' := [(5, .int x145), (4, .int x143), (3, .int x135), (0, .ref (g.2.2.1 0)), (1, .int v1)]) hx hb dX10_isAhead_145 hl rfl (by rw [e145]; rfl) (by decide) rfl (fun ls hl => ?_)
        refine lv_goto (tgt := 80) hx hb dX10_isAhead_148 (by decide) ?_
        exact ih _ _ _ _ _ _ _ h w (lv_sub hl [3, 4, 2, 1, 0] rfl)
      · have h := fy_if_f h hc
        refine lv_aload_n hx hb dX10_isAhead_107 rfl (lv_at hl 0 rfl) ?_
        refine gfX10_94 C w dX10_isAhead_108 ?_
        refine lv_iload_n hx hb dX10_isAhead_111 rfl (lv_at hl 2 rfl) ?_
        obtain ⟨g112, h⟩ := fy_gd_some h
        refine fy_iald C w M_a29 g112 dX10_isAhead_112 ?_
        refine lv_aload_n hx hb dX10_isAhead_113 rfl (lv_at hl 0 rfl) ?_
        refine gfX10_94 C w dX10_isAhead_114 ?_
        refine lv_iload hx hb dX10_isAhead_117 (lv_at hl 3 rfl) ?_
        obtain ⟨g119, h⟩ := fy_gd_some h
        refine fy_iald C w M_a29 g119 dX10_isAhead_119 ?_
        refine lv_icmp_ge (tgt := 127) hx hb dX10_isAhead_120 (by decide) (fun hc => ?_) (fun hc => ?_)
        · have h := fy_if_t h hc
          refine lv_iconst (v := (0 : Int32)) hx hb dX10_isAhead_127 (by decide) ?_
          cases h
          exact fy_retZ C w (by decide +kernel) dX10_isAhead_128
        · have h := fy_if_f h hc
          refine lv_iconst (v := (1 : Int32)) hx hb dX10_isAhead_123 (by decide) ?_
          refine lv_goto (tgt := 128) hx hb dX10_isAhead_124 (by decide) ?_
          cases h
          exact fy_retZ C w (by decide +kernel) dX10_isAhead_128

set_option maxHeartbeats 4000000 in
set_option maxRecDepth 100000 in
theorem t_M_isAhead {p : Program} {l : Launch} {e : Env} {s : State} {m : MethodId} {args : Array Value} {below : List Frame} {meth : Method} {c : Code} {g : fy_G} (C : fy_C g M_Y p s m args meth c yX10_isAhead.cls cX10_isAhead 6 (some .boolean)) {S : fy_S} {v1 : Int32} {v2 : Int32} {rr : Int32}  {H : Heap} {locs : List Loc} {ls : Array Slot} (h : M_isAhead S v1 v2 = some rr) (w : fy_W g M_Y S s H locs) (hl : lv_has ls 6 [(0, .ref (g.2.2.1 0)), (1, .int v1), (2, .int v2)]) : W p l e (fy_rm 0) s m args below meth c H locs 0 0 (MQ below (fy_QI g M_Y rr S) args s 0 0 (fy_A g M_Y)) (F0 m 0 ls []) := by
  obtain ⟨hx, hb, hr, hts, hown, hlk, hml, hK, hD, hE, hN⟩ := id C
  rw [M_isAhead] at h
  refine lv_aload_n hx hb dX10_isAhead_0 rfl (lv_at hl 0 rfl) ?_
  refine gfX10_88 C w dX10_isAhead_1 ?_
  refine lv_iload_n hx hb dX10_isAhead_4 rfl (lv_at hl 1 rfl) ?_
  obtain ⟨g5, h⟩ := fy_gd_some h
  refine fy_iald C w M_a27 g5 dX10_isAhead_5 ?_
  refine lv_aload_n hx hb dX10_isAhead_6 rfl (lv_at hl 0 rfl) ?_
  refine gfX10_88 C w dX10_isAhead_7 ?_
  refine lv_iload_n hx hb dX10_isAhead_10 rfl (lv_at hl 2 rfl) ?_
  obtain ⟨g11, h⟩ := fy_gd_some h
  refine fy_iald C w M_a27 g11 dX10_isAhead_11 ?_
  refine lv_icmp_eq (tgt := 36) hx hb dX10_isAhead_12 (by decide) (fun hc => ?_) (fun hc => ?_)
  · have h := fy_if_t h hc
    refine lv_aload_n hx hb dX10_isAhead_36 rfl (lv_at hl 0 rfl) ?_
    refine gfX10_91 C w dX10_isAhead_37 ?_
    refine lv_iload_n hx hb dX10_isAhead_40 rfl (lv_at hl 1 rfl) ?_
    obtain ⟨g41, h⟩ := fy_gd_some h
    refine fy_iald C w M_a28 g41 dX10_isAhead_41 ?_
    refine lv_aload_n hx hb dX10_isAhead_42 rfl (lv_at hl 0 rfl) ?_
    refine gfX10_91 C w dX10_isAhead_43 ?_
    refine lv_iload_n hx hb dX10_isAhead_46 rfl (lv_at hl 2 rfl) ?_
    obtain ⟨g47, h⟩ := fy_gd_some h
    refine fy_iald C w M_a28 g47 dX10_isAhead_47 ?_
    refine lv_icmp_eq (tgt := 72) hx hb dX10_isAhead_48 (by decide) (fun hc => ?_) (fun hc => ?_)
    · have h := fy_if_t h hc
      refine lv_iload_n hx hb dX10_isAhead_72 rfl (lv_at hl 1 rfl) ?_
      refine lv_istore_n (lv' := [(3, .int v1), (0, .ref (g.2.2.1 0)), (1, .int v1), (2, .int v2)]) hx hb dX10_isAhead_73 rfl hl (by decide) rfl (fun ls hl => ?_)
      refine lv_iload_n hx hb dX10_isAhead_74 rfl (lv_at hl 3 rfl) ?_
      refine lv_istore (lv' := [(4, .int v2), (3, .int v1), (0, .ref (g.2.2.1 0)), (1, .int v1), (2, .int v2)]) hx hb dX10_isAhead_75 hl (by decide) rfl (fun ls hl => ?_)
      refine lv_iconst (v := (0 : Int32)) hx hb dX10_isAhead_77 (by decide) ?_
      refine lv_istore (lv' := [(5, .int (0 : Int32)), (4, .int v2), (3, .int v1), (0, .ref (g.2.2.1 0)), (1, .int v1), (2, .int v2)]) hx hb dX10_isAhead_78 hl (by decide) rfl (fun ls hl => ?_)
      exact t_M_isAhead_80 C fy_fu _ _ _ _ _ _ _ h w (lv_sub hl [3, 4, 2, 1, 0] rfl)
    · have h := fy_if_f h hc
      refine lv_aload_n hx hb dX10_isAhead_51 rfl (lv_at hl 0 rfl) ?_
      refine gfX10_91 C w dX10_isAhead_52 ?_
      refine lv_iload_n hx hb dX10_isAhead_55 rfl (lv_at hl 1 rfl) ?_
      obtain ⟨g56, h⟩ := fy_gd_some h
      refine fy_iald C w M_a28 g56 dX10_isAhead_56 ?_
      refine lv_aload_n hx hb dX10_isAhead_57 rfl (lv_at hl 0 rfl) ?_
      refine gfX10_91 C w dX10_isAhead_58 ?_
      refine lv_iload_n hx hb dX10_isAhead_61 rfl (lv_at hl 2 rfl) ?_
      obtain ⟨g62, h⟩ := fy_gd_some h
      refine fy_iald C w M_a28 g62 dX10_isAhead_62 ?_
      refine lv_icmp_ge (tgt := 70) hx hb dX10_isAhead_63 (by decide) (fun hc => ?_) (fun hc => ?_)
      · have h := fy_if_t h hc
        refine lv_iconst (v := (0 : Int32)) hx hb dX10_isAhead_70 (by decide) ?_
        cases h
        exact fy_retZ C w (by decide +kernel) dX10_isAhead_71
      · have h := fy_if_f h hc
        refine lv_iconst (v := (1 : Int32)) hx hb dX10_isAhead_66 (by decide) ?_
        refine lv_goto (tgt := 71) hx hb dX10_isAhead_67 (by decide) ?_
        cases h
        exact fy_retZ C w (by decide +kernel) dX10_isAhead_71
  · have h := fy_if_f h hc
    refine lv_aload_n hx hb dX10_isAhead_15 rfl (lv_at hl 0 rfl) ?_
    refine gfX10_88 C w dX10_isAhead_16 ?_
    refine lv_iload_n hx hb dX10_isAhead_19 rfl (lv_at hl 1 rfl) ?_
    obtain ⟨g20, h⟩ := fy_gd_some h
    refine fy_iald C w M_a27 g20 dX10_isAhead_20 ?_
    refine lv_aload_n hx hb dX10_isAhead_21 rfl (lv_at hl 0 rfl) ?_
    refine gfX10_88 C w dX10_isAhead_22 ?_
    refine lv_iload_n hx hb dX10_isAhead_25 rfl (lv_at hl 2 rfl) ?_
    obtain ⟨g26, h⟩ := fy_gd_some h
    refine fy_iald C w M_a27 g26 dX10_isAhead_26 ?_
    refine lv_icmp_ge (tgt := 34) hx hb dX10_isAhead_27 (by decide) (fun hc => ?_) (fun hc => ?_)
    · have h := fy_if_t h hc
      refine lv_iconst (v := (0 : Int32)) hx hb dX10_isAhead_34 (by decide) ?_
      cases h
      exact fy_retZ C w (by decide +kernel) dX10_isAhead_35
    · have h := fy_if_f h hc
      refine lv_iconst (v := (1 : Int32)) hx hb dX10_isAhead_30 (by decide) ?_
      refine lv_goto (tgt := 35) hx hb dX10_isAhead_31 (by decide) ?_
      cases h
      exact fy_retZ C w (by decide +kernel) dX10_isAhead_35

set_option maxHeartbeats 4000000 in
set_option maxRecDepth 100000 in
theorem c_M_isAhead (l : Launch) (g : fy_G) {S : fy_S} {v1 : Int32} {v2 : Int32} {rr : Int32}  (h : M_isAhead S v1 v2 = some rr) : fy_M g M_Y l yX10_isAhead cX10_isAhead 6 (some .boolean) (fy_rm 0) [.ref (g.2.2.1 0), .int v1, .int v2] S (fy_QI g M_Y rr S) :=
  fy_entry (by decide +kernel) (Nat.le_of_ble_eq_true rfl) (fun p e s m args below meth c ls C w hl => t_M_isAhead C  h w hl)
def M_findCheapest_95 : Nat → fy_S → Int32 → Int32 → Option (fy_S × Int32)
  | 0, _, _, _ => none
  | fu + 1, S, v3, v4 =>
    if (S.1 0 44) ≤ v4 then (
      some (S, (S.1 0 44)))
    else (
      fy_gd (fy_ix v3 64) <|
      fy_gd (fy_ix v4 4096) <|
      fy_bl (fy_sI S 24 v4.toNatClampNeg (S.1 29 v3.toNatClampNeg)) fun S116 =>
      fy_gd (fy_ix v3 64) <|
      fy_bl (S116.1 30 v3.toNatClampNeg) fun x123 =>
      fy_bl (v4 + (1 : Int32)) fun x124 =>
      M_findCheapest_95 fu S116 x123 x124)
def M_findCheapest_19 : Nat → fy_S → Int32 → Int32 → Int32 → Option (fy_S × Int32)
  | 0, _, _, _, _ => none
  | fu + 1, S, v1, v2, v3 =>
    if (64 : Int32) ≤ v3 then (
      if 0 ≤ v2 then (
        fy_gd (fy_ix v2 64) <|
        fy_bl (fy_sI S 0 44 (S.1 28 v2.toNatClampNeg)) fun S77 =>
        fy_gd (fy_ix v2 64) <|
        fy_bl (fy_sI S77 0 45 (S77.1 27 v2.toNatClampNeg)) fun S87 =>
        M_findCheapest_95 fy_fu S87 v2 (0 : Int32))
      else (
        some (S, (-1 : Int32))))
    else (
      fy_gd (fy_ix v3 64) <|
      if (S.1 27 v3.toNatClampNeg) < 0 then (
        fy_bl (v3 + (1 : Int32)) fun x58 =>
        M_findCheapest_19 fu S v1 v2 x58)
      else (
        fy_bd (M_isAccepting S v1 v3) fun r37 =>
        if r37 = 0 then (
          fy_bl (v3 + (1 : Int32)) fun x58 =>
          M_findCheapest_19 fu S v1 v2 x58)
        else (
          if v2 < 0 then (
            fy_bl (v3 + (1 : Int32)) fun x58 =>
            M_findCheapest_19 fu S v1 v3 x58)
          else (
            fy_bd (M_isAhead S v3 v2) fun r50 =>
            if r50 = 0 then (
              fy_bl (v3 + (1 : Int32)) fun x58 =>
              M_findCheapest_19 fu S v1 v2 x58)
            else (
              fy_bl (v3 + (1 : Int32)) fun x58 =>
              M_findCheapest_19 fu S v1 v3 x58)))))
def M_findCheapest (S : fy_S) (v1 : Int32) : Option (fy_S × Int32) :=
  fy_bd (M_isSlot S v1) fun r1 =>
  if r1 = 0 then (
    some (S, (-2 : Int32)))
  else (
    fy_bd (M_findBest S v1) fun S12 =>
    M_findCheapest_19 fy_fu S12 v1 (-1 : Int32) (0 : Int32))
set_option maxHeartbeats 4000000 in
set_option maxRecDepth 100000 in
theorem t_M_findCheapest_95 {p : Program} {l : Launch} {e : Env} {s : State} {m : MethodId} {args : Array Value} {below : List Frame} {meth : Method} {c : Code} {g : fy_G} (C : fy_C g M_Y p s m args meth c yX10_findCheapest.cls cX10_findCheapest 5 (some .int)) {Sr : fy_S} {rr : Int32} : ∀ (fu : Nat) (S : fy_S) (v3 : Int32) (v4 : Int32) (H : Heap) (locs : List Loc) (ls : Array Slot), M_findCheapest_95 fu S v3 v4 = some (Sr, rr) → fy_W g M_Y S s H locs → lv_has ls 5 [(0, .ref (g.2.2.1 0)), (3, .int v3), (4, .int v4)] → W p l e (fy_rm 4) s m args below meth c H locs 0 0 (MQ below (fy_QI g M_Y rr Sr) args s 0 0 (fy_A g M_Y)) (F0 m 95 ls []) := by
  obtain ⟨hx, hb, hr, hts, hown, hlk, hml, hK, hD, hE, hN⟩ := id C
  intro fu
  induction fu with
  | zero => intro S v3 v4 H locs ls h; cases h
  | succ fu ih =>
    intro S v3 v4 H locs ls h w  hl
    rw [M_findCheapest_95] at h
    refine lv_iload hx hb dX10_findCheapest_95 (lv_at hl 2 rfl) ?_
    refine lv_aload_n hx hb dX10_findCheapest_97 rfl (lv_at hl 0 rfl) ?_
    refine gfX10_298 C w dX10_findCheapest_98 ?_
    refine lv_icmp_ge (tgt := 130) hx hb dX10_findCheapest_101 (by decide) (fun hc => ?_) (fun hc => ?_)
    · have h := fy_if_t h hc
      refine lv_aload_n hx hb dX10_findCheapest_130 rfl (lv_at hl 0 rfl) ?_
      refine gfX10_298 C w dX10_findCheapest_131 ?_
      cases h
      exact fy_retI C w dX10_findCheapest_134
    · have h := fy_if_f h hc
      refine lv_aload_n hx hb dX10_findCheapest_104 rfl (lv_at hl 0 rfl) ?_
      refine gfX10_79 C w dX10_findCheapest_105 ?_
      refine lv_iload hx hb dX10_findCheapest_108 (lv_at hl 2 rfl) ?_
      refine lv_aload_n hx hb dX10_findCheapest_110 rfl (lv_at hl 0 rfl) ?_
      refine gfX10_94 C w dX10_findCheapest_111 ?_
      refine lv_iload_n hx hb dX10_findCheapest_114 rfl (lv_at hl 1 rfl) ?_
      obtain ⟨g115, h⟩ := fy_gd_some h
      refine fy_iald C w M_a29 g115 dX10_findCheapest_115 ?_
      obtain ⟨g116, h⟩ := fy_gd_some h
      refine fy_iast C w M_a24 g116 dX10_findCheapest_116 (fun H locs w => ?_)
      obtain ⟨S116, e116⟩ : ∃ z, z = fy_sI S 24 v4.toNatClampNeg (S.1 29 v3.toNatClampNeg) := ⟨_, rfl⟩
      have h := fy_bl_some e116 h
      rw [← e116] at w
      refine lv_aload_n hx hb dX10_findCheapest_117 rfl (lv_at hl 0 rfl) ?_
      refine gfX10_97 C w dX10_findCheapest_118 ?_
      refine lv_iload_n hx hb dX10_findCheapest_121 rfl (lv_at hl 1 rfl) ?_
      obtain ⟨g122, h⟩ := fy_gd_some h
      refine fy_iald C w M_a30 g122 dX10_findCheapest_122 ?_
      refine lv_topi (fun x123 e123 => ?_)
      have h := fy_bl_some e123 h
      refine lv_istore_n (lv' := [(3, .int x123), (0, .ref (g.2.2.1 0)), (4, .int v4)]) hx hb dX10_findCheapest_123 rfl hl (by decide) rfl (fun ls hl => ?_)
      obtain ⟨x124, e124⟩ : ∃ z : Int32, z = v4 + (1 : Int32) := ⟨_, rfl⟩
      have h := fy_bl_some e124 h
      refine lv_iinc (k := 2) (v := x124) (lv' := [(4, .int x124), (3, .int x123), (0, .ref (g.2.2.1 0))]) hx hb dX10_findCheapest_124 hl rfl (by rw [e124]; rfl) (by decide) rfl (fun ls hl => ?_)
      refine lv_goto (tgt := 95) hx hb dX10_findCheapest_127 (by decide) ?_
      exact ih _ _ _ _ _ _ h w (lv_sub hl [2, 1, 0] rfl)

set_option maxHeartbeats 4000000 in
set_option maxRecDepth 100000 in
theorem t_M_findCheapest_19 {p : Program} {l : Launch} {e : Env} {s : State} {m : MethodId} {args : Array Value} {below : List Frame} {meth : Method} {c : Code} {g : fy_G} (C : fy_C g M_Y p s m args meth c yX10_findCheapest.cls cX10_findCheapest 5 (some .int)) {Sr : fy_S} {rr : Int32} : ∀ (fu : Nat) (S : fy_S) (v1 : Int32) (v2 : Int32) (v3 : Int32) (H : Heap) (locs : List Loc) (ls : Array Slot), M_findCheapest_19 fu S v1 v2 v3 = some (Sr, rr) → fy_W g M_Y S s H locs → lv_has ls 5 [(0, .ref (g.2.2.1 0)), (1, .int v1), (2, .int v2), (3, .int v3)] → W p l e (fy_rm 4) s m args below meth c H locs 0 0 (MQ below (fy_QI g M_Y rr Sr) args s 0 0 (fy_A g M_Y)) (F0 m 19 ls []) := by
  obtain ⟨hx, hb, hr, hts, hown, hlk, hml, hK, hD, hE, hN⟩ := id C
  intro fu
  induction fu with
  | zero => intro S v1 v2 v3 H locs ls h; cases h
  | succ fu ih =>
    intro S v1 v2 v3 H locs ls h w  hl
    rw [M_findCheapest_19] at h
    refine lv_iload_n hx hb dX10_findCheapest_19 rfl (lv_at hl 3 rfl) ?_
    refine lv_bipush (v := (64 : Int32)) hx hb dX10_findCheapest_20 (by decide) ?_
    refine lv_icmp_ge (tgt := 64) hx hb dX10_findCheapest_22 (by decide) (fun hc => ?_) (fun hc => ?_)
    · have h := fy_if_t h hc
      refine lv_iload_n hx hb dX10_findCheapest_64 rfl (lv_at hl 2 rfl) ?_
      refine lv_if_ge (tgt := 70) hx hb dX10_findCheapest_65 (by decide) (fun hc => ?_) (fun hc => ?_)
      · have h := fy_if_t h hc
        refine lv_aload_n hx hb dX10_findCheapest_70 rfl (lv_at hl 0 rfl) ?_
        refine lv_aload_n hx hb dX10_findCheapest_71 rfl (lv_at hl 0 rfl) ?_
        refine gfX10_91 C w dX10_findCheapest_72 ?_
        refine lv_iload_n hx hb dX10_findCheapest_75 rfl (lv_at hl 2 rfl) ?_
        obtain ⟨g76, h⟩ := fy_gd_some h
        refine fy_iald C w M_a28 g76 dX10_findCheapest_76 ?_
        refine pfX10_298 C w dX10_findCheapest_77 (fun H locs w => ?_)
        obtain ⟨S77, e77⟩ : ∃ z, z = fy_sI S 0 44 (S.1 28 v2.toNatClampNeg) := ⟨_, rfl⟩
        have h := fy_bl_some e77 h
        rw [← e77] at w
        refine lv_aload_n hx hb dX10_findCheapest_80 rfl (lv_at hl 0 rfl) ?_
        refine lv_aload_n hx hb dX10_findCheapest_81 rfl (lv_at hl 0 rfl) ?_
        refine gfX10_88 C w dX10_findCheapest_82 ?_
        refine lv_iload_n hx hb dX10_findCheapest_85 rfl (lv_at hl 2 rfl) ?_
        obtain ⟨g86, h⟩ := fy_gd_some h
        refine fy_iald C w M_a27 g86 dX10_findCheapest_86 ?_
        refine pfX10_301 C w dX10_findCheapest_87 (fun H locs w => ?_)
        obtain ⟨S87, e87⟩ : ∃ z, z = fy_sI S77 0 45 (S77.1 27 v2.toNatClampNeg) := ⟨_, rfl⟩
        have h := fy_bl_some e87 h
        rw [← e87] at w
        refine lv_iload_n hx hb dX10_findCheapest_90 rfl (lv_at hl 2 rfl) ?_
        refine lv_istore_n (lv' := [(3, .int v2), (0, .ref (g.2.2.1 0)), (1, .int v1), (2, .int v2)]) hx hb dX10_findCheapest_91 rfl hl (by decide) rfl (fun ls hl => ?_)
        refine lv_iconst (v := (0 : Int32)) hx hb dX10_findCheapest_92 (by decide) ?_
        refine lv_istore (lv' := [(4, .int (0 : Int32)), (3, .int v2), (0, .ref (g.2.2.1 0)), (1, .int v1), (2, .int v2)]) hx hb dX10_findCheapest_93 hl (by decide) rfl (fun ls hl => ?_)
        exact t_M_findCheapest_95 C fy_fu _ _ _ _ _ _ h w (lv_sub hl [2, 1, 0] rfl)
      · have h := fy_if_f h hc
        refine lv_iconst (v := (-1 : Int32)) hx hb dX10_findCheapest_68 (by decide) ?_
        cases h
        exact fy_retI C w dX10_findCheapest_69
    · have h := fy_if_f h hc
      refine lv_aload_n hx hb dX10_findCheapest_25 rfl (lv_at hl 0 rfl) ?_
      refine gfX10_88 C w dX10_findCheapest_26 ?_
      refine lv_iload_n hx hb dX10_findCheapest_29 rfl (lv_at hl 3 rfl) ?_
      obtain ⟨g30, h⟩ := fy_gd_some h
      refine fy_iald C w M_a27 g30 dX10_findCheapest_30 ?_
      refine lv_if_lt (tgt := 58) hx hb dX10_findCheapest_31 (by decide) (fun hc => ?_) (fun hc => ?_)
      · have h := fy_if_t h hc
        obtain ⟨x58, e58⟩ : ∃ z : Int32, z = v3 + (1 : Int32) := ⟨_, rfl⟩
        have h := fy_bl_some e58 h
        refine lv_iinc (k := 3) (v := x58) (lv' := [(3, .int x58), (0, .ref (g.2.2.1 0)), (1, .int v1), (2, .int v2)]) hx hb dX10_findCheapest_58 hl rfl (by rw [e58]; rfl) (by decide) rfl (fun ls hl => ?_)
        refine lv_goto (tgt := 19) hx hb dX10_findCheapest_61 (by decide) ?_
        exact ih _ _ _ _ _ _ _ h w (lv_sub hl [1, 2, 3, 0] rfl)
      · have h := fy_if_f h hc
        refine lv_aload_n hx hb dX10_findCheapest_34 rfl (lv_at hl 0 rfl) ?_
        refine lv_iload_n hx hb dX10_findCheapest_35 rfl (lv_at hl 1 rfl) ?_
        refine lv_iload_n hx hb dX10_findCheapest_36 rfl (lv_at hl 3 rfl) ?_
        obtain ⟨r37, h37, h⟩ := fy_bd_some h
        refine fy_calI w (fy_runV (As := [.int v1, .int v3]) (rest := []) C w (c_M_isAccepting l g  h37) M_o ksX10_249 rfl ⟨Nat.le_of_ble_eq_true rfl, Nat.le_of_ble_eq_true rfl⟩ rfl hl.1 rfl (Nat.le_of_ble_eq_true rfl) ⟨Nat.le_refl _, Nat.le_refl _⟩ dX10_findCheapest_37) (fun H locs w => ?_)
        refine lv_if_eq (tgt := 58) hx hb dX10_findCheapest_40 (by decide) (fun hc => ?_) (fun hc => ?_)
        · have h := fy_if_t h hc
          obtain ⟨x58, e58⟩ : ∃ z : Int32, z = v3 + (1 : Int32) := ⟨_, rfl⟩
          have h := fy_bl_some e58 h
          refine lv_iinc (k := 3) (v := x58) (lv' := [(3, .int x58), (0, .ref (g.2.2.1 0)), (1, .int v1), (2, .int v2)]) hx hb dX10_findCheapest_58 hl rfl (by rw [e58]; rfl) (by decide) rfl (fun ls hl => ?_)
          refine lv_goto (tgt := 19) hx hb dX10_findCheapest_61 (by decide) ?_
          exact ih _ _ _ _ _ _ _ h w (lv_sub hl [1, 2, 3, 0] rfl)
        · have h := fy_if_f h hc
          refine lv_iload_n hx hb dX10_findCheapest_43 rfl (lv_at hl 2 rfl) ?_
          refine lv_if_lt (tgt := 56) hx hb dX10_findCheapest_44 (by decide) (fun hc => ?_) (fun hc => ?_)
          · have h := fy_if_t h hc
            refine lv_iload_n hx hb dX10_findCheapest_56 rfl (lv_at hl 3 rfl) ?_
            refine lv_istore_n (lv' := [(2, .int v3), (0, .ref (g.2.2.1 0)), (1, .int v1), (3, .int v3)]) hx hb dX10_findCheapest_57 rfl hl (by decide) rfl (fun ls hl => ?_)
            obtain ⟨x58, e58⟩ : ∃ z : Int32, z = v3 + (1 : Int32) := ⟨_, rfl⟩
            have h := fy_bl_some e58 h
            refine lv_iinc (k := 3) (v := x58) (lv' := [(3, .int x58), (2, .int v3), (0, .ref (g.2.2.1 0)), (1, .int v1)]) hx hb dX10_findCheapest_58 hl rfl (by rw [e58]; rfl) (by decide) rfl (fun ls hl => ?_)
            refine lv_goto (tgt := 19) hx hb dX10_findCheapest_61 (by decide) ?_
            exact ih _ _ _ _ _ _ _ h w (lv_sub hl [2, 3, 1, 0] rfl)
          · have h := fy_if_f h hc
            refine lv_aload_n hx hb dX10_findCheapest_47 rfl (lv_at hl 0 rfl) ?_
            refine lv_iload_n hx hb dX10_findCheapest_48 rfl (lv_at hl 3 rfl) ?_
            refine lv_iload_n hx hb dX10_findCheapest_49 rfl (lv_at hl 2 rfl) ?_
            obtain ⟨r50, h50, h⟩ := fy_bd_some h
            refine fy_calI w (fy_runV (As := [.int v3, .int v2]) (rest := []) C w (c_M_isAhead l g  h50) M_o ksX10_295 rfl ⟨Nat.le_of_ble_eq_true rfl, Nat.le_of_ble_eq_true rfl⟩ rfl hl.1 rfl (Nat.le_of_ble_eq_true rfl) ⟨Nat.le_refl _, Nat.le_refl _⟩ dX10_findCheapest_50) (fun H locs w => ?_)
            refine lv_if_eq (tgt := 58) hx hb dX10_findCheapest_53 (by decide) (fun hc => ?_) (fun hc => ?_)
            · have h := fy_if_t h hc
              obtain ⟨x58, e58⟩ : ∃ z : Int32, z = v3 + (1 : Int32) := ⟨_, rfl⟩
              have h := fy_bl_some e58 h
              refine lv_iinc (k := 3) (v := x58) (lv' := [(3, .int x58), (0, .ref (g.2.2.1 0)), (1, .int v1), (2, .int v2)]) hx hb dX10_findCheapest_58 hl rfl (by rw [e58]; rfl) (by decide) rfl (fun ls hl => ?_)
              refine lv_goto (tgt := 19) hx hb dX10_findCheapest_61 (by decide) ?_
              exact ih _ _ _ _ _ _ _ h w (lv_sub hl [1, 2, 3, 0] rfl)
            · have h := fy_if_f h hc
              refine lv_iload_n hx hb dX10_findCheapest_56 rfl (lv_at hl 3 rfl) ?_
              refine lv_istore_n (lv' := [(2, .int v3), (0, .ref (g.2.2.1 0)), (1, .int v1), (3, .int v3)]) hx hb dX10_findCheapest_57 rfl hl (by decide) rfl (fun ls hl => ?_)
              obtain ⟨x58, e58⟩ : ∃ z : Int32, z = v3 + (1 : Int32) := ⟨_, rfl⟩
              have h := fy_bl_some e58 h
              refine lv_iinc (k := 3) (v := x58) (lv' := [(3, .int x58), (2, .int v3), (0, .ref (g.2.2.1 0)), (1, .int v1)]) hx hb dX10_findCheapest_58 hl rfl (by rw [e58]; rfl) (by decide) rfl (fun ls hl => ?_)
              refine lv_goto (tgt := 19) hx hb dX10_findCheapest_61 (by decide) ?_
              exact ih _ _ _ _ _ _ _ h w (lv_sub hl [2, 3, 1, 0] rfl)

set_option maxHeartbeats 4000000 in
set_option maxRecDepth 100000 in
theorem t_M_findCheapest {p : Program} {l : Launch} {e : Env} {s : State} {m : MethodId} {args : Array Value} {below : List Frame} {meth : Method} {c : Code} {g : fy_G} (C : fy_C g M_Y p s m args meth c yX10_findCheapest.cls cX10_findCheapest 5 (some .int)) {S : fy_S} {v1 : Int32} {Sr : fy_S} {rr : Int32}  {H : Heap} {locs : List Loc} {ls : Array Slot} (h : M_findCheapest S v1 = some (Sr, rr)) (w : fy_W g M_Y S s H locs) (hl : lv_has ls 5 [(0, .ref (g.2.2.1 0)), (1, .int v1)]) : W p l e (fy_rm 4) s m args below meth c H locs 0 0 (MQ below (fy_QI g M_Y rr Sr) args s 0 0 (fy_A g M_Y)) (F0 m 0 ls []) := by
  obtain ⟨hx, hb, hr, hts, hown, hlk, hml, hK, hD, hE, hN⟩ := id C
  rw [M_findCheapest] at h
  refine lv_iload_n hx hb dX10_findCheapest_0 rfl (lv_at hl 1 rfl) ?_
  obtain ⟨r1, h1, h⟩ := fy_bd_some h
  refine fy_calI w (fy_runS (As := [.int v1]) (rest := []) C w (c_M_isSlot l g  h1) ksX10_123 ⟨Nat.le_of_ble_eq_true rfl, Nat.le_of_ble_eq_true rfl⟩ rfl hl.1 rfl (Nat.le_of_ble_eq_true rfl) ⟨Nat.le_refl _, Nat.le_refl _⟩ dX10_findCheapest_1) (fun H locs w => ?_)
  refine lv_if_ne (tgt := 10) hx hb dX10_findCheapest_4 (by decide) (fun hc => ?_) (fun hc => ?_)
  · have h := fy_if_f h hc
    refine lv_aload_n hx hb dX10_findCheapest_10 rfl (lv_at hl 0 rfl) ?_
    refine lv_iload_n hx hb dX10_findCheapest_11 rfl (lv_at hl 1 rfl) ?_
    obtain ⟨S12, h12, h⟩ := fy_bd_some h
    refine fy_calV w (fy_runV (As := [.int v1]) (rest := []) C w (c_M_findBest l g  h12) M_o ksX10_292 rfl ⟨Nat.le_of_ble_eq_true rfl, Nat.le_of_ble_eq_true rfl⟩ rfl hl.1 rfl (Nat.le_of_ble_eq_true rfl) ⟨Nat.le_refl _, Nat.le_refl _⟩ dX10_findCheapest_12) (fun H locs w => ?_)
    refine lv_iconst (v := (-1 : Int32)) hx hb dX10_findCheapest_15 (by decide) ?_
    refine lv_istore_n (lv' := [(2, .int (-1 : Int32)), (0, .ref (g.2.2.1 0)), (1, .int v1)]) hx hb dX10_findCheapest_16 rfl hl (by decide) rfl (fun ls hl => ?_)
    refine lv_iconst (v := (0 : Int32)) hx hb dX10_findCheapest_17 (by decide) ?_
    refine lv_istore_n (lv' := [(3, .int (0 : Int32)), (2, .int (-1 : Int32)), (0, .ref (g.2.2.1 0)), (1, .int v1)]) hx hb dX10_findCheapest_18 rfl hl (by decide) rfl (fun ls hl => ?_)
    exact t_M_findCheapest_19 C fy_fu _ _ _ _ _ _ _ h w (lv_sub hl [2, 3, 1, 0] rfl)
  · have h := fy_if_t h hc
    refine lv_bipush (v := (-2 : Int32)) hx hb dX10_findCheapest_7 (by decide) ?_
    cases h
    exact fy_retI C w dX10_findCheapest_9

set_option maxHeartbeats 4000000 in
set_option maxRecDepth 100000 in
theorem c_M_findCheapest (l : Launch) (g : fy_G) {S : fy_S} {v1 : Int32} {Sr : fy_S} {rr : Int32}  (h : M_findCheapest S v1 = some (Sr, rr)) : fy_M g M_Y l yX10_findCheapest cX10_findCheapest 5 (some .int) (fy_rm 4) [.ref (g.2.2.1 0), .int v1] S (fy_QI g M_Y rr Sr) :=
  fy_entry (by decide +kernel) (Nat.le_of_ble_eq_true rfl) (fun p e s m args below meth c ls C w hl => t_M_findCheapest C  h w hl)
def M_notPaired (S : fy_S) (v1 : Int32) (v2 : Int32) : Option (Int32) :=
  fy_bd (M_isSlot S v1) fun r1 =>
  if r1 = 0 then (
    some (-2 : Int32))
  else (
    fy_bd (M_isSlot S v2) fun r8 =>
    if r8 = 0 then (
      some (-2 : Int32))
    else (
      fy_gd (fy_ix v1 7) <|
      fy_gd (fy_ix v2 7) <|
      if (S.1 2 v1.toNatClampNeg) = (S.1 2 v2.toNatClampNeg) then (
        some (0 : Int32))
      else (
        some (-4 : Int32))))
set_option maxHeartbeats 4000000 in
set_option maxRecDepth 100000 in
theorem t_M_notPaired {p : Program} {l : Launch} {e : Env} {s : State} {m : MethodId} {args : Array Value} {below : List Frame} {meth : Method} {c : Code} {g : fy_G} (C : fy_C g M_Y p s m args meth c yX10_notPaired.cls cX10_notPaired 3 (some .int)) {S : fy_S} {v1 : Int32} {v2 : Int32} {rr : Int32}  {H : Heap} {locs : List Loc} {ls : Array Slot} (h : M_notPaired S v1 v2 = some rr) (w : fy_W g M_Y S s H locs) (hl : lv_has ls 3 [(0, .ref (g.2.2.1 0)), (1, .int v1), (2, .int v2)]) : W p l e (fy_rm 1) s m args below meth c H locs 0 0 (MQ below (fy_QI g M_Y rr S) args s 0 0 (fy_A g M_Y)) (F0 m 0 ls []) := by
  obtain ⟨hx, hb, hr, hts, hown, hlk, hml, hK, hD, hE, hN⟩ := id C
  rw [M_notPaired] at h
  refine lv_iload_n hx hb dX10_notPaired_0 rfl (lv_at hl 1 rfl) ?_
  obtain ⟨r1, h1, h⟩ := fy_bd_some h
  refine fy_calI w (fy_runS (As := [.int v1]) (rest := []) C w (c_M_isSlot l g  h1) ksX10_123 ⟨Nat.le_of_ble_eq_true rfl, Nat.le_of_ble_eq_true rfl⟩ rfl hl.1 rfl (Nat.le_of_ble_eq_true rfl) ⟨Nat.le_refl _, Nat.le_refl _⟩ dX10_notPaired_1) (fun H locs w => ?_)
  refine lv_if_eq (tgt := 14) hx hb dX10_notPaired_4 (by decide) (fun hc => ?_) (fun hc => ?_)
  · have h := fy_if_t h hc
    refine lv_bipush (v := (-2 : Int32)) hx hb dX10_notPaired_14 (by decide) ?_
    refine lv_goto (tgt := 40) hx hb dX10_notPaired_16 (by decide) ?_
    cases h
    exact fy_retI C w dX10_notPaired_40
  · have h := fy_if_f h hc
    refine lv_iload_n hx hb dX10_notPaired_7 rfl (lv_at hl 2 rfl) ?_
    obtain ⟨r8, h8, h⟩ := fy_bd_some h
    refine fy_calI w (fy_runS (As := [.int v2]) (rest := []) C w (c_M_isSlot l g  h8) ksX10_123 ⟨Nat.le_of_ble_eq_true rfl, Nat.le_of_ble_eq_true rfl⟩ rfl hl.1 rfl (Nat.le_of_ble_eq_true rfl) ⟨Nat.le_refl _, Nat.le_refl _⟩ dX10_notPaired_8) (fun H locs w => ?_)
    refine lv_if_ne (tgt := 19) hx hb dX10_notPaired_11 (by decide) (fun hc => ?_) (fun hc => ?_)
    · have h := fy_if_f h hc
      refine lv_aload_n hx hb dX10_notPaired_19 rfl (lv_at hl 0 rfl) ?_
      refine gfX10_13 C w dX10_notPaired_20 ?_
      refine lv_iload_n hx hb dX10_notPaired_23 rfl (lv_at hl 1 rfl) ?_
      obtain ⟨g24, h⟩ := fy_gd_some h
      refine fy_iald C w M_a2 g24 dX10_notPaired_24 ?_
      refine lv_aload_n hx hb dX10_notPaired_25 rfl (lv_at hl 0 rfl) ?_
      refine gfX10_13 C w dX10_notPaired_26 ?_
      refine lv_iload_n hx hb dX10_notPaired_29 rfl (lv_at hl 2 rfl) ?_
      obtain ⟨g30, h⟩ := fy_gd_some h
      refine fy_iald C w M_a2 g30 dX10_notPaired_30 ?_
      refine lv_icmp_eq (tgt := 39) hx hb dX10_notPaired_31 (by decide) (fun hc => ?_) (fun hc => ?_)
      · have h := fy_if_t h hc
        refine lv_iconst (v := (0 : Int32)) hx hb dX10_notPaired_39 (by decide) ?_
        cases h
        exact fy_retI C w dX10_notPaired_40
      · have h := fy_if_f h hc
        refine lv_bipush (v := (-4 : Int32)) hx hb dX10_notPaired_34 (by decide) ?_
        refine lv_goto (tgt := 40) hx hb dX10_notPaired_36 (by decide) ?_
        cases h
        exact fy_retI C w dX10_notPaired_40
    · have h := fy_if_t h hc
      refine lv_bipush (v := (-2 : Int32)) hx hb dX10_notPaired_14 (by decide) ?_
      refine lv_goto (tgt := 40) hx hb dX10_notPaired_16 (by decide) ?_
      cases h
      exact fy_retI C w dX10_notPaired_40

set_option maxHeartbeats 4000000 in
set_option maxRecDepth 100000 in
theorem c_M_notPaired (l : Launch) (g : fy_G) {S : fy_S} {v1 : Int32} {v2 : Int32} {rr : Int32}  (h : M_notPaired S v1 v2 = some rr) : fy_M g M_Y l yX10_notPaired cX10_notPaired 3 (some .int) (fy_rm 1) [.ref (g.2.2.1 0), .int v1, .int v2] S (fy_QI g M_Y rr S) :=
  fy_entry (by decide +kernel) (Nat.le_of_ble_eq_true rfl) (fun p e s m args below meth c ls C w hl => t_M_notPaired C  h w hl)
def M_findPair_164 (k65 : fy_S → Int32 → Int32 → Int32 → Int32 → Int32 → Option (fy_S × Int32)) (k149 : fy_S → Int32 → Int32 → Int32 → Int32 → Int32 → Int32 → Int32 → Option (fy_S × Int32)) : Nat → fy_S → Int32 → Int32 → Int32 → Int32 → Int32 → Int32 → Int32 → Int32 → Option (fy_S × Int32)
  | 0, _, _, _, _, _, _, _, _, _ => none
  | fu + 1, S, v1, v2, v3, v4, v5, v6, v7, v8 =>
    if v5 ≤ v8 then (
      fy_bl (v7 + (1 : Int32)) fun x261 =>
      k149 S v1 v2 v3 v4 v5 v6 x261)
    else (
      fy_gd (fy_ix v8 4096) <|
      fy_bd (M_stepOf S v1 v7 ((S.1 25 v8.toNatClampNeg) / (64 : Int32))) fun r187 =>
      fy_gd (fy_ix v8 4096) <|
      fy_bd (M_stepOf S v2 v7 ((S.1 25 v8.toNatClampNeg) - (S.1 25 v8.toNatClampNeg) / (64 : Int32) * (64 : Int32))) fun r205 =>
      fy_bl (((64 : Int32) * r187) + r205) fun x209 =>
      fy_gd (fy_ix x209 4096) <|
      if (S.1 26 x209.toNatClampNeg) < 0 then (
        fy_gd (fy_ix v8 4096) <|
        fy_gd (fy_ix x209 4096) <|
        fy_bl (fy_sI S 26 x209.toNatClampNeg (((4 : Int32) * (S.1 25 v8.toNatClampNeg)) + v7)) fun S242 =>
        fy_gd (fy_ix v6 4096) <|
        fy_bl (fy_sI S242 25 v6.toNatClampNeg x209) fun S251 =>
        fy_bl (v6 + (1 : Int32)) fun x252 =>
        fy_bl (v8 + (1 : Int32)) fun x255 =>
        M_findPair_164 k65 k149 fu S251 v1 v2 v3 v4 v5 x252 v7 x255)
      else (
        fy_bl (v8 + (1 : Int32)) fun x255 =>
        M_findPair_164 k65 k149 fu S v1 v2 v3 v4 v5 v6 v7 x255))
def M_findPair_149 (k65 : fy_S → Int32 → Int32 → Int32 → Int32 → Int32 → Option (fy_S × Int32)) : Nat → fy_S → Int32 → Int32 → Int32 → Int32 → Int32 → Int32 → Int32 → Option (fy_S × Int32)
  | 0, _, _, _, _, _, _, _, _ => none
  | fu + 1, S, v1, v2, v3, v4, v5, v6, v7 =>
    fy_gd (fy_ix v1 7) <|
    if (S.1 2 v1.toNatClampNeg) ≤ v7 then (
      k65 S v1 v2 v3 v5 v6)
    else (
      M_findPair_164 k65 (fun S v1 v2 v3 v4 v5 v6 v7 => M_findPair_149 k65 fu S v1 v2 v3 v4 v5 v6 v7) fy_fu S v1 v2 v3 v4 v5 v6 v7 v4)
def M_findPair_76 (k65 : fy_S → Int32 → Int32 → Int32 → Int32 → Int32 → Option (fy_S × Int32)) : Nat → fy_S → Int32 → Int32 → Int32 → Int32 → Int32 → Int32 → Option (fy_S × Int32)
  | 0, _, _, _, _, _, _, _ => none
  | fu + 1, S, v1, v2, v3, v4, v5, v6 =>
    if v5 ≤ v6 then (
      M_findPair_149 k65 fy_fu S v1 v2 v3 v4 v5 v5 (0 : Int32))
    else (
      fy_gd (fy_ix v6 4096) <|
      fy_bd (M_isAccepting S v1 ((S.1 25 v6.toNatClampNeg) / (64 : Int32))) fun r95 =>
      fy_gd (fy_ix v6 4096) <|
      fy_bd (M_isAccepting S v2 ((S.1 25 v6.toNatClampNeg) - (S.1 25 v6.toNatClampNeg) / (64 : Int32) * (64 : Int32))) fun r112 =>
      if r95 = r112 then (
        fy_bl (v6 + (1 : Int32)) fun x136 =>
        M_findPair_76 k65 fu S v1 v2 v3 v4 v5 x136)
      else (
        if r95 = 0 then (
          if v3 = 0 then (
            some (S, v6))
          else (
            fy_bl (v6 + (1 : Int32)) fun x136 =>
            M_findPair_76 k65 fu S v1 v2 v3 v4 v5 x136))
        else (
          some (S, v6))))
def M_findPair_65 : Nat → fy_S → Int32 → Int32 → Int32 → Int32 → Int32 → Option (fy_S × Int32)
  | 0, _, _, _, _, _, _ => none
  | fu + 1, S, v1, v2, v3, v4, v5 =>
    if v5 ≤ v4 then (
      some (S, (-1 : Int32)))
    else (
      M_findPair_76 (fun S v1 v2 v3 v4 v5 => M_findPair_65 fu S v1 v2 v3 v4 v5) fy_fu S v1 v2 v3 v4 v5 v4)
def M_findPair_3 : Nat → fy_S → Int32 → Int32 → Int32 → Int32 → Option (fy_S × Int32)
  | 0, _, _, _, _, _ => none
  | fu + 1, S, v1, v2, v3, v4 =>
    if (4096 : Int32) ≤ v4 then (
      fy_gd (fy_ix v1 7) <|
      fy_gd (fy_ix v2 7) <|
      fy_gd (fy_ix (0 : Int32) 4096) <|
      fy_bl (fy_sI S 25 (0 : Int32).toNatClampNeg (((64 : Int32) * (S.1 3 v1.toNatClampNeg)) + (S.1 3 v2.toNatClampNeg))) fun S46 =>
      fy_gd (fy_ix (0 : Int32) 4096) <|
      fy_gd (fy_ix (S46.1 25 (0 : Int32).toNatClampNeg) 4096) <|
      fy_bl (fy_sI S46 26 (S46.1 25 (0 : Int32).toNatClampNeg).toNatClampNeg (0 : Int32)) fun S58 =>
      M_findPair_65 fy_fu S58 v1 v2 v3 (0 : Int32) (1 : Int32))
    else (
      fy_gd (fy_ix v4 4096) <|
      fy_bl (fy_sI S 26 v4.toNatClampNeg (-1 : Int32)) fun S18 =>
      fy_bl (v4 + (1 : Int32)) fun x19 =>
      M_findPair_3 fu S18 v1 v2 v3 x19)
def M_findPair (S : fy_S) (v1 : Int32) (v2 : Int32) (v3 : Int32) : Option (fy_S × Int32) :=
  M_findPair_3 fy_fu S v1 v2 v3 (0 : Int32)
set_option maxHeartbeats 4000000 in
set_option maxRecDepth 100000 in
theorem t_M_findPair_164 {p : Program} {l : Launch} {e : Env} {s : State} {m : MethodId} {args : Array Value} {below : List Frame} {meth : Method} {c : Code} {g : fy_G} (C : fy_C g M_Y p s m args meth c yX10_findPair.cls cX10_findPair 10 (some .int)) {Sr : fy_S} {rr : Int32} {k65 : fy_S → Int32 → Int32 → Int32 → Int32 → Int32 → Option (fy_S × Int32)} {k149 : fy_S → Int32 → Int32 → Int32 → Int32 → Int32 → Int32 → Int32 → Option (fy_S × Int32)} (hk65 : ∀ (S : fy_S) (v1 : Int32) (v2 : Int32) (v3 : Int32) (v4 : Int32) (v5 : Int32) (H : Heap) (locs : List Loc) (ls : Array Slot), k65 S v1 v2 v3 v4 v5 = some (Sr, rr) → fy_W g M_Y S s H locs → lv_has ls 10 [(0, .ref (g.2.2.1 0)), (1, .int v1), (2, .int v2), (3, .int v3), (4, .int v4), (5, .int v5)] → W p l e (fy_rm 3) s m args below meth c H locs 0 0 (MQ below (fy_QI g M_Y rr Sr) args s 0 0 (fy_A g M_Y)) (F0 m 65 ls [])) (hk149 : ∀ (S : fy_S) (v1 : Int32) (v2 : Int32) (v3 : Int32) (v4 : Int32) (v5 : Int32) (v6 : Int32) (v7 : Int32) (H : Heap) (locs : List Loc) (ls : Array Slot), k149 S v1 v2 v3 v4 v5 v6 v7 = some (Sr, rr) → fy_W g M_Y S s H locs → lv_has ls 10 [(0, .ref (g.2.2.1 0)), (1, .int v1), (2, .int v2), (3, .int v3), (4, .int v4), (5, .int v5), (6, .int v6), (7, .int v7)] → W p l e (fy_rm 3) s m args below meth c H locs 0 0 (MQ below (fy_QI g M_Y rr Sr) args s 0 0 (fy_A g M_Y)) (F0 m 149 ls [])) : ∀ (fu : Nat) (S : fy_S) (v1 : Int32) (v2 : Int32) (v3 : Int32) (v4 : Int32) (v5 : Int32) (v6 : Int32) (v7 : Int32) (v8 : Int32) (H : Heap) (locs : List Loc) (ls : Array Slot), M_findPair_164 k65 k149 fu S v1 v2 v3 v4 v5 v6 v7 v8 = some (Sr, rr) → fy_W g M_Y S s H locs → lv_has ls 10 [(0, .ref (g.2.2.1 0)), (1, .int v1), (2, .int v2), (3, .int v3), (4, .int v4), (5, .int v5), (6, .int v6), (7, .int v7), (8, .int v8)] → W p l e (fy_rm 3) s m args below meth c H locs 0 0 (MQ below (fy_QI g M_Y rr Sr) args s 0 0 (fy_A g M_Y)) (F0 m 164 ls []) := by
  obtain ⟨hx, hb, hr, hts, hown, hlk, hml, hK, hD, hE, hN⟩ := id C
  intro fu
  induction fu with
  | zero => intro S v1 v2 v3 v4 v5 v6 v7 v8 H locs ls h; cases h
  | succ fu ih =>
    intro S v1 v2 v3 v4 v5 v6 v7 v8 H locs ls h w  hl
    rw [M_findPair_164] at h
    refine lv_iload hx hb dX10_findPair_164 (lv_at hl 8 rfl) ?_
    refine lv_iload hx hb dX10_findPair_166 (lv_at hl 5 rfl) ?_
    refine lv_icmp_ge (tgt := 261) hx hb dX10_findPair_168 (by decide) (fun hc => ?_) (fun hc => ?_)
    · have h := fy_if_t h hc
      obtain ⟨x261, e261⟩ : ∃ z : Int32, z = v7 + (1 : Int32) := ⟨_, rfl⟩
      have h := fy_bl_some e261 h
      refine lv_iinc (k := 7) (v := x261) (lv' := [(7, .int x261), (0, .ref (g.2.2.1 0)), (1, .int v1), (2, .int v2), (3, .int v3), (4, .int v4), (5, .int v5), (6, .int v6), (8, .int v8)]) hx hb dX10_findPair_261 hl rfl (by rw [e261]; rfl) (by decide) rfl (fun ls hl => ?_)
      refine lv_goto (tgt := 149) hx hb dX10_findPair_264 (by decide) ?_
      exact hk149 _ _ _ _ _ _ _ _ _ _ _ h w (lv_sub hl [1, 2, 3, 4, 5, 6, 7, 0] rfl)
    · have h := fy_if_f h hc
      refine lv_bipush (v := (64 : Int32)) hx hb dX10_findPair_171 (by decide) ?_
      refine lv_aload_n hx hb dX10_findPair_173 rfl (lv_at hl 0 rfl) ?_
      refine lv_iload_n hx hb dX10_findPair_174 rfl (lv_at hl 1 rfl) ?_
      refine lv_iload hx hb dX10_findPair_175 (lv_at hl 7 rfl) ?_
      refine lv_aload_n hx hb dX10_findPair_177 rfl (lv_at hl 0 rfl) ?_
      refine gfX10_82 C w dX10_findPair_178 ?_
      refine lv_iload hx hb dX10_findPair_181 (lv_at hl 8 rfl) ?_
      obtain ⟨g183, h⟩ := fy_gd_some h
      refine fy_iald C w M_a25 g183 dX10_findPair_183 ?_
      refine lv_bipush (v := (64 : Int32)) hx hb dX10_findPair_184 (by decide) ?_
      refine lv_idiv hx hb dX10_findPair_186 (by decide) ?_
      obtain ⟨r187, h187, h⟩ := fy_bd_some h
      refine fy_calI w (fy_runV (As := [.int v1, .int v7, .int ((S.1 25 v8.toNatClampNeg) / (64 : Int32))]) (rest := [.int (64 : Int32)]) C w (c_M_stepOf l g  h187) M_o ksX10_240 rfl ⟨Nat.le_of_ble_eq_true rfl, Nat.le_of_ble_eq_true rfl⟩ rfl hl.1 rfl (Nat.le_of_ble_eq_true rfl) ⟨Nat.le_refl _, Nat.le_refl _⟩ dX10_findPair_187) (fun H locs w => ?_)
      refine lv_imul hx hb dX10_findPair_190 ?_
      refine lv_aload_n hx hb dX10_findPair_191 rfl (lv_at hl 0 rfl) ?_
      refine lv_iload_n hx hb dX10_findPair_192 rfl (lv_at hl 2 rfl) ?_
      refine lv_iload hx hb dX10_findPair_193 (lv_at hl 7 rfl) ?_
      refine lv_aload_n hx hb dX10_findPair_195 rfl (lv_at hl 0 rfl) ?_
      refine gfX10_82 C w dX10_findPair_196 ?_
      refine lv_iload hx hb dX10_findPair_199 (lv_at hl 8 rfl) ?_
      obtain ⟨g201, h⟩ := fy_gd_some h
      refine fy_iald C w M_a25 g201 dX10_findPair_201 ?_
      refine lv_bipush (v := (64 : Int32)) hx hb dX10_findPair_202 (by decide) ?_
      refine lv_irem hx hb dX10_findPair_204 (by decide) ?_
      obtain ⟨r205, h205, h⟩ := fy_bd_some h
      refine fy_calI w (fy_runV (As := [.int v2, .int v7, .int ((S.1 25 v8.toNatClampNeg) - (S.1 25 v8.toNatClampNeg) / (64 : Int32) * (64 : Int32))]) (rest := [.int ((64 : Int32) * r187)]) C w (c_M_stepOf l g  h205) M_o ksX10_240 rfl ⟨Nat.le_of_ble_eq_true rfl, Nat.le_of_ble_eq_true rfl⟩ rfl hl.1 rfl (Nat.le_of_ble_eq_true rfl) ⟨Nat.le_refl _, Nat.le_refl _⟩ dX10_findPair_205) (fun H locs w => ?_)
      refine lv_iadd hx hb dX10_findPair_208 ?_
      refine lv_topi (fun x209 e209 => ?_)
      have h := fy_bl_some e209 h
      refine lv_istore (lv' := [(9, .int x209), (0, .ref (g.2.2.1 0)), (1, .int v1), (2, .int v2), (3, .int v3), (4, .int v4), (5, .int v5), (6, .int v6), (7, .int v7), (8, .int v8)]) hx hb dX10_findPair_209 hl (by decide) rfl (fun ls hl => ?_)
      refine lv_aload_n hx hb dX10_findPair_211 rfl (lv_at hl 1 rfl) ?_
      refine gfX10_85 C w dX10_findPair_212 ?_
      refine lv_iload hx hb dX10_findPair_215 (lv_at hl 0 rfl) ?_
      obtain ⟨g217, h⟩ := fy_gd_some h
      refine fy_iald C w M_a26 g217 dX10_findPair_217 ?_
      refine lv_if_lt (tgt := 224) hx hb dX10_findPair_218 (by decide) (fun hc => ?_) (fun hc => ?_)
      · have h := fy_if_t h hc
        refine lv_aload_n hx hb dX10_findPair_224 rfl (lv_at hl 1 rfl) ?_
        refine gfX10_85 C w dX10_findPair_225 ?_
        refine lv_iload hx hb dX10_findPair_228 (lv_at hl 0 rfl) ?_
        refine lv_iconst (v := (4 : Int32)) hx hb dX10_findPair_230 (by decide) ?_
        refine lv_aload_n hx hb dX10_findPair_231 rfl (lv_at hl 1 rfl) ?_
        refine gfX10_82 C w dX10_findPair_232 ?_
        refine lv_iload hx hb dX10_findPair_235 (lv_at hl 9 rfl) ?_
        obtain ⟨g237, h⟩ := fy_gd_some h
        refine fy_iald C w M_a25 g237 dX10_findPair_237 ?_
        refine lv_imul hx hb dX10_findPair_238 ?_
        refine lv_iload hx hb dX10_findPair_239 (lv_at hl 8 rfl) ?_
        refine lv_iadd hx hb dX10_findPair_241 ?_
        obtain ⟨g242, h⟩ := fy_gd_some h
        refine fy_iast C w M_a26 g242 dX10_findPair_242 (fun H locs w => ?_)
        obtain ⟨S242, e242⟩ : ∃ z, z = fy_sI S 26 x209.toNatClampNeg (((4 : Int32) * (S.1 25 v8.toNatClampNeg)) + v7) := ⟨_, rfl⟩
        have h := fy_bl_some e242 h
        rw [← e242] at w
        refine lv_aload_n hx hb dX10_findPair_243 rfl (lv_at hl 1 rfl) ?_
        refine gfX10_82 C w dX10_findPair_244 ?_
        refine lv_iload hx hb dX10_findPair_247 (lv_at hl 7 rfl) ?_
        refine lv_iload hx hb dX10_findPair_249 (lv_at hl 0 rfl) ?_
        obtain ⟨g251, h⟩ := fy_gd_some h
        refine fy_iast C w M_a25 g251 dX10_findPair_251 (fun H locs w => ?_)
        obtain ⟨S251, e251⟩ : ∃ z, z = fy_sI S242 25 v6.toNatClampNeg x209 := ⟨_, rfl⟩
        have h := fy_bl_some e251 h
        rw [← e251] at w
        obtain ⟨x252, e252⟩ : ∃ z : Int32, z = v6 + (1 : Int32) := ⟨_, rfl⟩
        have h := fy_bl_some e252 h
        refine lv_iinc (k := 7) (v := x252) (lv' := [(6, .int x252), (9, .int x209), (0, .ref (g.2.2.1 0)), (1, .int v1), (2, .int v2), (3, .int v3), (4, .int v4), (5, .int v5), (7, .int v7), (8, .int v8)]) hx hb dX10_findPair_252 hl rfl (by rw [e252]; rfl) (by decide) rfl (fun ls hl => ?_)
        obtain ⟨x255, e255⟩ : ∃ z : Int32, z = v8 + (1 : Int32) := ⟨_, rfl⟩
        have h := fy_bl_some e255 h
        refine lv_iinc (k := 9) (v := x255) (lv' := [(8, .int x255), (6, .int x252), (9, .int x209), (0, .ref (g.2.2.1 0)), (1, .int v1), (2, .int v2), (3, .int v3), (4, .int v4), (5, .int v5), (7, .int v7)]) hx hb dX10_findPair_255 hl rfl (by rw [e255]; rfl) (by decide) rfl (fun ls hl => ?_)
        refine lv_goto (tgt := 164) hx hb dX10_findPair_258 (by decide) ?_
        exact ih _ _ _ _ _ _ _ _ _ _ _ _ h w (lv_sub hl [3, 4, 5, 6, 7, 8, 1, 9, 0] rfl)
      · have h := fy_if_f h hc
        refine lv_goto (tgt := 255) hx hb dX10_findPair_221 (by decide) ?_
        obtain ⟨x255, e255⟩ : ∃ z : Int32, z = v8 + (1 : Int32) := ⟨_, rfl⟩
        have h := fy_bl_some e255 h
        refine lv_iinc (k := 9) (v := x255) (lv' := [(8, .int x255), (9, .int x209), (0, .ref (g.2.2.1 0)), (1, .int v1), (2, .int v2), (3, .int v3), (4, .int v4), (5, .int v5), (6, .int v6), (7, .int v7)]) hx hb dX10_findPair_255 hl rfl (by rw [e255]; rfl) (by decide) rfl (fun ls hl => ?_)
        refine lv_goto (tgt := 164) hx hb dX10_findPair_258 (by decide) ?_
        exact ih _ _ _ _ _ _ _ _ _ _ _ _ h w (lv_sub hl [2, 3, 4, 5, 6, 7, 8, 9, 0] rfl)

set_option maxHeartbeats 4000000 in
set_option maxRecDepth 100000 in
theorem t_M_findPair_149 {p : Program} {l : Launch} {e : Env} {s : State} {m : MethodId} {args : Array Value} {below : List Frame} {meth : Method} {c : Code} {g : fy_G} (C : fy_C g M_Y p s m args meth c yX10_findPair.cls cX10_findPair 10 (some .int)) {Sr : fy_S} {rr : Int32} {k65 : fy_S → Int32 → Int32 → Int32 → Int32 → Int32 → Option (fy_S × Int32)} (hk65 : ∀ (S : fy_S) (v1 : Int32) (v2 : Int32) (v3 : Int32) (v4 : Int32) (v5 : Int32) (H : Heap) (locs : List Loc) (ls : Array Slot), k65 S v1 v2 v3 v4 v5 = some (Sr, rr) → fy_W g M_Y S s H locs → lv_has ls 10 [(0, .ref (g.2.2.1 0)), (1, .int v1), (2, .int v2), (3, .int v3), (4, .int v4), (5, .int v5)] → W p l e (fy_rm 3) s m args below meth c H locs 0 0 (MQ below (fy_QI g M_Y rr Sr) args s 0 0 (fy_A g M_Y)) (F0 m 65 ls [])) : ∀ (fu : Nat) (S : fy_S) (v1 : Int32) (v2 : Int32) (v3 : Int32) (v4 : Int32) (v5 : Int32) (v6 : Int32) (v7 : Int32) (H : Heap) (locs : List Loc) (ls : Array Slot), M_findPair_149 k65 fu S v1 v2 v3 v4 v5 v6 v7 = some (Sr, rr) → fy_W g M_Y S s H locs → lv_has ls 10 [(0, .ref (g.2.2.1 0)), (1, .int v1), (2, .int v2), (3, .int v3), (4, .int v4), (5, .int v5), (6, .int v6), (7, .int v7)] → W p l e (fy_rm 3) s m args below meth c H locs 0 0 (MQ below (fy_QI g M_Y rr Sr) args s 0 0 (fy_A g M_Y)) (F0 m 149 ls []) := by
  obtain ⟨hx, hb, hr, hts, hown, hlk, hml, hK, hD, hE, hN⟩ := id C
  intro fu
  induction fu with
  | zero => intro S v1 v2 v3 v4 v5 v6 v7 H locs ls h; cases h
  | succ fu ih =>
    intro S v1 v2 v3 v4 v5 v6 v7 H locs ls h w  hl
    rw [M_findPair_149] at h
    refine lv_iload hx hb dX10_findPair_149 (lv_at hl 7 rfl) ?_
    refine lv_aload_n hx hb dX10_findPair_151 rfl (lv_at hl 0 rfl) ?_
    refine gfX10_13 C w dX10_findPair_152 ?_
    refine lv_iload_n hx hb dX10_findPair_155 rfl (lv_at hl 1 rfl) ?_
    obtain ⟨g156, h⟩ := fy_gd_some h
    refine fy_iald C w M_a2 g156 dX10_findPair_156 ?_
    refine lv_icmp_ge (tgt := 267) hx hb dX10_findPair_157 (by decide) (fun hc => ?_) (fun hc => ?_)
    · have h := fy_if_t h hc
      refine lv_iload hx hb dX10_findPair_267 (lv_at hl 5 rfl) ?_
      refine lv_istore (lv' := [(4, .int v5), (0, .ref (g.2.2.1 0)), (1, .int v1), (2, .int v2), (3, .int v3), (5, .int v5), (6, .int v6), (7, .int v7)]) hx hb dX10_findPair_269 hl (by decide) rfl (fun ls hl => ?_)
      refine lv_iload hx hb dX10_findPair_271 (lv_at hl 6 rfl) ?_
      refine lv_istore (lv' := [(5, .int v6), (4, .int v5), (0, .ref (g.2.2.1 0)), (1, .int v1), (2, .int v2), (3, .int v3), (6, .int v6), (7, .int v7)]) hx hb dX10_findPair_273 hl (by decide) rfl (fun ls hl => ?_)
      refine lv_goto (tgt := 65) hx hb dX10_findPair_275 (by decide) ?_
      exact hk65 _ _ _ _ _ _ _ _ _ h w (lv_sub hl [2, 3, 4, 5, 1, 0] rfl)
    · have h := fy_if_f h hc
      refine lv_iload hx hb dX10_findPair_160 (lv_at hl 4 rfl) ?_
      refine lv_istore (lv' := [(8, .int v4), (0, .ref (g.2.2.1 0)), (1, .int v1), (2, .int v2), (3, .int v3), (4, .int v4), (5, .int v5), (6, .int v6), (7, .int v7)]) hx hb dX10_findPair_162 hl (by decide) rfl (fun ls hl => ?_)
      exact t_M_findPair_164 C hk65 ih fy_fu _ _ _ _ _ _ _ _ _ _ _ _ h w (lv_sub hl [1, 2, 3, 4, 5, 6, 7, 8, 0] rfl)

set_option maxHeartbeats 4000000 in
set_option maxRecDepth 100000 in
theorem t_M_findPair_76 {p : Program} {l : Launch} {e : Env} {s : State} {m : MethodId} {args : Array Value} {below : List Frame} {meth : Method} {c : Code} {g : fy_G} (C : fy_C g M_Y p s m args meth c yX10_findPair.cls cX10_findPair 10 (some .int)) {Sr : fy_S} {rr : Int32} {k65 : fy_S → Int32 → Int32 → Int32 → Int32 → Int32 → Option (fy_S × Int32)} (hk65 : ∀ (S : fy_S) (v1 : Int32) (v2 : Int32) (v3 : Int32) (v4 : Int32) (v5 : Int32) (H : Heap) (locs : List Loc) (ls : Array Slot), k65 S v1 v2 v3 v4 v5 = some (Sr, rr) → fy_W g M_Y S s H locs → lv_has ls 10 [(0, .ref (g.2.2.1 0)), (1, .int v1), (2, .int v2), (3, .int v3), (4, .int v4), (5, .int v5)] → W p l e (fy_rm 3) s m args below meth c H locs 0 0 (MQ below (fy_QI g M_Y rr Sr) args s 0 0 (fy_A g M_Y)) (F0 m 65 ls [])) : ∀ (fu : Nat) (S : fy_S) (v1 : Int32) (v2 : Int32) (v3 : Int32) (v4 : Int32) (v5 : Int32) (v6 : Int32) (H : Heap) (locs : List Loc) (ls : Array Slot), M_findPair_76 k65 fu S v1 v2 v3 v4 v5 v6 = some (Sr, rr) → fy_W g M_Y S s H locs → lv_has ls 10 [(0, .ref (g.2.2.1 0)), (1, .int v1), (2, .int v2), (3, .int v3), (4, .int v4), (5, .int v5), (6, .int v6)] → W p l e (fy_rm 3) s m args below meth c H locs 0 0 (MQ below (fy_QI g M_Y rr Sr) args s 0 0 (fy_A g M_Y)) (F0 m 76 ls []) := by
  obtain ⟨hx, hb, hr, hts, hown, hlk, hml, hK, hD, hE, hN⟩ := id C
  intro fu
  induction fu with
  | zero => intro S v1 v2 v3 v4 v5 v6 H locs ls h; cases h
  | succ fu ih =>
    intro S v1 v2 v3 v4 v5 v6 H locs ls h w  hl
    rw [M_findPair_76] at h
    refine lv_iload hx hb dX10_findPair_76 (lv_at hl 6 rfl) ?_
    refine lv_iload hx hb dX10_findPair_78 (lv_at hl 5 rfl) ?_
    refine lv_icmp_ge (tgt := 142) hx hb dX10_findPair_80 (by decide) (fun hc => ?_) (fun hc => ?_)
    · have h := fy_if_t h hc
      refine lv_iload hx hb dX10_findPair_142 (lv_at hl 5 rfl) ?_
      refine lv_istore (lv' := [(6, .int v5), (0, .ref (g.2.2.1 0)), (1, .int v1), (2, .int v2), (3, .int v3), (4, .int v4), (5, .int v5)]) hx hb dX10_findPair_144 hl (by decide) rfl (fun ls hl => ?_)
      refine lv_iconst (v := (0 : Int32)) hx hb dX10_findPair_146 (by decide) ?_
      refine lv_istore (lv' := [(7, .int (0 : Int32)), (6, .int v5), (0, .ref (g.2.2.1 0)), (1, .int v1), (2, .int v2), (3, .int v3), (4, .int v4), (5, .int v5)]) hx hb dX10_findPair_147 hl (by decide) rfl (fun ls hl => ?_)
      exact t_M_findPair_149 C hk65 fy_fu _ _ _ _ _ _ _ _ _ _ _ h w (lv_sub hl [2, 3, 4, 5, 6, 7, 1, 0] rfl)
    · have h := fy_if_f h hc
      refine lv_aload_n hx hb dX10_findPair_83 rfl (lv_at hl 0 rfl) ?_
      refine lv_iload_n hx hb dX10_findPair_84 rfl (lv_at hl 1 rfl) ?_
      refine lv_aload_n hx hb dX10_findPair_85 rfl (lv_at hl 0 rfl) ?_
      refine gfX10_82 C w dX10_findPair_86 ?_
      refine lv_iload hx hb dX10_findPair_89 (lv_at hl 6 rfl) ?_
      obtain ⟨g91, h⟩ := fy_gd_some h
      refine fy_iald C w M_a25 g91 dX10_findPair_91 ?_
      refine lv_bipush (v := (64 : Int32)) hx hb dX10_findPair_92 (by decide) ?_
      refine lv_idiv hx hb dX10_findPair_94 (by decide) ?_
      obtain ⟨r95, h95, h⟩ := fy_bd_some h
      refine fy_calI w (fy_runV (As := [.int v1, .int ((S.1 25 v6.toNatClampNeg) / (64 : Int32))]) (rest := []) C w (c_M_isAccepting l g  h95) M_o ksX10_249 rfl ⟨Nat.le_of_ble_eq_true rfl, Nat.le_of_ble_eq_true rfl⟩ rfl hl.1 rfl (Nat.le_of_ble_eq_true rfl) ⟨Nat.le_refl _, Nat.le_refl _⟩ dX10_findPair_95) (fun H locs w => ?_)
      refine lv_istore (lv' := [(7, .int r95), (0, .ref (g.2.2.1 0)), (1, .int v1), (2, .int v2), (3, .int v3), (4, .int v4), (5, .int v5), (6, .int v6)]) hx hb dX10_findPair_98 hl (by decide) rfl (fun ls hl => ?_)
      refine lv_aload_n hx hb dX10_findPair_100 rfl (lv_at hl 1 rfl) ?_
      refine lv_iload_n hx hb dX10_findPair_101 rfl (lv_at hl 3 rfl) ?_
      refine lv_aload_n hx hb dX10_findPair_102 rfl (lv_at hl 1 rfl) ?_
      refine gfX10_82 C w dX10_findPair_103 ?_
      refine lv_iload hx hb dX10_findPair_106 (lv_at hl 7 rfl) ?_
      obtain ⟨g108, h⟩ := fy_gd_some h
      refine fy_iald C w M_a25 g108 dX10_findPair_108 ?_
      refine lv_bipush (v := (64 : Int32)) hx hb dX10_findPair_109 (by decide) ?_
      refine lv_irem hx hb dX10_findPair_111 (by decide) ?_
      obtain ⟨r112, h112, h⟩ := fy_bd_some h
      refine fy_calI w (fy_runV (As := [.int v2, .int ((S.1 25 v6.toNatClampNeg) - (S.1 25 v6.toNatClampNeg) / (64 : Int32) * (64 : Int32))]) (rest := []) C w (c_M_isAccepting l g  h112) M_o ksX10_249 rfl ⟨Nat.le_of_ble_eq_true rfl, Nat.le_of_ble_eq_true rfl⟩ rfl hl.1 rfl (Nat.le_of_ble_eq_true rfl) ⟨Nat.le_refl _, Nat.le_refl _⟩ dX10_findPair_112) (fun H locs w => ?_)
      refine lv_istore (lv' := [(8, .int r112), (7, .int r95), (0, .ref (g.2.2.1 0)), (1, .int v1), (2, .int v2), (3, .int v3), (4, .int v4), (5, .int v5), (6, .int v6)]) hx hb dX10_findPair_115 hl (by decide) rfl (fun ls hl => ?_)
      refine lv_iload hx hb dX10_findPair_117 (lv_at hl 1 rfl) ?_
      refine lv_iload hx hb dX10_findPair_119 (lv_at hl 0 rfl) ?_
      refine lv_icmp_eq (tgt := 136) hx hb dX10_findPair_121 (by decide) (fun hc => ?_) (fun hc => ?_)
      · have h := fy_if_t h hc
        obtain ⟨x136, e136⟩ : ∃ z : Int32, z = v6 + (1 : Int32) := ⟨_, rfl⟩
        have h := fy_bl_some e136 h
        refine lv_iinc (k := 8) (v := x136) (lv' := [(6, .int x136), (8, .int r112), (7, .int r95), (0, .ref (g.2.2.1 0)), (1, .int v1), (2, .int v2), (3, .int v3), (4, .int v4), (5, .int v5)]) hx hb dX10_findPair_136 hl rfl (by rw [e136]; rfl) (by decide) rfl (fun ls hl => ?_)
        refine lv_goto (tgt := 76) hx hb dX10_findPair_139 (by decide) ?_
        exact ih _ _ _ _ _ _ _ _ _ _ h w (lv_sub hl [3, 4, 5, 6, 7, 8, 0] rfl)
      · have h := fy_if_f h hc
        refine lv_iload hx hb dX10_findPair_124 (lv_at hl 1 rfl) ?_
        refine lv_if_ne (tgt := 133) hx hb dX10_findPair_126 (by decide) (fun hc => ?_) (fun hc => ?_)
        · have h := fy_if_f h hc
          refine lv_iload hx hb dX10_findPair_133 (lv_at hl 8 rfl) ?_
          cases h
          exact fy_retI C w dX10_findPair_135
        · have h := fy_if_t h hc
          refine lv_iload_n hx hb dX10_findPair_129 rfl (lv_at hl 5 rfl) ?_
          refine lv_if_ne (tgt := 136) hx hb dX10_findPair_130 (by decide) (fun hc => ?_) (fun hc => ?_)
          · have h := fy_if_f h hc
            obtain ⟨x136, e136⟩ : ∃ z : Int32, z = v6 + (1 : Int32) := ⟨_, rfl⟩
            have h := fy_bl_some e136 h
            refine lv_iinc (k := 8) (v := x136) (lv' := [(6, .int x136), (8, .int r112), (7, .int r95), (0, .ref (g.2.2.1 0)), (1, .int v1), (2, .int v2), (3, .int v3), (4, .int v4), (5, .int v5)]) hx hb dX10_findPair_136 hl rfl (by rw [e136]; rfl) (by decide) rfl (fun ls hl => ?_)
            refine lv_goto (tgt := 76) hx hb dX10_findPair_139 (by decide) ?_
            exact ih _ _ _ _ _ _ _ _ _ _ h w (lv_sub hl [3, 4, 5, 6, 7, 8, 0] rfl)
          · have h := fy_if_t h hc
            refine lv_iload hx hb dX10_findPair_133 (lv_at hl 8 rfl) ?_
            cases h
            exact fy_retI C w dX10_findPair_135

set_option maxHeartbeats 4000000 in
set_option maxRecDepth 100000 in
theorem t_M_findPair_65 {p : Program} {l : Launch} {e : Env} {s : State} {m : MethodId} {args : Array Value} {below : List Frame} {meth : Method} {c : Code} {g : fy_G} (C : fy_C g M_Y p s m args meth c yX10_findPair.cls cX10_findPair 10 (some .int)) {Sr : fy_S} {rr : Int32} : ∀ (fu : Nat) (S : fy_S) (v1 : Int32) (v2 : Int32) (v3 : Int32) (v4 : Int32) (v5 : Int32) (H : Heap) (locs : List Loc) (ls : Array Slot), M_findPair_65 fu S v1 v2 v3 v4 v5 = some (Sr, rr) → fy_W g M_Y S s H locs → lv_has ls 10 [(0, .ref (g.2.2.1 0)), (1, .int v1), (2, .int v2), (3, .int v3), (4, .int v4), (5, .int v5)] → W p l e (fy_rm 3) s m args below meth c H locs 0 0 (MQ below (fy_QI g M_Y rr Sr) args s 0 0 (fy_A g M_Y)) (F0 m 65 ls []) := by
  obtain ⟨hx, hb, hr, hts, hown, hlk, hml, hK, hD, hE, hN⟩ := id C
  intro fu
  induction fu with
  | zero => intro S v1 v2 v3 v4 v5 H locs ls h; cases h
  | succ fu ih =>
    intro S v1 v2 v3 v4 v5 H locs ls h w  hl
    rw [M_findPair_65] at h
    refine lv_iload hx hb dX10_findPair_65 (lv_at hl 4 rfl) ?_
    refine lv_iload hx hb dX10_findPair_67 (lv_at hl 5 rfl) ?_
    refine lv_icmp_ge (tgt := 278) hx hb dX10_findPair_69 (by decide) (fun hc => ?_) (fun hc => ?_)
    · have h := fy_if_t h hc
      refine lv_iconst (v := (-1 : Int32)) hx hb dX10_findPair_278 (by decide) ?_
      cases h
      exact fy_retI C w dX10_findPair_279
    · have h := fy_if_f h hc
      refine lv_iload hx hb dX10_findPair_72 (lv_at hl 4 rfl) ?_
      refine lv_istore (lv' := [(6, .int v4), (0, .ref (g.2.2.1 0)), (1, .int v1), (2, .int v2), (3, .int v3), (4, .int v4), (5, .int v5)]) hx hb dX10_findPair_74 hl (by decide) rfl (fun ls hl => ?_)
      exact t_M_findPair_76 C ih fy_fu _ _ _ _ _ _ _ _ _ _ h w (lv_sub hl [1, 2, 3, 4, 5, 6, 0] rfl)

set_option maxHeartbeats 4000000 in
set_option maxRecDepth 100000 in
theorem t_M_findPair_3 {p : Program} {l : Launch} {e : Env} {s : State} {m : MethodId} {args : Array Value} {below : List Frame} {meth : Method} {c : Code} {g : fy_G} (C : fy_C g M_Y p s m args meth c yX10_findPair.cls cX10_findPair 10 (some .int)) {Sr : fy_S} {rr : Int32} : ∀ (fu : Nat) (S : fy_S) (v1 : Int32) (v2 : Int32) (v3 : Int32) (v4 : Int32) (H : Heap) (locs : List Loc) (ls : Array Slot), M_findPair_3 fu S v1 v2 v3 v4 = some (Sr, rr) → fy_W g M_Y S s H locs → lv_has ls 10 [(0, .ref (g.2.2.1 0)), (1, .int v1), (2, .int v2), (3, .int v3), (4, .int v4)] → W p l e (fy_rm 3) s m args below meth c H locs 0 0 (MQ below (fy_QI g M_Y rr Sr) args s 0 0 (fy_A g M_Y)) (F0 m 3 ls []) := by
  obtain ⟨hx, hb, hr, hts, hown, hlk, hml, hK, hD, hE, hN⟩ := id C
  intro fu
  induction fu with
  | zero => intro S v1 v2 v3 v4 H locs ls h; cases h
  | succ fu ih =>
    intro S v1 v2 v3 v4 H locs ls h w  hl
    rw [M_findPair_3] at h
    refine lv_iload hx hb dX10_findPair_3 (lv_at hl 4 rfl) ?_
    refine lv_sipush (v := (4096 : Int32)) hx hb dX10_findPair_5 (by decide) ?_
    refine lv_icmp_ge (tgt := 25) hx hb dX10_findPair_8 (by decide) (fun hc => ?_) (fun hc => ?_)
    · have h := fy_if_t h hc
      refine lv_aload_n hx hb dX10_findPair_25 rfl (lv_at hl 0 rfl) ?_
      refine gfX10_82 C w dX10_findPair_26 ?_
      refine lv_iconst (v := (0 : Int32)) hx hb dX10_findPair_29 (by decide) ?_
      refine lv_bipush (v := (64 : Int32)) hx hb dX10_findPair_30 (by decide) ?_
      refine lv_aload_n hx hb dX10_findPair_32 rfl (lv_at hl 0 rfl) ?_
      refine gfX10_16 C w dX10_findPair_33 ?_
      refine lv_iload_n hx hb dX10_findPair_36 rfl (lv_at hl 1 rfl) ?_
      obtain ⟨g37, h⟩ := fy_gd_some h
      refine fy_iald C w M_a3 g37 dX10_findPair_37 ?_
      refine lv_imul hx hb dX10_findPair_38 ?_
      refine lv_aload_n hx hb dX10_findPair_39 rfl (lv_at hl 0 rfl) ?_
      refine gfX10_16 C w dX10_findPair_40 ?_
      refine lv_iload_n hx hb dX10_findPair_43 rfl (lv_at hl 2 rfl) ?_
      obtain ⟨g44, h⟩ := fy_gd_some h
      refine fy_iald C w M_a3 g44 dX10_findPair_44 ?_
      refine lv_iadd hx hb dX10_findPair_45 ?_
      obtain ⟨g46, h⟩ := fy_gd_some h
      refine fy_iast C w M_a25 g46 dX10_findPair_46 (fun H locs w => ?_)
      obtain ⟨S46, e46⟩ : ∃ z, z = fy_sI S 25 (0 : Int32).toNatClampNeg (((64 : Int32) * (S.1 3 v1.toNatClampNeg)) + (S.1 3 v2.toNatClampNeg)) := ⟨_, rfl⟩
      have h := fy_bl_some e46 h
      rw [← e46] at w
      refine lv_aload_n hx hb dX10_findPair_47 rfl (lv_at hl 0 rfl) ?_
      refine gfX10_85 C w dX10_findPair_48 ?_
      refine lv_aload_n hx hb dX10_findPair_51 rfl (lv_at hl 0 rfl) ?_
      refine gfX10_82 C w dX10_findPair_52 ?_
      refine lv_iconst (v := (0 : Int32)) hx hb dX10_findPair_55 (by decide) ?_
      obtain ⟨g56, h⟩ := fy_gd_some h
      refine fy_iald C w M_a25 g56 dX10_findPair_56 ?_
      refine lv_iconst (v := (0 : Int32)) hx hb dX10_findPair_57 (by decide) ?_
      obtain ⟨g58, h⟩ := fy_gd_some h
      refine fy_iast C w M_a26 g58 dX10_findPair_58 (fun H locs w => ?_)
      obtain ⟨S58, e58⟩ : ∃ z, z = fy_sI S46 26 (S46.1 25 (0 : Int32).toNatClampNeg).toNatClampNeg (0 : Int32) := ⟨_, rfl⟩
      have h := fy_bl_some e58 h
      rw [← e58] at w
      refine lv_iconst (v := (0 : Int32)) hx hb dX10_findPair_59 (by decide) ?_
      refine lv_istore (lv' := [(4, .int (0 : Int32)), (0, .ref (g.2.2.1 0)), (1, .int v1), (2, .int v2), (3, .int v3)]) hx hb dX10_findPair_60 hl (by decide) rfl (fun ls hl => ?_)
      refine lv_iconst (v := (1 : Int32)) hx hb dX10_findPair_62 (by decide) ?_
      refine lv_istore (lv' := [(5, .int (1 : Int32)), (4, .int (0 : Int32)), (0, .ref (g.2.2.1 0)), (1, .int v1), (2, .int v2), (3, .int v3)]) hx hb dX10_findPair_63 hl (by decide) rfl (fun ls hl => ?_)
      exact t_M_findPair_65 C fy_fu _ _ _ _ _ _ _ _ _ h w (lv_sub hl [2, 3, 4, 5, 1, 0] rfl)
    · have h := fy_if_f h hc
      refine lv_aload_n hx hb dX10_findPair_11 rfl (lv_at hl 0 rfl) ?_
      refine gfX10_85 C w dX10_findPair_12 ?_
      refine lv_iload hx hb dX10_findPair_15 (lv_at hl 4 rfl) ?_
      refine lv_iconst (v := (-1 : Int32)) hx hb dX10_findPair_17 (by decide) ?_
      obtain ⟨g18, h⟩ := fy_gd_some h
      refine fy_iast C w M_a26 g18 dX10_findPair_18 (fun H locs w => ?_)
      obtain ⟨S18, e18⟩ : ∃ z, z = fy_sI S 26 v4.toNatClampNeg (-1 : Int32) := ⟨_, rfl⟩
      have h := fy_bl_some e18 h
      rw [← e18] at w
      obtain ⟨x19, e19⟩ : ∃ z : Int32, z = v4 + (1 : Int32) := ⟨_, rfl⟩
      have h := fy_bl_some e19 h
      refine lv_iinc (k := 4) (v := x19) (lv' := [(4, .int x19), (0, .ref (g.2.2.1 0)), (1, .int v1), (2, .int v2), (3, .int v3)]) hx hb dX10_findPair_19 hl rfl (by rw [e19]; rfl) (by decide) rfl (fun ls hl => ?_)
      refine lv_goto (tgt := 3) hx hb dX10_findPair_22 (by decide) ?_
      exact ih _ _ _ _ _ _ _ _ h w (lv_sub hl [1, 2, 3, 4, 0] rfl)

set_option maxHeartbeats 4000000 in
set_option maxRecDepth 100000 in
theorem t_M_findPair {p : Program} {l : Launch} {e : Env} {s : State} {m : MethodId} {args : Array Value} {below : List Frame} {meth : Method} {c : Code} {g : fy_G} (C : fy_C g M_Y p s m args meth c yX10_findPair.cls cX10_findPair 10 (some .int)) {S : fy_S} {v1 : Int32} {v2 : Int32} {v3 : Int32} {Sr : fy_S} {rr : Int32}  {H : Heap} {locs : List Loc} {ls : Array Slot} (h : M_findPair S v1 v2 v3 = some (Sr, rr)) (w : fy_W g M_Y S s H locs) (hl : lv_has ls 10 [(0, .ref (g.2.2.1 0)), (1, .int v1), (2, .int v2), (3, .int v3)]) : W p l e (fy_rm 3) s m args below meth c H locs 0 0 (MQ below (fy_QI g M_Y rr Sr) args s 0 0 (fy_A g M_Y)) (F0 m 0 ls []) := by
  obtain ⟨hx, hb, hr, hts, hown, hlk, hml, hK, hD, hE, hN⟩ := id C
  rw [M_findPair] at h
  refine lv_iconst (v := (0 : Int32)) hx hb dX10_findPair_0 (by decide) ?_
  refine lv_istore (lv' := [(4, .int (0 : Int32)), (0, .ref (g.2.2.1 0)), (1, .int v1), (2, .int v2), (3, .int v3)]) hx hb dX10_findPair_1 hl (by decide) rfl (fun ls hl => ?_)
  exact t_M_findPair_3 C fy_fu _ _ _ _ _ _ _ _ h w (lv_sub hl [1, 2, 3, 4, 0] rfl)

set_option maxHeartbeats 4000000 in
set_option maxRecDepth 100000 in
theorem c_M_findPair (l : Launch) (g : fy_G) {S : fy_S} {v1 : Int32} {v2 : Int32} {v3 : Int32} {Sr : fy_S} {rr : Int32}  (h : M_findPair S v1 v2 v3 = some (Sr, rr)) : fy_M g M_Y l yX10_findPair cX10_findPair 10 (some .int) (fy_rm 3) [.ref (g.2.2.1 0), .int v1, .int v2, .int v3] S (fy_QI g M_Y rr Sr) :=
  fy_entry (by decide +kernel) (Nat.le_of_ble_eq_true rfl) (fun p e s m args below meth c ls C w hl => t_M_findPair C  h w hl)
def M_findDifference_56 : Nat → fy_S → Int32 → Int32 → Int32 → Option (fy_S × Int32)
  | 0, _, _, _, _ => none
  | fu + 1, S, v1, v5, v6 =>
    if v6 = v5 then (
      some (S, (S.1 0 44)))
    else (
      fy_gd (fy_ix v6 4096) <|
      fy_gd (fy_ix (S.1 0 44) 4096) <|
      fy_bl (fy_sI S 24 (S.1 0 44).toNatClampNeg ((S.1 26 v6.toNatClampNeg) - (S.1 26 v6.toNatClampNeg) / (4 : Int32) * (4 : Int32))) fun S80 =>
      fy_gd (fy_ix (S80.1 0 44) 4096) <|
      fy_gd (fy_ix (((3 : Int32) * v1) + (S80.1 24 (S80.1 0 44).toNatClampNeg)) 21) <|
      fy_bl (fy_sI S80 0 45 ((S80.1 0 45) + (S80.1 4 (((3 : Int32) * v1) + (S80.1 24 (S80.1 0 44).toNatClampNeg)).toNatClampNeg))) fun S105 =>
      fy_bl (fy_sI S105 0 44 ((S105.1 0 44) + (1 : Int32))) fun S115 =>
      fy_gd (fy_ix v6 4096) <|
      fy_bl ((S115.1 26 v6.toNatClampNeg) / (4 : Int32)) fun x127 =>
      M_findDifference_56 fu S115 v1 v5 x127)
def M_findDifference (S : fy_S) (v1 : Int32) (v2 : Int32) : Option (fy_S × Int32) :=
  fy_bd (M_notPaired S v1 v2) fun r3 =>
  if r3 = 0 then (
    fy_bp (M_findPair S v1 v2 (0 : Int32)) fun S17 r17 =>
    if 0 ≤ r17 then (
      fy_bl (fy_sI S17 0 44 (0 : Int32)) fun S31 =>
      fy_bl (fy_sI S31 0 45 (0 : Int32)) fun S36 =>
      fy_gd (fy_ix (0 : Int32) 4096) <|
      fy_bl (S36.1 25 (0 : Int32).toNatClampNeg) fun x45 =>
      fy_gd (fy_ix r17 4096) <|
      fy_bl (S36.1 25 r17.toNatClampNeg) fun x54 =>
      M_findDifference_56 fy_fu S36 v1 x45 x54)
    else (
      some (S17, (-1 : Int32))))
  else (
    some (S, r3))
set_option maxHeartbeats 4000000 in
set_option maxRecDepth 100000 in
theorem t_M_findDifference_56 {p : Program} {l : Launch} {e : Env} {s : State} {m : MethodId} {args : Array Value} {below : List Frame} {meth : Method} {c : Code} {g : fy_G} (C : fy_C g M_Y p s m args meth c yX10_findDifference.cls cX10_findDifference 7 (some .int)) {Sr : fy_S} {rr : Int32} : ∀ (fu : Nat) (S : fy_S) (v1 : Int32) (v5 : Int32) (v6 : Int32) (H : Heap) (locs : List Loc) (ls : Array Slot), M_findDifference_56 fu S v1 v5 v6 = some (Sr, rr) → fy_W g M_Y S s H locs → lv_has ls 7 [(0, .ref (g.2.2.1 0)), (1, .int v1), (5, .int v5), (6, .int v6)] → W p l e (fy_rm 4) s m args below meth c H locs 0 0 (MQ below (fy_QI g M_Y rr Sr) args s 0 0 (fy_A g M_Y)) (F0 m 56 ls []) := by
  obtain ⟨hx, hb, hr, hts, hown, hlk, hml, hK, hD, hE, hN⟩ := id C
  intro fu
  induction fu with
  | zero => intro S v1 v5 v6 H locs ls h; cases h
  | succ fu ih =>
    intro S v1 v5 v6 H locs ls h w  hl
    rw [M_findDifference_56] at h
    refine lv_iload hx hb dX10_findDifference_56 (lv_at hl 3 rfl) ?_
    refine lv_iload hx hb dX10_findDifference_58 (lv_at hl 2 rfl) ?_
    refine lv_icmp_eq (tgt := 132) hx hb dX10_findDifference_60 (by decide) (fun hc => ?_) (fun hc => ?_)
    · have h := fy_if_t h hc
      refine lv_aload_n hx hb dX10_findDifference_132 rfl (lv_at hl 0 rfl) ?_
      refine gfX10_298 C w dX10_findDifference_133 ?_
      cases h
      exact fy_retI C w dX10_findDifference_136
    · have h := fy_if_f h hc
      refine lv_aload_n hx hb dX10_findDifference_63 rfl (lv_at hl 0 rfl) ?_
      refine gfX10_79 C w dX10_findDifference_64 ?_
      refine lv_aload_n hx hb dX10_findDifference_67 rfl (lv_at hl 0 rfl) ?_
      refine gfX10_298 C w dX10_findDifference_68 ?_
      refine lv_aload_n hx hb dX10_findDifference_71 rfl (lv_at hl 0 rfl) ?_
      refine gfX10_85 C w dX10_findDifference_72 ?_
      refine lv_iload hx hb dX10_findDifference_75 (lv_at hl 3 rfl) ?_
      obtain ⟨g77, h⟩ := fy_gd_some h
      refine fy_iald C w M_a26 g77 dX10_findDifference_77 ?_
      refine lv_iconst (v := (4 : Int32)) hx hb dX10_findDifference_78 (by decide) ?_
      refine lv_irem hx hb dX10_findDifference_79 (by decide) ?_
      obtain ⟨g80, h⟩ := fy_gd_some h
      refine fy_iast C w M_a24 g80 dX10_findDifference_80 (fun H locs w => ?_)
      obtain ⟨S80, e80⟩ : ∃ z, z = fy_sI S 24 (S.1 0 44).toNatClampNeg ((S.1 26 v6.toNatClampNeg) - (S.1 26 v6.toNatClampNeg) / (4 : Int32) * (4 : Int32)) := ⟨_, rfl⟩
      have h := fy_bl_some e80 h
      rw [← e80] at w
      refine lv_aload_n hx hb dX10_findDifference_81 rfl (lv_at hl 0 rfl) ?_
      refine lv_dup hx hb dX10_findDifference_82 rfl ?_
      refine gfX10_301 C w dX10_findDifference_83 ?_
      refine lv_aload_n hx hb dX10_findDifference_86 rfl (lv_at hl 0 rfl) ?_
      refine gfX10_19 C w dX10_findDifference_87 ?_
      refine lv_iconst (v := (3 : Int32)) hx hb dX10_findDifference_90 (by decide) ?_
      refine lv_iload_n hx hb dX10_findDifference_91 rfl (lv_at hl 1 rfl) ?_
      refine lv_imul hx hb dX10_findDifference_92 ?_
      refine lv_aload_n hx hb dX10_findDifference_93 rfl (lv_at hl 0 rfl) ?_
      refine gfX10_79 C w dX10_findDifference_94 ?_
      refine lv_aload_n hx hb dX10_findDifference_97 rfl (lv_at hl 0 rfl) ?_
      refine gfX10_298 C w dX10_findDifference_98 ?_
      obtain ⟨g101, h⟩ := fy_gd_some h
      refine fy_iald C w M_a24 g101 dX10_findDifference_101 ?_
      refine lv_iadd hx hb dX10_findDifference_102 ?_
      obtain ⟨g103, h⟩ := fy_gd_some h
      refine fy_iald C w M_a4 g103 dX10_findDifference_103 ?_
      refine lv_iadd hx hb dX10_findDifference_104 ?_
      refine pfX10_301 C w dX10_findDifference_105 (fun H locs w => ?_)
      obtain ⟨S105, e105⟩ : ∃ z, z = fy_sI S80 0 45 ((S80.1 0 45) + (S80.1 4 (((3 : Int32) * v1) + (S80.1 24 (S80.1 0 44).toNatClampNeg)).toNatClampNeg)) := ⟨_, rfl⟩
      have h := fy_bl_some e105 h
      rw [← e105] at w
      refine lv_aload_n hx hb dX10_findDifference_108 rfl (lv_at hl 0 rfl) ?_
      refine lv_dup hx hb dX10_findDifference_109 rfl ?_
      refine gfX10_298 C w dX10_findDifference_110 ?_
      refine lv_iconst (v := (1 : Int32)) hx hb dX10_findDifference_113 (by decide) ?_
      refine lv_iadd hx hb dX10_findDifference_114 ?_
      refine pfX10_298 C w dX10_findDifference_115 (fun H locs w => ?_)
      obtain ⟨S115, e115⟩ : ∃ z, z = fy_sI S105 0 44 ((S105.1 0 44) + (1 : Int32)) := ⟨_, rfl⟩
      have h := fy_bl_some e115 h
      rw [← e115] at w
      refine lv_aload_n hx hb dX10_findDifference_118 rfl (lv_at hl 0 rfl) ?_
      refine gfX10_85 C w dX10_findDifference_119 ?_
      refine lv_iload hx hb dX10_findDifference_122 (lv_at hl 3 rfl) ?_
      obtain ⟨g124, h⟩ := fy_gd_some h
      refine fy_iald C w M_a26 g124 dX10_findDifference_124 ?_
      refine lv_iconst (v := (4 : Int32)) hx hb dX10_findDifference_125 (by decide) ?_
      refine lv_idiv hx hb dX10_findDifference_126 (by decide) ?_
      refine lv_topi (fun x127 e127 => ?_)
      have h := fy_bl_some e127 h
      refine lv_istore (lv' := [(6, .int x127), (0, .ref (g.2.2.1 0)), (1, .int v1), (5, .int v5)]) hx hb dX10_findDifference_127 hl (by decide) rfl (fun ls hl => ?_)
      refine lv_goto (tgt := 56) hx hb dX10_findDifference_129 (by decide) ?_
      exact ih _ _ _ _ _ _ _ h w (lv_sub hl [1, 2, 3, 0] rfl)

set_option maxHeartbeats 4000000 in
set_option maxRecDepth 100000 in
theorem t_M_findDifference {p : Program} {l : Launch} {e : Env} {s : State} {m : MethodId} {args : Array Value} {below : List Frame} {meth : Method} {c : Code} {g : fy_G} (C : fy_C g M_Y p s m args meth c yX10_findDifference.cls cX10_findDifference 7 (some .int)) {S : fy_S} {v1 : Int32} {v2 : Int32} {Sr : fy_S} {rr : Int32}  {H : Heap} {locs : List Loc} {ls : Array Slot} (h : M_findDifference S v1 v2 = some (Sr, rr)) (w : fy_W g M_Y S s H locs) (hl : lv_has ls 7 [(0, .ref (g.2.2.1 0)), (1, .int v1), (2, .int v2)]) : W p l e (fy_rm 4) s m args below meth c H locs 0 0 (MQ below (fy_QI g M_Y rr Sr) args s 0 0 (fy_A g M_Y)) (F0 m 0 ls []) := by
  obtain ⟨hx, hb, hr, hts, hown, hlk, hml, hK, hD, hE, hN⟩ := id C
  rw [M_findDifference] at h
  refine lv_aload_n hx hb dX10_findDifference_0 rfl (lv_at hl 0 rfl) ?_
  refine lv_iload_n hx hb dX10_findDifference_1 rfl (lv_at hl 1 rfl) ?_
  refine lv_iload_n hx hb dX10_findDifference_2 rfl (lv_at hl 2 rfl) ?_
  obtain ⟨r3, h3, h⟩ := fy_bd_some h
  refine fy_calI w (fy_runV (As := [.int v1, .int v2]) (rest := []) C w (c_M_notPaired l g  h3) M_o ksX10_304 rfl ⟨Nat.le_of_ble_eq_true rfl, Nat.le_of_ble_eq_true rfl⟩ rfl hl.1 rfl (Nat.le_of_ble_eq_true rfl) ⟨Nat.le_refl _, Nat.le_refl _⟩ dX10_findDifference_3) (fun H locs w => ?_)
  refine lv_istore_n (lv' := [(3, .int r3), (0, .ref (g.2.2.1 0)), (1, .int v1), (2, .int v2)]) hx hb dX10_findDifference_6 rfl hl (by decide) rfl (fun ls hl => ?_)
  refine lv_iload_n hx hb dX10_findDifference_7 rfl (lv_at hl 0 rfl) ?_
  refine lv_if_eq (tgt := 13) hx hb dX10_findDifference_8 (by decide) (fun hc => ?_) (fun hc => ?_)
  · have h := fy_if_t h hc
    refine lv_aload_n hx hb dX10_findDifference_13 rfl (lv_at hl 1 rfl) ?_
    refine lv_iload_n hx hb dX10_findDifference_14 rfl (lv_at hl 2 rfl) ?_
    refine lv_iload_n hx hb dX10_findDifference_15 rfl (lv_at hl 3 rfl) ?_
    refine lv_iconst (v := (0 : Int32)) hx hb dX10_findDifference_16 (by decide) ?_
    obtain ⟨S17, r17, h17, h⟩ := fy_bp_some h
    refine fy_calI w (fy_runV (As := [.int v1, .int v2, .int (0 : Int32)]) (rest := []) C w (c_M_findPair l g  h17) M_o ksX10_307 rfl ⟨Nat.le_of_ble_eq_true rfl, Nat.le_of_ble_eq_true rfl⟩ rfl hl.1 rfl (Nat.le_of_ble_eq_true rfl) ⟨Nat.le_refl _, Nat.le_refl _⟩ dX10_findDifference_17) (fun H locs w => ?_)
    refine lv_istore (lv' := [(4, .int r17), (3, .int r3), (0, .ref (g.2.2.1 0)), (1, .int v1), (2, .int v2)]) hx hb dX10_findDifference_20 hl (by decide) rfl (fun ls hl => ?_)
    refine lv_iload hx hb dX10_findDifference_22 (lv_at hl 0 rfl) ?_
    refine lv_if_ge (tgt := 29) hx hb dX10_findDifference_24 (by decide) (fun hc => ?_) (fun hc => ?_)
    · have h := fy_if_t h hc
      refine lv_aload_n hx hb dX10_findDifference_29 rfl (lv_at hl 2 rfl) ?_
      refine lv_iconst (v := (0 : Int32)) hx hb dX10_findDifference_30 (by decide) ?_
      refine pfX10_298 C w dX10_findDifference_31 (fun H locs w => ?_)
      obtain ⟨S31, e31⟩ : ∃ z, z = fy_sI S17 0 44 (0 : Int32) := ⟨_, rfl⟩
      have h := fy_bl_some e31 h
      rw [← e31] at w
      refine lv_aload_n hx hb dX10_findDifference_34 rfl (lv_at hl 2 rfl) ?_
      refine lv_iconst (v := (0 : Int32)) hx hb dX10_findDifference_35 (by decide) ?_
      refine pfX10_301 C w dX10_findDifference_36 (fun H locs w => ?_)
      obtain ⟨S36, e36⟩ : ∃ z, z = fy_sI S31 0 45 (0 : Int32) := ⟨_, rfl⟩
      have h := fy_bl_some e36 h
      rw [← e36] at w
      refine lv_aload_n hx hb dX10_findDifference_39 rfl (lv_at hl 2 rfl) ?_
      refine gfX10_82 C w dX10_findDifference_40 ?_
      refine lv_iconst (v := (0 : Int32)) hx hb dX10_findDifference_43 (by decide) ?_
      obtain ⟨g44, h⟩ := fy_gd_some h
      refine fy_iald C w M_a25 g44 dX10_findDifference_44 ?_
      refine lv_topi (fun x45 e45 => ?_)
      have h := fy_bl_some e45 h
      refine lv_istore (lv' := [(5, .int x45), (4, .int r17), (3, .int r3), (0, .ref (g.2.2.1 0)), (1, .int v1), (2, .int v2)]) hx hb dX10_findDifference_45 hl (by decide) rfl (fun ls hl => ?_)
      refine lv_aload_n hx hb dX10_findDifference_47 rfl (lv_at hl 3 rfl) ?_
      refine gfX10_82 C w dX10_findDifference_48 ?_
      refine lv_iload hx hb dX10_findDifference_51 (lv_at hl 1 rfl) ?_
      obtain ⟨g53, h⟩ := fy_gd_some h
      refine fy_iald C w M_a25 g53 dX10_findDifference_53 ?_
      refine lv_topi (fun x54 e54 => ?_)
      have h := fy_bl_some e54 h
      refine lv_istore (lv' := [(6, .int x54), (5, .int x45), (4, .int r17), (3, .int r3), (0, .ref (g.2.2.1 0)), (1, .int v1), (2, .int v2)]) hx hb dX10_findDifference_54 hl (by decide) rfl (fun ls hl => ?_)
      exact t_M_findDifference_56 C fy_fu _ _ _ _ _ _ _ h w (lv_sub hl [4, 5, 1, 0] rfl)
    · have h := fy_if_f h hc
      refine lv_iconst (v := (-1 : Int32)) hx hb dX10_findDifference_27 (by decide) ?_
      cases h
      exact fy_retI C w dX10_findDifference_28
  · have h := fy_if_f h hc
    refine lv_iload_n hx hb dX10_findDifference_11 rfl (lv_at hl 0 rfl) ?_
    cases h
    exact fy_retI C w dX10_findDifference_12

set_option maxHeartbeats 4000000 in
set_option maxRecDepth 100000 in
theorem c_M_findDifference (l : Launch) (g : fy_G) {S : fy_S} {v1 : Int32} {v2 : Int32} {Sr : fy_S} {rr : Int32}  (h : M_findDifference S v1 v2 = some (Sr, rr)) : fy_M g M_Y l yX10_findDifference cX10_findDifference 7 (some .int) (fy_rm 4) [.ref (g.2.2.1 0), .int v1, .int v2] S (fy_QI g M_Y rr Sr) :=
  fy_entry (by decide +kernel) (Nat.le_of_ble_eq_true rfl) (fun p e s m args below meth c ls C w hl => t_M_findDifference C  h w hl)
end
