/-! property, setWeight, setFinal, append, create -/
theorem pu_X_a {S S' : fy_S} {G : pu_G} {a : Nat} {A : pu_A} (h : pu_X S G) (f : fr (fun i _ => 38 + 41 * a ≤ i ∧ i < 38 + 41 * a + 41) S S') (hA : pu_XA S' (38 + 41 * a) A) : pu_X S' (pu_sA G a A) := by
  obtain ⟨h1, h2, h3, h4, h5, h6, h7, h8⟩ := h
  refine ⟨fun b hb => ?_, pu_l_c h2 (f _ _ (by omega)).1 (fun k _ => (f _ _ (by omega)).1), pu_l_c h3 (f _ _ (by omega)).1 (fun k _ => (f _ _ (by omega)).1), pu_l_c h4 (f _ _ (by omega)).1 (fun k _ => (f _ _ (by omega)).1), pu_l_c h5 (f _ _ (by omega)).1 (fun k _ => (f _ _ (by omega)).1), ?_, ?_, pu_P_c h8 (f _ _ (by omega)).1 (fun i k _ _ => (f _ _ (by omega)).1)⟩
  · show pu_XA S' (38 + 41 * b) (if b = a then A else G.1 b)
    by_cases e : b = a
    · rw [if_pos e, e]; exact hA
    · rw [if_neg e]; exact pu_XA_c (h1 b hb) (fun i k g1 g2 => f i k (by omega))
  · rw [(f _ _ (by omega)).1]; exact h6
  · rw [(f _ _ (by omega)).1]; exact h7
/-- cells of the reference's automaton a -/
def pu_ma (a i k : Nat) : Prop := (1 ≤ i ∧ i ≤ 3 ∧ k = a) ∨ (i = 4 ∧ 3 * a ≤ k ∧ k < 3 * a + 3) ∨ (i = 5 ∧ 19 * a ≤ k ∧ k < 19 * a + 19) ∨ (i = 6 ∧ 760 * a ≤ k ∧ k < 760 * a + 760)
theorem pu_M_a {S S' : fy_S} {G : pu_G} {a : Nat} {A : pu_A} (hw : pu_W G) (h : pu_M S G) (f : fr (pu_ma a) S S') (hA : pu_MA S' a A) : pu_M S' (pu_sA G a A) := by
  obtain ⟨h1, h2, h3, h4, h5, h6, h7⟩ := h
  refine ⟨fun b hb => ?_, pu_l_c h2 (f _ _ (by unfold pu_ma; omega)).1 (fun k _ => (f _ _ (by unfold pu_ma; omega)).1), pu_l_c h3 (f _ _ (by unfold pu_ma; omega)).1 (fun k _ => (f _ _ (by unfold pu_ma; omega)).1), pu_l_c h4 (f _ _ (by unfold pu_ma; omega)).1 (fun k _ => (f _ _ (by unfold pu_ma; omega)).1), pu_l_c h5 (f _ _ (by unfold pu_ma; omega)).1 (fun k _ => (f _ _ (by unfold pu_ma; omega)).1), ?_, ?_⟩
  · show pu_MA S' b (if b = a then A else G.1 b)
    by_cases e : b = a
    · rw [if_pos e, e]; exact hA
    · rw [if_neg e]
      exact pu_MA_c (hw.1 b hb) (h1 b hb) (fun i g1 g2 => (f i b (by unfold pu_ma; omega)).1) (fun k g1 g2 => (f 4 k (by unfold pu_ma; omega)).1) (fun k g1 g2 => (f 5 k (by unfold pu_ma; omega)).1) (fun k g1 g2 => (f 6 k (by unfold pu_ma; omega)).1)
  · rw [(f _ _ (by unfold pu_ma; omega)).1]; exact h6
  · rw [(f _ _ (by unfold pu_ma; omega)).1]; exact h7
theorem pu_W_a {G : pu_G} {a : Nat} {A : pu_A} (hw : pu_W G) (hA : pu_wA A) : pu_W (pu_sA G a A) := by
  refine ⟨fun b hb => ?_, hw.2⟩
  show pu_wA (if b = a then A else G.1 b)
  by_cases e : b = a
  · rw [if_pos e]; exact hA
  · rw [if_neg e]; exact hw.1 b hb
theorem ez_property {SX SM : fy_S} (v1 v2 : Int32) (h : pu_I SX SM) : ∃ r : Int32, X9_property SX v1 v2 = some r ∧ M_property SM v1 v2 = some r := by
  rcases pu_slot v1 with ⟨a, ha, rfl⟩ | hb
  · rcases pu_bw (lo := 0) (hi := 5) v2 (by decide) (by decide) with ⟨x, hx0, hx, rfl⟩ | hb
    · obtain ⟨G, hw, hX, hM⟩ := h
      have hwA := hw.1 a (by omega)
      have hXA := hX.1 a (by omega)
      have hMA := hM.1 a (by omega)
      have hm3 : (G.1 a).2.1 ≤ 3 := hwA.2.2.2.1
      refine ⟨if x = 0 then nI (G.1 a).1 else if x = 1 then nI (G.1 a).2.1 else if x = 2 then nI (G.1 a).2.2.1 else if x - 3 < (G.1 a).2.1 then nI ((G.1 a).2.2.2.1 (x - 3)) else -1, ?_, ?_⟩
      · rw [X9_property]
        refine pw_eq (pw_be (X_ain_y ha) (pw_be (X_within_y (lo := 0) (hi := 5) hx0 hx (by decide)) (pw_f (by decide) ?_)))
        refine pw_if (fun e => ?_) (fun e0 => pw_if (fun e => ?_) (fun e1 => pw_if (fun e => ?_) (fun e2 => ?_)))
        · rw [if_pos ((nI_eq (b := 0) (by omega) (by decide)).mp e)]; exact pw_s hXA.1
        · have e := (nI_eq (b := 1) (by omega) (by decide)).mp e
          subst e
          exact pw_s hXA.2.1
        · have e := (nI_eq (b := 2) (by omega) (by decide)).mp e
          subst e
          exact pw_s hXA.2.2.1
        · have h0 : x ≠ 0 := fun e => e0 (by rw [e]; rfl)
          have h1 : x ≠ 1 := fun e => e1 (by rw [e]; rfl)
          have h2 : x ≠ 2 := fun e => e2 (by rw [e]; rfl)
          rw [if_neg h0, if_neg h1, if_neg h2, show nI x - (3 : Int32) = nI (x - 3) from pk_sub (b := 3) (by omega)]
          by_cases hl : x - 3 < (G.1 a).2.1
          · rw [if_pos hl]
            refine pw_be (X_hl_y hXA.2.1 hl (by omega)) (pw_f (by decide) (pw_gd (fy_ix_nI (by omega) (by decide)) (pw_s ?_)))
            rw [nI_clamp (by omega)]
            exact hXA.2.2.2.1 _ (by omega)
          · rw [if_neg hl]
            exact pw_be (X_hl_n hXA.2.1 (.inr (nI_le (by omega) (by omega)))) (pw_t rfl (pw_s rfl))
      · rw [M_property]
        refine pw_eq (pw_be (M_slot_y ha) (pw_f (by decide) (pw_be (M_between_y (lo := 0) (hi := 5) hx0 hx (by decide)) (pw_f (by decide) ?_))))
        rw [nI_clamp (by omega)]
        refine pw_if (fun e => pw_gd (fy_ix_nI (by omega) (by decide)) ?_) (fun e0 => pw_if (fun e => pw_gd (fy_ix_nI (by omega) (by decide)) ?_) (fun e1 => pw_if (fun e => pw_gd (fy_ix_nI (by omega) (by decide)) ?_) (fun e2 => ?_)))
        · rw [if_pos ((nI_eq (b := 0) (by omega) (by decide)).mp e)]; exact pw_s hMA.1
        · have e := (nI_eq (b := 1) (by omega) (by decide)).mp e
          subst e
          exact pw_s hMA.2.1
        · have e := (nI_eq (b := 2) (by omega) (by decide)).mp e
          subst e
          exact pw_s hMA.2.2.1
        · have h0 : x ≠ 0 := fun e => e0 (by rw [e]; rfl)
          have h1 : x ≠ 1 := fun e => e1 (by rw [e]; rfl)
          have h2 : x ≠ 2 := fun e => e2 (by rw [e]; rfl)
          rw [if_neg h0, if_neg h1, if_neg h2, show nI x - (3 : Int32) = nI (x - 3) from pk_sub (b := 3) (by omega), show (3 : Int32) * nI a = nI (3 * a) from pk_mul 3 a, nI_add, show nI (3 * a + x) - (3 : Int32) = nI (3 * a + x - 3) from pk_sub (b := 3) (by omega)]
          by_cases hl : x - 3 < (G.1 a).2.1
          · rw [if_pos hl]
            refine pw_be (M_hl_y (by omega) hMA.2.1 hl (by omega)) (pw_f (by decide) (pw_gd (fy_ix_nI (by omega) (by decide)) (pw_s ?_)))
            rw [nI_clamp (by omega), show 3 * a + x - 3 = 3 * a + (x - 3) by omega]
            exact hMA.2.2.2.1 _ (by omega)
          · rw [if_neg hl]
            exact pw_be (M_hl_n (by omega) hMA.2.1 (.inr (nI_le (by omega) (by omega)))) (pw_t rfl (pw_s rfl))
    · refine ⟨-2, ?_, ?_⟩
      · rw [X9_property]; exact pw_eq (pw_be (X_ain_y ha) (pw_be (X_within_n (lo := 0) (hi := 5) hb) (pw_t rfl (pw_s rfl))))
      · rw [M_property]; exact pw_eq (pw_be (M_slot_y ha) (pw_f (by decide) (pw_be (M_between_n (lo := 0) (hi := 5) hb) (pw_t rfl (pw_s rfl)))))
  · refine ⟨-2, ?_, ?_⟩
    · rw [X9_property]; exact pw_eq (pw_be (X_ain_n hb) (pw_s rfl))
    · rw [M_property]; exact pw_eq (pw_be (M_slot_n hb) (pw_t rfl (pw_s rfl)))
theorem ez_setWeight {SX SM : fy_S} (v1 v2 v3 : Int32) (h : pu_I SX SM) : pu_O (X9_setWeight SX v1 v2 v3) (M_setWeight SM v1 v2 v3) := by
  rcases pu_slot v1 with ⟨a, ha, rfl⟩ | hb
  · have hI := h
    obtain ⟨G, hw, hX, hM⟩ := h
    have hwA := hw.1 a (by omega)
    have hXA := hX.1 a (by omega)
    have hMA := hM.1 a (by omega)
    have hm3 : (G.1 a).2.1 ≤ 3 := hwA.2.2.2.1
    rcases pu_ixx v2 (n := (G.1 a).2.1) (by omega) with ⟨x, hx, rfl⟩ | hb
    · rcases pu_bw (lo := 1) (hi := 9) v3 (by decide) (by decide) with ⟨w, hw0, hw9, rfl⟩ | hb
      · have hx3 : x < 3 := by omega
        refine pu_both (pu_sA G a ((G.1 a).1, (G.1 a).2.1, (G.1 a).2.2.1, (fun y => if y = x then w else (G.1 a).2.2.2.1 y), (G.1 a).2.2.2.2)) (nI ((G.1 a).2.2.2.1 x)) (pu_W_a hw ?_) ?_ ?_
        · obtain ⟨w1, w2, w3, w4, w5, w6, w7⟩ := hwA
          refine ⟨w1, w2, w3, w4, w5, fun y hy => ?_, w7⟩
          show 1 ≤ (if y = x then w else _) ∧ (if y = x then w else _) ≤ 9
          by_cases e : y = x
          · rw [if_pos e]; exact ⟨hw0, hw9⟩
          · rw [if_neg e]; exact w6 y hy
        · rw [X9_setWeight]
          refine pw_be (X_ain_y ha) (pw_be (X_hl_y hXA.2.1 hx (by omega)) (pw_f (by decide) (pw_be (X_within_y (lo := 1) (hi := 9) hw0 hw9 (by decide)) (pw_f (by decide) (pw_gd (fy_ix_nI hx3 (by decide)) (pw_bl (pw_gd (fy_ix_nI hx3 (by decide)) (pw_bl (pw_s ?_)))))))))
          rw [nI_clamp (by omega)]
          refine ⟨hXA.2.2.2.1 x hx3, pu_X_a hX (fr_I fr_r ⟨by omega, by omega⟩) ?_⟩
          obtain ⟨g1, g2, g3, g4, g5⟩ := hXA
          refine ⟨by rw [rd_n (by omega)]; exact g1, by rw [rd_n (by omega)]; exact g2, by rw [rd_n (by omega)]; exact g3, fun y hy => ?_, fun j hj hu => ⟨⟨by rw [rd_n (by omega)]; exact (g5 j hj hu).1.1, fun k hk => by rw [rd_n (by omega)]; exact (g5 j hj hu).1.2 k hk⟩, (g5 j hj hu).2⟩⟩
          show _ = nI (if y = x then w else _)
          by_cases e : y = x
          · rw [e, rd_y, if_pos rfl]
          · rw [rd_n (by omega), if_neg e]; exact g4 y hy
        · rw [M_setWeight]
          refine pw_be (M_slot_y ha) (pw_f (by decide) (pw_be (M_hl_y (by omega) hMA.2.1 hx (by omega)) (pw_f (by decide) (pw_be (M_between_y (lo := 1) (hi := 9) hw0 hw9 (by decide)) (pw_f (by decide) ?_)))))
          rw [show (3 : Int32) * nI a = nI (3 * a) from pk_mul 3 a, nI_add]
          refine pw_gd (fy_ix_nI (by omega) (by decide)) (pw_bl (pw_gd (fy_ix_nI (by omega) (by decide)) (pw_bl (pw_s ?_))))
          rw [nI_clamp (by omega)]
          refine ⟨hMA.2.2.2.1 x hx3, pu_M_a hw hM (fr_I fr_r (.inr (.inl ⟨rfl, by omega, by omega⟩))) ?_⟩
          obtain ⟨g1, g2, g3, g4, g5, g6⟩ := hMA
          refine ⟨by rw [rd_n (by omega)]; exact g1, by rw [rd_n (by omega)]; exact g2, by rw [rd_n (by omega)]; exact g3, fun y hy => ?_, fun j hj => by rw [rd_n (by omega)]; exact g5 j hj, fun j hj hu => ⟨by rw [rd_n (by omega)]; exact (g6 j hj hu).1, fun k hk => (rd_n (by omega)).trans ((g6 j hj hu).2 k hk)⟩⟩
          show _ = nI (if y = x then w else _)
          by_cases e : y = x
          · rw [e, rd_y, if_pos rfl]
          · rw [rd_n (by omega), if_neg e]; exact g4 y hy
      · refine pu_same (-2) hI ?_ ?_
        · rw [X9_setWeight]; exact pw_eq (pw_be (X_ain_y ha) (pw_be (X_hl_y hXA.2.1 hx (by omega)) (pw_f (by decide) (pw_be (X_within_n (lo := 1) (hi := 9) hb) (pw_t rfl (pw_s rfl))))))
        · rw [M_setWeight]; exact pw_eq (pw_be (M_slot_y ha) (pw_f (by decide) (pw_be (M_hl_y (by omega) hMA.2.1 hx (by omega)) (pw_f (by decide) (pw_be (M_between_n (lo := 1) (hi := 9) hb) (pw_t rfl (pw_s rfl)))))))
    · refine pu_same (-2) hI ?_ ?_
      · rw [X9_setWeight]; exact pw_eq (pw_be (X_ain_y ha) (pw_be (X_hl_n hXA.2.1 hb) (pw_t rfl (pw_s rfl))))
      · rw [M_setWeight]; exact pw_eq (pw_be (M_slot_y ha) (pw_f (by decide) (pw_be (M_hl_n (by omega) hMA.2.1 hb) (pw_t rfl (pw_s rfl)))))
  · refine pu_same (-2) h ?_ ?_
    · rw [X9_setWeight]; exact pw_eq (pw_be (X_ain_n hb) (pw_s rfl))
    · rw [M_setWeight]; exact pw_eq (pw_be (M_slot_n hb) (pw_t rfl (pw_s rfl)))
