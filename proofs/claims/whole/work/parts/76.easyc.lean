/-! setFinal, append, create -/
def pu_fb (F p b : Nat) : Nat := if F.testBit p then (if b = 1 then F else F - 2 ^ p) else F + b * 2 ^ p
theorem pu_fb_e : ∀ F, F < 64 → ∀ p, p < 6 → ∀ b, b < 2 → (nI F &&& (((1 : Int32) <<< (nI p &&& 31)) ^^^ (-1 : Int32))) ||| (nI b <<< (nI p &&& 31)) = nI (pu_fb F p b) := by decide +kernel
theorem pu_fb_l : ∀ n, n < 7 → ∀ F, F < 2 ^ n → ∀ p, p < n → ∀ b, b < 2 → pu_fb F p b < 2 ^ n := by decide +kernel
theorem pu_2n {n : Nat} (h : n ≤ 6) : 2 ^ n ≤ 64 := Nat.pow_le_pow_right (n := 2) (by decide) h
theorem pu_u_s {A A' : pu_A} {j : Nat} (h1 : A'.1 = A.1) (h2 : A'.2.1 = A.2.1) : pu_u A' j ↔ pu_u A j := by unfold pu_u; rw [h1, h2]
theorem ez_setFinal {SX SM : fy_S} (v1 v2 v3 : Int32) (h : pu_I SX SM) : pu_O (X9_setFinal SX v1 v2 v3) (M_setFinal SM v1 v2 v3) := by
  rcases pu_slot v1 with ⟨a, ha, rfl⟩ | hb
  · have hI := h
    obtain ⟨G, hw, hX, hM⟩ := h
    have hwA := hw.1 a (by omega)
    have hXA := hX.1 a (by omega)
    have hMA := hM.1 a (by omega)
    have hn6 : (G.1 a).1 ≤ 6 := hwA.2.1
    rcases pu_ixx v2 (n := (G.1 a).1) (by omega) with ⟨p, hp, rfl⟩ | hb
    · rcases pu_bw (lo := 0) (hi := 1) v3 (by decide) (by decide) with ⟨b, hb0, hb1, rfl⟩ | hb
      · have hF : (G.1 a).2.2.1 < 2 ^ (G.1 a).1 := hwA.2.2.2.2.1
        have h64 := pu_2n hn6
        have e1 := pu_fb_e (G.1 a).2.2.1 (by omega) p (by omega) b (by omega)
        refine pu_both (pu_sA G a ((G.1 a).1, (G.1 a).2.1, pu_fb (G.1 a).2.2.1 p b, (G.1 a).2.2.2.1, (G.1 a).2.2.2.2)) (nI (pu_fb (G.1 a).2.2.1 p b)) (pu_W_a hw ?_) ?_ ?_
        · obtain ⟨w1, w2, w3, w4, w5, w6, w7⟩ := hwA
          exact ⟨w1, w2, w3, w4, pu_fb_l _ (by omega) _ hF p hp b (by omega), w6, w7⟩
        · rw [X9_setFinal]
          refine pw_be (X_ain_y ha) (pw_be (X_hs_y hXA.1 hp (by omega)) (pw_f (by decide) (pw_be (X_within_y (lo := 0) (hi := 1) hb0 hb1 (by decide)) (pw_f (by decide) (pw_bl (pw_bl (pw_s ?_)))))))
          rw [hXA.2.2.1, e1, rd_y]
          refine ⟨rfl, pu_X_a hX (fr_I fr_r ⟨by omega, by omega⟩) ?_⟩
          obtain ⟨g1, g2, g3, g4, g5⟩ := hXA
          exact ⟨by rw [rd_n (by omega)]; exact g1, by rw [rd_n (by omega)]; exact g2, by rw [rd_y], fun y hy => by rw [rd_n (by omega)]; exact g4 y hy, fun j hj hu => ⟨⟨by rw [rd_n (by omega)]; exact (g5 j hj hu).1.1, fun k hk => by rw [rd_n (by omega)]; exact (g5 j hj hu).1.2 k hk⟩, (g5 j hj hu).2⟩⟩
        · rw [M_setFinal]
          refine pw_be (M_slot_y ha) (pw_f (by decide) (pw_be (M_hs_y (by omega) hMA.1 hp (by omega)) (pw_f (by decide) (pw_be (M_between_y (lo := 0) (hi := 1) hb0 hb1 (by decide)) (pw_f (by decide) (pw_gd (fy_ix_nI (by omega) (by decide)) (pw_gd (fy_ix_nI (by omega) (by decide)) (pw_bl (pw_gd (fy_ix_nI (by omega) (by decide)) (pw_s ?_))))))))))
          rw [nI_clamp (by omega), hMA.2.2.1, e1, rd_y]
          refine ⟨rfl, pu_M_a hw hM (fr_I fr_r (.inl ⟨by decide, by decide, rfl⟩)) ?_⟩
          obtain ⟨g1, g2, g3, g4, g5, g6⟩ := hMA
          exact ⟨by rw [rd_n (by omega)]; exact g1, by rw [rd_n (by omega)]; exact g2, by rw [rd_y], fun y hy => by rw [rd_n (by omega)]; exact g4 y hy, fun j hj => by rw [rd_n (by omega)]; exact g5 j hj, fun j hj hu => ⟨by rw [rd_n (by omega)]; exact (g6 j hj hu).1, fun k hk => (rd_n (by omega)).trans ((g6 j hj hu).2 k hk)⟩⟩
      · refine pu_same (-2) hI ?_ ?_
        · rw [X9_setFinal]; exact pw_eq (pw_be (X_ain_y ha) (pw_be (X_hs_y hXA.1 hp (by omega)) (pw_f (by decide) (pw_be (X_within_n (lo := 0) (hi := 1) hb) (pw_t rfl (pw_s rfl))))))
        · rw [M_setFinal]; exact pw_eq (pw_be (M_slot_y ha) (pw_f (by decide) (pw_be (M_hs_y (by omega) hMA.1 hp (by omega)) (pw_f (by decide) (pw_be (M_between_n (lo := 0) (hi := 1) hb) (pw_t rfl (pw_s rfl)))))))
    · refine pu_same (-2) hI ?_ ?_
      · rw [X9_setFinal]; exact pw_eq (pw_be (X_ain_y ha) (pw_be (X_hs_n hXA.1 hb) (pw_t rfl (pw_s rfl))))
      · rw [M_setFinal]; exact pw_eq (pw_be (M_slot_y ha) (pw_f (by decide) (pw_be (M_hs_n (by omega) hMA.1 hb) (pw_t rfl (pw_s rfl)))))
  · refine pu_same (-2) h ?_ ?_
    · rw [X9_setFinal]; exact pw_eq (pw_be (X_ain_n hb) (pw_s rfl))
    · rw [M_setFinal]; exact pw_eq (pw_be (M_slot_n hb) (pw_t rfl (pw_s rfl)))
/-! append -/
theorem pu_X_t {S S' : fy_S} {G : pu_G} {q : pu_q} (h : pu_X S G) (f : fr (fun i k => i = 3 ∨ i = 4) S S') (hq : pu_l (S'.1 4) (S'.1 3 4) q) : pu_X S' (pu_st_ G q) := by
  obtain ⟨h1, h2, h3, h4, h5, h6, h7, h8⟩ := h
  refine ⟨fun a ha => pu_XA_c (h1 a ha) (fun i k g1 g2 => f i k (by omega)), hq, pu_l_c h3 (f _ _ (by omega)).1 (fun k _ => (f _ _ (by omega)).1), pu_l_c h4 (f _ _ (by omega)).1 (fun k _ => (f _ _ (by omega)).1), pu_l_c h5 (f _ _ (by omega)).1 (fun k _ => (f _ _ (by omega)).1), ?_, ?_, pu_P_c h8 (f _ _ (by omega)).1 (fun i k _ _ => (f _ _ (by omega)).1)⟩
  · rw [(f _ _ (by omega)).1]; exact h6
  · rw [(f _ _ (by omega)).1]; exact h7
theorem pu_M_t {S S' : fy_S} {G : pu_G} {q : pu_q} (hw : pu_W G) (h : pu_M S G) (f : fr (fun i k => (i = 0 ∧ k = 9) ∨ i = 7) S S') (hq : pu_l (S'.1 7) (S'.1 0 9) q) : pu_M S' (pu_st_ G q) := by
  obtain ⟨h1, h2, h3, h4, h5, h6, h7⟩ := h
  refine ⟨fun a ha => pu_MA_c (hw.1 a ha) (h1 a ha) (fun i g1 g2 => (f i a (by omega)).1) (fun k g1 g2 => (f 4 k (by omega)).1) (fun k g1 g2 => (f 5 k (by omega)).1) (fun k g1 g2 => (f 6 k (by omega)).1), hq, pu_l_c h3 (f _ _ (by omega)).1 (fun k _ => (f _ _ (by omega)).1), pu_l_c h4 (f _ _ (by omega)).1 (fun k _ => (f _ _ (by omega)).1), pu_l_c h5 (f _ _ (by omega)).1 (fun k _ => (f _ _ (by omega)).1), ?_, ?_⟩
  · rw [(f _ _ (by omega)).1]; exact h6
  · rw [(f _ _ (by omega)).1]; exact h7
/-- a row with c more of the same -/
def pu_rp (q : pu_q) (c v : Nat) : pu_q := (q.1 + c, fun k => if k < q.1 then q.2 k else v)
theorem pu_rp_ps {f f' : Nat → Int32} {q : pu_q} {i v : Nat} (h : pu_l f (nI (q.1 + i)) (pu_rp q i v)) (hv : f' (q.1 + i) = nI v) (hf : ∀ k, k < q.1 + i → f' k = f k) : pu_l f' (nI (q.1 + (i + 1))) (pu_rp q (i + 1) v) := by
  refine ⟨rfl, fun k hk => ?_⟩
  have hk : k < q.1 + (i + 1) := hk
  show f' k = nI (if k < q.1 then q.2 k else v)
  by_cases hl : k < q.1 + i
  · rw [hf k hl, h.2 k hl]; rfl
  · rw [if_neg (by omega), show k = q.1 + i by omega, hv]
theorem X_add_l {q : pu_q} {c v : Nat} (hc : q.1 + c ≤ 60) (hv : v < 128) : ∀ (d i fu : Nat) (S : fy_S), i + d = c → d < fu → pu_l (S.1 4) (S.1 3 4) (pu_rp q i v) → pw (X4_add_2 fu S (nI v) (nI c) (nI i)) (fun S' => pu_l (S'.1 4) (S'.1 3 4) (pu_rp q c v) ∧ fr (fun i k => i = 3 ∨ i = 4) S S') := by
  intro d
  induction d with
  | zero =>
    intro i fu S hi hfu hl
    obtain ⟨fu, rfl⟩ : ∃ z, fu = z + 1 := ⟨fu - 1, by omega⟩
    have : i = c := by omega
    subst this
    rw [X4_add_2]
    exact pw_t (nI_le (Nat.le_refl _) (by omega)) (pw_s ⟨hl, fr_r⟩)
  | succ d ih =>
    intro i fu S hi hfu hl
    obtain ⟨fu, rfl⟩ : ∃ z, fu = z + 1 := ⟨fu - 1, by omega⟩
    have hq : S.1 3 4 = nI (q.1 + i) := hl.1
    rw [X4_add_2]
    refine pw_f (nI_ge (by omega) (by omega)) ?_
    rw [hq]
    refine pw_f (show ¬ (60 : Int32) ≤ nI (q.1 + i) from nI_ge (b := 60) (by omega) (by decide)) (pw_gd (fy_ix_nI (by omega) (by decide)) (pw_bl (pw_bl (pw_bl ?_))))
    rw [nI_clamp (by omega), show vp_nar .char (nI v) = nI v from fb_char (by omega), rd_n (by omega), hq, nI_1, nI_1]
    refine pw_m (ih (i + 1) fu _ (by omega) (by omega) ?_) (fun S' h' => ⟨h'.1, fr_t (fr_I (fr_I fr_r (.inr rfl)) (.inl rfl)) h'.2⟩)
    rw [rd_y]
    refine pu_rp_ps (f := S.1 4) (by rw [hq] at hl; exact hl) ?_ (fun k hk => ?_)
    · rw [rd_n (by omega), rd_y]
    · rw [rd_n (by omega), rd_n (by omega)]
theorem M_append_l {q : pu_q} {c v : Nat} (hc : q.1 + c ≤ 60) : ∀ (d i fu : Nat) (S : fy_S), i + d = c → d < fu → S.1 0 9 = nI q.1 → pu_l (S.1 7) (nI (q.1 + i)) (pu_rp q i v) → pw (M_append_39 fu S (nI v) (nI c) (nI i)) (fun R => R.2 = nI (q.1 + c) ∧ pu_l (R.1.1 7) (R.1.1 0 9) (pu_rp q c v) ∧ fr (fun i k => (i = 0 ∧ k = 9) ∨ i = 7) S R.1) := by
  intro d
  induction d with
  | zero =>
    intro i fu S hi hfu h9 hl
    obtain ⟨fu, rfl⟩ : ∃ z, fu = z + 1 := ⟨fu - 1, by omega⟩
    have : i = c := by omega
    subst this
    rw [M_append_39]
    refine pw_t (nI_le (Nat.le_refl _) (by omega)) (pw_bl (pw_s ?_))
    rw [rd_y, h9, nI_add]
    refine ⟨rfl, pu_l_c hl rfl (fun k _ => rd_n (by omega)), fr_I fr_r (.inl ⟨rfl, rfl⟩)⟩
  | succ d ih =>
    intro i fu S hi hfu h9 hl
    obtain ⟨fu, rfl⟩ : ∃ z, fu = z + 1 := ⟨fu - 1, by omega⟩
    rw [M_append_39]
    refine pw_f (nI_ge (by omega) (by omega)) ?_
    rw [h9, nI_add]
    refine pw_gd (fy_ix_nI (by omega) (by decide)) (pw_bl (pw_bl ?_))
    rw [nI_clamp (by omega), nI_1]
    refine pw_m (ih (i + 1) fu _ (by omega) (by omega) (by rw [rd_n (by omega)]; exact h9) ?_) (fun S' h' => ⟨h'.1, h'.2.1, fr_t (fr_I fr_r (.inr rfl)) h'.2.2⟩)
    refine pu_rp_ps hl ?_ (fun k hk => ?_)
    · rw [rd_y]
    · rw [rd_n (by omega)]
theorem ez_append {SX SM : fy_S} (v1 v2 : Int32) (h : pu_I SX SM) : pu_O (X9_append SX v1 v2) (M_append SM v1 v2) := by
  rcases pu_bw (lo := 0) (hi := 127) v1 (by decide) (by decide) with ⟨x, hx0, hx, rfl⟩ | hb
  · rcases pu_bw (lo := 1) (hi := 60) v2 (by decide) (by decide) with ⟨c, hc0, hc, rfl⟩ | hb
    · obtain ⟨G, hw, hX, hM⟩ := h
      have hlen : G.2.1.1 ≤ 60 := hw.2.1.1
      have h0 : pu_rp G.2.1 0 x = (G.2.1.1, fun k => if k < G.2.1.1 then G.2.1.2 k else x) := rfl
      by_cases hf : G.2.1.1 + c ≤ 60
      · refine pu_both (pu_st_ G (pu_rp G.2.1 c x)) (nI (G.2.1.1 + c)) ⟨hw.1, ⟨hf, fun k hk => ?_⟩, hw.2.2⟩ ?_ ?_
        · show (if k < G.2.1.1 then G.2.1.2 k else x) < 128
          by_cases hk2 : k < G.2.1.1
          · rw [if_pos hk2]; exact hw.2.1.2 k hk2
          · rw [if_neg hk2]; omega
        · rw [X9_append]
          refine pw_be (X_within_y (lo := 0) (hi := 127) hx0 hx (by decide)) (pw_f (by decide) (pw_be (X_within_y (lo := 1) (hi := 60) hc0 hc (by decide)) (pw_f (by decide) ?_)))
          rw [hX.2.1.1, nI_add, show ((nI x).toUInt32 % 65536).toInt32 = nI x by rw [pk_char, pk_tn (by omega), Nat.mod_eq_of_lt (by omega)]]
          refine pw_t (show nI (G.2.1.1 + c) ≤ 60 from nI_le (b := 60) hf (by decide)) (pw_bd (X_add_l (q := G.2.1) hf (by omega) c 0 fy_fu SX (by omega) (fz_fu (by omega)) ?_) (fun S' h' => pw_s ⟨h'.1.1, pu_X_t hX h'.2 h'.1⟩))
          exact ⟨hX.2.1.1, fun k hk => by
            have hk : k < G.2.1.1 := hk
            show _ = nI (if k < G.2.1.1 then G.2.1.2 k else x)
            rw [if_pos hk]; exact hX.2.1.2 k hk⟩
        · rw [M_append]
          refine pw_be (M_between_y (lo := 0) (hi := 127) hx0 hx (by decide)) (pw_f (by decide) (pw_be (M_between_y (lo := 1) (hi := 60) hc0 hc (by decide)) (pw_f (by decide) ?_)))
          rw [hM.2.1.1, nI_add]
          refine pw_t (show nI (G.2.1.1 + c) ≤ 60 from nI_le (b := 60) hf (by decide)) (pw_m (M_append_l (q := G.2.1) hf c 0 fy_fu SM (by omega) (fz_fu (by omega)) hM.2.1.1 ?_) (fun S' h' => ⟨h'.1, pu_M_t hw hM h'.2.2 h'.2.1⟩))
          exact ⟨rfl, fun k hk => by
            have hk : k < G.2.1.1 := hk
            show _ = nI (if k < G.2.1.1 then G.2.1.2 k else x)
            rw [if_pos hk]; exact hM.2.1.2 k hk⟩
      · refine pu_both G (-3) hw ?_ ?_
        · rw [X9_append]
          refine pw_be (X_within_y (lo := 0) (hi := 127) hx0 hx (by decide)) (pw_f (by decide) (pw_be (X_within_y (lo := 1) (hi := 60) hc0 hc (by decide)) (pw_f (by decide) ?_)))
          rw [hX.2.1.1, nI_add]
          exact pw_f (show ¬ nI (G.2.1.1 + c) ≤ 60 from nI_ge (a := 60) (by omega) (by omega)) (pw_s ⟨rfl, hX⟩)
        · rw [M_append]
          refine pw_be (M_between_y (lo := 0) (hi := 127) hx0 hx (by decide)) (pw_f (by decide) (pw_be (M_between_y (lo := 1) (hi := 60) hc0 hc (by decide)) (pw_f (by decide) ?_)))
          rw [hM.2.1.1, nI_add]
          exact pw_f (show ¬ nI (G.2.1.1 + c) ≤ 60 from nI_ge (a := 60) (by omega) (by omega)) (pw_s ⟨rfl, hM⟩)
    · refine pu_same (-2) h ?_ ?_
      · rw [X9_append]; exact pw_eq (pw_be (X_within_y (lo := 0) (hi := 127) hx0 hx (by decide)) (pw_f (by decide) (pw_be (X_within_n (lo := 1) (hi := 60) hb) (pw_t rfl (pw_s rfl)))))
      · rw [M_append]; exact pw_eq (pw_be (M_between_y (lo := 0) (hi := 127) hx0 hx (by decide)) (pw_f (by decide) (pw_be (M_between_n (lo := 1) (hi := 60) hb) (pw_t rfl (pw_s rfl)))))
  · refine pu_same (-2) h ?_ ?_
    · rw [X9_append]; exact pw_eq (pw_be (X_within_n (lo := 0) (hi := 127) hb) (pw_t rfl (pw_s rfl)))
    · rw [M_append]; exact pw_eq (pw_be (M_between_n (lo := 0) (hi := 127) hb) (pw_t rfl (pw_s rfl)))
