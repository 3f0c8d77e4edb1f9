/-! combine: the call -/
theorem X_284 : (284 : Nat) = 38 + 41 * 6 := rfl
theorem X_comb1 {S : fy_S} {G : pu_G} {a b c w : Nat} (hw : pu_W G) (hX : pu_X S G) (ha : a < 3) (hb : b < 3) (hc : c < 3) (hw1 : w ≤ 1) (hm : (G.1 a).2.1 = (G.1 b).2.1) (h6 : (G.1 a).1 + (G.1 b).1 ≤ 6) (h40 : ((G.1 a).2.2.2.2 0).1 + ((G.1 b).2.2.2.2 0).1 + 1 ≤ 40) : pw (X9_combine_128 S (38 + 41 * c) (nI (8 + w)) (38 + 41 * b) (38 + 41 * a)) (fun R => R.2 = nI ((G.1 a).1 + (G.1 b).1) ∧ pu_X R.1 (pu_sA G c (pu_jA (8 + w) (G.1 a) (G.1 b)))) := by
  have hA := hw.1 a (by omega)
  have hB := hw.1 b (by omega)
  have hW := pu_jA_w (op := 8 + w) (by omega) hA hB hm h6 h40
  rw [X9_combine_128, X_284]
  refine pw_bd (X_joA (op := 8 + w) (by omega) (by omega) (by omega) hA hB hm h6 h40 (hX.1 a (by omega)) (hX.1 b (by omega))) (fun S1 s1 => pw_bd (X_cpA (by omega) (by decide) (by omega) hW s1.1) (fun S2 s2 => pw_s ⟨s2.1.1, ?_⟩))
  exact pu_X_a (pu_X_fr hw hX (fr_m s1.2 (fun i k h => by unfold pu_xs; omega))) s2.2 s2.1
theorem M_comb1 {S : fy_S} {G : pu_G} {a b c w : Nat} (hw : pu_W G) (hM : pu_M S G) (ha : a < 3) (hb : b < 3) (hc : c < 3) (hw1 : w ≤ 1) (hm : (G.1 a).2.1 = (G.1 b).2.1) (h6 : (G.1 a).1 + (G.1 b).1 ≤ 6) (h40 : ((G.1 a).2.2.2.2 0).1 + ((G.1 b).2.2.2.2 0).1 + 1 ≤ 40) : pw (fy_bd (M_empties S (6 : Int32) (nI (G.1 a).1 + nI (G.1 b).1) (nI (G.1 a).2.1)) fun S115 => fy_gd (fy_ix (nI a) 7) <| fy_gd (fy_ix (nI b) 7) <| fy_gd (fy_ix (6 : Int32) 7) <| fy_bl (fy_sI S115 3 (6 : Int32).toNatClampNeg ((S115.1 3 (nI a).toNatClampNeg) ||| ((S115.1 3 (nI b).toNatClampNeg) <<< (nI (G.1 a).1 &&& 31)))) fun S140 => M_combine_144 fy_fu S140 (nI a) (nI b) (nI c) (nI w) (nI (G.1 a).1) (0 : Int32)) (fun R => R.2 = nI ((G.1 a).1 + (G.1 b).1) ∧ pu_M R.1 (pu_sA G c (pu_jA (8 + w) (G.1 a) (G.1 b)))) := by
  have hA := hw.1 a (by omega)
  have hB := hw.1 b (by omega)
  rw [nI_add, show (6 : Int32).toNatClampNeg = 6 from rfl, nI_clamp (by omega), nI_clamp (by omega)]
  refine pw_bd (M_emp (a := 6) (by decide)) (fun S1 s1 => pw_gd (fy_ix_nI (by omega) (by decide)) (pw_gd (fy_ix_nI (by omega) (by decide)) (pw_gd (by decide) (pw_bl ?_))))
  have f1 : fr pu_ms S S1 := fr_m s1.2 (fun i k h => by unfold pu_ma at h; unfold pu_ms; omega)
  have hM1 := pu_M_fr hw hM f1
  have gA := hM1.1 a (by omega)
  have gB := hM1.1 b (by omega)
  rw [gA.2.2.1, gB.2.2.1, (pu_jF (G.1 a).1 (by omega) (G.1 b).1 (by omega) h6 _ hA.2.2.2.2.1 _ hB.2.2.2.2.1).1]
  have f : fr (fun i k => i = 3 ∧ k = 6) S1 (fy_sI S1 3 6 (nI ((G.1 a).2.2.1 + (G.1 b).2.2.1 * 2 ^ (G.1 a).1))) := fr_I fr_r ⟨rfl, rfl⟩
  have hM2 : pu_M _ G := pu_M_fr hw hM1 (fr_m f (fun i k h => by unfold pu_ms; omega))
  refine pw_m (M_jo_2 (w := w) ha hb hc hw1 hA hB hm h6 h40 3 0 fy_fu _ (by omega) (fz_fu (by omega)) (by rw [(f _ _ (by omega)).1]; exact s1.1.1) (by rw [(f _ _ (by omega)).1]; exact s1.1.2.1) rd_y (fun x hx => absurd hx (Nat.not_lt_zero x)) (fun j hj => by rw [(f _ _ (by omega)).1]; exact s1.1.2.2.2.2.1 j hj) (hM2.1 a (by omega)) (hM2.1 b (by omega))) (fun R r => ⟨r.1, ?_⟩)
  obtain ⟨-, r1, r2⟩ := r
  have hs := hw.2.2.2.2.2
  obtain ⟨h1, h2, h3, h4, h5, h6', h7⟩ := hM2
  have q : ∀ i k, (i = 0 ∨ 7 ≤ i) → ¬ (pu_ma 6 i k ∨ pu_ma c i k) := fun i k h => by unfold pu_ma; omega
  refine ⟨fun z hz => ?_, pu_l_c h2 (r2 _ _ (q _ _ (by omega))).1 (fun k _ => (r2 _ _ (q _ _ (by omega))).1), pu_l_c h3 (r2 _ _ (q _ _ (by omega))).1 (fun k _ => (r2 _ _ (q _ _ (by omega))).1), pu_l_c h4 (r2 _ _ (q _ _ (by omega))).1 (fun k _ => (r2 _ _ (q _ _ (by omega))).1), pu_l_c h5 (r2 _ _ (q _ _ (by omega))).1 (fun k _ => (r2 _ _ (q _ _ (by omega))).1), ?_, ?_⟩
  · have hz : z < 3 + 3 * G.2.2.2.2.2.2 := hz
    show pu_MA R.1 z (if z = c then _ else G.1 z)
    by_cases e : z = c
    · rw [if_pos e, e]; exact r1
    · rw [if_neg e]
      exact pu_MA_c (hw.1 z hz) (h1 z hz) (fun i g1 g2 => (r2 i z (by unfold pu_ma; omega)).1) (fun k g1 g2 => (r2 4 k (by unfold pu_ma; omega)).1) (fun k g1 g2 => (r2 5 k (by unfold pu_ma; omega)).1) (fun k g1 g2 => (r2 6 k (by unfold pu_ma; omega)).1)
  · rw [(r2 _ _ (q _ _ (by omega))).1]; exact h6'
  · rw [(r2 _ _ (q _ _ (by omega))).1]; exact h7
theorem ez_combine {SX SM : fy_S} (v1 v2 v3 v4 : Int32) (h : pu_I SX SM) : pu_O (X9_combine SX v1 v2 v3 v4) (M_combine SM v1 v2 v3 v4) := by
  rcases pu_slot v1 with ⟨a, ha, rfl⟩ | hb1
  · rcases pu_slot v2 with ⟨b, hb, rfl⟩ | hb2
    · rcases pu_slot v3 with ⟨c, hc, rfl⟩ | hb3
      · rcases pu_bw (lo := 0) (hi := 1) v4 (by decide) (by decide) with ⟨w, _, hw1, rfl⟩ | hb4
        · have hI := h
          obtain ⟨G, hw, hX, hM⟩ := h
          have hA := hw.1 a (by omega)
          have hB := hw.1 b (by omega)
          have xA := hX.1 a (by omega)
          have xB := hX.1 b (by omega)
          have mA := hM.1 a (by omega)
          have mB := hM.1 b (by omega)
          have hu0 : pu_u (G.1 a) 0 := .inl rfl
          have hv0 : pu_u (G.1 b) 0 := .inl rfl
          have a6 : (G.1 a).1 ≤ 6 := hA.2.1
          have b6 : (G.1 b).1 ≤ 6 := hB.2.1
          have am : (G.1 a).2.1 ≤ 3 := hA.2.2.2.1
          have bm : (G.1 b).2.1 ≤ 3 := hB.2.2.2.1
          have aq := (hA.2.2.2.2.2.2 0 (by decide) hu0).2.1
          have bq := (hB.2.2.2.2.2.2 0 (by decide) hv0).2.1
          have sA : SX.1 (38 + 41 * a + 3) 1 = nI ((G.1 a).2.2.2.2 0).1 := (xA.2.2.2.2 0 (by decide) hu0).1.1
          have sB : SX.1 (38 + 41 * b + 3) 1 = nI ((G.1 b).2.2.2.2 0).1 := (xB.2.2.2.2 0 (by decide) hv0).1.1
          have tA := M_size (S := SM) (a := a) (j := 0) (by omega) (by decide) (mA.2.2.2.2.2 0 (by decide) hu0).1
          have tB := M_size (S := SM) (a := b) (j := 0) (by omega) (by decide) (mB.2.2.2.2.2 0 (by decide) hv0).1
          have iX : X9_isWithin SX (nI w) 0 1 = some 1 := X_within_y (lo := 0) (hi := 1) (Nat.zero_le _) hw1 (by decide)
          have iM : M_isBetween SM (nI w) 0 1 = some 1 := M_between_y (lo := 0) (hi := 1) (Nat.zero_le _) hw1 (by decide)
          by_cases hm : (G.1 a).2.1 = (G.1 b).2.1
          · by_cases h6 : (G.1 a).1 + (G.1 b).1 ≤ 6
            · by_cases h40 : ((G.1 a).2.2.2.2 0).1 + ((G.1 b).2.2.2.2 0).1 + 1 ≤ 40
              · refine pu_both (pu_sA G c (pu_jA (8 + w) (G.1 a) (G.1 b))) (nI ((G.1 a).1 + (G.1 b).1)) (pu_W_a hw (pu_jA_w (by omega) hA hB hm h6 h40)) ?_ ?_
                · rw [X9_combine]
                  refine pw_be (X_ain_y ha) (pw_be (X_ain_y hb) (pw_be (X_ain_y hc) (pw_be iX (pw_f (by decide) ?_))))
                  rw [xA.1, xB.1, xA.2.1, xB.2.1, sA, sB, nI_add, nI_add, nI_1]
                  refine pw_t (by rw [hm]) (pw_f (nI_nlt (a := 6) h6 (by decide)) (pw_t (nI_le (b := 40) h40 (by decide)) ?_))
                  have := X_comb1 hw hX ha hb hc hw1 hm h6 h40
                  by_cases e : w = 0
                  · subst e; exact pw_t rfl this
                  · have e : w = 1 := by omega
                    subst e; exact pw_f (by decide) this
                · rw [M_combine]
                  refine pw_be (M_slot_y ha) (pw_f (by decide) (pw_be (M_slot_y hb) (pw_f (by decide) (pw_be (M_slot_y hc) (pw_f (by decide) (pw_be iM (pw_f (by decide) (pw_gd (fy_ix_nI (by omega) (by decide)) (pw_gd (fy_ix_nI (by omega) (by decide)) (pw_t ?_ (pw_gd (fy_ix_nI (by omega) (by decide)) (pw_bl (pw_gd (fy_ix_nI (by omega) (by decide)) (pw_f ?_ (pw_be tA (pw_be tB (pw_t ?_ (pw_gd (fy_ix_nI (by omega) (by decide)) (pw_gd (fy_ix_nI (by omega) (by decide)) ?_)))))))))))))))))))
                  · rw [nI_clamp (by omega), nI_clamp (by omega), mA.2.1, mB.2.1, hm]
                  · rw [nI_clamp (by omega), nI_clamp (by omega), mA.1, mB.1, nI_add]; exact nI_nlt (a := 6) h6 (by decide)
                  · show nI ((G.1 a).2.2.2.2 0).1 + nI ((G.1 b).2.2.2.2 0).1 + 1 ≤ 40
                    rw [nI_add, nI_1]; exact nI_le (b := 40) h40 (by decide)
                  · have := M_comb1 hw hM ha hb hc hw1 hm h6 h40
                    rw [show (nI a).toNatClampNeg = a from nI_clamp (by omega), show (nI b).toNatClampNeg = b from nI_clamp (by omega)] at this ⊢
                    rw [mA.1, mB.1, mA.2.1]
                    exact this
              · refine pu_same (-3) hI ?_ ?_
                · rw [X9_combine]
                  refine pw_eq (pw_be (X_ain_y ha) (pw_be (X_ain_y hb) (pw_be (X_ain_y hc) (pw_be iX (pw_f (by decide) ?_)))))
                  rw [xA.1, xB.1, xA.2.1, xB.2.1, sA, sB, nI_add, nI_add, nI_1]
                  exact pw_t (by rw [hm]) (pw_f (nI_nlt (a := 6) h6 (by decide)) (pw_f (nI_ge (a := 40) (by omega) (by omega)) (pw_s rfl)))
                · rw [M_combine]
                  refine pw_eq (pw_be (M_slot_y ha) (pw_f (by decide) (pw_be (M_slot_y hb) (pw_f (by decide) (pw_be (M_slot_y hc) (pw_f (by decide) (pw_be iM (pw_f (by decide) (pw_gd (fy_ix_nI (by omega) (by decide)) (pw_gd (fy_ix_nI (by omega) (by decide)) (pw_t ?_ (pw_gd (fy_ix_nI (by omega) (by decide)) (pw_bl (pw_gd (fy_ix_nI (by omega) (by decide)) (pw_f ?_ (pw_be tA (pw_be tB (pw_f ?_ (pw_s rfl)))))))))))))))))))
                  · rw [nI_clamp (by omega), nI_clamp (by omega), mA.2.1, mB.2.1, hm]
                  · rw [nI_clamp (by omega), nI_clamp (by omega), mA.1, mB.1, nI_add]; exact nI_nlt (a := 6) h6 (by decide)
                  · show ¬ nI ((G.1 a).2.2.2.2 0).1 + nI ((G.1 b).2.2.2.2 0).1 + 1 ≤ 40
                    rw [nI_add, nI_1]; exact nI_ge (a := 40) (by omega) (by omega)
            · refine pu_same (-3) hI ?_ ?_
              · rw [X9_combine]
                refine pw_eq (pw_be (X_ain_y ha) (pw_be (X_ain_y hb) (pw_be (X_ain_y hc) (pw_be iX (pw_f (by decide) ?_)))))
                rw [xA.1, xB.1, xA.2.1, xB.2.1, nI_add]
                exact pw_t (by rw [hm]) (pw_t (nI_lt (a := 6) (by omega) (by omega)) (pw_s rfl))
              · rw [M_combine]
                refine pw_eq (pw_be (M_slot_y ha) (pw_f (by decide) (pw_be (M_slot_y hb) (pw_f (by decide) (pw_be (M_slot_y hc) (pw_f (by decide) (pw_be iM (pw_f (by decide) (pw_gd (fy_ix_nI (by omega) (by decide)) (pw_gd (fy_ix_nI (by omega) (by decide)) (pw_t ?_ (pw_gd (fy_ix_nI (by omega) (by decide)) (pw_bl (pw_gd (fy_ix_nI (by omega) (by decide)) (pw_t ?_ (pw_s rfl))))))))))))))))
                · rw [nI_clamp (by omega), nI_clamp (by omega), mA.2.1, mB.2.1, hm]
                · rw [nI_clamp (by omega), nI_clamp (by omega), mA.1, mB.1, nI_add]; exact nI_lt (a := 6) (by omega) (by omega)
          · refine pu_same (-4) hI ?_ ?_
            · rw [X9_combine]
              refine pw_eq (pw_be (X_ain_y ha) (pw_be (X_ain_y hb) (pw_be (X_ain_y hc) (pw_be iX (pw_f (by decide) ?_)))))
              rw [xA.2.1, xB.2.1]
              exact pw_f (fun e => hm ((nI_eq (by omega) (by omega)).mp e)) (pw_s rfl)
            · rw [M_combine]
              refine pw_eq (pw_be (M_slot_y ha) (pw_f (by decide) (pw_be (M_slot_y hb) (pw_f (by decide) (pw_be (M_slot_y hc) (pw_f (by decide) (pw_be iM (pw_f (by decide) (pw_gd (fy_ix_nI (by omega) (by decide)) (pw_gd (fy_ix_nI (by omega) (by decide)) (pw_f ?_ (pw_s rfl))))))))))))
              rw [nI_clamp (by omega), nI_clamp (by omega), mA.2.1, mB.2.1]
              exact fun e => hm ((nI_eq (by omega) (by omega)).mp e)
        · refine pu_same (-2) h ?_ ?_
          · rw [X9_combine]; exact pw_eq (pw_be (X_ain_y ha) (pw_be (X_ain_y hb) (pw_be (X_ain_y hc) (pw_be (X_within_n (lo := 0) (hi := 1) hb4) (pw_t rfl (pw_s rfl))))))
          · rw [M_combine]; exact pw_eq (pw_be (M_slot_y ha) (pw_f (by decide) (pw_be (M_slot_y hb) (pw_f (by decide) (pw_be (M_slot_y hc) (pw_f (by decide) (pw_be (M_between_n (lo := 0) (hi := 1) hb4) (pw_t rfl (pw_s rfl)))))))))
      · refine pu_same (-2) h ?_ ?_
        · rw [X9_combine]; exact pw_eq (pw_be (X_ain_y ha) (pw_be (X_ain_y hb) (pw_be (X_ain_n hb3) (pw_s rfl))))
        · rw [M_combine]; exact pw_eq (pw_be (M_slot_y ha) (pw_f (by decide) (pw_be (M_slot_y hb) (pw_f (by decide) (pw_be (M_slot_n hb3) (pw_t rfl (pw_s rfl)))))))
    · have e3 : ∃ r, X9_automatonIn SX v3 = some r := by
        rcases pu_slot v3 with ⟨c, hc, rfl⟩ | hb3
        · exact ⟨_, X_ain_y hc⟩
        · exact ⟨_, X_ain_n hb3⟩
      obtain ⟨r3, e3⟩ := e3
      refine pu_same (-2) h ?_ ?_
      · rw [X9_combine]; exact pw_eq (pw_be (X_ain_y ha) (pw_be (X_ain_n hb2) (pw_be e3 (pw_s rfl))))
      · rw [M_combine]; exact pw_eq (pw_be (M_slot_y ha) (pw_f (by decide) (pw_be (M_slot_n hb2) (pw_t rfl (pw_s rfl)))))
  · have e3 : ∀ v, ∃ r, X9_automatonIn SX v = some r := fun v => by
      rcases pu_slot v with ⟨c, hc, rfl⟩ | hb3
      · exact ⟨_, X_ain_y hc⟩
      · exact ⟨_, X_ain_n hb3⟩
    obtain ⟨r2, e2⟩ := e3 v2
    obtain ⟨r3, e3⟩ := e3 v3
    refine pu_same (-2) h ?_ ?_
    · rw [X9_combine]; exact pw_eq (pw_be (X_ain_n hb1) (pw_be e2 (pw_be e3 (pw_s rfl))))
    · rw [M_combine]; exact pw_eq (pw_be (M_slot_n hb1) (pw_t rfl (pw_s rfl)))
