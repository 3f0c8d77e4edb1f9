/-! rank: the reference's ranks of states; the call -/
def pu_sr (S : fy_S) (A : pu_A) (w : pu_q) (d : Nat) : Prop := ∀ p, p < A.1 → S.1 15 p = nI (pu_rk A w d p) ∧ pu_rk A w d p ≤ 10000 + 41 * d
theorem pu_vv_nd {V : Nat → Nat} {q : pu_q} (h : 1 ≤ q.1) : pu_vv V q = pu_nd V q.2 (q.1 - 1) := by
  unfold pu_vv pu_nd
  rw [show q.1 - 1 + 1 = q.1 by omega]
theorem M_fr_2 {a st : Nat} {A : pu_A} {w : pu_q} (ha : a < 7) (hA : pu_wA A) (hw : w.1 ≤ 12) (hf : pu_fit w A.2.1 w.1 = true) (hst : st ≤ w.1) : ∀ c d fu S, st + c + d = w.1 → c < fu → pu_MA S a A → pu_l (S.1 14) (S.1 0 25) w → pu_sr S A w d → pw (M_findRanks_52 fu S (nI a) (nI st) (nI (st + c) - 1)) (fun S' => pu_sr S' A w (w.1 - st) ∧ fr (fun i _ => i = 10 ∨ i = 11 ∨ (15 ≤ i ∧ i ≤ 17)) S S') := by
  have hn6 : A.1 ≤ 6 := hA.2.1
  have hm3 : A.2.1 ≤ 3 := hA.2.2.2.1
  intro c
  induction c with
  | zero =>
    intro d fu S hd hfu hX hl hr
    obtain ⟨fu, rfl⟩ : ∃ z, fu = z + 1 := ⟨fu - 1, by omega⟩
    rw [M_findRanks_52]
    refine pw_t (pu_pre (by omega)) (pw_s ⟨?_, fr_r⟩)
    rw [show w.1 - st = d by omega]; exact hr
  | succ c ih =>
    intro d fu S hd hfu hX hl hr
    obtain ⟨fu, rfl⟩ : ∃ z, fu = z + 1 := ⟨fu - 1, by omega⟩
    have hlt := pu_fit_t hf (st + c) (by omega)
    have mvX : ∀ S', fr (fun i _ => i = 10 ∨ i = 11 ∨ (15 ≤ i ∧ i ≤ 17)) S S' → pu_MA S' a A := fun S' f => pu_MA_c hA hX (fun i g1 g2 => (f _ _ (by omega)).1) (fun k g1 g2 => (f _ _ (by omega)).1) (fun k g1 g2 => (f _ _ (by omega)).1) (fun k g1 g2 => (f _ _ (by omega)).1)
    have mvL : ∀ S', fr (fun i _ => i = 10 ∨ i = 11 ∨ (15 ≤ i ∧ i ≤ 17)) S S' → pu_l (S'.1 14) (S'.1 0 25) w := fun S' f => pu_l_c hl (f _ _ (by omega)).1 (fun k _ => (f _ _ (by omega)).1)
    rw [M_findRanks_52, ← Nat.add_assoc, nI_pred]
    refine pw_f (nI_nlt (by omega) (by omega)) ?_
    have copy : ∀ e p fu' S', p + e = A.1 → e < fu' → fr (fun i _ => i = 10 ∨ i = 11 ∨ (15 ≤ i ∧ i ≤ 17)) S S' → (∀ p', p' < A.1 → S'.1 16 p' = nI (pu_rk A w (d + 1) p') ∧ pu_rk A w (d + 1) p' ≤ 10000 + 41 * (d + 1)) → (∀ p', p' < p → S'.1 15 p' = nI (pu_rk A w (d + 1) p')) → pw (M_findRanks_123 (fun S v1 v2 v3 => M_findRanks_52 fu S v1 v2 v3) fu' S' (nI a) (nI st) (nI (st + c)) (nI p)) (fun S' => pu_sr S' A w (w.1 - st) ∧ fr (fun i _ => i = 10 ∨ i = 11 ∨ (15 ≤ i ∧ i ≤ 17)) S S') := by
      intro e
      induction e with
      | zero =>
        intro p fu' S' hp hfu' hfr h16 h15
        obtain ⟨fu', rfl⟩ : ∃ z, fu' = z + 1 := ⟨fu' - 1, by omega⟩
        have : p = A.1 := by omega
        subst this
        rw [M_findRanks_123, nI_clamp (by omega), (mvX S' hfr).1]
        refine pw_gd (fy_ix_nI ha (by decide)) (pw_t (nI_le (Nat.le_refl _) (by omega)) (pw_bl ?_))
        rw [pu_m1]
        exact pw_m (ih (d + 1) fu S' (by omega) (by omega) (mvX S' hfr) (mvL S' hfr) (fun p' hp' => ⟨h15 p' hp', (h16 p' hp').2⟩)) (fun S'' h'' => ⟨h''.1, fr_t hfr h''.2⟩)
      | succ e ih2 =>
        intro p fu' S' hp hfu' hfr h16 h15
        obtain ⟨fu', rfl⟩ : ∃ z, fu' = z + 1 := ⟨fu' - 1, by omega⟩
        have hpn : p < A.1 := by omega
        rw [M_findRanks_123, nI_clamp (by omega), (mvX S' hfr).1]
        refine pw_gd (fy_ix_nI ha (by decide)) (pw_f (nI_ge hpn (by omega)) (pw_gd (fy_ix_nI (by omega) (by decide)) (pw_gd (fy_ix_nI (by omega) (by decide)) (pw_bl (pw_bl ?_)))))
        rw [nI_clamp (by omega), nI_1, (h16 p hpn).1]
        refine ih2 (p + 1) fu' _ (by omega) (by omega) (fr_I hfr (by omega)) (fun p' hp' => by rw [rd_n (by omega)]; exact h16 p' hp') (fun p' hp' => ?_)
        by_cases ep : p' = p
        · rw [ep, rd_y]
        · rw [rd_n (by omega)]; exact h15 p' (by omega)
    have inner : ∀ e p fu' S', p + e = A.1 → e < fu' → fr (fun i _ => i = 10 ∨ i = 11 ∨ (15 ≤ i ∧ i ≤ 17)) S S' → pu_sr S' A w d → (∀ p', p' < p → S'.1 16 p' = nI (pu_rk A w (d + 1) p') ∧ pu_rk A w (d + 1) p' ≤ 10000 + 41 * (d + 1)) → pw (M_findRanks_60 (fun S v1 v2 v3 => M_findRanks_52 fu S v1 v2 v3) fu' S' (nI a) (nI st) (nI (st + c)) (nI p)) (fun S' => pu_sr S' A w (w.1 - st) ∧ fr (fun i _ => i = 10 ∨ i = 11 ∨ (15 ≤ i ∧ i ≤ 17)) S S') := by
      intro e
      induction e with
      | zero =>
        intro p fu' S' hp hfu' hfr hr' h16
        obtain ⟨fu', rfl⟩ : ∃ z, fu' = z + 1 := ⟨fu' - 1, by omega⟩
        have : p = A.1 := by omega
        subst this
        rw [M_findRanks_60, nI_clamp (by omega), (mvX S' hfr).1]
        exact pw_gd (fy_ix_nI ha (by decide)) (pw_t (nI_le (Nat.le_refl _) (by omega)) (copy A.1 0 fy_fu S' (by omega) (fz_fu (by omega)) hfr h16 (fun p' hp' => absurd hp' (Nat.not_lt_zero p'))))
      | succ e ih2 =>
        intro p fu' S' hp hfu' hfr hr' h16
        obtain ⟨fu', rfl⟩ : ∃ z, fu' = z + 1 := ⟨fu' - 1, by omega⟩
        have hpn : p < A.1 := by omega
        have hu : pu_u A (1 + 3 * p + w.2 (st + c)) := pu_u_m hpn hlt hm3
        have hj : 1 + 3 * p + w.2 (st + c) < 19 := by omega
        have hq := hA.2.2.2.2.2.2 _ hj hu
        have hX' := mvX S' hfr
        have q1 := hq.1
        have q40 := hq.2.1
        rw [M_findRanks_60, nI_clamp (by omega), hX'.1]
        refine pw_gd (fy_ix_nI ha (by decide)) (pw_f (nI_ge hpn (by omega)) (pw_gd (fy_ix_nI (by omega) (by decide)) ?_))
        rw [nI_clamp (by omega), (mvL S' hfr).2 _ (by omega)]
        refine pw_be M_fof (pw_bd (M_nr (V := pu_rk A w d) (M := 10000 + 41 * d) ha hj hn6 hq (by omega) (by omega) (fun z hz => (hr' z hz).2) (hX'.2.2.2.2.2 _ hj hu) (fun z hz => (hr' z hz).1)) (fun S1 s1 => ?_))
        have hb := pu_nd_le (V := pu_rk A w d) (M := 10000 + 41 * d) hn6 hq (by omega) (fun z hz => (hr' z hz).2) ((A.2.2.2.2 (1 + 3 * p + w.2 (st + c))).1 - 1) (by omega)
        refine pw_be (M_size ha hj (by rw [(s1.2.2 _ _ (by omega)).1]; exact (hX'.2.2.2.2.2 _ hj hu).1)) ?_
        dsimp only
        rw [show nI (A.2.2.2.2 (1 + 3 * p + w.2 (st + c))).1 - (1 : Int32) = nI ((A.2.2.2.2 (1 + 3 * p + w.2 (st + c))).1 - 1) from pk_sub (b := 1) q1]
        refine pw_gd (fy_ix_nI (by omega) (by decide)) (pw_gd (fy_ix_nI (by omega) (by decide)) (pw_bl (pw_bl ?_)))
        rw [nI_clamp (by omega), nI_clamp (by omega), s1.1 _ (by omega), show ∀ z : Nat, (1 : Int32) + nI z = nI (1 + z) from fun z => nI_add 1 z, nI_1]
        have erk : pu_rk A w (d + 1) p = 1 + (pu_nd (pu_rk A w d) (A.2.2.2.2 (1 + 3 * p + w.2 (st + c))).2 ((A.2.2.2.2 (1 + 3 * p + w.2 (st + c))).1 - 1)).1 := by
          rw [pu_rk, show w.1 - 1 - d = st + c by omega, pu_vv_nd q1, Nat.add_comm]
        rw [← erk]
        refine ih2 (p + 1) fu' _ (by omega) (by omega) (fr_I (fr_t hfr (fr_m s1.2.2 (fun i k h => by omega))) (by omega)) (fun z hz => ?_) (fun p' hp' => ?_)
        · rw [rd_n (by omega), (s1.2.2 _ _ (by omega)).1]; exact hr' z hz
        · by_cases ep : p' = p
          · rw [ep, rd_y]; exact ⟨rfl, by rw [erk]; omega⟩
          · rw [rd_n (by omega), (s1.2.2 _ _ (by omega)).1]; exact h16 p' (by omega)
    exact inner A.1 0 fy_fu S (by omega) (fz_fu (by omega)) fr_r hr (fun p' hp' => absurd hp' (Nat.not_lt_zero p'))
theorem M_fr {S : fy_S} {a st : Nat} {A : pu_A} {w : pu_q} (ha : a < 7) (hA : pu_wA A) (hX : pu_MA S a A) (hw : w.1 ≤ 12) (hf : pu_fit w A.2.1 w.1 = true) (hl : pu_l (S.1 14) (S.1 0 25) w) (hst : st ≤ w.1) : pw (M_findRanks S (nI a) (nI st)) (fun S' => pu_sr S' A w (w.1 - st) ∧ fr (fun i _ => i = 10 ∨ i = 11 ∨ (15 ≤ i ∧ i ≤ 17)) S S') := by
  have hn6 : A.1 ≤ 6 := hA.2.1
  have hF : A.2.2.1 < 64 := Nat.lt_of_lt_of_le hA.2.2.2.2.1 (pu_2n hn6)
  have L : ∀ d p fu S', p + d = A.1 → d < fu → fr (fun i _ => i = 10 ∨ i = 11 ∨ (15 ≤ i ∧ i ≤ 17)) S S' → (∀ p', p' < p → S'.1 15 p' = nI (pu_rk A w 0 p')) → pw (M_findRanks_2 fu S' (nI a) (nI st) (nI p)) (fun S' => pu_sr S' A w (w.1 - st) ∧ fr (fun i _ => i = 10 ∨ i = 11 ∨ (15 ≤ i ∧ i ≤ 17)) S S') := by
    intro d
    induction d with
    | zero =>
      intro p fu S' hp hfu hfr hd
      obtain ⟨fu, rfl⟩ : ∃ z, fu = z + 1 := ⟨fu - 1, by omega⟩
      have : p = A.1 := by omega
      subst this
      have hX' : pu_MA S' a A := pu_MA_c hA hX (fun i g1 g2 => (hfr _ _ (by omega)).1) (fun k g1 g2 => (hfr _ _ (by omega)).1) (fun k g1 g2 => (hfr _ _ (by omega)).1) (fun k g1 g2 => (hfr _ _ (by omega)).1)
      have hl' := pu_l_c hl (hfr _ _ (by omega)).1 (fun k _ => (hfr _ _ (by omega)).1)
      rw [M_findRanks_2, nI_clamp (by omega), hX'.1, hl'.1]
      refine pw_gd (fy_ix_nI ha (by decide)) (pw_t (nI_le (Nat.le_refl _) (by omega)) (pw_bl ?_))
      have := M_fr_2 ha hA hw hf hst (w.1 - st) 0 fy_fu S' (by omega) (fz_fu (by omega)) hX' hl' (fun p' hp' => by
        refine ⟨hd p' hp', ?_⟩
        rw [pu_rk]
        split <;> omega)
      rw [show st + (w.1 - st) = w.1 by omega] at this
      exact pw_m this (fun S'' h'' => ⟨h''.1, fr_t hfr h''.2⟩)
    | succ d ih =>
      intro p fu S' hp hfu hfr hd
      obtain ⟨fu, rfl⟩ : ∃ z, fu = z + 1 := ⟨fu - 1, by omega⟩
      have hpn : p < A.1 := by omega
      have hX' : pu_MA S' a A := pu_MA_c hA hX (fun i g1 g2 => (hfr _ _ (by omega)).1) (fun k g1 g2 => (hfr _ _ (by omega)).1) (fun k g1 g2 => (hfr _ _ (by omega)).1) (fun k g1 g2 => (hfr _ _ (by omega)).1)
      have fin : ∀ v : Int32, v = nI (pu_rk A w 0 p) → pw (M_findRanks_38 (fun S v1 v2 v3 => M_findRanks_2 fu S v1 v2 v3) S' (nI a) (nI st) (nI p) v (nI p)) (fun S' => pu_sr S' A w (w.1 - st) ∧ fr (fun i _ => i = 10 ∨ i = 11 ∨ (15 ≤ i ∧ i ≤ 17)) S S') := by
        intro v hv
        rw [M_findRanks_38, nI_clamp (by omega), nI_1]
        refine pw_gd (fy_ix_nI (by omega) (by decide)) (pw_bl (pw_bl ?_))
        refine ih (p + 1) fu _ (by omega) (by omega) (fr_I hfr (by omega)) (fun p' hp' => ?_)
        by_cases ep : p' = p
        · rw [ep, rd_y, hv]
        · rw [rd_n (by omega)]; exact hd p' (by omega)
      rw [M_findRanks_2, nI_clamp (by omega), hX'.1, hX'.2.2.1, pu_sb _ hF _ (by omega)]
      refine pw_gd (fy_ix_nI ha (by decide)) (pw_f (nI_ge hpn (by omega)) (pw_gd (fy_ix_nI ha (by decide)) ?_))
      cases hb : A.2.2.1.testBit p
      · exact pw_f (by decide) (fin _ (by rw [pu_rk, hb]; rfl))
      · exact pw_t rfl (fin _ (by rw [pu_rk, hb]; rfl))
  exact L A.1 0 fy_fu S (by omega) (fz_fu (by omega)) fr_r (fun p' hp' => absurd hp' (Nat.not_lt_zero p'))
theorem ez_rank {SX SM : fy_S} (v1 v2 v3 : Int32) (h : pu_I SX SM) : pu_O (X9_rank SX v1 v2 v3) (M_rank SM v1 v2 v3) := by
  rcases pu_slot v1 with ⟨a, ha, rfl⟩ | hb
  · have hI := h
    obtain ⟨G, hw, hX, hM⟩ := h
    have hwA := hw.1 a (by omega)
    have hXA := hX.1 a (by omega)
    have hMA := hM.1 a (by omega)
    have hn6 : (G.1 a).1 ≤ 6 := hwA.2.1
    have hm3 : (G.1 a).2.1 ≤ 3 := hwA.2.2.2.1
    have hl : G.2.2.2.1.1 ≤ 12 := hw.2.2.2.1.1
    have eX := X_fits hXA.2.1 hm3 hl hw.2.2.2.1.2 hX.2.2.2.1
    have eM := M_fits (by omega) hMA.2.1 hm3 hl hw.2.2.2.1.2 hM.2.2.2.1
    rcases pu_ixx v3 (n := (G.1 a).1) (by omega) with ⟨p, hp, rfl⟩ | hb
    · rcases pu_bw (lo := 0) (hi := G.2.2.2.1.1) v2 (by decide) (by omega) with ⟨st, _, hst, rfl⟩ | hb
      · have iX : X9_isWithin SX (nI st) 0 (SX.1 12 1) = some 1 := by rw [hX.2.2.2.1.1]; exact X_within_y (lo := 0) (Nat.zero_le _) hst (by omega)
        have iM : M_isBetween SM (nI st) 0 (SM.1 0 25) = some 1 := by rw [hM.2.2.2.1.1]; exact M_between_y (lo := 0) (Nat.zero_le _) hst (by omega)
        by_cases hf : pu_fit G.2.2.2.1 (G.1 a).2.1 G.2.2.2.1.1 = true
        · rw [hf] at eX eM
          refine pu_both G (nI (pu_rk (G.1 a) G.2.2.2.1 (G.2.2.2.1.1 - st) p)) hw ?_ ?_
          · rw [X9_rank]
            refine pw_be (X_ain_y ha) (pw_be (X_hs_y hXA.1 hp (by omega)) (pw_f (by decide) (pw_be iX (pw_f (by decide) (pw_be eX (pw_f (by decide) (pw_bd (X_sol (by omega) hwA hXA hl hf hX.2.2.2.1 hst) (fun S' h' => pw_be (X_valAt (by omega) (by omega)) (pw_s ⟨?_, pu_X_fr hw hX (fr_m h'.2 (fun i k h => by unfold pu_xs; omega))⟩)))))))))
            have := (h'.1 (G.2.2.2.1.1 - st) (Nat.le_refl _) p hp).1
            rw [show G.2.2.2.1.1 - (G.2.2.2.1.1 - st) = st by omega] at this
            exact this
          · rw [M_rank]
            refine pw_be (M_slot_y ha) (pw_f (by decide) (pw_be (M_hs_y (by omega) hMA.1 hp (by omega)) (pw_f (by decide) (pw_be iM (pw_f (by decide) (pw_be eM (pw_f (by decide) (pw_bd (M_fr (by omega) hwA hMA hl hf hM.2.2.2.1 hst) (fun S' h' => pw_gd (fy_ix_nI (by omega) (by decide)) (pw_s ⟨?_, pu_M_fr hw hM (fr_m h'.2 (fun i k h => by unfold pu_ms; omega))⟩))))))))))
            rw [nI_clamp (by omega)]
            exact (h'.1 p hp).1
        · have hf : pu_fit G.2.2.2.1 (G.1 a).2.1 G.2.2.2.1.1 = false := by simpa using hf
          rw [hf] at eX eM
          refine pu_same (-4) hI ?_ ?_
          · rw [X9_rank]; exact pw_eq (pw_be (X_ain_y ha) (pw_be (X_hs_y hXA.1 hp (by omega)) (pw_f (by decide) (pw_be iX (pw_f (by decide) (pw_be eX (pw_t rfl (pw_s rfl))))))))
          · rw [M_rank]; exact pw_eq (pw_be (M_slot_y ha) (pw_f (by decide) (pw_be (M_hs_y (by omega) hMA.1 hp (by omega)) (pw_f (by decide) (pw_be iM (pw_f (by decide) (pw_be eM (pw_t rfl (pw_s rfl)))))))))
      · refine pu_same (-2) hI ?_ ?_
        · rw [X9_rank]; exact pw_eq (pw_be (X_ain_y ha) (pw_be (X_hs_y hXA.1 hp (by omega)) (pw_f (by decide) (pw_be (by rw [hX.2.2.2.1.1]; exact X_within_n (lo := 0) hb) (pw_t rfl (pw_s rfl))))))
        · rw [M_rank]; exact pw_eq (pw_be (M_slot_y ha) (pw_f (by decide) (pw_be (M_hs_y (by omega) hMA.1 hp (by omega)) (pw_f (by decide) (pw_be (by rw [hM.2.2.2.1.1]; exact M_between_n (lo := 0) hb) (pw_t rfl (pw_s rfl)))))))
    · refine pu_same (-2) hI ?_ ?_
      · rw [X9_rank]; exact pw_eq (pw_be (X_ain_y ha) (pw_be (X_hs_n hXA.1 hb) (pw_t rfl (pw_s rfl))))
      · rw [M_rank]; exact pw_eq (pw_be (M_slot_y ha) (pw_f (by decide) (pw_be (M_hs_n (by omega) hMA.1 hb) (pw_t rfl (pw_s rfl)))))
  · refine pu_same (-2) h ?_ ?_
    · rw [X9_rank]; exact pw_eq (pw_be (X_ain_n hb) (pw_s rfl))
    · rw [M_rank]; exact pw_eq (pw_be (M_slot_n hb) (pw_t rfl (pw_s rfl)))
