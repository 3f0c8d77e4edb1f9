/-! create -/
def pu_ff : pu_q := (1, fun _ => 7)
theorem pu_ff_T : pu_T pu_ff = 0 := by simp [pu_T, pu_ff, pu_st, pu_lt]
theorem pu_ff_ok (n : Nat) : pu_ok n pu_ff := by
  refine ⟨by decide, by decide, fun k hk => ⟨.inr ⟨by show 6 ≤ 7; decide, by show 7 < 10; decide⟩, fun h => ?_⟩, ?_⟩
  · have h : 8 ≤ 7 := h
    omega
  · simp [pu_dp, pu_ff, pu_st]
theorem pu_XF_c {S S' : fy_S} {id : Nat} {q : pu_q} (h : pu_XF S id q) (hc : ∀ i k, i = id ∨ i = id + 1 → S'.1 i k = S.1 i k ∧ S'.2 i k = S.2 i k) : pu_XF S' id q :=
  ⟨pu_l_c h.1 (hc _ _ (.inl rfl)).1 (fun k _ => (hc _ _ (.inr rfl)).1), ((hc _ _ (.inl rfl)).2).trans h.2⟩
theorem X_false {S : fy_S} {id : Nat} : pw (X2_becomeFalse S id) (fun S' => pu_XF S' id pu_ff ∧ fr (fun i _ => i = id ∨ i = id + 1) S S') := by
  rw [X2_becomeFalse]
  refine pw_gd (by decide) (pw_bl (pw_bl (pw_bl (pw_s ⟨⟨⟨?_, fun k hk => ?_⟩, ?_⟩, fr_L (fr_I (fr_I fr_r (.inr rfl)) (.inl rfl)) (.inl rfl)⟩))))
  · rw [rd_L1, rd_y]; rfl
  · have hk : k < 1 := hk
    rw [rd_L1, rd_n (by omega), show k = 0 by omega]
    exact rd_y
  · rw [rd_Ly, pu_ff_T]
theorem X_clear_l {a : Nat} (ha : a < 7) : ∀ (d i fu : Nat) (S : fy_S), i + d = 18 → d < fu → (∀ j, j ≤ i → pu_XF S (38 + 41 * a + 3 + 2 * j) pu_ff) → pw (X0_clear_24 fu S (38 + 41 * a) (nI i)) (fun S' => (∀ j, j < 19 → pu_XF S' (38 + 41 * a + 3 + 2 * j) pu_ff) ∧ (∀ x, x < 3 → S'.1 (38 + 41 * a + 1) x = nI 1) ∧ fr (fun i _ => i = 38 + 41 * a + 1 ∨ (38 + 41 * a + 3 ≤ i ∧ i < 38 + 41 * a + 41)) S S') := by
  intro d
  induction d with
  | zero =>
    intro i fu S hi hfu hl
    obtain ⟨fu, rfl⟩ : ∃ z, fu = z + 1 := ⟨fu - 1, by omega⟩
    have : i = 18 := by omega
    subst this
    have h3 : ∀ a, a < 7 → X_al (38 + 41 * a + 1) = 3 := by decide +kernel
    rw [X0_clear_24]
    refine pw_t (nI_le (Nat.le_refl 18) (by decide)) (pw_be (fz_fillI_all (h3 a ha) (by decide)) (pw_s ⟨fun j hj => pu_XF_c (hl j (by omega)) (fun i k hi => ⟨?_, by rw [rd_A2]⟩), fun x hx => ?_, fr_A fr_r (fun k => .inl rfl)⟩))
    · rw [rd_A, if_neg (by omega)]
    · rw [rd_A, if_pos rfl, if_pos hx]; rfl
  | succ d ih =>
    intro i fu S hi hfu hl
    obtain ⟨fu, rfl⟩ : ∃ z, fu = z + 1 := ⟨fu - 1, by omega⟩
    rw [X0_clear_24]
    refine pw_f (nI_ge (b := 18) (by omega) (by decide)) (pw_gd (fy_ix_nI (by omega) (by decide)) ?_)
    rw [nI_clamp (by omega), X_arm ha, nI_1]
    refine pw_bd X_false (fun S' h' => pw_bl (pw_m (ih (i + 1) fu S' (by omega) (by omega) (fun j hj => ?_)) (fun S'' h'' => ⟨h''.1, h''.2.1, fr_t (fr_m h'.2 (fun i k h => by omega)) h''.2.2⟩)))
    by_cases e : j = i + 1
    · subst e
      rw [show 38 + 41 * a + 3 + 2 * (i + 1) = 38 + 41 * a + 5 + 2 * i by omega]
      exact h'.1
    · exact pu_XF_c (hl j (by omega)) (fun z k hz => h'.2 z k (by omega))
def pu_em (n m : Nat) : pu_A := (n, m, 0, fun _ => 1, fun _ => pu_ff)
theorem pu_em_w {n m : Nat} (h1 : 1 ≤ n) (h2 : n ≤ 6) (h3 : 1 ≤ m) (h4 : m ≤ 3) : pu_wA (pu_em n m) := ⟨h1, h2, h3, h4, Nat.two_pow_pos n, fun _ _ => ⟨Nat.le_refl _, by show 1 ≤ 9; decide⟩, fun _ _ _ => pu_ff_ok n⟩
theorem X_clear {a n m : Nat} (ha : a < 7) {S : fy_S} : pw (X0_clear S (38 + 41 * a) (nI n) (nI m)) (fun S' => pu_XA S' (38 + 41 * a) (pu_em n m) ∧ fr (fun i _ => 38 + 41 * a ≤ i ∧ i < 38 + 41 * a + 41) S S') := by
  rw [X0_clear]
  refine pw_bl (pw_bl (pw_bl (pw_bd X_false (fun S1 h1 => pw_m (X_clear_l ha 18 0 fy_fu S1 (by omega) (fz_fu (by omega)) (fun j hj => ?_)) (fun S2 h2 => ⟨⟨?_, ?_, ?_, h2.2.1, fun j hj _ => h2.1 j hj⟩, fr_t (fr_t (fr_I (fr_I (fr_I fr_r ⟨by omega, by omega⟩) ⟨by omega, by omega⟩) ⟨by omega, by omega⟩) (fr_m h1.2 (fun i k h => by omega))) (fr_m h2.2.2 (fun i k h => by omega))⟩)))))
  · have : j = 0 := by omega
    subst this
    exact h1.1
  · rw [(h2.2.2 _ _ (by omega)).1, (h1.2 _ _ (by omega)).1, rd_n (by omega), rd_n (by omega), rd_y]; rfl
  · rw [(h2.2.2 _ _ (by omega)).1, (h1.2 _ _ (by omega)).1, rd_n (by omega), rd_y]; rfl
  · rw [(h2.2.2 _ _ (by omega)).1, (h1.2 _ _ (by omega)).1, rd_y]; rfl
theorem M_at_e {S : fy_S} {a f : Nat} : M_at S (nI a) (nI f) = some (nI (40 * (19 * a + f))) := by
  rw [M_at, show (19 : Int32) * nI a = nI (19 * a) from pk_mul 19 a, nI_add, show (40 : Int32) * nI (19 * a + f) = nI (40 * (19 * a + f)) from pk_mul 40 _]
theorem M_emp_2 {a : Nat} (ha : a < 7) : ∀ (d i fu : Nat) (S : fy_S), i + d = 19 → d < fu → (∀ j, j < i → pu_MF S a j pu_ff) → pw (M_empties_51 fu S (nI a) (nI i)) (fun S' => (∀ j, j < 19 → pu_MF S' a j pu_ff) ∧ fr (fun z k => (z = 5 ∧ 19 * a ≤ k ∧ k < 19 * a + 19) ∨ (z = 6 ∧ 760 * a ≤ k ∧ k < 760 * a + 760)) S S') := by
  intro d
  induction d with
  | zero =>
    intro i fu S hi hfu hl
    obtain ⟨fu, rfl⟩ : ∃ z, fu = z + 1 := ⟨fu - 1, by omega⟩
    have : i = 19 := by omega
    subst this
    rw [M_empties_51]
    exact pw_t (nI_le (Nat.le_refl 19) (by decide)) (pw_s ⟨hl, fr_r⟩)
  | succ d ih =>
    intro i fu S hi hfu hl
    obtain ⟨fu, rfl⟩ : ∃ z, fu = z + 1 := ⟨fu - 1, by omega⟩
    rw [M_empties_51]
    refine pw_f (nI_ge (b := 19) (by omega) (by decide)) ?_
    rw [show (19 : Int32) * nI a = nI (19 * a) from pk_mul 19 a, nI_add]
    refine pw_gd (fy_ix_nI (by omega) (by decide)) (pw_bl (pw_be M_at_e (pw_gd (fy_ix_nI (by omega) (by decide)) (pw_bl (pw_bl ?_)))))
    rw [nI_clamp (by omega), nI_clamp (by omega), nI_1]
    refine pw_m (ih (i + 1) fu _ (by omega) (by omega) (fun j hj => ?_)) (fun S' h' => ⟨h'.1, fr_t (fr_I (fr_I fr_r (.inl ⟨rfl, by omega, by omega⟩)) (.inr ⟨rfl, by omega, by omega⟩)) h'.2⟩)
    by_cases e : j = i
    · subst e
      refine ⟨?_, fun k hk => ?_⟩
      · rw [rd_n (by omega), rd_y]; rfl
      · have hk : k < 1 := hk
        have : k = 0 := by omega
        subst this
        show (fy_sI _ _ _ _).1 6 (40 * (19 * a + j) + 0) = _
        rw [Nat.add_zero, rd_y]; rfl
    · refine ⟨?_, fun k hk => ?_⟩
      · rw [rd_n (by omega), rd_n (by omega)]; exact (hl j (by omega)).1
      · have hk1 : k < 1 := hk
        show (fy_sI _ _ _ _).1 6 (40 * (19 * a + j) + k) = _
        rw [rd_n (by omega), rd_n (by omega)]; exact (hl j (by omega)).2 k hk
theorem M_emp_1 {a : Nat} (ha : a < 7) : ∀ (d i fu : Nat) (S : fy_S), i + d = 3 → d < fu → (∀ x, x < i → S.1 4 (3 * a + x) = nI 1) → pw (M_empties_24 fu S (nI a) (nI i)) (fun S' => (∀ x, x < 3 → S'.1 4 (3 * a + x) = nI 1) ∧ (∀ j, j < 19 → pu_MF S' a j pu_ff) ∧ fr (fun z k => (z = 4 ∧ 3 * a ≤ k ∧ k < 3 * a + 3) ∨ (z = 5 ∧ 19 * a ≤ k ∧ k < 19 * a + 19) ∨ (z = 6 ∧ 760 * a ≤ k ∧ k < 760 * a + 760)) S S') := by
  intro d
  induction d with
  | zero =>
    intro i fu S hi hfu hl
    obtain ⟨fu, rfl⟩ : ∃ z, fu = z + 1 := ⟨fu - 1, by omega⟩
    have : i = 3 := by omega
    subst this
    rw [M_empties_24]
    refine pw_t (nI_le (Nat.le_refl 3) (by decide)) (pw_m (M_emp_2 ha 19 0 fy_fu S (by omega) (fz_fu (by omega)) (fun j hj => absurd hj (Nat.not_lt_zero j))) (fun S' h' => ⟨fun x hx => ?_, h'.1, fr_m h'.2 (fun i k h => .inr h)⟩))
    rw [(h'.2 _ _ (by omega)).1]
    exact hl x hx
  | succ d ih =>
    intro i fu S hi hfu hl
    obtain ⟨fu, rfl⟩ : ∃ z, fu = z + 1 := ⟨fu - 1, by omega⟩
    rw [M_empties_24]
    refine pw_f (nI_ge (b := 3) (by omega) (by decide)) ?_
    rw [show (3 : Int32) * nI a = nI (3 * a) from pk_mul 3 a, nI_add]
    refine pw_gd (fy_ix_nI (by omega) (by decide)) (pw_bl (pw_bl ?_))
    rw [nI_clamp (by omega), nI_1]
    refine pw_m (ih (i + 1) fu _ (by omega) (by omega) (fun j hj => ?_)) (fun S' h' => ⟨h'.1, h'.2.1, fr_t (fr_I fr_r (.inl ⟨rfl, by omega, by omega⟩)) h'.2.2⟩)
    by_cases e : j = i
    · rw [e, rd_y]; rfl
    · rw [rd_n (by omega)]; exact hl j (by omega)
theorem M_emp {a n m : Nat} (ha : a < 7) {S : fy_S} : pw (M_empties S (nI a) (nI n) (nI m)) (fun S' => pu_MA S' a (pu_em n m) ∧ fr (pu_ma a) S S') := by
  rw [M_empties]
  refine pw_gd (fy_ix_nI ha (by decide)) (pw_bl (pw_gd (fy_ix_nI ha (by decide)) (pw_bl (pw_gd (fy_ix_nI ha (by decide)) (pw_bl ?_)))))
  rw [nI_clamp (by omega)]
  refine pw_m (M_emp_1 ha 3 0 fy_fu _ (by omega) (fz_fu (by omega)) (fun j hj => absurd hj (Nat.not_lt_zero j))) (fun S' h' => ⟨⟨?_, ?_, ?_, h'.1, fun j hj => ⟨1, by decide, (h'.2.1 j hj).1⟩, fun j hj _ => h'.2.1 j hj⟩, fr_t (fr_I (fr_I (fr_I fr_r (by unfold pu_ma; omega)) (by unfold pu_ma; omega)) (by unfold pu_ma; omega)) (fr_m h'.2.2 (fun i k h => by unfold pu_ma; omega))⟩)
  · rw [(h'.2.2 _ _ (by omega)).1, rd_n (by omega), rd_n (by omega), rd_y]; rfl
  · rw [(h'.2.2 _ _ (by omega)).1, rd_n (by omega), rd_y]; rfl
  · rw [(h'.2.2 _ _ (by omega)).1, rd_y]; rfl
theorem ez_create {SX SM : fy_S} (v1 v2 v3 : Int32) (h : pu_I SX SM) : pu_O (X9_create SX v1 v2 v3) (M_create SM v1 v2 v3) := by
  rcases pu_slot v1 with ⟨a, ha, rfl⟩ | hb
  · rcases pu_bw (lo := 1) (hi := 6) v2 (by decide) (by decide) with ⟨n, hn0, hn, rfl⟩ | hb
    · rcases pu_bw (lo := 1) (hi := 3) v3 (by decide) (by decide) with ⟨m, hm0, hm, rfl⟩ | hb
      · obtain ⟨G, hw, hX, hM⟩ := h
        refine pu_both (pu_sA G a (pu_em n m)) (nI (G.1 a).1) (pu_W_a hw (pu_em_w hn0 hn hm0 hm)) ?_ ?_
        · rw [X9_create]
          exact pw_be (X_ain_y ha) (pw_be (X_within_y (lo := 1) (hi := 6) hn0 hn (by decide)) (pw_f (by decide) (pw_be (X_within_y (lo := 1) (hi := 3) hm0 hm (by decide)) (pw_f (by decide) (pw_bl (pw_bd (X_clear (by omega)) (fun S' h' => pw_s ⟨(hX.1 a (by omega)).1, pu_X_a hX h'.2 h'.1⟩)))))))
        · rw [M_create]
          refine pw_be (M_slot_y ha) (pw_f (by decide) (pw_be (M_between_y (lo := 1) (hi := 6) hn0 hn (by decide)) (pw_f (by decide) (pw_be (M_between_y (lo := 1) (hi := 3) hm0 hm (by decide)) (pw_f (by decide) (pw_gd (fy_ix_nI (by omega) (by decide)) (pw_bl (pw_bd (M_emp (by omega)) (fun S' h' => pw_s ⟨?_, pu_M_a hw hM h'.2 h'.1⟩)))))))))
          rw [nI_clamp (by omega)]
          exact (hM.1 a (by omega)).1
      · refine pu_same (-2) h ?_ ?_
        · rw [X9_create]; exact pw_eq (pw_be (X_ain_y ha) (pw_be (X_within_y (lo := 1) (hi := 6) hn0 hn (by decide)) (pw_f (by decide) (pw_be (X_within_n (lo := 1) (hi := 3) hb) (pw_t rfl (pw_s rfl))))))
        · rw [M_create]; exact pw_eq (pw_be (M_slot_y ha) (pw_f (by decide) (pw_be (M_between_y (lo := 1) (hi := 6) hn0 hn (by decide)) (pw_f (by decide) (pw_be (M_between_n (lo := 1) (hi := 3) hb) (pw_t rfl (pw_s rfl)))))))
    · refine pu_same (-2) h ?_ ?_
      · rw [X9_create]; exact pw_eq (pw_be (X_ain_y ha) (pw_be (X_within_n (lo := 1) (hi := 6) hb) (pw_t rfl (pw_s rfl))))
      · rw [M_create]; exact pw_eq (pw_be (M_slot_y ha) (pw_f (by decide) (pw_be (M_between_n (lo := 1) (hi := 6) hb) (pw_t rfl (pw_s rfl)))))
  · refine pu_same (-2) h ?_ ?_
    · rw [X9_create]; exact pw_eq (pw_be (X_ain_n hb) (pw_s rfl))
    · rw [M_create]; exact pw_eq (pw_be (M_slot_n hb) (pw_t rfl (pw_s rfl)))
/-! the start -/
def pu_G0 : pu_G := (fun _ => pu_em 1 1, (0, fun _ => 0), (0, fun _ => 0), (0, fun _ => 0), (0, fun _ => 0), 0, 0)
theorem pu_G0_W : pu_W pu_G0 := ⟨fun _ _ => pu_em_w (by decide) (by decide) (by decide) (by decide), ⟨Nat.zero_le _, fun k hk => absurd hk (Nat.not_lt_zero k)⟩, Nat.zero_le _, ⟨Nat.zero_le _, fun k hk => absurd hk (Nat.not_lt_zero k)⟩, Nat.zero_le _, Nat.zero_le _⟩
theorem X_S0_k : ∀ a, a < 7 → X_kd (38 + 41 * a) = 0 ∧ X_kd (38 + 41 * a + 1) = 10 ∧ ∀ j, j < 19 → X_kd (38 + 41 * a + 3 + 2 * j) = 2 ∧ X_kd (38 + 41 * a + 3 + 2 * j + 1) = 12 := by decide +kernel
theorem X_S0_A {a : Nat} (ha : a < 7) : pu_XA X_S0 (38 + 41 * a) (pu_em 1 1) := by
  obtain ⟨h1, h2, h3⟩ := X_S0_k a ha
  refine ⟨by simp [X_S0, h1]; rfl, by simp [X_S0, h1]; rfl, by simp [X_S0, h1]; rfl, fun x hx => by simp [X_S0, h2, hx]; rfl, fun j hj _ => ⟨⟨?_, fun k hk => ?_⟩, ?_⟩⟩
  · simp [X_S0, (h3 j hj).1]; rfl
  · have hk : k < 1 := hk
    have : k = 0 := by omega
    subst this
    simp [X_S0, (h3 j hj).2]; rfl
  · show _ = pu_T pu_ff
    rw [pu_ff_T]; rfl
theorem X_S0_s : X_S0.1 3 4 = 0 ∧ X_S0.1 8 1 = 0 ∧ X_S0.1 12 1 = 0 ∧ X_S0.1 14 1 = 0 ∧ X_S0.1 0 13 = 0 ∧ X_S0.1 0 12 = 0 ∧ X_S0.1 34 3 = 0 := by decide +kernel
theorem X_S0_X : pu_X X_S0 pu_G0 := by
  obtain ⟨s1, s2, s3, s4, s5, s6, s7⟩ := X_S0_s
  refine ⟨fun a ha => X_S0_A (by have : a < 3 + 3 * 0 := ha; omega), ⟨s1, fun k hk => absurd hk (Nat.not_lt_zero k)⟩, ⟨s2, fun k hk => absurd hk (Nat.not_lt_zero k)⟩, ⟨s3, fun k hk => absurd hk (Nat.not_lt_zero k)⟩, ⟨s4, fun k hk => absurd hk (Nat.not_lt_zero k)⟩, s5, s6, 0, fun _ => 0, Nat.zero_le _, s7, fun k hk => absurd hk (Nat.not_lt_zero k), fun y hy _ => ⟨?_, ?_⟩⟩
  · have h : X_kd 36 = 26 := by decide
    simp [X_S0, h, hy]
  · have h : X_kd 37 = 27 := by decide
    simp [X_S0, h]
theorem pu_begin : ∃ S1 S2 S3 : fy_S, M_empties fz_Z 0 1 1 = some S1 ∧ M_empties S1 1 1 1 = some S2 ∧ M_empties S2 2 1 1 = some S3 ∧ pu_I X_S0 S3 := by
  obtain ⟨S1, e1, h1, f1⟩ := M_emp (a := 0) (n := 1) (m := 1) (by decide) (S := fz_Z)
  obtain ⟨S2, e2, h2, f2⟩ := M_emp (a := 1) (n := 1) (m := 1) (by decide) (S := S1)
  obtain ⟨S3, e3, h3, f3⟩ := M_emp (a := 2) (n := 1) (m := 1) (by decide) (S := S2)
  have hE : pu_wA (pu_em 1 1) := pu_em_w (by decide) (by decide) (by decide) (by decide)
  have hz : ∀ k, ¬ pu_ma 0 0 k ∧ ¬ pu_ma 1 0 k ∧ ¬ pu_ma 2 0 k := fun k => by unfold pu_ma; omega
  have h0 : ∀ k, S3.1 0 k = 0 := fun k => by rw [(f3 _ _ (hz k).2.2).1, (f2 _ _ (hz k).2.1).1, (f1 _ _ (hz k).1).1]; rfl
  refine ⟨S1, S2, S3, e1, e2, e3, pu_G0, pu_G0_W, X_S0_X, fun a ha => ?_, ⟨h0 9, fun k hk => absurd hk (Nat.not_lt_zero k)⟩, ⟨h0 18, fun k hk => absurd hk (Nat.not_lt_zero k)⟩, ⟨h0 25, fun k hk => absurd hk (Nat.not_lt_zero k)⟩, ⟨h0 44, fun k hk => absurd hk (Nat.not_lt_zero k)⟩, h0 45, h0 48⟩
  have ha : a < 3 + 3 * 0 := ha
  show pu_MA S3 a (pu_em 1 1)
  by_cases e : a = 2
  · subst e; exact h3
  · by_cases e1 : a = 1
    · subst e1
      exact pu_MA_c hE h2 (fun i g1 g2 => (f3 i _ (by unfold pu_ma; omega)).1) (fun k g1 g2 => (f3 4 k (by unfold pu_ma; omega)).1) (fun k g1 g2 => (f3 5 k (by unfold pu_ma; omega)).1) (fun k g1 g2 => (f3 6 k (by unfold pu_ma; omega)).1)
    · have e0 : a = 0 := by omega
      subst e0
      refine pu_MA_c hE (pu_MA_c hE h1 (fun i g1 g2 => (f2 i _ (by unfold pu_ma; omega)).1) (fun k g1 g2 => (f2 4 k (by unfold pu_ma; omega)).1) (fun k g1 g2 => (f2 5 k (by unfold pu_ma; omega)).1) (fun k g1 g2 => (f2 6 k (by unfold pu_ma; omega)).1)) (fun i g1 g2 => (f3 i _ (by unfold pu_ma; omega)).1) (fun k g1 g2 => (f3 4 k (by unfold pu_ma; omega)).1) (fun k g1 g2 => (f3 5 k (by unfold pu_ma; omega)).1) (fun k g1 g2 => (f3 6 k (by unfold pu_ma; omega)).1)
