/-! setInitial, setTransition -/
def pu_fA (A : pu_A) (j : Nat) (q : pu_q) : pu_A := (A.1, A.2.1, A.2.2.1, A.2.2.2.1, fun j' => if j' = j then q else A.2.2.2.2 j')
theorem pu_fA_w {A : pu_A} {j : Nat} {q : pu_q} (hA : pu_wA A) (hq : pu_ok A.1 q) : pu_wA (pu_fA A j q) := by
  obtain ⟨h1, h2, h3, h4, h5, h6, h7⟩ := hA
  refine ⟨h1, h2, h3, h4, h5, h6, fun j' hj' hu => ?_⟩
  show pu_ok A.1 (if j' = j then q else A.2.2.2.2 j')
  by_cases e : j' = j
  · rw [if_pos e]; exact hq
  · rw [if_neg e]; exact h7 j' hj' hu
theorem X_fA {S S' : fy_S} {a j : Nat} {A : pu_A} {q : pu_q} (hX : pu_XA S (38 + 41 * a) A) (hj : j < 19) (hq : pu_XF S' (38 + 41 * a + 3 + 2 * j) q) (f : fr (fun i _ => i = 38 + 41 * a + 3 + 2 * j ∨ i = 38 + 41 * a + 3 + 2 * j + 1) S S') : pu_XA S' (38 + 41 * a) (pu_fA A j q) := by
  obtain ⟨h1, h2, h3, h4, h5⟩ := hX
  refine ⟨?_, ?_, ?_, fun x hx => ?_, fun j' hj' hu => ?_⟩
  · rw [(f _ _ (by omega)).1]; exact h1
  · rw [(f _ _ (by omega)).1]; exact h2
  · rw [(f _ _ (by omega)).1]; exact h3
  · rw [(f _ _ (by omega)).1]; exact h4 x hx
  · show pu_XF S' _ (if j' = j then q else A.2.2.2.2 j')
    by_cases e : j' = j
    · rw [if_pos e, e]; exact hq
    · rw [if_neg e]
      obtain ⟨g1, g2⟩ := h5 j' hj' hu
      exact ⟨pu_l_c g1 (f _ _ (by omega)).1 (fun k _ => (f _ _ (by omega)).1), by rw [(f _ _ (by omega)).2]; exact g2⟩
theorem M_fA {S S' : fy_S} {a j : Nat} {A : pu_A} {q : pu_q} (hA : pu_wA A) (hM : pu_MA S a A) (hj : j < 19) (h40 : q.1 ≤ 40) (hq : pu_MF S' a j q) (f : fr (fun i k => (i = 5 ∧ k = 19 * a + j) ∨ (i = 6 ∧ 40 * (19 * a + j) ≤ k ∧ k < 40 * (19 * a + j) + 40)) S S') : pu_MA S' a (pu_fA A j q) := by
  obtain ⟨g1, g2, g3, g4, g5, g6⟩ := hM
  refine ⟨?_, ?_, ?_, fun x hx => ?_, fun j' hj' => ?_, fun j' hj' hu => ?_⟩
  · rw [(f _ _ (by omega)).1]; exact g1
  · rw [(f _ _ (by omega)).1]; exact g2
  · rw [(f _ _ (by omega)).1]; exact g3
  · rw [(f _ _ (by omega)).1]; exact g4 x hx
  · by_cases e : j' = j
    · subst e; exact ⟨q.1, h40, hq.1⟩
    · rw [(f _ _ (by omega)).1]; exact g5 j' hj'
  · show pu_MF S' a j' (if j' = j then q else A.2.2.2.2 j')
    by_cases e : j' = j
    · rw [if_pos e, e]; exact hq
    · rw [if_neg e]
      have hk40 := (hA.2.2.2.2.2.2 j' hj' hu).2.1
      refine pu_l_c (g6 j' hj' hu) (f _ _ (by omega)).1 (fun k hk => ?_)
      have hk : k < (A.2.2.2.2 j').1 := hk
      exact (f _ _ (by omega)).1
theorem pu_tx0 {S : fy_S} {G : pu_G} (h : pu_X S G) : pu_X (fy_sI S 3 4 0) (pu_st_ G (0, G.2.1.2)) := pu_X_t h (fr_I fr_r (.inl rfl)) ⟨rd_y, fun k hk => absurd hk (Nat.not_lt_zero k)⟩
theorem pu_tm0 {S : fy_S} {G : pu_G} (hw : pu_W G) (h : pu_M S G) : pu_M (fy_sI S 0 9 0) (pu_st_ G (0, G.2.1.2)) := pu_M_t hw h (fr_I fr_r (.inl ⟨rfl, rfl⟩)) ⟨rd_y, fun k hk => absurd hk (Nat.not_lt_zero k)⟩
theorem pu_tw0 {G : pu_G} (hw : pu_W G) : pu_W (pu_st_ G (0, G.2.1.2)) := ⟨hw.1, ⟨Nat.zero_le _, fun k hk => absurd hk (Nat.not_lt_zero k)⟩, hw.2.2⟩
theorem X_rd {S : fy_S} {G : pu_G} {a j : Nat} {res : Nat ⊕ pu_q} (hw : pu_W G) (hX : pu_X S G) (ha : a < 3) (hj : j < 19) (hr : pu_pr G.2.1.2 (G.1 a).1 G.2.1.1 G.2.1.1 true (0, fun _ => 0) [] = res) : pw (fy_bp (X4_readInto S (38 + 41 * a + 3 + 2 * j) (S.1 (38 + 41 * a) 3)) fun S41 r41 => X9_readFormula_46 S41 r41) (fun R => (∀ i, res = .inl i → R.2 = -100 - nI i ∧ pu_X R.1 (pu_st_ G (0, G.2.1.2))) ∧ ∀ q, res = .inr q → pu_pi (G.1 a).1 60 1 q [] ∧ (40 < q.1 → R.2 = -3 ∧ pu_X R.1 (pu_st_ G (0, G.2.1.2))) ∧ (q.1 ≤ 40 → R.2 = nI q.1 ∧ pu_X R.1 (pu_st_ (pu_sA G a (pu_fA (G.1 a) j q)) (0, G.2.1.2)))) := by
  have hwA := hw.1 a (by omega)
  have hn6 : (G.1 a).1 ≤ 6 := hwA.2.1
  have hT := hw.2.1.1
  have hXA := hX.1 a (by omega)
  rw [X4_readInto, X4_parse, hXA.1]
  have P0 : ∀ S0, fr pu_xq S S0 → pu_px S0 (0, fun _ => 0) [] → pw (X4_parse_24 fy_fu S0 (nI (G.1 a).1) (1 : Int32) (0 : Int32)) (fun R => pu_pX G.2.1 (G.1 a).1 S R res) := fun S0 f0 p0 => X_par hn6 hT hw.2.1.2 hX.2.1 G.2.1.1 0 fy_fu S0 true (0, fun _ => 0) [] (by omega) (fz_fu (by omega)) f0 p0 ⟨Nat.zero_le _, fun h hh => (by cases hh), rfl, fun k hk => absurd hk (Nat.not_lt_zero k)⟩ hr
  refine pw_bp (Q := fun R => ((∀ i, res = .inl i → R.2 = -100 - nI i ∧ pu_X R.1 G) ∧ ∀ q, res = .inr q → pu_pi (G.1 a).1 60 1 q [] ∧ (40 < q.1 → R.2 = -3 ∧ pu_X R.1 G) ∧ (q.1 ≤ 40 → R.2 = nI q.1 ∧ pu_X R.1 (pu_sA G a (pu_fA (G.1 a) j q))))) ?_ (fun S1 r1 h1 => ?_)
  · refine pw_bp (pw_bl (pw_bl (pw_bl (pw_bl (P0 _ (fr_I (fr_I (fr_I (fr_I fr_r (by unfold pu_xq; omega)) (by unfold pu_xq; omega)) (by unfold pu_xq; omega)) (by unfold pu_xq; omega)) ⟨⟨?_, fun k hk => absurd hk (Nat.not_lt_zero k)⟩, ?_, trivial, ?_, trivial, ?_⟩))))) (fun S1 r1 h1 => ?_)
    · rw [rd_n (by omega), rd_n (by omega), rd_n (by omega), rd_y]; rfl
    · rw [rd_n (by omega), rd_n (by omega), rd_y]; rfl
    · rw [rd_n (by omega), rd_y]; rfl
    · rw [rd_y]; rfl
    · obtain ⟨h1, f1⟩ := h1
      have hX1 : pu_X S1 G := pu_X_fr hw hX (fr_m f1 (fun i k h => by unfold pu_xq at h; unfold pu_xs; omega))
      rcases h1 with ⟨i, hi, er, e2⟩ | ⟨q, er, e2, px, pi⟩
      · dsimp only at e2
        subst e2
        refine pw_f (fun e => ?_) (pw_s ⟨fun i' e' => ?_, fun q e' => ?_⟩)
        · have h1 := nI_toInt (n := i) (by omega)
          rw [e] at h1
          have h2 : (-1 : Int32).toInt = -1 := by decide
          omega
        · rw [er] at e'
          cases e'
          exact ⟨rfl, hX1⟩
        · rw [er] at e'; cases e'
      · dsimp only at e2 px
        subst e2
        refine pw_t rfl ?_
        obtain ⟨x1, x2, x3, x4, x5, x6⟩ := px
        rw [x1.1]
        have hq60 : q.1 ≤ 60 := by have := pi.1; simp at this; exact this
        by_cases h40 : q.1 ≤ 40
        · have hok := pu_pi_ok pi h40
          have etl : (pu_tl q).length = 1 := by unfold pu_tl; rw [pu_st_dp]; exact hok.2.2.2
          obtain ⟨x, ex⟩ := pu_len1 etl
          have eT : S1.2 6 (0 : Int32).toNatClampNeg = pu_T q := by
            rw [ex] at x3
            show S1.2 6 0 = pu_T q
            have : pu_T q = (pu_tl q).headD 0 := rfl
            rw [this, ex]
            exact x3.1
          refine pw_t (nI_le (b := 40) h40 (by decide)) (pw_gd (by decide) (pw_bd (X_become (q := q) eT (by show q.1 ≤ X_al 5; rw [show X_al 5 = 60 by decide]; omega) hok.1 h40 (by decide) (fun k hk => pu_ok10 hn6 hok hk) x1.2) (fun S2 s2 => pw_s ⟨fun i e' => ?_, fun q' e' => ?_⟩)))
          · rw [er] at e'; cases e'
          · rw [er] at e'
            cases e'
            refine ⟨pi, fun h => by omega, fun _ => ⟨?_, ?_⟩⟩
            · rw [(s2.2 _ _ (by omega)).1]; exact x1.1
            · exact pu_X_a hX1 (fr_m s2.2 (fun i k h => by omega)) (X_fA (hX1.1 a (by omega)) hj s2.1 s2.2)
        · refine pw_f (nI_ge (b := q.1) (a := 40) (by omega) (by omega)) (pw_s ⟨fun i e' => ?_, fun q' e' => ?_⟩)
          · rw [er] at e'; cases e'
          · rw [er] at e'
            cases e'
            exact ⟨pi, fun _ => ⟨rfl, hX1⟩, fun h => by omega⟩
  · rw [X9_readFormula_46]
    refine pw_bl (pw_s ⟨fun i e => ?_, fun q e => ?_⟩)
    · obtain ⟨g1, g2⟩ := h1.1 i e
      exact ⟨g1, pu_tx0 g2⟩
    · obtain ⟨g0, g1, g2⟩ := h1.2 q e
      exact ⟨g0, fun h => ⟨(g1 h).1, pu_tx0 (g1 h).2⟩, fun h => ⟨(g2 h).1, pu_tx0 (g2 h).2⟩⟩
theorem M_rd {S : fy_S} {G : pu_G} {a j : Nat} {res : Nat ⊕ pu_q} (hw : pu_W G) (hM : pu_M S G) (ha : a < 3) (hj : j < 19) (hr : pu_pr G.2.1.2 (G.1 a).1 G.2.1.1 G.2.1.1 true (0, fun _ => 0) [] = res) : pw (M_parses S (nI a) (nI j)) (fun R => (∀ i, res = .inl i → R.2 = -100 - nI i ∧ pu_M R.1 (pu_st_ G (0, G.2.1.2))) ∧ ∀ q, res = .inr q → (40 < q.1 → R.2 = -3 ∧ pu_M R.1 (pu_st_ G (0, G.2.1.2))) ∧ (q.1 ≤ 40 → R.2 = nI q.1 ∧ pu_M R.1 (pu_st_ (pu_sA G a (pu_fA (G.1 a) j q)) (0, G.2.1.2)))) := by
  have hwA := hw.1 a (by omega)
  have hn6 : (G.1 a).1 ≤ 6 := hwA.2.1
  have hT := hw.2.1.1
  have hMA := hM.1 a (by omega)
  have P0 : ∀ S0, fr pu_mq S S0 → S0.1 0 10 = nI 0 → pu_pm S0 (0, fun _ => 0) [] → pw (M_takesText_20 fy_fu S0 (nI a)) (fun R => pu_pT G.2.1 (G.1 a).1 S R res) := fun S0 f0 h10 p0 => M_txt (by omega) hn6 hT hw.2.1.2 hMA.1 hM.2.1 G.2.1.1 0 fy_fu S0 (0, fun _ => 0) [] (by omega) (fz_fu (by omega)) f0 h10 p0 ⟨Nat.zero_le _, fun h hh => (by cases hh), rfl, fun k hk => absurd hk (Nat.not_lt_zero k)⟩ hr
  rw [M_parses, M_takesText]
  refine pw_bp (pw_bl (pw_bl (pw_bl (pw_bl (P0 _ (fr_I (fr_I (fr_I (fr_I fr_r (by unfold pu_mq; omega)) (by unfold pu_mq; omega)) (by unfold pu_mq; omega)) (by unfold pu_mq; omega)) ?_ ⟨⟨?_, fun k hk => absurd hk (Nat.not_lt_zero k)⟩, ?_, trivial, ?_⟩))))) (fun S1 r1 h1 => ?_)
  · rw [rd_n (by omega), rd_n (by omega), rd_n (by omega), rd_y]; rfl
  · rw [rd_n (by omega), rd_n (by omega), rd_y]; rfl
  · rw [rd_n (by omega), rd_y]; rfl
  · rw [rd_y]; rfl
  · obtain ⟨h1, f1⟩ := h1
    have hM1 : pu_M S1 G := pu_M_fr hw hM (fr_m f1 (fun i k h => by unfold pu_mq at h; unfold pu_ms; omega))
    have hM2 := pu_tm0 hw hM1
    have hw2 := pu_tw0 hw
    refine pw_bl ?_
    rcases h1 with ⟨e2, i, hi, er, eat⟩ | ⟨e2, q, er, pl, pi⟩
    · dsimp only at e2 eat
      subst e2
      refine pw_t rfl (pw_s ⟨fun i' e' => ?_, fun q e' => ?_⟩)
      · rw [er] at e'
        cases e'
        exact ⟨by show (-100 : Int32) - _ = _; rw [rd_n (by omega), eat], hM2⟩
      · rw [er] at e'; cases e'
    · dsimp only at e2 pl
      subst e2
      refine pw_f (by decide) ?_
      have hq60 : q.1 ≤ 60 := by have := pi.1; simp at this; exact this
      have e11 : (fy_sI S1 0 9 0).1 0 11 = nI q.1 := by rw [rd_n (by omega)]; exact pl.1
      rw [e11]
      by_cases h40 : q.1 ≤ 40
      · have hok := pu_pi_ok pi h40
        rw [show (19 : Int32) * nI a = nI (19 * a) from pk_mul 19 a, nI_add, nI_clamp (by omega)]
        refine pw_t (nI_le (b := 40) h40 (by decide)) (pw_gd (fy_ix_nI (by omega) (by decide)) (pw_bl ?_))
        have C : ∀ d k fu S', k + d = q.1 → d < fu → fr (fun i k => (i = 5 ∧ k = 19 * a + j) ∨ (i = 6 ∧ 40 * (19 * a + j) ≤ k ∧ k < 40 * (19 * a + j) + 40)) (fy_sI S1 0 9 0) S' → S'.1 5 (19 * a + j) = nI q.1 → (∀ t, t < k → S'.1 6 (40 * (19 * a + j) + t) = nI (pu_c (q.2 t))) → pw (M_parses_53 fu S' (nI a) (nI j) (nI k)) (fun R => (∀ i, res = .inl i → R.2 = -100 - nI i ∧ pu_M R.1 (pu_st_ G (0, G.2.1.2))) ∧ ∀ q, res = .inr q → (40 < q.1 → R.2 = -3 ∧ pu_M R.1 (pu_st_ G (0, G.2.1.2))) ∧ (q.1 ≤ 40 → R.2 = nI q.1 ∧ pu_M R.1 (pu_st_ (pu_sA G a (pu_fA (G.1 a) j q)) (0, G.2.1.2)))) := by
          intro d
          induction d with
          | zero =>
            intro k fu S' hk hfu hf h5 h6
            obtain ⟨fu, rfl⟩ : ∃ z, fu = z + 1 := ⟨fu - 1, by omega⟩
            have : k = q.1 := by omega
            subst this
            have a11 : S'.1 0 11 = nI q.1 := by rw [(hf _ _ (by omega)).1]; exact e11
            rw [M_parses_53, a11]
            refine pw_t (nI_le (Nat.le_refl _) (by omega)) (pw_s ⟨fun i e' => ?_, fun q' e' => ?_⟩)
            · rw [er] at e'; cases e'
            · rw [er] at e'
              cases e'
              refine ⟨fun h => by omega, fun _ => ⟨rfl, ?_⟩⟩
              have := pu_M_a (a := a) (A := pu_fA (G.1 a) j q) hw2 hM2 (fr_m hf (fun i k h => by unfold pu_ma; omega)) (M_fA (A := G.1 a) hwA (hM2.1 a (by show a < 3 + 3 * G.2.2.2.2.2.2; omega)) hj h40 ⟨h5, h6⟩ hf)
              exact this
          | succ d ih =>
            intro k fu S' hk hfu hf h5 h6
            obtain ⟨fu, rfl⟩ : ∃ z, fu = z + 1 := ⟨fu - 1, by omega⟩
            have hkq : k < q.1 := by omega
            have a11 : S'.1 0 11 = nI q.1 := by rw [(hf _ _ (by omega)).1]; exact e11
            have a8 : S'.1 8 k = nI (pu_c (q.2 k)) := by rw [(hf _ _ (by omega)).1, rd_n (by omega)]; exact pl.2 k hkq
            rw [M_parses_53, a11, nI_1]
            refine pw_f (nI_ge hkq (by omega)) (pw_be M_at_e (pw_gd (fy_ix_nI (by omega) (by decide)) ?_))
            rw [nI_add, nI_clamp (by omega), nI_clamp (by omega), a8]
            refine pw_gd (fy_ix_nI (by omega) (by decide)) (pw_bl (pw_bl (ih (k + 1) fu _ (by omega) (by omega) (fr_I hf (by omega)) (by rw [rd_n (by omega)]; exact h5) (fun t ht => ?_))))
            by_cases et : t = k
            · rw [et, rd_y]
            · rw [rd_n (by omega)]; exact h6 t (by omega)
        exact C q.1 0 fy_fu _ (by omega) (fz_fu (by omega)) (fr_I fr_r (.inl ⟨rfl, rfl⟩)) rd_y (fun t ht => absurd ht (Nat.not_lt_zero t))
      · refine pw_f (nI_ge (b := q.1) (a := 40) (by omega) (by omega)) (pw_s ⟨fun i e' => ?_, fun q' e' => ?_⟩)
        · rw [er] at e'; cases e'
        · rw [er] at e'
          cases e'
          exact ⟨fun _ => ⟨rfl, hM2⟩, fun h => by omega⟩
theorem ez_read {SX SM : fy_S} {a j : Nat} {v2 v3 : Int32} {G : pu_G} (hw : pu_W G) (hX : pu_X SX G) (hM : pu_M SM G) (ha : a < 3) (hj : j < 19) (e1 : X9_formulaIn SX (nI a) v2 v3 = some (some (38 + 41 * a + 3 + 2 * j))) : pu_O (X9_readFormula SX (nI a) v2 v3) (M_parses SM (nI a) (nI j)) := by
  have eX : X9_readFormula SX (nI a) v2 v3 = fy_bp (X4_readInto SX (38 + 41 * a + 3 + 2 * j) (SX.1 (38 + 41 * a) 3)) fun S41 r41 => X9_readFormula_46 S41 r41 := by
    rw [X9_readFormula, X_ain_y ha, e1]; rfl
  rw [eX]
  obtain ⟨⟨SX', r1⟩, q1, x1, x2⟩ := X_rd hw hX ha hj rfl
  obtain ⟨⟨SM', r2⟩, q2, m1, m2⟩ := M_rd hw hM ha hj rfl
  dsimp only at x1 x2 m1 m2
  have hwA := hw.1 a (by omega)
  cases hres : pu_pr G.2.1.2 (G.1 a).1 G.2.1.1 G.2.1.1 true (0, fun _ => 0) [] with
  | inl i =>
    obtain ⟨a1, a2⟩ := x1 i hres
    obtain ⟨b1, b2⟩ := m1 i hres
    exact ⟨SX', SM', r1, q1, by rw [q2, a1, b1], _, pu_tw0 hw, a2, b2⟩
  | inr q =>
    obtain ⟨pi, a1, a2⟩ := x2 q hres
    obtain ⟨b1, b2⟩ := m2 q hres
    by_cases h40 : q.1 ≤ 40
    · exact ⟨SX', SM', r1, q1, by rw [q2, (a2 h40).1, (b2 h40).1], _, pu_tw0 (G := pu_sA G a (pu_fA (G.1 a) j q)) (pu_W_a hw (pu_fA_w hwA (pu_pi_ok pi h40))), (a2 h40).2, (b2 h40).2⟩
    · exact ⟨SX', SM', r1, q1, by rw [q2, (a1 (by omega)).1, (b1 (by omega)).1], _, pu_tw0 hw, (a1 (by omega)).2, (b1 (by omega)).2⟩
theorem ez_refuse {SX SM : fy_S} (h : pu_I SX SM) : pu_I (fy_sI SX 3 4 0) (fy_sI SM 0 9 0) := by
  obtain ⟨G, hw, hX, hM⟩ := h
  exact ⟨_, pu_tw0 hw, pu_tx0 hX, pu_tm0 hw hM⟩
theorem pu_bpi {α β : Type} {x : Option (α × β)} : (fy_bp x fun a b => some (a, b)) = x := by
  cases x with
  | none => rfl
  | some p => rfl
theorem ez_setInitial {SX SM : fy_S} (v1 : Int32) (h : pu_I SX SM) : pu_O (X9_setInitial SX v1) (M_setInitial SM v1) := by
  rw [X9_setInitial, M_setInitial, pu_bpi, pu_bpi, pu_bpi]
  rcases pu_slot v1 with ⟨a, ha, rfl⟩ | hb
  · obtain ⟨G, hw, hX, hM⟩ := h
    rw [M_slot_y ha, fy_bd_s, if_neg (by decide)]
    have e1 : X9_formulaIn SX (nI a) (-1) 0 = some (some (38 + 41 * a + 3 + 2 * 0)) := by
      rw [X9_formulaIn, X_ain_y ha, fy_bd_s]
      dsimp only
      rw [X0_formula, if_pos rfl, fy_bd_s]
    exact ez_read hw hX hM ha (j := 0) (by decide) e1
  · refine ⟨fy_sI SX 3 4 0, fy_sI SM 0 9 0, -2, ?_, ?_, ez_refuse h⟩
    · have e2 : X9_formulaIn SX v1 (-1) 0 = some none := by rw [X9_formulaIn, X_ain_n hb]; rfl
      rw [X9_readFormula, X_ain_n hb, e2]; rfl
    · rw [M_slot_n hb]; rfl
theorem ez_setTransition {SX SM : fy_S} (v1 v2 v3 : Int32) (h : pu_I SX SM) : pu_O (X9_setTransition SX v1 v2 v3) (M_setTransition SM v1 v2 v3) := by
  have hI := ez_refuse h
  rw [X9_setTransition, M_setTransition]
  rw [pu_bpi]
  have rf : M_setTransition_38 SM = some (fy_sI SM 0 9 0, -2) := rfl
  rw [rf]
  rcases pu_slot v1 with ⟨a, ha, rfl⟩ | hb
  · obtain ⟨G, hw, hX, hM⟩ := h
    have hwA := hw.1 a (by omega)
    have hXA := hX.1 a (by omega)
    have hMA := hM.1 a (by omega)
    have hn6 : (G.1 a).1 ≤ 6 := hwA.2.1
    have hm3 : (G.1 a).2.1 ≤ 3 := hwA.2.2.2.1
    rw [M_slot_y ha, fy_bd_s, if_neg (show ¬ (1 : Int32) = 0 by decide)]
    by_cases hm : v2 = -1
    · subst hm
      refine ⟨fy_sI SX 3 4 0, fy_sI SM 0 9 0, -2, by rw [if_pos rfl]; rfl, ?_, hI⟩
      exact pw_eq (pw_be (M_hs_n (by omega) hMA.1 (.inl (by decide))) (pw_t rfl (pw_s rfl)))
    · rw [if_neg hm]
      have bad : X9_formulaIn SX (nI a) v2 v3 = some none → X9_readFormula SX (nI a) v2 v3 = some (fy_sI SX 3 4 0, -2) := fun e => by
        rw [X9_readFormula, X_ain_y ha, e]; rfl
      rcases pu_ixx v2 (n := (G.1 a).1) (by omega) with ⟨p, hp, rfl⟩ | hb
      · rcases pu_ixx v3 (n := (G.1 a).2.1) (by omega) with ⟨x, hx, rfl⟩ | hb
        · have e1 : X9_formulaIn SX (nI a) (nI p) (nI x) = some (some (38 + 41 * a + 3 + 2 * (1 + 3 * p + x))) := by
            rw [X9_formulaIn, X_ain_y ha, fy_bd_s]
            dsimp only
            rw [X0_formula, if_neg hm]
            exact pw_eq (pw_bd (pw_be (X_hs_y hXA.1 hp (by omega)) (pw_f (by decide) (pw_be (X_hl_y hXA.2.1 hx (by omega)) (pw_f (by decide) (pw_be (X_move (by omega) hXA.1 hXA.2.1 hp hn6 hx hm3) (pw_s rfl)))))) (fun v hv => pw_s hv.symm))
          have := ez_read hw hX hM ha (j := 1 + 3 * p + x) (by omega) e1
          rw [M_hs_y (by omega) hMA.1 hp (by omega), fy_bd_s, if_neg (by decide), M_hl_y (by omega) hMA.2.1 hx (by omega), fy_bd_s, if_neg (by decide), M_fof, fy_bd_s, pu_bpi]
          exact this
        · refine ⟨fy_sI SX 3 4 0, fy_sI SM 0 9 0, -2, bad ?_, ?_, hI⟩
          · rw [X9_formulaIn, X_ain_y ha, fy_bd_s]
            dsimp only
            rw [X0_formula, if_neg hm]
            exact pw_eq (pw_bd (pw_be (X_hs_y hXA.1 hp (by omega)) (pw_f (by decide) (pw_be (X_hl_n hXA.2.1 hb) (pw_t rfl (pw_s rfl))))) (fun v hv => pw_s hv.symm))
          · exact pw_eq (pw_be (M_hs_y (by omega) hMA.1 hp (by omega)) (pw_f (by decide) (pw_be (M_hl_n (by omega) hMA.2.1 hb) (pw_t rfl (pw_s rfl)))))
      · refine ⟨fy_sI SX 3 4 0, fy_sI SM 0 9 0, -2, bad ?_, ?_, hI⟩
        · rw [X9_formulaIn, X_ain_y ha, fy_bd_s]
          dsimp only
          rw [X0_formula, if_neg hm]
          exact pw_eq (pw_bd (pw_be (X_hs_n hXA.1 hb) (pw_t rfl (pw_s rfl))) (fun v hv => pw_s hv.symm))
        · exact pw_eq (pw_be (M_hs_n (by omega) hMA.1 hb) (pw_t rfl (pw_s rfl)))
  · refine ⟨fy_sI SX 3 4 0, fy_sI SM 0 9 0, -2, ?_, ?_, hI⟩
    · by_cases hm : v2 = -1
      · rw [if_pos hm]; rfl
      · rw [if_neg hm]
        have e2 : X9_formulaIn SX v1 v2 v3 = some none := by rw [X9_formulaIn, X_ain_n hb]; rfl
        rw [X9_readFormula, X_ain_n hb, e2]; rfl
    · exact pw_eq (pw_be (M_slot_n hb) (pw_t rfl (pw_s rfl)))
