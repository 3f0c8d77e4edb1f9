/-! formulas that are asked for; sets; steps of the reverse automaton; words -/
theorem X_move {S : fy_S} {a p x n m : Nat} (ha : a < 7) (h3 : S.1 (38 + 41 * a) 3 = nI n) (h4 : S.1 (38 + 41 * a) 4 = nI m) (hp : p < n) (hn : n ≤ 6) (hx : x < m) (hm : m ≤ 3) : X0_move S (38 + 41 * a) (nI p) (nI x) = some (some (38 + 41 * a + 3 + 2 * (1 + 3 * p + x))) := by
  rw [X0_move, show nI p * (3 : Int32) = nI (p * 3) from pk_mul p 3, nI_add]
  refine pw_eq (pw_be (X_hs_y h3 hp (by omega)) (pw_f (by decide) (pw_be (X_hl_y h4 hx (by omega)) (pw_f (by decide) (pw_gd (fy_ix_nI (by omega) (by decide)) (pw_s ?_))))))
  rw [nI_clamp (by omega), X_arm ha, show 38 + 41 * a + 5 + 2 * (p * 3 + x) = 38 + 41 * a + 3 + 2 * (1 + 3 * p + x) by omega]
theorem pu_u_m {A : pu_A} {p x : Nat} (hp : p < A.1) (hx : x < A.2.1) (hm : A.2.1 ≤ 3) : pu_u A (1 + 3 * p + x) := .inr ⟨by omega, by omega, by omega⟩
theorem pu_asked {SX SM : fy_S} {a : Nat} {A : pu_A} (ha : a < 3) (hw : pu_wA A) (hX : pu_XA SX (38 + 41 * a) A) (hM : pu_MA SM a A) (v2 v3 : Int32) : (∃ j, j < 19 ∧ pu_u A j ∧ X9_formulaIn SX (nI a) v2 v3 = some (some (38 + 41 * a + 3 + 2 * j)) ∧ M_asked SM (nI a) v2 v3 = some (nI j)) ∨ (X9_formulaIn SX (nI a) v2 v3 = some none ∧ M_asked SM (nI a) v2 v3 = some (-1)) := by
  have hn6 : A.1 ≤ 6 := hw.2.1
  have hm3 : A.2.1 ≤ 3 := hw.2.2.2.1
  rw [X9_formulaIn, X_ain_y ha, fy_bd_s, M_asked, M_slot_y ha, fy_bd_s, if_neg (by decide)]
  dsimp only
  rw [X0_formula]
  by_cases h1 : v2 = -1
  · rw [if_pos h1, if_pos h1, fy_bd_s]
    exact .inl ⟨0, by decide, .inl rfl, rfl, rfl⟩
  · rw [if_neg h1, if_neg h1]
    rcases pu_ixx v2 (n := A.1) (by omega) with ⟨p, hp, rfl⟩ | hb
    · rcases pu_ixx v3 (n := A.2.1) (by omega) with ⟨x, hx, rfl⟩ | hb
      · refine .inl ⟨1 + 3 * p + x, by omega, pu_u_m hp hx hm3, ?_, ?_⟩
        · exact pw_eq (pw_bd (pw_be (X_hs_y hX.1 hp (by omega)) (pw_f (by decide) (pw_be (X_hl_y hX.2.1 hx (by omega)) (pw_f (by decide) (pw_be (X_move (by omega) hX.1 hX.2.1 hp hn6 hx hm3) (pw_s rfl)))))) (fun v hv => pw_s hv.symm))
        · refine pw_eq (pw_be (M_hs_y (by omega) hM.1 hp (by omega)) (pw_f (by decide) (pw_be (M_hl_y (by omega) hM.2.1 hx (by omega)) (pw_f (by decide) ?_))))
          rw [M_formulaOf, show (3 : Int32) * nI p = nI (3 * p) from pk_mul 3 p, show (1 : Int32) + nI (3 * p) = nI (1 + 3 * p) from nI_add 1 _, nI_add]
          exact pw_s rfl
      · refine .inr ⟨?_, ?_⟩
        · exact pw_eq (pw_bd (pw_be (X_hs_y hX.1 hp (by omega)) (pw_f (by decide) (pw_be (X_hl_n hX.2.1 hb) (pw_t rfl (pw_s rfl))))) (fun v hv => pw_s hv.symm))
        · exact pw_eq (pw_be (M_hs_y (by omega) hM.1 hp (by omega)) (pw_f (by decide) (pw_be (M_hl_n (by omega) hM.2.1 hb) (pw_t rfl (pw_s rfl)))))
    · refine .inr ⟨?_, ?_⟩
      · exact pw_eq (pw_bd (pw_be (X_hs_n hX.1 hb) (pw_t rfl (pw_s rfl))) (fun v hv => pw_s hv.symm))
      · exact pw_eq (pw_be (M_hs_n (by omega) hM.1 hb) (pw_t rfl (pw_s rfl)))
theorem pu_asked_n {SX SM : fy_S} {v1 v2 v3 : Int32} (hb : v1 < 0 ∨ (3 : Int32) ≤ v1) : X9_formulaIn SX v1 v2 v3 = some none ∧ M_asked SM v1 v2 v3 = some (-1) := by
  constructor
  · rw [X9_formulaIn]; exact pw_eq (pw_be (X_ain_n hb) (pw_s rfl))
  · rw [M_asked]; exact pw_eq (pw_be (M_slot_n hb) (pw_t rfl (pw_s rfl)))
theorem pu_sh1 : ∀ p, p < 7 → (1 : Int32) <<< (nI p &&& 31) = nI (2 ^ p) := by decide +kernel
theorem X_set_y {S : fy_S} {B n s : Nat} (h3 : S.1 B 3 = nI n) (hn : n ≤ 6) (hs : s < 2 ^ n) : X0_hasSet S B (nI s) = some 1 := by
  have := pu_2n hn
  rw [X0_hasSet, h3, pu_sh1 n (by omega), if_neg (nI_pos (by omega)), if_neg (nI_ge hs (by omega))]
theorem X_set_n {S : fy_S} {B n : Nat} {v : Int32} (h3 : S.1 B 3 = nI n) (hn : n ≤ 6) (hb : v < 0 ∨ nI (2 ^ n) ≤ v) : X0_hasSet S B v = some 0 := by
  rw [X0_hasSet, h3, pu_sh1 n (by omega)]
  by_cases h1 : v < 0
  · rw [if_pos h1]
  · rw [if_neg h1, if_pos (hb.resolve_left h1)]
theorem M_all {S : fy_S} {a n : Nat} (ha : a < 7) (h : S.1 1 a = nI n) (hn : n ≤ 6) : M_allOf S (nI a) = some (nI (2 ^ n - 1)) := by
  rw [M_allOf, fy_gd_y ha (by decide), nI_clamp (by omega), h, pu_sh1 n (by omega), show nI (2 ^ n) - (1 : Int32) = nI (2 ^ n - 1) from pk_sub (b := 1) (Nat.two_pow_pos n)]
theorem M_set_y {S : fy_S} {a n s : Nat} (ha : a < 7) (h : S.1 1 a = nI n) (hn : n ≤ 6) (hs : s < 2 ^ n) : M_isSet S (nI a) (nI s) = some 1 := by
  have := pu_2n hn
  rw [M_isSet, if_neg (nI_pos (by omega)), M_all ha h hn, fy_bd_s, if_neg (nI_nlt (by omega) (by omega))]
theorem M_set_n {S : fy_S} {a n : Nat} {v : Int32} (ha : a < 7) (h : S.1 1 a = nI n) (hn : n ≤ 6) (hb : v < 0 ∨ nI (2 ^ n) ≤ v) : M_isSet S (nI a) v = some 0 := by
  have := pu_2n hn
  have hp := Nat.two_pow_pos n
  rw [M_isSet]
  by_cases h1 : v < 0
  · rw [if_pos h1]
  · have hb := hb.resolve_left h1
    rw [if_neg h1, M_all ha h hn, fy_bd_s, if_pos]
    rw [fa_lt, nI_toInt (by omega)]
    rw [fa_le, nI_toInt (by omega)] at hb
    omega
theorem ez_isSatisfied {SX SM : fy_S} (v1 v2 v3 v4 : Int32) (h : pu_I SX SM) : ∃ r : Int32, X9_isSatisfied SX v1 v2 v3 v4 = some r ∧ M_isSatisfied SM v1 v2 v3 v4 = some r := by
  rcases pu_slot v1 with ⟨a, ha, rfl⟩ | hb
  · obtain ⟨G, hw, hX, hM⟩ := h
    have hwA := hw.1 a (by omega)
    have hXA := hX.1 a (by omega)
    have hMA := hM.1 a (by omega)
    have hn6 : (G.1 a).1 ≤ 6 := hwA.2.1
    rw [X9_isSatisfied, M_isSatisfied, X_ain_y ha, fy_bd_s]
    rcases pu_asked ha hwA hXA hMA v2 v3 with ⟨j, hj, hu, e1, e2⟩ | ⟨e1, e2⟩
    · have h64 := pu_2n hn6
      rw [e1, e2, fy_bd_s, fy_bd_s, if_neg (nI_pos (by omega))]
      dsimp only
      rcases pu_ixx v4 (n := 2 ^ (G.1 a).1) (by omega) with ⟨s, hs, rfl⟩ | hb
      · rw [X_set_y hXA.1 hn6 hs, M_set_y (by omega) hMA.1 hn6 hs, fy_bd_s, fy_bd_s, if_neg (by decide), if_neg (by decide), X_holds (hXA.2.2.2.2 j hj hu) (by omega), M_sat (by omega) hj hn6 (hwA.2.2.2.2.2.2 j hj hu) (hMA.2.2.2.2.2 j hj hu) (by omega), fy_bd_s]
        cases pu_ev ((G.1 a).2.2.2.2 j) s <;> exact ⟨_, rfl, rfl⟩
      · rw [X_set_n hXA.1 hn6 hb, M_set_n (by omega) hMA.1 hn6 hb]
        exact ⟨-2, rfl, rfl⟩
    · rw [e1, e2]
      exact ⟨-2, rfl, rfl⟩
  · obtain ⟨e1, e2⟩ := pu_asked_n (SX := SX) (SM := SM) (v2 := v2) (v3 := v3) hb
    rw [X9_isSatisfied, M_isSatisfied, X_ain_n hb, e1, e2]
    exact ⟨-2, rfl, rfl⟩
/-! one step -/
def pu_sk (A : pu_A) (x s : Nat) : Nat → Nat
  | 0 => 0
  | p + 1 => pu_sk A x s p ||| (if pu_ev (A.2.2.2.2 (1 + 3 * p + x)) s then 2 ^ p else 0)
def pu_sp1 (A : pu_A) (x s : Nat) : Nat := pu_sk A x s A.1
theorem pu_sk_lt (A : pu_A) (x s : Nat) : ∀ p, pu_sk A x s p < 2 ^ p := by
  intro p
  induction p with
  | zero => exact Nat.one_pos
  | succ p ih =>
    rw [pu_sk]
    have h2 : 2 ^ p < 2 ^ (p + 1) := Nat.pow_lt_pow_right (by decide) (by omega)
    refine Nat.or_lt_two_pow (by omega) ?_
    by_cases h : pu_ev (A.2.2.2.2 (1 + 3 * p + x)) s = true
    · rw [if_pos h]; exact h2
    · rw [if_neg h]; omega
theorem X_step_l {S : fy_S} {a x s : Nat} {A : pu_A} (ha : a < 7) (hw : pu_wA A) (h : pu_XA S (38 + 41 * a) A) (hx : x < A.2.1) (hs : s < 64) : ∀ d p fu, p + d = A.1 → d < fu → pw (X0_statesBefore_5 S fu (38 + 41 * a) (nI x) (nI s) (nI (pu_sk A x s p)) (nI p)) (fun r => r = nI (pu_sp1 A x s)) := by
  have hn6 : A.1 ≤ 6 := hw.2.1
  have hm3 : A.2.1 ≤ 3 := hw.2.2.2.1
  intro d
  induction d with
  | zero =>
    intro p fu hp hfu
    obtain ⟨fu, rfl⟩ : ∃ z, fu = z + 1 := ⟨fu - 1, by omega⟩
    have : p = A.1 := by omega
    subst this
    rw [X0_statesBefore_5, h.1]
    exact pw_t (nI_le (Nat.le_refl _) (by omega)) (pw_s rfl)
  | succ d ih =>
    intro p fu hp hfu
    obtain ⟨fu, rfl⟩ : ∃ z, fu = z + 1 := ⟨fu - 1, by omega⟩
    have hpn : p < A.1 := by omega
    have hu : pu_u A (1 + 3 * p + x) := pu_u_m hpn hx hm3
    have ih := ih (p + 1) fu (by omega) (by omega)
    rw [X0_statesBefore_5, h.1]
    refine pw_f (nI_ge hpn (by omega)) (pw_be (X_move ha h.1 h.2.1 hpn hn6 hx hm3) (pw_be (X_holds (h.2.2.2.2 _ (by omega) hu) hs) ?_))
    rw [pu_sk] at ih
    rw [nI_1]
    by_cases hv : pu_ev (A.2.2.2.2 (1 + 3 * p + x)) s = true
    · rw [if_pos hv] at ih ⊢
      refine pw_f (by decide) (pw_bl (pw_bl ?_))
      rw [pu_sh1 p (by omega), fa_or]
      exact ih
    · rw [if_neg hv] at ih ⊢
      rw [Nat.or_zero] at ih
      exact pw_t rfl (pw_bl ih)
theorem X_step {S : fy_S} {a x s : Nat} {A : pu_A} (ha : a < 7) (hw : pu_wA A) (h : pu_XA S (38 + 41 * a) A) (hx : x < A.2.1) (hs : s < 64) : X0_statesBefore S (38 + 41 * a) (nI x) (nI s) = some (nI (pu_sp1 A x s)) := by
  have hn6 : A.1 ≤ 6 := hw.2.1
  exact pw_eq (X_step_l ha hw h hx hs A.1 0 fy_fu (by omega) (fz_fu (by omega)))
theorem M_fof {S : fy_S} {p x : Nat} : M_formulaOf S (nI p) (nI x) = some (nI (1 + 3 * p + x)) := by
  rw [M_formulaOf, show (3 : Int32) * nI p = nI (3 * p) from pk_mul 3 p, show (1 : Int32) + nI (3 * p) = nI (1 + 3 * p) from nI_add 1 _, nI_add]
theorem M_step_l {S : fy_S} {a x s : Nat} {A : pu_A} (ha : a < 7) (hw : pu_wA A) (h : pu_MA S a A) (hx : x < A.2.1) (hs : s < 64) : ∀ d p fu, p + d = A.1 → d < fu → pw (M_stepOf_6 S fu (nI a) (nI x) (nI s) (nI (pu_sk A x s p)) (nI p)) (fun r => r = nI (pu_sp1 A x s)) := by
  have hn6 : A.1 ≤ 6 := hw.2.1
  have hm3 : A.2.1 ≤ 3 := hw.2.2.2.1
  intro d
  induction d with
  | zero =>
    intro p fu hp hfu
    obtain ⟨fu, rfl⟩ : ∃ z, fu = z + 1 := ⟨fu - 1, by omega⟩
    have : p = A.1 := by omega
    subst this
    rw [M_stepOf_6, nI_clamp (by omega), h.1]
    exact pw_gd (fy_ix_nI ha (by decide)) (pw_t (nI_le (Nat.le_refl _) (by omega)) (pw_s rfl))
  | succ d ih =>
    intro p fu hp hfu
    obtain ⟨fu, rfl⟩ : ∃ z, fu = z + 1 := ⟨fu - 1, by omega⟩
    have hpn : p < A.1 := by omega
    have hu : pu_u A (1 + 3 * p + x) := pu_u_m hpn hx hm3
    have ih := ih (p + 1) fu (by omega) (by omega)
    rw [M_stepOf_6, nI_clamp (by omega), h.1]
    refine pw_gd (fy_ix_nI ha (by decide)) (pw_f (nI_ge hpn (by omega)) (pw_be M_fof (pw_be (M_sat ha (by omega) hn6 (hw.2.2.2.2.2.2 _ (by omega) hu) (h.2.2.2.2.2 _ (by omega) hu) hs) ?_)))
    rw [pu_sk] at ih
    rw [nI_1]
    by_cases hv : pu_ev (A.2.2.2.2 (1 + 3 * p + x)) s = true
    · rw [if_pos hv] at ih ⊢
      refine pw_f (by decide) (pw_bl (pw_bl ?_))
      rw [pu_sh1 p (by omega), fa_or]
      exact ih
    · rw [if_neg hv] at ih ⊢
      refine pw_t rfl (pw_bl (pw_bl ?_))
      rw [show (0 : Int32) = nI 0 from rfl, fa_or]
      exact ih
theorem M_step {S : fy_S} {a x s : Nat} {A : pu_A} (ha : a < 7) (hw : pu_wA A) (h : pu_MA S a A) (hx : x < A.2.1) (hs : s < 64) : M_stepOf S (nI a) (nI x) (nI s) = some (nI (pu_sp1 A x s)) := by
  have hn6 : A.1 ≤ 6 := hw.2.1
  exact pw_eq (M_step_l ha hw h hx hs A.1 0 fy_fu (by omega) (fz_fu (by omega)))
theorem pu_sp1_lt {A : pu_A} (hw : pu_wA A) (x s : Nat) : pu_sp1 A x s < 2 ^ A.1 ∧ pu_sp1 A x s < 64 := by
  have h := pu_sk_lt A x s A.1
  have := pu_2n hw.2.1
  unfold pu_sp1
  omega
theorem ez_reverseStep {SX SM : fy_S} (v1 v2 v3 : Int32) (h : pu_I SX SM) : ∃ r : Int32, X9_reverseStep SX v1 v2 v3 = some r ∧ M_reverseStep SM v1 v2 v3 = some r := by
  rcases pu_slot v1 with ⟨a, ha, rfl⟩ | hb
  · obtain ⟨G, hw, hX, hM⟩ := h
    have hwA := hw.1 a (by omega)
    have hXA := hX.1 a (by omega)
    have hMA := hM.1 a (by omega)
    have hn6 : (G.1 a).1 ≤ 6 := hwA.2.1
    have hm3 : (G.1 a).2.1 ≤ 3 := hwA.2.2.2.1
    have h64 := pu_2n hn6
    rcases pu_ixx v2 (n := (G.1 a).2.1) (by omega) with ⟨x, hx, rfl⟩ | hb
    · rcases pu_ixx v3 (n := 2 ^ (G.1 a).1) (by omega) with ⟨s, hs, rfl⟩ | hb
      · refine ⟨nI (pu_sp1 (G.1 a) x s), ?_, ?_⟩
        · rw [X9_reverseStep]
          exact pw_eq (pw_be (X_ain_y ha) (pw_be (X_hl_y hXA.2.1 hx (by omega)) (pw_f (by decide) (pw_be (X_set_y hXA.1 hn6 hs) (pw_f (by decide) (pw_be (X_step (by omega) hwA hXA hx (by omega)) (pw_s rfl)))))))
        · rw [M_reverseStep]
          exact pw_eq (pw_be (M_slot_y ha) (pw_f (by decide) (pw_be (M_hl_y (by omega) hMA.2.1 hx (by omega)) (pw_f (by decide) (pw_be (M_set_y (by omega) hMA.1 hn6 hs) (pw_f (by decide) (pw_be (M_step (by omega) hwA hMA hx (by omega)) (pw_s rfl))))))))
      · refine ⟨-2, ?_, ?_⟩
        · rw [X9_reverseStep]
          exact pw_eq (pw_be (X_ain_y ha) (pw_be (X_hl_y hXA.2.1 hx (by omega)) (pw_f (by decide) (pw_be (X_set_n hXA.1 hn6 hb) (pw_t rfl (pw_s rfl))))))
        · rw [M_reverseStep]
          exact pw_eq (pw_be (M_slot_y ha) (pw_f (by decide) (pw_be (M_hl_y (by omega) hMA.2.1 hx (by omega)) (pw_f (by decide) (pw_be (M_set_n (by omega) hMA.1 hn6 hb) (pw_t rfl (pw_s rfl)))))))
    · refine ⟨-2, ?_, ?_⟩
      · rw [X9_reverseStep]
        exact pw_eq (pw_be (X_ain_y ha) (pw_be (X_hl_n hXA.2.1 hb) (pw_t rfl (pw_s rfl))))
      · rw [M_reverseStep]
        exact pw_eq (pw_be (M_slot_y ha) (pw_f (by decide) (pw_be (M_hl_n (by omega) hMA.2.1 hb) (pw_t rfl (pw_s rfl)))))
  · refine ⟨-2, ?_, ?_⟩
    · rw [X9_reverseStep]; exact pw_eq (pw_be (X_ain_n hb) (pw_s rfl))
    · rw [M_reverseStep]; exact pw_eq (pw_be (M_slot_n hb) (pw_t rfl (pw_s rfl)))
/-! the word: whether it fits, from which states it is accepted -/
def pu_fit (w : pu_q) (m : Nat) : Nat → Bool
  | 0 => true
  | k + 1 => pu_fit w m k && decide (w.2 k < m)
theorem pu_fit_t {w : pu_q} {m : Nat} : ∀ {k : Nat}, pu_fit w m k = true → ∀ i, i < k → w.2 i < m := by
  intro k
  induction k with
  | zero => intro _ i hi; omega
  | succ k ih =>
    intro h i hi
    rw [pu_fit, Bool.and_eq_true, decide_eq_true_eq] at h
    by_cases e : i = k
    · subst e; exact h.2
    · exact ih h.1 i (by omega)
theorem pu_fit_f {w : pu_q} {m k : Nat} (h : pu_fit w m k = false) : ∀ d, pu_fit w m (k + d) = false := by
  intro d
  induction d with
  | zero => exact h
  | succ d ih => rw [← Nat.add_assoc, pu_fit, ih, Bool.false_and]
theorem X_fits_l {S : fy_S} {B m : Nat} {w : pu_q} (h4 : S.1 B 4 = nI m) (hm : m ≤ 3) (hw : w.1 ≤ 12) (hw3 : ∀ k, k < w.1 → w.2 k < 3) (h : pu_l (S.1 13) (S.1 12 1) w) : ∀ d k fu, k + d = w.1 → d < fu → pu_fit w m k = true → pw (X8_fits_2 S fu 12 B (nI k)) (fun r => r = if pu_fit w m w.1 then 1 else 0) := by
  have e12 : X_al (12 + 1) = 12 := by decide
  intro d
  induction d with
  | zero =>
    intro k fu hk hfu hf
    obtain ⟨fu, rfl⟩ : ∃ z, fu = z + 1 := ⟨fu - 1, by omega⟩
    have : k = w.1 := by omega
    subst this
    rw [X8_fits_2, h.1, hf]
    exact pw_t (nI_le (Nat.le_refl _) (by omega)) (pw_s rfl)
  | succ d ih =>
    intro k fu hk hfu hf
    obtain ⟨fu, rfl⟩ : ∃ z, fu = z + 1 := ⟨fu - 1, by omega⟩
    have hkw : k < w.1 := by omega
    have h3 := hw3 k hkw
    rw [X8_fits_2, h.1, e12]
    refine pw_f (nI_ge hkw (by omega)) (pw_gd (fy_ix_nI (by omega) (by decide)) ?_)
    rw [nI_clamp (by omega), h.2 k hkw, nI_1]
    by_cases hl : w.2 k < m
    · exact pw_be (X_hl_y h4 hl (by omega)) (pw_f (by decide) (pw_bl (ih (k + 1) fu (by omega) (by omega) (by rw [pu_fit, hf, Bool.true_and]; exact decide_eq_true hl))))
    · refine pw_be (X_hl_n h4 (.inr (nI_le (by omega) (by omega)))) (pw_t rfl (pw_s ?_))
      have e := pu_fit_f (w := w) (m := m) (k := k + 1) (by rw [pu_fit, hf, Bool.true_and]; exact decide_eq_false hl) d
      rw [show k + 1 + d = w.1 by omega] at e
      rw [e]; rfl
theorem X_fits {S : fy_S} {B m : Nat} {w : pu_q} (h4 : S.1 B 4 = nI m) (hm : m ≤ 3) (hw : w.1 ≤ 12) (hw3 : ∀ k, k < w.1 → w.2 k < 3) (h : pu_l (S.1 13) (S.1 12 1) w) : X8_fits S 12 B = some (if pu_fit w m w.1 then 1 else 0) := by
  exact pw_eq (X_fits_l h4 hm hw hw3 h w.1 0 fy_fu (by omega) (fz_fu (by omega)) rfl)
theorem M_fits_l {S : fy_S} {a m : Nat} {w : pu_q} (ha : a < 7) (h4 : S.1 2 a = nI m) (hm : m ≤ 3) (hw : w.1 ≤ 12) (hw3 : ∀ k, k < w.1 → w.2 k < 3) (h : pu_l (S.1 14) (S.1 0 25) w) : ∀ d k fu, k + d = w.1 → d < fu → pw (M_isWordOf_4 S fu (nI a) (if pu_fit w m k then 1 else 0) (nI k)) (fun r => r = if pu_fit w m w.1 then 1 else 0) := by
  intro d
  induction d with
  | zero =>
    intro k fu hk hfu
    obtain ⟨fu, rfl⟩ : ∃ z, fu = z + 1 := ⟨fu - 1, by omega⟩
    have : k = w.1 := by omega
    subst this
    rw [M_isWordOf_4, h.1]
    refine pw_t (nI_le (Nat.le_refl _) (by omega)) (pw_gd ?_ (pw_s rfl))
    cases pu_fit w m w.1 <;> decide
  | succ d ih =>
    intro k fu hk hfu
    obtain ⟨fu, rfl⟩ : ∃ z, fu = z + 1 := ⟨fu - 1, by omega⟩
    have hkw : k < w.1 := by omega
    have h3 := hw3 k hkw
    have ih := ih (k + 1) fu (by omega) (by omega)
    rw [M_isWordOf_4, h.1, nI_1]
    refine pw_f (nI_ge hkw (by omega)) ?_
    rw [pu_fit] at ih
    by_cases hf : pu_fit w m k = true
    · rw [hf, Bool.true_and] at ih
      rw [if_pos hf]
      refine pw_f (by decide) (pw_gd (fy_ix_nI (by omega) (by decide)) ?_)
      rw [nI_clamp (by omega), h.2 k hkw]
      by_cases hl : w.2 k < m
      · rw [decide_eq_true hl] at ih
        exact pw_be (M_hl_y ha h4 hl (by omega)) (pw_f (by decide) (pw_bl ih))
      · rw [decide_eq_false hl] at ih
        exact pw_be (M_hl_n ha h4 (.inr (nI_le (by omega) (by omega)))) (pw_t rfl (pw_bl ih))
    · have hf : pu_fit w m k = false := by simpa using hf
      rw [hf, Bool.false_and] at ih
      rw [hf]
      exact pw_t rfl (pw_bl ih)
theorem M_fits {S : fy_S} {a m : Nat} {w : pu_q} (ha : a < 7) (h4 : S.1 2 a = nI m) (hm : m ≤ 3) (hw : w.1 ≤ 12) (hw3 : ∀ k, k < w.1 → w.2 k < 3) (h : pu_l (S.1 14) (S.1 0 25) w) : M_isWordOf S (nI a) = some (if pu_fit w m w.1 then 1 else 0) := by
  exact pw_eq (M_fits_l ha h4 hm hw hw3 h w.1 0 fy_fu (by omega) (fz_fu (by omega)))
/-- the states from which the word from the place w.1 - d on is accepted -/
def pu_af (A : pu_A) (w : pu_q) : Nat → Nat
  | 0 => A.2.2.1
  | d + 1 => pu_sp1 A (w.2 (w.1 - 1 - d)) (pu_af A w d)
theorem pu_af_lt {A : pu_A} (hA : pu_wA A) (w : pu_q) : ∀ d, pu_af A w d < 2 ^ A.1 ∧ pu_af A w d < 64
  | 0 => ⟨hA.2.2.2.2.1, Nat.lt_of_lt_of_le hA.2.2.2.2.1 (pu_2n hA.2.1)⟩
  | d + 1 => pu_sp1_lt hA _ _
theorem pu_m1 (x : Int32) : x + (-1) = x - 1 := (Int32.sub_eq_add_neg x 1).symm
theorem pu_pre {k : Nat} (hk : k < 2 ^ 30) : nI k - 1 < nI k := by
  rw [fa_lt, nI_toInt (by omega), show (1 : Int32) = nI 1 from rfl, pk_sub_toInt hk (by decide)]
  omega
theorem X_acc_l {S : fy_S} {a st : Nat} {A : pu_A} {w : pu_q} (ha : a < 7) (hA : pu_wA A) (hX : pu_XA S (38 + 41 * a) A) (hw : w.1 ≤ 12) (hf : pu_fit w A.2.1 w.1 = true) (h : pu_l (S.1 13) (S.1 12 1) w) (hst : st ≤ w.1) : ∀ c d fu, st + c + d = w.1 → c < fu → pw (X8_acceptedFrom_13 S fu 12 (38 + 41 * a) (nI st) (nI (pu_af A w d)) (nI (st + c) - 1)) (fun r => r = nI (pu_af A w (w.1 - st))) := by
  have e12 : X_al (12 + 1) = 12 := by decide
  intro c
  induction c with
  | zero =>
    intro d fu hd hfu
    obtain ⟨fu, rfl⟩ : ∃ z, fu = z + 1 := ⟨fu - 1, by omega⟩
    rw [X8_acceptedFrom_13]
    refine pw_t (pu_pre (by omega)) (pw_s ?_)
    rw [show w.1 - st = d by omega]
  | succ c ih =>
    intro d fu hd hfu
    obtain ⟨fu, rfl⟩ : ∃ z, fu = z + 1 := ⟨fu - 1, by omega⟩
    have hl := pu_fit_t hf (st + c) (by omega)
    rw [X8_acceptedFrom_13, ← Nat.add_assoc, nI_pred, e12]
    refine pw_f (nI_nlt (by omega) (by omega)) (pw_f (nI_pos (by omega)) (pw_gd (fy_ix_nI (by omega) (by decide)) ?_))
    rw [nI_clamp (by omega), h.2 _ (by omega)]
    refine pw_be (X_step ha hA hX hl (pu_af_lt hA w d).2) (pw_bl ?_)
    rw [pu_m1]
    have := ih (d + 1) fu (by omega) (by omega)
    rw [pu_af, show w.1 - 1 - d = st + c by omega] at this
    exact this
theorem X_acc {S : fy_S} {a st : Nat} {A : pu_A} {w : pu_q} (ha : a < 7) (hA : pu_wA A) (hX : pu_XA S (38 + 41 * a) A) (hw : w.1 ≤ 12) (hf : pu_fit w A.2.1 w.1 = true) (h : pu_l (S.1 13) (S.1 12 1) w) (hst : st ≤ w.1) : X8_acceptedFrom S 12 (38 + 41 * a) (nI st) = some (nI (pu_af A w (w.1 - st))) := by
  rw [X8_acceptedFrom, h.1, hX.2.2.1]
  have := X_acc_l ha hA hX hw hf h hst (w.1 - st) 0 fy_fu (by omega) (fz_fu (by omega))
  rw [show st + (w.1 - st) = w.1 by omega] at this
  exact pw_eq this
theorem M_acc_l {S : fy_S} {a st : Nat} {A : pu_A} {w : pu_q} (ha : a < 7) (hA : pu_wA A) (hX : pu_MA S a A) (hw : w.1 ≤ 12) (hf : pu_fit w A.2.1 w.1 = true) (h : pu_l (S.1 14) (S.1 0 25) w) (hst : st ≤ w.1) : ∀ c d fu, st + c + d = w.1 → c < fu → pw (M_acceptingFrom_15 S fu (nI a) (nI st) (nI (pu_af A w d)) (nI (st + c) - 1)) (fun r => r = nI (pu_af A w (w.1 - st))) := by
  intro c
  induction c with
  | zero =>
    intro d fu hd hfu
    obtain ⟨fu, rfl⟩ : ∃ z, fu = z + 1 := ⟨fu - 1, by omega⟩
    rw [M_acceptingFrom_15]
    refine pw_t (pu_pre (by omega)) (pw_s ?_)
    rw [show w.1 - st = d by omega]
  | succ c ih =>
    intro d fu hd hfu
    obtain ⟨fu, rfl⟩ : ∃ z, fu = z + 1 := ⟨fu - 1, by omega⟩
    have hl := pu_fit_t hf (st + c) (by omega)
    rw [M_acceptingFrom_15, ← Nat.add_assoc, nI_pred]
    refine pw_f (nI_nlt (by omega) (by omega)) (pw_gd (fy_ix_nI (by omega) (by decide)) ?_)
    rw [nI_clamp (by omega), h.2 _ (by omega)]
    refine pw_be (M_step ha hA hX hl (pu_af_lt hA w d).2) (pw_bl ?_)
    rw [pu_m1]
    have := ih (d + 1) fu (by omega) (by omega)
    rw [pu_af, show w.1 - 1 - d = st + c by omega] at this
    exact this
theorem M_acc {S : fy_S} {a st : Nat} {A : pu_A} {w : pu_q} (ha : a < 7) (hA : pu_wA A) (hX : pu_MA S a A) (hw : w.1 ≤ 12) (hf : pu_fit w A.2.1 w.1 = true) (h : pu_l (S.1 14) (S.1 0 25) w) (hst : st ≤ w.1) : M_acceptingFrom S (nI a) (nI st) = some (nI (pu_af A w (w.1 - st))) := by
  rw [M_acceptingFrom, h.1, nI_clamp (by omega), hX.2.2.1, fy_gd_y ha (by decide)]
  have := M_acc_l ha hA hX hw hf h hst (w.1 - st) 0 fy_fu (by omega) (fz_fu (by omega))
  rw [show st + (w.1 - st) = w.1 by omega] at this
  exact pw_eq this
theorem ez_acceptingStates {SX SM : fy_S} (v1 v2 : Int32) (h : pu_I SX SM) : ∃ r : Int32, X9_acceptingStates SX v1 v2 = some r ∧ M_acceptingStates SM v1 v2 = some r := by
  rcases pu_slot v1 with ⟨a, ha, rfl⟩ | hb
  · obtain ⟨G, hw, hX, hM⟩ := h
    have hwA := hw.1 a (by omega)
    have hXA := hX.1 a (by omega)
    have hMA := hM.1 a (by omega)
    have hm3 : (G.1 a).2.1 ≤ 3 := hwA.2.2.2.1
    have hl : G.2.2.2.1.1 ≤ 12 := hw.2.2.2.1.1
    have eX := X_fits hXA.2.1 hm3 hl hw.2.2.2.1.2 hX.2.2.2.1
    have eM := M_fits (by omega) hMA.2.1 hm3 hl hw.2.2.2.1.2 hM.2.2.2.1
    rw [X9_acceptingStates, M_acceptingStates, X_ain_y ha, M_slot_y ha, fy_bd_s, fy_bd_s, if_neg (by decide), hX.2.2.2.1.1, hM.2.2.2.1.1]
    dsimp only
    rcases pu_bw (lo := 0) (hi := G.2.2.2.1.1) v2 (by decide) (by omega) with ⟨st, _, hst, rfl⟩ | hb
    · by_cases hf : pu_fit G.2.2.2.1 (G.1 a).2.1 G.2.2.2.1.1 = true
      · rw [hf] at eX eM
        refine ⟨_, pw_eq (pw_be (X_within_y (lo := 0) (Nat.zero_le _) hst (by omega)) (pw_f (by decide) (pw_be eX (pw_f (by decide) (pw_be (X_acc (by omega) hwA hXA hl hf hX.2.2.2.1 hst) (pw_s rfl)))))), pw_eq (pw_be (M_between_y (lo := 0) (Nat.zero_le _) hst (by omega)) (pw_f (by decide) (pw_be eM (pw_f (by decide) (pw_be (M_acc (by omega) hwA hMA hl hf hM.2.2.2.1 hst) (pw_s rfl))))))⟩
      · have hf : pu_fit G.2.2.2.1 (G.1 a).2.1 G.2.2.2.1.1 = false := by simpa using hf
        rw [hf] at eX eM
        exact ⟨-4, pw_eq (pw_be (X_within_y (lo := 0) (Nat.zero_le _) hst (by omega)) (pw_f (by decide) (pw_be eX (pw_t rfl (pw_s rfl))))), pw_eq (pw_be (M_between_y (lo := 0) (Nat.zero_le _) hst (by omega)) (pw_f (by decide) (pw_be eM (pw_t rfl (pw_s rfl)))))⟩
    · exact ⟨-2, pw_eq (pw_be (X_within_n (lo := 0) hb) (pw_t rfl (pw_s rfl))), pw_eq (pw_be (M_between_n (lo := 0) hb) (pw_t rfl (pw_s rfl)))⟩
  · refine ⟨-2, ?_, ?_⟩
    · rw [X9_acceptingStates]; exact pw_eq (pw_be (X_ain_n hb) (pw_s rfl))
    · rw [M_acceptingStates]; exact pw_eq (pw_be (M_slot_n hb) (pw_t rfl (pw_s rfl)))
theorem ez_accepts {SX SM : fy_S} (v1 : Int32) (h : pu_I SX SM) : ∃ r : Int32, X9_accepts SX v1 = some r ∧ M_accepts SM v1 = some r := by
  rcases pu_slot v1 with ⟨a, ha, rfl⟩ | hb
  · obtain ⟨G, hw, hX, hM⟩ := h
    have hwA := hw.1 a (by omega)
    have hXA := hX.1 a (by omega)
    have hMA := hM.1 a (by omega)
    have hn6 : (G.1 a).1 ≤ 6 := hwA.2.1
    have hm3 : (G.1 a).2.1 ≤ 3 := hwA.2.2.2.1
    have hl : G.2.2.2.1.1 ≤ 12 := hw.2.2.2.1.1
    have eX := X_fits hXA.2.1 hm3 hl hw.2.2.2.1.2 hX.2.2.2.1
    have eM := M_fits (by omega) hMA.2.1 hm3 hl hw.2.2.2.1.2 hM.2.2.2.1
    rw [X9_accepts, M_accepts, X_ain_y ha, M_slot_y ha, fy_bd_s, fy_bd_s, if_neg (by decide)]
    dsimp only
    by_cases hf : pu_fit G.2.2.2.1 (G.1 a).2.1 G.2.2.2.1.1 = true
    · rw [hf] at eX eM
      have hu : pu_u (G.1 a) 0 := .inl rfl
      have hlt := (pu_af_lt hwA G.2.2.2.1 (G.2.2.2.1.1 - 0)).2
      have h1 := X_holds (hXA.2.2.2.2 0 (by decide) hu) hlt
      have h2 := M_sat (by omega) (by decide) hn6 (hwA.2.2.2.2.2.2 0 (by decide) hu) (hMA.2.2.2.2.2 0 (by decide) hu) hlt
      cases hv : pu_ev ((G.1 a).2.2.2.2 0) (pu_af (G.1 a) G.2.2.2.1 (G.2.2.2.1.1 - 0))
      · rw [hv] at h1 h2
        refine ⟨0, pw_eq (pw_be eX (pw_f (by decide) (pw_be (X_acc (by omega) hwA hXA hl hf hX.2.2.2.1 (Nat.zero_le _)) (pw_be h1 (pw_t rfl (pw_s rfl)))))), pw_eq (pw_be eM (pw_f (by decide) (pw_be (M_acc (by omega) hwA hMA hl hf hM.2.2.2.1 (Nat.zero_le _)) (pw_be (v := 0) ?_ (pw_t rfl (pw_s rfl))))))⟩
        rw [M_isAccepting]; exact pw_eq (pw_be h2 (pw_gd (by decide) (pw_s rfl)))
      · rw [hv] at h1 h2
        refine ⟨1, pw_eq (pw_be eX (pw_f (by decide) (pw_be (X_acc (by omega) hwA hXA hl hf hX.2.2.2.1 (Nat.zero_le _)) (pw_be h1 (pw_f (by decide) (pw_s rfl)))))), pw_eq (pw_be eM (pw_f (by decide) (pw_be (M_acc (by omega) hwA hMA hl hf hM.2.2.2.1 (Nat.zero_le _)) (pw_be (v := 1) ?_ (pw_f (by decide) (pw_s rfl))))))⟩
        rw [M_isAccepting]; exact pw_eq (pw_be h2 (pw_gd (by decide) (pw_s rfl)))
    · have hf : pu_fit G.2.2.2.1 (G.1 a).2.1 G.2.2.2.1.1 = false := by simpa using hf
      rw [hf] at eX eM
      exact ⟨-4, pw_eq (pw_be eX (pw_t rfl (pw_s rfl))), pw_eq (pw_be eM (pw_t rfl (pw_s rfl)))⟩
  · refine ⟨-2, ?_, ?_⟩
    · rw [X9_accepts]; exact pw_eq (pw_be (X_ain_n hb) (pw_s rfl))
    · rw [M_accepts]; exact pw_eq (pw_be (M_slot_n hb) (pw_t rfl (pw_s rfl)))
