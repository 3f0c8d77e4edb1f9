/-! relevantStates -/
def pu_sm (f : Nat → Nat) : Nat → Nat
  | 0 => 0
  | k + 1 => pu_sm f k ||| (if f k < 6 then 2 ^ f k else 0)
def pu_si (q : pu_q) : Nat := pu_sm q.2 q.1
theorem pu_sm_lt {f : Nat → Nat} : ∀ k, pu_sm f k < 64 := by
  intro k
  induction k with
  | zero => exact (by decide : 0 < 64)
  | succ k ih =>
    rw [pu_sm]
    refine Nat.or_lt_two_pow (n := 6) ih ?_
    split
    · rename_i h; exact Nat.pow_lt_pow_right (by decide) h
    · decide
theorem X_si {S : fy_S} {id : Nat} {q : pu_q} (h40 : q.1 ≤ 40) (h10 : ∀ k, k < q.1 → q.2 k < 10) (h : pu_l (S.1 (id + 1)) (S.1 id 1) q) : X2_statesInside S id = some (nI (pu_si q)) := by
  have L : ∀ d k fu, k + d = q.1 → d < fu → pw (X2_statesInside_4 S fu id (nI (pu_sm q.2 k)) (nI k)) (fun r => r = nI (pu_si q)) := by
    intro d
    induction d with
    | zero =>
      intro k fu hk hfu
      obtain ⟨fu, rfl⟩ : ∃ z, fu = z + 1 := ⟨fu - 1, by omega⟩
      have : k = q.1 := by omega
      subst this
      rw [X2_statesInside_4, h.1]
      exact pw_t (nI_le (Nat.le_refl _) (by omega)) (pw_s rfl)
    | succ d ih =>
      intro k fu hk hfu
      obtain ⟨fu, rfl⟩ : ∃ z, fu = z + 1 := ⟨fu - 1, by omega⟩
      have hkq : k < q.1 := by omega
      have h10k := h10 k hkq
      have ih := ih (k + 1) fu (by omega) (by omega)
      rw [X2_statesInside_4, h.1, nI_clamp (by omega), h.2 k hkq, nI_1]
      refine pw_f (nI_ge hkq (by omega)) (pw_gd (fy_ix_nI (by omega) (by decide)) ?_)
      rw [pu_sm] at ih
      by_cases h6 : q.2 k < 6
      · rw [if_pos h6] at ih
        refine pw_f (nI_ge (b := 6) h6 (by decide)) (pw_gd (fy_ix_nI (by omega) (by decide)) (pw_bl (pw_bl ?_)))
        rw [pu_sh1 _ (by omega), fa_or]
        exact ih
      · rw [if_neg h6, Nat.or_zero] at ih
        exact pw_t (nI_le (a := 6) (by omega) (by omega)) (pw_bl ih)
  exact pw_eq (L q.1 0 fy_fu (by omega) (fz_fu (by omega)))
theorem M_si {S : fy_S} {a j : Nat} {q : pu_q} (ha : a < 7) (hj : j < 19) (h40 : q.1 ≤ 40) (h10 : ∀ k, k < q.1 → q.2 k < 10) (h : pu_MF S a j q) : M_statesIn S (nI a) (nI j) = some (nI (pu_si q)) := by
  have L : ∀ d k fu, k + d = q.1 → d < fu → pw (M_statesIn_5 S fu (nI a) (nI j) (nI (pu_sm q.2 k)) (nI k)) (fun r => r = nI (pu_si q)) := by
    intro d
    induction d with
    | zero =>
      intro k fu hk hfu
      obtain ⟨fu, rfl⟩ : ∃ z, fu = z + 1 := ⟨fu - 1, by omega⟩
      have : k = q.1 := by omega
      subst this
      rw [M_statesIn_5]
      exact pw_be (M_size ha hj h.1) (pw_t (nI_le (Nat.le_refl _) (by show q.1 < 2 ^ 31; omega)) (pw_s rfl))
    | succ d ih =>
      intro k fu hk hfu
      obtain ⟨fu, rfl⟩ : ∃ z, fu = z + 1 := ⟨fu - 1, by omega⟩
      have hkq : k < q.1 := by omega
      have h10k := h10 k hkq
      have ih := ih (k + 1) fu (by omega) (by omega)
      have h6c : S.1 6 (40 * (19 * a + j) + k) = nI (pu_c (q.2 k)) := h.2 k hkq
      rw [M_statesIn_5]
      refine pw_be (M_size ha hj h.1) (pw_f (nI_ge hkq (by show q.1 < 2 ^ 31; omega)) (pw_be M_at_e ?_))
      rw [nI_add, nI_1, nI_clamp (by omega), h6c]
      refine pw_gd (fy_ix_nI (by omega) (by decide)) ?_
      rw [pu_sm] at ih
      by_cases h6 : q.2 k < 6
      · rw [if_pos h6] at ih
        have e1 : pu_c (q.2 k) = q.2 k := by unfold pu_c; rw [if_pos h6]
        rw [e1]
        refine pw_f (nI_ge (b := 8) (by omega) (by decide)) (pw_be M_at_e ?_)
        rw [nI_add, nI_clamp (by omega), h6c, e1]
        refine pw_gd (fy_ix_nI (by omega) (by decide)) (pw_bl (pw_bl ?_))
        rw [pu_sh1 _ (by omega), fa_or]
        exact ih
      · rw [if_neg h6] at ih
        refine pw_t ?_ (pw_bl (pw_bl ?_))
        · have : q.2 k = 6 ∨ q.2 k = 7 ∨ q.2 k = 8 ∨ q.2 k = 9 := by omega
          rcases this with e | e | e | e <;> rw [e] <;> decide
        · rw [show (0 : Int32) = nI 0 from rfl, fa_or]
          exact ih
  exact pw_eq (L q.1 0 fy_fu (by omega) (fz_fu (by omega)))
def pu_rx (A : pu_A) (p : Nat) : Nat → Nat
  | 0 => 0
  | x + 1 => pu_rx A p x ||| pu_si (A.2.2.2.2 (1 + 3 * p + x))
def pu_ra (A : pu_A) (b : Nat) : Nat → Nat
  | 0 => 0
  | p + 1 => pu_ra A b p ||| (if b.testBit p then pu_rx A p A.2.1 else 0)
def pu_rf (A : pu_A) (s : Nat) : Nat := s ||| pu_ra A s A.1
theorem pu_rx_lt {A : pu_A} {p : Nat} : ∀ x, pu_rx A p x < 64 := by
  intro x
  induction x with
  | zero => exact (by decide : 0 < 64)
  | succ x ih => rw [pu_rx]; exact Nat.or_lt_two_pow (n := 6) ih (pu_sm_lt _)
theorem pu_ra_lt {A : pu_A} {b : Nat} : ∀ p, pu_ra A b p < 64 := by
  intro p
  induction p with
  | zero => exact (by decide : 0 < 64)
  | succ p ih =>
    rw [pu_ra]
    refine Nat.or_lt_two_pow (n := 6) ih ?_
    split
    · exact pu_rx_lt _
    · decide
theorem X_after {S : fy_S} {a b : Nat} {A : pu_A} (ha : a < 7) (hA : pu_wA A) (hX : pu_XA S (38 + 41 * a) A) (hb : b < 64) : X0_statesAfter S (38 + 41 * a) (nI b) = some (nI (pu_ra A b A.1)) := by
  have hn6 : A.1 ≤ 6 := hA.2.1
  have hm3 : A.2.1 ≤ 3 := hA.2.2.2.1
  have L : ∀ d p fu, p + d = A.1 → d < fu → pw (X0_statesAfter_4 S fu (38 + 41 * a) (nI b) (nI (pu_ra A b p)) (nI p)) (fun r => r = nI (pu_ra A b A.1)) := by
    intro d
    induction d with
    | zero =>
      intro p fu hp hfu
      obtain ⟨fu, rfl⟩ : ∃ z, fu = z + 1 := ⟨fu - 1, by omega⟩
      have : p = A.1 := by omega
      subst this
      rw [X0_statesAfter_4, hX.1]
      exact pw_t (nI_le (Nat.le_refl _) (by omega)) (pw_s rfl)
    | succ d ih =>
      intro p fu hp hfu
      obtain ⟨fu, rfl⟩ : ∃ z, fu = z + 1 := ⟨fu - 1, by omega⟩
      have hpn : p < A.1 := by omega
      have ih := ih (p + 1) fu (by omega) (by omega)
      rw [X0_statesAfter_4, hX.1]
      refine pw_f (nI_ge hpn (by omega)) ?_
      rw [pu_ra] at ih
      cases hbt : b.testBit p
      · rw [hbt] at ih
        refine pw_t ((pu_sb0 b hb p (by omega)).mpr hbt) (pw_bl ?_)
        rw [nI_1]
        simpa using ih
      · rw [hbt, if_pos rfl] at ih
        refine pw_f (fun e => by rw [(pu_sb0 b hb p (by omega)).mp e] at hbt; cases hbt) ?_
        have inner : ∀ c x fu', x + c = A.2.1 → c < fu' → pw (X0_statesAfter_23 S (fun v0 v1 v2 v3 => X0_statesAfter_4 S fu v0 v1 v2 v3) fu' (38 + 41 * a) (nI b) (nI (pu_ra A b p ||| pu_rx A p x)) (nI p) (nI x)) (fun r => r = nI (pu_ra A b A.1)) := by
          intro c
          induction c with
          | zero =>
            intro x fu' hx hfu'
            obtain ⟨fu', rfl⟩ : ∃ z, fu' = z + 1 := ⟨fu' - 1, by omega⟩
            have : x = A.2.1 := by omega
            subst this
            rw [X0_statesAfter_23, hX.2.1]
            refine pw_t (nI_le (Nat.le_refl _) (by omega)) (pw_bl ?_)
            rw [nI_1]
            exact ih
          | succ c ih2 =>
            intro x fu' hx hfu'
            obtain ⟨fu', rfl⟩ : ∃ z, fu' = z + 1 := ⟨fu' - 1, by omega⟩
            have hxm : x < A.2.1 := by omega
            have hu : pu_u A (1 + 3 * p + x) := pu_u_m hpn hxm hm3
            have hq := hA.2.2.2.2.2.2 _ (by omega) hu
            have ih2 := ih2 (x + 1) fu' (by omega) (by omega)
            rw [X0_statesAfter_23, hX.2.1]
            refine pw_f (nI_ge hxm (by omega)) (pw_be (X_move ha hX.1 hX.2.1 hpn hn6 hxm hm3) (pw_be (X_si hq.2.1 (fun k hk => pu_ok10 hn6 hq hk) (hX.2.2.2.2 _ (by omega) hu).1) (pw_bl (pw_bl ?_))))
            rw [fa_or, nI_1, Nat.or_assoc]
            exact ih2
        have := inner A.2.1 0 fy_fu (by omega) (fz_fu (by omega))
        rw [pu_rx, Nat.or_zero] at this
        exact this
  exact pw_eq (L A.1 0 fy_fu (by omega) (fz_fu (by omega)))
/-! rounds -/
def pu_ri (A : pu_A) (s : Nat) : Nat → Nat
  | 0 => s
  | i + 1 => pu_rf A (pu_ri A s i)
theorem pu_ri_lt {A : pu_A} {s : Nat} (hs : s < 64) : ∀ i, pu_ri A s i < 64
  | 0 => hs
  | i + 1 => Nat.or_lt_two_pow (n := 6) (pu_ri_lt hs i) (pu_ra_lt _)
def pu_pc (s : Nat) : Nat := (s.testBit 0).toNat + (s.testBit 1).toNat + (s.testBit 2).toNat + (s.testBit 3).toNat + (s.testBit 4).toNat + (s.testBit 5).toNat
theorem pu_pc_up : ∀ s, s < 64 → ∀ t, t < 64 → (s ||| t) = s ∨ pu_pc s < pu_pc (s ||| t) := by decide +kernel
theorem pu_pc_le : ∀ s, s < 64 → pu_pc s ≤ 6 := by decide +kernel
theorem pu_ri_st {A : pu_A} {s i : Nat} (h : pu_ri A s (i + 1) = pu_ri A s i) : ∀ d, pu_ri A s (i + d) = pu_ri A s i := by
  intro d
  induction d with
  | zero => rfl
  | succ d ih => rw [← Nat.add_assoc, pu_ri, ih]; exact h
theorem pu_ri_7 {A : pu_A} {s : Nat} (hs : s < 64) : pu_ri A s 7 = pu_ri A s 6 := by
  by_cases h : ∃ i, i < 7 ∧ pu_ri A s (i + 1) = pu_ri A s i
  · obtain ⟨i, hi, e⟩ := h
    have e6 := pu_ri_st e (6 - i)
    have e7 := pu_ri_st e (7 - i)
    rw [show i + (6 - i) = 6 by omega] at e6
    rw [show i + (7 - i) = 7 by omega] at e7
    rw [e6, e7]
  · exfalso
    have : ∀ i, i ≤ 7 → i ≤ pu_pc (pu_ri A s i) := by
      intro i
      induction i with
      | zero => intro _; exact Nat.zero_le _
      | succ i ih =>
        intro hi
        have ih := ih (by omega)
        rcases pu_pc_up (pu_ri A s i) (pu_ri_lt hs i) (pu_ra A (pu_ri A s i) A.1) (pu_ra_lt _) with e | e
        · exact absurd ⟨i, by omega, e⟩ h
        · have e : pu_pc (pu_ri A s i) < pu_pc (pu_ri A s (i + 1)) := e
          omega
    have h7 := this 7 (Nat.le_refl _)
    have := pu_pc_le _ (pu_ri_lt (A := A) hs 7)
    omega
theorem pu_ri_6 {A : pu_A} {s i : Nat} (hi : i ≤ 6) (h : pu_ri A s (i + 1) = pu_ri A s i) : pu_ri A s 6 = pu_ri A s (i + 1) := by
  have := pu_ri_st h (6 - i)
  rw [show i + (6 - i) = 6 by omega] at this
  rw [this, h]
theorem pu_ra_0 {A : pu_A} : ∀ p, pu_ra A 0 p = 0 := by
  intro p
  induction p with
  | zero => rfl
  | succ p ih => rw [pu_ra, ih]; simp
theorem X_rel {S : fy_S} {a : Nat} {A : pu_A} (ha : a < 7) (hA : pu_wA A) (hX : pu_XA S (38 + 41 * a) A) : X0_statesThatMatter S (38 + 41 * a) = some (nI (pu_ri A (pu_si (A.2.2.2.2 0)) 6)) := by
  have hn6 : A.1 ≤ 6 := hA.2.1
  have hu0 : pu_u A 0 := .inl rfl
  have hq := hA.2.2.2.2.2.2 0 (by decide) hu0
  have hs : pu_si (A.2.2.2.2 0) < 64 := pu_sm_lt _
  have L : ∀ d i fu v2, i + d = 7 → d < fu → (nI (pu_ri A (pu_si (A.2.2.2.2 0)) i) = v2 → pu_ri A (pu_si (A.2.2.2.2 0)) 6 = pu_ri A (pu_si (A.2.2.2.2 0)) i) → pw (X0_statesThatMatter_12 S fu (38 + 41 * a) (nI (pu_ri A (pu_si (A.2.2.2.2 0)) i)) v2 (nI i)) (fun r => r = nI (pu_ri A (pu_si (A.2.2.2.2 0)) 6)) := by
    intro d
    induction d with
    | zero =>
      intro i fu v2 hi hfu hv
      obtain ⟨fu, rfl⟩ : ∃ z, fu = z + 1 := ⟨fu - 1, by omega⟩
      have : i = 7 := by omega
      subst this
      rw [X0_statesThatMatter_12]
      exact pw_t (by decide) (pw_s (by rw [pu_ri_7 hs]))
    | succ d ih =>
      intro i fu v2 hi hfu hv
      obtain ⟨fu, rfl⟩ : ∃ z, fu = z + 1 := ⟨fu - 1, by omega⟩
      have hlt := pu_ri_lt (A := A) hs i
      have hlt1 := pu_ri_lt (A := A) hs (i + 1)
      rw [X0_statesThatMatter_12]
      refine pw_f (nI_nlt (a := 6) (by omega) (by decide)) (pw_if (fun e => pw_s (by rw [hv e])) (fun e => pw_be (X_after ha hA hX hlt) (pw_bl (pw_bl ?_))))
      rw [fa_or, nI_1]
      exact ih (i + 1) fu _ (by omega) (by omega) (fun e => pu_ri_6 (by omega) ((nI_eq (by omega) (by omega)).mp e))
  rw [X0_statesThatMatter]
  refine pw_eq (pw_be (X_si hq.2.1 (fun k hk => pu_ok10 hn6 hq hk) (hX.2.2.2.2 0 (by decide) hu0).1) (L 7 0 fy_fu 0 (by omega) (fz_fu (by omega)) (fun e => ?_)))
  have e0 : pu_si (A.2.2.2.2 0) = 0 := (nI_eq (b := 0) (by omega) (by decide)).mp e
  have st : pu_ri A (pu_si (A.2.2.2.2 0)) (0 + 1) = pu_ri A (pu_si (A.2.2.2.2 0)) 0 := by
    rw [e0]
    show 0 ||| pu_ra A 0 A.1 = 0
    rw [pu_ra_0]; rfl
  have := pu_ri_st st 6
  exact this
theorem M_rel {S : fy_S} {a : Nat} {A : pu_A} (ha : a < 7) (hA : pu_wA A) (hM : pu_MA S a A) : pw (fy_bd (M_statesIn S (nI a) (0 : Int32)) fun r13 => M_relevantStates_19 S fy_fu (nI a) r13 (-1 : Int32)) (fun r => r = nI (pu_ri A (pu_si (A.2.2.2.2 0)) 6)) := by
  have hn6 : A.1 ≤ 6 := hA.2.1
  have hm3 : A.2.1 ≤ 3 := hA.2.2.2.1
  have hu0 : pu_u A 0 := .inl rfl
  have hq := hA.2.2.2.2.2.2 0 (by decide) hu0
  have hs : pu_si (A.2.2.2.2 0) < 64 := pu_sm_lt _
  have L : ∀ d i fu v3, i + d = 7 → d < fu → (i = 7 → v3 = nI (pu_ri A (pu_si (A.2.2.2.2 0)) i)) → (v3 = nI (pu_ri A (pu_si (A.2.2.2.2 0)) i) → pu_ri A (pu_si (A.2.2.2.2 0)) 6 = pu_ri A (pu_si (A.2.2.2.2 0)) i) → pw (M_relevantStates_19 S fu (nI a) (nI (pu_ri A (pu_si (A.2.2.2.2 0)) i)) v3) (fun r => r = nI (pu_ri A (pu_si (A.2.2.2.2 0)) 6)) := by
    intro d
    induction d with
    | zero =>
      intro i fu v3 hi hfu h7 hv
      obtain ⟨fu, rfl⟩ : ∃ z, fu = z + 1 := ⟨fu - 1, by omega⟩
      have e7 := h7 (by omega)
      rw [M_relevantStates_19]
      exact pw_t e7 (pw_s (by rw [hv e7]))
    | succ d ih =>
      intro i fu v3 hi hfu h7 hv
      obtain ⟨fu, rfl⟩ : ∃ z, fu = z + 1 := ⟨fu - 1, by omega⟩
      generalize hb : pu_ri A (pu_si (A.2.2.2.2 0)) i = b at hv h7 ⊢
      have hlt : b < 64 := by rw [← hb]; exact pu_ri_lt hs i
      have hlt1 := pu_ri_lt (A := A) hs (i + 1)
      have enx : pu_ri A (pu_si (A.2.2.2.2 0)) (i + 1) = b ||| pu_ra A b A.1 := by rw [pu_ri, hb]; rfl
      have ih := ih (i + 1) fu (nI b) (by omega) (by omega) (fun e => by
        have : i = 6 := by omega
        subst this
        rw [pu_ri_7 hs, hb]) (fun e => pu_ri_6 (i := i) (by omega) (by rw [hb]; exact ((nI_eq (by omega) (by omega)).mp e).symm))
      rw [enx] at ih
      rw [M_relevantStates_19]
      refine pw_if (fun e => pw_s (by rw [hv e])) (fun _ => ?_)
      have P : ∀ c p fu', p + c = A.1 → c < fu' → pw (M_relevantStates_29 S (fun v1 v2 v3 => M_relevantStates_19 S fu v1 v2 v3) fu' (nI a) (nI (b ||| pu_ra A b p)) (nI b) (nI p)) (fun r => r = nI (pu_ri A (pu_si (A.2.2.2.2 0)) 6)) := by
        intro c
        induction c with
        | zero =>
          intro p fu' hp hfu'
          obtain ⟨fu', rfl⟩ : ∃ z, fu' = z + 1 := ⟨fu' - 1, by omega⟩
          have : p = A.1 := by omega
          subst this
          rw [M_relevantStates_29, nI_clamp (by omega), hM.1]
          exact pw_gd (fy_ix_nI ha (by decide)) (pw_t (nI_le (Nat.le_refl _) (by omega)) ih)
        | succ c ih2 =>
          intro p fu' hp hfu'
          obtain ⟨fu', rfl⟩ : ∃ z, fu' = z + 1 := ⟨fu' - 1, by omega⟩
          have hpn : p < A.1 := by omega
          have ih2 := ih2 (p + 1) fu' (by omega) (by omega)
          rw [M_relevantStates_29, nI_clamp (by omega), hM.1]
          refine pw_gd (fy_ix_nI ha (by decide)) (pw_f (nI_ge hpn (by omega)) ?_)
          rw [pu_ra] at ih2
          have Q : ∀ e x fu'', x + e = A.2.1 → e < fu'' → (b.testBit p = false → x = 0) → pw (M_relevantStates_43 S (fun v1 v2 v3 => M_relevantStates_19 S fu v1 v2 v3) (fun v1 v2 v3 v4 => M_relevantStates_29 S (fun v1 v2 v3 => M_relevantStates_19 S fu v1 v2 v3) fu' v1 v2 v3 v4) fu'' (nI a) (nI (b ||| (pu_ra A b p ||| pu_rx A p x))) (nI b) (nI p) (nI x)) (fun r => r = nI (pu_ri A (pu_si (A.2.2.2.2 0)) 6)) := by
            intro e
            induction e with
            | zero =>
              intro x fu'' hx hfu'' h0
              obtain ⟨fu'', rfl⟩ : ∃ z, fu'' = z + 1 := ⟨fu'' - 1, by omega⟩
              have : x = A.2.1 := by omega
              subst this
              have hbt : b.testBit p = true := by
                cases h : b.testBit p
                · have := h0 h
                  have := hA.2.2.1
                  omega
                · rfl
              rw [hbt, if_pos rfl] at ih2
              rw [M_relevantStates_43, nI_clamp (by omega), hM.2.1]
              refine pw_gd (fy_ix_nI ha (by decide)) (pw_t (nI_le (Nat.le_refl _) (by omega)) (pw_bl ?_))
              rw [nI_1]
              exact ih2
            | succ e ih3 =>
              intro x fu'' hx hfu'' h0
              obtain ⟨fu'', rfl⟩ : ∃ z, fu'' = z + 1 := ⟨fu'' - 1, by omega⟩
              have hxm : x < A.2.1 := by omega
              rw [M_relevantStates_43, nI_clamp (by omega), hM.2.1, pu_sb b hlt p (by omega)]
              refine pw_gd (fy_ix_nI ha (by decide)) (pw_f (nI_ge hxm (by omega)) ?_)
              cases hbt : b.testBit p
              · have hx0 := h0 hbt
                subst hx0
                rw [hbt] at ih2
                refine pw_f (by decide) (pw_bl ?_)
                rw [nI_1]
                simpa [pu_rx] using ih2
              · have hu : pu_u A (1 + 3 * p + x) := pu_u_m hpn hxm hm3
                have hq := hA.2.2.2.2.2.2 _ (by omega) hu
                refine pw_t rfl (pw_be M_fof (pw_be (M_si ha (by omega) hq.2.1 (fun k hk => pu_ok10 hn6 hq hk) (hM.2.2.2.2.2 _ (by omega) hu)) (pw_bl (pw_bl ?_))))
                have ih3 := ih3 (x + 1) fu'' (by omega) (by omega) (fun h => by rw [h] at hbt; cases hbt)
                rw [pu_rx] at ih3
                rw [fa_or, nI_1, Nat.or_assoc, Nat.or_assoc]
                exact ih3
          have := Q A.2.1 0 fy_fu (by omega) (fz_fu (by omega)) (fun _ => rfl)
          rw [pu_rx, Nat.or_zero] at this
          exact this
      have := P A.1 0 fy_fu (by omega) (fz_fu (by omega))
      rw [pu_ra, Nat.or_zero] at this
      exact this
  refine pw_be (M_si (j := 0) ha (by decide) hq.2.1 (fun k hk => pu_ok10 hn6 hq hk) (hM.2.2.2.2.2 0 (by decide) hu0)) (L 7 0 fy_fu (-1) (by omega) (fz_fu (by omega)) (fun h => by omega) (fun e => ?_))
  exfalso
  have hs2 : pu_ri A (pu_si (A.2.2.2.2 0)) 0 < 64 := hs
  have h1 := nI_toInt (n := pu_ri A (pu_si (A.2.2.2.2 0)) 0) (by omega)
  rw [← e] at h1
  have h2 : (-1 : Int32).toInt = -1 := by decide
  omega
theorem ez_relevantStates {SX SM : fy_S} (v1 : Int32) (h : pu_I SX SM) : ∃ r : Int32, X9_relevantStates SX v1 = some r ∧ M_relevantStates SM v1 = some r := by
  rcases pu_slot v1 with ⟨a, ha, rfl⟩ | hb
  · obtain ⟨G, hw, hX, hM⟩ := h
    refine ⟨nI (pu_ri (G.1 a) (pu_si ((G.1 a).2.2.2.2 0)) 6), ?_, ?_⟩
    · rw [X9_relevantStates]
      exact pw_eq (pw_be (X_ain_y ha) (pw_be (X_rel (by omega) (hw.1 a (by omega)) (hX.1 a (by omega))) (pw_s rfl)))
    · rw [M_relevantStates]
      exact pw_eq (pw_be (M_slot_y ha) (pw_f (by decide) (M_rel (by omega) (hw.1 a (by omega)) (hM.1 a (by omega)))))
  · refine ⟨-2, ?_, ?_⟩
    · rw [X9_relevantStates]; exact pw_eq (pw_be (X_ain_n hb) (pw_s rfl))
    · rw [M_relevantStates]; exact pw_eq (pw_be (M_slot_n hb) (pw_t rfl (pw_s rfl)))
