/-! minimal sets -/
def pu_la (P : Nat → Bool) (s : Nat) : Nat → Bool
  | 0 => false
  | c + 1 => pu_la P s c || (s.testBit c && P (s - 2 ^ c))
def pu_mi (P : Nat → Bool) (s : Nat) : Bool := P s && !pu_la P s 6
def pu_mt (P : Nat → Bool) : Int64 := pu_tb (pu_mi P) 64
theorem lb_mt (P : Nat → Bool) {s : Nat} (hs : s < 64) : lb (pu_mt P) s = pu_mi P s := lb_tb64 _ hs
theorem lb_shl (x : Int64) {k s : Nat} (hk : k < 64) (hs : s < 64) : lb (x <<< ((nI k).toInt64 &&& 63)) s = (decide (k ≤ s) && lb x (s - k)) := by
  obtain ⟨n, hn, rfl⟩ := wb_of x
  rw [wb_shl n hk, lb_N hs, lb_N (by omega), Nat.testBit_mul_two_pow]
theorem pu_cont_d : ∀ c, c < 6 → ∀ s, s < 64 → (decide (2 ^ c ≤ s) && !(s - 2 ^ c).testBit c) = s.testBit c := by decide +kernel
theorem pu_la_m {P : Nat → Bool} {s c : Nat} (h : pu_la P s c = true) : ∀ d, pu_la P s (c + d) = true := by
  intro d
  induction d with
  | zero => exact h
  | succ d ih => rw [← Nat.add_assoc, pu_la, ih, Bool.true_or]
theorem X_min {S : fy_S} (t : Int64) : X9_minimalSets S t = some (pu_mt (lb t)) := by
  have L : ∀ d c fu v, c + d = 6 → d < fu → (∀ s, s < 64 → lb v s = pu_la (lb t) s c) → pw (X9_minimalSets_5 S fu t v (nI c)) (fun r => r = pu_mt (lb t)) := by
    intro d
    induction d with
    | zero =>
      intro c fu v hc hfu h
      obtain ⟨fu, rfl⟩ : ∃ z, fu = z + 1 := ⟨fu - 1, by omega⟩
      have : c = 6 := by omega
      subst this
      rw [X9_minimalSets_5]
      refine pw_t (by decide) (pw_s (lb_x (fun s hs => ?_)))
      rw [lb_mt _ hs, lb_and, lb_not _ hs, h s hs, pu_mi]
    | succ d ih =>
      intro c fu v hc hfu h
      obtain ⟨fu, rfl⟩ : ∃ z, fu = z + 1 := ⟨fu - 1, by omega⟩
      have hp : 2 ^ c < 64 := Nat.pow_lt_pow_right (n := 6) (a := 2) (by decide) (by omega)
      rw [X9_minimalSets_5]
      refine pw_f (nI_ge (b := 6) (by omega) (by decide)) (pw_gd (fy_ix_nI (by omega) (by decide)) (pw_bl (pw_bl ?_)))
      rw [nI_clamp (by omega), pu_sh1 c (by omega), nI_1]
      refine ih (c + 1) fu _ (by omega) (by omega) (fun s hs => ?_)
      have hsc : s - 2 ^ c < 64 := Nat.lt_of_le_of_lt (Nat.sub_le _ _) hs
      rw [lb_or, h s hs, lb_shl _ hp hs, lb_and, lb_not _ hsc, pu_la]
      have e : lb (fy_cont c) (s - 2 ^ c) = (s - 2 ^ c).testBit c := pu_ct_b c (by omega) (s - 2 ^ c) hsc
      rw [e, ← pu_cont_d c (by omega) s hs]
      cases decide (2 ^ c ≤ s) <;> cases lb t (s - 2 ^ c) <;> cases (s - 2 ^ c).testBit c <;> rfl
  exact pw_eq (L 6 0 fy_fu 0 (by omega) (fz_fu (by omega)) (fun s _ => lb_0 s))
/-- what is wanted, as the reference keeps it -/
def pu_wn (S : fy_S) (P : Nat → Bool) : Prop := ∀ s, s < 64 → M_satisfiesWanted S (nI s) = some (if P s then 1 else 0)
theorem pu_clr : ∀ s, s < 64 → ∀ p, p < 6 → s.testBit p = true → (nI s &&& (((1 : Int32) <<< (nI p &&& 31)) ^^^ (-1 : Int32))) = nI (s - 2 ^ p) := by decide +kernel
theorem M_min {S : fy_S} {P : Nat → Bool} (hw : pu_wn S P) {s : Nat} (hs : s < 64) : M_isMinimal S (nI s) = some (if pu_mi P s then 1 else 0) := by
  have L : ∀ d p fu, p + d = 6 → d < fu → pw (M_isMinimal_8 S fu (nI s) (if (P s && !pu_la P s p) then 1 else 0) (nI p)) (fun r => r = if pu_mi P s then 1 else 0) := by
    intro d
    induction d with
    | zero =>
      intro p fu hp hfu
      obtain ⟨fu, rfl⟩ : ∃ z, fu = z + 1 := ⟨fu - 1, by omega⟩
      have : p = 6 := by omega
      subst this
      rw [M_isMinimal_8]
      refine pw_t (by decide) (pw_gd ?_ (pw_s rfl))
      cases (P s && !pu_la P s 6) <;> decide
    | succ d ih =>
      intro p fu hp hfu
      obtain ⟨fu, rfl⟩ : ∃ z, fu = z + 1 := ⟨fu - 1, by omega⟩
      have ih := ih (p + 1) fu (by omega) (by omega)
      rw [M_isMinimal_8, nI_1]
      refine pw_f (nI_ge (b := 6) (by omega) (by decide)) ?_
      rw [pu_la] at ih
      cases hv : (P s && !pu_la P s p)
      · refine pw_t rfl (pw_gd (by decide) (pw_s ?_))
        have : pu_mi P s = false := by
          unfold pu_mi
          cases hP : P s
          · rfl
          · rw [hP, Bool.true_and] at hv
            have hv : pu_la P s p = true := by simpa using hv
            have := pu_la_m hv (6 - p)
            rw [show p + (6 - p) = 6 by omega] at this
            rw [this]; rfl
        rw [this]
      · have hP : P s = true := by
          cases h : P s
          · rw [h] at hv; cases hv
          · rfl
        have hl : pu_la P s p = false := by
          cases h : pu_la P s p
          · rfl
          · rw [h, hP] at hv; cases hv
        rw [hP, hl, Bool.false_or, Bool.true_and] at ih
        refine pw_f (by decide) ?_
        rw [pu_sb s hs p (by omega)]
        cases hb : s.testBit p
        · rw [hb] at ih
          exact pw_t rfl (pw_bl ih)
        · rw [hb, Bool.true_and] at ih
          refine pw_f (by decide) ?_
          rw [pu_clr s hs p (by omega) hb]
          refine pw_be (hw (s - 2 ^ p) (Nat.lt_of_le_of_lt (Nat.sub_le _ _) hs)) ?_
          cases hq : P (s - 2 ^ p)
          · rw [hq] at ih
            exact pw_t rfl (pw_bl ih)
          · rw [hq] at ih
            exact pw_f (by decide) (pw_bl ih)
  rw [M_isMinimal]
  refine pw_eq (pw_be (hw s hs) ?_)
  have := L 6 0 fy_fu (by omega) (fz_fu (by omega))
  simp only [pu_la, Bool.not_false, Bool.and_true] at this
  exact this
/-! sets beyond the states are never minimal -/
def pu_lw (n : Nat) (P : Nat → Bool) : Prop := ∀ s, s < 64 → ∀ c, n ≤ c → c < 6 → s.testBit c = true → P (s - 2 ^ c) = P s
theorem pu_hb0 : ∀ n, n < 7 → ∀ s, s < 64 → 2 ^ n ≤ s → (∃ c, c < 6 ∧ n ≤ c ∧ s.testBit c = true) := by
  have key : ∀ n, n < 7 → ∀ s, s < 64 → (decide (s < 2 ^ n) || (decide (n ≤ 0) && s.testBit 0) || (decide (n ≤ 1) && s.testBit 1) || (decide (n ≤ 2) && s.testBit 2) || (decide (n ≤ 3) && s.testBit 3) || (decide (n ≤ 4) && s.testBit 4) || (decide (n ≤ 5) && s.testBit 5)) = true := by decide +kernel
  intro n hn s hs h
  have k := key n hn s hs
  simp only [Bool.or_eq_true, Bool.and_eq_true, decide_eq_true_eq] at k
  rcases k with (((((h' | h) | h) | h) | h) | h) | h
  · omega
  · exact ⟨0, by decide, h.1, h.2⟩
  · exact ⟨1, by decide, h.1, h.2⟩
  · exact ⟨2, by decide, h.1, h.2⟩
  · exact ⟨3, by decide, h.1, h.2⟩
  · exact ⟨4, by decide, h.1, h.2⟩
  · exact ⟨5, by decide, h.1, h.2⟩
theorem pu_mi_hi {n : Nat} {P : Nat → Bool} (hn : n ≤ 6) (hP : pu_lw n P) {s : Nat} (hs : s < 64) (h : 2 ^ n ≤ s) : pu_mi P s = false := by
  obtain ⟨c, hc, hnc, hb⟩ := pu_hb0 n (by omega) s hs h
  unfold pu_mi
  cases hp : P s
  · rfl
  · have e := hP s hs c hnc hc hb
    have h1 : pu_la P s (c + 1) = true := by rw [pu_la, hb, e, hp, Bool.true_and, Bool.or_true]
    have := pu_la_m h1 (6 - (c + 1))
    rw [show c + 1 + (6 - (c + 1)) = 6 by omega] at this
    rw [this]; rfl
theorem pu_st_lf {α : Type} {lf lf' : Nat → α} {jn : Nat → α → α → α} {f : Nat → Nat} : ∀ k, (∀ i, i < k → f i < 8 → lf (f i) = lf' (f i)) → pu_st lf jn f k = pu_st lf' jn f k := by
  intro k
  induction k with
  | zero => intro _; rfl
  | succ k ih =>
    intro h
    have ih := ih (fun i hi h8 => h i (by omega) h8)
    rw [pu_st, pu_st, ih]
    by_cases h8 : f k < 8
    · rw [if_pos h8, if_pos h8, h k (by omega) h8]
    · rw [if_neg h8, if_neg h8]
theorem pu_lwb : ∀ s, s < 64 → ∀ c, c < 6 → s.testBit c = true → ∀ e, e < c → (s - 2 ^ c).testBit e = s.testBit e := by decide +kernel
theorem pu_ev_lw {n : Nat} {q : pu_q} (hq : pu_ok n q) : pu_lw n (pu_ev q) := by
  intro s hs c hnc hc hb
  unfold pu_ev
  rw [pu_st_lf (lf := pu_e (s - 2 ^ c)) (lf' := pu_e s) q.1 (fun i hi h8 => ?_)]
  unfold pu_e
  by_cases h6 : q.2 i < 6
  · rw [if_pos h6, if_pos h6]
    have := (hq.2.2.1 i hi).1
    exact pu_lwb s hs c hc hb _ (by omega)
  · rw [if_neg h6, if_neg h6]
/-! one formula is wanted -/
theorem M_wn1 {S : fy_S} {a j n : Nat} {q : pu_q} (ha : a < 7) (hj : j < 19) (hn : n ≤ 6) (hq : pu_ok n q) (h : pu_MF S a j q) (h20 : S.1 0 20 = nI a) (h21 : S.1 0 21 = nI j) : pu_wn S (pu_ev q) := by
  intro s hs
  rw [M_satisfiesWanted, h20, h21]
  refine pw_eq (pw_f (nI_pos (by omega)) (pw_be (M_sat ha hj hn hq h hs) ?_))
  cases pu_ev q s
  · exact pw_gd (by decide) (pw_s rfl)
  · exact pw_gd (by decide) (pw_s rfl)
theorem M_wants_e {S : fy_S} {v1 v2 v3 v4 : Int32} : pw (M_wants S v1 v2 v3 v4) (fun S' => S'.1 0 20 = v1 ∧ S'.1 0 21 = v2 ∧ S'.1 0 22 = v3 ∧ S'.1 0 23 = v4 ∧ fr (fun i k => i = 0 ∧ 20 ≤ k ∧ k ≤ 23) S S') := by
  rw [M_wants]
  refine pw_bl (pw_bl (pw_bl (pw_bl (pw_s ⟨?_, ?_, ?_, ?_, fr_I (fr_I (fr_I (fr_I fr_r (by omega)) (by omega)) (by omega)) (by omega)⟩))))
  · rw [rd_n (by omega), rd_n (by omega), rd_n (by omega), rd_y]
  · rw [rd_n (by omega), rd_n (by omega), rd_y]
  · rw [rd_n (by omega), rd_y]
  · rw [rd_y]
