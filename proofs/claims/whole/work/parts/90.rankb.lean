/-! rank: the class -/
def pu_rk (A : pu_A) (w : pu_q) : Nat → Nat → Nat
  | 0, p => if A.2.2.1.testBit p then 0 else 10000
  | d + 1, p => (pu_vv (pu_rk A w d) (A.2.2.2.2 (1 + 3 * p + w.2 (w.1 - 1 - d)))).1 + 1
/-- rows of values from the place w.1 - d on -/
def pu_rw (S : fy_S) (A : pu_A) (w : pu_q) (d : Nat) : Prop := ∀ e, e ≤ d → ∀ p, p < A.1 → S.1 17 ((w.1 - e) * 6 + p) = nI (pu_rk A w e p) ∧ pu_rk A w e p ≤ 10000 + 41 * e
theorem X_letter {S : fy_S} {i : Nat} {w : pu_q} (h : pu_l (S.1 13) (S.1 12 1) w) (hi : i < w.1) (hw : w.1 ≤ 12) : X8_letterAt S 12 (nI i) = some (nI (w.2 i)) := by
  have e12 : X_al (12 + 1) = 12 := by decide
  rw [X8_letterAt, h.1, e12]
  refine pw_eq (pw_f (nI_pos (by omega)) (pw_f (nI_ge hi (by omega)) (pw_gd (fy_ix_nI (by omega) (by decide)) (pw_s ?_))))
  rw [nI_clamp (by omega)]
  exact h.2 i hi
theorem X_sol_2 {a st : Nat} {A : pu_A} {w : pu_q} (ha : a < 7) (hA : pu_wA A) (hw : w.1 ≤ 12) (hf : pu_fit w A.2.1 w.1 = true) (hst : st ≤ w.1) : ∀ c d fu S, st + c + d = w.1 → c < fu → pu_XA S (38 + 41 * a) A → pu_l (S.1 13) (S.1 12 1) w → pu_rw S A w d → pw (X5_solve_67 fu S (38 + 41 * a) 12 (nI st) (nI (st + c) - 1)) (fun S' => pu_rw S' A w (w.1 - st) ∧ fr (fun i _ => 17 ≤ i ∧ i ≤ 19) S S') := by
  have hn6 : A.1 ≤ 6 := hA.2.1
  have hm3 : A.2.1 ≤ 3 := hA.2.2.2.1
  intro c
  induction c with
  | zero =>
    intro d fu S hd hfu hX hl hr
    obtain ⟨fu, rfl⟩ : ∃ z, fu = z + 1 := ⟨fu - 1, by omega⟩
    rw [X5_solve_67]
    refine pw_t (pu_pre (by omega)) (pw_s ⟨?_, fr_r⟩)
    rw [show w.1 - st = d by omega]; exact hr
  | succ c ih =>
    intro d fu S hd hfu hX hl hr
    obtain ⟨fu, rfl⟩ : ∃ z, fu = z + 1 := ⟨fu - 1, by omega⟩
    have hlt := pu_fit_t hf (st + c) (by omega)
    rw [X5_solve_67, ← Nat.add_assoc, nI_pred]
    refine pw_f (nI_nlt (by omega) (by omega)) (pw_f (nI_pos (by omega)) ?_)
    have inner : ∀ e p fu' S', p + e = A.1 → e < fu' → fr (fun i _ => 17 ≤ i ∧ i ≤ 19) S S' → pu_rw S' A w d → (∀ p', p' < p → S'.1 17 ((st + c) * 6 + p') = nI (pu_rk A w (d + 1) p') ∧ pu_rk A w (d + 1) p' ≤ 10000 + 41 * (d + 1)) → pw (X5_solve_81 (fun S v1 v2 v3 v4 => X5_solve_67 fu S v1 v2 v3 v4) fu' S' (38 + 41 * a) 12 (nI st) (nI (st + c)) (nI p)) (fun S' => pu_rw S' A w (w.1 - st) ∧ fr (fun i _ => 17 ≤ i ∧ i ≤ 19) S S') := by
      intro e
      induction e with
      | zero =>
        intro p fu' S' hp hfu' hfr hr' hd'
        obtain ⟨fu', rfl⟩ : ∃ z, fu' = z + 1 := ⟨fu' - 1, by omega⟩
        have : p = A.1 := by omega
        subst this
        rw [X5_solve_81, (hfr _ _ (by omega)).1, hX.1]
        refine pw_t (nI_le (Nat.le_refl _) (by omega)) (pw_bl ?_)
        rw [pu_m1]
        refine pw_m (ih (d + 1) fu S' (by omega) (by omega) (pu_XA_c hX (fun i k g1 g2 => hfr i k (by omega))) (pu_l_c hl (hfr _ _ (by omega)).1 (fun k _ => (hfr _ _ (by omega)).1)) (fun z hz p' hp' => ?_)) (fun S'' h'' => ⟨h''.1, fr_t hfr h''.2⟩)
        by_cases ez : z = d + 1
        · rw [ez, show w.1 - (d + 1) = st + c by omega]; exact hd' p' hp'
        · exact hr' z (by omega) p' hp'
      | succ e ih2 =>
        intro p fu' S' hp hfu' hfr hr' hd'
        obtain ⟨fu', rfl⟩ : ∃ z, fu' = z + 1 := ⟨fu' - 1, by omega⟩
        have hpn : p < A.1 := by omega
        have hX' := pu_XA_c hX (fun i k g1 g2 => hfr i k (by omega))
        have hl' := pu_l_c hl (hfr _ _ (by omega)).1 (fun k _ => (hfr _ _ (by omega)).1)
        have hu : pu_u A (1 + 3 * p + w.2 (st + c)) := pu_u_m hpn hlt hm3
        have hj : 1 + 3 * p + w.2 (st + c) < 19 := by omega
        rw [X5_solve_81, hX'.1, nI_1, nI_1]
        refine pw_f (nI_ge hpn (by omega)) (pw_be (X_letter hl' (by omega) hw) (pw_be (X_move ha hX'.1 hX'.2.1 hpn hn6 hlt hm3) ?_))
        refine pw_bd (X_eval (V := pu_rk A w d) (M := 10000 + 41 * d) hn6 (hA.2.2.2.2.2.2 _ hj hu) (by omega) (by omega) (by omega) (fun z hz => (hr' d (Nat.le_refl _) z hz).2) (by omega) (hX'.2.2.2.2 _ hj hu).1 (fun z hz => by rw [show st + c + 1 = w.1 - d by omega]; exact (hr' d (Nat.le_refl _) z hz).1)) (fun S1 s1 => pw_gd (by decide) ?_)
        rw [show (0 : Int32).toNatClampNeg = 0 from rfl, s1.1, nI_1]
        refine pw_be (X_setVal (by omega) (by omega)) (pw_bl ?_)
        have erk : pu_rk A w (d + 1) p = (pu_vv (pu_rk A w d) (A.2.2.2.2 (1 + 3 * p + w.2 (st + c)))).1 + 1 := by
          rw [pu_rk, show w.1 - 1 - d = st + c by omega]
        rw [← erk]
        have hrk : pu_rk A w (d + 1) p ≤ 10000 + 41 * (d + 1) := by rw [erk]; have := s1.2.2.1; omega
        refine ih2 (p + 1) fu' _ (by omega) (by omega) (fr_I (fr_t hfr (fr_m s1.2.2.2 (fun i k h => by omega))) (by omega)) (fun z hz p' hp' => ?_) (fun p' hp' => ?_)
        · rw [rd_n (by omega), (s1.2.2.2 _ _ (by omega)).1]; exact hr' z hz p' hp'
        · by_cases ep : p' = p
          · rw [ep, rd_y]; exact ⟨rfl, hrk⟩
          · rw [rd_n (by omega), (s1.2.2.2 _ _ (by omega)).1]; exact hd' p' (by omega)
    exact inner A.1 0 fy_fu S (by omega) (fz_fu (by omega)) fr_r hr (fun p' hp' => absurd hp' (Nat.not_lt_zero p'))
theorem pu_sb0 : ∀ s, s < 64 → ∀ c, c < 6 → ((nI s >>> (nI c &&& 31)) &&& 1 = 0 ↔ s.testBit c = false) := by decide +kernel
theorem X_sol {S : fy_S} {a st : Nat} {A : pu_A} {w : pu_q} (ha : a < 7) (hA : pu_wA A) (hX : pu_XA S (38 + 41 * a) A) (hw : w.1 ≤ 12) (hf : pu_fit w A.2.1 w.1 = true) (hl : pu_l (S.1 13) (S.1 12 1) w) (hst : st ≤ w.1) : pw (X5_solve S (38 + 41 * a) 12 (nI st)) (fun S' => pu_rw S' A w (w.1 - st) ∧ fr (fun i _ => 17 ≤ i ∧ i ≤ 19) S S') := by
  have hn6 : A.1 ≤ 6 := hA.2.1
  have hF : A.2.2.1 < 64 := Nat.lt_of_lt_of_le hA.2.2.2.2.1 (pu_2n hn6)
  have L : ∀ d p fu S', p + d = A.1 → d < fu → fr (fun i _ => 17 ≤ i ∧ i ≤ 19) S S' → (∀ p', p' < p → S'.1 17 (w.1 * 6 + p') = nI (pu_rk A w 0 p')) → pw (X5_solve_3 fu S' (38 + 41 * a) 12 (nI st) (nI p)) (fun S' => pu_rw S' A w (w.1 - st) ∧ fr (fun i _ => 17 ≤ i ∧ i ≤ 19) S S') := by
    intro d
    induction d with
    | zero =>
      intro p fu S' hp hfu hfr hd
      obtain ⟨fu, rfl⟩ : ∃ z, fu = z + 1 := ⟨fu - 1, by omega⟩
      have : p = A.1 := by omega
      subst this
      have hX' := pu_XA_c hX (fun i k g1 g2 => hfr i k (by omega))
      have hl' := pu_l_c hl (hfr _ _ (by omega)).1 (fun k _ => (hfr _ _ (by omega)).1)
      rw [X5_solve_3, hX'.1, hl'.1]
      refine pw_t (nI_le (Nat.le_refl _) (by omega)) (pw_bl ?_)
      have := X_sol_2 ha hA hw hf hst (w.1 - st) 0 fy_fu S' (by omega) (fz_fu (by omega)) hX' hl' (fun e he p' hp' => by
        have : e = 0 := by omega
        subst this
        refine ⟨hd p' hp', ?_⟩
        rw [pu_rk]
        split <;> omega)
      rw [show st + (w.1 - st) = w.1 by omega] at this
      exact pw_m this (fun S'' h'' => ⟨h''.1, fr_t hfr h''.2⟩)
    | succ d ih =>
      intro p fu S' hp hfu hfr hd
      obtain ⟨fu, rfl⟩ : ∃ z, fu = z + 1 := ⟨fu - 1, by omega⟩
      have hpn : p < A.1 := by omega
      have hX' := pu_XA_c hX (fun i k g1 g2 => hfr i k (by omega))
      have hl' := pu_l_c hl (hfr _ _ (by omega)).1 (fun k _ => (hfr _ _ (by omega)).1)
      have fin : ∀ v : Int32, v = nI (pu_rk A w 0 p) → pw (X5_solve_50 (fun S v1 v2 v3 v4 => X5_solve_3 fu S v1 v2 v3 v4) S' (38 + 41 * a) 12 (nI st) (nI p) v (nI p) (nI w.1)) (fun S' => pu_rw S' A w (w.1 - st) ∧ fr (fun i _ => 17 ≤ i ∧ i ≤ 19) S S') := by
        intro v hv
        rw [X5_solve_50]
        refine pw_be (X_setVal hw (by omega)) (pw_bl ?_)
        rw [nI_1]
        refine ih (p + 1) fu _ (by omega) (by omega) (fr_I hfr (by omega)) (fun p' hp' => ?_)
        by_cases ep : p' = p
        · rw [ep, rd_y, hv]
        · rw [rd_n (by omega)]; exact hd p' (by omega)
      rw [X5_solve_3, hX'.1, hX'.2.2.1]
      refine pw_f (nI_ge hpn (by omega)) ?_
      cases hb : A.2.2.1.testBit p
      · refine pw_t ((pu_sb0 _ hF _ (by omega)).mpr hb) ?_
        rw [X5_solve_29, hl'.1]
        exact pw_t rfl (fin _ (by rw [pu_rk, hb]; rfl))
      · refine pw_f (fun e => by rw [(pu_sb0 _ hF _ (by omega)).mp e] at hb; cases hb) ?_
        rw [X5_solve_29, hl'.1]
        exact pw_f (by decide) (fin _ (by rw [pu_rk, hb]; rfl))
  exact L A.1 0 fy_fu S (by omega) (fz_fu (by omega)) fr_r (fun p' hp' => absurd hp' (Nat.not_lt_zero p'))
