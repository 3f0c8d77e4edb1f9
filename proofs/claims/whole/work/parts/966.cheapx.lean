/-! the class: prices of all sets, the least one, the word -/
theorem X_fillI {S : fy_S} {v : Int32} : pw (J7_fill_53178 S 33 v) (fun S' => (∀ s, s < 64 → S'.1 33 s = v) ∧ fr (fun i _ => i = 33) S S') := by
  have hid : X_al 33 = 64 := by decide
  have L : ∀ d k fu S', k + d = 64 → d < fu → (∀ s, s < k → S'.1 33 s = v) → fr (fun i _ => i = 33) S S' → pw (J7_fill_53178_5 fu S' 33 v (nI k) (nI 64)) (fun S' => (∀ s, s < 64 → S'.1 33 s = v) ∧ fr (fun i _ => i = 33) S S') := by
    intro d
    induction d with
    | zero =>
      intro k fu S' hk hfu h hf
      obtain ⟨fu, rfl⟩ : ∃ z, fu = z + 1 := ⟨fu - 1, by omega⟩
      have : k = 64 := by omega
      subst this
      rw [J7_fill_53178_5]
      exact pw_t (nI_le (Nat.le_refl _) (by decide)) (pw_s ⟨h, hf⟩)
    | succ d ih =>
      intro k fu S' hk hfu h hf
      obtain ⟨fu, rfl⟩ : ∃ z, fu = z + 1 := ⟨fu - 1, by omega⟩
      rw [J7_fill_53178_5, hid, nI_clamp (by omega), nI_1]
      refine pw_f (nI_ge (by omega) (by decide)) (pw_gd (fy_ix_nI (by omega) (by decide)) (pw_bl (pw_bl (ih (k + 1) fu _ (by omega) (by omega) (fun s hs => ?_) (fr_I hf rfl)))))
      by_cases e : s = k
      · rw [e, rd_y]
      · rw [rd_n (by omega)]; exact h s (by omega)
  rw [J7_fill_53178, hid]
  exact pw_bl (L 64 0 fy_fu S (by omega) (fz_fu (by omega)) (fun s hs => absurd hs (Nat.not_lt_zero s)) fr_r)
def pu_c4 (i k : Nat) : Prop := (i = 32 ∧ k = 1) ∨ i = 33
/-- no word is cheaper than what the prices say -/
def pu_pm_ (A : pu_A) (P : Nat → Nat) : Prop := ∀ w, pu_wv A.2.1 w → w.length ≤ 64 → P (pu_rs A w) ≤ pu_pri A w
theorem X_sch {S : fy_S} {a : Nat} {A : pu_A} (ha : a < 7) (hA : pu_wA A) (hX : pu_XA S (38 + 41 * a) A) (hl : pu_ld S 20 A) : pw (X1_search S 20 (38 + 41 * a + 1)) (fun R => ∃ P b, pu_pf R.1 P ∧ pu_ps_ A P ∧ pu_pm_ A P ∧ R.1.1 32 1 = nI b ∧ (∀ s, s < 64 → pu_acc A s = true → b ≤ P s) ∧ fr pu_c4 S R.1 ∧ ((R.2 = 0 ∧ 1000000000 ≤ b) ∨ (R.2 = 1 ∧ b < 1000000000 ∧ ∃ s, s < 64 ∧ pu_acc A s = true ∧ P s = b))) := by
  have hm3 : A.2.1 ≤ 3 := hA.2.2.2.1
  have h64 := pu_2n hA.2.1
  have hF : A.2.2.1 < 64 := Nat.lt_of_lt_of_le hA.2.2.2.2.1 h64
  have mvX : ∀ S', fr pu_c4 S S' → pu_XA S' (38 + 41 * a) A := fun S' f => pu_XA_c hX (fun i k g1 g2 => f i k (by unfold pu_c4; omega))
  have mvl : ∀ S', fr pu_c4 S S' → pu_ld S' 20 A := fun S' f => pu_ld_c hl (fun i k h => f i k (by unfold pu_c4; omega))
  -- the least price
  have E : ∀ P, pu_ps_ A P → pu_pm_ A P → ∀ d s fu S' b, s + d = 64 → d < fu → fr pu_c4 S S' → pu_pf S' P → S'.1 32 1 = nI b → b ≤ 1000000000 → (∀ t, t < s → pu_acc A t = true → b ≤ P t) → (b < 1000000000 → ∃ t, t < 64 ∧ pu_acc A t = true ∧ P t = b) → pw (X1_search_57 fu S' 20 (nI s)) (fun R => ∃ P b, pu_pf R.1 P ∧ pu_ps_ A P ∧ pu_pm_ A P ∧ R.1.1 32 1 = nI b ∧ (∀ s, s < 64 → pu_acc A s = true → b ≤ P s) ∧ fr pu_c4 S R.1 ∧ ((R.2 = 0 ∧ 1000000000 ≤ b) ∨ (R.2 = 1 ∧ b < 1000000000 ∧ ∃ s, s < 64 ∧ pu_acc A s = true ∧ P s = b))) := by
    intro P hps hpm d
    induction d with
    | zero =>
      intro s fu S' b hs hfu hf hpf hb hb9 hle hex
      obtain ⟨fu, rfl⟩ : ∃ z, fu = z + 1 := ⟨fu - 1, by omega⟩
      have : s = 64 := by omega
      subst this
      rw [X1_search_57, hb]
      refine pw_t (by decide) ?_
      by_cases h9 : 1000000000 ≤ b
      · exact pw_t (nI_le (a := 1000000000) h9 (by omega)) (pw_s ⟨P, b, hpf, hps, hpm, hb, hle, hf, .inl ⟨rfl, h9⟩⟩)
      · exact pw_f (nI_ge (b := 1000000000) (by omega) (by decide)) (pw_s ⟨P, b, hpf, hps, hpm, hb, hle, hf, .inr ⟨rfl, by omega, hex (by omega)⟩⟩)
    | succ d ih =>
      intro s fu S' b hs hfu hf hpf hb hb9 hle hex
      obtain ⟨fu, rfl⟩ : ∃ z, fu = z + 1 := ⟨fu - 1, by omega⟩
      have hs64 : s < 64 := by omega
      have hps64 := hpf s hs64
      rw [X1_search_57, nI_1 s]
      refine pw_f (nI_ge (b := 64) (by omega) (by decide)) (pw_be (X_acq (mvl S' hf) hs64) ?_)
      cases hac : pu_ev (A.2.2.2.2 0) s
      · refine pw_t rfl (pw_bl (ih (s + 1) fu S' b (by omega) (by omega) hf hpf hb hb9 (fun t ht hat => ?_) hex))
        by_cases et : t = s
        · rw [et] at hat
          unfold pu_acc at hat
          rw [hac] at hat; cases hat
        · exact hle t (by omega) hat
      · have hacs : pu_acc A s = true := hac
        rw [nI_clamp (by omega), hps64.1, hb]
        refine pw_f (by decide) (pw_gd (fy_ix_nI hs64 (by decide)) (pw_bl (pw_bl ?_)))
        have emin : (if nI (P s) < nI b then nI (P s) else nI b) = nI (if P s < b then P s else b) := by
          by_cases e : P s < b
          · rw [if_pos e, if_pos (nI_lt e (by omega))]
          · rw [if_neg e, if_neg (nI_nlt (by omega) (by omega))]
        rw [emin]
        refine ih (s + 1) fu _ (if P s < b then P s else b) (by omega) (by omega) (fr_I hf (by unfold pu_c4; omega)) (fun t ht => ?_) rd_y ?_ (fun t ht hat => ?_) (fun h => ?_)
        · rw [rd_n (by omega)]; exact hpf t ht
        · split <;> omega
        · by_cases et : t = s
          · rw [et]; split <;> omega
          · have := hle t (by omega) hat
            split <;> omega
        · by_cases e : P s < b
          · exact ⟨s, hs64, hacs, by rw [if_pos e]⟩
          · rw [if_neg e] at h ⊢; exact hex h
  have E0 : ∀ P S', pu_ps_ A P → pu_pm_ A P → fr pu_c4 S S' → pu_pf S' P → pw (X1_search_48 S' 20) (fun R => ∃ P b, pu_pf R.1 P ∧ pu_ps_ A P ∧ pu_pm_ A P ∧ R.1.1 32 1 = nI b ∧ (∀ s, s < 64 → pu_acc A s = true → b ≤ P s) ∧ fr pu_c4 S R.1 ∧ ((R.2 = 0 ∧ 1000000000 ≤ b) ∨ (R.2 = 1 ∧ b < 1000000000 ∧ ∃ s, s < 64 ∧ pu_acc A s = true ∧ P s = b))) := by
    intro P S' hps hpm hf hpf
    rw [X1_search_48]
    exact pw_bl (E P hps hpm 64 0 fy_fu _ 1000000000 (by omega) (fz_fu (by omega)) (fr_I hf (by unfold pu_c4; omega)) (fun t ht => by rw [rd_n (by omega)]; exact hpf t ht) rd_y (Nat.le_refl _) (fun t ht => absurd ht (Nat.not_lt_zero t)) (fun h => absurd h (Nat.lt_irrefl _)))
  -- the rounds
  have L : ∀ d r fu S' (ch : Int32) P, r + d = 65 → d < fu → fr pu_c4 S S' → pu_pf S' P → pu_ps_ A P → (∀ w, pu_wv A.2.1 w → w.length ≤ r → w.length ≤ 65 → P (pu_rs A w) ≤ pu_pri A w) → (ch = 0 → pu_pm_ A P) → pw (X1_search_24 fu S' 20 (38 + 41 * a + 1) ch (nI r)) (fun R => ∃ P b, pu_pf R.1 P ∧ pu_ps_ A P ∧ pu_pm_ A P ∧ R.1.1 32 1 = nI b ∧ (∀ s, s < 64 → pu_acc A s = true → b ≤ P s) ∧ fr pu_c4 S R.1 ∧ ((R.2 = 0 ∧ 1000000000 ≤ b) ∨ (R.2 = 1 ∧ b < 1000000000 ∧ ∃ s, s < 64 ∧ pu_acc A s = true ∧ P s = b))) := by
    intro d
    induction d with
    | zero =>
      intro r fu S' ch P hr hfu hf hpf hps hw hch
      obtain ⟨fu, rfl⟩ : ∃ z, fu = z + 1 := ⟨fu - 1, by omega⟩
      have : r = 65 := by omega
      subst this
      rw [X1_search_24]
      exact pw_t (by decide) (E0 P S' hps (fun w hv hlw => hw w hv (by omega) (by omega)) hf hpf)
    | succ d ih =>
      intro r fu S' ch P hr hfu hf hpf hps hw hch
      obtain ⟨fu, rfl⟩ : ∃ z, fu = z + 1 := ⟨fu - 1, by omega⟩
      rw [X1_search_24, nI_1 r]
      refine pw_f (nI_nlt (a := 64) (by omega) (by decide)) (pw_if (fun h0 => E0 P S' hps (hch h0) hf hpf) (fun _ => ?_))
      refine pw_bp (X_low ha hA (mvX S' hf) (mvl S' hf) hpf hps) (fun S1 r1 h1 => pw_bl ?_)
      obtain ⟨P1, p1, p2, p3, p4, p5, p6, p7⟩ := h1
      refine ih (r + 1) fu S1 r1 P1 (by omega) (by omega) (fr_t hf (fr_m p7 (fun i k h => .inr h))) p1 p2 (fun w hv h1 h2 => ?_) (fun h0 => ?_)
      · cases w with
        | nil => exact Nat.le_trans (p3 _ (pu_rs_lt hA []).2) (hw [] hv (Nat.zero_le _) (Nat.zero_le _))
        | cons x w =>
          have hvw : pu_wv A.2.1 w := fun y hy => hv y (by simp [hy])
          have hl1 : w.length + 1 ≤ r + 1 := h1
          have hl2 : w.length + 1 ≤ 65 := h2
          have q := hw w hvw (by omega) (by omega)
          have qb := pu_pri_b hA hvw (by omega)
          have := p4 (pu_rs A w) x (pu_rs_lt hA w).2 (hv x (by simp)) (by omega)
          rw [pu_pri_c]
          show P1 (pu_sp1 A x (pu_rs A w)) ≤ _
          omega
      · -- nothing was lowered
        have same := p6 h0
        intro w
        induction w with
        | nil => intro hv _; rw [same _ (pu_rs_lt hA []).2]; exact hw [] hv (Nat.zero_le _) (Nat.zero_le _)
        | cons x w ihw =>
          intro hv hlw
          have hlw : w.length + 1 ≤ 64 := hlw
          have hvw : pu_wv A.2.1 w := fun y hy => hv y (by simp [hy])
          have q := ihw hvw (by omega)
          have qb := pu_pri_b hA hvw (by omega)
          have e0 := same (pu_rs A w) (pu_rs_lt hA w).2
          have := p4 (pu_rs A w) x (pu_rs_lt hA w).2 (hv x (by simp)) (by omega)
          rw [pu_pri_c]
          show P1 (pu_sp1 A x (pu_rs A w)) ≤ _
          omega
  rw [X1_search]
  refine pw_bd X_fillI (fun S1 s1 => ?_)
  rw [(s1.2 _ _ (by omega)).1, hl.2.1, nI_clamp (by omega)]
  refine pw_gd (fy_ix_nI hF (by decide)) (pw_bl (L 65 0 fy_fu _ 1 (fun t => if t = A.2.2.1 then 0 else 1000000000) (by omega) (fz_fu (by omega)) (fr_I (fr_m s1.2 (fun i k h => .inr h)) (by unfold pu_c4; omega)) (fun t ht => ?_) (fun t ht hlt => ?_) (fun w hv h1 _ => ?_) (fun h => absurd h (by decide))))
  · by_cases e : t = A.2.2.1
    · rw [e, rd_y]; simp only [if_true]; exact ⟨rfl, by omega⟩
    · rw [rd_n (by omega)]; simp only [if_neg e]; exact ⟨s1.1 t ht, Nat.le_refl _⟩
  · by_cases e : t = A.2.2.1
    · simp only [if_pos e]
      exact ⟨[], fun y hy => (by cases hy), e.symm, rfl⟩
    · simp only [if_neg e] at hlt
      omega
  · have : w = [] := List.length_eq_zero_iff.mp (by omega)
    subst this
    show (if A.2.2.1 = A.2.2.1 then 0 else 1000000000) ≤ _
    rw [if_pos rfl]; exact Nat.zero_le _
/-- ways into a set of sets -/
theorem X_way {S : fy_S} {A : pu_A} {P : Nat → Nat} {ends : Int64} {x : Nat} {v : Int32} (hA : pu_wA A) (hl : pu_ld S 20 A) (hpf : pu_pf S P) (hv : ∀ s, s < 64 → nI (P s) = v → s < 2 ^ A.1) (hx : x < A.2.1) : pw (X1_waysInto S 20 ends (nI x) v) (fun w => ∀ s, s < 64 → (lb w s = true ↔ nI (P s) = v ∧ lb ends (pu_sp1 A x s) = true)) := by
  have L : ∀ d s fu w, s + d = 64 → d < fu → (∀ t, t < 64 → (lb w t = true ↔ t < s ∧ nI (P t) = v ∧ lb ends (pu_sp1 A x t) = true)) → pw (X1_waysInto_6 S fu 20 ends (nI x) v w (nI s)) (fun w => ∀ s, s < 64 → (lb w s = true ↔ nI (P s) = v ∧ lb ends (pu_sp1 A x s) = true)) := by
    intro d
    induction d with
    | zero =>
      intro s fu w hs hfu hw
      obtain ⟨fu, rfl⟩ : ∃ z, fu = z + 1 := ⟨fu - 1, by omega⟩
      have : s = 64 := by omega
      subst this
      rw [X1_waysInto_6]
      exact pw_t (by decide) (pw_s (fun t ht => by rw [hw t ht]; exact ⟨fun h => h.2, fun h => ⟨ht, h⟩⟩))
    | succ d ih =>
      intro s fu w hs hfu hw
      obtain ⟨fu, rfl⟩ : ∃ z, fu = z + 1 := ⟨fu - 1, by omega⟩
      have hs64 : s < 64 := by omega
      have skip : ¬ (nI (P s) = v ∧ lb ends (pu_sp1 A x s) = true) → pw (X1_waysInto_6 S fu 20 ends (nI x) v w (nI (s + 1))) (fun w => ∀ s, s < 64 → (lb w s = true ↔ nI (P s) = v ∧ lb ends (pu_sp1 A x s) = true)) := by
        intro hno
        refine ih (s + 1) fu w (by omega) (by omega) (fun t ht => ?_)
        rw [hw t ht]
        refine ⟨fun h => ⟨by omega, h.2⟩, fun h => ⟨?_, h.2⟩⟩
        have : t ≠ s := fun e => hno (by rw [← e]; exact h.2)
        omega
      rw [X1_waysInto_6, nI_clamp (by omega), (hpf s hs64).1, nI_1 s]
      refine pw_f (nI_ge (b := 64) (by omega) (by decide)) (pw_gd (fy_ix_nI hs64 (by decide)) (pw_if (fun he => ?_) (fun he => pw_bl (skip (fun h => he h.1)))))
      have hnx := (pu_sp1_lt hA x s).2
      refine pw_be (X_st hA hl hx (hv s hs64 he)) (pw_be (X_isIn' hnx) ?_)
      cases hb : lb ends (pu_sp1 A x s)
      · exact pw_t rfl (pw_bl (skip (fun h => by rw [hb] at h; cases h.2)))
      · refine pw_f (by decide) (pw_bl (pw_bl (ih (s + 1) fu _ (by omega) (by omega) (fun t ht => ?_))))
        rw [lb_or, lb_1 hs64 ht, Bool.or_eq_true, hw t ht, decide_eq_true_eq]
        constructor
        · rintro (h | h)
          · exact ⟨by omega, h.2⟩
          · rw [← h]; exact ⟨by omega, he, hb⟩
        · rintro ⟨h1, h2⟩
          by_cases e : t = s
          · exact .inr e.symm
          · exact .inl ⟨by omega, h2⟩
  exact L 64 0 fy_fu 0 (by omega) (fz_fu (by omega)) (fun t ht => by
    rw [lb_0]
    exact ⟨fun h => (by cases h), fun h => absurd h.1 (Nat.not_lt_zero t)⟩)
