/-! reverseClasses: sets that no word of so many letters tells apart -/
def pu_eq (A : pu_A) : Nat → Nat → Nat → Prop
  | 0, s, t => pu_ev (A.2.2.2.2 0) s = pu_ev (A.2.2.2.2 0) t
  | r + 1, s, t => pu_eq A r s t ∧ ∀ x, x < A.2.1 → pu_eq A r (pu_sp1 A x s) (pu_sp1 A x t)
theorem pu_eq_r {A : pu_A} : ∀ r s, pu_eq A r s s := by
  intro r
  induction r with
  | zero => intro s; rfl
  | succ r ih => intro s; exact ⟨ih s, fun x _ => ih _⟩
theorem pu_eq_s {A : pu_A} : ∀ {r s t}, pu_eq A r s t → pu_eq A r t s := by
  intro r
  induction r with
  | zero => intro s t h; exact Eq.symm h
  | succ r ih => intro s t h; exact ⟨ih h.1, fun x hx => ih (h.2 x hx)⟩
theorem pu_eq_t {A : pu_A} : ∀ {r s t u}, pu_eq A r s t → pu_eq A r t u → pu_eq A r s u := by
  intro r
  induction r with
  | zero => intro s t u h1 h2; exact Eq.trans h1 h2
  | succ r ih => intro s t u h1 h2; exact ⟨ih h1.1 h2.1, fun x hx => ih (h1.2 x hx) (h2.2 x hx)⟩
/-- n sets that stand for all that can be reached -/
def pu_Q (A : pu_A) (r n : Nat) : Prop := ∃ rep : Nat → Nat, (∀ i, i < n → pu_rc A (rep i)) ∧ (∀ i j, i < n → j < n → pu_eq A r (rep i) (rep j) → i = j) ∧ ∀ s, pu_rc A s → ∃ i, i < n ∧ pu_eq A r s (rep i)
theorem pu_Q_g {A : pu_A} {r r' n n' : Nat} {rep rep' : Nat → Nat} (hr : ∀ s t, pu_eq A r' s t → pu_eq A r s t) (h1 : ∀ i, i < n → pu_rc A (rep i)) (h2 : ∀ i j, i < n → j < n → pu_eq A r (rep i) (rep j) → i = j) (h3 : ∀ s, pu_rc A s → ∃ i, i < n' ∧ pu_eq A r' s (rep' i)) : ∃ g : Nat → Nat, (∀ i, i < n → g i < n' ∧ pu_eq A r' (rep i) (rep' (g i))) ∧ ∀ i j, i < j → j < n → g i ≠ g j := by
  have ex : ∀ i : Nat, ∃ j : Nat, i < n → j < n' ∧ pu_eq A r' (rep i) (rep' j) := fun i => by
    by_cases hi : i < n
    · obtain ⟨j, hj⟩ := h3 _ (h1 i hi)
      exact ⟨j, fun _ => hj⟩
    · exact ⟨0, fun h => absurd h hi⟩
  obtain ⟨g, hg⟩ := Classical.axiomOfChoice ex
  refine ⟨g, fun i hi => hg i hi, fun i j hij hj e => ?_⟩
  have a1 := (hg i (by omega)).2
  have a2 := (hg j hj).2
  rw [← e] at a2
  have := h2 i j (by omega) hj (hr _ _ (pu_eq_t a1 (pu_eq_s a2)))
  omega
theorem pu_Q_le {A : pu_A} {r n n' : Nat} (h : pu_Q A r n) (h' : pu_Q A (r + 1) n') : n ≤ n' := by
  obtain ⟨rep, h1, h2, h3⟩ := h
  obtain ⟨rep', g1, g2, g3⟩ := h'
  obtain ⟨g, hg, hi⟩ := pu_Q_g (fun s t (e : pu_eq A (r + 1) s t) => e.1) h1 h2 g3
  exact fb_holes n' n g (fun i hi => (hg i hi).1) hi
theorem pu_Q_u {A : pu_A} {r n n' : Nat} (h : pu_Q A r n) (h' : pu_Q A r n') : n = n' := by
  obtain ⟨rep, h1, h2, h3⟩ := h
  obtain ⟨rep', g1, g2, g3⟩ := h'
  obtain ⟨g, hg, hi⟩ := pu_Q_g (fun s t e => e) h1 h2 g3
  obtain ⟨k, hk, ki⟩ := pu_Q_g (fun s t e => e) g1 g2 h3
  have a := fb_holes n' n g (fun i hi => (hg i hi).1) hi
  have b := fb_holes n n' k (fun i hi => (hk i hi).1) ki
  omega
theorem pu_Q_64 {A : pu_A} (hA : pu_wA A) {r n : Nat} (h : pu_Q A r n) : n ≤ 64 := by
  obtain ⟨rep, h1, h2, h3⟩ := h
  have h64 := pu_2n hA.2.1
  exact fb_holes 64 n rep (fun i hi => by have := pu_rc_lt hA (h1 i hi); omega) (fun i j hij hj e => by
    have := h2 i j (by omega) hj (by rw [e]; exact pu_eq_r _ _)
    omega)
theorem pu_Q_1 {A : pu_A} {r n : Nat} (h : pu_Q A r n) : 1 ≤ n := by
  obtain ⟨rep, h1, h2, h3⟩ := h
  obtain ⟨i, hi, _⟩ := h3 A.2.2.1 (pu_cl_i rfl)
  omega
theorem pu_Q_st {A : pu_A} {r n : Nat} (h : pu_Q A r n) (h' : pu_Q A (r + 1) n) : ∀ d s t, pu_rc A s → pu_rc A t → (pu_eq A (r + d) s t ↔ pu_eq A r s t) := by
  obtain ⟨rep, h1, h2, h3⟩ := h
  obtain ⟨rep', g1, g2, g3⟩ := h'
  obtain ⟨g, hg, hi⟩ := pu_Q_g (fun s t (e : pu_eq A (r + 1) s t) => e.1) h1 h2 g3
  have key : ∀ s t, pu_rc A s → pu_rc A t → pu_eq A r s t → pu_eq A (r + 1) s t := by
    have onto : ∀ s, pu_rc A s → ∃ i, i < n ∧ pu_eq A (r + 1) s (rep i) := fun s hs => by
      obtain ⟨j, hj, e⟩ := g3 s hs
      obtain ⟨i, hi', ei⟩ := fb_onto (fun i hi => (hg i hi).1) hi hj
      have := (hg i hi').2
      rw [ei] at this
      exact ⟨i, hi', pu_eq_t e (pu_eq_s this)⟩
    intro s t hs ht e
    obtain ⟨i, hi', ei⟩ := onto s hs
    obtain ⟨j, hj', ej⟩ := onto t ht
    have := h2 i j hi' hj' (pu_eq_t (pu_eq_s ei.1) (pu_eq_t e ej.1))
    subst this
    exact pu_eq_t ei (pu_eq_s ej)
  intro d
  induction d with
  | zero => intro s t _ _; exact Iff.rfl
  | succ d ih =>
    intro s t hs ht
    refine ⟨fun e => (ih s t hs ht).mp e.1, fun e => ⟨(ih s t hs ht).mpr e, fun x hx => ?_⟩⟩
    have e2 := (key s t hs ht e).2 x hx
    exact (ih _ _ (pu_cl_n hs ⟨x, hx, rfl⟩) (pu_cl_n ht ⟨x, hx, rfl⟩)).mpr e2
theorem pu_Q_c {A : pu_A} {r r' n : Nat} (h : pu_Q A r n) (he : ∀ s t, pu_rc A s → pu_rc A t → (pu_eq A r' s t ↔ pu_eq A r s t)) : pu_Q A r' n := by
  obtain ⟨rep, h1, h2, h3⟩ := h
  refine ⟨rep, h1, fun i j hi hj e => h2 i j hi hj ((he _ _ (h1 i hi) (h1 j hj)).mp e), fun s hs => ?_⟩
  obtain ⟨i, hi, e⟩ := h3 s hs
  exact ⟨i, hi, (he _ _ hs (h1 i hi)).mpr e⟩
def pu_QQ (A : pu_A) (n : Nat) : Prop := ∃ r, pu_Q A r n ∧ pu_Q A (r + 1) n
theorem pu_QQ_u {A : pu_A} {n n' : Nat} (h : pu_QQ A n) (h' : pu_QQ A n') : n = n' := by
  obtain ⟨r, h1, h2⟩ := h
  obtain ⟨r', g1, g2⟩ := h'
  rcases Nat.le_total r r' with hle | hle
  · have e := pu_Q_c (r' := r') h1 (fun s t hs ht => by
      have := pu_Q_st h1 h2 (r' - r) s t hs ht
      rw [show r + (r' - r) = r' by omega] at this
      exact this)
    exact pu_Q_u e g1
  · have e := pu_Q_c (r' := r) g1 (fun s t hs ht => by
      have := pu_Q_st g1 g2 (r - r') s t hs ht
      rw [show r' + (r - r') = r by omega] at this
      exact this)
    exact (pu_Q_u e h1).symm
/-! the class -/
def pu_kr (A : pu_A) (r : Nat) (v : Nat → Int32) : Prop := ∀ s t, pu_rc A s → pu_rc A t → (v s = v t ↔ pu_eq A r s t)
theorem X_twins {S : fy_S} {A : pu_A} {r e s : Nat} (hA : pu_wA A) (hl : pu_ld S 20 A) (hk : pu_kr A r (S.1 22)) (he : pu_rc A e) (hs : pu_rc A s) : pw (X7_areTwins S 20 (nI e) (nI s)) (fun z => (z = 1 ∧ pu_eq A (r + 1) e s) ∨ (z = 0 ∧ ¬ pu_eq A (r + 1) e s)) := by
  have h64 := pu_2n hA.2.1
  have hm3 : A.2.1 ≤ 3 := hA.2.2.2.1
  have he2 := pu_rc_lt hA he
  have hs2 := pu_rc_lt hA hs
  have L : ∀ d x fu v, x + d = A.2.1 → d < fu → ((v = 1 ∧ pu_eq A r e s ∧ ∀ x', x' < x → pu_eq A r (pu_sp1 A x' e) (pu_sp1 A x' s)) ∨ (v = 0 ∧ ¬ pu_eq A (r + 1) e s)) → pw (X7_areTwins_24 S fu 20 (nI e) (nI s) v (nI x)) (fun z => (z = 1 ∧ pu_eq A (r + 1) e s) ∨ (z = 0 ∧ ¬ pu_eq A (r + 1) e s)) := by
    intro d
    induction d with
    | zero =>
      intro x fu v hx hfu hv
      obtain ⟨fu, rfl⟩ : ∃ z, fu = z + 1 := ⟨fu - 1, by omega⟩
      have : x = A.2.1 := by omega
      subst this
      rw [X7_areTwins_24, hl.1]
      refine pw_t (nI_le (Nat.le_refl _) (by omega)) ?_
      rcases hv with ⟨h1, h2, h3⟩ | ⟨h1, h2⟩
      · subst h1
        exact pw_gd (by decide) (pw_s (.inl ⟨rfl, h2, h3⟩))
      · subst h1
        exact pw_gd (by decide) (pw_s (.inr ⟨rfl, h2⟩))
    | succ d ih =>
      intro x fu v hx hfu hv
      obtain ⟨fu, rfl⟩ : ∃ z, fu = z + 1 := ⟨fu - 1, by omega⟩
      have hxm : x < A.2.1 := by omega
      rw [X7_areTwins_24, hl.1, nI_1 x]
      refine pw_f (nI_ge hxm (by omega)) ?_
      rcases hv with ⟨h1, h2, h3⟩ | ⟨h1, h2⟩
      · subst h1
        have l1 := (pu_sp1_lt hA x e).2
        have l2 := (pu_sp1_lt hA x s).2
        have kx := hk (pu_sp1 A x e) (pu_sp1 A x s) (pu_cl_n he ⟨x, hxm, rfl⟩) (pu_cl_n hs ⟨x, hxm, rfl⟩)
        refine pw_f (by decide) (pw_be (X_st hA hl hxm he2) (pw_gd (fy_ix_nI l1 (by decide)) (pw_be (X_st hA hl hxm hs2) (pw_gd (fy_ix_nI l2 (by decide)) ?_))))
        rw [nI_clamp (by omega), nI_clamp (by omega)]
        refine pw_if (fun hq => pw_bl (ih (x + 1) fu 1 (by omega) (by omega) (.inl ⟨rfl, h2, fun x' hx' => ?_⟩))) (fun hq => pw_bl (ih (x + 1) fu 0 (by omega) (by omega) (.inr ⟨rfl, fun hc => hq (kx.mpr (hc.2 x hxm))⟩)))
        by_cases ex : x' = x
        · subst ex; exact kx.mp hq
        · exact h3 x' (by omega)
      · subst h1
        exact pw_t rfl (pw_gd (by decide) (pw_s (.inr ⟨rfl, h2⟩)))
  have k0 := hk e s he hs
  rw [X7_areTwins, nI_clamp (by omega), nI_clamp (by omega)]
  refine pw_gd (fy_ix_nI (by omega) (by decide)) (pw_gd (fy_ix_nI (by omega) (by decide)) (pw_if (fun hq => ?_) (fun hq => ?_)))
  · exact L A.2.1 0 fy_fu 1 (by omega) (fz_fu (by omega)) (.inl ⟨rfl, k0.mp hq, fun x' hx' => absurd hx' (Nat.not_lt_zero x')⟩)
  · exact L A.2.1 0 fy_fu 0 (by omega) (fz_fu (by omega)) (.inr ⟨rfl, fun hc => hq (k0.mpr hc.1)⟩)
theorem X_early {S : fy_S} {A : pu_A} {r s : Nat} {u : Int64} (hA : pu_wA A) (hl : pu_ld S 20 A) (hk : pu_kr A r (S.1 22)) (hu : ∀ s, s < 64 → (lb u s = true ↔ pu_rc A s)) (hs : pu_rc A s) : pw (X7_earlierTwin S 20 u (nI s)) (fun z => (z = -1 ∧ ∀ e, e < s → pu_rc A e → ¬ pu_eq A (r + 1) e s) ∨ ∃ e, e < s ∧ z = nI e ∧ pu_rc A e ∧ pu_eq A (r + 1) e s) := by
  have h64 := pu_2n hA.2.1
  have hs2 := pu_rc_lt hA hs
  have L : ∀ d e fu, e + d = s → d < fu → (∀ e', e' < e → pu_rc A e' → ¬ pu_eq A (r + 1) e' s) → pw (X7_earlierTwin_3 S fu 20 u (nI s) (nI e)) (fun z => (z = -1 ∧ ∀ e, e < s → pu_rc A e → ¬ pu_eq A (r + 1) e s) ∨ ∃ e, e < s ∧ z = nI e ∧ pu_rc A e ∧ pu_eq A (r + 1) e s) := by
    intro d
    induction d with
    | zero =>
      intro e fu he hfu hn
      obtain ⟨fu, rfl⟩ : ∃ z, fu = z + 1 := ⟨fu - 1, by omega⟩
      have : e = s := by omega
      subst this
      rw [X7_earlierTwin_3]
      exact pw_t (nI_le (Nat.le_refl _) (by omega)) (pw_s (.inl ⟨rfl, hn⟩))
    | succ d ih =>
      intro e fu he hfu hn
      obtain ⟨fu, rfl⟩ : ∃ z, fu = z + 1 := ⟨fu - 1, by omega⟩
      have he64 : e < 64 := by omega
      rw [X7_earlierTwin_3, nI_1 e]
      refine pw_f (nI_ge (by omega) (by omega)) (pw_be (X_isIn' he64) ?_)
      cases hb : lb u e
      · refine pw_t rfl (pw_bl (ih (e + 1) fu (by omega) (by omega) (fun e' he' hr => ?_)))
        by_cases ee : e' = e
        · subst ee
          rw [(hu _ he64).mpr hr] at hb; cases hb
        · exact hn e' (by omega) hr
      · have her := (hu e he64).mp hb
        refine pw_f (by decide) (pw_bd (X_twins hA hl hk her hs) (fun z hz => ?_))
        rcases hz with ⟨h1, h2⟩ | ⟨h1, h2⟩
        · subst h1
          exact pw_f (by decide) (pw_s (.inr ⟨e, by omega, rfl, her, h2⟩))
        · subst h1
          refine pw_t rfl (pw_bl (ih (e + 1) fu (by omega) (by omega) (fun e' he' hr => ?_)))
          by_cases ee : e' = e
          · subst ee; exact h2
          · exact hn e' (by omega) hr
  exact L s 0 fy_fu (by omega) (fz_fu (by omega)) (fun e' he' => absurd he' (Nat.not_lt_zero e'))
theorem X_refi {S : fy_S} {A : pu_A} {r : Nat} {u : Int64} (hA : pu_wA A) (hl : pu_ld S 20 A) (hk : pu_kr A r (S.1 22)) (hu : ∀ s, s < 64 → (lb u s = true ↔ pu_rc A s)) : pw (X7_refine S 20 u) (fun R => ∃ n, R.2 = nI n ∧ pu_Q A (r + 1) n ∧ pu_kr A (r + 1) (R.1.1 22) ∧ fr (fun i _ => i = 22 ∨ i = 23) S R.1) := by
  have h64 := pu_2n hA.2.1
  have L : ∀ d s fu S' n (rep : Nat → Nat), s + d = 64 → d < fu → fr (fun i _ => i = 23) S S' → (∀ i, i < n → pu_rc A (rep i) ∧ rep i < s) → (∀ i j, i < n → j < n → pu_eq A (r + 1) (rep i) (rep j) → i = j) → (∀ t, t < s → pu_rc A t → ∃ i, i < n ∧ S'.1 23 t = nI i ∧ pu_eq A (r + 1) t (rep i)) → pw (X7_refine_5 fu S' 20 u (nI n) (nI s)) (fun R => ∃ n, R.2 = nI n ∧ pu_Q A (r + 1) n ∧ pu_kr A (r + 1) (R.1.1 22) ∧ fr (fun i _ => i = 22 ∨ i = 23) S R.1) := by
    intro d
    induction d with
    | zero =>
      intro s fu S' n rep hs hfu hf h1 h2 h3
      obtain ⟨fu, rfl⟩ : ∃ z, fu = z + 1 := ⟨fu - 1, by omega⟩
      have : s = 64 := by omega
      subst this
      have hQ : pu_Q A (r + 1) n := ⟨rep, fun i hi => (h1 i hi).1, h2, fun t ht => by
        obtain ⟨i, hi, _, e⟩ := h3 t (by have := pu_rc_lt hA ht; omega) ht
        exact ⟨i, hi, e⟩⟩
      have hn64 := pu_Q_64 hA hQ
      rw [X7_refine_5]
      refine pw_t (by decide) (pw_gd ?_ (pw_bl (pw_s ⟨n, rfl, hQ, fun s t hs ht => ?_, fr_A (fr_m hf (fun i k h => .inr h)) (fun _ => .inl rfl)⟩)))
      · unfold fy_cpI
        exact decide_eq_true ⟨by decide, by decide, by decide, by decide, by decide, fun i _ => rfl⟩
      · have hs2 := pu_rc_lt hA hs
        have ht2 := pu_rc_lt hA ht
        have cp : ∀ t, t < 64 → (fy_sA S' (20 + 2) (va_cpy (S'.1 (20 + 3)) (S'.1 (20 + 2)) (0 : Int32).toNatClampNeg (0 : Int32).toNatClampNeg (64 : Int32).toNatClampNeg)).1 22 t = S'.1 23 t := fun t ht => by
          rw [rd_A, if_pos rfl, pk_cpy_in (by show 0 ≤ t; omega) (by show t < 0 + 64; omega)]
          show S'.1 23 (0 + (t - 0)) = _
          rw [show 0 + (t - 0) = t by omega]
        show (fy_sA S' (20 + 2) _).1 22 s = (fy_sA S' (20 + 2) _).1 22 t ↔ _
        rw [cp s (by omega), cp t (by omega)]
        obtain ⟨i, hi, ei, qi⟩ := h3 s (by omega) hs
        obtain ⟨j, hj, ej, qj⟩ := h3 t (by omega) ht
        rw [ei, ej, nI_eq (by omega) (by omega)]
        constructor
        · intro e
          subst e
          exact pu_eq_t qi (pu_eq_s qj)
        · intro e
          exact h2 i j hi hj (pu_eq_t (pu_eq_s qi) (pu_eq_t e qj))
    | succ d ih =>
      intro s fu S' n rep hs hfu hf h1 h2 h3
      obtain ⟨fu, rfl⟩ : ∃ z, fu = z + 1 := ⟨fu - 1, by omega⟩
      have hs64 : s < 64 := by omega
      have hl' : pu_ld S' 20 A := pu_ld_c hl (fun i k h => hf i k (by omega))
      have hk' : pu_kr A r (S'.1 22) := fun s t hs ht => by rw [(hf 22 s (by omega)).1, (hf 22 t (by omega)).1]; exact hk s t hs ht
      rw [X7_refine_5, nI_1 s]
      refine pw_f (nI_ge (b := 64) (by omega) (by decide)) (pw_be (X_isIn' hs64) ?_)
      cases hb : lb u s
      · refine pw_t rfl (pw_bl (ih (s + 1) fu S' n rep (by omega) (by omega) hf (fun i hi => ⟨(h1 i hi).1, by have := (h1 i hi).2; omega⟩) h2 (fun t ht hr => ?_)))
        by_cases e : t = s
        · subst e
          rw [(hu _ hs64).mpr hr] at hb; cases hb
        · exact h3 t (by omega) hr
      · have hsr := (hu s hs64).mp hb
        refine pw_f (by decide) (pw_bd (X_early hA hl' hk' hu hsr) (fun z hz => ?_))
        rcases hz with ⟨h5, h6⟩ | ⟨e, he, h5, her, heq⟩
        · subst h5
          refine pw_t rfl (pw_gd (fy_ix_nI hs64 (by decide)) (pw_bl (pw_bl (pw_bl ?_))))
          rw [nI_clamp (by omega), nI_1 n]
          refine ih (s + 1) fu _ (n + 1) (fun i => if i < n then rep i else s) (by omega) (by omega) (fr_I hf rfl) (fun i hi => ?_) (fun i j hi hj e => ?_) (fun t ht hr => ?_)
          · by_cases e : i < n
            · simp only [if_pos e]; exact ⟨(h1 i e).1, by have := (h1 i e).2; omega⟩
            · simp only [if_neg e]; exact ⟨hsr, by omega⟩
          · by_cases ei : i < n
            · by_cases ej : j < n
              · simp only [if_pos ei, if_pos ej] at e
                exact h2 i j ei ej e
              · simp only [if_pos ei, if_neg ej] at e
                exact absurd e (h6 (rep i) (h1 i ei).2 (h1 i ei).1)
            · by_cases ej : j < n
              · simp only [if_neg ei, if_pos ej] at e
                exact absurd (pu_eq_s e) (h6 (rep j) (h1 j ej).2 (h1 j ej).1)
              · omega
          · by_cases e : t = s
            · subst e
              exact ⟨n, by omega, rd_y, by simp only [if_neg (Nat.lt_irrefl n)]; exact pu_eq_r _ _⟩
            · obtain ⟨i, hi, ei, qi⟩ := h3 t (by omega) hr
              exact ⟨i, by omega, by rw [rd_n (by omega)]; exact ei, by simp only [if_pos hi]; exact qi⟩
        · subst h5
          obtain ⟨i0, hi0, ei0, qi0⟩ := h3 e he her
          refine pw_f (fun hm => ?_) (pw_gd (fy_ix_nI (by omega) (by decide)) (pw_gd (fy_ix_nI hs64 (by decide)) (pw_bl (pw_bl ?_))))
          · have h1 := nI_toInt (n := e) (by omega)
            rw [hm] at h1
            have h2 : (-1 : Int32).toInt = -1 := by decide
            omega
          · rw [nI_clamp (by omega), nI_clamp (by omega), show (20 + 3 : Nat) = 23 from rfl, ei0]
            refine ih (s + 1) fu _ n rep (by omega) (by omega) (fr_I hf rfl) (fun i hi => ⟨(h1 i hi).1, by have := (h1 i hi).2; omega⟩) h2 (fun t ht hr => ?_)
            by_cases et : t = s
            · subst et
              exact ⟨i0, hi0, rd_y, pu_eq_t (pu_eq_s heq) qi0⟩
            · obtain ⟨i, hi, ei, qi⟩ := h3 t (by omega) hr
              exact ⟨i, hi, by rw [rd_n (by omega)]; exact ei, qi⟩
  exact L 64 0 fy_fu S 0 (fun _ => 0) (by omega) (fz_fu (by omega)) fr_r (fun i hi => absurd hi (Nat.not_lt_zero i)) (fun i j hi => absurd hi (Nat.not_lt_zero i)) (fun t ht => absurd ht (Nat.not_lt_zero t))
theorem X_cls {S : fy_S} {A : pu_A} (hA : pu_wA A) (hl : pu_ld S 20 A) : pw (X7_countClasses S 20) (fun R => ∃ n, R.2 = nI n ∧ pu_QQ A n ∧ fr (fun i _ => i = 22 ∨ i = 23) S R.1) := by
  have h64 := pu_2n hA.2.1
  rw [X7_countClasses]
  refine pw_bd (X_reach hA hl) (fun u hu => ?_)
  have mvl : ∀ S', fr (fun i _ => i = 22 ∨ i = 23) S S' → pu_ld S' 20 A := fun S' hf => pu_ld_c hl (fun i k h => hf i k (by omega))
  have R : ∀ d i fu S' b c, i + d = 65 → d < fu → fr (fun i _ => i = 22 ∨ i = 23) S S' → pu_kr A i (S'.1 22) → ((i = 0 ∧ b = 0 ∧ c = 1) ∨ (1 ≤ i ∧ pu_Q A i c ∧ i ≤ b ∧ b ≤ c ∧ (b = c → pu_QQ A c))) → pw (X7_countClasses_49 fu S' 20 u (nI b) (nI c) (nI i)) (fun R => ∃ n, R.2 = nI n ∧ pu_QQ A n ∧ fr (fun i _ => i = 22 ∨ i = 23) S R.1) := by
    intro d
    induction d with
    | zero =>
      intro i fu S' b c hi hfu hf hk hs
      rcases hs with hs | ⟨h1, h2, h3, h4, h5⟩
      · omega
      · have := pu_Q_64 hA h2
        omega
    | succ d ih =>
      intro i fu S' b c hi hfu hf hk hs
      obtain ⟨fu, rfl⟩ : ∃ z, fu = z + 1 := ⟨fu - 1, by omega⟩
      have hcb : b ≤ c ∧ c ≤ 64 := by
        rcases hs with hs | ⟨h1, h2, h3, h4, h5⟩
        · omega
        · have := pu_Q_64 hA h2
          omega
      rw [X7_countClasses_49, nI_1 i]
      refine pw_f (nI_nlt (a := 64) (by omega) (by decide)) ?_
      by_cases e : c = b
      · rcases hs with hs | ⟨h1, h2, h3, h4, h5⟩
        · omega
        · exact pw_t (by rw [e]) (pw_s ⟨c, rfl, h5 e.symm, hf⟩)
      · refine pw_f (fun h => e ((nI_eq (by omega) (by omega)).mp h)) (pw_bp (X_refi hA (mvl S' hf) hk hu) (fun S1 r1 h1 => pw_bl ?_))
        obtain ⟨n, rfl, hQ, hk1, hf1⟩ := h1
        refine ih (i + 1) fu S1 c n (by omega) (by omega) (fr_t hf hf1) hk1 (.inr ⟨by omega, hQ, ?_, ?_, fun ecn => ?_⟩)
        · rcases hs with hs | ⟨h1, h2, h3, h4, h5⟩ <;> omega
        · rcases hs with hs | ⟨h1, h2, h3, h4, h5⟩
          · have := pu_Q_1 hQ
            omega
          · exact pu_Q_le h2 hQ
        · rcases hs with ⟨hi0, hb0, hc1⟩ | ⟨h1, h2, h3, h4, h5⟩
          · subst hi0; subst hc1; subst ecn
            obtain ⟨rep, g1, g2, g3⟩ := hQ
            have all : ∀ s t, pu_rc A s → pu_rc A t → pu_eq A 1 s t := fun s t hs ht => by
              obtain ⟨i, hi, ei⟩ := g3 s hs
              obtain ⟨j, hj, ej⟩ := g3 t ht
              have : i = j := by omega
              subst this
              exact pu_eq_t ei (pu_eq_s ej)
            refine ⟨1, ⟨rep, g1, g2, g3⟩, rep, g1, fun i j hi hj _ => by omega, fun s hs => ⟨0, by omega, all _ _ hs (g1 0 (by omega)), fun x hx => all _ _ (pu_cl_n hs ⟨x, hx, rfl⟩) (pu_cl_n (g1 0 (by omega)) ⟨x, hx, rfl⟩)⟩⟩
          · subst ecn
            exact ⟨i, h2, hQ⟩
  have I : ∀ d s fu S', s + d = 64 → d < fu → fr (fun i _ => i = 22 ∨ i = 23) S S' → (∀ t, t < s → S'.1 22 t = if pu_ev (A.2.2.2.2 0) t then 1 else 0) → pw (X7_countClasses_7 fu S' 20 u (nI s)) (fun R => ∃ n, R.2 = nI n ∧ pu_QQ A n ∧ fr (fun i _ => i = 22 ∨ i = 23) S R.1) := by
    intro d
    induction d with
    | zero =>
      intro s fu S' hs hfu hf hc
      obtain ⟨fu, rfl⟩ : ∃ z, fu = z + 1 := ⟨fu - 1, by omega⟩
      have : s = 64 := by omega
      subst this
      rw [X7_countClasses_7]
      refine pw_t (by decide) (R 65 0 fy_fu S' 0 1 (by omega) (fz_fu (by omega)) hf (fun s t hs ht => ?_) (.inl ⟨rfl, rfl, rfl⟩))
      have hs2 := pu_rc_lt hA hs
      have ht2 := pu_rc_lt hA ht
      rw [hc s (by omega), hc t (by omega), pu_eq]
      cases pu_ev (A.2.2.2.2 0) s <;> cases pu_ev (A.2.2.2.2 0) t <;> decide
    | succ d ih =>
      intro s fu S' hs hfu hf hc
      obtain ⟨fu, rfl⟩ : ∃ z, fu = z + 1 := ⟨fu - 1, by omega⟩
      have hs64 : s < 64 := by omega
      have fin : ∀ v : Int32, v = (if pu_ev (A.2.2.2.2 0) s then 1 else 0) → pw (X7_countClasses_34 (fun S v0 v1 v3 => X7_countClasses_7 fu S v0 v1 v3) S' 20 u (nI s) v (nI s) (20 + 2)) (fun R => ∃ n, R.2 = nI n ∧ pu_QQ A n ∧ fr (fun i _ => i = 22 ∨ i = 23) S R.1) := by
        intro v hv
        rw [X7_countClasses_34, nI_1 s, nI_clamp (by omega)]
        refine pw_gd (fy_ix_nI hs64 (by decide)) (pw_bl (pw_bl (ih (s + 1) fu _ (by omega) (by omega) (fr_I hf (.inl rfl)) (fun t ht => ?_))))
        by_cases e : t = s
        · subst e; rw [rd_y, hv]
        · rw [rd_n (by omega)]; exact hc t (by omega)
      rw [X7_countClasses_7, (mvl S' hf).2.2.1]
      refine pw_f (nI_ge (b := 64) (by omega) (by decide)) (pw_be (X_isIn' hs64) ?_)
      rw [lb_T _ hs64]
      cases hb : pu_ev (A.2.2.2.2 0) s
      · exact pw_t rfl (fin 0 (by rw [hb]; rfl))
      · exact pw_f (by decide) (fin 1 (by rw [hb]; rfl))
  exact I 64 0 fy_fu S (by omega) (fz_fu (by omega)) fr_r (fun t ht => absurd ht (Nat.not_lt_zero t))
