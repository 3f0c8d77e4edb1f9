/-! reverseClasses: the reference; the call -/
def pu_s3 (i k : Nat) : Prop := 21 ≤ i ∧ i ≤ 23
def pu_ls (S : fy_S) (A : pu_A) (n : Nat) (f : Nat → Nat) (kk : Nat) : Prop := ∀ k x, k < kk → x < A.2.1 → ∃ j, j < n ∧ S.1 23 (3 * k + x) = nI j ∧ f j = pu_sp1 A x (f k)
def pu_km (S : fy_S) (A : pu_A) (n : Nat) (f : Nat → Nat) (r : Nat) : Prop := ∀ i j, i < n → j < n → (S.1 21 i = S.1 21 j ↔ pu_eq A r (f i) (f j))
theorem M_one {S : fy_S} {a n r i j : Nat} {A : pu_A} {f : Nat → Nat} (ha : a < 7) (hA : pu_wA A) (hM : pu_MA S a A) (hn : n ≤ 64) (hls : pu_ls S A n f n) (hk : pu_km S A n f r) (hi : i < n) (hj : j < n) : pw (M_isOneClass S (nI a) (nI i) (nI j)) (fun z => (z = 1 ∧ pu_eq A (r + 1) (f i) (f j)) ∨ (z = 0 ∧ ¬ pu_eq A (r + 1) (f i) (f j))) := by
  have hm3 : A.2.1 ≤ 3 := hA.2.2.2.1
  have L : ∀ d x fu v, x + d = A.2.1 → d < fu → ((v = 1 ∧ pu_eq A r (f i) (f j) ∧ ∀ x', x' < x → pu_eq A r (pu_sp1 A x' (f i)) (pu_sp1 A x' (f j))) ∨ (v = 0 ∧ ¬ pu_eq A (r + 1) (f i) (f j))) → pw (M_isOneClass_25 S fu (nI a) (nI i) (nI j) v (nI x)) (fun z => (z = 1 ∧ pu_eq A (r + 1) (f i) (f j)) ∨ (z = 0 ∧ ¬ pu_eq A (r + 1) (f i) (f j))) := by
    intro d
    induction d with
    | zero =>
      intro x fu v hx hfu hv
      obtain ⟨fu, rfl⟩ : ∃ z, fu = z + 1 := ⟨fu - 1, by omega⟩
      have : x = A.2.1 := by omega
      subst this
      rw [M_isOneClass_25, nI_clamp (by omega), hM.2.1]
      refine pw_gd (fy_ix_nI ha (by decide)) (pw_t (nI_le (Nat.le_refl _) (by omega)) ?_)
      rcases hv with ⟨h1, h2, h3⟩ | ⟨h1, h2⟩
      · subst h1
        exact pw_gd (by decide) (pw_s (.inl ⟨rfl, h2, h3⟩))
      · subst h1
        exact pw_gd (by decide) (pw_s (.inr ⟨rfl, h2⟩))
    | succ d ih =>
      intro x fu v hx hfu hv
      obtain ⟨fu, rfl⟩ : ∃ z, fu = z + 1 := ⟨fu - 1, by omega⟩
      have hxm : x < A.2.1 := by omega
      rw [M_isOneClass_25, nI_clamp (by omega), hM.2.1, nI_1 x]
      refine pw_gd (fy_ix_nI ha (by decide)) (pw_f (nI_ge hxm (by omega)) ?_)
      rcases hv with ⟨h1, h2, h3⟩ | ⟨h1, h2⟩
      · subst h1
        obtain ⟨i', hi', ei, fi⟩ := hls i x hi hxm
        obtain ⟨j', hj', ej, fj⟩ := hls j x hj hxm
        have kx := hk i' j' hi' hj'
        rw [fi, fj] at kx
        rw [show (3 : Int32) * nI i = nI (3 * i) from pk_mul 3 i, show (3 : Int32) * nI j = nI (3 * j) from pk_mul 3 j, nI_add, nI_add, nI_clamp (by omega), nI_clamp (by omega), ei, ej, nI_clamp (by omega), nI_clamp (by omega)]
        refine pw_f (by decide) (pw_gd (fy_ix_nI (by omega) (by decide)) (pw_gd (fy_ix_nI (by omega) (by decide)) (pw_gd (fy_ix_nI (by omega) (by decide)) (pw_gd (fy_ix_nI (by omega) (by decide)) ?_))))
        refine pw_if (fun hq => pw_bl (ih (x + 1) fu 1 (by omega) (by omega) (.inl ⟨rfl, h2, fun x' hx' => ?_⟩))) (fun hq => pw_bl (ih (x + 1) fu 0 (by omega) (by omega) (.inr ⟨rfl, fun hc => hq (kx.mpr (hc.2 x hxm))⟩)))
        by_cases ex : x' = x
        · subst ex; exact kx.mp hq
        · exact h3 x' (by omega)
      · subst h1
        exact pw_t rfl (pw_bl (ih (x + 1) fu 0 (by omega) (by omega) (.inr ⟨rfl, h2⟩)))
  have k0 := hk i j hi hj
  rw [M_isOneClass, nI_clamp (by omega), nI_clamp (by omega)]
  refine pw_gd (fy_ix_nI (by omega) (by decide)) (pw_gd (fy_ix_nI (by omega) (by decide)) (pw_if (fun hq => ?_) (fun hq => ?_)))
  · exact L A.2.1 0 fy_fu 1 (by omega) (fz_fu (by omega)) (.inl ⟨rfl, k0.mp hq, fun x' hx' => absurd hx' (Nat.not_lt_zero x')⟩)
  · exact L A.2.1 0 fy_fu 0 (by omega) (fz_fu (by omega)) (.inr ⟨rfl, fun hc => hq (k0.mpr hc.1)⟩)
theorem M_cls {S : fy_S} {a n : Nat} {A : pu_A} {f : Nat → Nat} (ha : a < 7) (hA : pu_wA A) (hM : pu_MA S a A) (hd : pu_fd S n f) (hfc : pu_fc A n f) : pw (M_reverseClasses_17 fy_fu S (nI a) (nI 0)) (fun R => ∃ n, R.2 = nI n ∧ pu_QQ A n ∧ fr pu_s3 S R.1) := by
  have h64 := pu_2n hA.2.1
  have hm3 : A.2.1 ≤ 3 := hA.2.2.2.1
  have hn64 := hd.1
  have hinj := pu_fd_i hd
  have hrc : ∀ i, i < n → pu_rc A (f i) := fun i hi => (hfc _).mpr ⟨i, hi, rfl⟩
  have mvM : ∀ S', fr pu_s3 S S' → pu_MA S' a A := fun S' f => pu_MA_c hA hM (fun i g1 g2 => (f _ _ (by unfold pu_s3; omega)).1) (fun k g1 g2 => (f _ _ (by unfold pu_s3; omega)).1) (fun k g1 g2 => (f _ _ (by unfold pu_s3; omega)).1) (fun k g1 g2 => (f _ _ (by unfold pu_s3; omega)).1)
  have mvD : ∀ S', fr pu_s3 S S' → pu_fd S' n f := fun S' g => pu_fd_c hd (g _ _ (by unfold pu_s3; omega)).1 (fun i k h => (g _ _ (by unfold pu_s3; omega)).1)
  have inn : ∀ k x, k < n → x < A.2.1 → ∃ j, j < n ∧ f j = pu_sp1 A x (f k) := fun k x hk hx => (hfc _).mp (pu_cl_n (hrc k hk) ⟨x, hx, rfl⟩)
  -- the rounds
  have R : ∀ d i fu S' (b : Int32) c, i + d = 66 → d < fu → fr pu_s3 S S' → pu_ls S' A n f n → pu_km S' A n f i → ((i = 0 ∧ b = -1 ∧ c = 0) ∨ (1 ≤ i ∧ pu_Q A i c ∧ ∃ b', b = nI b' ∧ i ≤ b' + 1 ∧ b' ≤ c ∧ (b' = c → pu_QQ A c))) → pw (M_reverseClasses_105 fu S' (nI a) b (nI c)) (fun R => ∃ n, R.2 = nI n ∧ pu_QQ A n ∧ fr pu_s3 S R.1) := by
    intro d
    induction d with
    | zero =>
      intro i fu S' b c hi hfu hf hls hk hs
      rcases hs with hs | ⟨h1, h2, b', h3, h4, h5, h6⟩
      · omega
      · have := pu_Q_64 hA h2
        omega
    | succ d ih =>
      intro i fu S' b c hi hfu hf hls hk hs
      obtain ⟨fu, rfl⟩ : ∃ z, fu = z + 1 := ⟨fu - 1, by omega⟩
      rw [M_reverseClasses_105]
      refine pw_if (fun e => ?_) (fun e => ?_)
      · rcases hs with ⟨h1, h2, h3⟩ | ⟨h1, h2, b', h3, h4, h5, h6⟩
        · subst h2; subst h3; exact absurd e (by decide)
        · have := pu_Q_64 hA h2
          rw [h3] at e
          exact pw_s ⟨c, rfl, h6 ((nI_eq (by omega) (by omega)).mp e).symm, hf⟩
      · generalize hk105 : (fun S v1 v2 v3 => M_reverseClasses_105 fu S v1 v2 v3) = k105
        -- what follows a round
        have nxt : ∀ S' n', fr pu_s3 S S' → pu_ls S' A n f n → pu_km S' A n f (i + 1) → pu_Q A (i + 1) n' → pw (k105 S' (nI a) (nI c) (nI n')) (fun R => ∃ n, R.2 = nI n ∧ pu_QQ A n ∧ fr pu_s3 S R.1) := by
          intro S1 n' hf1 hls1 hk1 hQ
          rw [← hk105]
          refine ih (i + 1) fu S1 (nI c) n' (by omega) (by omega) hf1 hls1 hk1 (.inr ⟨by omega, hQ, c, rfl, ?_, ?_, fun ec => ?_⟩)
          · rcases hs with hs | ⟨h1, h2, b', h3, h4, h5, h6⟩
            · omega
            · have := pu_Q_64 hA h2
              have : b' ≠ c := fun eb => e (by rw [h3, eb])
              omega
          · rcases hs with hs | ⟨h1, h2, b', h3, h4, h5, h6⟩
            · omega
            · exact pu_Q_le h2 hQ
          · rcases hs with hs | ⟨h1, h2, b', h3, h4, h5, h6⟩
            · have := pu_Q_1 hQ
              omega
            · subst ec
              exact ⟨i, h2, hQ⟩
        -- copying
        have C : ∀ e k fu S' n', k + e = n → e < fu → fr pu_s3 S S' → pu_ls S' A n f n → pu_Q A (i + 1) n' → (∀ i1 j1, i1 < n → j1 < n → (S'.1 22 i1 = S'.1 22 j1 ↔ pu_eq A (i + 1) (f i1) (f j1))) → (∀ j, j < k → S'.1 21 j = S'.1 22 j) → pw (M_reverseClasses_196 k105 fu S' (nI a) (nI c) (nI n') (nI k)) (fun R => ∃ n, R.2 = nI n ∧ pu_QQ A n ∧ fr pu_s3 S R.1) := by
          intro e
          induction e with
          | zero =>
            intro k fu S' n' hk hfu hf hls hQ h22 h21
            obtain ⟨fu, rfl⟩ : ∃ z, fu = z + 1 := ⟨fu - 1, by omega⟩
            have : k = n := by omega
            subst this
            rw [M_reverseClasses_196, (mvD S' hf).2.1]
            exact pw_t (nI_le (Nat.le_refl _) (by omega)) (nxt S' n' hf hls (fun i1 j1 h1 h2 => by rw [h21 i1 h1, h21 j1 h2]; exact h22 i1 j1 h1 h2) hQ)
          | succ e ih2 =>
            intro k fu S' n' hk hfu hf hls hQ h22 h21
            obtain ⟨fu, rfl⟩ : ∃ z, fu = z + 1 := ⟨fu - 1, by omega⟩
            have hkn : k < n := by omega
            rw [M_reverseClasses_196, (mvD S' hf).2.1, nI_1 k, nI_clamp (by omega)]
            refine pw_f (nI_ge hkn (by omega)) (pw_gd (fy_ix_nI (by omega) (by decide)) (pw_gd (fy_ix_nI (by omega) (by decide)) (pw_bl (pw_bl ?_))))
            refine ih2 (k + 1) fu _ n' (by omega) (by omega) (fr_I hf (by unfold pu_s3; omega)) (fun k' x' hk' hx' => ?_) hQ (fun i1 j1 h1 h2 => ?_) (fun j hj => ?_)
            · obtain ⟨j, hj, e1, e2⟩ := hls k' x' hk' hx'
              exact ⟨j, hj, by rw [rd_n (by omega)]; exact e1, e2⟩
            · rw [rd_n (by omega), rd_n (by omega)]; exact h22 i1 j1 h1 h2
            · by_cases ej : j = k
              · rw [ej, rd_y, rd_n (by omega)]
              · rw [rd_n (by omega), rd_n (by omega)]; exact h21 j (by omega)
        -- each place
        have P : ∀ e k fu S' n' (rep : Nat → Nat), k + e = n → e < fu → fr pu_s3 S S' → pu_ls S' A n f n → pu_km S' A n f i → (∀ p, p < n' → rep p < k) → (∀ p q, p < n' → q < n' → pu_eq A (i + 1) (f (rep p)) (f (rep q)) → p = q) → (∀ j, j < k → ∃ p, p < n' ∧ S'.1 22 j = nI p ∧ pu_eq A (i + 1) (f j) (f (rep p))) → pw (M_reverseClasses_117 k105 fu S' (nI a) (nI c) (nI n') (nI k)) (fun R => ∃ n, R.2 = nI n ∧ pu_QQ A n ∧ fr pu_s3 S R.1) := by
          intro e
          induction e with
          | zero =>
            intro k fu S' n' rep hk hfu hf hls hkm h1 h2 h3
            obtain ⟨fu, rfl⟩ : ∃ z, fu = z + 1 := ⟨fu - 1, by omega⟩
            have : k = n := by omega
            subst this
            have hQ : pu_Q A (i + 1) n' := ⟨fun p => f (rep p), fun p hp => hrc _ (h1 p hp), h2, fun s hs => by
              obtain ⟨j, hj, ej⟩ := (hfc s).mp hs
              obtain ⟨p, hp, _, e⟩ := h3 j hj
              exact ⟨p, hp, by rw [← ej]; exact e⟩⟩
            have hn' := pu_Q_64 hA hQ
            rw [M_reverseClasses_117, (mvD S' hf).2.1]
            refine pw_t (nI_le (Nat.le_refl _) (by omega)) (C k 0 fy_fu S' n' (by omega) (fz_fu (by omega)) hf hls hQ (fun i1 j1 hi1 hj1 => ?_) (fun j hj => absurd hj (Nat.not_lt_zero j)))
            obtain ⟨p, hp, ep, qp⟩ := h3 i1 hi1
            obtain ⟨q, hq, eq, qq⟩ := h3 j1 hj1
            rw [ep, eq, nI_eq (by omega) (by omega)]
            constructor
            · intro e
              subst e
              exact pu_eq_t qp (pu_eq_s qq)
            · intro e
              exact h2 p q hp hq (pu_eq_t (pu_eq_s qp) (pu_eq_t e qq))
          | succ e ih2 =>
            intro k fu S' n' rep hk hfu hf hls hkm h1 h2 h3
            obtain ⟨fu, rfl⟩ : ∃ z, fu = z + 1 := ⟨fu - 1, by omega⟩
            have hkn : k < n := by omega
            rw [M_reverseClasses_117, (mvD S' hf).2.1]
            refine pw_f (nI_ge hkn (by omega)) ?_
            have W : ∀ g l fu', l + g = k → g < fu' → (∀ l', l' < l → ¬ pu_eq A (i + 1) (f l') (f k)) → pw (M_reverseClasses_129 k105 (fun S v1 v2 v3 v4 => M_reverseClasses_117 k105 fu S v1 v2 v3 v4) fu' S' (nI a) (nI c) (nI n') (nI k) (nI l)) (fun R => ∃ n, R.2 = nI n ∧ pu_QQ A n ∧ fr pu_s3 S R.1) := by
              intro g
              induction g with
              | zero =>
                intro l fu' hl hfu' hno
                obtain ⟨fu', rfl⟩ : ∃ z, fu' = z + 1 := ⟨fu' - 1, by omega⟩
                have : l = k := by omega
                subst this
                rw [M_reverseClasses_129]
                refine pw_bd (M_one ha hA (mvM S' hf) hn64 hls hkm hkn hkn) (fun z hz => ?_)
                have hz1 : z = 1 := hz.elim (fun h => h.1) (fun h => absurd (pu_eq_r _ _) h.2)
                subst hz1
                refine pw_f (by decide) (pw_t rfl ?_)
                rw [M_reverseClasses_171, nI_clamp (by omega)]
                refine pw_gd (fy_ix_nI (by omega) (by decide)) (pw_bl (pw_t rfl (pw_bl (pw_bl ?_))))
                rw [nI_1 l, nI_1 n']
                refine ih2 (l + 1) fu _ (n' + 1) (fun p => if p < n' then rep p else l) (by omega) (by omega) (fr_I hf (by unfold pu_s3; omega)) (fun k' x' hk' hx' => ?_) (fun i1 j1 hi1 hj1 => ?_) (fun p hp => ?_) (fun p q hp hq e => ?_) (fun j hj => ?_)
                · obtain ⟨j, hj, e1, e2⟩ := hls k' x' hk' hx'
                  exact ⟨j, hj, by rw [rd_n (by omega)]; exact e1, e2⟩
                · rw [rd_n (by omega), rd_n (by omega)]; exact hkm i1 j1 hi1 hj1
                · by_cases e : p < n'
                  · simp only [if_pos e]; have := h1 p e; omega
                  · simp only [if_neg e]; omega
                · by_cases ep : p < n'
                  · by_cases eq : q < n'
                    · simp only [if_pos ep, if_pos eq] at e
                      exact h2 p q ep eq e
                    · simp only [if_pos ep, if_neg eq] at e
                      exact absurd e (hno (rep p) (h1 p ep))
                  · by_cases eq : q < n'
                    · simp only [if_neg ep, if_pos eq] at e
                      exact absurd (pu_eq_s e) (hno (rep q) (h1 q eq))
                    · omega
                · by_cases ej : j = l
                  · subst ej
                    exact ⟨n', by omega, rd_y, by simp only [if_neg (Nat.lt_irrefl n')]; exact pu_eq_r _ _⟩
                  · obtain ⟨p, hp, e1, e2⟩ := h3 j (by omega)
                    exact ⟨p, by omega, by rw [rd_n (by omega)]; exact e1, by simp only [if_pos hp]; exact e2⟩
              | succ g ih3 =>
                intro l fu' hl hfu' hno
                obtain ⟨fu', rfl⟩ : ∃ z, fu' = z + 1 := ⟨fu' - 1, by omega⟩
                rw [M_reverseClasses_129, nI_1 l]
                refine pw_bd (M_one ha hA (mvM S' hf) hn64 hls hkm (show l < n by omega) hkn) (fun z hz => ?_)
                rcases hz with ⟨hz, he⟩ | ⟨hz, he⟩
                · subst hz
                  obtain ⟨p0, hp0, ep0, qp0⟩ := h3 l (by omega)
                  refine pw_f (by decide) (pw_f (fun h => absurd ((nI_eq (by omega) (by omega)).mp h) (by omega)) (pw_gd (fy_ix_nI (by omega) (by decide)) ?_))
                  rw [M_reverseClasses_171, nI_clamp (by omega), nI_clamp (by omega), ep0]
                  refine pw_gd (fy_ix_nI (by omega) (by decide)) (pw_bl (pw_f (fun h => absurd ((nI_eq (by omega) (by omega)).mp h) (by omega)) (pw_bl (pw_bl ?_))))
                  rw [nI_1 k, show (0 : Int32) = nI 0 from rfl, nI_add n' 0, Nat.add_zero]
                  refine ih2 (k + 1) fu _ n' rep (by omega) (by omega) (fr_I hf (by unfold pu_s3; omega)) (fun k' x' hk' hx' => ?_) (fun i1 j1 hi1 hj1 => ?_) (fun p hp => by have := h1 p hp; omega) h2 (fun j hj => ?_)
                  · obtain ⟨j, hj, e1, e2⟩ := hls k' x' hk' hx'
                    exact ⟨j, hj, by rw [rd_n (by omega)]; exact e1, e2⟩
                  · rw [rd_n (by omega), rd_n (by omega)]; exact hkm i1 j1 hi1 hj1
                  · by_cases ej : j = k
                    · subst ej
                      exact ⟨p0, hp0, rd_y, pu_eq_t (pu_eq_s he) qp0⟩
                    · obtain ⟨p, hp, e1, e2⟩ := h3 j (by omega)
                      exact ⟨p, hp, by rw [rd_n (by omega)]; exact e1, e2⟩
                · subst hz
                  refine pw_t rfl (pw_bl (ih3 (l + 1) fu' (by omega) (by omega) (fun l' hl' => ?_)))
                  by_cases el : l' = l
                  · subst el; exact he
                  · exact hno l' (by omega)
            exact W k 0 fy_fu (by omega) (fz_fu (by omega)) (fun l' hl' => absurd hl' (Nat.not_lt_zero l'))
        exact P n 0 fy_fu S' 0 (fun _ => 0) (by omega) (fz_fu (by omega)) hf hls hk (fun p hp => absurd hp (Nat.not_lt_zero p)) (fun p q hp => absurd hp (Nat.not_lt_zero p)) (fun j hj => absurd hj (Nat.not_lt_zero j))
  -- the beginning
  have I : ∀ d k fu S', k + d = n → d < fu → fr pu_s3 S S' → pu_ls S' A n f k → (∀ j, j < k → S'.1 21 j = if pu_ev (A.2.2.2.2 0) (f j) then 1 else 0) → pw (M_reverseClasses_17 fu S' (nI a) (nI k)) (fun R => ∃ n, R.2 = nI n ∧ pu_QQ A n ∧ fr pu_s3 S R.1) := by
    intro d
    induction d with
    | zero =>
      intro k fu S' hk hfu hf hls hc
      obtain ⟨fu, rfl⟩ : ∃ z, fu = z + 1 := ⟨fu - 1, by omega⟩
      have : k = n := by omega
      subst this
      rw [M_reverseClasses_17, (mvD S' hf).2.1]
      refine pw_t (nI_le (Nat.le_refl _) (by omega)) (R 66 0 fy_fu S' (-1) 0 (by omega) (fz_fu (by omega)) hf hls (fun i j hi hj => ?_) (.inl ⟨rfl, rfl, rfl⟩))
      rw [hc i hi, hc j hj, pu_eq]
      cases pu_ev (A.2.2.2.2 0) (f i) <;> cases pu_ev (A.2.2.2.2 0) (f j) <;> decide
    | succ d ih =>
      intro k fu S' hk hfu hf hls hc
      obtain ⟨fu, rfl⟩ : ∃ z, fu = z + 1 := ⟨fu - 1, by omega⟩
      have hkn : k < n := by omega
      have hdk := (mvD S' hf).2.2.1 k hkn
      have fin : ∀ v : Int32, v = (if pu_ev (A.2.2.2.2 0) (f k) then 1 else 0) → pw (M_reverseClasses_49 (fun S v1 v2 => M_reverseClasses_17 fu S v1 v2) S' (nI a) (nI k) v (nI k)) (fun R => ∃ n, R.2 = nI n ∧ pu_QQ A n ∧ fr pu_s3 S R.1) := by
        intro v hv
        have X : ∀ e x fu' S', x + e = A.2.1 → e < fu' → fr pu_s3 S S' → pu_ls S' A n f k → (∀ x', x' < x → ∃ j, j < n ∧ S'.1 23 (3 * k + x') = nI j ∧ f j = pu_sp1 A x' (f k)) → (∀ j, j < k + 1 → S'.1 21 j = if pu_ev (A.2.2.2.2 0) (f j) then 1 else 0) → pw (M_reverseClasses_52 (fun S v1 v2 => M_reverseClasses_17 fu S v1 v2) fu' S' (nI a) (nI k) (nI x)) (fun R => ∃ n, R.2 = nI n ∧ pu_QQ A n ∧ fr pu_s3 S R.1) := by
          intro e
          induction e with
          | zero =>
            intro x fu' S' hx hfu' hf hls hlx hc
            obtain ⟨fu', rfl⟩ : ∃ z, fu' = z + 1 := ⟨fu' - 1, by omega⟩
            have : x = A.2.1 := by omega
            subst this
            rw [M_reverseClasses_52, nI_clamp (by omega), (mvM S' hf).2.1, nI_1 k]
            refine pw_gd (fy_ix_nI ha (by decide)) (pw_t (nI_le (Nat.le_refl _) (by omega)) (pw_bl (ih (k + 1) fu S' (by omega) (by omega) hf (fun k' x' hk' hx' => ?_) hc)))
            by_cases ek : k' = k
            · subst ek; exact hlx x' hx'
            · exact hls k' x' (by omega) hx'
          | succ e ih2 =>
            intro x fu' S' hx hfu' hf hls hlx hc
            obtain ⟨fu', rfl⟩ : ∃ z, fu' = z + 1 := ⟨fu' - 1, by omega⟩
            have hxm : x < A.2.1 := by omega
            have hdk := (mvD S' hf).2.2.1 k hkn
            obtain ⟨j0, hj0, ej0⟩ := inn k x hkn hxm
            have hd0 := (mvD S' hf).2.2.1 j0 hj0
            rw [ej0] at hd0
            have hlt := (pu_sp1_lt hA x (f k)).2
            rw [M_reverseClasses_52, nI_clamp (by omega), (mvM S' hf).2.1, nI_1 x, nI_clamp (by omega), hdk.2.1, show (3 : Int32) * nI k = nI (3 * k) from pk_mul 3 k, nI_add, nI_clamp (by omega)]
            refine pw_gd (fy_ix_nI ha (by decide)) (pw_f (nI_ge hxm (by omega)) (pw_gd (fy_ix_nI (by omega) (by decide)) (pw_be (M_step ha hA (mvM S' hf) hxm hdk.1) (pw_gd (fy_ix_nI hlt (by decide)) (pw_gd (fy_ix_nI (by omega) (by decide)) (pw_bl (pw_bl ?_)))))))
            rw [nI_clamp (by omega), hd0.2.2]
            refine ih2 (x + 1) fu' _ (by omega) (by omega) (fr_I hf (by unfold pu_s3; omega)) (fun k' x' hk' hx' => ?_) (fun x' hx' => ?_) (fun j hj => by rw [rd_n (by omega)]; exact hc j hj)
            · obtain ⟨j, hj, e1, e2⟩ := hls k' x' hk' hx'
              exact ⟨j, hj, by rw [rd_n (by omega)]; exact e1, e2⟩
            · by_cases ex : x' = x
              · subst ex
                exact ⟨j0, hj0, rd_y, ej0⟩
              · obtain ⟨j, hj, e1, e2⟩ := hlx x' (by omega)
                exact ⟨j, hj, by rw [rd_n (by omega)]; exact e1, e2⟩
        rw [M_reverseClasses_49, nI_clamp (by omega)]
        refine pw_gd (fy_ix_nI (by omega) (by decide)) (pw_bl (X A.2.1 0 fy_fu _ (by omega) (fz_fu (by omega)) (fr_I hf (by unfold pu_s3; omega)) (fun k' x' hk' hx' => ?_) (fun x' hx' => absurd hx' (Nat.not_lt_zero x')) (fun j hj => ?_)))
        · obtain ⟨j, hj, e1, e2⟩ := hls k' x' hk' hx'
          exact ⟨j, hj, by rw [rd_n (by omega)]; exact e1, e2⟩
        · by_cases ej : j = k
          · subst ej; rw [rd_y, hv]
          · rw [rd_n (by omega)]; exact hc j (by omega)
      rw [M_reverseClasses_17, (mvD S' hf).2.1, nI_clamp (by omega), hdk.2.1]
      refine pw_f (nI_ge hkn (by omega)) (pw_gd (fy_ix_nI (by omega) (by decide)) (pw_be (M_acq ha hA (mvM S' hf) hdk.1) ?_))
      cases hb : pu_ev (A.2.2.2.2 0) (f k)
      · exact pw_t rfl (fin 0 (by rw [hb]; rfl))
      · exact pw_f (by decide) (fin 1 (by rw [hb]; rfl))
  exact I n 0 fy_fu S (by omega) (fz_fu (by omega)) fr_r (fun k x hk => absurd hk (Nat.not_lt_zero k)) (fun j hj => absurd hj (Nat.not_lt_zero j))
theorem ez_reverseClasses {SX SM : fy_S} (v1 : Int32) (h : pu_I SX SM) : pu_O (X9_reverseClasses SX v1) (M_reverseClasses SM v1) := by
  rcases pu_slot v1 with ⟨a, ha, rfl⟩ | hb
  · obtain ⟨G, hw, hX, hM⟩ := h
    have hwA := hw.1 a (by omega)
    have hMe : pw (M_reverseClasses SM (nI a)) (fun R => ∃ n, R.2 = nI n ∧ pu_QQ (G.1 a) n ∧ fr pu_ms SM R.1) := by
      rw [M_reverseClasses]
      refine pw_be (M_slot_y ha) (pw_f (by decide) (pw_bd (M_rev (by omega) hwA (hM.1 a (by omega))) (fun S1 s1 => ?_)))
      obtain ⟨n, f, hd, h0, hf0, hfc, hfr⟩ := s1
      have hMA1 : pu_MA S1 a (G.1 a) := pu_MA_c hwA (hM.1 a (by omega)) (fun i g1 g2 => (hfr _ _ (by unfold pu_sx; omega)).1) (fun k g1 g2 => (hfr _ _ (by unfold pu_sx; omega)).1) (fun k g1 g2 => (hfr _ _ (by unfold pu_sx; omega)).1) (fun k g1 g2 => (hfr _ _ (by unfold pu_sx; omega)).1)
      refine pw_m (M_cls (by omega) hwA hMA1 hd hfc) (fun R r => ?_)
      obtain ⟨n', e1, e2, e3⟩ := r
      exact ⟨n', e1, e2, fr_t (fr_m hfr (fun i k h => by unfold pu_sx at h; unfold pu_ms; omega)) (fr_m e3 (fun i k h => by unfold pu_s3 at h; unfold pu_ms; omega))⟩
    obtain ⟨⟨SM', r⟩, e, n, hr, hQ, hfr⟩ := hMe
    dsimp only at hr hfr
    subst hr
    refine pu_both G (nI n) hw ?_ ⟨_, e, rfl, pu_M_fr hw hM hfr⟩
    rw [X9_reverseClasses]
    refine pw_be (X_ain_y ha) (pw_bd (X_load (v0 := 20) (by omega) hwA (by decide) (hX.1 a (by omega))) (fun S1 s1 => pw_bp (X_cls hwA s1.1) (fun S2 r2 h2 => pw_s ?_)))
    obtain ⟨n', e1, e2, e3⟩ := h2
    dsimp only at e1
    refine ⟨?_, pu_X_fr hw hX (fr_t (fr_m s1.2 (fun i k h => by unfold pu_xs; omega)) (fr_m e3 (fun i k h => by unfold pu_xs; omega)))⟩
    show r2 = nI n
    rw [e1, pu_QQ_u e2 hQ]
  · refine pu_same (-2) h ?_ ?_
    · rw [X9_reverseClasses]; exact pw_eq (pw_be (X_ain_n hb) (pw_s rfl))
    · rw [M_reverseClasses]; exact pw_eq (pw_be (M_slot_n hb) (pw_t rfl (pw_s rfl)))
