/-! sets of states without alternation -/
theorem pu_mi_c {P Q : Nat → Bool} (h : ∀ s, s < 64 → P s = Q s) {s : Nat} (hs : s < 64) : pu_mi P s = pu_mi Q s := by
  have hla : ∀ c, pu_la P s c = pu_la Q s c := by
    intro c
    induction c with
    | zero => rfl
    | succ c ih => rw [pu_la, pu_la, ih, h _ (Nat.lt_of_le_of_lt (Nat.sub_le _ _) hs)]
  rw [pu_mi, pu_mi, h s hs, hla]
def pu_al (A : pu_A) (b x s : Nat) : Nat → Bool
  | 0 => true
  | p + 1 => pu_al A b x s p && (!b.testBit p || pu_ev (A.2.2.2.2 (1 + 3 * p + x)) s)
def pu_aP (A : pu_A) (b x : Nat) : Nat → Bool := fun s => pu_al A b x s A.1
theorem pu_al_lw {A : pu_A} (hA : pu_wA A) {b x : Nat} (hx : x < A.2.1) : pu_lw A.1 (pu_aP A b x) := by
  intro s hs c hnc hc hb
  have L : ∀ p, p ≤ A.1 → pu_al A b x (s - 2 ^ c) p = pu_al A b x s p := by
    intro p
    induction p with
    | zero => intro _; rfl
    | succ p ih =>
      intro hp
      have hu : pu_u A (1 + 3 * p + x) := pu_u_m (by omega) hx hA.2.2.2.1
      have hn6 := hA.2.1
      have hm3 := hA.2.2.2.1
      rw [pu_al, pu_al, ih (by omega), pu_ev_lw (hA.2.2.2.2.2.2 _ (by omega) hu) s hs c hnc hc hb]
  exact L A.1 (Nat.le_refl _)
theorem X_tall {S : fy_S} {a b x : Nat} {A : pu_A} (ha : a < 7) (hA : pu_wA A) (hX : pu_XA S (38 + 41 * a) A) (hb : b < 64) (hx : x < A.2.1) : pw (X0_tableOfAll S (38 + 41 * a) (nI b) (nI x)) (fun t => ∀ s, s < 64 → lb t s = pu_aP A b x s) := by
  have hn6 : A.1 ≤ 6 := hA.2.1
  have hm3 : A.2.1 ≤ 3 := hA.2.2.2.1
  have L : ∀ d p fu t, p + d = A.1 → d < fu → (∀ s, s < 64 → lb t s = pu_al A b x s p) → pw (X0_tableOfAll_7 S fu (38 + 41 * a) (nI b) (nI x) t (nI p)) (fun t => ∀ s, s < 64 → lb t s = pu_aP A b x s) := by
    intro d
    induction d with
    | zero =>
      intro p fu t hp hfu h
      obtain ⟨fu, rfl⟩ : ∃ z, fu = z + 1 := ⟨fu - 1, by omega⟩
      have : p = A.1 := by omega
      subst this
      rw [X0_tableOfAll_7, hX.1]
      exact pw_t (nI_le (Nat.le_refl _) (by omega)) (pw_s h)
    | succ d ih =>
      intro p fu t hp hfu h
      obtain ⟨fu, rfl⟩ : ∃ z, fu = z + 1 := ⟨fu - 1, by omega⟩
      have hpn : p < A.1 := by omega
      have hu : pu_u A (1 + 3 * p + x) := pu_u_m hpn hx hm3
      rw [X0_tableOfAll_7, hX.1, pu_sb b hb p (by omega), nI_1]
      refine pw_f (nI_ge hpn (by omega)) ?_
      cases hbt : b.testBit p
      · refine pw_t rfl (pw_bl (ih (p + 1) fu t (by omega) (by omega) (fun s hs => ?_)))
        rw [pu_al, hbt, h s hs]; simp
      · refine pw_f (by decide) (pw_be (X_move ha hX.1 hX.2.1 hpn hn6 hx hm3) ?_)
        dsimp only
        refine pw_bl (pw_bl (ih (p + 1) fu _ (by omega) (by omega) (fun s hs => ?_)))
        rw [pu_al, hbt, lb_and, h s hs, (hX.2.2.2.2 _ (by omega) hu).2, lb_T _ hs]; simp
  exact L A.1 0 fy_fu (-1) (by omega) (fz_fu (by omega)) (fun s hs => by rw [lb_m1 hs]; rfl)
theorem X_enext {S : fy_S} {a x : Nat} {A : pu_A} {v : Int64} (ha : a < 7) (hA : pu_wA A) (hX : pu_XA S (38 + 41 * a) A) (hx : x < A.2.1) : pw (X0_existentialNext S (38 + 41 * a) v (nI x)) (fun w => ∀ t, t < 64 → (lb w t = true ↔ ∃ s, s < 64 ∧ lb v s = true ∧ pu_mi (pu_aP A s x) t = true)) := by
  have L : ∀ d s fu w, s + d = 64 → d < fu → (∀ t, t < 64 → (lb w t = true ↔ ∃ s', s' < s ∧ lb v s' = true ∧ pu_mi (pu_aP A s' x) t = true)) → pw (X0_existentialNext_6 S fu (38 + 41 * a) v (nI x) w (nI s)) (fun w => ∀ t, t < 64 → (lb w t = true ↔ ∃ s, s < 64 ∧ lb v s = true ∧ pu_mi (pu_aP A s x) t = true)) := by
    intro d
    induction d with
    | zero =>
      intro s fu w hs hfu hw
      obtain ⟨fu, rfl⟩ : ∃ z, fu = z + 1 := ⟨fu - 1, by omega⟩
      have : s = 64 := by omega
      subst this
      rw [X0_existentialNext_6]
      exact pw_t (by decide) (pw_s hw)
    | succ d ih =>
      intro s fu w hs hfu hw
      obtain ⟨fu, rfl⟩ : ∃ z, fu = z + 1 := ⟨fu - 1, by omega⟩
      have hs64 : s < 64 := by omega
      rw [X0_existentialNext_6, nI_1 s]
      refine pw_f (nI_ge (b := 64) (by omega) (by decide)) (pw_be (X_isIn' hs64) ?_)
      cases hb : lb v s
      · refine pw_t rfl (pw_bl (ih (s + 1) fu w (by omega) (by omega) (fun t ht => ?_)))
        rw [hw t ht]
        refine ⟨fun ⟨s', h1, h2⟩ => ⟨s', by omega, h2⟩, fun ⟨s', h1, h2, h3⟩ => ⟨s', ?_, h2, h3⟩⟩
        have : s' ≠ s := fun e => by rw [e, hb] at h2; cases h2
        omega
      · refine pw_f (by decide) (pw_bd (X_tall ha hA hX hs64 hx) (fun t0 ht0 => pw_be (X_min t0) (pw_bl (pw_bl (ih (s + 1) fu _ (by omega) (by omega) (fun t ht => ?_))))))
        rw [lb_or, Bool.or_eq_true, hw t ht, lb_mt _ ht, pu_mi_c ht0 ht]
        constructor
        · rintro (⟨s', h1, h2⟩ | h1)
          · exact ⟨s', by omega, h2⟩
          · exact ⟨s, by omega, hb, h1⟩
        · rintro ⟨s', h1, h2, h3⟩
          by_cases e : s' = s
          · subst e; exact .inr h3
          · exact .inl ⟨s', by omega, h2, h3⟩
  exact L 64 0 fy_fu 0 (by omega) (fz_fu (by omega)) (fun t ht => by
    rw [lb_0]
    exact ⟨fun h => (by cases h), fun ⟨s', h1, _⟩ => absurd h1 (Nat.not_lt_zero s')⟩)
def pu_eI (A : pu_A) (s : Nat) : Prop := s < 64 ∧ pu_mi (pu_ev (A.2.2.2.2 0)) s = true
def pu_eN (A : pu_A) (s t : Nat) : Prop := t < 64 ∧ ∃ x, x < A.2.1 ∧ pu_mi (pu_aP A s x) t = true
theorem X_ereach {S : fy_S} {a : Nat} {A : pu_A} (ha : a < 7) (hA : pu_wA A) (hX : pu_XA S (38 + 41 * a) A) : pw (X0_existentialReach S (38 + 41 * a)) (fun u => ∀ s, s < 64 → (lb u s = true ↔ pu_cl (pu_eI A) (pu_eN A) s)) := by
  have hm3 : A.2.1 ≤ 3 := hA.2.2.2.1
  have hI : ∀ s, pu_eI A s → s < 64 := fun s e => e.1
  have hN : ∀ s t, s < 64 → pu_eN A s t → t < 64 := fun s t _ e => e.1
  have L : ∀ d r fu u v, r + d = 65 → d < fu → pu_xi (pu_eI A) (pu_eN A) u v r → pw (X0_existentialReach_16 S fu (38 + 41 * a) u v (nI r)) (fun u => ∀ s, s < 64 → (lb u s = true ↔ pu_cl (pu_eI A) (pu_eN A) s)) := by
    intro d
    induction d with
    | zero =>
      intro r fu u v hr hfu hx
      have := hx.2.2.2.2.2
      have := fb_ct_le (lb u) 64
      omega
    | succ d ih =>
      intro r fu u v hr hfu hx
      obtain ⟨fu, rfl⟩ : ∃ z, fu = z + 1 := ⟨fu - 1, by omega⟩
      rw [X0_existentialReach_16]
      refine pw_f (nI_nlt (a := 64) (by omega) (by decide)) (pw_if (fun hz => pw_s (pu_xi_e hx hI hN (lb_z hz))) (fun hz => pw_bl ?_))
      have inner : ∀ e x fu' w, x + e = A.2.1 → e < fu' → (∀ t, t < 64 → (lb w t = true ↔ ∃ s, s < 64 ∧ lb v s = true ∧ ∃ x', x' < x ∧ pu_mi (pu_aP A s x') t = true)) → pw (X0_existentialReach_39 S (fun v0 v1 v3 v5 => X0_existentialReach_16 S fu v0 v1 v3 v5) fu' (38 + 41 * a) (u ||| v) v (nI r) w (nI x)) (fun u => ∀ s, s < 64 → (lb u s = true ↔ pu_cl (pu_eI A) (pu_eN A) s)) := by
        intro e
        induction e with
        | zero =>
          intro x fu' w hx' hfu' hw
          obtain ⟨fu', rfl⟩ : ∃ z, fu' = z + 1 := ⟨fu' - 1, by omega⟩
          have : x = A.2.1 := by omega
          subst this
          rw [X0_existentialReach_39, hX.2.1, nI_1 r]
          refine pw_t (nI_le (Nat.le_refl _) (by omega)) (pw_bl (pw_bl (ih (r + 1) fu _ _ (by omega) (by omega) (pu_xi_s hx (lb_nz hz) (fun t ht => ?_)))))
          rw [hw t ht]
          exact ⟨fun ⟨s, h1, h2, h3⟩ => ⟨s, h1, h2, ht, h3⟩, fun ⟨s, h1, h2, _, h3⟩ => ⟨s, h1, h2, h3⟩⟩
        | succ e ih2 =>
          intro x fu' w hx' hfu' hw
          obtain ⟨fu', rfl⟩ : ∃ z, fu' = z + 1 := ⟨fu' - 1, by omega⟩
          have hxm : x < A.2.1 := by omega
          rw [X0_existentialReach_39, hX.2.1, nI_1 x]
          refine pw_f (nI_ge hxm (by omega)) (pw_bd (X_enext ha hA hX hxm) (fun w1 hw1 => pw_bl (pw_bl (ih2 (x + 1) fu' _ (by omega) (by omega) (fun t ht => ?_)))))
          rw [lb_or, Bool.or_eq_true, hw t ht, hw1 t ht]
          constructor
          · rintro (⟨s, h1, h2, x', h3, h4⟩ | ⟨s, h1, h2, h3⟩)
            · exact ⟨s, h1, h2, x', by omega, h4⟩
            · exact ⟨s, h1, h2, x, by omega, h3⟩
          · rintro ⟨s, h1, h2, x', h3, h4⟩
            by_cases e : x' = x
            · subst e; exact .inr ⟨s, h1, h2, h4⟩
            · exact .inl ⟨s, h1, h2, x', by omega, h4⟩
      exact inner A.2.1 0 fy_fu 0 (by omega) (fz_fu (by omega)) (fun t ht => by
        rw [lb_0]
        exact ⟨fun h => (by cases h), fun ⟨s, _, _, x', h1, _⟩ => absurd h1 (Nat.not_lt_zero x')⟩)
  have hq := hX.2.2.2.2 0 (by decide) (.inl rfl)
  have e0 : S.2 (38 + 41 * a + 3) 2 = pu_T (A.2.2.2.2 0) := hq.2
  have hmi : ∀ s, s < 64 → lb (pu_mt (lb (pu_T (A.2.2.2.2 0)))) s = pu_mi (pu_ev (A.2.2.2.2 0)) s := fun s hs => by
    rw [lb_mt _ hs]; exact pu_mi_c (fun t ht => lb_T _ ht) hs
  rw [X0_existentialReach, e0]
  refine pw_be (X_min _) (L 65 0 fy_fu 0 _ (by omega) (fz_fu (by omega)) ⟨fun s _ hl => ?_, fun s hs hl => ?_, fun s hs hi => ?_, fun s t _ _ hl _ => ?_, fun s _ hl => ?_, Nat.zero_le _⟩)
  · rw [lb_0] at hl; cases hl
  · rw [hmi s hs] at hl
    exact pu_cl_i ⟨hs, hl⟩
  · right; rw [hmi s hs]; exact hi.2
  · rw [lb_0] at hl; cases hl
  · rw [lb_0] at hl; cases hl
/-! the reference -/
theorem M_wn2 {S : fy_S} {a b x : Nat} {A : pu_A} (ha : a < 7) (hA : pu_wA A) (hM : pu_MA S a A) (hb : b < 64) (hx : x < A.2.1) (h20 : S.1 0 20 = nI a) (h21 : S.1 0 21 = -1) (h22 : S.1 0 22 = nI b) (h23 : S.1 0 23 = nI x) : pu_wn S (pu_aP A b x) := by
  have hn6 : A.1 ≤ 6 := hA.2.1
  have hm3 : A.2.1 ≤ 3 := hA.2.2.2.1
  intro s hs
  have L : ∀ d p fu, p + d = A.1 → d < fu → pw (M_satisfiesWanted_25 S fu (nI s) (if pu_al A b x s p then 1 else 0) (nI p)) (fun r => r = if pu_aP A b x s then 1 else 0) := by
    intro d
    induction d with
    | zero =>
      intro p fu hp hfu
      obtain ⟨fu, rfl⟩ : ∃ z, fu = z + 1 := ⟨fu - 1, by omega⟩
      have : p = A.1 := by omega
      subst this
      rw [M_satisfiesWanted_25, h20, nI_clamp (by omega), hM.1]
      refine pw_gd (fy_ix_nI ha (by decide)) (pw_t (nI_le (Nat.le_refl _) (by omega)) (pw_gd ?_ (pw_s rfl)))
      cases pu_al A b x s A.1 <;> decide
    | succ d ih =>
      intro p fu hp hfu
      obtain ⟨fu, rfl⟩ : ∃ z, fu = z + 1 := ⟨fu - 1, by omega⟩
      have hpn : p < A.1 := by omega
      have hu : pu_u A (1 + 3 * p + x) := pu_u_m hpn hx hm3
      have ih := ih (p + 1) fu (by omega) (by omega)
      rw [M_satisfiesWanted_25, h20, nI_clamp (by omega), hM.1, h22, h23, pu_sb b hb p (by omega), nI_1 p]
      refine pw_gd (fy_ix_nI ha (by decide)) (pw_f (nI_ge hpn (by omega)) ?_)
      rw [pu_al] at ih
      cases hv : pu_al A b x s p
      · rw [hv] at ih
        exact pw_t rfl (pw_bl ih)
      · rw [hv, Bool.true_and] at ih
        refine pw_f (by decide) ?_
        cases hbt : b.testBit p
        · rw [hbt] at ih
          exact pw_t rfl (pw_bl ih)
        · rw [hbt] at ih
          refine pw_f (by decide) (pw_be M_fof (pw_be (M_sat ha (by omega) hn6 (hA.2.2.2.2.2.2 _ (by omega) hu) (hM.2.2.2.2.2 _ (by omega) hu) hs) ?_))
          cases hev : pu_ev (A.2.2.2.2 (1 + 3 * p + x)) s
          · rw [hev] at ih
            exact pw_t rfl (pw_bl ih)
          · rw [hev] at ih
            exact pw_f (by decide) (pw_bl ih)
  rw [M_satisfiesWanted, h21]
  exact pw_eq (pw_t (by decide) (L A.1 0 fy_fu (by omega) (fz_fu (by omega))))
theorem M_mods {S : fy_S} {a m n : Nat} {f : Nat → Nat} {P : Nat → Bool} (ha : a < 7) (hm : m ≤ 6) (h1 : S.1 1 a = nI m) (h20 : S.1 0 20 = nI a) (hlw : pu_lw m P) (hw : ∀ S', fr pu_sx S S' → pu_wn S' P) (hd : pu_fd S n f) : pw (M_modelsCome S) (fun S' => ∃ n' f', pu_fd S' n' f' ∧ n ≤ n' ∧ (∀ i, i < n → f' i = f i) ∧ (∀ t, t < 64 → pu_mi P t = true → ∃ i, i < n' ∧ f' i = t) ∧ (∀ i, n ≤ i → i < n' → pu_mi P (f' i) = true) ∧ fr pu_sx S S') := by
  have h64 := pu_2n hm
  have hpos := Nat.two_pow_pos m
  have L : ∀ d s fu S' n' f', s + d = 2 ^ m → d < fu → pu_fd S' n' f' → n ≤ n' → (∀ i, i < n → f' i = f i) → (∀ t, t < s → pu_mi P t = true → ∃ i, i < n' ∧ f' i = t) → (∀ i, n ≤ i → i < n' → pu_mi P (f' i) = true) → fr pu_sx S S' → pw (M_modelsCome_2 fu S' (nI s)) (fun S' => ∃ n' f', pu_fd S' n' f' ∧ n ≤ n' ∧ (∀ i, i < n → f' i = f i) ∧ (∀ t, t < 64 → pu_mi P t = true → ∃ i, i < n' ∧ f' i = t) ∧ (∀ i, n ≤ i → i < n' → pu_mi P (f' i) = true) ∧ fr pu_sx S S') := by
    intro d
    induction d with
    | zero =>
      intro s fu S' n' f' hs hfu hd hnn hff hin hnew hf
      obtain ⟨fu, rfl⟩ : ∃ z, fu = z + 1 := ⟨fu - 1, by omega⟩
      have : s = 2 ^ m := by omega
      subst this
      rw [M_modelsCome_2, (hf 0 20 (by unfold pu_sx; omega)).1, h20]
      refine pw_be (M_all ha (by rw [(hf 1 a (by unfold pu_sx; omega)).1]; exact h1) hm) (pw_t (nI_lt (by omega) (by omega)) (pw_s ⟨n', f', hd, hnn, hff, fun t ht hmt => ?_, hnew, hf⟩))
      by_cases h : t < 2 ^ m
      · exact hin t h hmt
      · rw [pu_mi_hi hm hlw ht (by omega)] at hmt; cases hmt
    | succ d ih =>
      intro s fu S' n' f' hs hfu hd hnn hff hin hnew hf
      obtain ⟨fu, rfl⟩ : ∃ z, fu = z + 1 := ⟨fu - 1, by omega⟩
      have hs64 : s < 64 := by omega
      rw [M_modelsCome_2, (hf 0 20 (by unfold pu_sx; omega)).1, h20, nI_1 s]
      refine pw_be (M_all ha (by rw [(hf 1 a (by unfold pu_sx; omega)).1]; exact h1) hm) (pw_f (nI_nlt (by omega) (by omega)) (pw_be (M_min (hw S' hf) hs64) ?_))
      cases hmi : pu_mi P s
      · refine pw_t rfl (pw_bl (ih (s + 1) fu S' n' f' (by omega) (by omega) hd hnn hff (fun t ht hmt => ?_) hnew hf))
        by_cases e : t = s
        · rw [e, hmi] at hmt; cases hmt
        · exact hin t (by omega) hmt
      · refine pw_f (by decide) (pw_bp (M_come hd hs64) (fun S1 r1 h1 => pw_bl ?_))
        obtain ⟨n2, f2, hd2, hn2, hf2, hi2, hw2, hfr2⟩ := h1
        refine ih (s + 1) fu S1 n2 f2 (by omega) (by omega) hd2 (by omega) (fun i hi => by rw [hf2 i (by omega)]; exact hff i hi) (fun t ht hmt => ?_) (fun i h1 h2 => ?_) (fr_t hf hfr2)
        · by_cases e : t = s
          · rw [e]; exact hi2
          · obtain ⟨i, hi, ei⟩ := hin t (by omega) hmt
            exact ⟨i, by omega, by rw [hf2 i hi]; exact ei⟩
        · by_cases e : i < n'
          · rw [hf2 i e]; exact hnew i h1 e
          · rw [hw2 i (by omega) h2]; exact hmi
  rw [M_modelsCome]
  exact L (2 ^ m) 0 fy_fu S n f (by omega) (fz_fu (by omega)) hd (Nat.le_refl _) (fun _ _ => rfl) (fun t ht => absurd ht (Nat.not_lt_zero t)) (fun i h1 h2 => by omega) fr_r
def pu_se (i k : Nat) : Prop := (i = 0 ∧ (k = 34 ∨ (20 ≤ k ∧ k ≤ 23))) ∨ (19 ≤ i ∧ i ≤ 21)
theorem pu_MA_se {S S' : fy_S} {a : Nat} {A : pu_A} (hA : pu_wA A) (hM : pu_MA S a A) (f : fr pu_se S S') : pu_MA S' a A := pu_MA_c hA hM (fun i g1 g2 => (f _ _ (by unfold pu_se; omega)).1) (fun k g1 g2 => (f _ _ (by unfold pu_se; omega)).1) (fun k g1 g2 => (f _ _ (by unfold pu_se; omega)).1) (fun k g1 g2 => (f _ _ (by unfold pu_se; omega)).1)
theorem fr_sx_se {S S' : fy_S} (f : fr pu_sx S S') : fr pu_se S S' := fr_m f (fun i k h => by unfold pu_sx at h; unfold pu_se; omega)
/-- the minimal models of the initial formula come -/
theorem M_mod0 {S : fy_S} {a n : Nat} {A : pu_A} {f : Nat → Nat} (ha : a < 7) (hA : pu_wA A) (hM : pu_MA S a A) (hd : pu_fd S n f) : pw (fy_bd (M_wants S (nI a) (0 : Int32) (0 : Int32) (0 : Int32)) fun S19 => M_modelsCome S19) (fun S' => ∃ n' f', pu_fd S' n' f' ∧ n ≤ n' ∧ (∀ i, i < n → f' i = f i) ∧ (∀ t, t < 64 → pu_mi (pu_ev (A.2.2.2.2 0)) t = true → ∃ i, i < n' ∧ f' i = t) ∧ (∀ i, n ≤ i → i < n' → pu_mi (pu_ev (A.2.2.2.2 0)) (f' i) = true) ∧ fr pu_se S S') := by
  have hu : pu_u A 0 := .inl rfl
  have hq := hA.2.2.2.2.2.2 0 (by decide) hu
  refine pw_bd M_wants_e (fun S1 s1 => ?_)
  obtain ⟨w20, w21, w22, w23, f1⟩ := s1
  have f1' : fr pu_se S S1 := fr_m f1 (fun i k h => by unfold pu_se; omega)
  have hM1 := pu_MA_se hA hM f1'
  refine pw_m (M_mods (P := pu_ev (A.2.2.2.2 0)) ha hA.2.1 hM1.1 w20 (pu_ev_lw hq) (fun S' f => ?_) (pu_fd_c hd (f1 _ _ (by omega)).1 (fun i k h => (f1 _ _ (by omega)).1))) (fun S2 s2 => ?_)
  · exact M_wn1 ha (j := 0) (by decide) hA.2.1 hq ((pu_MA_se hA hM1 (fr_sx_se f)).2.2.2.2.2 0 (by decide) hu) (by rw [(f _ _ (by unfold pu_sx; omega)).1]; exact w20) (by rw [(f _ _ (by unfold pu_sx; omega)).1]; exact w21)
  · obtain ⟨n', f', g1, g2, g3, g4, g5, g6⟩ := s2
    exact ⟨n', f', g1, g2, g3, g4, g5, fr_t f1' (fr_sx_se g6)⟩
theorem M_mod1 {S : fy_S} {a n b x : Nat} {A : pu_A} {f : Nat → Nat} (ha : a < 7) (hA : pu_wA A) (hM : pu_MA S a A) (hb : b < 64) (hx : x < A.2.1) (hd : pu_fd S n f) : pw (fy_bd (M_wants S (nI a) (-1 : Int32) (nI b) (nI x)) fun S19 => M_modelsCome S19) (fun S' => ∃ n' f', pu_fd S' n' f' ∧ n ≤ n' ∧ (∀ i, i < n → f' i = f i) ∧ (∀ t, t < 64 → pu_mi (pu_aP A b x) t = true → ∃ i, i < n' ∧ f' i = t) ∧ (∀ i, n ≤ i → i < n' → pu_mi (pu_aP A b x) (f' i) = true) ∧ fr (fun i k => pu_se i k ∧ i ≠ 21) S S') := by
  refine pw_bd M_wants_e (fun S1 s1 => ?_)
  obtain ⟨w20, w21, w22, w23, f1⟩ := s1
  have f1' : fr pu_se S S1 := fr_m f1 (fun i k h => by unfold pu_se; omega)
  have hM1 := pu_MA_se hA hM f1'
  refine pw_m (M_mods (P := pu_aP A b x) ha hA.2.1 hM1.1 w20 (pu_al_lw hA hx) (fun S' f => ?_) (pu_fd_c hd (f1 _ _ (by omega)).1 (fun i k h => (f1 _ _ (by omega)).1))) (fun S2 s2 => ?_)
  · exact M_wn2 ha hA (pu_MA_se hA hM1 (fr_sx_se f)) hb hx (by rw [(f _ _ (by unfold pu_sx; omega)).1]; exact w20) (by rw [(f _ _ (by unfold pu_sx; omega)).1]; exact w21) (by rw [(f _ _ (by unfold pu_sx; omega)).1]; exact w22) (by rw [(f _ _ (by unfold pu_sx; omega)).1]; exact w23)
  · obtain ⟨n', f', g1, g2, g3, g4, g5, g6⟩ := s2
    exact ⟨n', f', g1, g2, g3, g4, g5, fr_t (fr_m f1 (fun i k h => by unfold pu_se; omega)) (fr_m g6 (fun i k h => by unfold pu_sx at h; unfold pu_se; omega))⟩
theorem pu_bda {α β γ : Type} {x : Option α} {g : α → Option β} {k : β → Option γ} : (fy_bd x fun a => fy_bd (g a) k) = fy_bd (fy_bd x g) k := by cases x <;> rfl
theorem M_ereach {S : fy_S} {a : Nat} {A : pu_A} (ha : a < 7) (hA : pu_wA A) (hM : pu_MA S a A) : pw (fy_bd (M_forgets S) fun S11 => fy_bd (M_wants S11 (nI a) (0 : Int32) (0 : Int32) (0 : Int32)) fun S19 => fy_bd (M_modelsCome S19) fun S23 => M_existentialStates_28 fy_fu S23 (nI a) (0 : Int32)) (fun R => ∃ n f, pu_fd R.1 n f ∧ R.2 = nI n ∧ (∀ s, pu_cl (pu_eI A) (pu_eN A) s ↔ ∃ i, i < n ∧ f i = s) ∧ fr pu_se S R.1) := by
  have hm3 : A.2.1 ≤ 3 := hA.2.2.2.1
  have L : ∀ d k fu S' n f, k + d = 65 → d < fu → fr pu_se S S' → pu_fd S' n f → (∀ t, pu_eI A t → ∃ i, i < n ∧ f i = t) → (∀ i, i < n → pu_cl (pu_eI A) (pu_eN A) (f i)) → k ≤ n → (∀ i, i < k → ∀ t, pu_eN A (f i) t → ∃ j, j < n ∧ f j = t) → pw (M_existentialStates_28 fu S' (nI a) (nI k)) (fun R => ∃ n f, pu_fd R.1 n f ∧ R.2 = nI n ∧ (∀ s, pu_cl (pu_eI A) (pu_eN A) s ↔ ∃ i, i < n ∧ f i = s) ∧ fr pu_se S R.1) := by
    intro d
    induction d with
    | zero =>
      intro k fu S' n f hk hfu hf hd h0 hr hkn
      have := hd.1
      omega
    | succ d ih =>
      intro k fu S' n f hk hfu hf hd h0 hr hkn hcl
      obtain ⟨fu, rfl⟩ : ∃ z, fu = z + 1 := ⟨fu - 1, by omega⟩
      have hn64 := hd.1
      rw [M_existentialStates_28, hd.2.1]
      by_cases hlast : k = n
      · refine pw_t (nI_le (by omega) (by omega)) (pw_s ⟨n, f, hd, rfl, fun s => ⟨fun hc => ?_, fun ⟨i, hi, e⟩ => by rw [← e]; exact hr i hi⟩, hf⟩)
        exact hc (fun s => ∃ i, i < n ∧ f i = s) h0 (fun t u ⟨i, hi, e⟩ hn => hcl i (by omega) u (by rw [e]; exact hn))
      · refine pw_f (nI_ge (by omega) (by omega)) ?_
        have inner : ∀ e x fu' S' n f, x + e = A.2.1 → e < fu' → fr pu_se S S' → pu_fd S' n f → k < n → (∀ t, pu_eI A t → ∃ i, i < n ∧ f i = t) → (∀ i, i < n → pu_cl (pu_eI A) (pu_eN A) (f i)) → (∀ i, i < k → ∀ t, pu_eN A (f i) t → ∃ j, j < n ∧ f j = t) → (∀ x', x' < x → ∀ t, t < 64 → pu_mi (pu_aP A (f k) x') t = true → ∃ j, j < n ∧ f j = t) → pw (M_existentialStates_38 (fun S v1 v2 => M_existentialStates_28 fu S v1 v2) fu' S' (nI a) (nI k) (nI x)) (fun R => ∃ n f, pu_fd R.1 n f ∧ R.2 = nI n ∧ (∀ s, pu_cl (pu_eI A) (pu_eN A) s ↔ ∃ i, i < n ∧ f i = s) ∧ fr pu_se S R.1) := by
          intro e
          induction e with
          | zero =>
            intro x fu' S' n f hx hfu' hf hd hkn h0 hr hcl hcx
            obtain ⟨fu', rfl⟩ : ∃ z, fu' = z + 1 := ⟨fu' - 1, by omega⟩
            have : x = A.2.1 := by omega
            subst this
            rw [M_existentialStates_38, nI_clamp (by omega), (pu_MA_se hA hM hf).2.1, nI_1 k]
            refine pw_gd (fy_ix_nI ha (by decide)) (pw_t (nI_le (Nat.le_refl _) (by omega)) (pw_bl (ih (k + 1) fu S' n f (by omega) (by omega) hf hd h0 hr (by omega) (fun i hi t ht => ?_))))
            by_cases ei : i = k
            · subst ei
              obtain ⟨ht1, x, hx, e⟩ := ht
              exact hcx x hx t ht1 e
            · exact hcl i (by omega) t ht
          | succ e ih2 =>
            intro x fu' S' n f hx hfu' hf hd hkn h0 hr hcl hcx
            obtain ⟨fu', rfl⟩ : ∃ z, fu' = z + 1 := ⟨fu' - 1, by omega⟩
            have hxm : x < A.2.1 := by omega
            have hn64 := hd.1
            have hk := hd.2.2.1 k hkn
            rw [M_existentialStates_38, nI_clamp (by omega), (pu_MA_se hA hM hf).2.1, nI_1 x, nI_clamp (by omega), hk.2.1, pu_bda]
            refine pw_gd (fy_ix_nI ha (by decide)) (pw_f (nI_ge hxm (by omega)) (pw_gd (fy_ix_nI (by omega) (by decide)) (pw_bd (M_mod1 ha hA (pu_MA_se hA hM hf) hk.1 hxm hd) (fun S1 h1 => pw_bl ?_))))
            obtain ⟨n', f', hd', hnn, hff, hin, hnew, hfr⟩ := h1
            refine ih2 (x + 1) fu' S1 n' f' (by omega) (by omega) (fr_t hf (fr_m hfr (fun i k h => h.1))) hd' (by omega) (fun t ht => ?_) (fun i hi => ?_) (fun i hi t ht => ?_) (fun x' hx' t ht hm => ?_)
            · obtain ⟨j, hj, ej⟩ := h0 t ht
              exact ⟨j, by omega, by rw [hff j hj]; exact ej⟩
            · by_cases ei : i < n
              · rw [hff i ei]; exact hr i ei
              · exact pu_cl_n (hr k hkn) ⟨(hd'.2.2.1 i hi).1, x, hxm, hnew i (by omega) hi⟩
            · rw [hff i (by omega)] at ht
              obtain ⟨j, hj, ej⟩ := hcl i hi t ht
              exact ⟨j, by omega, by rw [hff j hj]; exact ej⟩
            · rw [hff k hkn] at hm
              by_cases ex : x' = x
              · subst ex; exact hin t ht hm
              · obtain ⟨j, hj, ej⟩ := hcx x' (by omega) t ht hm
                exact ⟨j, by omega, by rw [hff j hj]; exact ej⟩
        exact inner A.2.1 0 fy_fu S' n f (by omega) (fz_fu (by omega)) hf hd (by omega) h0 hr hcl (fun x' hx' => absurd hx' (Nat.not_lt_zero x'))
  refine pw_bd M_forget (fun S1 s1 => ?_)
  rw [pu_bda]
  refine pw_bd (M_mod0 ha hA (pu_MA_se hA hM (fr_sx_se s1.2)) s1.1) (fun S2 s2 => ?_)
  obtain ⟨n', f', hd', hnn, hff, hin, hnew, hfr⟩ := s2
  exact L 65 0 fy_fu S2 n' f' (by omega) (fz_fu (by omega)) (fr_t (fr_sx_se s1.2) hfr) hd' (fun t ht => hin t ht.1 ht.2) (fun i hi => pu_cl_i ⟨(hd'.2.2.1 i hi).1, hnew i (Nat.zero_le _) hi⟩) (Nat.zero_le _) (fun j hj => absurd hj (Nat.not_lt_zero j))
theorem ez_existentialStates {SX SM : fy_S} (v1 : Int32) (h : pu_I SX SM) : ∃ SM' r, X9_existentialStates SX v1 = some r ∧ M_existentialStates SM v1 = some (SM', r) ∧ pu_I SX SM' := by
  have hI := h
  rcases pu_slot v1 with ⟨a, ha, rfl⟩ | hb
  · obtain ⟨G, hw, hX, hM⟩ := h
    have hwA := hw.1 a (by omega)
    obtain ⟨⟨SM', r⟩, e, n, f, hd, hr, hc, hfr⟩ := M_ereach (by omega) hwA (hM.1 a (by omega))
    dsimp only at hr
    subst hr
    refine ⟨SM', nI n, ?_, ?_, G, hw, hX, pu_M_fr hw hM (fr_m hfr (fun i k h => by unfold pu_se at h; unfold pu_ms; omega))⟩
    · rw [X9_existentialStates]
      refine pw_eq (pw_be (X_ain_y ha) (pw_bd (X_ereach (by omega) hwA (hX.1 a (by omega))) (fun u hu => pw_be (X_bc u) (pw_s ?_))))
      show nI _ = nI n
      rw [fb_ct_im (f := f) n (lb u) (fun i hi => (hd.2.2.1 i hi).1) (pu_fd_i hd) (fun s hs => by rw [hu s hs]; exact hc s)]
    · rw [M_existentialStates]
      exact pw_eq (pw_be (M_slot_y ha) (pw_f (by decide) ⟨_, e, rfl⟩))
  · refine ⟨SM, -2, ?_, ?_, hI⟩
    · rw [X9_existentialStates]; exact pw_eq (pw_be (X_ain_n hb) (pw_s rfl))
    · rw [M_existentialStates]; exact pw_eq (pw_be (M_slot_n hb) (pw_t rfl (pw_s rfl)))
