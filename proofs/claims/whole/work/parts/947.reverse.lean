/-! the reverse automaton: the class loads it, the reference walks it -/
def pu_rI (A : pu_A) (s : Nat) : Prop := s = A.2.2.1
def pu_rN (A : pu_A) (s t : Nat) : Prop := ∃ x, x < A.2.1 ∧ t = pu_sp1 A x s
def pu_rc (A : pu_A) (s : Nat) : Prop := pu_cl (pu_rI A) (pu_rN A) s
theorem pu_rc_lt {A : pu_A} (hA : pu_wA A) {s : Nat} (h : pu_rc A s) : s < 2 ^ A.1 := h (fun t => t < 2 ^ A.1) (fun t ht => by rw [ht]; exact hA.2.2.2.2.1) (fun t u _ ⟨x, _, e⟩ => by rw [e]; exact (pu_sp1_lt hA x t).1)
def pu_ld (S : fy_S) (v0 : Nat) (A : pu_A) : Prop := S.1 v0 5 = nI A.2.1 ∧ S.1 v0 6 = nI A.2.2.1 ∧ S.2 v0 7 = pu_T (A.2.2.2.2 0) ∧ ∀ x s, x < A.2.1 → s < 2 ^ A.1 → S.1 (v0 + 1) (x * 64 + s) = nI (pu_sp1 A x s)
theorem pu_ld_c {S S' : fy_S} {v0 : Nat} {A : pu_A} (h : pu_ld S v0 A) (hc : ∀ i k, (i = v0 ∨ i = v0 + 1) → S'.1 i k = S.1 i k ∧ S'.2 i k = S.2 i k) : pu_ld S' v0 A := ⟨((hc _ _ (.inl rfl)).1).trans h.1, ((hc _ _ (.inl rfl)).1).trans h.2.1, ((hc _ _ (.inl rfl)).2).trans h.2.2.1, fun x s hx hs => ((hc _ _ (.inr rfl)).1).trans (h.2.2.2 x s hx hs)⟩
theorem pu_63 : ∀ s, s < 64 → (nI s &&& (63 : Int32)) = nI s := by decide +kernel
theorem X_load {S : fy_S} {a v0 : Nat} {A : pu_A} (ha : a < 7) (hA : pu_wA A) (hv : v0 + 1 < 38) (hX : pu_XA S (38 + 41 * a) A) : pw (X7_load S v0 (38 + 41 * a)) (fun S' => pu_ld S' v0 A ∧ fr (fun i _ => i = v0 ∨ i = v0 + 1) S S') := by
  have hn6 : A.1 ≤ 6 := hA.2.1
  have hm3 : A.2.1 ≤ 3 := hA.2.2.2.1
  have h64 := pu_2n hn6
  have hF : A.2.2.1 < 64 := Nat.lt_of_lt_of_le hA.2.2.2.2.1 h64
  have L : ∀ d x fu S', x + d = A.2.1 → d < fu → S'.1 v0 5 = nI A.2.1 → S'.1 v0 6 = nI A.2.2.1 → S'.2 v0 7 = pu_T (A.2.2.2.2 0) → (∀ x' s, x' < x → s < 2 ^ A.1 → S'.1 (v0 + 1) (x' * 64 + s) = nI (pu_sp1 A x' s)) → fr (fun i _ => i = v0 ∨ i = v0 + 1) S S' → pw (X7_load_39 fu S' v0 (38 + 41 * a) (nI (2 ^ A.1)) (nI x)) (fun S' => pu_ld S' v0 A ∧ fr (fun i _ => i = v0 ∨ i = v0 + 1) S S') := by
    intro d
    induction d with
    | zero =>
      intro x fu S' hx hfu h5 h6 h7 hs hf
      obtain ⟨fu, rfl⟩ : ∃ z, fu = z + 1 := ⟨fu - 1, by omega⟩
      have : x = A.2.1 := by omega
      subst this
      rw [X7_load_39, h5]
      exact pw_t (nI_le (Nat.le_refl _) (by omega)) (pw_s ⟨⟨h5, h6, h7, hs⟩, hf⟩)
    | succ d ih =>
      intro x fu S' hx hfu h5 h6 h7 hs hf
      obtain ⟨fu, rfl⟩ : ∃ z, fu = z + 1 := ⟨fu - 1, by omega⟩
      have hxm : x < A.2.1 := by omega
      rw [X7_load_39, h5]
      refine pw_f (nI_ge hxm (by omega)) ?_
      have inner : ∀ e s fu' S', s + e = 2 ^ A.1 → e < fu' → S'.1 v0 5 = nI A.2.1 → S'.1 v0 6 = nI A.2.2.1 → S'.2 v0 7 = pu_T (A.2.2.2.2 0) → (∀ x' s', x' < x → s' < 2 ^ A.1 → S'.1 (v0 + 1) (x' * 64 + s') = nI (pu_sp1 A x' s')) → (∀ s', s' < s → S'.1 (v0 + 1) (x * 64 + s') = nI (pu_sp1 A x s')) → fr (fun i _ => i = v0 ∨ i = v0 + 1) S S' → pw (X7_load_50 (fun S v0 v1 v2 v3 => X7_load_39 fu S v0 v1 v2 v3) fu' S' v0 (38 + 41 * a) (nI (2 ^ A.1)) (nI x) (nI s)) (fun S' => pu_ld S' v0 A ∧ fr (fun i _ => i = v0 ∨ i = v0 + 1) S S') := by
        intro e
        induction e with
        | zero =>
          intro s fu' S' hse hfu' h5 h6 h7 hs hs2 hf
          obtain ⟨fu', rfl⟩ : ∃ z, fu' = z + 1 := ⟨fu' - 1, by omega⟩
          have : s = 2 ^ A.1 := by omega
          subst this
          rw [X7_load_50, nI_1]
          refine pw_t (nI_le (Nat.le_refl _) (by omega)) (pw_bl (ih (x + 1) fu S' (by omega) (by omega) h5 h6 h7 (fun x' s' hx' hs' => ?_) hf))
          by_cases ex : x' = x
          · rw [ex]; exact hs2 s' hs'
          · exact hs x' s' (by omega) hs'
        | succ e ih2 =>
          intro s fu' S' hse hfu' h5 h6 h7 hs hs2 hf
          obtain ⟨fu', rfl⟩ : ∃ z, fu' = z + 1 := ⟨fu' - 1, by omega⟩
          have hX' := pu_XA_c hX (fun i k g1 g2 => hf i k (by omega))
          rw [X7_load_50, nI_1 s, show nI x * (64 : Int32) = nI (x * 64) from pk_mul x 64, nI_add, nI_clamp (by omega)]
          refine pw_f (nI_ge (by omega) (by omega)) (pw_f (nI_ge (b := 64) (by omega) (by decide)) (pw_be (X_step ha hA hX' hxm (by omega)) (pw_gd (fy_ix_nI (by omega) (by decide)) (pw_bl (pw_bl ?_)))))
          refine ih2 (s + 1) fu' _ (by omega) (by omega) (by rw [rd_n (by omega)]; exact h5) (by rw [rd_n (by omega)]; exact h6) (by rw [rd_I2]; exact h7) (fun x' s' hx' hs' => ?_) (fun s' hs' => ?_) (fr_I hf (.inr rfl))
          · have : x' * 64 + s' ≠ x * 64 + s := by omega
            rw [rd_n (by omega)]; exact hs x' s' hx' hs'
          · by_cases es : s' = s
            · rw [es, rd_y]
            · rw [rd_n (by omega)]; exact hs2 s' (by omega)
      exact inner (2 ^ A.1) 0 fy_fu S' (by omega) (fz_fu (by omega)) h5 h6 h7 hs (fun s' hs' => absurd hs' (Nat.not_lt_zero s')) hf
  rw [X7_load]
  refine pw_bl (pw_bl (pw_bl (pw_bl ?_)))
  have r1 : (fy_sL (fy_sI (fy_sI S v0 5 (S.1 (38 + 41 * a) 4)) v0 6 (((fy_sI S v0 5 (S.1 (38 + 41 * a) 4)).1 (38 + 41 * a) 5) &&& (63 : Int32))) v0 7 ((fy_sI (fy_sI S v0 5 (S.1 (38 + 41 * a) 4)) v0 6 (((fy_sI S v0 5 (S.1 (38 + 41 * a) 4)).1 (38 + 41 * a) 5) &&& (63 : Int32))).2 (38 + 41 * a + 3) 2)).1 (38 + 41 * a) 3 = nI A.1 := by
    rw [rd_L1, rd_n (by omega), rd_n (by omega)]; exact hX.1
  rw [r1, pu_sh1 _ (by omega)]
  refine L A.2.1 0 fy_fu _ (by omega) (fz_fu (by omega)) ?_ ?_ ?_ (fun x' s hx' => absurd hx' (Nat.not_lt_zero x')) (fr_L (fr_I (fr_I fr_r (.inl rfl)) (.inl rfl)) (.inl rfl))
  · rw [rd_L1, rd_n (by omega), rd_y]; exact hX.2.1
  · rw [rd_L1, rd_y, rd_n (by omega), hX.2.2.1, pu_63 _ hF]
  · rw [rd_Ly, rd_I2, rd_I2]; exact (hX.2.2.2.2 0 (by decide) (.inl rfl)).2
theorem X_st {S : fy_S} {v0 x s : Nat} {A : pu_A} (hA : pu_wA A) (h : pu_ld S v0 A) (hx : x < A.2.1) (hs : s < 2 ^ A.1) : X7_step S v0 (nI s) (nI x) = some (nI (pu_sp1 A x s)) := by
  have h64 := pu_2n hA.2.1
  have hm3 : A.2.1 ≤ 3 := hA.2.2.2.1
  rw [X7_step, show nI x * (64 : Int32) = nI (x * 64) from pk_mul x 64, nI_add]
  refine pw_eq (pw_bl (pw_f (nI_pos (by omega)) (pw_f (show ¬ nI 192 ≤ _ from nI_ge (b := 192) (by omega) (by decide)) (pw_gd (fy_ix_nI (by omega) (by decide)) (pw_s ?_)))))
  rw [nI_clamp (by omega), h.2.2.2 x s hx hs, pu_63 _ (pu_sp1_lt hA x s).2]
theorem X_stA {S : fy_S} {v0 : Nat} {A : pu_A} {v : Int64} (hA : pu_wA A) (h : pu_ld S v0 A) (hv : ∀ s, s < 64 → lb v s = true → s < 2 ^ A.1) : pw (X7_stepAll S v0 v) (fun w => ∀ t, t < 64 → (lb w t = true ↔ ∃ s, s < 64 ∧ lb v s = true ∧ pu_rN A s t)) := by
  have h64 := pu_2n hA.2.1
  have hm3 : A.2.1 ≤ 3 := hA.2.2.2.1
  have L : ∀ d s fu w, s + d = 64 → d < fu → (∀ t, t < 64 → (lb w t = true ↔ ∃ s', s' < s ∧ lb v s' = true ∧ pu_rN A s' t)) → pw (X7_stepAll_5 S fu v0 v w (nI s)) (fun w => ∀ t, t < 64 → (lb w t = true ↔ ∃ s, s < 64 ∧ lb v s = true ∧ pu_rN A s t)) := by
    intro d
    induction d with
    | zero =>
      intro s fu w hs hfu hw
      obtain ⟨fu, rfl⟩ : ∃ z, fu = z + 1 := ⟨fu - 1, by omega⟩
      have : s = 64 := by omega
      subst this
      rw [X7_stepAll_5]
      exact pw_t (by decide) (pw_s hw)
    | succ d ih =>
      intro s fu w hs hfu hw
      obtain ⟨fu, rfl⟩ : ∃ z, fu = z + 1 := ⟨fu - 1, by omega⟩
      have hs64 : s < 64 := by omega
      rw [X7_stepAll_5, nI_1]
      refine pw_f (nI_ge (b := 64) (by omega) (by decide)) (pw_be (X_isIn' hs64) ?_)
      cases hb : lb v s
      · refine pw_t rfl (pw_bl (ih (s + 1) fu w (by omega) (by omega) (fun t ht => ?_)))
        rw [hw t ht]
        refine ⟨fun ⟨s', h1, h2⟩ => ⟨s', by omega, h2⟩, fun ⟨s', h1, h2, h3⟩ => ⟨s', ?_, h2, h3⟩⟩
        have : s' ≠ s := fun e => by rw [e, hb] at h2; cases h2
        omega
      · have hsn := hv s hs64 hb
        refine pw_f (by decide) ?_
        have inner : ∀ e x fu' w, x + e = A.2.1 → e < fu' → (∀ t, t < 64 → (lb w t = true ↔ (∃ s', s' < s ∧ lb v s' = true ∧ pu_rN A s' t) ∨ ∃ x', x' < x ∧ t = pu_sp1 A x' s)) → pw (X7_stepAll_24 S (fun v0 v1 v3 v5 => X7_stepAll_5 S fu v0 v1 v3 v5) fu' v0 v w (nI s) (nI x)) (fun w => ∀ t, t < 64 → (lb w t = true ↔ ∃ s, s < 64 ∧ lb v s = true ∧ pu_rN A s t)) := by
          intro e
          induction e with
          | zero =>
            intro x fu' w hx hfu' hw
            obtain ⟨fu', rfl⟩ : ∃ z, fu' = z + 1 := ⟨fu' - 1, by omega⟩
            have : x = A.2.1 := by omega
            subst this
            rw [X7_stepAll_24, h.1, nI_1]
            refine pw_t (nI_le (Nat.le_refl _) (by omega)) (pw_bl (ih (s + 1) fu w (by omega) (by omega) (fun t ht => ?_)))
            rw [hw t ht]
            constructor
            · rintro (⟨s', h1, h2⟩ | ⟨x', h1, h2⟩)
              · exact ⟨s', by omega, h2⟩
              · exact ⟨s, by omega, hb, x', h1, h2⟩
            · rintro ⟨s', h1, h2, h3⟩
              by_cases e : s' = s
              · subst e; exact .inr h3
              · exact .inl ⟨s', by omega, h2, h3⟩
          | succ e ih2 =>
            intro x fu' w hx hfu' hw
            obtain ⟨fu', rfl⟩ : ∃ z, fu' = z + 1 := ⟨fu' - 1, by omega⟩
            have hxm : x < A.2.1 := by omega
            have hlt := (pu_sp1_lt hA x s).2
            rw [X7_stepAll_24, h.1, nI_1 x]
            refine pw_f (nI_ge hxm (by omega)) (pw_be (X_st hA h hxm hsn) (pw_bl (pw_bl (ih2 (x + 1) fu' _ (by omega) (by omega) (fun t ht => ?_)))))
            rw [lb_or, lb_1 hlt ht, Bool.or_eq_true, hw t ht, decide_eq_true_eq]
            constructor
            · rintro ((h1 | ⟨x', h1, h2⟩) | h1)
              · exact .inl h1
              · exact .inr ⟨x', by omega, h2⟩
              · exact .inr ⟨x, by omega, h1.symm⟩
            · rintro (h1 | ⟨x', h1, h2⟩)
              · exact .inl (.inl h1)
              · by_cases e : x' = x
                · subst e; exact .inr h2.symm
                · exact .inl (.inr ⟨x', by omega, h2⟩)
        exact inner A.2.1 0 fy_fu w (by omega) (fz_fu (by omega)) (fun t ht => by
          rw [hw t ht]
          refine ⟨fun h => .inl h, fun h => h.resolve_right (fun ⟨x', h1, _⟩ => absurd h1 (Nat.not_lt_zero x'))⟩)
  exact L 64 0 fy_fu 0 (by omega) (fz_fu (by omega)) (fun t ht => by
    rw [lb_0]
    refine ⟨fun h => (by cases h), fun ⟨s', h1, _⟩ => absurd h1 (Nat.not_lt_zero s')⟩)
theorem X_reach {S : fy_S} {v0 : Nat} {A : pu_A} (hA : pu_wA A) (h : pu_ld S v0 A) : pw (X7_reachable S v0) (fun u => ∀ s, s < 64 → (lb u s = true ↔ pu_rc A s)) := by
  have h64 := pu_2n hA.2.1
  have hF : A.2.2.1 < 64 := Nat.lt_of_lt_of_le hA.2.2.2.2.1 h64
  have hI : ∀ s, pu_rI A s → s < 64 := fun s e => by rw [e]; exact hF
  have hN : ∀ s t, s < 64 → pu_rN A s t → t < 64 := fun s t _ ⟨x, _, e⟩ => by rw [e]; exact (pu_sp1_lt hA x s).2
  have L : ∀ d r fu u v, r + d = 65 → d < fu → pu_xi (pu_rI A) (pu_rN A) u v r → pw (X7_reachable_12 S fu v0 u v (nI r)) (fun u => ∀ s, s < 64 → (lb u s = true ↔ pu_rc A s)) := by
    intro d
    induction d with
    | zero =>
      intro r fu u v hr hfu hx
      have := hx.2.2.2.2.2
      have := fb_ct_le (lb u) 64
      omega
    | succ d ih =>
      intro r fu u v hr hfu hx
      obtain ⟨fu, rfl⟩ : ∃ z, fu = z + 1 := ⟨fu - 1, by omega⟩
      rw [X7_reachable_12, nI_1]
      refine pw_f (nI_nlt (a := 64) (by omega) (by decide)) (pw_if (fun hz => pw_s (pu_xi_e hx hI hN (lb_z hz))) (fun hz => pw_bl ?_))
      refine pw_bd (X_stA hA h (fun s hs hl => pu_rc_lt hA (hx.2.1 s hs hl))) (fun w hw => pw_bl (pw_bl ?_))
      exact ih (r + 1) fu _ _ (by omega) (by omega) (pu_xi_s hx (lb_nz hz) hw)
  rw [X7_reachable, h.2.1]
  refine pw_bl (L 65 0 fy_fu 0 _ (by omega) (fz_fu (by omega)) ⟨fun s _ hl => ?_, fun s hs hl => ?_, fun s hs hi => ?_, fun s t _ _ hl _ => ?_, fun s _ hl => ?_, Nat.zero_le _⟩)
  · rw [lb_0] at hl; cases hl
  · rw [lb_1 hF hs, decide_eq_true_eq] at hl
    exact pu_cl_i hl.symm
  · right
    rw [lb_1 hF hs, decide_eq_true_eq]
    exact hi.symm
  · rw [lb_0] at hl; cases hl
  · rw [lb_0] at hl; cases hl
/-! the reference -/
def pu_fc (A : pu_A) (n : Nat) (f : Nat → Nat) : Prop := ∀ s, pu_rc A s ↔ ∃ i, i < n ∧ f i = s
theorem M_rev {S : fy_S} {a : Nat} {A : pu_A} (ha : a < 7) (hA : pu_wA A) (hM : pu_MA S a A) : pw (M_findReverse S (nI a)) (fun S' => ∃ n f, pu_fd S' n f ∧ 0 < n ∧ f 0 = A.2.2.1 ∧ pu_fc A n f ∧ fr pu_sx S S') := by
  have h64 := pu_2n hA.2.1
  have hm3 : A.2.1 ≤ 3 := hA.2.2.2.1
  have hF : A.2.2.1 < 64 := Nat.lt_of_lt_of_le hA.2.2.2.2.1 h64
  have mvM : ∀ S', fr pu_sx S S' → pu_MA S' a A := fun S' f => pu_MA_c hA hM (fun i g1 g2 => (f _ _ (by unfold pu_sx; omega)).1) (fun k g1 g2 => (f _ _ (by unfold pu_sx; omega)).1) (fun k g1 g2 => (f _ _ (by unfold pu_sx; omega)).1) (fun k g1 g2 => (f _ _ (by unfold pu_sx; omega)).1)
  have L : ∀ d k fu S' n f, k + d = 65 → d < fu → fr pu_sx S S' → pu_fd S' n f → 0 < n → f 0 = A.2.2.1 → (∀ i, i < n → pu_rc A (f i)) → k ≤ n → (∀ i, i < k → ∀ t, pu_rN A (f i) t → ∃ j, j < n ∧ f j = t) → pw (M_findReverse_17 fu S' (nI a) (nI k)) (fun S' => ∃ n f, pu_fd S' n f ∧ 0 < n ∧ f 0 = A.2.2.1 ∧ pu_fc A n f ∧ fr pu_sx S S') := by
    intro d
    induction d with
    | zero =>
      intro k fu S' n f hk hfu hf hd h0 hf0 hr hkn
      have := hd.1
      omega
    | succ d ih =>
      intro k fu S' n f hk hfu hf hd h0 hf0 hr hkn hcl
      obtain ⟨fu, rfl⟩ : ∃ z, fu = z + 1 := ⟨fu - 1, by omega⟩
      have hn64 := hd.1
      rw [M_findReverse_17, hd.2.1]
      by_cases hlast : k = n
      · refine pw_t (nI_le (by omega) (by omega)) (pw_s ⟨n, f, hd, h0, hf0, fun s => ⟨fun hc => ?_, fun ⟨i, hi, e⟩ => by rw [← e]; exact hr i hi⟩, hf⟩)
        exact hc (fun s => ∃ i, i < n ∧ f i = s) (fun t ht => ⟨0, h0, by rw [hf0, ht]⟩) (fun t u ⟨i, hi, e⟩ hn => hcl i (by omega) u (by rw [e]; exact hn))
      · refine pw_f (nI_ge (by omega) (by omega)) ?_
        have inner : ∀ e x fu' S' n f, x + e = A.2.1 → e < fu' → fr pu_sx S S' → pu_fd S' n f → k < n → 0 < n → f 0 = A.2.2.1 → (∀ i, i < n → pu_rc A (f i)) → (∀ i, i < k → ∀ t, pu_rN A (f i) t → ∃ j, j < n ∧ f j = t) → (∀ x', x' < x → ∃ j, j < n ∧ f j = pu_sp1 A x' (f k)) → pw (M_findReverse_27 (fun S v1 v2 => M_findReverse_17 fu S v1 v2) fu' S' (nI a) (nI k) (nI x)) (fun S' => ∃ n f, pu_fd S' n f ∧ 0 < n ∧ f 0 = A.2.2.1 ∧ pu_fc A n f ∧ fr pu_sx S S') := by
          intro e
          induction e with
          | zero =>
            intro x fu' S' n f hx hfu' hf hd hkn h0 hf0 hr hcl hcx
            obtain ⟨fu', rfl⟩ : ∃ z, fu' = z + 1 := ⟨fu' - 1, by omega⟩
            have : x = A.2.1 := by omega
            subst this
            rw [M_findReverse_27, nI_clamp (by omega), (mvM S' hf).2.1, nI_1]
            refine pw_gd (fy_ix_nI ha (by decide)) (pw_t (nI_le (Nat.le_refl _) (by omega)) (pw_bl (ih (k + 1) fu S' n f (by omega) (by omega) hf hd h0 hf0 hr (by omega) (fun i hi t ht => ?_))))
            by_cases ei : i = k
            · subst ei
              obtain ⟨x, hx, e⟩ := ht
              rw [e]; exact hcx x hx
            · exact hcl i (by omega) t ht
          | succ e ih2 =>
            intro x fu' S' n f hx hfu' hf hd hkn h0 hf0 hr hcl hcx
            obtain ⟨fu', rfl⟩ : ∃ z, fu' = z + 1 := ⟨fu' - 1, by omega⟩
            have hxm : x < A.2.1 := by omega
            have hn64 := hd.1
            have hk := hd.2.2.1 k hkn
            rw [M_findReverse_27, nI_clamp (by omega), (mvM S' hf).2.1, nI_1 x, nI_clamp (by omega), hk.2.1]
            refine pw_gd (fy_ix_nI ha (by decide)) (pw_f (nI_ge hxm (by omega)) (pw_gd (fy_ix_nI (by omega) (by decide)) (pw_be (M_step ha hA (mvM S' hf) hxm hk.1) ?_)))
            refine pw_bp (M_come hd (pu_sp1_lt hA x (f k)).2) (fun S1 r1 h1 => pw_bl ?_)
            obtain ⟨n', f', hd', hnn, hff, hin, hnew, hfr⟩ := h1
            have hrk : pu_rc A (pu_sp1 A x (f k)) := pu_cl_n (hr k hkn) ⟨x, hxm, rfl⟩
            refine ih2 (x + 1) fu' S1 n' f' (by omega) (by omega) (fr_t hf hfr) hd' (by omega) (by omega) (by rw [hff 0 h0]; exact hf0) (fun i hi => ?_) (fun i hi t ht => ?_) (fun x' hx' => ?_)
            · by_cases ei : i < n
              · rw [hff i ei]; exact hr i ei
              · rw [hnew i (by omega) hi]; exact hrk
            · rw [hff i (by omega)] at ht
              obtain ⟨j, hj, ej⟩ := hcl i hi t ht
              exact ⟨j, by omega, by rw [hff j hj]; exact ej⟩
            · rw [hff k hkn]
              by_cases ex : x' = x
              · subst ex; exact hin
              · obtain ⟨j, hj, ej⟩ := hcx x' (by omega)
                exact ⟨j, by omega, by rw [hff j hj]; exact ej⟩
        exact inner A.2.1 0 fy_fu S' n f (by omega) (fz_fu (by omega)) hf hd (by omega) h0 hf0 hr hcl (fun x' hx' => absurd hx' (Nat.not_lt_zero x'))
  rw [M_findReverse]
  refine pw_bd M_forget (fun S1 s1 => pw_gd (fy_ix_nI ha (by decide)) ?_)
  rw [nI_clamp (by omega), (mvM S1 s1.2).2.2.1]
  refine pw_bp (M_come s1.1 hF) (fun S2 r2 h2 => ?_)
  obtain ⟨n', f', hd', hnn, hff, ⟨i, hi, ei⟩, hnew, hfr⟩ := h2
  refine L 65 0 fy_fu S2 n' f' (by omega) (fz_fu (by omega)) (fr_t s1.2 hfr) hd' (by omega) (hnew 0 (by omega) (by omega)) (fun j hj => ?_) (Nat.zero_le _) (fun j hj => absurd hj (Nat.not_lt_zero j))
  rw [hnew j (Nat.zero_le _) hj]
  exact pu_cl_i rfl
theorem ez_reverseStates {SX SM : fy_S} (v1 : Int32) (h : pu_I SX SM) : pu_O (X9_reverseStates SX v1) (M_reverseStates SM v1) := by
  rcases pu_slot v1 with ⟨a, ha, rfl⟩ | hb
  · obtain ⟨G, hw, hX, hM⟩ := h
    have hwA := hw.1 a (by omega)
    obtain ⟨S', e, n, f, hd, h0, hf0, hfc, hfr⟩ := M_rev (by omega) hwA (hM.1 a (by omega))
    refine pu_both G (nI n) hw ?_ ?_
    · rw [X9_reverseStates]
      refine pw_be (X_ain_y ha) (pw_bd (X_load (v0 := 20) (by omega) hwA (by decide) (hX.1 a (by omega))) (fun S1 s1 => pw_bd (X_reach hwA s1.1) (fun u hu => pw_be (X_bc u) (pw_s ⟨?_, pu_X_fr hw hX (fr_m s1.2 (fun i k h => by unfold pu_xs; omega))⟩))))
      show nI _ = nI n
      rw [fb_ct_im (f := f) n (lb u) (fun i hi => (hd.2.2.1 i hi).1) (pu_fd_i hd) (fun s hs => by rw [hu s hs]; exact hfc s)]
    · rw [M_reverseStates]
      exact pw_be (M_slot_y ha) (pw_f (by decide) (pw_be e (pw_s ⟨hd.2.1, pu_M_fr hw hM (fr_m hfr (fun i k h => by unfold pu_sx at h; unfold pu_ms; omega))⟩)))
  · refine pu_same (-2) h ?_ ?_
    · rw [X9_reverseStates]; exact pw_eq (pw_be (X_ain_n hb) (pw_s rfl))
    · rw [M_reverseStates]; exact pw_eq (pw_be (M_slot_n hb) (pw_t rfl (pw_s rfl)))
