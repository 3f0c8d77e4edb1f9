/-! the reference's search through pairs, level by level -/
def pu_sl (a w : List Nat) : Prop := a.length < w.length ∨ (a.length = w.length ∧ pu_ll a w)
def pu_mb (S : fy_S) (A B : pu_A) (n : Nat) (Q : Nat → Nat) (W : Nat → List Nat) : Prop := n ≤ 4096 ∧ (∀ k, k < n → pu_pv A B (Q k) ∧ S.1 25 k = nI (Q k) ∧ pu_wv A.2.1 (W k) ∧ pu_rg A B (pu_pb A B) (W k) = Q k ∧ (k = 0 → W k = [] ∧ S.1 26 (Q k) = nI 0) ∧ (0 < k → ∃ j x, j < k ∧ x < A.2.1 ∧ W k = x :: W j ∧ S.1 26 (Q k) = nI (4 * Q j + x))) ∧ (∀ y, y < 4096 → (∀ k, k < n → Q k ≠ y) → S.1 26 y = -1) ∧ ∀ i j, i < n → j < n → Q i = Q j → i = j
def pu_mc (A B : pu_A) (o : Bool) (b e L : Nat) (Q : Nat → Nat) (W : Nat → List Nat) : Prop := (∀ k, k < b → (W k).length < L) ∧ (∀ k, b ≤ k → k < e → (W k).length = L) ∧ (∀ i j, b ≤ i → i < j → j < e → pu_ll (W i) (W j)) ∧ (∀ w, pu_wv A.2.1 w → w.length ≤ L → ∃ k, k < e ∧ Q k = pu_rg A B (pu_pb A B) w ∧ pu_sl (W k) w) ∧ (∀ k, k < b → pu_df A B o (Q k) = false) ∧ ∀ k x, k < b → x < A.2.1 → ∃ i, i < e ∧ Q i = pu_p2 A B (Q k) x ∧ (W i).length ≤ (W k).length + 1
def pu_m5 (i k : Nat) : Prop := i = 25 ∨ i = 26
theorem M_fp {S : fy_S} {a b' : Nat} {A B : pu_A} (o : Bool) (ha : a < 7) (hb' : b' < 7) (hA : pu_wA A) (hB : pu_wA B) (hm : A.2.1 = B.2.1) (hMA : pu_MA S a A) (hMB : pu_MA S b' B) : pw (M_findPair S (nI a) (nI b') (if o then 1 else 0)) (fun R => fr pu_m5 S R.1 ∧ ((R.2 = -1 ∧ ∀ w, pu_wv A.2.1 w → pu_df A B o (pu_rg A B (pu_pb A B) w) = false) ∨ ∃ n Q W k, pu_mb R.1 A B n Q W ∧ k < n ∧ R.2 = nI k ∧ pu_bw_ A B o (W k))) := by
  have hm3 : A.2.1 ≤ 3 := hA.2.2.2.1
  have hFA : A.2.2.1 < 64 := Nat.lt_of_lt_of_le hA.2.2.2.2.1 (pu_2n hA.2.1)
  have hFB : B.2.2.1 < 64 := Nat.lt_of_lt_of_le hB.2.2.2.2.1 (pu_2n hB.2.1)
  have mvA : ∀ S', fr pu_m5 S S' → pu_MA S' a A := fun S' f => pu_MA_c hA hMA (fun i g1 g2 => (f _ _ (by unfold pu_m5; omega)).1) (fun k g1 g2 => (f _ _ (by unfold pu_m5; omega)).1) (fun k g1 g2 => (f _ _ (by unfold pu_m5; omega)).1) (fun k g1 g2 => (f _ _ (by unfold pu_m5; omega)).1)
  have mvB : ∀ S', fr pu_m5 S S' → pu_MA S' b' B := fun S' f => pu_MA_c hB hMB (fun i g1 g2 => (f _ _ (by unfold pu_m5; omega)).1) (fun k g1 g2 => (f _ _ (by unfold pu_m5; omega)).1) (fun k g1 g2 => (f _ _ (by unfold pu_m5; omega)).1) (fun k g1 g2 => (f _ _ (by unfold pu_m5; omega)).1)
  have M : ∀ g fu S' b e L Q W, 4097 ≤ b + g → g < fu → fr pu_m5 S S' → pu_mb S' A B e Q W → pu_mc A B o b e L Q W → 0 < e → b ≤ e → pw (M_findPair_65 fu S' (nI a) (nI b') (if o then 1 else 0) (nI b) (nI e)) (fun R => fr pu_m5 S R.1 ∧ ((R.2 = -1 ∧ ∀ w, pu_wv A.2.1 w → pu_df A B o (pu_rg A B (pu_pb A B) w) = false) ∨ ∃ n Q W k, pu_mb R.1 A B n Q W ∧ k < n ∧ R.2 = nI k ∧ pu_bw_ A B o (W k))) := by
    intro g
    induction g with
    | zero =>
      intro fu S' b e L Q W hg hfu hf hmb hmc h0 hbe
      have := hmb.1
      omega
    | succ g ih =>
      intro fu S' b e L Q W hg hfu hf hmb hmc h0 hbe
      obtain ⟨fu, rfl⟩ : ∃ z, fu = z + 1 := ⟨fu - 1, by omega⟩
      have he4 := hmb.1
      obtain ⟨c1, c2, c3, c4, c5, c6⟩ := hmc
      rw [M_findPair_65]
      by_cases hlast : b = e
      · subst hlast
        refine pw_t (nI_le (Nat.le_refl _) (by omega)) (pw_s ⟨hf, .inl ⟨rfl, fun w hv => ?_⟩⟩)
        have cov : ∀ w, pu_wv A.2.1 w → ∃ k, k < b ∧ Q k = pu_rg A B (pu_pb A B) w := by
          intro w
          induction w with
          | nil =>
            intro _
            obtain ⟨k, hk, ek, _⟩ := c4 [] (fun x hx => (by cases hx)) (Nat.zero_le _)
            exact ⟨k, hk, ek⟩
          | cons x w ihw =>
            intro hv
            obtain ⟨k, hk, ek⟩ := ihw (fun y hy => hv y (by simp [hy]))
            obtain ⟨i, hi, ei, _⟩ := c6 k x hk (hv x (by simp))
            exact ⟨i, hi, by rw [ei, ek, pu_rg]⟩
        obtain ⟨k, hk, ek⟩ := cov w hv
        rw [← ek]; exact c5 k hk
      · have hbe : b < e := by omega
        refine pw_f (nI_ge hbe (by omega)) ?_
        generalize hk65 : (fun S v1 v2 v3 v4 v5 => M_findPair_65 fu S v1 v2 v3 v4 v5) = k65
        have nxt : ∀ S' n Q W, fr pu_m5 S S' → pu_mb S' A B n Q W → pu_mc A B o e n (L + 1) Q W → e ≤ n → pw (k65 S' (nI a) (nI b') (if o then 1 else 0) (nI e) (nI n)) (fun R => fr pu_m5 S R.1 ∧ ((R.2 = -1 ∧ ∀ w, pu_wv A.2.1 w → pu_df A B o (pu_rg A B (pu_pb A B) w) = false) ∨ ∃ n Q W k, pu_mb R.1 A B n Q W ∧ k < n ∧ R.2 = nI k ∧ pu_bw_ A B o (W k))) := by
          intro S1 n Q1 W1 hf1 hmb1 hmc1 hen
          rw [← hk65]
          exact ih fu S1 e n (L + 1) Q1 W1 (by omega) (by omega) hf1 hmb1 hmc1 (by omega) hen
        -- new pairs, letter by letter
        have E : (∀ k, b ≤ k → k < e → pu_df A B o (Q k) = false) → ∀ r x fu' S' n Q' W', x + r = A.2.1 → r < fu' → fr pu_m5 S S' → pu_mb S' A B n Q' W' → e ≤ n → (∀ k, k < e → Q' k = Q k ∧ W' k = W k) → (∀ i, e ≤ i → i < n → ∃ xi ki, W' i = xi :: W ki ∧ b ≤ ki ∧ ki < e ∧ xi < x) → (∀ i j, e ≤ i → i < j → j < n → pu_ll (W' i) (W' j)) → (∀ x' k', x' < x → b ≤ k' → k' < e → ∃ i, i < n ∧ Q' i = pu_p2 A B (Q k') x' ∧ (i < e ∨ (e ≤ i ∧ pu_ll (W' i) (x' :: W k')))) → pw (M_findPair_149 k65 fu' S' (nI a) (nI b') (if o then 1 else 0) (nI b) (nI e) (nI n) (nI x)) (fun R => fr pu_m5 S R.1 ∧ ((R.2 = -1 ∧ ∀ w, pu_wv A.2.1 w → pu_df A B o (pu_rg A B (pu_pb A B) w) = false) ∨ ∃ n Q W k, pu_mb R.1 A B n Q W ∧ k < n ∧ R.2 = nI k ∧ pu_bw_ A B o (W k))) := by
          intro hnoD r
          induction r with
          | zero =>
            intro x fu' S1 n Q' W' hxr hfu' hf1 hmb1 hen hsame hnew hord hproc
            obtain ⟨fu', rfl⟩ : ∃ z, fu' = z + 1 := ⟨fu' - 1, by omega⟩
            have : x = A.2.1 := by omega
            subst this
            rw [M_findPair_149, nI_clamp (by omega), (mvA S1 hf1).2.1]
            refine pw_gd (fy_ix_nI ha (by decide)) (pw_t (nI_le (Nat.le_refl _) (by omega)) (nxt S1 n Q' W' hf1 hmb1 ⟨fun k hk => ?_, fun k h1 h2 => ?_, hord, fun w hv hl => ?_, fun k hk => ?_, fun k x hk hx => ?_⟩ hen))
            · rw [(hsame k hk).2]
              by_cases hkb : k < b
              · have := c1 k hkb
                omega
              · rw [c2 k (by omega) hk]; omega
            · obtain ⟨xi, ki, e1, e2, e3, _⟩ := hnew k h1 h2
              rw [e1, List.length_cons, c2 ki e2 e3]
            · by_cases hlL : w.length ≤ L
              · obtain ⟨k, hk, ek, sk⟩ := c4 w hv hlL
                exact ⟨k, by omega, by rw [(hsame k hk).1]; exact ek, by rw [(hsame k hk).2]; exact sk⟩
              · cases w with
                | nil => exact absurd (Nat.zero_le _) hlL
                | cons x w =>
                  have hl' : w.length = L := by simp at hl hlL; omega
                  have hxm : x < A.2.1 := hv x (by simp)
                  obtain ⟨k, hk, ek, sk⟩ := c4 w (fun y hy => hv y (by simp [hy])) (by omega)
                  by_cases hkb : k < b
                  · obtain ⟨i, hi, ei, li⟩ := c6 k x hkb hxm
                    have := c1 k hkb
                    refine ⟨i, by omega, by rw [(hsame i hi).1, ei, ek, pu_rg], .inl ?_⟩
                    rw [(hsame i hi).2, List.length_cons]; omega
                  · have hLk := c2 k (by omega) hk
                    have sk2 : pu_ll (W k) w := by
                      rcases sk with s | ⟨_, s⟩
                      · omega
                      · exact s
                    obtain ⟨i, hi, ei, hi2⟩ := hproc x k hxm (by omega) hk
                    refine ⟨i, hi, by rw [ei, ek, pu_rg], ?_⟩
                    rcases hi2 with h | ⟨h, hll⟩
                    · left
                      rw [(hsame i h).2, List.length_cons]
                      by_cases hib : i < b
                      · have := c1 i hib
                        omega
                      · have := c2 i (by omega) h
                        omega
                    · right
                      obtain ⟨xi, ki, e1, e2, e3, _⟩ := hnew i h hi
                      refine ⟨by rw [e1, List.length_cons, List.length_cons, c2 ki e2 e3, hl'], pu_ll_t hll (.inr ⟨rfl, sk2⟩)⟩
            · rw [(hsame k hk).1]
              by_cases hkb : k < b
              · exact c5 k hkb
              · exact hnoD k (by omega) hk
            · rw [(hsame k hk).1, (hsame k hk).2]
              by_cases hkb : k < b
              · obtain ⟨i, hi, ei, li⟩ := c6 k x hkb hx
                exact ⟨i, by omega, by rw [(hsame i hi).1]; exact ei, by rw [(hsame i hi).2]; exact li⟩
              · obtain ⟨i, hi, ei, hi2⟩ := hproc x k hx (by omega) hk
                refine ⟨i, hi, ei, ?_⟩
                rw [c2 k (by omega) hk]
                rcases hi2 with h | ⟨h, _⟩
                · rw [(hsame i h).2]
                  by_cases hib : i < b
                  · have := c1 i hib
                    omega
                  · have := c2 i (by omega) h
                    omega
                · obtain ⟨xi, ki, e1, e2, e3, _⟩ := hnew i h hi
                  rw [e1, List.length_cons, c2 ki e2 e3]
                  exact Nat.le_refl _
          | succ r ih2 =>
            intro x fu' S1 n Q' W' hxr hfu' hf1 hmb1 hen hsame hnew hord hproc
            obtain ⟨fu', rfl⟩ : ∃ z, fu' = z + 1 := ⟨fu' - 1, by omega⟩
            have hxm : x < A.2.1 := by omega
            rw [M_findPair_149, nI_clamp (by omega), (mvA S1 hf1).2.1]
            refine pw_gd (fy_ix_nI ha (by decide)) (pw_f (nI_ge hxm (by omega)) ?_)
            have K : ∀ s k fu'' S' n Q' W', k + s = e → s < fu'' → b ≤ k → fr pu_m5 S S' → pu_mb S' A B n Q' W' → e ≤ n → (∀ k, k < e → Q' k = Q k ∧ W' k = W k) → (∀ i, e ≤ i → i < n → ∃ xi ki, W' i = xi :: W ki ∧ b ≤ ki ∧ ki < e ∧ (xi < x ∨ (xi = x ∧ ki < k))) → (∀ i j, e ≤ i → i < j → j < n → pu_ll (W' i) (W' j)) → (∀ x' k', (x' < x ∨ (x' = x ∧ k' < k)) → b ≤ k' → k' < e → ∃ i, i < n ∧ Q' i = pu_p2 A B (Q k') x' ∧ (i < e ∨ (e ≤ i ∧ pu_ll (W' i) (x' :: W k')))) → pw (M_findPair_164 k65 (fun S v1 v2 v3 v4 v5 v6 v7 => M_findPair_149 k65 fu' S v1 v2 v3 v4 v5 v6 v7) fu'' S' (nI a) (nI b') (if o then 1 else 0) (nI b) (nI e) (nI n) (nI x) (nI k)) (fun R => fr pu_m5 S R.1 ∧ ((R.2 = -1 ∧ ∀ w, pu_wv A.2.1 w → pu_df A B o (pu_rg A B (pu_pb A B) w) = false) ∨ ∃ n Q W k, pu_mb R.1 A B n Q W ∧ k < n ∧ R.2 = nI k ∧ pu_bw_ A B o (W k))) := by
              intro s
              induction s with
              | zero =>
                intro k fu'' S2 n Q' W' hks hfu'' hbk hf2 hmb2 hen hsame hnew hord hproc
                obtain ⟨fu'', rfl⟩ : ∃ z, fu'' = z + 1 := ⟨fu'' - 1, by omega⟩
                have : k = e := by omega
                subst this
                rw [M_findPair_164, nI_1 x]
                refine pw_t (nI_le (Nat.le_refl _) (by omega)) (pw_bl (ih2 (x + 1) fu' S2 n Q' W' (by omega) (by omega) hf2 hmb2 hen hsame (fun i h1 h2 => ?_) hord (fun x' k' hx' h1 h2 => ?_)))
                · obtain ⟨xi, ki, e1, e2, e3, e4⟩ := hnew i h1 h2
                  exact ⟨xi, ki, e1, e2, e3, by omega⟩
                · exact hproc x' k' (by omega) h1 h2
              | succ s ih3 =>
                intro k fu'' S2 n Q' W' hks hfu'' hbk hf2 hmb2 hen hsame hnew hord hproc
                obtain ⟨fu'', rfl⟩ : ∃ z, fu'' = z + 1 := ⟨fu'' - 1, by omega⟩
                have hke : k < e := by omega
                have hn4 := hmb2.1
                have hkn := hmb2.2.1 k (by omega)
                rw [(hsame k hke).1, (hsame k hke).2] at hkn
                have hlt := pu_pv_lt hA hkn.1
                have hpv := pu_pv_s hA hB (Q k) x
                have hplt := pu_pv_lt hA hpv
                have e1 : ((64 : Int32) * nI (pu_sp1 A x (Q k / 64))) + nI (pu_sp1 B x (Q k % 64)) = nI (pu_p2 A B (Q k) x) := by
                  rw [show (64 : Int32) * nI (pu_sp1 A x (Q k / 64)) = nI (64 * pu_sp1 A x (Q k / 64)) from pk_mul 64 _, nI_add]
                  rfl
                rw [M_findPair_164, nI_clamp (by omega), hkn.2.1, (pu_dm (Q k) hlt).2, (pu_dm (Q k) hlt).1, nI_1 k]
                refine pw_f (nI_ge hke (by omega)) (pw_gd (fy_ix_nI (by omega) (by decide)) (pw_be (M_step ha hA (mvA S2 hf2) hxm (by omega)) (pw_gd (fy_ix_nI (by omega) (by decide)) (pw_be (M_step hb' hB (mvB S2 hf2) (by omega) (by omega)) (pw_bl ?_)))))
                rw [e1, nI_clamp (by omega)]
                refine pw_gd (fy_ix_nI hplt (by decide)) ?_
                by_cases hin : ∃ i, i < n ∧ Q' i = pu_p2 A B (Q k) x
                · obtain ⟨i, hi, ei⟩ := hin
                  have hin26 := hmb2.2.1 i hi
                  have pos : ¬ S2.1 26 (pu_p2 A B (Q k) x) < 0 := by
                    rw [← ei]
                    by_cases i0 : i = 0
                    · rw [(hin26.2.2.2.2.1 i0).2]; decide
                    · obtain ⟨j, xj, hj, hxj, _, e26⟩ := hin26.2.2.2.2.2 (by omega)
                      have := pu_pv_lt hA (hmb2.2.1 j (by omega)).1
                      rw [e26]; exact nI_pos (by omega)
                  refine pw_f pos (pw_bl (ih3 (k + 1) fu'' S2 n Q' W' (by omega) (by omega) (by omega) hf2 hmb2 hen hsame (fun i h1 h2 => ?_) hord (fun x' k' hx' h1 h2 => ?_)))
                  · obtain ⟨xi, ki, g1, g2, g3, g4⟩ := hnew i h1 h2
                    exact ⟨xi, ki, g1, g2, g3, by omega⟩
                  · by_cases hnow : x' = x ∧ k' = k
                    · obtain ⟨rfl, rfl⟩ := hnow
                      refine ⟨i, hi, ei, ?_⟩
                      by_cases hie : i < e
                      · exact .inl hie
                      · right
                        obtain ⟨xi, ki, g1, g2, g3, g4⟩ := hnew i (by omega) hi
                        refine ⟨by omega, ?_⟩
                        rw [g1]
                        rcases g4 with g4 | ⟨g4, g5⟩
                        · exact .inl g4
                        · exact .inr ⟨g4, c3 ki k' g2 g5 hke⟩
                    · exact hproc x' k' (by omega) h1 h2
                · have hno : ∀ i, i < n → Q' i ≠ pu_p2 A B (Q k) x := fun i hi ei => hin ⟨i, hi, ei⟩
                  have hn1 : n + 1 ≤ 4096 := by
                    refine fb_holes 4096 (n + 1) (fun i => if i < n then Q' i else pu_p2 A B (Q k) x) (fun i hi => ?_) (fun i j hij hj ee => ?_)
                    · by_cases e : i < n
                      · simp only [if_pos e]; exact pu_pv_lt hA (hmb2.2.1 i e).1
                      · simp only [if_neg e]; exact hplt
                    · simp only [if_pos (show i < n by omega)] at ee
                      by_cases ej : j < n
                      · simp only [if_pos ej] at ee
                        have := hmb2.2.2.2 i j (by omega) ej ee
                        omega
                      · simp only [if_neg ej] at ee
                        exact hno i (by omega) ee
                  rw [hmb2.2.2.1 _ hplt hno]
                  refine pw_t (by decide) (pw_gd (fy_ix_nI (by omega) (by decide)) (pw_gd (fy_ix_nI hplt (by decide)) (pw_bl (pw_gd (fy_ix_nI (by omega) (by decide)) (pw_bl (pw_bl (pw_bl ?_)))))))
                  rw [show (4 : Int32) * nI (Q k) = nI (4 * Q k) from pk_mul 4 _, nI_add, nI_1 n, nI_clamp (by omega)]
                  refine ih3 (k + 1) fu'' _ (n + 1) (fun i => if i < n then Q' i else pu_p2 A B (Q k) x) (fun i => if i < n then W' i else x :: W k) (by omega) (by omega) (by omega) (fr_I (fr_I hf2 (by unfold pu_m5; omega)) (by unfold pu_m5; omega)) ⟨hn1, fun i hi => ?_, fun y hy hn => ?_, fun i j hi hj ee => ?_⟩ (by omega) (fun k' hk' => ?_) (fun i h1 h2 => ?_) (fun i j h1 h2 h3 => ?_) (fun x' k' hx' h1 h2 => ?_)
                  · by_cases ei : i < n
                    · simp only [if_pos ei]
                      obtain ⟨g1, g2, g3, g4, g5, g6⟩ := hmb2.2.1 i ei
                      have hne := hno i ei
                      refine ⟨g1, by rw [rd_n (by omega), rd_n (by omega)]; exact g2, g3, g4, fun h => ?_, fun h => ?_⟩
                      · refine ⟨(g5 h).1, by rw [rd_n (by omega), rd_n (by omega)]; exact (g5 h).2⟩
                      · obtain ⟨j, xj, hj, hxj, ew, e26⟩ := g6 h
                        refine ⟨j, xj, hj, hxj, ?_, ?_⟩
                        · rw [if_pos (show j < n by omega)]; exact ew
                        · rw [if_pos (show j < n by omega), rd_n (by omega), rd_n (by omega)]; exact e26
                    · have : i = n := by omega
                      subst this
                      simp only [if_neg ei]
                      refine ⟨hpv, rd_y, fun y hy => (List.mem_cons.mp hy).elim (fun e => by rw [e]; exact hxm) (hkn.2.2.1 y), by rw [pu_rg, hkn.2.2.2.1], fun h => by omega, fun h => ⟨k, x, by omega, hxm, ?_, ?_⟩⟩
                      · rw [if_pos (show k < i by omega), (hsame k hke).2]
                      · rw [if_pos (show k < i by omega), (hsame k hke).1, rd_n (by omega), rd_y]
                  · have hyp : y ≠ pu_p2 A B (Q k) x := fun ey => by
                      have := hn n (by omega)
                      simp only [if_neg (Nat.lt_irrefl n)] at this
                      exact this ey.symm
                    rw [rd_n (by omega), rd_n (by omega)]
                    exact hmb2.2.2.1 y hy (fun i hi => by have := hn i (by omega); simp only [if_pos hi] at this; exact this)
                  · by_cases ei : i < n
                    · by_cases ej : j < n
                      · simp only [if_pos ei, if_pos ej] at ee
                        exact hmb2.2.2.2 i j ei ej ee
                      · simp only [if_pos ei, if_neg ej] at ee
                        exact absurd ee (hno i ei)
                    · by_cases ej : j < n
                      · simp only [if_neg ei, if_pos ej] at ee
                        exact absurd ee.symm (hno j ej)
                      · omega
                  · simp only [if_pos (show k' < n by omega)]; exact hsame k' hk'
                  · by_cases ei : i < n
                    · simp only [if_pos ei]
                      obtain ⟨xi, ki, g1, g2, g3, g4⟩ := hnew i h1 ei
                      exact ⟨xi, ki, g1, g2, g3, by omega⟩
                    · simp only [if_neg ei]
                      exact ⟨x, k, rfl, hbk, hke, by omega⟩
                  · by_cases ej : j < n
                    · simp only [if_pos ej, if_pos (show i < n by omega)]
                      exact hord i j h1 h2 ej
                    · simp only [if_neg ej, if_pos (show i < n by omega)]
                      obtain ⟨xi, ki, g1, g2, g3, g4⟩ := hnew i h1 (by omega)
                      rw [g1]
                      rcases g4 with g4 | ⟨g4, g5⟩
                      · exact .inl g4
                      · exact .inr ⟨g4, c3 ki k g2 g5 hke⟩
                  · by_cases hnow : x' = x ∧ k' = k
                    · obtain ⟨rfl, rfl⟩ := hnow
                      refine ⟨n, by omega, if_neg (Nat.lt_irrefl n), .inr ⟨hen, ?_⟩⟩
                      simp only [if_neg (Nat.lt_irrefl n)]
                      exact pu_ll_r _
                    · obtain ⟨i, hi, ei, hi2⟩ := hproc x' k' (by omega) h1 h2
                      exact ⟨i, by omega, by simp only [if_pos hi]; exact ei, by simp only [if_pos hi]; exact hi2⟩
            exact K (e - b) b fy_fu S1 n Q' W' (by omega) (fz_fu (by omega)) (Nat.le_refl _) hf1 hmb1 hen hsame (fun i h1 h2 => by
              obtain ⟨xi, ki, g1, g2, g3, g4⟩ := hnew i h1 h2
              exact ⟨xi, ki, g1, g2, g3, .inl g4⟩) hord (fun x' k' hx' h1 h2 => hproc x' k' (by omega) h1 h2)
        -- looking for a difference
        have D : ∀ s k fu', k + s = e → s < fu' → b ≤ k → (∀ k', b ≤ k' → k' < k → pu_df A B o (Q k') = false) → pw (M_findPair_76 k65 fu' S' (nI a) (nI b') (if o then 1 else 0) (nI b) (nI e) (nI k)) (fun R => fr pu_m5 S R.1 ∧ ((R.2 = -1 ∧ ∀ w, pu_wv A.2.1 w → pu_df A B o (pu_rg A B (pu_pb A B) w) = false) ∨ ∃ n Q W k, pu_mb R.1 A B n Q W ∧ k < n ∧ R.2 = nI k ∧ pu_bw_ A B o (W k))) := by
          intro s
          induction s with
          | zero =>
            intro k fu' hks hfu' hbk hno
            obtain ⟨fu', rfl⟩ : ∃ z, fu' = z + 1 := ⟨fu' - 1, by omega⟩
            have : k = e := by omega
            subst this
            rw [M_findPair_76]
            exact pw_t (nI_le (Nat.le_refl _) (by omega)) (E hno A.2.1 0 fy_fu S' k Q W (by omega) (fz_fu (by omega)) hf hmb (Nat.le_refl _) (fun _ _ => ⟨rfl, rfl⟩) (fun i h1 h2 => by omega) (fun i j h1 h2 h3 => by omega) (fun x' k' hx' => absurd hx' (Nat.not_lt_zero x')))
          | succ s ih2 =>
            intro k fu' hks hfu' hbk hno
            obtain ⟨fu', rfl⟩ : ∃ z, fu' = z + 1 := ⟨fu' - 1, by omega⟩
            have hke : k < e := by omega
            have hkn := hmb.2.1 k hke
            have hlt := pu_pv_lt hA hkn.1
            have skip : pu_df A B o (Q k) = false → pw (M_findPair_76 k65 fu' S' (nI a) (nI b') (if o then 1 else 0) (nI b) (nI e) (nI (k + 1))) (fun R => fr pu_m5 S R.1 ∧ ((R.2 = -1 ∧ ∀ w, pu_wv A.2.1 w → pu_df A B o (pu_rg A B (pu_pb A B) w) = false) ∨ ∃ n Q W k, pu_mb R.1 A B n Q W ∧ k < n ∧ R.2 = nI k ∧ pu_bw_ A B o (W k))) := fun hd => ih2 (k + 1) fu' (by omega) (by omega) (by omega) (fun k' h1 h2 => by
              by_cases ek : k' = k
              · rw [ek]; exact hd
              · exact hno k' h1 (by omega))
            have stop : pu_df A B o (Q k) = true → fr pu_m5 S S' ∧ (((S', nI k).2 = -1 ∧ ∀ w, pu_wv A.2.1 w → pu_df A B o (pu_rg A B (pu_pb A B) w) = false) ∨ ∃ n Q W k', pu_mb S' A B n Q W ∧ k' < n ∧ (S', nI k).2 = nI k' ∧ pu_bw_ A B o (W k')) := by
              intro hd
              refine ⟨hf, .inr ⟨e, Q, W, k, hmb, hke, rfl, hkn.2.2.1, by rw [hkn.2.2.2.1]; exact hd, fun w' hv' hd' => ?_⟩⟩
              rw [c2 k hbk hke]
              by_cases hl : w'.length ≤ L
              · obtain ⟨k', hk', ek', sk'⟩ := c4 w' hv' hl
                rw [← ek'] at hd'
                have hb1 : ¬ k' < b := fun hh => by rw [c5 k' hh] at hd'; cases hd'
                have hk1 : ¬ k' < k := fun hh => by rw [hno k' (by omega) hh] at hd'; cases hd'
                have hL' := c2 k' (by omega) hk'
                right
                rcases sk' with s' | ⟨s1, s2⟩
                · omega
                · refine ⟨by omega, ?_⟩
                  by_cases ek : k' = k
                  · rw [ek] at s2; exact s2
                  · exact pu_ll_t (c3 k k' hbk (by omega) hk') s2
              · exact .inl (by omega)
            rw [M_findPair_76, nI_clamp (by omega), hkn.2.1, (pu_dm (Q k) hlt).2, (pu_dm (Q k) hlt).1, nI_1 k]
            refine pw_f (nI_ge hke (by omega)) (pw_gd (fy_ix_nI (by omega) (by decide)) (pw_be (M_acq ha hA (mvA S' hf) (by omega)) (pw_gd (fy_ix_nI (by omega) (by decide)) (pw_be (M_acq hb' hB (mvB S' hf) (by omega)) ?_))))
            cases h1 : pu_ev (A.2.2.2.2 0) (Q k / 64)
            · cases h2 : pu_ev (B.2.2.2.2 0) (Q k % 64)
              · exact pw_t rfl (pw_bl (skip (by unfold pu_df; rw [h1, h2]; rfl)))
              · refine pw_f (by decide) (pw_t rfl ?_)
                cases o with
                | false => exact pw_t rfl (pw_s (stop (by unfold pu_df; rw [h1, h2]; rfl)))
                | true => exact pw_f (by decide) (pw_bl (skip (by unfold pu_df; rw [h1, h2]; rfl)))
            · cases h2 : pu_ev (B.2.2.2.2 0) (Q k % 64)
              · exact pw_f (by decide) (pw_f (by decide) (pw_s (stop (by unfold pu_df; rw [h1, h2]; cases o <;> rfl))))
              · exact pw_t rfl (pw_bl (skip (by unfold pu_df; rw [h1, h2]; rfl)))
        exact D (e - b) b fy_fu (by omega) (fz_fu (by omega)) (Nat.le_refl _) (fun k' h1 h2 => by omega)
  -- the beginning
  have I : ∀ s k fu S', k + s = 4096 → s < fu → fr pu_m5 S S' → (∀ y, y < k → S'.1 26 y = -1) → pw (M_findPair_3 fu S' (nI a) (nI b') (if o then 1 else 0) (nI k)) (fun R => fr pu_m5 S R.1 ∧ ((R.2 = -1 ∧ ∀ w, pu_wv A.2.1 w → pu_df A B o (pu_rg A B (pu_pb A B) w) = false) ∨ ∃ n Q W k, pu_mb R.1 A B n Q W ∧ k < n ∧ R.2 = nI k ∧ pu_bw_ A B o (W k))) := by
    intro s
    induction s with
    | zero =>
      intro k fu S' hk hfu hf hy
      obtain ⟨fu, rfl⟩ : ∃ z, fu = z + 1 := ⟨fu - 1, by omega⟩
      have : k = 4096 := by omega
      subst this
      have hp0 := pu_pv_0 hA hB
      have hlt := pu_pv_lt hA hp0
      rw [M_findPair_3]
      refine pw_t (by decide) (pw_gd (fy_ix_nI ha (by decide)) (pw_gd (fy_ix_nI hb' (by decide)) (pw_gd (by decide) (pw_bl ?_))))
      rw [nI_clamp (by omega), nI_clamp (by omega), (mvA S' hf).2.2.1, (mvB S' hf).2.2.1, show (64 : Int32) * nI A.2.2.1 = nI (64 * A.2.2.1) from pk_mul 64 _, nI_add, show (0 : Int32).toNatClampNeg = 0 from rfl, rd_y]
      have ep : 64 * A.2.2.1 + B.2.2.1 = pu_pb A B := rfl
      rw [ep, nI_clamp (by omega)]
      refine pw_gd (by decide) (pw_gd (fy_ix_nI hlt (by decide)) (pw_bl ?_))
      refine M 4097 fy_fu _ 0 1 0 (fun _ => pu_pb A B) (fun _ => []) (by omega) (fz_fu (by omega)) (fr_I (fr_I hf (by unfold pu_m5; omega)) (by unfold pu_m5; omega)) ⟨by decide, fun k hk => ⟨hp0, ?_, fun x hx => (by cases hx), rfl, fun _ => ⟨rfl, rd_y⟩, fun h => by omega⟩, fun y hy' hn => ?_, fun i j hi hj _ => by omega⟩ ⟨fun k hk => absurd hk (Nat.not_lt_zero k), fun k _ _ => rfl, fun i j h1 h2 h3 => by omega, fun w hv hl => ?_, fun k hk => absurd hk (Nat.not_lt_zero k), fun k x hk => absurd hk (Nat.not_lt_zero k)⟩ (by decide) (by decide)
      · have : k = 0 := by omega
        subst this
        rw [rd_n (by omega), rd_y]
      · have : y ≠ pu_pb A B := fun e => hn 0 (by decide) e.symm
        rw [rd_n (by omega), rd_n (by omega)]; exact hy y hy'
      · have : w = [] := List.length_eq_zero_iff.mp (by omega)
        subst this
        exact ⟨0, by decide, rfl, .inr ⟨rfl, trivial⟩⟩
    | succ s ih =>
      intro k fu S' hk hfu hf hy
      obtain ⟨fu, rfl⟩ : ∃ z, fu = z + 1 := ⟨fu - 1, by omega⟩
      rw [M_findPair_3, nI_clamp (n := k) (by omega), nI_1 k]
      refine pw_f (nI_ge (b := 4096) (by omega) (by decide)) (pw_gd (fy_ix_nI (by omega) (by decide)) (pw_bl (pw_bl (ih (k + 1) fu _ (by omega) (by omega) (fr_I hf (by unfold pu_m5; omega)) (fun y hy' => ?_)))))
      by_cases e : y = k
      · rw [e, rd_y]
      · rw [rd_n (by omega)]; exact hy y (by omega)
  rw [M_findPair]
  exact I 4096 0 fy_fu S (by omega) (fz_fu (by omega)) fr_r (fun y hy => absurd hy (Nat.not_lt_zero y))
