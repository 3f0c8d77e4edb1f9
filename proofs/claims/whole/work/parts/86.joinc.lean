/-! combine: the reference -/
theorem M_adds_l {a f to o z n : Nat} {q : pu_q} (ha : a < 6) (hf : f < 19) (hto : to < 19) (hno : n + o ≤ 6) (hq : pu_ok n q) (hz : z + q.1 ≤ 40) : ∀ d k fu S, k + d = q.1 → d < fu → S.1 5 (114 + to) = nI (z + k) → pu_MF S a f q → (∀ t, t < k → S.1 6 (40 * (114 + to) + (z + t)) = nI (pu_c (pu_sh o (q.2 t)))) → pw (M_adds_3 fu S (nI a) (nI f) (nI to) (nI o) (nI k)) (fun S' => S'.1 5 (114 + to) = nI (z + q.1) ∧ (∀ t, t < q.1 → S'.1 6 (40 * (114 + to) + (z + t)) = nI (pu_c (pu_sh o (q.2 t)))) ∧ fr (fun i t => (i = 5 ∧ t = 114 + to) ∨ (i = 6 ∧ 40 * (114 + to) + z ≤ t ∧ t < 40 * (114 + to) + 40)) S S') := by
  intro d
  induction d with
  | zero =>
    intro k fu S hk hfu hs hm hd
    obtain ⟨fu, rfl⟩ : ∃ z, fu = z + 1 := ⟨fu - 1, by omega⟩
    have : k = q.1 := by omega
    subst this
    rw [M_adds_3]
    exact pw_be (M_size (by omega) hf hm.1) (pw_t (nI_le (Nat.le_refl _) (by show q.1 < 2 ^ 31; omega)) (pw_s ⟨hs, hd, fr_r⟩))
  | succ d ih =>
    intro k fu S hk hfu hs hm hd
    obtain ⟨fu, rfl⟩ : ∃ z, fu = z + 1 := ⟨fu - 1, by omega⟩
    have hkq : k < q.1 := by omega
    have hc := pu_ok10 (n := n) (by omega) hq hkq
    have hcn := (hq.2.2.1 k hkq).1
    have step : pw (M_adds_68 (fun S v1 v2 v3 v4 v5 => M_adds_3 fu S v1 v2 v3 v4 v5) S (nI a) (nI f) (nI to) (nI o) (nI k) (nI (pu_c (pu_sh o (q.2 k)))) (nI (40 * (19 * 6 + to) + (z + k)))) (fun S' => S'.1 5 (114 + to) = nI (z + q.1) ∧ (∀ t, t < q.1 → S'.1 6 (40 * (114 + to) + (z + t)) = nI (pu_c (pu_sh o (q.2 t)))) ∧ fr (fun i t => (i = 5 ∧ t = 114 + to) ∨ (i = 6 ∧ 40 * (114 + to) + z ≤ t ∧ t < 40 * (114 + to) + 40)) S S') := by
      rw [M_adds_68, show (114 : Int32) + nI to = nI (114 + to) from nI_add 114 to]
      refine pw_gd (fy_ix_nI (by omega) (by decide)) (pw_bl (pw_gd (fy_ix_nI (by omega) (by decide)) (pw_gd (fy_ix_nI (by omega) (by decide)) (pw_bl (pw_bl ?_)))))
      rw [nI_clamp (by omega), nI_clamp (by omega), rd_n (by omega), hs, nI_1, nI_1]
      refine pw_m (ih (k + 1) fu _ (by omega) (by omega) (by rw [rd_y]; rfl) (pu_l_c hm (by rw [rd_n (by omega), rd_n (by omega)]) (fun t ht => by have ht : t < q.1 := ht; rw [rd_n (by omega), rd_n (by omega)])) (fun t ht => ?_)) (fun S' h' => ⟨h'.1, h'.2.1, fr_t (fr_I (fr_I fr_r (.inr ⟨rfl, by omega, by omega⟩)) (.inl ⟨rfl, rfl⟩)) h'.2.2⟩)
      by_cases e : t = k
      · rw [e, rd_n (by omega), show 40 * (114 + to) + (z + k) = 40 * (19 * 6 + to) + (z + k) by omega, rd_y]
      · rw [rd_n (by omega), rd_n (by omega)]; exact hd t (by omega)
    rw [M_adds_3]
    refine pw_be (M_size (by omega) hf hm.1) (pw_f (nI_ge hkq (by show q.1 < 2 ^ 31; omega)) (pw_be M_at_e ?_))
    rw [nI_add]
    refine pw_gd (fy_ix_nI (by omega) (by decide)) (pw_bl (pw_be (M_at_e (a := 6)) ?_))
    rw [show (114 : Int32) + nI to = nI (114 + to) from nI_add 114 to, nI_clamp (by omega), nI_clamp (by omega), hs, nI_add, show S.1 6 (40 * (19 * a + f) + k) = nI (pu_c (q.2 k)) from hm.2 k hkq]
    refine pw_gd (fy_ix_nI (by omega) (by decide)) ?_
    by_cases h6 : q.2 k < 6
    · have e1 : pu_c (q.2 k) = q.2 k := by unfold pu_c; rw [if_pos h6]
      rw [e1]
      refine pw_f (nI_ge (b := 8) (by omega) (by decide)) ?_
      rw [nI_add]
      by_cases e6 : q.2 k + o < 6
      · rw [show pu_c (pu_sh o (q.2 k)) = q.2 k + o by unfold pu_sh pu_c; rw [if_pos h6, if_pos e6]] at step
        exact step
      · omega
    · have e : pu_sh o (q.2 k) = q.2 k := by unfold pu_sh; rw [if_neg h6]
      rw [e] at step
      refine pw_t ?_ step
      have : q.2 k = 6 ∨ q.2 k = 7 ∨ q.2 k = 8 ∨ q.2 k = 9 := by omega
      rcases this with e | e | e | e <;> rw [e] <;> decide
theorem M_add {S : fy_S} {a f to o z n : Nat} {q : pu_q} (ha : a < 6) (hf : f < 19) (hto : to < 19) (hno : n + o ≤ 6) (hq : pu_ok n q) (hz : z + q.1 ≤ 40) (hs : S.1 5 (114 + to) = nI z) (hm : pu_MF S a f q) : pw (M_adds S (nI a) (nI f) (nI to) (nI o)) (fun S' => S'.1 5 (114 + to) = nI (z + q.1) ∧ (∀ t, t < q.1 → S'.1 6 (40 * (114 + to) + (z + t)) = nI (pu_c (pu_sh o (q.2 t)))) ∧ fr (fun i t => (i = 5 ∧ t = 114 + to) ∨ (i = 6 ∧ 40 * (114 + to) + z ≤ t ∧ t < 40 * (114 + to) + 40)) S S') :=
  M_adds_l ha hf hto hno hq hz q.1 0 fy_fu S (by omega) (fz_fu (by omega)) hs hm (fun t ht => absurd ht (Nat.not_lt_zero t))
theorem pu_sh0 (c : Nat) : pu_sh 0 c = c := by unfold pu_sh; split <;> rfl
def pu_K (S : fy_S) (A B : pu_A) (a b op p x : Nat) : Prop := S.1 1 6 = nI (A.1 + B.1) ∧ S.1 2 6 = nI A.2.1 ∧ S.1 3 6 = nI (A.2.2.1 + B.2.2.1 * 2 ^ A.1) ∧ (∀ x, x < 3 → S.1 4 (18 + x) = nI (A.2.2.2.1 x)) ∧ (∀ j, j < 19 → ∃ z : Nat, z ≤ 40 ∧ S.1 5 (114 + j) = nI z) ∧ pu_MF S 6 0 ((pu_jA op A B).2.2.2.2 0) ∧ (∀ p' x', p' < A.1 + B.1 → x' < A.2.1 → (p' < p ∨ (p' = p ∧ x' < x)) → pu_MF S 6 (1 + 3 * p' + x') ((pu_jA op A B).2.2.2.2 (1 + 3 * p' + x'))) ∧ pu_MA S a A ∧ pu_MA S b B
theorem M_jo_l {a b c op : Nat} {A B : pu_A} (ha : a < 3) (hb : b < 3) (hc : c < 3) (hop : op = 8 ∨ op = 9) (hA : pu_wA A) (hB : pu_wA B) (hm : A.2.1 = B.2.1) (h6 : A.1 + B.1 ≤ 6) (h40 : (A.2.2.2.2 0).1 + (B.2.2.2.2 0).1 + 1 ≤ 40) : ∀ d p fu S, p + d = A.1 + B.1 → d < fu → pu_K S A B a b op p 0 → pw (M_combine_248 fu S (nI a) (nI b) (nI c) (nI A.1) (nI p)) (fun R => R.2 = nI (A.1 + B.1) ∧ pu_MA R.1 c (pu_jA op A B) ∧ fr (fun i k => pu_ma 6 i k ∨ pu_ma c i k) S R.1) := by
  have hm3 : A.2.1 ≤ 3 := hA.2.2.2.1
  have hW := pu_jA_w hop hA hB hm h6 h40
  intro d
  induction d with
  | zero =>
    intro p fu S hp hfu hK
    obtain ⟨fu, rfl⟩ : ∃ z, fu = z + 1 := ⟨fu - 1, by omega⟩
    have : p = A.1 + B.1 := by omega
    subst this
    obtain ⟨k1, k2, k3, k4, k5, k6, k7, k8, k9⟩ := hK
    rw [M_combine_248, show (6 : Int32).toNatClampNeg = 6 from rfl, k1]
    have hMA : pu_MA S 6 (pu_jA op A B) := by
      refine ⟨k1, k2, k3, k4, k5, fun j hj hu => ?_⟩
      rcases hu with e | ⟨z1, z2, z3⟩
      · subst e; exact k6
      · have z2 : (j - 1) / 3 < A.1 + B.1 := z2
        have := k7 ((j - 1) / 3) ((j - 1) % 3) z2 z3 (by omega)
        rw [show 1 + 3 * ((j - 1) / 3) + (j - 1) % 3 = j by omega] at this
        exact this
    refine pw_gd (by decide) (pw_t (nI_le (Nat.le_refl _) (by omega)) (pw_bd (M_cp (a := 6) (by decide) (by omega) hW hMA) (fun S' h' => pw_gd (fy_ix_nI (by omega) (by decide)) (pw_s ⟨?_, h'.1, fr_m h'.2 (fun i k h => .inr h)⟩))))
    rw [nI_clamp (by omega)]
    exact h'.1.1
  | succ d ih =>
    intro p fu S hp hfu hK
    obtain ⟨fu, rfl⟩ : ∃ z, fu = z + 1 := ⟨fu - 1, by omega⟩
    rw [M_combine_248, show (6 : Int32).toNatClampNeg = 6 from rfl, hK.1]
    refine pw_gd (by decide) (pw_f (nI_ge (by omega) (by omega)) ?_)
    have inner : ∀ e x fu' S', x + e = A.2.1 → e < fu' → fr (fun i k => pu_ma 6 i k ∨ pu_ma c i k) S S' → pu_K S' A B a b op p x → pw (M_combine_263 (fun S v1 v2 v3 v5 v6 => M_combine_248 fu S v1 v2 v3 v5 v6) fu' S' (nI a) (nI b) (nI c) (nI A.1) (nI p) (nI x)) (fun R => R.2 = nI (A.1 + B.1) ∧ pu_MA R.1 c (pu_jA op A B) ∧ fr (fun i k => pu_ma 6 i k ∨ pu_ma c i k) S R.1) := by
      intro e
      induction e with
      | zero =>
        intro x fu' S' hx hfu' hf hK'
        obtain ⟨fu', rfl⟩ : ∃ z, fu' = z + 1 := ⟨fu' - 1, by omega⟩
        have : x = A.2.1 := by omega
        subst this
        obtain ⟨k1, k2, k3, k4, k5, k6, k7, k8, k9⟩ := hK'
        rw [M_combine_263, nI_clamp (by omega), k8.2.1]
        refine pw_gd (fy_ix_nI (by omega) (by decide)) (pw_t (nI_le (Nat.le_refl _) (by omega)) (pw_bl ?_))
        rw [nI_1]
        exact pw_m (ih (p + 1) fu S' (by omega) (by omega) ⟨k1, k2, k3, k4, k5, k6, fun p' x' z1 z2 z3 => k7 p' x' z1 z2 (by omega), k8, k9⟩) (fun R r => ⟨r.1, r.2.1, fr_t hf r.2.2⟩)
      | succ e ih2 =>
        intro x fu' S' hx hfu' hf hK'
        obtain ⟨fu', rfl⟩ : ∃ z, fu' = z + 1 := ⟨fu' - 1, by omega⟩
        have hxm : x < A.2.1 := by omega
        obtain ⟨k1, k2, k3, k4, k5, k6, k7, k8, k9⟩ := hK'
        have hj : 1 + 3 * p + x < 19 := by omega
        have f1 : fr (fun i k => i = 5 ∧ k = 114 + (1 + 3 * p + x)) S' (fy_sI S' 5 (114 + (1 + 3 * p + x)) 0) := fr_I fr_r ⟨rfl, rfl⟩
        have kA : pu_MA (fy_sI S' 5 (114 + (1 + 3 * p + x)) 0) a A := pu_MA_c hA k8 (fun i g1 g2 => (f1 _ _ (by omega)).1) (fun k g1 g2 => (f1 _ _ (by omega)).1) (fun k g1 g2 => (f1 _ _ (by omega)).1) (fun k g1 g2 => (f1 _ _ (by omega)).1)
        have kB : pu_MA (fy_sI S' 5 (114 + (1 + 3 * p + x)) 0) b B := pu_MA_c hB k9 (fun i g1 g2 => (f1 _ _ (by omega)).1) (fun k g1 g2 => (f1 _ _ (by omega)).1) (fun k g1 g2 => (f1 _ _ (by omega)).1) (fun k g1 g2 => (f1 _ _ (by omega)).1)
        have fin : ∀ (q : pu_q) (S2 : fy_S), q.1 ≤ 40 → (pu_jA op A B).2.2.2.2 (1 + 3 * p + x) = q → S2.1 5 (114 + (1 + 3 * p + x)) = nI (0 + q.1) → (∀ t, t < q.1 → S2.1 6 (40 * (114 + (1 + 3 * p + x)) + (0 + t)) = nI (pu_c (q.2 t))) → fr (fun i t => (i = 5 ∧ t = 114 + (1 + 3 * p + x)) ∨ (i = 6 ∧ 40 * (114 + (1 + 3 * p + x)) + 0 ≤ t ∧ t < 40 * (114 + (1 + 3 * p + x)) + 40)) (fy_sI S' 5 (114 + (1 + 3 * p + x)) 0) S2 → pw (M_combine_263 (fun S v1 v2 v3 v5 v6 => M_combine_248 fu S v1 v2 v3 v5 v6) fu' S2 (nI a) (nI b) (nI c) (nI A.1) (nI p) (nI (x + 1))) (fun R => R.2 = nI (A.1 + B.1) ∧ pu_MA R.1 c (pu_jA op A B) ∧ fr (fun i k => pu_ma 6 i k ∨ pu_ma c i k) S R.1) := by
          intro q S2 hq40 hqe h5 h6' f2
          have f3 : fr (fun i t => (i = 5 ∧ t = 114 + (1 + 3 * p + x)) ∨ (i = 6 ∧ 40 * (114 + (1 + 3 * p + x)) ≤ t ∧ t < 40 * (114 + (1 + 3 * p + x)) + 40)) S' S2 := fr_t (fr_m f1 (fun i t h => .inl h)) (fr_m f2 (fun i t h => by omega))
          have mvF : ∀ j q', j ≠ 1 + 3 * p + x → q'.1 ≤ 40 → pu_MF S' 6 j q' → pu_MF S2 6 j q' := fun j q' hne h40 hM => pu_l_c hM (by rw [(f3 _ _ (by omega)).1]) (fun t ht => (f3 _ _ (by have : t < q'.1 := ht; omega)).1)
          refine ih2 (x + 1) fu' S2 (by omega) (by omega) (fr_t hf (fr_m f3 (fun i t h => .inl (by unfold pu_ma; omega)))) ⟨by rw [(f3 _ _ (by omega)).1]; exact k1, by rw [(f3 _ _ (by omega)).1]; exact k2, by rw [(f3 _ _ (by omega)).1]; exact k3, fun y hy => by rw [(f3 _ _ (by omega)).1]; exact k4 y hy, fun j hj => ?_, mvF 0 _ (by omega) h40 k6, fun p' x' z1 z2 z3 => ?_, pu_MA_c hA k8 (fun i g1 g2 => (f3 _ _ (by omega)).1) (fun k g1 g2 => (f3 _ _ (by omega)).1) (fun k g1 g2 => (f3 _ _ (by omega)).1) (fun k g1 g2 => (f3 _ _ (by omega)).1), pu_MA_c hB k9 (fun i g1 g2 => (f3 _ _ (by omega)).1) (fun k g1 g2 => (f3 _ _ (by omega)).1) (fun k g1 g2 => (f3 _ _ (by omega)).1) (fun k g1 g2 => (f3 _ _ (by omega)).1)⟩
          · by_cases e1 : j = 1 + 3 * p + x
            · rw [e1, h5]; exact ⟨0 + q.1, by omega, rfl⟩
            · rw [(f3 _ _ (by omega)).1]; exact k5 j hj
          · by_cases e1 : p' = p ∧ x' = x
            · rw [e1.1, e1.2, hqe]
              refine ⟨?_, fun t ht => ?_⟩
              · rw [show 19 * 6 + (1 + 3 * p + x) = 114 + (1 + 3 * p + x) by omega, h5, Nat.zero_add]
              · have := h6' t ht
                rw [Nat.zero_add] at this
                exact this
            · exact mvF _ _ (by omega) (hW.2.2.2.2.2.2 _ (by omega) (pu_u_m (A := pu_jA op A B) z1 z2 hm3)).2.1 (k7 p' x' z1 z2 (by omega))
        rw [M_combine_263, nI_clamp (by omega), k8.2.1]
        refine pw_gd (fy_ix_nI (by omega) (by decide)) (pw_f (nI_ge hxm (by omega)) (pw_be M_fof ?_))
        rw [show (114 : Int32) + nI (1 + 3 * p + x) = nI (114 + (1 + 3 * p + x)) from nI_add 114 _, nI_clamp (by omega), nI_1]
        refine pw_gd (fy_ix_nI (by omega) (by decide)) (pw_bl ?_)
        by_cases hpA : p < A.1
        · refine pw_f (nI_ge hpA (by omega)) (pw_be M_fof (pw_be M_fof ?_))
          have hu : pu_u A (1 + 3 * p + x) := pu_u_m hpA hxm hm3
          have hq := hA.2.2.2.2.2.2 _ hj hu
          refine pw_bd (M_add (o := 0) (z := 0) (n := A.1) (by omega) hj hj (by omega) hq (by have := hq.2.1; omega) rd_y (kA.2.2.2.2.2 _ hj hu)) (fun S2 s2 => pw_bl (fin (A.2.2.2.2 (1 + 3 * p + x)) S2 hq.2.1 ?_ s2.1 (fun t ht => ?_) s2.2.2))
          · show (if 1 + 3 * p + x = 0 then _ else if (1 + 3 * p + x - 1) / 3 < A.1 then A.2.2.2.2 (1 + 3 * p + x) else _) = _
            rw [if_neg (by omega), if_pos (by omega)]
          · have := s2.2.1 t ht
            rw [pu_sh0] at this
            exact this
        · refine pw_t (nI_le (by omega) (by omega)) ?_
          rw [pk_sub (by omega : A.1 ≤ p)]
          refine pw_be M_fof (pw_be M_fof ?_)
          have hu : pu_u B (1 + 3 * (p - A.1) + x) := pu_u_m (by omega) (by omega) (by omega)
          have hq := hB.2.2.2.2.2.2 _ (by omega) hu
          refine pw_bd (M_add (o := A.1) (z := 0) (n := B.1) (by omega) (by omega) hj (by omega) hq (by have := hq.2.1; omega) rd_y (kB.2.2.2.2.2 _ (by omega) hu)) (fun S2 s2 => pw_bl (fin (pu_sq A.1 (B.2.2.2.2 (1 + 3 * (p - A.1) + x))) S2 hq.2.1 ?_ s2.1 s2.2.1 s2.2.2))
          show (if 1 + 3 * p + x = 0 then _ else if (1 + 3 * p + x - 1) / 3 < A.1 then _ else pu_sq A.1 (B.2.2.2.2 (1 + 3 * p + x - 3 * A.1))) = _
          rw [if_neg (by omega), if_neg (by omega), show 1 + 3 * p + x - 3 * A.1 = 1 + 3 * (p - A.1) + x by omega]
    exact inner A.2.1 0 fy_fu S (by omega) (fz_fu (by omega)) fr_r hK
