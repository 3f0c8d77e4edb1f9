/-! combine -/
theorem M_jo_1 {S : fy_S} {a b c op : Nat} {A B : pu_A} (ha : a < 3) (hb : b < 3) (hc : c < 3) (hop : op = 8 ∨ op = 9) (hA : pu_wA A) (hB : pu_wA B) (hm : A.2.1 = B.2.1) (h6 : A.1 + B.1 ≤ 6) (h40 : (A.2.2.2.2 0).1 + (B.2.2.2.2 0).1 + 1 ≤ 40) (g1 : S.1 1 6 = nI (A.1 + B.1)) (g2 : S.1 2 6 = nI A.2.1) (g3 : S.1 3 6 = nI (A.2.2.1 + B.2.2.1 * 2 ^ A.1)) (g4 : ∀ x, x < 3 → S.1 4 (18 + x) = nI (A.2.2.2.1 x)) (g5 : ∀ j, j < 19 → ∃ z : Nat, z ≤ 40 ∧ S.1 5 (114 + j) = nI z) (gA : pu_MA S a A) (gB : pu_MA S b B) (s5 : S.1 5 114 = nI ((A.2.2.2.2 0).1 + (B.2.2.2.2 0).1)) (s1 : ∀ t, t < (A.2.2.2.2 0).1 → S.1 6 (4560 + t) = nI (pu_c ((A.2.2.2.2 0).2 t))) (s2 : ∀ t, t < (B.2.2.2.2 0).1 → S.1 6 (4560 + ((A.2.2.2.2 0).1 + t)) = nI (pu_c (pu_sh A.1 ((B.2.2.2.2 0).2 t)))) : pw (M_combine_233 S (nI a) (nI b) (nI c) (nI A.1) (nI (pu_c op)) (nI (4560 + ((A.2.2.2.2 0).1 + (B.2.2.2.2 0).1)))) (fun R => R.2 = nI (A.1 + B.1) ∧ pu_MA R.1 c (pu_jA op A B) ∧ fr (fun i k => pu_ma 6 i k ∨ pu_ma c i k) S R.1) := by
  rw [M_combine_233]
  refine pw_gd (fy_ix_nI (by omega) (by decide)) (pw_bl (pw_gd (by decide) (pw_gd (by decide) (pw_bl ?_))))
  rw [nI_clamp (by omega), show (114 : Int32).toNatClampNeg = 114 from rfl, rd_n (by omega), s5, nI_1]
  have f : fr (fun i t => (i = 5 ∧ t = 114) ∨ (i = 6 ∧ t = 4560 + ((A.2.2.2.2 0).1 + (B.2.2.2.2 0).1))) S (fy_sI (fy_sI S 6 (4560 + ((A.2.2.2.2 0).1 + (B.2.2.2.2 0).1)) (nI (pu_c op))) 5 114 (nI ((A.2.2.2.2 0).1 + (B.2.2.2.2 0).1 + 1))) := fr_I (fr_I fr_r (.inr ⟨rfl, rfl⟩)) (.inl ⟨rfl, rfl⟩)
  refine pw_m (M_jo_l ha hb hc hop hA hB hm h6 h40 (A.1 + B.1) 0 fy_fu _ (by omega) (fz_fu (by omega)) ⟨by rw [(f _ _ (by omega)).1]; exact g1, by rw [(f _ _ (by omega)).1]; exact g2, by rw [(f _ _ (by omega)).1]; exact g3, fun x hx => by rw [(f _ _ (by omega)).1]; exact g4 x hx, fun j hj => ?_, ⟨?_, fun t ht => ?_⟩, fun p' x' _ _ h => by omega, pu_MA_c hA gA (fun i g1 g2 => (f _ _ (by omega)).1) (fun k g1 g2 => (f _ _ (by omega)).1) (fun k g1 g2 => (f _ _ (by omega)).1) (fun k g1 g2 => (f _ _ (by omega)).1), pu_MA_c hB gB (fun i g1 g2 => (f _ _ (by omega)).1) (fun k g1 g2 => (f _ _ (by omega)).1) (fun k g1 g2 => (f _ _ (by omega)).1) (fun k g1 g2 => (f _ _ (by omega)).1)⟩) (fun R r => ⟨r.1, r.2.1, fr_t (fr_m f (fun i t h => .inl (by unfold pu_ma; omega))) r.2.2⟩)
  · by_cases e : j = 0
    · subst e
      exact ⟨(A.2.2.2.2 0).1 + (B.2.2.2.2 0).1 + 1, h40, rd_y⟩
    · rw [(f _ _ (by omega)).1]; exact g5 j hj
  · exact rd_y
  · have ht : t < (A.2.2.2.2 0).1 + (B.2.2.2.2 0).1 + 1 := ht
    show (fy_sI _ _ _ _).1 6 (4560 + t) = nI (pu_c (if t < (A.2.2.2.2 0).1 then (A.2.2.2.2 0).2 t else if t < (A.2.2.2.2 0).1 + (B.2.2.2.2 0).1 then pu_sh A.1 ((B.2.2.2.2 0).2 (t - (A.2.2.2.2 0).1)) else op))
    rw [rd_n (by omega)]
    by_cases e : t = (A.2.2.2.2 0).1 + (B.2.2.2.2 0).1
    · rw [e, rd_y, if_neg (by omega), if_neg (by omega)]
    · rw [rd_n (by omega)]
      by_cases e1 : t < (A.2.2.2.2 0).1
      · rw [if_pos e1]; exact s1 t e1
      · rw [if_neg e1, if_pos (by omega)]
        have := s2 (t - (A.2.2.2.2 0).1) (by omega)
        rw [show (A.2.2.2.2 0).1 + (t - (A.2.2.2.2 0).1) = t by omega] at this
        exact this
theorem M_jo_2 {a b c w : Nat} {A B : pu_A} (ha : a < 3) (hb : b < 3) (hc : c < 3) (hw : w ≤ 1) (hA : pu_wA A) (hB : pu_wA B) (hm : A.2.1 = B.2.1) (h6 : A.1 + B.1 ≤ 6) (h40 : (A.2.2.2.2 0).1 + (B.2.2.2.2 0).1 + 1 ≤ 40) : ∀ d i fu S, i + d = 3 → d < fu → S.1 1 6 = nI (A.1 + B.1) → S.1 2 6 = nI A.2.1 → S.1 3 6 = nI (A.2.2.1 + B.2.2.1 * 2 ^ A.1) → (∀ x, x < i → S.1 4 (18 + x) = nI (A.2.2.2.1 x)) → (∀ j, j < 19 → ∃ z : Nat, z ≤ 40 ∧ S.1 5 (114 + j) = nI z) → pu_MA S a A → pu_MA S b B → pw (M_combine_144 fu S (nI a) (nI b) (nI c) (nI w) (nI A.1) (nI i)) (fun R => R.2 = nI (A.1 + B.1) ∧ pu_MA R.1 c (pu_jA (8 + w) A B) ∧ fr (fun i k => pu_ma 6 i k ∨ pu_ma c i k) S R.1) := by
  have hu0 : pu_u A 0 := .inl rfl
  have hv0 : pu_u B 0 := .inl rfl
  have qA := hA.2.2.2.2.2.2 0 (by decide) hu0
  have qB := hB.2.2.2.2.2.2 0 (by decide) hv0
  intro d
  induction d with
  | zero =>
    intro i fu S hi hfu g1 g2 g3 g4 g5 gA gB
    obtain ⟨fu, rfl⟩ : ∃ z, fu = z + 1 := ⟨fu - 1, by omega⟩
    have : i = 3 := by omega
    subst this
    rw [M_combine_144, show (114 : Int32).toNatClampNeg = 114 from rfl]
    refine pw_t (nI_le (Nat.le_refl 3) (by decide)) (pw_gd (by decide) (pw_bl ?_))
    have f0 : fr (fun i t => (i = 5 ∧ t = 114) ∨ (i = 6 ∧ 4560 ≤ t ∧ t < 4600)) S (fy_sI S 5 114 0) := fr_I fr_r (.inl ⟨rfl, rfl⟩)
    have mv : ∀ (S' : fy_S), fr (fun i t => (i = 5 ∧ t = 114) ∨ (i = 6 ∧ 4560 ≤ t ∧ t < 4600)) S S' → pu_MA S' a A ∧ pu_MA S' b B := fun S' f => ⟨pu_MA_c hA gA (fun i g1 g2 => (f _ _ (by omega)).1) (fun k g1 g2 => (f _ _ (by omega)).1) (fun k g1 g2 => (f _ _ (by omega)).1) (fun k g1 g2 => (f _ _ (by omega)).1), pu_MA_c hB gB (fun i g1 g2 => (f _ _ (by omega)).1) (fun k g1 g2 => (f _ _ (by omega)).1) (fun k g1 g2 => (f _ _ (by omega)).1) (fun k g1 g2 => (f _ _ (by omega)).1)⟩
    refine pw_bd (M_add (f := 0) (to := 0) (o := 0) (z := 0) (n := A.1) (by omega) (by decide) (by decide) (by omega) qA (by omega) rd_y ((mv _ f0).1.2.2.2.2.2 0 (by decide) hu0)) (fun S1 s1 => ?_)
    have f1 := fr_t f0 (fr_m s1.2.2 (fun i t h => by omega) : fr (fun i t => (i = 5 ∧ t = 114) ∨ (i = 6 ∧ 4560 ≤ t ∧ t < 4600)) _ S1)
    refine pw_bd (M_add (f := 0) (to := 0) (o := A.1) (z := 0 + (A.2.2.2.2 0).1) (n := B.1) (by omega) (by decide) (by decide) (by omega) qB (by omega) s1.1 ((mv _ f1).2.2.2.2.2.2 0 (by decide) hv0)) (fun S2 s2 => ?_)
    have f2 := fr_t f1 (fr_m s2.2.2 (fun i t h => by omega) : fr (fun i t => (i = 5 ∧ t = 114) ∨ (i = 6 ∧ 4560 ≤ t ∧ t < 4600)) _ S2)
    have e5 : S2.1 5 114 = nI ((A.2.2.2.2 0).1 + (B.2.2.2.2 0).1) := by
      have := s2.1
      rw [Nat.zero_add] at this
      exact this
    refine pw_be (M_at_e (a := 6) (f := 0)) ?_
    rw [e5, nI_add]
    refine pw_gd (by decide) ?_
    have big : pw (M_combine_233 S2 (nI a) (nI b) (nI c) (nI A.1) (nI (pu_c (8 + w))) (nI (4560 + ((A.2.2.2.2 0).1 + (B.2.2.2.2 0).1)))) (fun R => R.2 = nI (A.1 + B.1) ∧ pu_MA R.1 c (pu_jA (8 + w) A B) ∧ fr (fun i k => pu_ma 6 i k ∨ pu_ma c i k) S2 R.1) := by
      refine M_jo_1 ha hb hc (by omega) hA hB hm h6 h40 (by rw [(f2 _ _ (by omega)).1]; exact g1) (by rw [(f2 _ _ (by omega)).1]; exact g2) (by rw [(f2 _ _ (by omega)).1]; exact g3) (fun x hx => by rw [(f2 _ _ (by omega)).1]; exact g4 x hx) (fun j hj => ?_) (mv _ f2).1 (mv _ f2).2 e5 (fun t ht => ?_) (fun t ht => ?_)
      · by_cases e : j = 0
        · subst e; exact ⟨_, by omega, e5⟩
        · rw [(f2 _ _ (by omega)).1]; exact g5 j hj
      · rw [(s2.2.2 _ _ (by omega)).1]
        have := s1.2.1 t ht
        rw [Nat.zero_add, pu_sh0] at this
        exact this
      · have := s2.2.1 t ht
        rw [Nat.zero_add] at this
        exact this
    have big := pw_m big (fun R r => (⟨r.1, r.2.1, fr_t (fr_m f2 (fun i t h => .inl (by unfold pu_ma; omega))) r.2.2⟩ : R.2 = nI (A.1 + B.1) ∧ pu_MA R.1 c (pu_jA (8 + w) A B) ∧ fr (fun i k => pu_ma 6 i k ∨ pu_ma c i k) S R.1))
    by_cases e : w = 0
    · subst e
      exact pw_t rfl big
    · have : w = 1 := by omega
      subst this
      exact pw_f (by decide) big
  | succ d ih =>
    intro i fu S hi hfu g1 g2 g3 g4 g5 gA gB
    obtain ⟨fu, rfl⟩ : ∃ z, fu = z + 1 := ⟨fu - 1, by omega⟩
    rw [M_combine_144]
    refine pw_f (nI_ge (b := 3) (by omega) (by decide)) ?_
    rw [show (3 : Int32) * nI a = nI (3 * a) from pk_mul 3 a, nI_add, show (18 : Int32) + nI i = nI (18 + i) from nI_add 18 i]
    refine pw_gd (fy_ix_nI (by omega) (by decide)) (pw_gd (fy_ix_nI (by omega) (by decide)) (pw_bl (pw_bl ?_)))
    rw [nI_clamp (by omega), nI_clamp (by omega), nI_1, gA.2.2.2.1 i (by omega)]
    have f : fr (fun z k => z = 4 ∧ k = 18 + i) S (fy_sI S 4 (18 + i) (nI (A.2.2.2.1 i))) := fr_I fr_r ⟨rfl, rfl⟩
    refine pw_m (ih (i + 1) fu _ (by omega) (by omega) (by rw [(f _ _ (by omega)).1]; exact g1) (by rw [(f _ _ (by omega)).1]; exact g2) (by rw [(f _ _ (by omega)).1]; exact g3) (fun x hx => ?_) (fun j hj => by rw [(f _ _ (by omega)).1]; exact g5 j hj) (pu_MA_c hA gA (fun i g1 g2 => (f _ _ (by omega)).1) (fun k g1 g2 => (f _ _ (by omega)).1) (fun k g1 g2 => (f _ _ (by omega)).1) (fun k g1 g2 => (f _ _ (by omega)).1)) (pu_MA_c hB gB (fun i g1 g2 => (f _ _ (by omega)).1) (fun k g1 g2 => (f _ _ (by omega)).1) (fun k g1 g2 => (f _ _ (by omega)).1) (fun k g1 g2 => (f _ _ (by omega)).1))) (fun R r => ⟨r.1, r.2.1, fr_t (fr_m f (fun i t h => .inl (by unfold pu_ma; omega))) r.2.2⟩)
    by_cases e : x = i
    · rw [e, rd_y]
    · rw [rd_n (by omega)]; exact g4 x (by omega)
