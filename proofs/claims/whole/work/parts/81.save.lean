/-! the reference's copies; save, restore -/
/-- n cells of row i from place t of S0 on stand at place b -/
def pu_pt (S0 S : fy_S) (i s t n : Nat) : Prop := ∀ k, S.1 i k = if t ≤ k ∧ k < t + n then S0.1 i (k - t + s) else S0.1 i k
theorem pu_pt_0 {S0 : fy_S} {i s t : Nat} : pu_pt S0 S0 i s t 0 := fun k => by rw [if_neg (by omega)]
theorem pu_pt_s {S0 S : fy_S} {i s t n : Nat} (h : pu_pt S0 S i s t n) (hst : s = t ∨ s + n < t ∨ t + n ≤ s) : pu_pt S0 (fy_sI S i (t + n) (S.1 i (s + n))) i s t (n + 1) := fun k => by
  by_cases e : k = t + n
  · subst e
    rw [rd_y, if_pos (by omega), h (s + n), if_neg (by omega), show t + n - t + s = s + n by omega]
  · rw [rd_n (by omega), h k]
    by_cases g : t ≤ k ∧ k < t + n
    · rw [if_pos g, if_pos (by omega)]
    · rw [if_neg g, if_neg (by omega)]
theorem M_cp_6 {a b : Nat} (ha : a < 7) (hb : b < 7) {S0 : fy_S} : ∀ d i fu S, i + d = 760 → d < fu → pu_pt S0 S 6 (760 * a) (760 * b) i → pw (M_copies_107 fu S (nI a) (nI b) (nI i)) (fun S' => pu_pt S0 S' 6 (760 * a) (760 * b) 760 ∧ fr (fun z k => z = 6 ∧ 760 * b ≤ k ∧ k < 760 * b + 760) S S') := by
  intro d
  induction d with
  | zero =>
    intro i fu S hi hfu h
    obtain ⟨fu, rfl⟩ : ∃ z, fu = z + 1 := ⟨fu - 1, by omega⟩
    have : i = 760 := by omega
    subst this
    rw [M_copies_107]
    exact pw_t (nI_le (Nat.le_refl 760) (by decide)) (pw_s ⟨h, fr_r⟩)
  | succ d ih =>
    intro i fu S hi hfu h
    obtain ⟨fu, rfl⟩ : ∃ z, fu = z + 1 := ⟨fu - 1, by omega⟩
    rw [M_copies_107]
    refine pw_f (nI_ge (b := 760) (by omega) (by decide)) (pw_be (M_at_e (f := 0)) (pw_be (M_at_e (f := 0)) ?_))
    rw [nI_add, nI_add]
    refine pw_gd (fy_ix_nI (by omega) (by decide)) (pw_gd (fy_ix_nI (by omega) (by decide)) (pw_bl (pw_bl ?_)))
    rw [nI_clamp (by omega), nI_clamp (by omega), nI_1, show 40 * (19 * b + 0) + i = 760 * b + i by omega, show 40 * (19 * a + 0) + i = 760 * a + i by omega]
    exact pw_m (ih (i + 1) fu _ (by omega) (by omega) (pu_pt_s h (by omega))) (fun S' h' => ⟨h'.1, fr_t (fr_I fr_r ⟨rfl, by omega, by omega⟩) h'.2⟩)
theorem M_cp_5 {a b : Nat} (ha : a < 7) (hb : b < 7) {S0 : fy_S} : ∀ d i fu S, i + d = 19 → d < fu → pu_pt S0 S 5 (19 * a) (19 * b) i → pu_pt S0 S 6 (760 * a) (760 * b) 0 → pw (M_copies_71 fu S (nI a) (nI b) (nI i)) (fun S' => pu_pt S0 S' 5 (19 * a) (19 * b) 19 ∧ pu_pt S0 S' 6 (760 * a) (760 * b) 760 ∧ fr (fun z k => (z = 5 ∧ 19 * b ≤ k ∧ k < 19 * b + 19) ∨ (z = 6 ∧ 760 * b ≤ k ∧ k < 760 * b + 760)) S S') := by
  intro d
  induction d with
  | zero =>
    intro i fu S hi hfu h h6
    obtain ⟨fu, rfl⟩ : ∃ z, fu = z + 1 := ⟨fu - 1, by omega⟩
    have : i = 19 := by omega
    subst this
    rw [M_copies_71]
    refine pw_t (nI_le (Nat.le_refl 19) (by decide)) (pw_m (M_cp_6 ha hb 760 0 fy_fu S (by omega) (fz_fu (by omega)) h6) (fun S' h' => ⟨fun k => ?_, h'.1, fr_m h'.2 (fun i k h => .inr h)⟩))
    rw [(h'.2 _ _ (by omega)).1]; exact h k
  | succ d ih =>
    intro i fu S hi hfu h h6
    obtain ⟨fu, rfl⟩ : ∃ z, fu = z + 1 := ⟨fu - 1, by omega⟩
    rw [M_copies_71]
    refine pw_f (nI_ge (b := 19) (by omega) (by decide)) ?_
    rw [show (19 : Int32) * nI a = nI (19 * a) from pk_mul 19 a, show (19 : Int32) * nI b = nI (19 * b) from pk_mul 19 b, nI_add, nI_add]
    refine pw_gd (fy_ix_nI (by omega) (by decide)) (pw_gd (fy_ix_nI (by omega) (by decide)) (pw_bl (pw_bl ?_)))
    rw [nI_clamp (by omega), nI_clamp (by omega), nI_1]
    exact pw_m (ih (i + 1) fu _ (by omega) (by omega) (pu_pt_s h (by omega)) (fun k => by rw [rd_n (by omega)]; exact h6 k)) (fun S' h' => ⟨h'.1, h'.2.1, fr_t (fr_I fr_r (.inl ⟨rfl, by omega, by omega⟩)) h'.2.2⟩)
theorem M_cp_4 {a b : Nat} (ha : a < 7) (hb : b < 7) {S0 : fy_S} : ∀ d i fu S, i + d = 3 → d < fu → pu_pt S0 S 4 (3 * a) (3 * b) i → pu_pt S0 S 5 (19 * a) (19 * b) 0 → pu_pt S0 S 6 (760 * a) (760 * b) 0 → pw (M_copies_38 fu S (nI a) (nI b) (nI i)) (fun S' => pu_pt S0 S' 4 (3 * a) (3 * b) 3 ∧ pu_pt S0 S' 5 (19 * a) (19 * b) 19 ∧ pu_pt S0 S' 6 (760 * a) (760 * b) 760 ∧ fr (fun z k => (z = 4 ∧ 3 * b ≤ k ∧ k < 3 * b + 3) ∨ (z = 5 ∧ 19 * b ≤ k ∧ k < 19 * b + 19) ∨ (z = 6 ∧ 760 * b ≤ k ∧ k < 760 * b + 760)) S S') := by
  intro d
  induction d with
  | zero =>
    intro i fu S hi hfu h h5 h6
    obtain ⟨fu, rfl⟩ : ∃ z, fu = z + 1 := ⟨fu - 1, by omega⟩
    have : i = 3 := by omega
    subst this
    rw [M_copies_38]
    refine pw_t (nI_le (Nat.le_refl 3) (by decide)) (pw_m (M_cp_5 ha hb 19 0 fy_fu S (by omega) (fz_fu (by omega)) h5 h6) (fun S' h' => ⟨fun k => ?_, h'.1, h'.2.1, fr_m h'.2.2 (fun i k h => .inr h)⟩))
    rw [(h'.2.2 _ _ (by omega)).1]; exact h k
  | succ d ih =>
    intro i fu S hi hfu h h5 h6
    obtain ⟨fu, rfl⟩ : ∃ z, fu = z + 1 := ⟨fu - 1, by omega⟩
    rw [M_copies_38]
    refine pw_f (nI_ge (b := 3) (by omega) (by decide)) ?_
    rw [show (3 : Int32) * nI a = nI (3 * a) from pk_mul 3 a, show (3 : Int32) * nI b = nI (3 * b) from pk_mul 3 b, nI_add, nI_add]
    refine pw_gd (fy_ix_nI (by omega) (by decide)) (pw_gd (fy_ix_nI (by omega) (by decide)) (pw_bl (pw_bl ?_)))
    rw [nI_clamp (by omega), nI_clamp (by omega), nI_1]
    exact pw_m (ih (i + 1) fu _ (by omega) (by omega) (pu_pt_s h (by omega)) (fun k => by rw [rd_n (by omega)]; exact h5 k) (fun k => by rw [rd_n (by omega)]; exact h6 k)) (fun S' h' => ⟨h'.1, h'.2.1, h'.2.2.1, fr_t (fr_I fr_r (.inl ⟨rfl, by omega, by omega⟩)) h'.2.2.2⟩)
theorem M_cp {S : fy_S} {a b : Nat} {A : pu_A} (ha : a < 7) (hb : b < 7) (hw : pu_wA A) (h : pu_MA S a A) : pw (M_copies S (nI a) (nI b)) (fun S' => pu_MA S' b A ∧ fr (pu_ma b) S S') := by
  rw [M_copies]
  refine pw_gd (fy_ix_nI ha (by decide)) (pw_gd (fy_ix_nI hb (by decide)) (pw_bl (pw_gd (fy_ix_nI ha (by decide)) (pw_gd (fy_ix_nI hb (by decide)) (pw_bl (pw_gd (fy_ix_nI ha (by decide)) (pw_gd (fy_ix_nI hb (by decide)) (pw_bl ?_))))))))
  rw [nI_clamp (by omega), nI_clamp (by omega)]
  obtain ⟨g1, g2, g3, g4, g5, g6⟩ := h
  refine pw_m (M_cp_4 ha hb (S0 := S) 3 0 fy_fu _ (by omega) (fz_fu (by omega)) (fun k => ?_) (fun k => ?_) (fun k => ?_)) (fun S' h' => ?_)
  · rw [rd_n (by omega), rd_n (by omega), rd_n (by omega)]; exact pu_pt_0 k
  · rw [rd_n (by omega), rd_n (by omega), rd_n (by omega)]; exact pu_pt_0 k
  · rw [rd_n (by omega), rd_n (by omega), rd_n (by omega)]; exact pu_pt_0 k
  · obtain ⟨e4, e5, e6, f⟩ := h'
    refine ⟨⟨?_, ?_, ?_, fun x hx => ?_, fun j hj => ?_, fun j hj hu => ⟨?_, fun k hk => ?_⟩⟩, fr_t (fr_I (fr_I (fr_I fr_r (by unfold pu_ma; omega)) (by unfold pu_ma; omega)) (by unfold pu_ma; omega)) (fr_m f (fun i k h => by unfold pu_ma; omega))⟩
    · rw [(f _ _ (by omega)).1, rd_n (by omega), rd_n (by omega), rd_y]; exact g1
    · rw [(f _ _ (by omega)).1, rd_n (by omega), rd_y, rd_n (by omega)]; exact g2
    · rw [(f _ _ (by omega)).1, rd_y, rd_n (by omega), rd_n (by omega)]; exact g3
    · rw [e4, if_pos (by omega), show 3 * b + x - 3 * b + 3 * a = 3 * a + x by omega]; exact g4 x hx
    · rw [e5, if_pos (by omega), show 19 * b + j - 19 * b + 19 * a = 19 * a + j by omega]; exact g5 j hj
    · rw [e5, if_pos (by omega), show 19 * b + j - 19 * b + 19 * a = 19 * a + j by omega]; exact (g6 j hj hu).1
    · have hk40 : k < 40 := Nat.lt_of_lt_of_le hk (hw.2.2.2.2.2.2 j hj hu).2.1
      show S'.1 6 _ = _
      rw [e6, if_pos (by omega), show 40 * (19 * b + j) + k - 760 * b + 760 * a = 40 * (19 * a + j) + k by omega]; exact (g6 j hj hu).2 k hk
/-! all three at once: slots a + o (o is 0 or 3) come to slots a + t -/
theorem X_all {v0 v1 o t : Nat} (h0 : ∀ k, X_ar v0 k = 38 + 41 * (k + o)) (h1 : ∀ k, X_ar v1 k = 38 + 41 * (k + t)) (g0 : X_al v0 = 3) (g1 : X_al v1 = 3) (hot : (o = 0 ∧ t = 3) ∨ (o = 3 ∧ t = 0)) {As : Nat → pu_A} (hw : ∀ a, a < 3 → pu_wA (As a)) : ∀ d i fu S, i + d = 3 → d < fu → (∀ a, a < 3 → pu_XA S (38 + 41 * (a + o)) (As a)) → (∀ a, a < i → pu_XA S (38 + 41 * (a + t)) (As a)) → pw (X9_copyAll_4 fu S v0 v1 (nI (fb_sm (fun a => (As a).1) i)) (nI i)) (fun R => R.2 = nI (fb_sm (fun a => (As a).1) 3) ∧ (∀ a, a < 3 → pu_XA R.1 (38 + 41 * (a + t)) (As a)) ∧ fr (fun i _ => 38 + 41 * t ≤ i ∧ i < 38 + 41 * (t + 3)) S R.1) := by
  intro d
  induction d with
  | zero =>
    intro i fu S hi hfu hX hd
    obtain ⟨fu, rfl⟩ : ∃ z, fu = z + 1 := ⟨fu - 1, by omega⟩
    have : i = 3 := by omega
    subst this
    rw [X9_copyAll_4]
    exact pw_t (nI_le (Nat.le_refl 3) (by decide)) (pw_s ⟨rfl, hd, fr_r⟩)
  | succ d ih =>
    intro i fu S hi hfu hX hd
    obtain ⟨fu, rfl⟩ : ∃ z, fu = z + 1 := ⟨fu - 1, by omega⟩
    rw [X9_copyAll_4, g0, g1, nI_clamp (by omega), h0, h1]
    refine pw_f (nI_ge (b := 3) (by omega) (by decide)) (pw_gd (fy_ix_nI (by omega) (by decide)) (pw_gd (fy_ix_nI (by omega) (by decide)) (pw_bd (X_cpA (by omega) (by omega) (by omega) (hw i (by omega)) (hX i (by omega))) (fun S1 s1 => pw_gd (fy_ix_nI (by omega) (by decide)) (pw_bl (pw_bl ?_))))))
    rw [s1.1.1, nI_add, nI_1]
    refine pw_m (ih (i + 1) fu S1 (by omega) (by omega) (fun a ha => pu_XA_c (hX a ha) (fun z k h1 h2 => s1.2 z k (by omega))) (fun a ha => ?_)) (fun R r => ⟨r.1, r.2.1, fr_t (fr_m s1.2 (fun z k h => by omega)) r.2.2⟩)
    by_cases e : a = i
    · rw [e]; exact s1.1
    · exact pu_XA_c (hd a (by omega)) (fun z k h1 h2 => s1.2 z k (by omega))
theorem M_states {S : fy_S} {As : Nat → pu_A} (h : ∀ a, a < 3 → pu_MA S a (As a)) : M_allStates S = some (nI (fb_sm (fun a => (As a).1) 3)) := by
  rw [M_allStates]
  refine pw_eq (pw_gd (by decide) (pw_gd (by decide) (pw_gd (by decide) (pw_s ?_))))
  rw [show (0 : Int32).toNatClampNeg = 0 from rfl, show (1 : Int32).toNatClampNeg = 1 from rfl, show (2 : Int32).toNatClampNeg = 2 from rfl, (h 0 (by decide)).1, (h 1 (by decide)).1, (h 2 (by decide)).1, nI_add, nI_add]
  simp [fb_sm]
theorem M_sv {As : Nat → pu_A} (hw : ∀ a, a < 3 → pu_wA (As a)) : ∀ d i fu S, i + d = 3 → d < fu → (∀ a, a < 3 → pu_MA S a (As a)) → (∀ a, a < i → pu_MA S (a + 3) (As a)) → pw (M_save_7 fu S (nI i)) (fun R => R.2 = nI (fb_sm (fun a => (As a).1) 3) ∧ (∀ a, a < 3 → pu_MA R.1 a (As a) ∧ pu_MA R.1 (a + 3) (As a)) ∧ fr (fun z k => pu_ma 3 z k ∨ pu_ma 4 z k ∨ pu_ma 5 z k) S R.1) := by
  intro d
  induction d with
  | zero =>
    intro i fu S hi hfu hX hd
    obtain ⟨fu, rfl⟩ : ∃ z, fu = z + 1 := ⟨fu - 1, by omega⟩
    have : i = 3 := by omega
    subst this
    rw [M_save_7]
    exact pw_t (nI_le (Nat.le_refl 3) (by decide)) (pw_be (M_states hX) (pw_s ⟨rfl, fun a ha => ⟨hX a ha, hd a ha⟩, fr_r⟩))
  | succ d ih =>
    intro i fu S hi hfu hX hd
    obtain ⟨fu, rfl⟩ : ∃ z, fu = z + 1 := ⟨fu - 1, by omega⟩
    rw [M_save_7, show (3 : Int32) + nI i = nI (3 + i) from nI_add 3 i, nI_1]
    refine pw_f (nI_ge (b := 3) (by omega) (by decide)) (pw_bd (M_cp (by omega) (by omega) (hw i (by omega)) (hX i (by omega))) (fun S1 s1 => pw_bl ?_))
    have mv : ∀ a, a ≠ 3 + i → ∀ A, pu_wA A → pu_MA S a A → pu_MA S1 a A := fun a hne A hA hm => pu_MA_c hA hm (fun z g1 g2 => (s1.2 z a (by unfold pu_ma; omega)).1) (fun k g1 g2 => (s1.2 4 k (by unfold pu_ma; omega)).1) (fun k g1 g2 => (s1.2 5 k (by unfold pu_ma; omega)).1) (fun k g1 g2 => (s1.2 6 k (by unfold pu_ma; omega)).1)
    refine pw_m (ih (i + 1) fu S1 (by omega) (by omega) (fun a ha => mv a (by omega) _ (hw a ha) (hX a ha)) (fun a ha => ?_)) (fun R r => ⟨r.1, r.2.1, fr_t (fr_m s1.2 (fun z k h => ?_)) r.2.2⟩)
    · by_cases e : a = i
      · rw [e, Nat.add_comm]; exact s1.1
      · exact mv (a + 3) (by omega) _ (hw a (by omega)) (hd a (by omega))
    · have : i = 0 ∨ i = 1 ∨ i = 2 := by omega
      rcases this with rfl | rfl | rfl
      · exact .inl h
      · exact .inr (.inl h)
      · exact .inr (.inr h)
theorem M_rs {As : Nat → pu_A} (hw : ∀ a, a < 3 → pu_wA (As a)) : ∀ d i fu S, i + d = 3 → d < fu → (∀ a, a < 3 → pu_MA S (a + 3) (As a)) → (∀ a, a < i → pu_MA S a (As a)) → pw (M_restore_12 fu S (nI i)) (fun R => R.2 = nI (fb_sm (fun a => (As a).1) 3) ∧ (∀ a, a < 3 → pu_MA R.1 a (As a) ∧ pu_MA R.1 (a + 3) (As a)) ∧ fr (fun z k => pu_ma 0 z k ∨ pu_ma 1 z k ∨ pu_ma 2 z k) S R.1) := by
  intro d
  induction d with
  | zero =>
    intro i fu S hi hfu hX hd
    obtain ⟨fu, rfl⟩ : ∃ z, fu = z + 1 := ⟨fu - 1, by omega⟩
    have : i = 3 := by omega
    subst this
    rw [M_restore_12]
    exact pw_t (nI_le (Nat.le_refl 3) (by decide)) (pw_be (M_states hd) (pw_s ⟨rfl, fun a ha => ⟨hd a ha, hX a ha⟩, fr_r⟩))
  | succ d ih =>
    intro i fu S hi hfu hX hd
    obtain ⟨fu, rfl⟩ : ∃ z, fu = z + 1 := ⟨fu - 1, by omega⟩
    rw [M_restore_12, show (3 : Int32) + nI i = nI (3 + i) from nI_add 3 i, nI_1]
    refine pw_f (nI_ge (b := 3) (by omega) (by decide)) (pw_bd (M_cp (by omega) (by omega) (hw i (by omega)) (by rw [Nat.add_comm]; exact hX i (by omega))) (fun S1 s1 => pw_bl ?_))
    have mv : ∀ a, a ≠ i → ∀ A, pu_wA A → pu_MA S a A → pu_MA S1 a A := fun a hne A hA hm => pu_MA_c hA hm (fun z g1 g2 => (s1.2 z a (by unfold pu_ma; omega)).1) (fun k g1 g2 => (s1.2 4 k (by unfold pu_ma; omega)).1) (fun k g1 g2 => (s1.2 5 k (by unfold pu_ma; omega)).1) (fun k g1 g2 => (s1.2 6 k (by unfold pu_ma; omega)).1)
    refine pw_m (ih (i + 1) fu S1 (by omega) (by omega) (fun a ha => mv (a + 3) (by omega) _ (hw a ha) (hX a ha)) (fun a ha => ?_)) (fun R r => ⟨r.1, r.2.1, fr_t (fr_m s1.2 (fun z k h => ?_)) r.2.2⟩)
    · by_cases e : a = i
      · rw [e]; exact s1.1
      · exact mv a (by omega) _ (hw a (by omega)) (hd a (by omega))
    · have : i = 0 ∨ i = 1 ∨ i = 2 := by omega
      rcases this with rfl | rfl | rfl
      · exact .inl h
      · exact .inr (.inl h)
      · exact .inr (.inr h)
theorem ez_save {SX SM : fy_S} (h : pu_I SX SM) : pu_O (X9_save SX) (M_save SM) := by
  obtain ⟨G, hw, hX, hM⟩ := h
  have hwa : ∀ a, a < 3 → pu_wA (G.1 a) := fun a ha => hw.1 a (by omega)
  refine pu_both (fun a => if a < 3 then G.1 a else G.1 (a - 3), G.2.1, G.2.2.1, G.2.2.2.1, G.2.2.2.2.1, G.2.2.2.2.2.1, 1) (nI (fb_sm (fun a => (G.1 a).1) 3)) ⟨fun a ha => ?_, hw.2.1, hw.2.2.1, hw.2.2.2.1, hw.2.2.2.2.1, Nat.le_refl _⟩ ?_ ?_
  · have ha : a < 6 := ha
    show pu_wA (if a < 3 then G.1 a else G.1 (a - 3))
    by_cases e : a < 3
    · rw [if_pos e]; exact hwa a e
    · rw [if_neg e]; exact hwa _ (by omega)
  · rw [X9_save]
    have f0 : fr (fun i k => i = 0 ∧ k = 12) SX (fy_sI SX 0 12 1) := fr_I fr_r ⟨rfl, rfl⟩
    refine pw_bl (pw_bp (X_all (v0 := 1) (v1 := 2) (o := 0) (t := 3) (fun k => by rw [X_ar1]; rfl) (fun k => by rw [X_ar2]; omega) (by decide) (by decide) (.inl ⟨rfl, rfl⟩) (As := G.1) hwa 3 0 fy_fu (fy_sI SX 0 12 1) (by omega) (fz_fu (by omega)) (fun a ha => pu_XA_c (hX.1 a (by omega)) (fun i k h1 h2 => f0 i k (by omega))) (fun a ha => absurd ha (Nat.not_lt_zero a))) (fun S r hr => pw_s ⟨hr.1, ?_⟩))
    obtain ⟨-, r1, r2⟩ := hr
    dsimp only at r1 r2
    obtain ⟨h1, h2, h3, h4, h5, h6, h7, h8⟩ := hX
    have f : fr (fun i k => (i = 0 ∧ k = 12) ∨ (161 ≤ i ∧ i < 284)) SX S := fr_t (fr_m f0 (fun i k h => .inl h)) (fr_m r2 (fun i k h => .inr (by omega)))
    refine ⟨fun a ha => ?_, pu_l_c h2 (f _ _ (by omega)).1 (fun k _ => (f _ _ (by omega)).1), pu_l_c h3 (f _ _ (by omega)).1 (fun k _ => (f _ _ (by omega)).1), pu_l_c h4 (f _ _ (by omega)).1 (fun k _ => (f _ _ (by omega)).1), pu_l_c h5 (f _ _ (by omega)).1 (fun k _ => (f _ _ (by omega)).1), ?_, ?_, pu_P_c h8 (f _ _ (by omega)).1 (fun i k _ _ => (f _ _ (by omega)).1)⟩
    · have ha : a < 6 := ha
      show pu_XA S (38 + 41 * a) (if a < 3 then G.1 a else G.1 (a - 3))
      by_cases e : a < 3
      · rw [if_pos e]; exact pu_XA_c (h1 a (by omega)) (fun i k h1 h2 => f i k (by omega))
      · rw [if_neg e]
        have := r1 (a - 3) (by omega)
        rw [show a - 3 + 3 = a by omega] at this
        exact this
    · rw [(f _ _ (by omega)).1]; exact h6
    · rw [(r2 _ _ (by omega)).1, rd_y]; rfl
  · rw [M_save]
    have f0 : fr (fun i k => i = 0 ∧ k = 48) SM (fy_sI SM 0 48 1) := fr_I fr_r ⟨rfl, rfl⟩
    have mv : ∀ a, a < 3 → pu_MA (fy_sI SM 0 48 1) a (G.1 a) := fun a ha => pu_MA_c (hwa a ha) (hM.1 a (by omega)) (fun z g1 g2 => (f0 z a (by omega)).1) (fun k g1 g2 => (f0 4 k (by omega)).1) (fun k g1 g2 => (f0 5 k (by omega)).1) (fun k g1 g2 => (f0 6 k (by omega)).1)
    refine pw_bl (pw_m (M_sv (As := G.1) hwa 3 0 fy_fu _ (by omega) (fz_fu (by omega)) mv (fun a ha => absurd ha (Nat.not_lt_zero a))) (fun R hr => ⟨hr.1, ?_⟩))
    obtain ⟨-, r1, r2⟩ := hr
    obtain ⟨h1, h2, h3, h4, h5, h6, h7⟩ := hM
    have f : fr (fun i k => (i = 0 ∧ k = 48) ∨ (1 ≤ i ∧ i ≤ 6)) SM R.1 := fr_t (fr_m f0 (fun i k h => .inl h)) (fr_m r2 (fun i k h => .inr (by unfold pu_ma at h; omega)))
    refine ⟨fun a ha => ?_, pu_l_c h2 (f _ _ (by omega)).1 (fun k _ => (f _ _ (by omega)).1), pu_l_c h3 (f _ _ (by omega)).1 (fun k _ => (f _ _ (by omega)).1), pu_l_c h4 (f _ _ (by omega)).1 (fun k _ => (f _ _ (by omega)).1), pu_l_c h5 (f _ _ (by omega)).1 (fun k _ => (f _ _ (by omega)).1), ?_, ?_⟩
    · have ha : a < 6 := ha
      show pu_MA R.1 a (if a < 3 then G.1 a else G.1 (a - 3))
      by_cases e : a < 3
      · rw [if_pos e]; exact (r1 a e).1
      · rw [if_neg e]
        have := (r1 (a - 3) (by omega)).2
        rw [show a - 3 + 3 = a by omega] at this
        exact this
    · rw [(f _ _ (by omega)).1]; exact h6
    · rw [(r2 _ _ (by unfold pu_ma; omega)).1, rd_y]; rfl
theorem ez_restore {SX SM : fy_S} (h : pu_I SX SM) : pu_O (X9_restore SX) (M_restore SM) := by
  have hI := h
  obtain ⟨G, hw, hX, hM⟩ := h
  have hs1 : G.2.2.2.2.2.2 ≤ 1 := hw.2.2.2.2.2
  by_cases hs : G.2.2.2.2.2.2 = 0
  · refine pu_same (-5) hI ?_ ?_
    · rw [X9_restore]
      exact pw_eq (pw_t (by rw [hX.2.2.2.2.2.2.1, hs]; rfl) (pw_s rfl))
    · rw [M_restore]
      exact pw_eq (pw_t (by rw [hM.2.2.2.2.2.2, hs]; rfl) (pw_s rfl))
  · have hs : G.2.2.2.2.2.2 = 1 := by omega
    have hwa : ∀ a, a < 3 → pu_wA (G.1 (a + 3)) := fun a ha => hw.1 (a + 3) (by omega)
    refine pu_both (fun a => if a < 3 then G.1 (a + 3) else G.1 a, G.2) (nI (fb_sm (fun a => (G.1 (a + 3)).1) 3)) ⟨fun a ha => ?_, hw.2⟩ ?_ ?_
    · have ha : a < 3 + 3 * G.2.2.2.2.2.2 := ha
      show pu_wA (if a < 3 then G.1 (a + 3) else G.1 a)
      by_cases e : a < 3
      · rw [if_pos e]; exact hwa a e
      · rw [if_neg e]; exact hw.1 a ha
    · rw [X9_restore]
      refine pw_f (by rw [hX.2.2.2.2.2.2.1, hs]; decide) (pw_bp (X_all (v0 := 2) (v1 := 1) (o := 3) (t := 0) (fun k => by rw [X_ar2]; omega) (fun k => by rw [X_ar1]; rfl) (by decide) (by decide) (.inr ⟨rfl, rfl⟩) (As := fun a => G.1 (a + 3)) hwa 3 0 fy_fu SX (by omega) (fz_fu (by omega)) (fun a ha => hX.1 (a + 3) (by omega)) (fun a ha => absurd ha (Nat.not_lt_zero a))) (fun S r hr => pw_s ⟨hr.1, ?_⟩))
      obtain ⟨-, r1, f⟩ := hr
      dsimp only at r1 f
      obtain ⟨h1, h2, h3, h4, h5, h6, h7, h8⟩ := hX
      refine ⟨fun a ha => ?_, pu_l_c h2 (f _ _ (by omega)).1 (fun k _ => (f _ _ (by omega)).1), pu_l_c h3 (f _ _ (by omega)).1 (fun k _ => (f _ _ (by omega)).1), pu_l_c h4 (f _ _ (by omega)).1 (fun k _ => (f _ _ (by omega)).1), pu_l_c h5 (f _ _ (by omega)).1 (fun k _ => (f _ _ (by omega)).1), ?_, ?_, pu_P_c h8 (f _ _ (by omega)).1 (fun i k _ _ => (f _ _ (by omega)).1)⟩
      · have ha : a < 3 + 3 * G.2.2.2.2.2.2 := ha
        show pu_XA S (38 + 41 * a) (if a < 3 then G.1 (a + 3) else G.1 a)
        by_cases e : a < 3
        · rw [if_pos e]; exact r1 a e
        · rw [if_neg e]; exact pu_XA_c (h1 a ha) (fun i k h1 h2 => f i k (by omega))
      · rw [(f _ _ (by omega)).1]; exact h6
      · rw [(f _ _ (by omega)).1]; exact h7
    · rw [M_restore]
      refine pw_f (by rw [hM.2.2.2.2.2.2, hs]; decide) (pw_m (M_rs (As := fun a => G.1 (a + 3)) hwa 3 0 fy_fu SM (by omega) (fz_fu (by omega)) (fun a ha => hM.1 (a + 3) (by omega)) (fun a ha => absurd ha (Nat.not_lt_zero a))) (fun R hr => ⟨hr.1, ?_⟩))
      obtain ⟨-, r1, r2⟩ := hr
      obtain ⟨h1, h2, h3, h4, h5, h6, h7⟩ := hM
      have f : fr (fun i k => 1 ≤ i ∧ i ≤ 6) SM R.1 := fr_m r2 (fun i k h => by unfold pu_ma at h; omega)
      refine ⟨fun a ha => ?_, pu_l_c h2 (f _ _ (by omega)).1 (fun k _ => (f _ _ (by omega)).1), pu_l_c h3 (f _ _ (by omega)).1 (fun k _ => (f _ _ (by omega)).1), pu_l_c h4 (f _ _ (by omega)).1 (fun k _ => (f _ _ (by omega)).1), pu_l_c h5 (f _ _ (by omega)).1 (fun k _ => (f _ _ (by omega)).1), ?_, ?_⟩
      · have ha : a < 3 + 3 * G.2.2.2.2.2.2 := ha
        show pu_MA R.1 a (if a < 3 then G.1 (a + 3) else G.1 a)
        by_cases e : a < 3
        · rw [if_pos e]; exact (r1 a e).1
        · rw [if_neg e]
          have := (r1 (a - 3) (by omega)).2
          rw [show a - 3 + 3 = a by omega] at this
          exact this
      · rw [(f _ _ (by omega)).1]; exact h6
      · rw [(f _ _ (by omega)).1]; exact h7
