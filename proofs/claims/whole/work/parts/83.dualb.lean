/-! dualize: automata -/
def pu_du (A : pu_A) : pu_A := (A.1, A.2.1, 2 ^ A.1 - 1 - A.2.2.1, A.2.2.2.1, fun j => pu_dq (A.2.2.2.2 j))
theorem pu_du_w {A : pu_A} (h : pu_wA A) : pu_wA (pu_du A) := by
  obtain ⟨w1, w2, w3, w4, w5, w6, w7⟩ := h
  have := Nat.two_pow_pos A.1
  exact ⟨w1, w2, w3, w4, by show 2 ^ A.1 - 1 - A.2.2.1 < 2 ^ A.1; omega, w6, fun j hj hu => pu_dq_ok w2 (w7 j hj hu)⟩
theorem pu_du_X : ∀ n, n < 7 → ∀ F, F < 2 ^ n → ((nI F ^^^ (-1 : Int32)) &&& (nI (2 ^ n) - 1)) = nI (2 ^ n - 1 - F) := by decide +kernel
theorem pu_du_M : ∀ n, n < 7 → ∀ F, F < 2 ^ n → (nI (2 ^ n - 1) &&& (nI F ^^^ (-1 : Int32))) = nI (2 ^ n - 1 - F) := by decide +kernel
/-- formulas that are still the old ones -/
def pu_od (S : fy_S) (B n m p x : Nat) (f : Nat → pu_q) : Prop := ∀ p' x', p' < n → x' < m → ¬ (p' < p ∨ (p' = p ∧ x' < x)) → pu_XF S (B + 3 + 2 * (1 + 3 * p' + x')) (f (1 + 3 * p' + x'))
theorem X_duM {a b : Nat} {A : pu_A} (ha : a < 7) (hb : b < 7) (hw : pu_wA A) : ∀ d p fu S, p + d = A.1 → d < fu → S.1 (38 + 41 * a) 3 = nI A.1 → S.1 (38 + 41 * a) 4 = nI A.2.1 → S.1 (38 + 41 * b) 3 = nI A.1 → S.1 (38 + 41 * b) 4 = nI A.2.1 → pu_od S (38 + 41 * b) A.1 A.2.1 p 0 A.2.2.2.2 → pu_dn S (38 + 41 * a) A.1 A.2.1 p 0 (fun j => pu_dq (A.2.2.2.2 j)) → pw (X0_becomeDual_41 fu S (38 + 41 * a) (38 + 41 * b) (nI p)) (fun S' => pu_dn S' (38 + 41 * a) A.1 A.2.1 A.1 0 (fun j => pu_dq (A.2.2.2.2 j)) ∧ fr (fun i _ => 38 + 41 * a + 5 ≤ i ∧ i < 38 + 41 * a + 41) S S') := by
  have hn6 : A.1 ≤ 6 := hw.2.1
  have hm3 : A.2.1 ≤ 3 := hw.2.2.2.1
  intro d
  induction d with
  | zero =>
    intro p fu S hp hfu h3 h4 g3 g4 ho hd
    obtain ⟨fu, rfl⟩ : ∃ z, fu = z + 1 := ⟨fu - 1, by omega⟩
    have : p = A.1 := by omega
    subst this
    rw [X0_becomeDual_41, h3]
    exact pw_t (nI_le (Nat.le_refl _) (by omega)) (pw_s ⟨hd, fr_r⟩)
  | succ d ih =>
    intro p fu S hp hfu h3 h4 g3 g4 ho hd
    obtain ⟨fu, rfl⟩ : ∃ z, fu = z + 1 := ⟨fu - 1, by omega⟩
    have hpn : p < A.1 := by omega
    rw [X0_becomeDual_41, h3]
    refine pw_f (nI_ge hpn (by omega)) ?_
    have inner : ∀ c x fu' S', x + c = A.2.1 → c < fu' → fr (fun i _ => 38 + 41 * a + 5 ≤ i ∧ i < 38 + 41 * a + 41) S S' → pu_od S' (38 + 41 * b) A.1 A.2.1 p x A.2.2.2.2 → pu_dn S' (38 + 41 * a) A.1 A.2.1 p x (fun j => pu_dq (A.2.2.2.2 j)) → pw (X0_becomeDual_51 (fun S v0 v1 v2 => X0_becomeDual_41 fu S v0 v1 v2) fu' S' (38 + 41 * a) (38 + 41 * b) (nI p) (nI x)) (fun S' => pu_dn S' (38 + 41 * a) A.1 A.2.1 A.1 0 (fun j => pu_dq (A.2.2.2.2 j)) ∧ fr (fun i _ => 38 + 41 * a + 5 ≤ i ∧ i < 38 + 41 * a + 41) S S') := by
      intro c
      induction c with
      | zero =>
        intro x fu' S' hx hfu' hf ho' hd'
        obtain ⟨fu', rfl⟩ : ∃ z, fu' = z + 1 := ⟨fu' - 1, by omega⟩
        have : x = A.2.1 := by omega
        subst this
        rw [X0_becomeDual_51, (hf _ _ (by omega)).1, h4]
        refine pw_t (nI_le (Nat.le_refl _) (by omega)) (pw_bl ?_)
        rw [nI_1]
        refine pw_m (ih (p + 1) fu S' (by omega) (by omega) (by rw [(hf _ _ (by omega)).1]; exact h3) (by rw [(hf _ _ (by omega)).1]; exact h4) (by rw [(hf _ _ (by omega)).1]; exact g3) (by rw [(hf _ _ (by omega)).1]; exact g4) (fun p' x' h1 h2 h3 => ho' p' x' h1 h2 (by omega)) (fun p' x' h1 h2 h3 => hd' p' x' h1 h2 (by omega))) (fun S'' h'' => ⟨h''.1, fr_t hf h''.2⟩)
      | succ c ih2 =>
        intro x fu' S' hx hfu' hf ho' hd'
        obtain ⟨fu', rfl⟩ : ∃ z, fu' = z + 1 := ⟨fu' - 1, by omega⟩
        have hxm : x < A.2.1 := by omega
        have hu : pu_u A (1 + 3 * p + x) := pu_u_m hpn hxm hm3
        rw [X0_becomeDual_51, (hf _ _ (by omega)).1, h4]
        refine pw_f (nI_ge hxm (by omega)) (pw_be (X_move ha (by rw [(hf _ _ (by omega)).1]; exact h3) (by rw [(hf _ _ (by omega)).1]; exact h4) hpn hn6 hxm hm3) (pw_be (X_move hb (by rw [(hf _ _ (by omega)).1]; exact g3) (by rw [(hf _ _ (by omega)).1]; exact g4) hpn hn6 hxm hm3) ?_))
        refine pw_bd (X_dual1 hn6 (hw.2.2.2.2.2.2 _ (by omega) hu) (by omega) (ho' p x hpn hxm (by omega))) (fun S2 h2 => pw_bl ?_)
        rw [nI_1]
        refine ih2 (x + 1) fu' S2 (by omega) (by omega) (fr_t hf (fr_m h2.2 (fun i k h => by omega))) (fun p' x' z1 z2 z3 => pu_XF_c (ho' p' x' z1 z2 (by omega)) (fun i k hi => h2.2 i k (by omega))) (fun p' x' z1 z2 z3 => ?_)
        by_cases e : p' = p ∧ x' = x
        · rw [e.1, e.2]; exact h2.1
        · exact pu_XF_c (hd' p' x' z1 z2 (by omega)) (fun i k hi => h2.2 i k (by omega))
    exact inner A.2.1 0 fy_fu S (by omega) (fz_fu (by omega)) fr_r ho hd
theorem X_duA {S : fy_S} {a b : Nat} {A : pu_A} (ha : a < 7) (hb : b < 7) (hw : pu_wA A) (hX : pu_XA S (38 + 41 * b) A) : pw (X0_becomeDual S (38 + 41 * a) (38 + 41 * b)) (fun S' => pu_XA S' (38 + 41 * a) (pu_du A) ∧ fr (fun i _ => 38 + 41 * a ≤ i ∧ i < 38 + 41 * a + 41) S S') := by
  have hn6 : A.1 ≤ 6 := hw.2.1
  have hm3 : A.2.1 ≤ 3 := hw.2.2.2.1
  have hu0 : pu_u A 0 := .inl rfl
  rw [X0_becomeDual, hX.1]
  refine pw_bd X_shape' (fun S1 h1 => pw_bl ?_)
  obtain ⟨s1, s2, s3, s4⟩ := h1
  rw [(s4 _ _ (by omega)).1, hX.2.2.1, s1, pu_sh1 _ (by omega), pu_du_X _ (by omega) _ hw.2.2.2.2.1]
  have f1 : fr (fun i k => i = 38 + 41 * a ∨ i = 38 + 41 * a + 1) S (fy_sI S1 (38 + 41 * a) 5 (nI (2 ^ A.1 - 1 - A.2.2.1))) := fr_I (fr_m s4 (fun i k h => by omega)) (.inl rfl)
  have g0 := pu_XF_c (hX.2.2.2.2 0 (by decide) hu0) (fun i k hi => f1 i k (by omega))
  refine pw_bd (X_dual1 hn6 (hw.2.2.2.2.2.2 0 (by decide) hu0) (by omega) g0) (fun S2 h2 => ?_)
  have f2 : fr (fun i k => i = 38 + 41 * a ∨ i = 38 + 41 * a + 1 ∨ i = 38 + 41 * a + 3 ∨ i = 38 + 41 * a + 3 + 1) S S2 := fr_t (fr_m f1 (fun i k h => by omega)) (fr_m h2.2 (fun i k h => by omega))
  have e3 : S2.1 (38 + 41 * a) 3 = nI A.1 := by rw [(h2.2 _ _ (by omega)).1, rd_n (by omega)]; exact s1
  have e4 : S2.1 (38 + 41 * a) 4 = nI A.2.1 := by rw [(h2.2 _ _ (by omega)).1, rd_n (by omega), s2]; exact hX.2.1
  have q3 : S2.1 (38 + 41 * b) 3 = nI A.1 := by
    by_cases e : a = b
    · rw [← e]; exact e3
    · rw [(f2 _ _ (by omega)).1]; exact hX.1
  have q4 : S2.1 (38 + 41 * b) 4 = nI A.2.1 := by
    by_cases e : a = b
    · rw [← e]; exact e4
    · rw [(f2 _ _ (by omega)).1]; exact hX.2.1
  refine pw_m (X_duM ha hb hw A.1 0 fy_fu S2 (by omega) (fz_fu (by omega)) e3 e4 q3 q4 (fun p' x' z1 z2 _ => pu_XF_c (hX.2.2.2.2 _ (by omega) (pu_u_m z1 z2 hm3)) (fun i k hi => f2 i k (by
    have h1 : 38 + 41 * b + 5 ≤ i := by omega
    have h2 : i < 38 + 41 * b + 41 := by omega
    clear hi z1 z2
    rcases Nat.lt_trichotomy a b with h | h | h <;> omega))) (fun p' x' _ _ h => by omega)) (fun S3 h3 => ⟨⟨?_, ?_, ?_, fun x hx => ?_, fun j hj hu => ?_⟩, ?_⟩)
  · rw [(h3.2 _ _ (by omega)).1]; exact e3
  · rw [(h3.2 _ _ (by omega)).1]; exact e4
  · rw [(h3.2 _ _ (by omega)).1, (h2.2 _ _ (by omega)).1, rd_y]; rfl
  · rw [(h3.2 _ _ (by omega)).1, (h2.2 _ _ (by omega)).1, rd_n (by omega), s3 x hx]; exact hX.2.2.2.1 x hx
  · rcases hu with e | ⟨z1, z2, z3⟩
    · subst e
      exact pu_XF_c h2.1 (fun i k hi => h3.2 i k (by omega))
    · have := h3.1 ((j - 1) / 3) ((j - 1) % 3) z2 z3 (by have : (j - 1) / 3 < A.1 := z2; omega)
      rw [show 1 + 3 * ((j - 1) / 3) + (j - 1) % 3 = j by omega] at this
      exact this
  · exact fr_t (fr_m f2 (fun i k h => by omega)) (fr_m h3.2 (fun i k h => by omega))
/-! the reference's dual -/
def pu_dI (v : Int32) : Int32 := if v = 8 then 9 else if v = 9 then 8 else if v = 10 then 11 else if v = 11 then 10 else v
theorem M_dualOf_e {S : fy_S} {v : Int32} : M_dualOf S v = some (pu_dI v) := by
  rw [M_dualOf, pu_dI]
  split
  · rfl
  · split
    · rfl
    · split
      · rfl
      · split <;> rfl
theorem pu_dI_c : ∀ c, c < 10 → pu_dI (nI (pu_c c)) = nI (pu_c (pu_dl c)) := by decide +kernel
theorem M_du_l {b : Nat} {A : pu_A} (hb : b < 7) (hw : pu_wA A) : ∀ d f fu S, f + d = 19 → d < fu → S.1 3 b = nI A.2.2.1 → (∀ j, j < 19 → ∃ z : Nat, z ≤ 40 ∧ S.1 5 (19 * b + j) = nI z) → (∀ j, j < f → pu_u A j → pu_MF S b j (pu_dq (A.2.2.2.2 j))) → (∀ j, f ≤ j → j < 19 → pu_u A j → pu_MF S b j (A.2.2.2.2 j)) → pw (M_dualize_45 fu S (nI b) (nI f)) (fun R => R.2 = nI A.2.2.1 ∧ (∀ j, j < 19 → pu_u A j → pu_MF R.1 b j (pu_dq (A.2.2.2.2 j))) ∧ fr (fun z k => z = 6 ∧ 760 * b ≤ k ∧ k < 760 * b + 760) S R.1) := by
  have hn6 : A.1 ≤ 6 := hw.2.1
  intro d
  induction d with
  | zero =>
    intro f fu S hf hfu h3 hz hd ho
    obtain ⟨fu, rfl⟩ : ∃ z, fu = z + 1 := ⟨fu - 1, by omega⟩
    have : f = 19 := by omega
    subst this
    rw [M_dualize_45]
    refine pw_t (nI_le (Nat.le_refl 19) (by decide)) (pw_gd (fy_ix_nI hb (by decide)) (pw_s ⟨?_, hd, fr_r⟩))
    rw [nI_clamp (by omega)]; exact h3
  | succ d ih =>
    intro f fu S hf hfu h3 hz hd ho
    obtain ⟨fu, rfl⟩ : ∃ z, fu = z + 1 := ⟨fu - 1, by omega⟩
    obtain ⟨z, hz40, hz5⟩ := hz f (by omega)
    rw [M_dualize_45]
    refine pw_f (nI_ge (b := 19) (by omega) (by decide)) ?_
    have inner : ∀ c k fu' S', k + c = z → c < fu' → fr (fun i t => i = 6 ∧ 40 * (19 * b + f) ≤ t ∧ t < 40 * (19 * b + f) + 40) S S' → (∀ t, t < k → S'.1 6 (40 * (19 * b + f) + t) = pu_dI (S.1 6 (40 * (19 * b + f) + t))) → (∀ t, k ≤ t → S'.1 6 (40 * (19 * b + f) + t) = S.1 6 (40 * (19 * b + f) + t)) → pw (M_dualize_54 (fun S v2 v3 => M_dualize_45 fu S v2 v3) fu' S' (nI b) (nI f) (nI k)) (fun R => R.2 = nI A.2.2.1 ∧ (∀ j, j < 19 → pu_u A j → pu_MF R.1 b j (pu_dq (A.2.2.2.2 j))) ∧ fr (fun z k => z = 6 ∧ 760 * b ≤ k ∧ k < 760 * b + 760) S R.1) := by
      intro c
      induction c with
      | zero =>
        intro k fu' S' hk hfu' hfr h1 h2
        obtain ⟨fu', rfl⟩ : ∃ z, fu' = z + 1 := ⟨fu' - 1, by omega⟩
        have : k = z := by omega
        subst this
        rw [M_dualize_54]
        refine pw_be (M_size hb (by omega) (by rw [(hfr _ _ (by omega)).1]; exact hz5)) (pw_t (nI_le (Nat.le_refl _) (by omega)) (pw_bl ?_))
        rw [nI_1]
        have mv : ∀ j q, j ≠ f → q.1 ≤ 40 → pu_MF S b j q → pu_MF S' b j q := fun j q hj hq h => pu_l_c h (by rw [(hfr _ _ (by omega)).1]) (fun t ht => (hfr _ _ (by have : t < q.1 := ht; omega)).1)
        refine pw_m (ih (f + 1) fu S' (by omega) (by omega) (by rw [(hfr _ _ (by omega)).1]; exact h3) (fun j hj => by rw [(hfr _ _ (by omega)).1]; exact hz j hj) (fun j hj hu => ?_) (fun j hj1 hj2 hu => mv j _ (by omega) (hw.2.2.2.2.2.2 j hj2 hu).2.1 (ho j (by omega) hj2 hu))) (fun R r => ⟨r.1, r.2.1, fr_t (fr_m hfr (fun i t h => by omega)) r.2.2⟩)
        by_cases e : j = f
        · subst e
          have hq := hw.2.2.2.2.2.2 j (by omega) hu
          have hm := ho j (Nat.le_refl _) (by omega) hu
          have hq40 := hq.2.1
          have hkz : (A.2.2.2.2 j).1 = k := by
            have e1 := hm.1
            rw [hz5] at e1
            exact ((nI_eq (by omega) (by show (A.2.2.2.2 j).1 < 2 ^ 31; omega)).mp e1).symm
          refine ⟨by rw [(hfr _ _ (by omega)).1]; exact hm.1, fun t ht => ?_⟩
          have ht : t < (A.2.2.2.2 j).1 := ht
          show S'.1 6 _ = nI (pu_c (pu_dl ((A.2.2.2.2 j).2 t)))
          rw [h1 t (by omega), ← pu_dI_c _ (pu_ok10 hn6 hq ht)]
          exact congrArg pu_dI (hm.2 t ht)
        · exact mv j _ e (hw.2.2.2.2.2.2 j (by omega) hu).2.1 (hd j (by omega) hu)
      | succ c ih2 =>
        intro k fu' S' hk hfu' hfr h1 h2
        obtain ⟨fu', rfl⟩ : ∃ z, fu' = z + 1 := ⟨fu' - 1, by omega⟩
        rw [M_dualize_54]
        refine pw_be (M_size hb (by omega) (by rw [(hfr _ _ (by omega)).1]; exact hz5)) (pw_f (nI_ge (by omega) (by omega)) (pw_be M_at_e (pw_be M_at_e ?_)))
        rw [nI_add, nI_1]
        refine pw_gd (fy_ix_nI (by omega) (by decide)) (pw_be M_dualOf_e (pw_gd (fy_ix_nI (by omega) (by decide)) (pw_bl (pw_bl ?_))))
        rw [nI_clamp (by omega)]
        refine ih2 (k + 1) fu' _ (by omega) (by omega) (fr_I hfr ⟨rfl, by omega, by omega⟩) (fun t ht => ?_) (fun t ht => by rw [rd_n (by omega)]; exact h2 t (by omega))
        by_cases e : t = k
        · rw [e, rd_y, h2 k (Nat.le_refl _)]
        · rw [rd_n (by omega)]; exact h1 t (by omega)
    exact inner z 0 fy_fu S (by omega) (fz_fu (by omega)) fr_r (fun t ht => absurd ht (Nat.not_lt_zero t)) (fun t _ => rfl)
theorem M_du {S : fy_S} {a b : Nat} {A : pu_A} (ha : a < 3) (hb : b < 3) (hw : pu_wA A) (h : pu_MA S a A) : pw (M_dualize S (nI a) (nI b)) (fun R => R.2 = nI (pu_du A).2.2.1 ∧ pu_MA R.1 b (pu_du A) ∧ fr (pu_ma b) S R.1) := by
  have hn6 : A.1 ≤ 6 := hw.2.1
  rw [M_dualize]
  refine pw_be (M_slot_y ha) (pw_f (by decide) (pw_be (M_slot_y hb) (pw_f (by decide) (pw_bd (M_cp (by omega) (by omega) hw h) (fun S1 h1 => ?_)))))
  obtain ⟨⟨g1, g2, g3, g4, g5, g6⟩, f1⟩ := h1
  refine pw_be (M_all (by omega) g1 hn6) (pw_gd (fy_ix_nI (by omega) (by decide)) (pw_gd (fy_ix_nI (by omega) (by decide)) (pw_bl ?_)))
  rw [nI_clamp (by omega), g3, pu_du_M _ (by omega) _ hw.2.2.2.2.1]
  have f2 : fr (fun i k => i = 3 ∧ k = b) S1 (fy_sI S1 3 b (nI (2 ^ A.1 - 1 - A.2.2.1))) := fr_I fr_r ⟨rfl, rfl⟩
  refine pw_m (M_du_l (A := (A.1, A.2.1, 2 ^ A.1 - 1 - A.2.2.1, A.2.2.2.1, A.2.2.2.2)) (b := b) (by omega) ?_ 19 0 fy_fu _ (by omega) (fz_fu (by omega)) rd_y (fun j hj => by rw [(f2 _ _ (by omega)).1]; exact g5 j hj) (fun j hj => absurd hj (Nat.not_lt_zero j)) (fun j _ hj hu => pu_l_c (g6 j hj hu) (f2 _ _ (by omega)).1 (fun t _ => (f2 _ _ (by omega)).1))) (fun R r => ⟨r.1, ⟨?_, ?_, ?_, fun x hx => ?_, fun j hj => ?_, r.2.1⟩, ?_⟩)
  · have := pu_du_w hw
    exact ⟨this.1, this.2.1, this.2.2.1, this.2.2.2.1, this.2.2.2.2.1, this.2.2.2.2.2.1, hw.2.2.2.2.2.2⟩
  · rw [(r.2.2 _ _ (by omega)).1, (f2 _ _ (by omega)).1]; exact g1
  · rw [(r.2.2 _ _ (by omega)).1, (f2 _ _ (by omega)).1]; exact g2
  · rw [(r.2.2 _ _ (by omega)).1, rd_y]; rfl
  · rw [(r.2.2 _ _ (by omega)).1, (f2 _ _ (by omega)).1]; exact g4 x hx
  · rw [(r.2.2 _ _ (by omega)).1, (f2 _ _ (by omega)).1]; exact g5 j hj
  · exact fr_t (fr_t f1 (fr_m f2 (fun i k h => by unfold pu_ma; omega))) (fr_m r.2.2 (fun i k h => by unfold pu_ma; omega))
theorem ez_dualize {SX SM : fy_S} (v1 v2 : Int32) (h : pu_I SX SM) : pu_O (X9_dualize SX v1 v2) (M_dualize SM v1 v2) := by
  rcases pu_slot v1 with ⟨a, ha, rfl⟩ | hb
  · rcases pu_slot v2 with ⟨b, hb, rfl⟩ | hb
    · obtain ⟨G, hw, hX, hM⟩ := h
      have hwA := hw.1 a (by omega)
      refine pu_both (pu_sA G b (pu_du (G.1 a))) (nI (pu_du (G.1 a)).2.2.1) (pu_W_a hw (pu_du_w hwA)) ?_ ?_
      · rw [X9_dualize]
        exact pw_be (X_ain_y ha) (pw_be (X_ain_y hb) (pw_bd (X_duA (by omega) (by omega) hwA (hX.1 a (by omega))) (fun S' h' => pw_s ⟨h'.1.2.2.1, pu_X_a hX h'.2 h'.1⟩)))
      · exact pw_m (M_du ha hb hwA (hM.1 a (by omega))) (fun R r => ⟨r.1, pu_M_a hw hM r.2.2 r.2.1⟩)
    · refine pu_same (-2) h ?_ ?_
      · rw [X9_dualize]; exact pw_eq (pw_be (X_ain_y ha) (pw_be (X_ain_n hb) (pw_s rfl)))
      · rw [M_dualize]; exact pw_eq (pw_be (M_slot_y ha) (pw_f (by decide) (pw_be (M_slot_n hb) (pw_t rfl (pw_s rfl)))))
  · refine pu_same (-2) h ?_ ?_
    · rw [X9_dualize]
      rcases pu_slot v2 with ⟨b, hb2, rfl⟩ | hb2
      · exact pw_eq (pw_be (X_ain_n hb) (pw_be (X_ain_y hb2) (pw_s rfl)))
      · exact pw_eq (pw_be (X_ain_n hb) (pw_be (X_ain_n hb2) (pw_s rfl)))
    · rw [M_dualize]; exact pw_eq (pw_be (M_slot_n hb) (pw_t rfl (pw_s rfl)))
