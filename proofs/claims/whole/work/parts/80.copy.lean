/-! copies: formulas, automata, save, restore -/
theorem pu_fit_b : ∀ c, c < 10 → fits .byte (.int (nI c)) = true := by decide +kernel
theorem pu_ok10 {n : Nat} {q : pu_q} (hn : n ≤ 6) (h : pu_ok n q) {k : Nat} (hk : k < q.1) : q.2 k < 10 := by
  have := (h.2.2.1 k hk).1
  omega
theorem X_become {S : fy_S} {id id' : Nat} {q : pu_q} {T : Int64} (hT : T = pu_T q) (hl : q.1 ≤ X_al id') (h40 : 1 ≤ q.1) (h41 : q.1 ≤ 40) (hal : X_al id' < 2 ^ 31) (h10 : ∀ k, k < q.1 → q.2 k < 10) (h : ∀ k, k < q.1 → S.1 id' k = nI (q.2 k)) : pw (X2_become S id id' (nI q.1) T) (fun S' => pu_XF S' id q ∧ fr (fun i _ => i = id ∨ i = id + 1) S S') := by
  rw [X2_become]
  refine pw_f (nI_nlt (b := 1) h40 (by omega)) (pw_f (nI_nlt (a := 40) h41 (by decide)) (pw_t (nI_le hl hal) (pw_gd ?_ (pw_bl (pw_bl (pw_bl (pw_s ⟨⟨⟨?_, fun k hk => ?_⟩, ?_⟩, fr_L (fr_I (fr_A fr_r (fun _ => .inr rfl)) (.inl rfl)) (.inl rfl)⟩)))))))
  · unfold fy_cpI
    rw [nI_clamp (by omega)]
    refine decide_eq_true ⟨by decide, by decide, nI_pos (by omega), by show 0 + q.1 ≤ _; omega, by show 0 + q.1 ≤ _; omega, fun i hi => ?_⟩
    rw [show (0 : Int32).toNatClampNeg + i = i by show 0 + i = i; omega, h i hi]
    exact pu_fit_b _ (h10 i hi)
  · rw [rd_L1, rd_y]
  · rw [rd_L1, rd_n (by omega), rd_A, if_pos rfl, nI_clamp (by omega)]
    exact (sb_cpy0 hk).trans (h k hk)
  · rw [rd_Ly, hT]
theorem X_al40 : ∀ a, a < 7 → ∀ j, j < 19 → X_al (38 + 41 * a + 3 + 2 * j + 1) = 40 := by decide +kernel
theorem X_cpF {S : fy_S} {n id b j : Nat} {q : pu_q} (hb : b < 7) (hj : j < 19) (hn : n ≤ 6) (hq : pu_ok n q) (h : pu_XF S (38 + 41 * b + 3 + 2 * j) q) : pw (X2_copy S id (38 + 41 * b + 3 + 2 * j)) (fun S' => pu_XF S' id q ∧ fr (fun i _ => i = id ∨ i = id + 1) S S') := by
  have e := X_al40 b hb j hj
  rw [X2_copy, h.1.1]
  exact pw_bd (X_become h.2 (by rw [e]; exact hq.2.1) hq.1 hq.2.1 (by rw [e]; decide) (fun k hk => pu_ok10 hn hq hk) h.1.2) (fun S' h' => pw_s h')
/-- formulas of the rows before p, and of row p before x -/
def pu_dn (S : fy_S) (B n m p x : Nat) (f : Nat → pu_q) : Prop := ∀ p' x', p' < n → x' < m → (p' < p ∨ (p' = p ∧ x' < x)) → pu_XF S (B + 3 + 2 * (1 + 3 * p' + x')) (f (1 + 3 * p' + x'))
theorem X_cpM {a b N : Nat} {A : pu_A} (ha : a < 7) (hb : b < 7) (hab : a ≠ b) (hw : pu_wA A) (hN : A.1 ≤ N) (hN6 : N ≤ 6) : ∀ d p fu S, p + d = A.1 → d < fu → S.1 (38 + 41 * a) 3 = nI N → S.1 (38 + 41 * a) 4 = nI A.2.1 → pu_XA S (38 + 41 * b) A → pu_dn S (38 + 41 * a) A.1 A.2.1 p 0 A.2.2.2.2 → pw (X0_copyMoves_2 fu S (38 + 41 * a) (38 + 41 * b) (nI p)) (fun S' => pu_dn S' (38 + 41 * a) A.1 A.2.1 A.1 0 A.2.2.2.2 ∧ fr (fun i _ => 38 + 41 * a + 5 ≤ i ∧ i < 38 + 41 * a + 41) S S') := by
  have hn6 : A.1 ≤ 6 := hw.2.1
  have hm3 : A.2.1 ≤ 3 := hw.2.2.2.1
  intro d
  induction d with
  | zero =>
    intro p fu S hp hfu h3 h4 hX hd
    obtain ⟨fu, rfl⟩ : ∃ z, fu = z + 1 := ⟨fu - 1, by omega⟩
    have : p = A.1 := by omega
    subst this
    rw [X0_copyMoves_2, hX.1]
    exact pw_t (nI_le (Nat.le_refl _) (by omega)) (pw_s ⟨hd, fr_r⟩)
  | succ d ih =>
    intro p fu S hp hfu h3 h4 hX hd
    obtain ⟨fu, rfl⟩ : ∃ z, fu = z + 1 := ⟨fu - 1, by omega⟩
    have hpn : p < A.1 := by omega
    rw [X0_copyMoves_2, hX.1]
    refine pw_f (nI_ge hpn (by omega)) ?_
    have inner : ∀ c x fu' S', x + c = A.2.1 → c < fu' → fr (fun i _ => 38 + 41 * a + 5 ≤ i ∧ i < 38 + 41 * a + 41) S S' → pu_dn S' (38 + 41 * a) A.1 A.2.1 p x A.2.2.2.2 → pw (X0_copyMoves_12 (fun S v0 v1 v2 => X0_copyMoves_2 fu S v0 v1 v2) fu' S' (38 + 41 * a) (38 + 41 * b) (nI p) (nI x)) (fun S' => pu_dn S' (38 + 41 * a) A.1 A.2.1 A.1 0 A.2.2.2.2 ∧ fr (fun i _ => 38 + 41 * a + 5 ≤ i ∧ i < 38 + 41 * a + 41) S S') := by
      intro c
      induction c with
      | zero =>
        intro x fu' S' hx hfu' hf hd'
        obtain ⟨fu', rfl⟩ : ∃ z, fu' = z + 1 := ⟨fu' - 1, by omega⟩
        have : x = A.2.1 := by omega
        subst this
        rw [X0_copyMoves_12, (hf _ _ (by omega)).1, h4]
        refine pw_t (nI_le (Nat.le_refl _) (by omega)) (pw_bl ?_)
        rw [nI_1]
        refine pw_m (ih (p + 1) fu S' (by omega) (by omega) (by rw [(hf _ _ (by omega)).1]; exact h3) (by rw [(hf _ _ (by omega)).1]; exact h4) (pu_XA_c hX (fun i k g1 g2 => hf i k (by omega))) (fun p' x' h1 h2 h3 => hd' p' x' h1 h2 (by omega))) (fun S'' h'' => ⟨h''.1, fr_t hf h''.2⟩)
      | succ c ih2 =>
        intro x fu' S' hx hfu' hf hd'
        obtain ⟨fu', rfl⟩ : ∃ z, fu' = z + 1 := ⟨fu' - 1, by omega⟩
        have hxm : x < A.2.1 := by omega
        have hX' := pu_XA_c hX (fun i k g1 g2 => hf i k (by omega))
        have hu : pu_u A (1 + 3 * p + x) := pu_u_m hpn hxm hm3
        rw [X0_copyMoves_12, (hf _ _ (by omega)).1, h4]
        refine pw_f (nI_ge hxm (by omega)) (pw_be (X_move ha (by rw [(hf _ _ (by omega)).1]; exact h3) (by rw [(hf _ _ (by omega)).1]; exact h4) (by omega) hN6 hxm hm3) (pw_be (X_move hb hX'.1 hX'.2.1 hpn hn6 hxm hm3) ?_))
        refine pw_bd (X_cpF hb (by omega) hn6 (hw.2.2.2.2.2.2 _ (by omega) hu) (hX'.2.2.2.2 _ (by omega) hu)) (fun S2 h2 => pw_bl ?_)
        rw [nI_1]
        refine ih2 (x + 1) fu' S2 (by omega) (by omega) (fr_t hf (fr_m h2.2 (fun i k h => by omega))) (fun p' x' g1 g2 g3 => ?_)
        by_cases e : p' = p ∧ x' = x
        · rw [e.1, e.2]; exact h2.1
        · exact pu_XF_c (hd' p' x' g1 g2 (by omega)) (fun i k hi => h2.2 i k (by omega))
    exact inner A.2.1 0 fy_fu S (by omega) (fz_fu (by omega)) fr_r hd
theorem X_shape {S : fy_S} {a b n : Nat} (hab : a ≠ b) : pw (X0_takeShape S (38 + 41 * a) (38 + 41 * b) (nI n)) (fun S' => S'.1 (38 + 41 * a) 3 = nI n ∧ S'.1 (38 + 41 * a) 4 = S.1 (38 + 41 * b) 4 ∧ (∀ x, x < 3 → S'.1 (38 + 41 * a + 1) x = S.1 (38 + 41 * b + 1) x) ∧ fr (fun i k => (i = 38 + 41 * a ∧ (k = 3 ∨ k = 4)) ∨ i = 38 + 41 * a + 1) S S') := by
  rw [X0_takeShape]
  refine pw_bl (pw_bl (pw_gd ?_ (pw_bl (pw_s ⟨?_, ?_, fun x hx => ?_, fr_A (fr_I (fr_I fr_r (by omega)) (by omega)) (fun _ => .inr rfl)⟩))))
  · unfold fy_cpI
    exact decide_eq_true ⟨by decide, by decide, by decide, by decide, by decide, fun i hi => rfl⟩
  · rw [rd_A, if_neg (by omega), rd_n (by omega), rd_y]
  · rw [rd_A, if_neg (by omega), rd_y, rd_n (by omega)]
  · rw [rd_A, if_pos rfl]
    refine (sb_cpy0 hx).trans ?_
    rw [rd_n (by omega), rd_n (by omega)]
theorem X_cpA {S : fy_S} {a b : Nat} {A : pu_A} (ha : a < 7) (hb : b < 7) (hab : a ≠ b) (hw : pu_wA A) (hX : pu_XA S (38 + 41 * b) A) : pw (X0_copy S (38 + 41 * a) (38 + 41 * b)) (fun S' => pu_XA S' (38 + 41 * a) A ∧ fr (fun i _ => 38 + 41 * a ≤ i ∧ i < 38 + 41 * a + 41) S S') := by
  have hn6 : A.1 ≤ 6 := hw.2.1
  have hm3 : A.2.1 ≤ 3 := hw.2.2.2.1
  have hu0 : pu_u A 0 := .inl rfl
  rw [X0_copy, hX.1]
  refine pw_bd (X_shape hab) (fun S1 h1 => pw_bl ?_)
  obtain ⟨s1, s2, s3, s4⟩ := h1
  rw [(s4 _ _ (by omega)).1, hX.2.2.1]
  have hXb : pu_XA (fy_sI S1 (38 + 41 * a) 5 (nI A.2.2.1)) (38 + 41 * b) A := pu_XA_c hX (fun i k g1 g2 => by rw [rd_n (by omega), rd_I2]; exact s4 i k (by omega))
  refine pw_bd (X_cpF (j := 0) hb (by decide) hn6 (hw.2.2.2.2.2.2 0 (by decide) hu0) (hXb.2.2.2.2 0 (by decide) hu0)) (fun S2 h2 => ?_)
  have hXb2 : pu_XA S2 (38 + 41 * b) A := pu_XA_c hXb (fun i k g1 g2 => h2.2 i k (by omega))
  have e3 : S2.1 (38 + 41 * a) 3 = nI A.1 := by rw [(h2.2 _ _ (by omega)).1, rd_n (by omega)]; exact s1
  have e4 : S2.1 (38 + 41 * a) 4 = nI A.2.1 := by rw [(h2.2 _ _ (by omega)).1, rd_n (by omega), s2]; exact hX.2.1
  refine pw_bd (X_cpM ha hb hab hw (Nat.le_refl _) hn6 A.1 0 fy_fu S2 (by omega) (fz_fu (by omega)) e3 e4 hXb2 (fun p' x' _ _ h => by omega)) (fun S3 h3 => pw_s ⟨⟨?_, ?_, ?_, fun x hx => ?_, fun j hj hu => ?_⟩, ?_⟩)
  · rw [(h3.2 _ _ (by omega)).1]; exact e3
  · rw [(h3.2 _ _ (by omega)).1]; exact e4
  · rw [(h3.2 _ _ (by omega)).1, (h2.2 _ _ (by omega)).1, rd_y]
  · rw [(h3.2 _ _ (by omega)).1, (h2.2 _ _ (by omega)).1, rd_n (by omega), s3 x hx]; exact hX.2.2.2.1 x hx
  · rcases hu with e | ⟨g1, g2, g3⟩
    · subst e
      exact pu_XF_c h2.1 (fun i k hi => h3.2 i k (by omega))
    · have := h3.1 ((j - 1) / 3) ((j - 1) % 3) g2 g3 (by omega)
      rw [show 1 + 3 * ((j - 1) / 3) + (j - 1) % 3 = j by omega] at this
      exact this
  · exact fr_t (fr_t (fr_I (fr_m s4 (fun i k h => by omega)) (by omega)) (fr_m h2.2 (fun i k h => by omega))) (fr_m h3.2 (fun i k h => by omega))
