/-! isContained, findDifference -/
def pu_xf (i k : Nat) : Prop := (i = 0 ∧ k = 13) ∨ i = 14 ∨ i = 15 ∨ (20 ≤ i ∧ i ≤ 37)
theorem pu_X_f {S S' : fy_S} {G : pu_G} {q : pu_q} {c : Nat} (h : pu_X S G) (f : fr pu_xf S S') (hq : pu_l (S'.1 15) (S'.1 14 1) q) (hc : S'.1 0 13 = nI c) (hP : pu_P S') : pu_X S' (pu_sf G q c) := by
  obtain ⟨h1, h2, h3, h4, h5, h6, h7, h8⟩ := h
  refine ⟨fun a ha => pu_XA_c (h1 a ha) (fun i k g1 g2 => f i k (by unfold pu_xf; omega)), pu_l_c h2 (f _ _ (by unfold pu_xf; omega)).1 (fun k _ => (f _ _ (by unfold pu_xf; omega)).1), pu_l_c h3 (f _ _ (by unfold pu_xf; omega)).1 (fun k _ => (f _ _ (by unfold pu_xf; omega)).1), pu_l_c h4 (f _ _ (by unfold pu_xf; omega)).1 (fun k _ => (f _ _ (by unfold pu_xf; omega)).1), hq, hc, ?_, hP⟩
  show S'.1 0 12 = nI G.2.2.2.2.2.2
  rw [(f _ _ (by unfold pu_xf; omega)).1]; exact h7
theorem pu_X_f0 {S S' : fy_S} {G : pu_G} (h : pu_X S G) (f : fr (fun i k => 20 ≤ i ∧ i ≤ 37) S S') (hP : pu_P S') : pu_X S' G := by
  have := pu_X_f (q := G.2.2.2.2.1) (c := G.2.2.2.2.2.1) h (fr_m f (fun i k h => by unfold pu_xf; omega)) (pu_l_c h.2.2.2.2.1 (f _ _ (by omega)).1 (fun k _ => (f _ _ (by omega)).1)) (by rw [(f _ _ (by omega)).1]; exact h.2.2.2.2.2.1) hP
  exact this
def pu_mf (i k : Nat) : Prop := (i = 0 ∧ (k = 44 ∨ k = 45)) ∨ (24 ≤ i ∧ i ≤ 33) ∨ (15 ≤ i ∧ i ≤ 23)
theorem pu_M_f {S S' : fy_S} {G : pu_G} {q : pu_q} {c : Nat} (hw : pu_W G) (h : pu_M S G) (f : fr pu_mf S S') (hq : pu_l (S'.1 24) (S'.1 0 44) q) (hc : S'.1 0 45 = nI c) : pu_M S' (pu_sf G q c) := by
  obtain ⟨h1, h2, h3, h4, h5, h6, h7⟩ := h
  refine ⟨fun a ha => pu_MA_c (hw.1 a ha) (h1 a ha) (fun i g1 g2 => (f i a (by unfold pu_mf; omega)).1) (fun k g1 g2 => (f 4 k (by unfold pu_mf; omega)).1) (fun k g1 g2 => (f 5 k (by unfold pu_mf; omega)).1) (fun k g1 g2 => (f 6 k (by unfold pu_mf; omega)).1), pu_l_c h2 (f _ _ (by unfold pu_mf; omega)).1 (fun k _ => (f _ _ (by unfold pu_mf; omega)).1), pu_l_c h3 (f _ _ (by unfold pu_mf; omega)).1 (fun k _ => (f _ _ (by unfold pu_mf; omega)).1), pu_l_c h4 (f _ _ (by unfold pu_mf; omega)).1 (fun k _ => (f _ _ (by unfold pu_mf; omega)).1), hq, hc, ?_⟩
  show S'.1 0 48 = nI G.2.2.2.2.2.2
  rw [(f _ _ (by unfold pu_mf; omega)).1]; exact h7
/-- what the class's search through pairs answers -/
theorem X_sps {S : fy_S} {G : pu_G} {a b : Nat} (o : Bool) (hw : pu_W G) (hX : pu_X S G) (ha : a < 3) (hb : b < 3) (hm : (G.1 a).2.1 = (G.1 b).2.1) : pw (X9_searchPairs S (38 + 41 * a) (38 + 41 * b) (if o then 1 else 0)) (fun R => pu_ld R.1 20 (G.1 a) ∧ pu_ld R.1 26 (G.1 b) ∧ fr (fun i k => 20 ≤ i ∧ i ≤ 37) S R.1 ∧ ∃ c O d, pu_xb R.1 (G.1 a) (G.1 b) c O d ∧ (∀ y, y < 4096 → R.1.1 37 y = 0) ∧ ((R.2 = 0 ∧ pu_xc (G.1 a) (G.1 b) o c c O d ∧ 0 < c) ∨ (R.2 = 1 ∧ ∃ h, h < c ∧ R.1.1 34 4 = nI h ∧ pu_df (G.1 a) (G.1 b) o (O h) = true ∧ pu_xc (G.1 a) (G.1 b) o c h O d))) := by
  have hA := hw.1 a (by omega)
  have hB := hw.1 b (by omega)
  rw [X9_searchPairs]
  refine pw_bd (X_load (v0 := 20) (by omega) hA (by decide) (hX.1 a (by omega))) (fun S1 s1 => ?_)
  refine pw_bd (X_load (v0 := 26) (by omega) hB (by decide) (pu_XA_c (hX.1 b (by omega)) (fun i k g1 g2 => s1.2 i k (by omega)))) (fun S2 s2 => ?_)
  have l1 : pu_ld S2 20 (G.1 a) := pu_ld_c s1.1 (fun i k h => s2.2 i k (by omega))
  have hP : pu_P S2 := pu_P_c hX.2.2.2.2.2.2.2 (by rw [(s2.2 _ _ (by omega)).1, (s1.2 _ _ (by omega)).1]) (fun i k _ _ => by rw [(s2.2 _ _ (by omega)).1, (s1.2 _ _ (by omega)).1])
  refine pw_bp (X_sea o hA hB hm l1 s2.1 hP) (fun S3 r3 h3 => ?_)
  obtain ⟨c, O, d, hx, h37, hfr, hres⟩ := h3
  have hr : r3 = 0 ∨ r3 = 1 := hres.elim (fun h => .inl h.1) (fun h => .inr h.1)
  refine pw_gd (by rcases hr with h | h <;> rw [h] <;> decide) (pw_s ⟨pu_ld_c l1 (fun i k h => hfr i k (by unfold pu_x6; omega)), pu_ld_c s2.1 (fun i k h => hfr i k (by unfold pu_x6; omega)), ?_, c, O, d, hx, h37, hres⟩)
  exact fr_t (fr_t (fr_m s1.2 (fun i k h => by omega)) (fr_m s2.2 (fun i k h => by omega))) (fr_m hfr (fun i k h => by unfold pu_x6 at h; omega))
theorem pu_xb_P {S : fy_S} {A B : pu_A} {c : Nat} {O d : Nat → Nat} (hA : pu_wA A) (h : pu_xb S A B c O d) (h37 : ∀ y, y < 4096 → (∀ k, k < c → O k ≠ y) → S.1 37 y = 0) : pu_P S := ⟨c, O, h.1, h.2.1, fun k hk => ⟨pu_pv_lt hA (h.2.2.1 k hk).1, (h.2.2.1 k hk).2.1⟩, fun y hy hn => ⟨h.2.2.2.1 y hy hn, h37 y hy hn⟩⟩
theorem pu_xword {S : fy_S} {A B : pu_A} {o : Bool} {c h : Nat} {O d : Nat → Nat} (hx : pu_xb S A B c O d) (hh : h < c) (hD : pu_df A B o (O h) = true) : ∃ w, pu_wv A.2.1 w ∧ pu_df A B o (pu_rg A B (pu_pb A B) w) = true := by
  obtain ⟨w, g1, _, g3⟩ := (hx.2.2.1 h hh).2.2.2.2
  exact ⟨w, g1, by rw [g3]; exact hD⟩
theorem M_np {S : fy_S} {G : pu_G} {a b : Nat} (hw : pu_W G) (hM : pu_M S G) (ha : a < 3) (hb : b < 3) : M_notPaired S (nI a) (nI b) = some (if (G.1 a).2.1 = (G.1 b).2.1 then 0 else -4) := by
  have h1 := (hM.1 a (by omega)).2.1
  have h2 := (hM.1 b (by omega)).2.1
  have m1 := (hw.1 a (by omega)).2.2.2.1
  have m2 := (hw.1 b (by omega)).2.2.2.1
  rw [M_notPaired]
  refine pw_eq (pw_be (M_slot_y ha) (pw_f (by decide) (pw_be (M_slot_y hb) (pw_f (by decide) (pw_gd (fy_ix_nI (by omega) (by decide)) (pw_gd (fy_ix_nI (by omega) (by decide)) ?_))))))
  rw [nI_clamp (by omega), nI_clamp (by omega), h1, h2]
  by_cases e : (G.1 a).2.1 = (G.1 b).2.1
  · rw [if_pos e]; exact pw_t (by rw [e]) (pw_s rfl)
  · rw [if_neg e]; exact pw_f (fun h => e ((nI_eq (by omega) (by omega)).mp h)) (pw_s rfl)
theorem ez_isContained {SX SM : fy_S} (v1 v2 : Int32) (h : pu_I SX SM) : pu_O (X9_isContained SX v1 v2) (M_isContained SM v1 v2) := by
  rcases pu_slot v1 with ⟨a, ha, rfl⟩ | hb1
  · rcases pu_slot v2 with ⟨b, hb, rfl⟩ | hb2
    · have hI := h
      obtain ⟨G, hw, hX, hM⟩ := h
      have hA := hw.1 a (by omega)
      have hB := hw.1 b (by omega)
      have x1 := (hX.1 a (by omega)).2.1
      have x2 := (hX.1 b (by omega)).2.1
      have m1 := hA.2.2.2.1
      have m2 := hB.2.2.2.1
      have np := M_np hw hM ha hb
      by_cases hm : (G.1 a).2.1 = (G.1 b).2.1
      · rw [if_pos hm] at np
        have hMe : pw (M_isContained SM (nI a) (nI b)) (fun R => fr pu_m5 SM R.1 ∧ ((R.2 = 1 ∧ ∀ w, pu_wv (G.1 a).2.1 w → pu_df (G.1 a) (G.1 b) true (pu_rg (G.1 a) (G.1 b) (pu_pb (G.1 a) (G.1 b)) w) = false) ∨ (R.2 = 0 ∧ ∃ w, pu_wv (G.1 a).2.1 w ∧ pu_df (G.1 a) (G.1 b) true (pu_rg (G.1 a) (G.1 b) (pu_pb (G.1 a) (G.1 b)) w) = true))) := by
          rw [M_isContained]
          refine pw_be np (pw_t rfl (pw_bp (M_fp true (by omega) (by omega) hA hB hm (hM.1 a (by omega)) (hM.1 b (by omega))) (fun S1 r1 h1 => ?_)))
          obtain ⟨f1, ⟨e1, e2⟩ | ⟨n, Q, W, k, hmb, hk, e1, e2⟩⟩ := h1
          · dsimp only at e1
            subst e1
            exact pw_f (by decide) (pw_s ⟨f1, .inl ⟨rfl, e2⟩⟩)
          · dsimp only at e1
            subst e1
            have := hmb.1
            exact pw_t (nI_pos' (by omega)) (pw_s ⟨f1, .inr ⟨rfl, W k, e2.1, e2.2.1⟩⟩)
        obtain ⟨⟨SM', r⟩, e, hf, hr⟩ := hMe
        dsimp only at hf hr
        refine pu_both G r hw ?_ ⟨_, e, rfl, pu_M_fr hw hM (fr_m hf (fun i k h => by unfold pu_m5 at h; unfold pu_ms; omega))⟩
        rw [X9_isContained, X_ain_y ha, X_ain_y hb, fy_bd_s, fy_bd_s]
        dsimp only
        rw [x1, x2]
        refine pw_t (by rw [hm]) (pw_bp (X_sps true hw hX ha hb hm) (fun S1 r1 h1 => ?_))
        obtain ⟨l1, l2, f1, c, O, d, hx, h37, hres⟩ := h1
        dsimp only at l1 l2 f1 hx h37 hres
        have hXn : pu_X S1 G := pu_X_f0 hX f1 (pu_xb_P hA hx (fun y hy _ => h37 y hy))
        rcases hres with ⟨e1, e2, e3⟩ | ⟨e1, k, hk, _, hD, _⟩
        · subst e1
          refine pw_t rfl (pw_s ⟨?_, hXn⟩)
          rcases hr with ⟨g1, _⟩ | ⟨_, w, g2, g3⟩
          · exact g1.symm
          · rw [pu_xno hx e2 e3 w g2] at g3; cases g3
        · subst e1
          refine pw_f (by decide) (pw_s ⟨?_, hXn⟩)
          rcases hr with ⟨_, g2⟩ | ⟨g1, _⟩
          · obtain ⟨w, w1, w2⟩ := pu_xword hx hk hD
            rw [g2 w w1] at w2; cases w2
          · exact g1.symm
      · rw [if_neg hm] at np
        refine pu_same (-4) hI ?_ ?_
        · rw [X9_isContained, X_ain_y ha, X_ain_y hb, fy_bd_s, fy_bd_s]
          dsimp only
          rw [x1, x2, if_neg (fun h => hm ((nI_eq (by omega) (by omega)).mp h))]
        · rw [M_isContained]; exact pw_eq (pw_be np (pw_f (by decide) (pw_s rfl)))
    · refine pu_same (-2) h ?_ ?_
      · rw [X9_isContained, X_ain_y ha, X_ain_n hb2]; rfl
      · rw [M_isContained, M_notPaired, M_slot_y ha, M_slot_n hb2]; rfl
  · refine pu_same (-2) h ?_ ?_
    · rw [X9_isContained, X_ain_n hb1]
      rcases pu_slot v2 with ⟨b, hb, rfl⟩ | hb2
      · rw [X_ain_y hb]; rfl
      · rw [X_ain_n hb2]; rfl
    · rw [M_isContained, M_notPaired, M_slot_n hb1]; rfl
/-! the cost of a word -/
def pu_cs (A : pu_A) (u : List Nat) (i : Nat) : Nat := fb_sm (fun k => A.2.2.2.1 (u.getD k 0)) i
theorem pu_wv_d {m : Nat} {u : List Nat} (h : pu_wv m u) {i : Nat} (hi : i < u.length) : u.getD i 0 < m := by
  have e : u[i]? = some u[i] := List.getElem?_eq_getElem hi
  rw [List.getD_eq_getElem?_getD, e]
  exact h _ (List.getElem_mem hi)
theorem X_cost {S : fy_S} {a : Nat} {A : pu_A} {u : List Nat} (ha : a < 7) (hA : pu_wA A) (hX : pu_XA S (38 + 41 * a) A) (hu : pu_wv A.2.1 u) (hlen : u.length ≤ 128) (hl : pu_l (S.1 15) (S.1 14 1) (pu_lq2 u)) : X8_costIn S 14 (38 + 41 * a) = some (nI (pu_cs A u u.length)) := by
  have e128 : X_al (14 + 1) = 128 := by decide
  have hm3 : A.2.1 ≤ 3 := hA.2.2.2.1
  have L : ∀ d i fu, i + d = u.length → d < fu → pw (X8_costIn_4 S fu 14 (38 + 41 * a) (nI (pu_cs A u i)) (nI i)) (fun r => r = nI (pu_cs A u u.length)) := by
    intro d
    induction d with
    | zero =>
      intro i fu hi hfu
      obtain ⟨fu, rfl⟩ : ∃ z, fu = z + 1 := ⟨fu - 1, by omega⟩
      have : i = u.length := by omega
      subst this
      have e1 : S.1 14 1 = nI u.length := hl.1
      rw [X8_costIn_4, e1]
      exact pw_t (nI_le (Nat.le_refl _) (by omega)) (pw_s rfl)
    | succ d ih =>
      intro i fu hi hfu
      obtain ⟨fu, rfl⟩ : ∃ z, fu = z + 1 := ⟨fu - 1, by omega⟩
      have hiu : i < u.length := by omega
      have e1 : S.1 14 1 = nI u.length := hl.1
      have e2 : S.1 (14 + 1) i = nI (u.getD i 0) := hl.2 i hiu
      have hlt := pu_wv_d hu hiu
      have ih := ih (i + 1) fu (by omega) (by omega)
      rw [X8_costIn_4, e1, e128, nI_clamp (by omega), e2, nI_1 i, nI_clamp (by omega)]
      refine pw_f (nI_ge hiu (by omega)) (pw_gd (fy_ix_nI (by omega) (by decide)) (pw_be (X_hl_y hX.2.1 hlt (by omega)) (pw_f (by decide) (pw_gd (fy_ix_nI (by omega) (by decide)) (pw_gd (fy_ix_nI (by omega) (by decide)) (pw_bl (pw_bl ?_)))))))
      rw [hX.2.2.2.1 _ (by omega), nI_add]
      exact ih
  exact pw_eq (L u.length 0 fy_fu (by omega) (fz_fu (by omega)))
/-- the reference walks back -/
theorem M_wk {S : fy_S} {a n k : Nat} {A B : pu_A} {Q : Nat → Nat} {W : Nat → List Nat} (ha : a < 7) (hA : pu_wA A) (hMA : pu_MA S a A) (hmb : pu_mb S A B n Q W) (hk : k < n) (hlen : (W k).length ≤ 127) : ∀ r i fu S' j, i + r = (W k).length → r < fu → j < n → W j = (W k).drop i → fr (fun i k => (i = 0 ∧ (k = 44 ∨ k = 45)) ∨ i = 24) S S' → S'.1 0 44 = nI i → S'.1 0 45 = nI (pu_cs A (W k) i) → (∀ t, t < i → S'.1 24 t = nI ((W k).getD t 0)) → pw (M_findDifference_56 fu S' (nI a) (nI (Q 0)) (nI (Q j))) (fun R => R.2 = nI (W k).length ∧ pu_l (R.1.1 24) (R.1.1 0 44) (pu_lq2 (W k)) ∧ R.1.1 0 45 = nI (pu_cs A (W k) (W k).length) ∧ fr (fun i k => (i = 0 ∧ (k = 44 ∨ k = 45)) ∨ i = 24) S R.1) := by
  have hn4 := hmb.1
  have hm3 : A.2.1 ≤ 3 := hA.2.2.2.1
  have hq : ∀ j, j < n → Q j < 4096 := fun j hj => pu_pv_lt hA (hmb.2.1 j hj).1
  intro r
  induction r with
  | zero =>
    intro i fu S' j hi hfu hj hW hf h44 h45 h24
    obtain ⟨fu, rfl⟩ : ∃ z, fu = z + 1 := ⟨fu - 1, by omega⟩
    have hi' : i = (W k).length := by omega
    subst hi'
    have hW0 : W j = [] := by rw [hW]; exact List.drop_length
    have j0 : j = 0 := Classical.byContradiction (fun hne => by
      obtain ⟨j', x, _, _, e, _⟩ := (hmb.2.1 j hj).2.2.2.2.2 (by omega)
      rw [hW0] at e; cases e)
    subst j0
    rw [M_findDifference_56]
    exact pw_t rfl (pw_s ⟨h44, ⟨h44, h24⟩, h45, hf⟩)
  | succ r ih =>
    intro i fu S' j hi hfu hj hW hf h44 h45 h24
    obtain ⟨fu, rfl⟩ : ∃ z, fu = z + 1 := ⟨fu - 1, by omega⟩
    have hne : j ≠ 0 := fun e => by
      have := ((hmb.2.1 j hj).2.2.2.2.1 e).1
      rw [this] at hW
      have := congrArg List.length hW
      simp at this
      omega
    obtain ⟨j', x, hj', hxm, eW, e26⟩ := (hmb.2.1 j hj).2.2.2.2.2 (by omega)
    have hQj' := hq j' (by omega)
    have hQj := hq j hj
    have e26' : S'.1 26 (Q j) = nI (4 * Q j' + x) := by rw [(hf _ _ (by omega)).1]; exact e26
    have ed : (W k).drop i = x :: W j' := by rw [← hW, eW]
    have egx : (W k).getD i 0 = x := by
      have : ((W k).drop i)[0]? = some x := by rw [ed]; rfl
      rw [List.getElem?_drop] at this
      rw [List.getD_eq_getElem?_getD]
      have e0 : (W k)[i]? = some x := by simpa using this
      rw [e0]; rfl
    have eW' : W j' = (W k).drop (i + 1) := by
      have : ((W k).drop i).drop 1 = W j' := by rw [ed]; rfl
      rw [List.drop_drop] at this
      exact this.symm
    have em : nI (4 * Q j' + x) - nI (4 * Q j' + x) / (4 : Int32) * (4 : Int32) = nI x := by
      rw [show nI (4 * Q j' + x) - nI (4 * Q j' + x) / (4 : Int32) * (4 : Int32) = nI ((4 * Q j' + x) % 4) from pk_rem (d := 4) (by omega) (by decide) (by decide)]
      congr 1; omega
    have edv : nI (4 * Q j' + x) / (4 : Int32) = nI (Q j') := by
      rw [show nI (4 * Q j' + x) / (4 : Int32) = nI ((4 * Q j' + x) / 4) from pk_div (d := 4) (by omega) (by decide) (by decide)]
      congr 1; omega
    have hQne : Q j ≠ Q 0 := fun e => hne (hmb.2.2.2 j 0 hj (by omega) e)
    have hw4 : S'.1 4 (3 * a + x) = nI (A.2.2.2.1 x) := by rw [(hf _ _ (by omega)).1]; exact hMA.2.2.2.1 x (by omega)
    rw [M_findDifference_56, nI_clamp (by omega), e26', em, h44, nI_clamp (by omega)]
    refine pw_f (fun e => hQne ((nI_eq (by omega) (by have := hq 0 (by omega); omega)).mp e)) (pw_gd (fy_ix_nI hQj (by decide)) (pw_gd (fy_ix_nI (by omega) (by decide)) (pw_bl ?_)))
    rw [rd_n (by omega), h44, nI_clamp (by omega), rd_y, show (3 : Int32) * nI a = nI (3 * a) from pk_mul 3 a, nI_add, nI_clamp (by omega), rd_n (by omega), rd_n (by omega), hw4, h45, nI_add]
    refine pw_gd (fy_ix_nI (by omega) (by decide)) (pw_gd (fy_ix_nI (by omega) (by decide)) (pw_bl (pw_bl (pw_gd (fy_ix_nI hQj (by decide)) (pw_bl ?_)))))
    rw [rd_n (by omega), rd_n (by omega), h44, nI_1 i, rd_n (by omega), rd_n (by omega), rd_n (by omega), e26', edv]
    refine ih (i + 1) fu _ j' (by omega) (by omega) (by omega) eW' (fr_I (fr_I (fr_I hf (by omega)) (by omega)) (by omega)) rd_y ?_ (fun t ht => ?_)
    · rw [rd_n (by omega), rd_y]
      congr 1
      show _ = fb_sm _ (i + 1)
      rw [fb_sm_succ, egx]; rfl
    · rw [rd_n (by omega), rd_n (by omega)]
      by_cases et : t = i
      · rw [et, rd_y, egx]
      · rw [rd_n (by omega)]; exact h24 t (by omega)
theorem ez_findDifference {SX SM : fy_S} (v1 v2 : Int32) (h : pu_I SX SM) : pu_O (X9_findDifference SX v1 v2) (M_findDifference SM v1 v2) := by
  rcases pu_slot v1 with ⟨a, ha, rfl⟩ | hb1
  · rcases pu_slot v2 with ⟨b, hb, rfl⟩ | hb2
    · have hI := h
      obtain ⟨G, hw, hX, hM⟩ := h
      have hA := hw.1 a (by omega)
      have hB := hw.1 b (by omega)
      have x1 := (hX.1 a (by omega)).2.1
      have x2 := (hX.1 b (by omega)).2.1
      have m1 := hA.2.2.2.1
      have m2 := hB.2.2.2.1
      have np := M_np hw hM ha hb
      by_cases hm : (G.1 a).2.1 = (G.1 b).2.1
      · rw [if_pos hm] at np
        have hMe : pw (M_findDifference SM (nI a) (nI b)) (fun R => (R.2 = -1 ∧ pu_M R.1 G ∧ ∀ w, pu_wv (G.1 a).2.1 w → pu_df (G.1 a) (G.1 b) false (pu_rg (G.1 a) (G.1 b) (pu_pb (G.1 a) (G.1 b)) w) = false) ∨ ∃ u, pu_bw_ (G.1 a) (G.1 b) false u ∧ u.length ≤ 127 ∧ R.2 = nI u.length ∧ pu_M R.1 (pu_sf G (pu_lq2 u) (pu_cs (G.1 a) u u.length))) := by
          rw [M_findDifference]
          refine pw_be np (pw_t rfl (pw_bp (M_fp false (by omega) (by omega) hA hB hm (hM.1 a (by omega)) (hM.1 b (by omega))) (fun S1 r1 h1 => ?_)))
          obtain ⟨f1, ⟨e1, e2⟩ | ⟨n, Q, W, k, hmb, hk, e1, e2⟩⟩ := h1
          · dsimp only at e1
            subst e1
            exact pw_f (by decide) (pw_s (.inl ⟨rfl, pu_M_fr hw hM (fr_m f1 (fun i k h => by unfold pu_m5 at h; unfold pu_ms; omega)), e2⟩))
          · dsimp only at e1 f1 hmb
            subst e1
            have hn4 := hmb.1
            have hlen : (W k).length ≤ 127 := by
              obtain ⟨w', g1, g2, g3⟩ := pu_127 hA hB hm e2.1 e2.2.1
              have := e2.2.2 w' g1 g2
              omega
            have f1' : fr pu_mf SM (fy_sI (fy_sI S1 0 44 0) 0 45 0) := fr_I (fr_I (fr_m f1 (fun i k h => by unfold pu_m5 at h; unfold pu_mf; omega)) (by unfold pu_mf; omega)) (by unfold pu_mf; omega)
            have hMA1 : pu_MA (fy_sI (fy_sI S1 0 44 0) 0 45 0) a (G.1 a) := pu_MA_c hA (hM.1 a (by omega)) (fun i g1 g2 => (f1' _ _ (by unfold pu_mf; omega)).1) (fun k g1 g2 => (f1' _ _ (by unfold pu_mf; omega)).1) (fun k g1 g2 => (f1' _ _ (by unfold pu_mf; omega)).1) (fun k g1 g2 => (f1' _ _ (by unfold pu_mf; omega)).1)
            have hmb1 : pu_mb (fy_sI (fy_sI S1 0 44 0) 0 45 0) (G.1 a) (G.1 b) n Q W := by
              refine ⟨hmb.1, fun k hk => ?_, fun y hy hn => by rw [rd_n (by omega), rd_n (by omega)]; exact hmb.2.2.1 y hy hn, hmb.2.2.2⟩
              obtain ⟨g1, g2, g3, g4, g5, g6⟩ := hmb.2.1 k hk
              refine ⟨g1, by rw [rd_n (by omega), rd_n (by omega)]; exact g2, g3, g4, fun h => ⟨(g5 h).1, by rw [rd_n (by omega), rd_n (by omega)]; exact (g5 h).2⟩, fun h => ?_⟩
              obtain ⟨j, x, i1, i2, i3, i4⟩ := g6 h
              exact ⟨j, x, i1, i2, i3, by rw [rd_n (by omega), rd_n (by omega)]; exact i4⟩
            refine pw_t (nI_pos' (by omega)) (pw_bl (pw_bl (pw_gd (by decide) (pw_bl ?_))))
            rw [show (0 : Int32).toNatClampNeg = 0 from rfl, (hmb1.2.1 0 (by omega)).2.1, nI_clamp (by omega), (hmb1.2.1 k hk).2.1]
            refine pw_gd (fy_ix_nI (by omega) (by decide)) (pw_bl ?_)
            refine pw_m (M_wk (by omega) hA hMA1 hmb1 hk hlen (W k).length 0 fy_fu _ k (by omega) (fz_fu (by omega)) hk rfl fr_r (by rw [rd_n (by omega), rd_y]; rfl) (by rw [rd_y]; rfl) (fun t ht => absurd ht (Nat.not_lt_zero t))) (fun R r => .inr ⟨W k, e2, hlen, r.1, pu_M_f hw hM (fr_t f1' (fr_m r.2.2.2 (fun i k h => by unfold pu_mf; omega))) r.2.1 r.2.2.1⟩)
        obtain ⟨⟨SM', r⟩, e, hr⟩ := hMe
        dsimp only at hr
        have hXe : pw (X9_findDifference SX (nI a) (nI b)) (fun R => (R.2 = -1 ∧ pu_X R.1 G ∧ ∀ w, pu_wv (G.1 a).2.1 w → pu_df (G.1 a) (G.1 b) false (pu_rg (G.1 a) (G.1 b) (pu_pb (G.1 a) (G.1 b)) w) = false) ∨ ∃ u, pu_bw_ (G.1 a) (G.1 b) false u ∧ u.length ≤ 127 ∧ R.2 = nI u.length ∧ pu_X R.1 (pu_sf G (pu_lq2 u) (pu_cs (G.1 a) u u.length))) := by
          rw [X9_findDifference, X_ain_y ha, X_ain_y hb, fy_bd_s, fy_bd_s]
          dsimp only
          rw [x1, x2]
          refine pw_t (by rw [hm]) (pw_bp (X_sps false hw hX ha hb hm) (fun S1 r1 h1 => ?_))
          obtain ⟨l1, l2, f1, c, O, d, hx, h37, hres⟩ := h1
          dsimp only at l1 l2 f1 hx h37 hres
          rcases hres with ⟨e1, e2, e3⟩ | ⟨e1, k, hk, h34, hD, hc⟩
          · subst e1
            exact pw_t rfl (pw_s (.inl ⟨rfl, pu_X_f0 hX f1 (pu_xb_P hA hx (fun y hy _ => h37 y hy)), pu_xno hx e2 e3⟩))
          · subst e1
            refine pw_f (by decide) (pw_bd (X_spl hA hB hm l1 l2 hx h37 h34 hk hD hc) (fun S2 s2 => ?_))
            obtain ⟨⟨u, hbw, hlen, hu⟩, ⟨g, hlk⟩, f2⟩ := s2
            have f12 : fr pu_xf SX S2 := fr_t (fr_m f1 (fun i k h => by unfold pu_xf; omega)) (fr_m f2 (fun i k h => by unfold pu_x7 at h; unfold pu_xf; omega))
            have hXA2 : pu_XA S2 (38 + 41 * a) (G.1 a) := pu_XA_c (hX.1 a (by omega)) (fun i k g1 g2 => f12 i k (by unfold pu_xf; omega))
            refine pw_be (X_cost (by omega) hA hXA2 hbw.1 (by omega) hu) (pw_bl (pw_s (.inr ⟨u, hbw, hlen, ?_, ?_⟩)))
            · have e14 : (fy_sI S2 0 13 (nI (pu_cs (G.1 a) u u.length))).1 14 1 = nI u.length := (rd_n (by omega)).trans hu.1
              exact e14
            · have hx2 : pu_xb S2 (G.1 a) (G.1 b) c O d := pu_xb_c hx (f2 _ _ (by unfold pu_x7; omega)).1 (fun i k h => (f2 _ _ (by unfold pu_x7; omega)).1)
              have hP2 : pu_P S2 := pu_xb_P hA hx2 hlk.2
              refine pu_X_f hX (fr_I f12 (by unfold pu_xf; omega)) (pu_l_c hu (rd_n (by omega)) (fun k _ => rd_n (by omega))) rd_y (pu_P_c hP2 (rd_n (by omega)) (fun i k _ _ => rd_n (by omega)))
        obtain ⟨⟨SX', r'⟩, e', hr'⟩ := hXe
        dsimp only at hr'
        rcases hr with ⟨g1, g2, g3⟩ | ⟨u, hbw, hlen, g1, g2⟩
        · rcases hr' with ⟨k1, k2, k3⟩ | ⟨u', hbw', _, _, _⟩
          · exact ⟨SX', SM', -1, by rw [e', k1], by rw [e, g1], G, hw, k2, g2⟩
          · have := g3 u' hbw'.1
            rw [hbw'.2.1] at this; cases this
        · rcases hr' with ⟨k1, k2, k3⟩ | ⟨u', hbw', hlen', k1, k2⟩
          · have := k3 u hbw.1
            rw [hbw.2.1] at this; cases this
          · have eu := pu_bw_u hbw' hbw
            subst eu
            exact ⟨SX', SM', nI u'.length, by rw [e', k1], by rw [e, g1], pu_sf G (pu_lq2 u') (pu_cs (G.1 a) u' u'.length), ⟨hw.1, hw.2.1, hw.2.2.1, hw.2.2.2.1, by show u'.length ≤ 128; omega, hw.2.2.2.2.2⟩, k2, g2⟩
      · rw [if_neg hm] at np
        refine pu_same (-4) hI ?_ ?_
        · rw [X9_findDifference, X_ain_y ha, X_ain_y hb, fy_bd_s, fy_bd_s]
          dsimp only
          rw [x1, x2, if_neg (fun h => hm ((nI_eq (by omega) (by omega)).mp h))]
        · rw [M_findDifference]; exact pw_eq (pw_be np (pw_f (by decide) (pw_s rfl)))
    · refine pu_same (-2) h ?_ ?_
      · rw [X9_findDifference, X_ain_y ha, X_ain_n hb2]; rfl
      · rw [M_findDifference, M_notPaired, M_slot_y ha, M_slot_n hb2]; rfl
  · refine pu_same (-2) h ?_ ?_
    · rw [X9_findDifference, X_ain_n hb1]
      rcases pu_slot v2 with ⟨b, hb, rfl⟩ | hb2
      · rw [X_ain_y hb]; rfl
      · rw [X_ain_n hb2]; rfl
    · rw [M_findDifference, M_notPaired, M_slot_n hb1]; rfl
