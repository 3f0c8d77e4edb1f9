/-! findCheapest: the reference's choice; the call -/
theorem M_c80 {S : fy_S} {A : pu_A} {sn dn : Nat → Bool} {W : Nat → List Nat} (h : pu_dj S A sn dn W) (hm3 : A.2.1 ≤ 3) {o : Nat} (ho : o < 64) (hso : sn o = true) : ∀ L k fu a b, k + L = (W o).length → L < fu → a < 64 → b < 64 → sn a = true → sn b = true → (W a).length = L → (W b).length = L → pw (M_isAhead_80 S fu (nI o) (nI a) (nI b) (nI k)) (fun r => (r = 1 ∧ pu_ll (W a) (W b)) ∨ (r = 0 ∧ pu_ll (W b) (W a))) := by
  obtain ⟨_, _, lo, _, e28, _⟩ := (h.1 o ho).2.1 hso
  intro L
  induction L with
  | zero =>
    intro k fu a b hk hfu ha hb hsa hsb hla hlb
    obtain ⟨fu, rfl⟩ : ∃ z, fu = z + 1 := ⟨fu - 1, by omega⟩
    rw [M_isAhead_80, nI_clamp (by omega), e28]
    refine pw_gd (fy_ix_nI ho (by decide)) (pw_t (nI_le (by omega) (by omega)) (pw_s (.inr ⟨rfl, ?_⟩)))
    rw [List.length_eq_zero_iff.mp hla, List.length_eq_zero_iff.mp hlb]; trivial
  | succ L ih =>
    intro k fu a b hk hfu ha hb hsa hsb hla hlb
    obtain ⟨fu, rfl⟩ : ∃ z, fu = z + 1 := ⟨fu - 1, by omega⟩
    obtain ⟨va, _, _, _, _, pa⟩ := (h.1 a ha).2.1 hsa
    obtain ⟨vb, _, _, _, _, pb⟩ := (h.1 b hb).2.1 hsb
    obtain ⟨xa, ra, ea, hra, hsra, _, e29a, e30a⟩ := pa.resolve_left (fun e => by rw [e] at hla; cases hla)
    obtain ⟨xb, rb, eb, hrb, hsrb, _, e29b, e30b⟩ := pb.resolve_left (fun e => by rw [e] at hlb; cases hlb)
    have hxa : xa < 3 := Nat.lt_of_lt_of_le (va xa (by rw [ea]; simp)) hm3
    have hxb : xb < 3 := Nat.lt_of_lt_of_le (vb xb (by rw [eb]; simp)) hm3
    rw [ea, List.length_cons] at hla
    rw [eb, List.length_cons] at hlb
    rw [M_isAhead_80, nI_clamp (n := o) (by omega), nI_clamp (n := a) (by omega), nI_clamp (n := b) (by omega), e28, e29a, e29b, e30a, e30b, nI_1 k]
    refine pw_gd (fy_ix_nI ho (by decide)) (pw_f (nI_ge (by omega) (by omega)) (pw_gd (fy_ix_nI ha (by decide)) (pw_gd (fy_ix_nI hb (by decide)) ?_)))
    rw [ea, eb]
    by_cases e : xa = xb
    · refine pw_t (by rw [e]) (pw_gd (fy_ix_nI ha (by decide)) (pw_bl (pw_gd (fy_ix_nI hb (by decide)) (pw_bl (pw_bl ?_)))))
      refine pw_m (ih (k + 1) fu ra rb (by omega) (by omega) hra hrb hsra hsrb (by omega) (by omega)) (fun r hr => ?_)
      rcases hr with ⟨h1, h2⟩ | ⟨h1, h2⟩
      · exact .inl ⟨h1, .inr ⟨e, h2⟩⟩
      · exact .inr ⟨h1, .inr ⟨e.symm, h2⟩⟩
    · refine pw_f (fun he => e ((nI_eq (by omega) (by omega)).mp he)) (pw_gd (fy_ix_nI ha (by decide)) (pw_gd (fy_ix_nI hb (by decide)) ?_))
      by_cases hlt : xb ≤ xa
      · exact pw_t (nI_le hlt (by omega)) (pw_s (.inr ⟨rfl, .inl (by omega)⟩))
      · exact pw_f (nI_ge (by omega) (by omega)) (pw_s (.inl ⟨rfl, .inl (by omega)⟩))
theorem M_ah {S : fy_S} {A : pu_A} {sn dn : Nat → Bool} {W : Nat → List Nat} (hA : pu_wA A) (h : pu_dj S A sn dn W) {s t : Nat} (hs : s < 64) (ht : t < 64) (hss : sn s = true) (hst : sn t = true) : pw (M_isAhead S (nI s) (nI t)) (fun r => (r = 1 ∧ pu_l3 A (W s) (W t)) ∨ (r = 0 ∧ pu_l3 A (W t) (W s))) := by
  have hm3 : A.2.1 ≤ 3 := hA.2.2.2.1
  obtain ⟨vs, _, ls, e27s, e28s, _⟩ := (h.1 s hs).2.1 hss
  obtain ⟨vt, _, lt, e27t, e28t, _⟩ := (h.1 t ht).2.1 hst
  have bs := pu_co_b hA vs
  have bt := pu_co_b hA vt
  rw [M_isAhead, nI_clamp (n := s) (by omega), nI_clamp (n := t) (by omega), e27s, e27t, e28s, e28t]
  refine pw_gd (fy_ix_nI hs (by decide)) (pw_gd (fy_ix_nI ht (by decide)) ?_)
  by_cases hc : pu_co A (W s) = pu_co A (W t)
  · refine pw_t (by rw [hc]) (pw_gd (fy_ix_nI hs (by decide)) (pw_gd (fy_ix_nI ht (by decide)) ?_))
    by_cases hl : (W s).length = (W t).length
    · refine pw_t (by rw [hl]) ?_
      refine pw_m (M_c80 h hm3 hs hss (W s).length 0 fy_fu s t (by omega) (fz_fu (by omega)) hs ht hss hst rfl hl.symm) (fun r hr => ?_)
      rcases hr with ⟨h1, h2⟩ | ⟨h1, h2⟩
      · exact .inl ⟨h1, .inr ⟨hc, .inr ⟨hl, h2⟩⟩⟩
      · exact .inr ⟨h1, .inr ⟨hc.symm, .inr ⟨hl.symm, h2⟩⟩⟩
    · refine pw_f (fun he => hl ((nI_eq (by omega) (by omega)).mp he)) (pw_gd (fy_ix_nI hs (by decide)) (pw_gd (fy_ix_nI ht (by decide)) ?_))
      by_cases hlt : (W t).length ≤ (W s).length
      · exact pw_t (nI_le hlt (by omega)) (pw_s (.inr ⟨rfl, .inr ⟨hc.symm, .inl (by omega)⟩⟩))
      · exact pw_f (nI_ge (by omega) (by omega)) (pw_s (.inl ⟨rfl, .inr ⟨hc, .inl (by omega)⟩⟩))
  · refine pw_f (fun he => hc ((nI_eq (by omega) (by omega)).mp he)) (pw_gd (fy_ix_nI hs (by decide)) (pw_gd (fy_ix_nI ht (by decide)) ?_))
    by_cases hlt : pu_co A (W t) ≤ pu_co A (W s)
    · exact pw_t (nI_le hlt (by omega)) (pw_s (.inr ⟨rfl, .inl (by omega)⟩))
    · exact pw_f (nI_ge (by omega) (by omega)) (pw_s (.inl ⟨rfl, .inl (by omega)⟩))
def pu_d8 (i k : Nat) : Prop := (i = 0 ∧ (k = 44 ∨ k = 45)) ∨ i = 24
theorem M_wlk {S : fy_S} {A : pu_A} {sn dn : Nat → Bool} {W : Nat → List Nat} (h : pu_dj S A sn dn W) {t : Nat} (ht : t < 64) (hst : sn t = true) : ∀ r i fu S' j, i + r = (W t).length → r < fu → j < 64 → sn j = true → W j = (W t).drop i → fr pu_d8 S S' → S'.1 0 44 = nI (W t).length → S'.1 0 45 = nI (pu_co A (W t)) → (∀ k, k < i → S'.1 24 k = nI ((W t).getD k 0)) → pw (M_findCheapest_95 fu S' (nI j) (nI i)) (fun R => R.2 = nI (W t).length ∧ pu_l (R.1.1 24) (R.1.1 0 44) (pu_lq2 (W t)) ∧ R.1.1 0 45 = nI (pu_co A (W t)) ∧ fr pu_d8 S R.1) := by
  obtain ⟨_, _, lt, _, _, _⟩ := (h.1 t ht).2.1 hst
  intro r
  induction r with
  | zero =>
    intro i fu S' j hi hfu hj hsj hW hf h44 h45 h24
    obtain ⟨fu, rfl⟩ : ∃ z, fu = z + 1 := ⟨fu - 1, by omega⟩
    have hi' : i = (W t).length := by omega
    subst hi'
    rw [M_findCheapest_95, h44]
    exact pw_t (nI_le (Nat.le_refl _) (by omega)) (pw_s ⟨rfl, ⟨h44, h24⟩, h45, hf⟩)
  | succ r ih =>
    intro i fu S' j hi hfu hj hsj hW hf h44 h45 h24
    obtain ⟨fu, rfl⟩ : ∃ z, fu = z + 1 := ⟨fu - 1, by omega⟩
    obtain ⟨_, _, _, _, _, pj⟩ := (h.1 j hj).2.1 hsj
    obtain ⟨x, q, eW, hq, hsq, _, e29, e30⟩ := pj.resolve_left (fun e => by
      rw [e] at hW
      have := congrArg List.length hW
      simp at this
      omega)
    have e29' : S'.1 29 j = nI x := by rw [(hf _ _ (by unfold pu_d8; omega)).1]; exact e29
    have e30' : S'.1 30 j = nI q := by rw [(hf _ _ (by unfold pu_d8; omega)).1]; exact e30
    have ed : (W t).drop i = x :: W q := by rw [← hW, eW]
    have egx : (W t).getD i 0 = x := by
      have : ((W t).drop i)[0]? = some x := by rw [ed]; rfl
      rw [List.getElem?_drop] at this
      rw [List.getD_eq_getElem?_getD]
      have e0 : (W t)[i]? = some x := by simpa using this
      rw [e0]; rfl
    have eW' : W q = (W t).drop (i + 1) := by
      have : ((W t).drop i).drop 1 = W q := by rw [ed]; rfl
      rw [List.drop_drop] at this
      exact this.symm
    rw [M_findCheapest_95, h44, nI_clamp (n := j) (by omega), nI_clamp (n := i) (by omega), e29', nI_1 i]
    refine pw_f (nI_ge (by omega) (by omega)) (pw_gd (fy_ix_nI hj (by decide)) (pw_gd (fy_ix_nI (by omega) (by decide)) (pw_bl (pw_gd (fy_ix_nI hj (by decide)) (pw_bl (pw_bl ?_))))))
    rw [rd_n (by omega), e30']
    refine ih (i + 1) fu _ q (by omega) (by omega) hq hsq eW' (fr_I hf (by unfold pu_d8; omega)) (by rw [rd_n (by omega)]; exact h44) (by rw [rd_n (by omega)]; exact h45) (fun k hk => ?_)
    by_cases ek : k = i
    · rw [ek, rd_y, egx]
    · rw [rd_n (by omega)]; exact h24 k (by omega)
theorem M_cho {S : fy_S} {a : Nat} {A : pu_A} {sn dn : Nat → Bool} {W : Nat → List Nat} (ha : a < 7) (hA : pu_wA A) (hM : pu_MA S a A) (h : pu_dj S A sn dn W) (hall : ∀ t, t < 64 → sn t = true → dn t = true) (hcov : ∀ w, pu_wv A.2.1 w → sn (pu_rs A w) = true) : pw (M_findCheapest_19 fy_fu S (nI a) (-1) (nI 0)) (fun R => fr pu_d8 S R.1 ∧ ((R.2 = -1 ∧ R.1 = S ∧ ∀ w, pu_wv A.2.1 w → pu_acc A (pu_rs A w) = false) ∨ ∃ u, pu_cbe A u ∧ R.2 = nI u.length ∧ pu_l (R.1.1 24) (R.1.1 0 44) (pu_lq2 u) ∧ R.1.1 0 45 = nI (pu_co A u))) := by
  have best : ∀ t, t < 64 → sn t = true → ∀ w, pu_wv A.2.1 w → pu_rs A w = t → pu_l3 A (W t) w := fun t ht hs => (h.1 t ht).2.2.2 (hall t ht hs)
  have L : ∀ d k fu (b : Int32), k + d = 64 → d < fu → ((b = -1 ∧ ∀ t, t < k → sn t = true → pu_acc A t = false) ∨ ∃ s, s < 64 ∧ b = nI s ∧ sn s = true ∧ pu_acc A s = true ∧ ∀ t, t < k → sn t = true → pu_acc A t = true → pu_l3 A (W s) (W t)) → pw (M_findCheapest_19 fu S (nI a) b (nI k)) (fun R => fr pu_d8 S R.1 ∧ ((R.2 = -1 ∧ R.1 = S ∧ ∀ w, pu_wv A.2.1 w → pu_acc A (pu_rs A w) = false) ∨ ∃ u, pu_cbe A u ∧ R.2 = nI u.length ∧ pu_l (R.1.1 24) (R.1.1 0 44) (pu_lq2 u) ∧ R.1.1 0 45 = nI (pu_co A u))) := by
    intro d
    induction d with
    | zero =>
      intro k fu b hk hfu hb
      obtain ⟨fu, rfl⟩ : ∃ z, fu = z + 1 := ⟨fu - 1, by omega⟩
      have : k = 64 := by omega
      subst this
      rw [M_findCheapest_19]
      refine pw_t (by decide) ?_
      rcases hb with ⟨h1, h2⟩ | ⟨s, hs, h2, hss, hac, hl⟩
      · subst h1
        exact pw_f (by decide) (pw_s ⟨fr_r, .inl ⟨rfl, rfl, fun w hv => h2 _ (pu_rs_lt hA w).2 (hcov w hv)⟩⟩)
      · subst h2
        obtain ⟨vs, rss, ls, e27, e28, _⟩ := (h.1 s hs).2.1 hss
        rw [nI_clamp (n := s) (by omega), e28]
        refine pw_t (nI_pos' (by omega)) (pw_gd (fy_ix_nI hs (by decide)) (pw_bl (pw_gd (fy_ix_nI hs (by decide)) (pw_bl ?_))))
        rw [rd_n (by omega), e27]
        refine pw_m (M_wlk h hs hss (W s).length 0 fy_fu _ s (by omega) (fz_fu (by omega)) hs hss rfl (fr_I (fr_I fr_r (by unfold pu_d8; omega)) (by unfold pu_d8; omega)) (by rw [rd_n (by omega), rd_y]) rd_y (fun k hk => absurd hk (Nat.not_lt_zero k))) (fun R r => ⟨r.2.2.2, .inr ⟨W s, ⟨vs, by rw [rss]; exact hac, fun w hv hacw => ?_⟩, r.1, r.2.1, r.2.2.1⟩⟩)
        have hlt := (pu_rs_lt hA w).2
        have hsw := hcov w hv
        exact pu_l3_t (hl _ hlt hsw hacw) (best _ hlt hsw w hv rfl)
    | succ d ih =>
      intro k fu b hk hfu hb
      obtain ⟨fu, rfl⟩ : ∃ z, fu = z + 1 := ⟨fu - 1, by omega⟩
      have hk64 : k < 64 := by omega
      have skip : (sn k = true → pu_acc A k = false) → pw (M_findCheapest_19 fu S (nI a) b (nI (k + 1))) (fun R => fr pu_d8 S R.1 ∧ ((R.2 = -1 ∧ R.1 = S ∧ ∀ w, pu_wv A.2.1 w → pu_acc A (pu_rs A w) = false) ∨ ∃ u, pu_cbe A u ∧ R.2 = nI u.length ∧ pu_l (R.1.1 24) (R.1.1 0 44) (pu_lq2 u) ∧ R.1.1 0 45 = nI (pu_co A u))) := by
        intro hno
        refine ih (k + 1) fu b (by omega) (by omega) ?_
        rcases hb with ⟨h1, h2⟩ | ⟨s, h1, h2, h3, h4, h5⟩
        · exact .inl ⟨h1, fun t ht hs => (by
            by_cases e : t = k
            · rw [e] at hs ⊢; exact hno hs
            · exact h2 t (by omega) hs)⟩
        · exact .inr ⟨s, h1, h2, h3, h4, fun t ht hs hd => (by
            by_cases e : t = k
            · rw [e] at hs hd; rw [hno hs] at hd; cases hd
            · exact h5 t (by omega) hs hd)⟩
      rw [M_findCheapest_19, nI_clamp (n := k) (by omega), nI_1 k]
      refine pw_f (nI_ge (b := 64) (by omega) (by decide)) (pw_gd (fy_ix_nI hk64 (by decide)) ?_)
      cases hsk : sn k
      · rw [((h.1 k hk64).1 hsk).1]
        exact pw_t (by decide) (pw_bl (skip (fun h => by rw [hsk] at h; cases h)))
      · obtain ⟨vk, _, lk, ek, _, _⟩ := (h.1 k hk64).2.1 hsk
        have ck := (pu_co_b hA vk).2
        rw [ek]
        refine pw_f (nI_pos (by omega)) (pw_be (M_acq ha hA hM hk64) ?_)
        cases hac : pu_ev (A.2.2.2.2 0) k
        · exact pw_t rfl (pw_bl (skip (fun _ => hac)))
        · have hack : pu_acc A k = true := hac
          refine pw_f (by decide) ?_
          rcases hb with ⟨h1, h2⟩ | ⟨s, h1, h2, h3, h4, h5⟩
          · subst h1
            refine pw_t (by decide) (pw_bl (ih (k + 1) fu _ (by omega) (by omega) (.inr ⟨k, hk64, rfl, hsk, hack, fun t ht hs hd => ?_⟩)))
            by_cases e : t = k
            · rw [e]; exact pu_l3_r _
            · rw [h2 t (by omega) hs] at hd; cases hd
          · subst h2
            refine pw_f (nI_pos (by omega)) (pw_bd (M_ah hA h hk64 h1 hsk h3) (fun r hr => ?_))
            rcases hr with ⟨g1, g2⟩ | ⟨g1, g2⟩
            · subst g1
              refine pw_f (by decide) (pw_bl (ih (k + 1) fu _ (by omega) (by omega) (.inr ⟨k, hk64, rfl, hsk, hack, fun t ht hs hd => ?_⟩)))
              by_cases e : t = k
              · rw [e]; exact pu_l3_r _
              · exact pu_l3_t g2 (h5 t (by omega) hs hd)
            · subst g1
              refine pw_t rfl (pw_bl (ih (k + 1) fu _ (by omega) (by omega) (.inr ⟨s, h1, rfl, h3, h4, fun t ht hs hd => ?_⟩)))
              by_cases e : t = k
              · rw [e]; exact g2
              · exact h5 t (by omega) hs hd
  exact L 64 0 fy_fu (-1) (by omega) (fz_fu (by omega)) (.inl ⟨rfl, fun t ht => absurd ht (Nat.not_lt_zero t)⟩)
theorem ez_findCheapest {SX SM : fy_S} (v1 : Int32) (h : pu_I SX SM) : pu_O (X9_findCheapest SX v1) (M_findCheapest SM v1) := by
  rcases pu_slot v1 with ⟨a, ha, rfl⟩ | hb
  · obtain ⟨G, hw, hX, hM⟩ := h
    have hA := hw.1 a (by omega)
    have hXA := hX.1 a (by omega)
    have hMe : pw (M_findCheapest SM (nI a)) (fun R => (R.2 = -1 ∧ pu_M R.1 G ∧ ∀ w, pu_wv (G.1 a).2.1 w → pu_acc (G.1 a) (pu_rs (G.1 a) w) = false) ∨ ∃ u, pu_cbe (G.1 a) u ∧ R.2 = nI u.length ∧ pu_M R.1 (pu_sf G (pu_lq2 u) (pu_co (G.1 a) u))) := by
      rw [M_findCheapest]
      refine pw_be (M_slot_y ha) (pw_f (by decide) (pw_bd (M_fb (by omega) hA (hM.1 a (by omega))) (fun S1 s1 => ?_)))
      obtain ⟨f1, sn, dn, W, hd, hall, hcov⟩ := s1
      have hMA1 : pu_MA S1 a (G.1 a) := pu_MA_c hA (hM.1 a (by omega)) (fun i g1 g2 => (f1 _ _ (by unfold pu_d7; omega)).1) (fun k g1 g2 => (f1 _ _ (by unfold pu_d7; omega)).1) (fun k g1 g2 => (f1 _ _ (by unfold pu_d7; omega)).1) (fun k g1 g2 => (f1 _ _ (by unfold pu_d7; omega)).1)
      refine pw_m (M_cho (by omega) hA hMA1 hd hall hcov) (fun R r => ?_)
      obtain ⟨f2, ⟨e1, e2, e3⟩ | ⟨u, hcb, e1, e2, e3⟩⟩ := r
      · exact .inl ⟨e1, by rw [e2]; exact pu_M_fr hw hM (fr_m f1 (fun i k h => by unfold pu_d7 at h; unfold pu_ms; omega)), e3⟩
      · exact .inr ⟨u, hcb, e1, pu_M_f hw hM (fr_t (fr_m f1 (fun i k h => by unfold pu_d7 at h; unfold pu_mf; omega)) (fr_m f2 (fun i k h => by unfold pu_d8 at h; unfold pu_mf; omega))) e2 e3⟩
    have hXe : pw (X9_findCheapest SX (nI a)) (fun R => (R.2 = -1 ∧ pu_X R.1 G ∧ ∀ w, pu_wv (G.1 a).2.1 w → pu_acc (G.1 a) (pu_rs (G.1 a) w) = false) ∨ ∃ u, pu_cbe (G.1 a) u ∧ u.length ≤ 63 ∧ R.2 = nI u.length ∧ pu_X R.1 (pu_sf G (pu_lq2 u) (pu_co (G.1 a) u))) := by
      rw [X9_findCheapest]
      refine pw_be (X_ain_y ha) (pw_bd (X_load (v0 := 20) (by omega) hA (by decide) hXA) (fun S1 s1 => ?_))
      have hXA1 : pu_XA S1 (38 + 41 * a) (G.1 a) := pu_XA_c hXA (fun i k g1 g2 => s1.2 i k (by omega))
      refine pw_bp (X_sch (by omega) hA hXA1 s1.1) (fun S2 r2 h2 => ?_)
      obtain ⟨P, b, hpf, hps, hpm, h32, hle, f2, hres⟩ := h2
      dsimp only at hpf h32 f2 hres
      have f12 : fr pu_xs SX S2 := fr_t (fr_m s1.2 (fun i k h => by unfold pu_xs; omega)) (fr_m f2 (fun i k h => by unfold pu_c4 at h; unfold pu_xs; omega))
      rcases hres with ⟨e1, h9⟩ | ⟨e1, h9, hex⟩
      · subst e1
        refine pw_t rfl (pw_s (.inl ⟨rfl, pu_X_fr hw hX f12, fun w hv => ?_⟩))
        cases hac : pu_acc (G.1 a) (pu_rs (G.1 a) w)
        · rfl
        · exfalso
          obtain ⟨w', g1, g2, g3, g4⟩ := pu_sho4 hA hv
          have q1 := hle _ (pu_rs_lt hA w').2 (by rw [g2]; exact hac)
          have q2 := hpm w' g1 (by omega)
          have q3 := pu_pri_b hA g1 (by omega)
          omega
      · subst e1
        have l2 : pu_ld S2 20 (G.1 a) := pu_ld_c s1.1 (fun i k h => f2 i k (by unfold pu_c4; omega))
        have hXA2 : pu_XA S2 (38 + 41 * a) (G.1 a) := pu_XA_c hXA1 (fun i k g1 g2 => f2 i k (by unfold pu_c4; omega))
        refine pw_f (by decide) (pw_bd (X_scp (by omega) hA hXA2 l2 hpf hps hpm h32 h9 hle hex) (fun S3 s3 => ?_))
        obtain ⟨⟨u, hcb, hlen, hu⟩, f3⟩ := s3
        have hXA3 : pu_XA S3 (38 + 41 * a) (G.1 a) := pu_XA_c hXA2 (fun i k g1 g2 => f3 i k (by omega))
        have hcost := X_cost (by omega) hA hXA3 hcb.1 (by omega) hu
        rw [pu_cs_co] at hcost
        refine pw_be hcost (pw_bl (pw_s (.inr ⟨u, hcb, hlen, ?_, ?_⟩)))
        · have e14 : (fy_sI S3 0 13 (nI (pu_co (G.1 a) u))).1 14 1 = nI u.length := (rd_n (by omega)).trans hu.1
          exact e14
        · have f13 : fr pu_xf SX (fy_sI S3 0 13 (nI (pu_co (G.1 a) u))) := fr_I (fr_t (fr_t (fr_m s1.2 (fun i k h => by unfold pu_xf; omega)) (fr_m f2 (fun i k h => by unfold pu_c4 at h; unfold pu_xf; omega))) (fr_m f3 (fun i k h => by unfold pu_xf; omega))) (by unfold pu_xf; omega)
          refine pu_X_f hX f13 (pu_l_c hu (rd_n (by omega)) (fun k _ => rd_n (by omega))) rd_y ?_
          refine pu_P_c hX.2.2.2.2.2.2.2 ?_ (fun i k g1 g2 => ?_)
          · rw [rd_n (by omega), (f3 _ _ (by omega)).1, (f2 _ _ (by unfold pu_c4; omega)).1, (s1.2 _ _ (by omega)).1]
          · rw [rd_n (by omega), (f3 _ _ (by omega)).1, (f2 _ _ (by unfold pu_c4; omega)).1, (s1.2 _ _ (by omega)).1]
    obtain ⟨⟨SM', r⟩, e, hr⟩ := hMe
    obtain ⟨⟨SX', r'⟩, e', hr'⟩ := hXe
    dsimp only at hr hr'
    rcases hr with ⟨g1, g2, g3⟩ | ⟨u, hcb, g1, g2⟩
    · rcases hr' with ⟨k1, k2, k3⟩ | ⟨u', hcb', _, _, _⟩
      · exact ⟨SX', SM', -1, by rw [e', k1], by rw [e, g1], G, hw, k2, g2⟩
      · have := g3 u' hcb'.1
        rw [hcb'.2.1] at this; cases this
    · rcases hr' with ⟨k1, k2, k3⟩ | ⟨u', hcb', hlen', k1, k2⟩
      · have := k3 u hcb.1
        rw [hcb.2.1] at this; cases this
      · have eu := pu_cbe_u hcb' hcb
        subst eu
        exact ⟨SX', SM', nI u'.length, by rw [e', k1], by rw [e, g1], pu_sf G (pu_lq2 u') (pu_co (G.1 a) u'), ⟨hw.1, hw.2.1, hw.2.2.1, hw.2.2.2.1, by show u'.length ≤ 128; omega, hw.2.2.2.2.2⟩, k2, g2⟩
  · refine pu_same (-2) h ?_ ?_
    · rw [X9_findCheapest]; exact pw_eq (pw_be (X_ain_n hb) (pw_s rfl))
    · rw [M_findCheapest]; exact pw_eq (pw_be (M_slot_n hb) (pw_t rfl (pw_s rfl)))
