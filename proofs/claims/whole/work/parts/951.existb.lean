/-! existentialSets -/
def pu_es (A : pu_A) (w : pu_q) : Nat → Nat → Prop
  | 0, t => pu_eI A t
  | i + 1, t => t < 64 ∧ ∃ s, s < 64 ∧ pu_es A w i s ∧ pu_mi (pu_aP A s (w.2 i)) t = true
def pu_ac (F s : Nat) : Bool := decide ((nI s &&& (nI F ^^^ (-1 : Int32))) = 0)
theorem fb_ct_sm (p : Nat → Bool) : ∀ n, fb_ct p n = fb_sm (fun k => if p k then 1 else 0) n := by
  intro n
  induction n with
  | zero => rfl
  | succ n ih => rw [fb_ct_succ, fb_sm_succ, ih]
theorem X_accs {S : fy_S} {B F : Nat} (h5 : S.1 B 5 = nI F) : X0_acceptingSets S B = some (pu_tb (pu_ac F) 64) := by
  have L : ∀ d s fu, s + d = 64 → d < fu → pw (X0_acceptingSets_4 S fu B (pu_tb (pu_ac F) s) (nI s)) (fun r => r = pu_tb (pu_ac F) 64) := by
    intro d
    induction d with
    | zero =>
      intro s fu hs hfu
      obtain ⟨fu, rfl⟩ : ∃ z, fu = z + 1 := ⟨fu - 1, by omega⟩
      have : s = 64 := by omega
      subst this
      rw [X0_acceptingSets_4]
      exact pw_t (by decide) (pw_s rfl)
    | succ d ih =>
      intro s fu hs hfu
      obtain ⟨fu, rfl⟩ : ∃ z, fu = z + 1 := ⟨fu - 1, by omega⟩
      have ih := ih (s + 1) fu (by omega) (by omega)
      rw [X0_acceptingSets_4, h5, nI_1 s]
      refine pw_f (nI_ge (b := 64) (by omega) (by decide)) ?_
      rw [pu_tb] at ih
      by_cases hc : (nI s &&& (nI F ^^^ (-1 : Int32))) = 0
      · rw [show pu_ac F s = true from decide_eq_true hc, if_pos rfl] at ih
        exact pw_t hc (pw_bl (pw_bl ih))
      · rw [show pu_ac F s = false from decide_eq_false hc] at ih
        exact pw_f hc (pw_bl (by simpa using ih))
  exact pw_eq (L 64 0 fy_fu (by omega) (fz_fu (by omega)))
theorem X_esets {S : fy_S} {a ac : Nat} {A : pu_A} {w : pu_q} {ans : Int32} (ha : a < 7) (hA : pu_wA A) (hX : pu_XA S (38 + 41 * a) A) (hac : ac ≤ 1) (hw : w.1 ≤ 12) (hl : pu_l (S.1 13) (S.1 12 1) w) (hf : pu_fit w A.2.1 w.1 = true) (hans : ∀ p : Nat → Bool, (∀ s, s < 64 → (p s = true ↔ pu_es A w w.1 s)) → ans = nI (fb_ct (fun s => p s && (decide (ac = 0) || pu_ac A.2.2.1 s)) 64)) : ∀ d i fu v, i + d = w.1 → d < fu → (∀ s, s < 64 → (lb v s = true ↔ pu_es A w i s)) → pw (X9_existentialSets_51 S fu (nI ac) (38 + 41 * a) v (nI i)) (fun r => r = ans) := by
  have hm3 : A.2.1 ≤ 3 := hA.2.2.2.1
  intro d
  induction d with
  | zero =>
    intro i fu v hi hfu hv
    obtain ⟨fu, rfl⟩ : ∃ z, fu = z + 1 := ⟨fu - 1, by omega⟩
    have : i = w.1 := by omega
    subst this
    have hans := hans (lb v) hv
    rw [X9_existentialSets_51, hl.1]
    refine pw_t (nI_le (Nat.le_refl _) (by omega)) ?_
    by_cases h1 : ac = 1
    · subst h1
      refine pw_t rfl (pw_be (X_accs hX.2.2.1) ?_)
      rw [X9_existentialSets_103]
      refine pw_be (X_bc _) (pw_s ?_)
      rw [hans]
      congr 1
      refine fb_ct_cong (fun s hs => ?_)
      rw [lb_and, lb_tb64 _ hs]
      simp
    · have : ac = 0 := by omega
      subst this
      refine pw_f (by decide) ?_
      rw [X9_existentialSets_103]
      refine pw_be (X_bc _) (pw_s ?_)
      rw [hans]
      congr 1
      refine fb_ct_cong (fun s hs => ?_)
      simp
  | succ d ih =>
    intro i fu v hi hfu hv
    obtain ⟨fu, rfl⟩ : ∃ z, fu = z + 1 := ⟨fu - 1, by omega⟩
    have hiw : i < w.1 := by omega
    have hlt := pu_fit_t hf i hiw
    rw [X9_existentialSets_51, hl.1, nI_1 i]
    refine pw_f (nI_ge hiw (by omega)) (pw_be (X_letter hl hiw hw) (pw_bd (X_enext ha hA hX hlt) (fun v1 hv1 => pw_bl (ih (i + 1) fu v1 (by omega) (by omega) (fun t ht => ?_)))))
    rw [hv1 t ht]
    constructor
    · rintro ⟨s, h1, h2, h3⟩
      exact ⟨ht, s, h1, (hv s h1).mp h2, h3⟩
    · rintro ⟨_, s, h1, h2, h3⟩
      exact ⟨s, h1, (hv s h1).mpr h2, h3⟩
/-! the reference -/
theorem M_esets {S : fy_S} {a ac : Nat} {A : pu_A} {w : pu_q} {ans : Int32} (ha : a < 7) (hA : pu_wA A) (hM : pu_MA S a A) (hac : ac ≤ 1) (hw : w.1 ≤ 12) (hl : pu_l (S.1 14) (S.1 0 25) w) (hf : pu_fit w A.2.1 w.1 = true) (hans : ∀ p : Nat → Bool, (∀ s, s < 64 → (p s = true ↔ pu_es A w w.1 s)) → ans = nI (fb_ct (fun s => p s && (decide (ac = 0) || pu_ac A.2.2.1 s)) 64)) : ∀ d i fu S' n f, i + d = w.1 → d < fu → fr pu_se S S' → pu_fd S' n f → (∀ s, s < 64 → (pu_es A w i s ↔ ∃ j, j < n ∧ f j = s)) → pw (M_existentialSets_48 fu S' (nI a) (nI ac) (nI i)) (fun R => R.2 = ans ∧ fr pu_se S R.1) := by
  have hm3 : A.2.1 ≤ 3 := hA.2.2.2.1
  have mvL : ∀ S', fr pu_se S S' → pu_l (S'.1 14) (S'.1 0 25) w := fun S' f => pu_l_c hl (f _ _ (by unfold pu_se; omega)).1 (fun k _ => (f _ _ (by unfold pu_se; omega)).1)
  intro d
  induction d with
  | zero =>
    intro i fu S' n f hi hfu hfr hd hes
    obtain ⟨fu, rfl⟩ : ∃ z, fu = z + 1 := ⟨fu - 1, by omega⟩
    have : i = w.1 := by omega
    subst this
    have hn64 := hd.1
    rw [M_existentialSets_48, (mvL S' hfr).1]
    refine pw_t (nI_le (Nat.le_refl _) (by omega)) ?_
    have E : ∀ e k fu, k + e = n → e < fu → pw (M_existentialSets_146 fu S' (nI a) (nI ac) (nI (fb_ct (fun j => decide (ac = 0) || pu_ac A.2.2.1 (f j)) k)) (nI k)) (fun R => R.2 = nI (fb_ct (fun j => decide (ac = 0) || pu_ac A.2.2.1 (f j)) n) ∧ R.1 = S') := by
      intro e
      induction e with
      | zero =>
        intro k fu hk hfu
        obtain ⟨fu, rfl⟩ : ∃ z, fu = z + 1 := ⟨fu - 1, by omega⟩
        have : k = n := by omega
        subst this
        rw [M_existentialSets_146, hd.2.1]
        exact pw_t (nI_le (Nat.le_refl _) (by omega)) (pw_s ⟨rfl, rfl⟩)
      | succ e ih2 =>
        intro k fu hk hfu
        obtain ⟨fu, rfl⟩ : ∃ z, fu = z + 1 := ⟨fu - 1, by omega⟩
        have hkn : k < n := by omega
        have hdk := hd.2.2.1 k hkn
        have ih2 := ih2 (k + 1) fu (by omega) (by omega)
        rw [fb_ct_succ] at ih2
        rw [M_existentialSets_146, hd.2.1]
        refine pw_f (nI_ge hkn (by omega)) ?_
        by_cases h0 : ac = 0
        · subst h0
          refine pw_t rfl (pw_bl (pw_bl ?_))
          rw [nI_1, nI_1]
          exact ih2
        · have : ac = 1 := by omega
          subst this
          rw [nI_clamp (by omega), nI_clamp (by omega), hdk.2.1, (pu_MA_se hA hM hfr).2.2.1]
          refine pw_f (by decide) (pw_gd (fy_ix_nI (by omega) (by decide)) (pw_gd (fy_ix_nI ha (by decide)) ?_))
          by_cases hc : (nI (f k) &&& (nI A.2.2.1 ^^^ (-1 : Int32))) = 0
          · rw [show pu_ac A.2.2.1 (f k) = true from decide_eq_true hc, Bool.or_true, if_pos rfl] at ih2
            refine pw_t hc (pw_bl (pw_bl ?_))
            rw [nI_1, nI_1]
            exact ih2
          · rw [show pu_ac A.2.2.1 (f k) = false from decide_eq_false hc] at ih2
            refine pw_f hc (pw_bl (pw_bl ?_))
            rw [nI_1 k, show (0 : Int32) = nI 0 from rfl, nI_add]
            exact ih2
    refine pw_m (E n 0 fy_fu (by omega) (fz_fu (by omega))) (fun R r => ⟨?_, by rw [r.2]; exact hfr⟩)
    rw [r.1, hans (fun s => decide (∃ j, j < n ∧ f j = s)) (fun s hs => by rw [decide_eq_true_eq]; exact (hes s hs).symm), fb_ct_sm, fb_ct_sm]
    congr 1
    rw [fb_sm_im (N := 64) (f := f) n _ (fun i hi => (hd.2.2.1 i hi).1) (pu_fd_i hd) (fun s hs hno => ?_)]
    · refine fb_sm_cong (fun j hj => ?_)
      have : decide (∃ j', j' < n ∧ f j' = f j) = true := decide_eq_true ⟨j, hj, rfl⟩
      simp only [this, Bool.true_and]
    · have : decide (∃ j, j < n ∧ f j = s) = false := decide_eq_false (fun ⟨j, hj, e⟩ => hno j hj e)
      simp only [this, Bool.false_and, Bool.false_eq_true, if_false]
  | succ d ih =>
    intro i fu S' n f hi hfu hfr hd hes
    obtain ⟨fu, rfl⟩ : ∃ z, fu = z + 1 := ⟨fu - 1, by omega⟩
    have hiw : i < w.1 := by omega
    have hlt := pu_fit_t hf i hiw
    have hn64 := hd.1
    rw [M_existentialSets_48, (mvL S' hfr).1, hd.2.1]
    refine pw_f (nI_ge hiw (by omega)) (pw_bl ?_)
    -- the models of each
    have B : ∀ e k fu' S' n' f', k + e = n → e < fu' → fr pu_se S S' → (∀ j, j < n → S'.1 21 j = nI (f j)) → pu_fd S' n' f' → (∀ t, t < 64 → ((∃ j, j < k ∧ pu_mi (pu_aP A (f j) (w.2 i)) t = true) ↔ ∃ j, j < n' ∧ f' j = t)) → pw (M_existentialSets_99 (fun S v1 v2 v3 => M_existentialSets_48 fu S v1 v2 v3) fu' S' (nI a) (nI ac) (nI i) (nI n) (nI k)) (fun R => R.2 = ans ∧ fr pu_se S R.1) := by
      intro e
      induction e with
      | zero =>
        intro k fu' S' n' f' hk hfu' hfr h21 hd' hin
        obtain ⟨fu', rfl⟩ : ∃ z, fu' = z + 1 := ⟨fu' - 1, by omega⟩
        have : k = n := by omega
        subst this
        rw [M_existentialSets_99, nI_1 i]
        refine pw_t (nI_le (Nat.le_refl _) (by omega)) (pw_bl (ih (i + 1) fu S' n' f' (by omega) (by omega) hfr hd' (fun t ht => ?_)))
        rw [← hin t ht]
        constructor
        · rintro ⟨_, s, h1, h2, h3⟩
          obtain ⟨j, hj, ej⟩ := (hes s h1).mp h2
          exact ⟨j, hj, by rw [ej]; exact h3⟩
        · rintro ⟨j, hj, h3⟩
          exact ⟨ht, f j, (hd.2.2.1 j hj).1, (hes _ (hd.2.2.1 j hj).1).mpr ⟨j, hj, rfl⟩, h3⟩
      | succ e ih2 =>
        intro k fu' S' n' f' hk hfu' hfr h21 hd' hin
        obtain ⟨fu', rfl⟩ : ∃ z, fu' = z + 1 := ⟨fu' - 1, by omega⟩
        have hkn : k < n := by omega
        rw [M_existentialSets_99, nI_1 k, nI_clamp (by omega), nI_clamp (by omega), h21 k hkn, (mvL S' hfr).2 i hiw, pu_bda]
        refine pw_f (nI_ge hkn (by omega)) (pw_gd (fy_ix_nI (by omega) (by decide)) (pw_gd (fy_ix_nI (by omega) (by decide)) (pw_bd (M_mod1 ha hA (pu_MA_se hA hM hfr) (hd.2.2.1 k hkn).1 hlt hd') (fun S1 h1 => pw_bl ?_))))
        obtain ⟨n2, f2, hd2, hn2, hf2, hi2, hw2, hfr2⟩ := h1
        refine ih2 (k + 1) fu' S1 n2 f2 (by omega) (by omega) (fr_t hfr (fr_m hfr2 (fun i k h => h.1))) (fun j hj => by rw [(hfr2 _ _ (by omega)).1]; exact h21 j hj) hd2 (fun t ht => ?_)
        constructor
        · rintro ⟨j, hj, h3⟩
          by_cases e : j = k
          · subst e; exact hi2 t ht h3
          · obtain ⟨j', hj', ej'⟩ := (hin t ht).mp ⟨j, by omega, h3⟩
            exact ⟨j', by omega, by rw [hf2 j' hj']; exact ej'⟩
        · rintro ⟨j, hj, ej⟩
          by_cases e : j < n'
          · obtain ⟨j', hj', h3⟩ := (hin t ht).mpr ⟨j, e, by rw [← hf2 j e]; exact ej⟩
            exact ⟨j', by omega, h3⟩
          · exact ⟨k, by omega, by rw [← ej]; exact hw2 j (by omega) hj⟩
    -- copying
    have C : ∀ e k fu' S', k + e = n → e < fu' → fr pu_se S S' → pu_fd S' n f → (∀ j, j < k → S'.1 21 j = nI (f j)) → pw (M_existentialSets_65 (fun S v1 v2 v3 => M_existentialSets_48 fu S v1 v2 v3) fu' S' (nI a) (nI ac) (nI i) (nI n) (nI k)) (fun R => R.2 = ans ∧ fr pu_se S R.1) := by
      intro e
      induction e with
      | zero =>
        intro k fu' S' hk hfu' hfr hd' h21
        obtain ⟨fu', rfl⟩ : ∃ z, fu' = z + 1 := ⟨fu' - 1, by omega⟩
        have : k = n := by omega
        subst this
        rw [M_existentialSets_65]
        refine pw_t (nI_le (Nat.le_refl _) (by omega)) (pw_bd M_forget (fun S1 s1 => ?_))
        exact B k 0 fy_fu S1 0 (fun _ => 0) (by omega) (fz_fu (by omega)) (fr_t hfr (fr_sx_se s1.2)) (fun j hj => by rw [(s1.2 _ _ (by unfold pu_sx; omega)).1]; exact h21 j hj) s1.1 (fun t _ => ⟨fun ⟨j, hj, _⟩ => absurd hj (Nat.not_lt_zero j), fun ⟨j, hj, _⟩ => absurd hj (Nat.not_lt_zero j)⟩)
      | succ e ih2 =>
        intro k fu' S' hk hfu' hfr hd' h21
        obtain ⟨fu', rfl⟩ : ∃ z, fu' = z + 1 := ⟨fu' - 1, by omega⟩
        have hkn : k < n := by omega
        rw [M_existentialSets_65, nI_1 k, nI_clamp (by omega), (hd'.2.2.1 k hkn).2.1]
        refine pw_f (nI_ge hkn (by omega)) (pw_gd (fy_ix_nI (by omega) (by decide)) (pw_gd (fy_ix_nI (by omega) (by decide)) (pw_bl (pw_bl (ih2 (k + 1) fu' _ (by omega) (by omega) (fr_I hfr (by unfold pu_se; omega)) (pu_fd_c hd' (rd_n (by omega)) (fun i k h => rd_n (by omega))) (fun j hj => ?_))))))
        by_cases ej : j = k
        · rw [ej, rd_y]
        · rw [rd_n (by omega)]; exact h21 j (by omega)
    exact C n 0 fy_fu S' (by omega) (fz_fu (by omega)) hfr hd (fun j hj => absurd hj (Nat.not_lt_zero j))
theorem ez_existentialSets {SX SM : fy_S} (v1 v2 : Int32) (h : pu_I SX SM) : ∃ SM' r, X9_existentialSets SX v1 v2 = some r ∧ M_existentialSets SM v1 v2 = some (SM', r) ∧ pu_I SX SM' := by
  have hI := h
  rcases pu_slot v1 with ⟨a, ha, rfl⟩ | hb
  · rcases pu_bw (lo := 0) (hi := 1) v2 (by decide) (by decide) with ⟨ac, _, hac, rfl⟩ | hb
    · obtain ⟨G, hw, hX, hM⟩ := h
      have hwA := hw.1 a (by omega)
      have hXA := hX.1 a (by omega)
      have hMA := hM.1 a (by omega)
      have hm3 : (G.1 a).2.1 ≤ 3 := hwA.2.2.2.1
      have hl : G.2.2.2.1.1 ≤ 12 := hw.2.2.2.1.1
      have eX := X_fits hXA.2.1 hm3 hl hw.2.2.2.1.2 hX.2.2.2.1
      have eM := M_fits (by omega) hMA.2.1 hm3 hl hw.2.2.2.1.2 hM.2.2.2.1
      by_cases hf : pu_fit G.2.2.2.1 (G.1 a).2.1 G.2.2.2.1.1 = true
      · rw [hf] at eX eM
        have hq := hXA.2.2.2.2 0 (by decide) (.inl rfl)
        have e0 : SX.2 (38 + 41 * a + 3) 2 = pu_T ((G.1 a).2.2.2.2 0) := hq.2
        have hmi : ∀ s, s < 64 → lb (pu_mt (lb (pu_T ((G.1 a).2.2.2.2 0)))) s = pu_mi (pu_ev ((G.1 a).2.2.2.2 0)) s := fun s hs => by
          rw [lb_mt _ hs]; exact pu_mi_c (fun t ht => lb_T _ ht) hs
        -- any two ways to write the predicate count alike
        have hcls : ∃ p0 : Nat → Bool, ∀ s, p0 s = true ↔ pu_es (G.1 a) G.2.2.2.1 G.2.2.2.1.1 s := by
          refine ⟨fun s => @decide (pu_es (G.1 a) G.2.2.2.1 G.2.2.2.1.1 s) (Classical.propDecidable _), fun s => ?_⟩
          exact @decide_eq_true_iff _ (Classical.propDecidable _)
        obtain ⟨p0, hp0⟩ := hcls
        have hans : ∀ p : Nat → Bool, (∀ s, s < 64 → (p s = true ↔ pu_es (G.1 a) G.2.2.2.1 G.2.2.2.1.1 s)) → nI (fb_ct (fun s => p0 s && (decide (ac = 0) || pu_ac (G.1 a).2.2.1 s)) 64) = nI (fb_ct (fun s => p s && (decide (ac = 0) || pu_ac (G.1 a).2.2.1 s)) 64) := by
          intro p hp
          congr 1
          refine fb_ct_cong (fun s hs => ?_)
          have : p0 s = p s := Bool.eq_iff_iff.mpr ((hp0 s).trans (hp s hs).symm)
          rw [this]
        have hMe : pw (M_existentialSets SM (nI a) (nI ac)) (fun R => R.2 = nI (fb_ct (fun s => p0 s && (decide (ac = 0) || pu_ac (G.1 a).2.2.1 s)) 64) ∧ fr pu_se SM R.1) := by
          rw [M_existentialSets]
          refine pw_be (M_slot_y ha) (pw_f (by decide) (pw_be (M_between_y (lo := 0) (hi := 1) (Nat.zero_le _) hac (by decide)) (pw_f (by decide) (pw_be eM (pw_f (by decide) (pw_bd M_forget (fun S1 s1 => ?_)))))))
          rw [pu_bda]
          refine pw_bd (M_mod0 (by omega) hwA (pu_MA_se hwA hMA (fr_sx_se s1.2)) s1.1) (fun S2 s2 => ?_)
          obtain ⟨n', f', hd', hnn, hff, hin, hnew, hfr⟩ := s2
          exact M_esets (by omega) hwA hMA hac hl hM.2.2.2.1 hf hans G.2.2.2.1.1 0 fy_fu S2 n' f' (by omega) (fz_fu (by omega)) (fr_t (fr_sx_se s1.2) hfr) hd' (fun s hs => ⟨fun h => hin s hs h.2, fun ⟨j, hj, e⟩ => ⟨hs, by rw [← e]; exact hnew j (Nat.zero_le _) hj⟩⟩)
        obtain ⟨⟨SM', r⟩, e3, e4, f⟩ := hMe
        dsimp only at e4 f
        subst e4
        refine ⟨SM', _, ?_, e3, G, hw, hX, pu_M_fr hw hM (fr_m f (fun i k h => by unfold pu_se at h; unfold pu_ms; omega))⟩
        rw [X9_existentialSets]
        refine pw_eq (pw_be (X_ain_y ha) (pw_be (X_within_y (lo := 0) (hi := 1) (Nat.zero_le _) hac (by decide)) (pw_f (by decide) (pw_be eX (pw_f (by decide) ?_)))))
        rw [e0]
        exact pw_be (X_min _) (X_esets (by omega) hwA hXA hac hl hX.2.2.2.1 hf hans G.2.2.2.1.1 0 fy_fu _ (by omega) (fz_fu (by omega)) (fun s hs => by rw [hmi s hs]; exact ⟨fun h => ⟨hs, h⟩, fun h => h.2⟩))
      · have hf : pu_fit G.2.2.2.1 (G.1 a).2.1 G.2.2.2.1.1 = false := by simpa using hf
        rw [hf] at eX eM
        refine ⟨SM, -4, ?_, ?_, hI⟩
        · rw [X9_existentialSets]; exact pw_eq (pw_be (X_ain_y ha) (pw_be (X_within_y (lo := 0) (hi := 1) (Nat.zero_le _) hac (by decide)) (pw_f (by decide) (pw_be eX (pw_t rfl (pw_s rfl))))))
        · rw [M_existentialSets]; exact pw_eq (pw_be (M_slot_y ha) (pw_f (by decide) (pw_be (M_between_y (lo := 0) (hi := 1) (Nat.zero_le _) hac (by decide)) (pw_f (by decide) (pw_be eM (pw_t rfl (pw_s rfl)))))))
    · refine ⟨SM, -2, ?_, ?_, hI⟩
      · rw [X9_existentialSets]; exact pw_eq (pw_be (X_ain_y ha) (pw_be (X_within_n (lo := 0) (hi := 1) hb) (pw_t rfl (pw_s rfl))))
      · rw [M_existentialSets]; exact pw_eq (pw_be (M_slot_y ha) (pw_f (by decide) (pw_be (M_between_n (lo := 0) (hi := 1) hb) (pw_t rfl (pw_s rfl)))))
  · refine ⟨SM, -2, ?_, ?_, hI⟩
    · rw [X9_existentialSets]; exact pw_eq (pw_be (X_ain_n hb) (pw_s rfl))
    · rw [M_existentialSets]; exact pw_eq (pw_be (M_slot_n hb) (pw_t rfl (pw_s rfl)))
