/-! the reference: best words of all sets, nearer ones first -/
def pu_dj (S : fy_S) (A : pu_A) (sn dn : Nat → Bool) (W : Nat → List Nat) : Prop := (∀ t, t < 64 → (sn t = false → S.1 27 t = -1 ∧ dn t = false) ∧ (sn t = true → pu_wv A.2.1 (W t) ∧ pu_rs A (W t) = t ∧ (W t).length ≤ 64 ∧ S.1 27 t = nI (pu_co A (W t)) ∧ S.1 28 t = nI (W t).length ∧ (W t = [] ∨ ∃ x r, W t = x :: W r ∧ r < 64 ∧ sn r = true ∧ dn r = true ∧ S.1 29 t = nI x ∧ S.1 30 t = nI r)) ∧ S.1 31 t = pu_bi (dn t) ∧ (dn t = true → ∀ w, pu_wv A.2.1 w → pu_rs A w = t → pu_l3 A (W t) w)) ∧ sn A.2.2.1 = true ∧ W A.2.2.1 = []
theorem pu_dj_s {S : fy_S} {A : pu_A} {sn dn : Nat → Bool} {W : Nat → List Nat} (h : pu_dj S A sn dn W) {t : Nat} (ht : t < 64) (hd : dn t = true) : sn t = true := by
  cases e : sn t
  · rw [((h.1 t ht).1 e).2] at hd; cases hd
  · rfl
theorem pu_ll_tot : ∀ {a b : List Nat}, a.length = b.length → pu_ll a b ∨ pu_ll b a := by
  intro a
  induction a with
  | nil =>
    intro b h
    cases b with
    | nil => exact .inl trivial
    | cons y b => cases h
  | cons x a ih =>
    intro b h
    cases b with
    | nil => cases h
    | cons y b =>
      have h : a.length = b.length := by simpa using h
      rcases Nat.lt_trichotomy x y with e | e | e
      · exact .inl (.inl e)
      · rcases ih h with g | g
        · exact .inl (.inr ⟨e, g⟩)
        · exact .inr (.inr ⟨e.symm, g⟩)
      · exact .inr (.inl e)
/-- two chains of one length -/
theorem M_c120 {S : fy_S} {A : pu_A} {sn dn : Nat → Bool} {W : Nat → List Nat} (h : pu_dj S A sn dn W) (hm3 : A.2.1 ≤ 3) {n : Nat} (hn : n ≤ 65) : ∀ L k fu a b, k + L = n → L < fu → a < 64 → b < 64 → sn a = true → sn b = true → (W a).length = L → (W b).length = L → pw (M_isBetter_120 S fu (nI n) (nI a) (nI b) (nI k)) (fun r => (r = 1 ∧ pu_ll (W a) (W b)) ∨ (r = 0 ∧ pu_ll (W b) (W a))) := by
  intro L
  induction L with
  | zero =>
    intro k fu a b hk hfu ha hb hsa hsb hla hlb
    obtain ⟨fu, rfl⟩ : ∃ z, fu = z + 1 := ⟨fu - 1, by omega⟩
    rw [M_isBetter_120]
    refine pw_t (nI_le (by omega) (by omega)) (pw_s (.inr ⟨rfl, ?_⟩))
    rw [List.length_eq_zero_iff.mp hla, List.length_eq_zero_iff.mp hlb]; trivial
  | succ L ih =>
    intro k fu a b hk hfu ha hb hsa hsb hla hlb
    obtain ⟨fu, rfl⟩ : ∃ z, fu = z + 1 := ⟨fu - 1, by omega⟩
    obtain ⟨va, _, _, _, _, pa⟩ := (h.1 a ha).2.1 hsa
    obtain ⟨vb, _, _, _, _, pb⟩ := (h.1 b hb).2.1 hsb
    obtain ⟨xa, ra, ea, hra, hsra, _, e29a, e30a⟩ := pa.resolve_left (fun e => by rw [e] at hla; cases hla)
    obtain ⟨xb, rb, eb, hrb, hsrb, _, e29b, e30b⟩ := pb.resolve_left (fun e => by rw [e] at hlb; cases hlb)
    have hxa : xa < 3 := Nat.lt_of_lt_of_le (va xa (by rw [ea]; simp)) hm3
    have hxb : xb < 3 := Nat.lt_of_lt_of_le (vb xb (by rw [eb]; simp)) hm3
    rw [ea, List.length_cons] at hla
    rw [eb, List.length_cons] at hlb
    rw [M_isBetter_120, nI_clamp (by omega), nI_clamp (by omega), e29a, e29b, e30a, e30b, nI_1 k]
    refine pw_f (nI_ge (by omega) (by omega)) (pw_gd (fy_ix_nI ha (by decide)) (pw_gd (fy_ix_nI hb (by decide)) ?_))
    rw [ea, eb]
    by_cases e : xa = xb
    · refine pw_t (by rw [e]) (pw_gd (fy_ix_nI ha (by decide)) (pw_bl (pw_gd (fy_ix_nI hb (by decide)) (pw_bl (pw_bl ?_)))))
      refine pw_m (ih (k + 1) fu ra rb (by omega) (by omega) hra hrb hsra hsrb (by omega) (by omega)) (fun r hr => ?_)
      rcases hr with ⟨h1, h2⟩ | ⟨h1, h2⟩
      · exact .inl ⟨h1, .inr ⟨e, h2⟩⟩
      · exact .inr ⟨h1, .inr ⟨e.symm, h2⟩⟩
    · refine pw_f (fun he => e ((nI_eq (by omega) (by omega)).mp he)) (pw_gd (fy_ix_nI ha (by decide)) (pw_gd (fy_ix_nI hb (by decide)) ?_))
      by_cases hlt : xb ≤ xa
      · exact pw_t (nI_le hlt (by omega)) (pw_s (.inr ⟨rfl, .inl (by omega)⟩))
      · exact pw_f (nI_ge (by omega) (by omega)) (pw_s (.inl ⟨rfl, .inl (by omega)⟩))
theorem M_bt {S : fy_S} {A : pu_A} {sn dn : Nat → Bool} {W : Nat → List Nat} (hA : pu_wA A) (h : pu_dj S A sn dn W) {s t x : Nat} (hs : s < 64) (ht : t < 64) (hss : sn s = true) (hsl : (W s).length ≤ 63) (hx : x < A.2.1) : pw (M_isBetter S (nI (pu_co A (x :: W s))) (nI ((W s).length + 1)) (nI x) (nI s) (nI t)) (fun r => (r = 1 ∧ (sn t = true → pu_l3 A (x :: W s) (W t))) ∨ (r = 0 ∧ sn t = true ∧ pu_l3 A (W t) (x :: W s))) := by
  have hm3 : A.2.1 ≤ 3 := hA.2.2.2.1
  obtain ⟨vs, _, _, _, _, _⟩ := (h.1 s hs).2.1 hss
  have vxs : pu_wv A.2.1 (x :: W s) := fun y hy => (List.mem_cons.mp hy).elim (fun e => by rw [e]; exact hx) (vs y)
  have bxs := pu_co_b hA vxs
  rw [List.length_cons] at bxs
  have b21 : ∀ ct, S.1 27 t = nI ct → ct < 2 ^ 30 → M_isBetter_21 S (nI (pu_co A (x :: W s))) (nI t) = some (if ct ≤ pu_co A (x :: W s) then 0 else 1) := by
    intro ct e27 hct
    rw [M_isBetter_21, nI_clamp (by omega), e27, fy_gd_y ht (by decide), if_neg (nI_pos (by omega)), fy_gd_y ht (by decide)]
    by_cases e : ct ≤ pu_co A (x :: W s)
    · rw [if_pos e, if_pos (nI_le e (by omega))]
    · rw [if_neg e, if_neg (nI_ge (by omega) (by omega))]
  cases hst : sn t
  · have e27 := ((h.1 t ht).1 hst).1
    rw [M_isBetter, nI_clamp (by omega), e27, M_isBetter_21, nI_clamp (by omega), e27]
    exact pw_gd (fy_ix_nI ht (by decide)) (pw_t (by decide) (pw_gd (fy_ix_nI ht (by decide)) (pw_t (by decide) (pw_s (.inl ⟨rfl, fun h => (by cases h)⟩)))))
  · obtain ⟨vt, _, lt, e27, e28, pt⟩ := (h.1 t ht).2.1 hst
    have bt := pu_co_b hA vt
    have b21' := b21 _ e27 (by omega)
    rw [M_isBetter, nI_clamp (by omega), e27, e28, b21']
    refine pw_gd (fy_ix_nI ht (by decide)) (pw_f (nI_pos (by omega)) (pw_gd (fy_ix_nI ht (by decide)) ?_))
    by_cases hc : pu_co A (x :: W s) = pu_co A (W t)
    · refine pw_t (by rw [hc]) (pw_gd (fy_ix_nI ht (by decide)) ?_)
      by_cases hl : (W s).length + 1 = (W t).length
      · obtain ⟨xt, rt, et, hrt, hsrt, _, e29, e30⟩ := pt.resolve_left (fun e => by rw [e] at hl; cases hl)
        have hxt : xt < 3 := Nat.lt_of_lt_of_le (vt xt (by rw [et]; simp)) hm3
        rw [e29, e30]
        refine pw_t (by rw [hl]) (pw_gd (fy_ix_nI ht (by decide)) ?_)
        by_cases hx' : x = xt
        · refine pw_t (by rw [hx']) (pw_gd (fy_ix_nI ht (by decide)) (pw_bl ?_))
          have hlr : (W rt).length = (W s).length := by rw [et, List.length_cons] at hl; omega
          refine pw_m (M_c120 h hm3 (n := (W s).length + 1) (by omega) (W s).length 1 fy_fu s rt (by omega) (fz_fu (by omega)) hs hrt hss hsrt rfl hlr) (fun r hr => ?_)
          rcases hr with ⟨h1, h2⟩ | ⟨h1, h2⟩
          · refine .inl ⟨h1, fun _ => .inr ⟨hc, .inr ⟨by rw [List.length_cons]; exact hl, ?_⟩⟩⟩
            rw [et]; exact .inr ⟨hx', h2⟩
          · refine .inr ⟨h1, rfl, .inr ⟨hc.symm, .inr ⟨by rw [List.length_cons]; exact hl.symm, ?_⟩⟩⟩
            rw [et]; exact .inr ⟨hx'.symm, h2⟩
        · refine pw_f (fun he => hx' ((nI_eq (by omega) (by omega)).mp he)) (pw_gd (fy_ix_nI ht (by decide)) ?_)
          by_cases hlt : xt ≤ x
          · refine pw_t (nI_le hlt (by omega)) (pw_s (.inr ⟨rfl, rfl, .inr ⟨hc.symm, .inr ⟨by rw [List.length_cons]; exact hl.symm, ?_⟩⟩⟩))
            rw [et]; exact .inl (by omega)
          · refine pw_f (nI_ge (by omega) (by omega)) (pw_s (.inl ⟨rfl, fun _ => .inr ⟨hc, .inr ⟨by rw [List.length_cons]; exact hl, ?_⟩⟩⟩))
            rw [et]; exact .inl (by omega)
      · refine pw_f (fun he => hl ((nI_eq (by omega) (by omega)).mp he)) (pw_gd (fy_ix_nI ht (by decide)) ?_)
        by_cases hlt : (W t).length ≤ (W s).length + 1
        · exact pw_t (nI_le hlt (by omega)) (pw_s (.inr ⟨rfl, rfl, .inr ⟨hc.symm, .inl (by rw [List.length_cons]; omega)⟩⟩))
        · exact pw_f (nI_ge (by omega) (by omega)) (pw_s (.inl ⟨rfl, fun _ => .inr ⟨hc, .inl (by rw [List.length_cons]; omega)⟩⟩))
    · refine pw_f (fun he => hc ((nI_eq (by omega) (by omega)).mp he)) ?_
      by_cases hlt : pu_co A (W t) ≤ pu_co A (x :: W s)
      · rw [if_pos hlt]
        exact pw_s (.inr ⟨rfl, rfl, .inl (by omega)⟩)
      · rw [if_neg hlt]
        exact pw_s (.inl ⟨rfl, fun _ => .inl (by omega)⟩)
theorem M_nst {S : fy_S} {A : pu_A} {sn dn : Nat → Bool} {W : Nat → List Nat} (hA : pu_wA A) (h : pu_dj S A sn dn W) : pw (M_nearest S) (fun r => (r = -1 ∧ ∀ t, t < 64 → sn t = true → dn t = true) ∨ ∃ s, s < 64 ∧ r = nI s ∧ sn s = true ∧ dn s = false ∧ ∀ t, t < 64 → sn t = true → dn t = false → pu_co A (W s) ≤ pu_co A (W t)) := by
  have cb : ∀ t, t < 64 → sn t = true → pu_co A (W t) ≤ 576 := fun t ht hs => by
    obtain ⟨v, _, l, _⟩ := (h.1 t ht).2.1 hs
    have := (pu_co_b hA v).2
    omega
  have L : ∀ d k fu (b : Int32), k + d = 64 → d < fu → ((b = -1 ∧ ∀ t, t < k → sn t = true → dn t = true) ∨ ∃ s, s < 64 ∧ b = nI s ∧ sn s = true ∧ dn s = false ∧ ∀ t, t < k → sn t = true → dn t = false → pu_co A (W s) ≤ pu_co A (W t)) → pw (M_nearest_4 S fu b (nI k)) (fun r => (r = -1 ∧ ∀ t, t < 64 → sn t = true → dn t = true) ∨ ∃ s, s < 64 ∧ r = nI s ∧ sn s = true ∧ dn s = false ∧ ∀ t, t < 64 → sn t = true → dn t = false → pu_co A (W s) ≤ pu_co A (W t)) := by
    intro d
    induction d with
    | zero =>
      intro k fu b hk hfu hb
      obtain ⟨fu, rfl⟩ : ∃ z, fu = z + 1 := ⟨fu - 1, by omega⟩
      have : k = 64 := by omega
      subst this
      rw [M_nearest_4]
      exact pw_t (by decide) (pw_s hb)
    | succ d ih =>
      intro k fu b hk hfu hb
      obtain ⟨fu, rfl⟩ : ∃ z, fu = z + 1 := ⟨fu - 1, by omega⟩
      have hk64 : k < 64 := by omega
      have skip : (sn k = true → dn k = true) → pw (M_nearest_4 S fu b (nI (k + 1))) (fun r => (r = -1 ∧ ∀ t, t < 64 → sn t = true → dn t = true) ∨ ∃ s, s < 64 ∧ r = nI s ∧ sn s = true ∧ dn s = false ∧ ∀ t, t < 64 → sn t = true → dn t = false → pu_co A (W s) ≤ pu_co A (W t)) := by
        intro hno
        refine ih (k + 1) fu b (by omega) (by omega) ?_
        rcases hb with ⟨h1, h2⟩ | ⟨s, h1, h2, h3, h4, h5⟩
        · exact .inl ⟨h1, fun t ht hs => (by
            by_cases e : t = k
            · rw [e] at hs ⊢; exact hno hs
            · exact h2 t (by omega) hs)⟩
        · exact .inr ⟨s, h1, h2, h3, h4, fun t ht hs hd => (by
            by_cases e : t = k
            · rw [e] at hs hd; rw [hno hs] at hd; cases hd
            · exact h5 t (by omega) hs hd)⟩
      rw [M_nearest_4, nI_clamp (by omega), (h.1 k hk64).2.2.1, nI_1 k]
      refine pw_f (nI_ge (b := 64) (by omega) (by decide)) (pw_gd (fy_ix_nI hk64 (by decide)) ?_)
      cases hsk : sn k
      · rw [((h.1 k hk64).1 hsk).1]
        exact pw_t (by decide) (pw_bl (skip (fun h => by rw [hsk] at h; cases h)))
      · have ek := ((h.1 k hk64).2.1 hsk).2.2.2.1
        have ck := cb k hk64 hsk
        rw [ek]
        refine pw_f (nI_pos (by omega)) (pw_gd (fy_ix_nI hk64 (by decide)) ?_)
        cases hdk : dn k
        · refine pw_t rfl ?_
          rcases hb with ⟨h1, h2⟩ | ⟨s, h1, h2, h3, h4, h5⟩
          · subst h1
            refine pw_t (by decide) (pw_bl (ih (k + 1) fu _ (by omega) (by omega) (.inr ⟨k, hk64, rfl, hsk, hdk, fun t ht hs hd => ?_⟩)))
            by_cases e : t = k
            · rw [e]; exact Nat.le_refl _
            · rw [h2 t (by omega) hs] at hd; cases hd
          · subst h2
            have es := ((h.1 s h1).2.1 h3).2.2.2.1
            have cs := cb s h1 h3
            rw [nI_clamp (by omega), es]
            refine pw_f (nI_pos (by omega)) (pw_gd (fy_ix_nI hk64 (by decide)) (pw_gd (fy_ix_nI h1 (by decide)) ?_))
            by_cases hle : pu_co A (W s) ≤ pu_co A (W k)
            · refine pw_t (nI_le hle (by omega)) (pw_bl (ih (k + 1) fu _ (by omega) (by omega) (.inr ⟨s, h1, rfl, h3, h4, fun t ht hs hd => ?_⟩)))
              by_cases e : t = k
              · rw [e]; exact hle
              · exact h5 t (by omega) hs hd
            · refine pw_f (nI_ge (by omega) (by omega)) (pw_bl (ih (k + 1) fu _ (by omega) (by omega) (.inr ⟨k, hk64, rfl, hsk, hdk, fun t ht hs hd => ?_⟩)))
              by_cases e : t = k
              · rw [e]; exact Nat.le_refl _
              · have := h5 t (by omega) hs hd
                omega
        · exact pw_f (by decide) (pw_bl (skip (fun _ => hdk)))
  rw [M_nearest]
  exact L 64 0 fy_fu (-1) (by omega) (fz_fu (by omega)) (.inl ⟨rfl, fun t ht => absurd ht (Nat.not_lt_zero t)⟩)
def pu_d7 (i k : Nat) : Prop := 27 ≤ i ∧ i ≤ 31
def pu_dk (A : pu_A) (sn dn : Nat → Bool) (W : Nat → List Nat) : Prop := ∀ t, t < 64 → dn t = true → ∀ x, x < A.2.1 → sn (pu_sp1 A x t) = true ∧ pu_l3 A (W (pu_sp1 A x t)) (x :: W t)
/-- a word leads to a set that is done, or a set that isn't is no further -/
theorem pu_dC {S : fy_S} {A : pu_A} {sn dn : Nat → Bool} {W : Nat → List Nat} (hA : pu_wA A) (h : pu_dj S A sn dn W) (hk : pu_dk A sn dn W) : ∀ w, pu_wv A.2.1 w → dn (pu_rs A w) = true ∨ ∃ t, t < 64 ∧ sn t = true ∧ dn t = false ∧ ((t = pu_rs A w ∧ pu_l3 A (W t) w) ∨ pu_co A (W t) < pu_co A w) := by
  intro w
  induction w with
  | nil =>
    intro _
    have hF := (pu_rs_lt hA []).2
    cases hd : dn (pu_rs A [])
    · exact .inr ⟨pu_rs A [], hF, h.2.1, hd, .inl ⟨rfl, by rw [show W (pu_rs A []) = [] from h.2.2]; exact pu_l3_r _⟩⟩
    · exact .inl rfl
  | cons x w ih =>
    intro hv
    have hvw : pu_wv A.2.1 w := fun y hy => hv y (by simp [hy])
    have hx := hv x (by simp)
    have hlt := (pu_rs_lt hA w).2
    rcases ih hvw with hd | ⟨t, ht, hs, hd, hc⟩
    · obtain ⟨k1, k2⟩ := hk _ hlt hd x hx
      have hb := (h.1 _ hlt).2.2.2 hd w hvw rfl
      have e : pu_rs A (x :: w) = pu_sp1 A x (pu_rs A w) := rfl
      rw [e]
      cases hd2 : dn (pu_sp1 A x (pu_rs A w))
      · exact .inr ⟨_, (pu_sp1_lt hA x _).2, k1, hd2, .inl ⟨rfl, pu_l3_t k2 (pu_l3_c x hb)⟩⟩
      · exact .inl rfl
    · refine .inr ⟨t, ht, hs, hd, .inr ?_⟩
      have hwx := (hA.2.2.2.2.2.1 x (by have := hA.2.2.2.1; omega)).1
      rw [pu_co]
      rcases hc with ⟨_, hc | ⟨hc, _⟩⟩ | hc <;> omega
theorem M_fb {S : fy_S} {a : Nat} {A : pu_A} (ha : a < 7) (hA : pu_wA A) (hM : pu_MA S a A) : pw (M_findBest S (nI a)) (fun S' => fr pu_d7 S S' ∧ ∃ sn dn W, pu_dj S' A sn dn W ∧ (∀ t, t < 64 → sn t = true → dn t = true) ∧ ∀ w, pu_wv A.2.1 w → sn (pu_rs A w) = true) := by
  have hm3 : A.2.1 ≤ 3 := hA.2.2.2.1
  have h64 := pu_2n hA.2.1
  have hF : A.2.2.1 < 64 := Nat.lt_of_lt_of_le hA.2.2.2.2.1 h64
  have mvM : ∀ S', fr pu_d7 S S' → pu_MA S' a A := fun S' f => pu_MA_c hA hM (fun i g1 g2 => (f _ _ (by unfold pu_d7; omega)).1) (fun k g1 g2 => (f _ _ (by unfold pu_d7; omega)).1) (fun k g1 g2 => (f _ _ (by unfold pu_d7; omega)).1) (fun k g1 g2 => (f _ _ (by unfold pu_d7; omega)).1)
  have D : ∀ g fu S' sn dn W (v : Int32), fb_ct dn 64 + g = 65 → g < fu → fr pu_d7 S S' → pu_dj S' A sn dn W → pu_dk A sn dn W → ((v = -1 ∧ ∀ t, t < 64 → sn t = true → dn t = true) ∨ ∃ s, s < 64 ∧ v = nI s ∧ sn s = true ∧ dn s = false ∧ ∀ t, t < 64 → sn t = true → dn t = false → pu_co A (W s) ≤ pu_co A (W t)) → pw (M_findBest_59 fu S' (nI a) v) (fun S' => fr pu_d7 S S' ∧ ∃ sn dn W, pu_dj S' A sn dn W ∧ (∀ t, t < 64 → sn t = true → dn t = true) ∧ ∀ w, pu_wv A.2.1 w → sn (pu_rs A w) = true) := by
    intro g
    induction g with
    | zero =>
      intro fu S' sn dn W v hg hfu hf hd hk hv
      have := fb_ct_le dn 64
      omega
    | succ g ih =>
      intro fu S' sn dn W v hg hfu hf hd hk hv
      obtain ⟨fu, rfl⟩ : ∃ z, fu = z + 1 := ⟨fu - 1, by omega⟩
      rw [M_findBest_59]
      rcases hv with ⟨h1, h2⟩ | ⟨s, hs, h2, hss, hds, hnear⟩
      · subst h1
        refine pw_t (by decide) (pw_s ⟨hf, sn, dn, W, hd, h2, fun w hv => ?_⟩)
        have hlt := (pu_rs_lt hA w).2
        rcases pu_dC hA hd hk w hv with hx | ⟨t, ht, hst, hdt, _⟩
        · exact pu_dj_s hd hlt hx
        · rw [h2 t ht hst] at hdt; cases hdt
      · subst h2
        refine pw_f (nI_pos (by omega)) (pw_gd (fy_ix_nI hs (by decide)) (pw_bl ?_))
        rw [nI_clamp (by omega), show vp_nar .boolean (1 : Int32) = pu_bi true from by decide]
        -- the word of the nearest set is its best
        have best : ∀ w, pu_wv A.2.1 w → pu_rs A w = s → pu_l3 A (W s) w := by
          intro w hv hrs
          rcases pu_dC hA hd hk w hv with hx | ⟨t, ht, hst, hdt, hc⟩
          · rw [hrs, hds] at hx; cases hx
          · rcases hc with ⟨e, hc⟩ | hc
            · rw [e, hrs] at hc; exact hc
            · have := hnear t ht hst hdt
              exact .inl (by omega)
        obtain ⟨vs, rss, _, _, _, _⟩ := (hd.1 s hs).2.1 hss
        have len63 : (W s).length ≤ 63 := pu_b63 hA vs (fun w' hv' he => best w' hv' (by rw [he, rss]))
        generalize hdn : (fun t => if t = s then true else dn t) = dn'
        have dns : dn' s = true := by rw [← hdn]; exact if_pos rfl
        have dno : ∀ t, t ≠ s → dn' t = dn t := fun t ht => by rw [← hdn]; exact if_neg ht
        have dnm : ∀ t, dn t = true → dn' t = true := fun t ht => by
          by_cases e : t = s
          · rw [e]; exact dns
          · rw [dno t e]; exact ht
        have cnt : fb_ct dn' 64 = fb_ct dn 64 + 1 := by
          have u := fb_ct_upd dn true (i := s) (n := 64) hs
          rw [hds, hdn] at u
          simp only [Bool.false_eq_true, if_false, if_true] at u
          omega
        have hd' : pu_dj (fy_sI S' 31 s (pu_bi true)) A sn dn' W := by
          refine ⟨fun t ht => ?_, hd.2⟩
          obtain ⟨q1, q2, q3, q4⟩ := hd.1 t ht
          refine ⟨fun h => ?_, fun h => ?_, ?_, fun h => ?_⟩
          · have : t ≠ s := fun e => by rw [e, hss] at h; cases h
            rw [rd_n (by omega), dno t this]; exact q1 h
          · obtain ⟨p1, p2, p3, p4, p5, p6⟩ := q2 h
            refine ⟨p1, p2, p3, by rw [rd_n (by omega)]; exact p4, by rw [rd_n (by omega)]; exact p5, p6.elim .inl (fun ⟨x, r, r1, r2, r3, r4, r5, r6⟩ => .inr ⟨x, r, r1, r2, r3, dnm r r4, by rw [rd_n (by omega)]; exact r5, by rw [rd_n (by omega)]; exact r6⟩)⟩
          · by_cases e : t = s
            · rw [e, rd_y, dns]
            · rw [rd_n (by omega), dno t e]; exact q3
          · by_cases e : t = s
            · rw [e]; exact best
            · rw [dno t e] at h; exact q4 h
        have hk' : ∀ t, t < 64 → dn' t = true → t ≠ s → ∀ x, x < A.2.1 → sn (pu_sp1 A x t) = true ∧ pu_l3 A (W (pu_sp1 A x t)) (x :: W t) := fun t ht hdt hne x hx => hk t ht (by rw [dno t hne] at hdt; exact hdt) x hx
        -- the letters
        have X : ∀ n x fu' S1 sn1 W1, x + n = A.2.1 → n < fu' → fr pu_d7 S S1 → pu_dj S1 A sn1 dn' W1 → (∀ t, t < 64 → dn' t = true → W1 t = W t) → sn1 s = true → (∀ t, t < 64 → dn' t = true → t ≠ s → ∀ x, x < A.2.1 → sn1 (pu_sp1 A x t) = true ∧ pu_l3 A (W1 (pu_sp1 A x t)) (x :: W1 t)) → (∀ x', x' < x → sn1 (pu_sp1 A x' s) = true ∧ pu_l3 A (W1 (pu_sp1 A x' s)) (x' :: W1 s)) → pw (M_findBest_72 (fun S v1 v2 => M_findBest_59 fu S v1 v2) fu' S1 (nI a) (nI s) (nI x)) (fun S' => fr pu_d7 S S' ∧ ∃ sn dn W, pu_dj S' A sn dn W ∧ (∀ t, t < 64 → sn t = true → dn t = true) ∧ ∀ w, pu_wv A.2.1 w → sn (pu_rs A w) = true) := by
          intro n
          induction n with
          | zero =>
            intro x fu' S1 sn1 W1 hxn hfu' hf1 hd1 hW1 hss1 hk1 hx1
            obtain ⟨fu', rfl⟩ : ∃ z, fu' = z + 1 := ⟨fu' - 1, by omega⟩
            have : x = A.2.1 := by omega
            subst this
            rw [M_findBest_72, nI_clamp (by omega), (mvM S1 hf1).2.1]
            refine pw_gd (fy_ix_nI ha (by decide)) (pw_t (nI_le (Nat.le_refl _) (by omega)) (pw_bd (M_nst hA hd1) (fun r hr => ?_)))
            refine ih fu S1 sn1 dn' W1 r (by omega) (by omega) hf1 hd1 (fun t ht hdt x hx => ?_) hr
            by_cases e : t = s
            · rw [e]; exact hx1 x hx
            · exact hk1 t ht hdt e x hx
          | succ n ih2 =>
            intro x fu' S1 sn1 W1 hxn hfu' hf1 hd1 hW1 hss1 hk1 hx1
            obtain ⟨fu', rfl⟩ : ∃ z, fu' = z + 1 := ⟨fu' - 1, by omega⟩
            have hxm : x < A.2.1 := by omega
            have hto := (pu_sp1_lt hA x s).2
            have eWs : W1 s = W s := hW1 s hs dns
            obtain ⟨v1, r1, l1, e27, e28, _⟩ := (hd1.1 s hs).2.1 hss1
            have hw4 : S1.1 4 (3 * a + x) = nI (A.2.2.2.1 x) := by rw [(hf1 _ _ (by unfold pu_d7; omega)).1]; exact hM.2.2.2.1 x (by omega)
            have eco : pu_co A (W1 s) + A.2.2.2.1 x = pu_co A (x :: W1 s) := by rw [pu_co]; omega
            have vxs : pu_wv A.2.1 (x :: W1 s) := fun y hy => (List.mem_cons.mp hy).elim (fun e => by rw [e]; exact hxm) (v1 y)
            have rsx : pu_rs A (x :: W1 s) = pu_sp1 A x s := by show pu_sp1 A x (pu_rs A (W1 s)) = _; rw [r1]
            rw [M_findBest_72, nI_clamp (n := a) (by omega), (mvM S1 hf1).2.1, nI_1 x]
            refine pw_gd (fy_ix_nI ha (by decide)) (pw_f (nI_ge hxm (by omega)) (pw_be (M_step ha hA (mvM S1 hf1) hxm hs) (pw_gd (fy_ix_nI hs (by decide)) ?_)))
            rw [show (3 : Int32) * nI a = nI (3 * a) from pk_mul 3 a, nI_add, nI_clamp (n := 3 * a + x) (by omega), nI_clamp (n := s) (by omega), nI_clamp (n := pu_sp1 A x s) (by omega), hw4, e27, e28, (hd1.1 _ hto).2.2.1, nI_add, nI_1, eco]
            refine pw_gd (fy_ix_nI (by omega) (by decide)) (pw_bl (pw_gd (fy_ix_nI hto (by decide)) ?_))
            -- the letter is passed over
            have skip : sn1 (pu_sp1 A x s) = true → pu_l3 A (W1 (pu_sp1 A x s)) (x :: W1 s) → pw (M_findBest_72 (fun S v1 v2 => M_findBest_59 fu S v1 v2) fu' S1 (nI a) (nI s) (nI (x + 1))) (fun S' => fr pu_d7 S S' ∧ ∃ sn dn W, pu_dj S' A sn dn W ∧ (∀ t, t < 64 → sn t = true → dn t = true) ∧ ∀ w, pu_wv A.2.1 w → sn (pu_rs A w) = true) := by
              intro g1 g2
              refine ih2 (x + 1) fu' S1 sn1 W1 (by omega) (by omega) hf1 hd1 hW1 hss1 hk1 (fun x' hx' => ?_)
              by_cases e : x' = x
              · rw [e]; exact ⟨g1, g2⟩
              · exact hx1 x' (by omega)
            cases hdt : dn' (pu_sp1 A x s)
            · refine pw_t rfl (pw_gd (fy_ix_nI hs (by decide)) (pw_bd (M_bt hA hd1 hs hto hss1 (by rw [eWs]; exact len63) hxm) (fun rb hb => ?_)))
              have hne : pu_sp1 A x s ≠ s := fun e => by rw [e, dns] at hdt; cases hdt
              rcases hb with ⟨h1, h2⟩ | ⟨h1, h2, h3⟩
              · subst h1
                refine pw_f (by decide) (pw_gd (fy_ix_nI hto (by decide)) (pw_bl (pw_gd (fy_ix_nI hs (by decide)) (pw_gd (fy_ix_nI hto (by decide)) (pw_bl (pw_gd (fy_ix_nI hto (by decide)) (pw_bl (pw_gd (fy_ix_nI hto (by decide)) (pw_bl (pw_bl ?_))))))))))
                rw [rd_n (by omega), e28, nI_1]
                have less : ∀ t, sn1 t = true → pu_l3 A (if t = pu_sp1 A x s then x :: W1 s else W1 t) (W1 t) := fun t hst => by
                  by_cases e : t = pu_sp1 A x s
                  · rw [if_pos e, e]; exact h2 (by rw [← e]; exact hst)
                  · rw [if_neg e]; exact pu_l3_r _
                have keep : ∀ t, t < 64 → dn' t = true → (if t = pu_sp1 A x s then x :: W1 s else W1 t) = W1 t := fun t _ hdt' => if_neg (fun e => by rw [e, hdt] at hdt'; cases hdt')
                refine ih2 (x + 1) fu' _ (fun t => if t = pu_sp1 A x s then true else sn1 t) (fun t => if t = pu_sp1 A x s then x :: W1 s else W1 t) (by omega) (by omega) (fr_I (fr_I (fr_I (fr_I hf1 (by unfold pu_d7; omega)) (by unfold pu_d7; omega)) (by unfold pu_d7; omega)) (by unfold pu_d7; omega)) ⟨fun t ht => ?_, ?_, ?_⟩ (fun t ht hdt' => by rw [keep t ht hdt']; exact hW1 t ht hdt') (by simp only [if_neg hne.symm]; exact hss1) (fun t ht hdt' hts x2 hx2 => ?_) (fun x' hx' => ?_)
                · obtain ⟨q1, q2, q3, q4⟩ := hd1.1 t ht
                  by_cases e : t = pu_sp1 A x s
                  · subst e
                    refine ⟨fun h => ?_, fun _ => ⟨?_, ?_, ?_, ?_, ?_, .inr ⟨x, s, ?_, hs, ?_, dns, ?_, ?_⟩⟩, ?_, fun h => ?_⟩
                    · simp only [if_true] at h; cases h
                    · simp only [if_true]; exact vxs
                    · simp only [if_true]; exact rsx
                    · simp only [if_true, List.length_cons, eWs]; omega
                    · simp only [if_true]
                      rw [rd_n (by omega), rd_n (by omega), rd_n (by omega), rd_y]
                    · simp only [if_true]
                      rw [rd_n (by omega), rd_n (by omega), rd_y, List.length_cons]
                    · simp only [if_true, if_neg hne.symm]
                    · simp only [if_neg hne.symm]; exact hss1
                    · rw [rd_n (by omega), rd_y]
                    · rw [rd_y]
                    · rw [rd_n (by omega), rd_n (by omega), rd_n (by omega), rd_n (by omega)]; exact q3
                    · rw [hdt] at h; cases h
                  · refine ⟨fun h => ?_, fun h => ?_, ?_, fun h => ?_⟩
                    · simp only [if_neg e] at h
                      rw [rd_n (by omega), rd_n (by omega), rd_n (by omega), rd_n (by omega)]; exact q1 h
                    · simp only [if_neg e] at h ⊢
                      obtain ⟨p1, p2, p3, p4, p5, p6⟩ := q2 h
                      refine ⟨p1, p2, p3, ?_, ?_, ?_⟩
                      · rw [rd_n (by omega), rd_n (by omega), rd_n (by omega), rd_n (by omega)]; exact p4
                      · rw [rd_n (by omega), rd_n (by omega), rd_n (by omega), rd_n (by omega)]; exact p5
                      · refine p6.elim .inl (fun ⟨x2, r, i1, i2, i3, i4, i5, i6⟩ => .inr ⟨x2, r, ?_, i2, ?_, i4, ?_, ?_⟩)
                        · rw [keep r i2 i4]; exact i1
                        · by_cases er : r = pu_sp1 A x s
                          · rw [if_pos er]
                          · rw [if_neg er]; exact i3
                        · rw [rd_n (by omega), rd_n (by omega), rd_n (by omega), rd_n (by omega)]; exact i5
                        · rw [rd_n (by omega), rd_n (by omega), rd_n (by omega), rd_n (by omega)]; exact i6
                    · rw [rd_n (by omega), rd_n (by omega), rd_n (by omega), rd_n (by omega)]; exact q3
                    · simp only [if_neg e]; exact q4 h
                · show (if A.2.2.1 = pu_sp1 A x s then true else sn1 A.2.2.1) = true
                  by_cases e : A.2.2.1 = pu_sp1 A x s
                  · rw [if_pos e]
                  · rw [if_neg e]; exact hd1.2.1
                · show (if A.2.2.1 = pu_sp1 A x s then x :: W1 s else W1 A.2.2.1) = []
                  by_cases e : A.2.2.1 = pu_sp1 A x s
                  · exfalso
                    have := h2 (by rw [← e]; exact hd1.2.1)
                    rw [← e, hd1.2.2] at this
                    have hwx := (hA.2.2.2.2.2.1 x (by omega)).1
                    have hc0 : pu_co A ([] : List Nat) = 0 := rfl
                    have hc1 : pu_co A (x :: W1 s) = A.2.2.2.1 x + pu_co A (W1 s) := rfl
                    rcases this with h | ⟨h, _⟩ <;> omega
                  · rw [if_neg e]; exact hd1.2.2
                · obtain ⟨k1, k2⟩ := hk1 t ht hdt' hts x2 hx2
                  refine ⟨?_, ?_⟩
                  · show (if pu_sp1 A x2 t = pu_sp1 A x s then true else sn1 (pu_sp1 A x2 t)) = true
                    by_cases e : pu_sp1 A x2 t = pu_sp1 A x s
                    · rw [if_pos e]
                    · rw [if_neg e]; exact k1
                  · show pu_l3 A (if pu_sp1 A x2 t = pu_sp1 A x s then x :: W1 s else W1 (pu_sp1 A x2 t)) (x2 :: (if t = pu_sp1 A x s then x :: W1 s else W1 t))
                    rw [keep t ht hdt']
                    exact pu_l3_t (less _ k1) k2
                · have e0 : (if s = pu_sp1 A x s then x :: W1 s else W1 s) = W1 s := if_neg hne.symm
                  by_cases e : x' = x
                  · subst e
                    refine ⟨if_pos rfl, ?_⟩
                    show pu_l3 A (if pu_sp1 A x' s = pu_sp1 A x' s then x' :: W1 s else W1 (pu_sp1 A x' s)) (x' :: (if s = pu_sp1 A x' s then x' :: W1 s else W1 s))
                    rw [if_pos rfl, e0]; exact pu_l3_r _
                  · obtain ⟨k1, k2⟩ := hx1 x' (by omega)
                    refine ⟨?_, ?_⟩
                    · show (if pu_sp1 A x' s = pu_sp1 A x s then true else sn1 (pu_sp1 A x' s)) = true
                      by_cases e2 : pu_sp1 A x' s = pu_sp1 A x s
                      · rw [if_pos e2]
                      · rw [if_neg e2]; exact k1
                    · show pu_l3 A (if pu_sp1 A x' s = pu_sp1 A x s then x :: W1 s else W1 (pu_sp1 A x' s)) (x' :: (if s = pu_sp1 A x s then x :: W1 s else W1 s))
                      rw [e0]
                      exact pu_l3_t (less _ k1) k2
              · subst h1
                exact pw_t rfl (pw_bl (skip h2 h3))
            · refine pw_f (by decide) (pw_bl (skip (pu_dj_s hd1 hto hdt) ((hd1.1 _ hto).2.2.2 hdt _ vxs rsx)))
        exact X A.2.1 0 fy_fu _ sn W (by omega) (fz_fu (by omega)) (fr_I hf (by unfold pu_d7; omega)) hd' (fun _ _ _ => rfl) hss hk' (fun x' hx' => absurd hx' (Nat.not_lt_zero x'))
  have I : ∀ d k fu S', k + d = 64 → d < fu → fr pu_d7 S S' → (∀ t, t < k → S'.1 27 t = -1 ∧ S'.1 31 t = 0) → pw (M_findBest_2 fu S' (nI a) (nI k)) (fun S' => fr pu_d7 S S' ∧ ∃ sn dn W, pu_dj S' A sn dn W ∧ (∀ t, t < 64 → sn t = true → dn t = true) ∧ ∀ w, pu_wv A.2.1 w → sn (pu_rs A w) = true) := by
    intro d
    induction d with
    | zero =>
      intro k fu S' hk hfu hf hy
      obtain ⟨fu, rfl⟩ : ∃ z, fu = z + 1 := ⟨fu - 1, by omega⟩
      have : k = 64 := by omega
      subst this
      rw [M_findBest_2, nI_clamp (n := a) (by omega), (mvM S' hf).2.2.1, nI_clamp (by omega)]
      refine pw_t (by decide) (pw_gd (fy_ix_nI ha (by decide)) (pw_gd (fy_ix_nI hF (by decide)) (pw_bl (pw_gd (fy_ix_nI ha (by decide)) ?_))))
      rw [rd_n (by omega), (mvM S' hf).2.2.1, nI_clamp (by omega)]
      refine pw_gd (fy_ix_nI hF (by decide)) (pw_bl (pw_gd (fy_ix_nI ha (by decide)) (pw_bl ?_)))
      rw [rd_n (by omega), rd_n (by omega), (mvM S' hf).2.2.1]
      refine D 65 fy_fu _ (fun t => decide (t = A.2.2.1)) (fun _ => false) (fun _ => []) _ (by rw [fb_ct_zero.mpr (fun k _ => rfl)]) (fz_fu (by omega)) (fr_I (fr_I hf (by unfold pu_d7; omega)) (by unfold pu_d7; omega)) ⟨fun t ht => ⟨fun h => ?_, fun h => ?_, ?_, fun h => (by cases h)⟩, decide_eq_true rfl, rfl⟩ (fun t _ h => (by cases h)) (.inr ⟨A.2.2.1, hF, rfl, decide_eq_true rfl, rfl, fun t _ _ _ => Nat.le_refl _⟩)
      · have : t ≠ A.2.2.1 := of_decide_eq_false h
        rw [rd_n (by omega), rd_n (by omega)]; exact ⟨(hy t ht).1, rfl⟩
      · have : t = A.2.2.1 := of_decide_eq_true h
        subst this
        refine ⟨fun y hy => (by cases hy), rfl, Nat.zero_le _, by rw [rd_n (by omega), rd_y]; rfl, by rw [rd_y]; rfl, .inl rfl⟩
      · rw [rd_n (by omega), rd_n (by omega)]; exact (hy t ht).2
    | succ d ih =>
      intro k fu S' hk hfu hf hy
      obtain ⟨fu, rfl⟩ : ∃ z, fu = z + 1 := ⟨fu - 1, by omega⟩
      rw [M_findBest_2, nI_clamp (n := k) (by omega), nI_1 k, show vp_nar .boolean (0 : Int32) = 0 from by decide]
      refine pw_f (nI_ge (b := 64) (by omega) (by decide)) (pw_gd (fy_ix_nI (by omega) (by decide)) (pw_bl (pw_gd (fy_ix_nI (by omega) (by decide)) (pw_bl (pw_bl (ih (k + 1) fu _ (by omega) (by omega) (fr_I (fr_I hf (by unfold pu_d7; omega)) (by unfold pu_d7; omega)) (fun t ht => ?_)))))))
      by_cases e : t = k
      · rw [e, rd_n (by omega), rd_y, rd_y]; exact ⟨rfl, rfl⟩
      · rw [rd_n (by omega), rd_n (by omega), rd_n (by omega), rd_n (by omega)]; exact hy t (by omega)
  rw [M_findBest]
  exact I 64 0 fy_fu S (by omega) (fz_fu (by omega)) fr_r (fun t ht => absurd ht (Nat.not_lt_zero t))
