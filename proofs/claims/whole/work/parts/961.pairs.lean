/-! the class's search through pairs -/
theorem pu_sho {n : Nat} (h : n < 32768) : vp_nar .short ((nI n).toInt16.toInt32) = nI n := by
  have e : (nI n).toInt16.toInt32 = nI n := fb_short (by rw [nI_toInt (by omega)]; omega) (by rw [nI_toInt (by omega)]; omega)
  rw [e]
  have := pk_vs (nI n)
  rw [e] at this
  exact this
theorem X_acq {S : fy_S} {v0 s : Nat} {A : pu_A} (h : pu_ld S v0 A) (hs : s < 64) : X7_isAccepting S v0 (nI s) = some (if pu_ev (A.2.2.2.2 0) s then 1 else 0) := by
  rw [X7_isAccepting, h.2.2.1]
  refine pw_eq (pw_be (X_isIn' hs) ?_)
  rw [lb_T _ hs]
  cases pu_ev (A.2.2.2.2 0) s
  · exact pw_gd (by decide) (pw_s rfl)
  · exact pw_gd (by decide) (pw_s rfl)
theorem pu_dm (p : Nat) (hp : p < 4096) : nI p / (64 : Int32) = nI (p / 64) ∧ nI p - nI p / (64 : Int32) * (64 : Int32) = nI (p % 64) := ⟨pk_div (d := 64) (by omega) (by decide) (by decide), pk_rem (d := 64) (by omega) (by decide) (by decide)⟩
theorem X_dif {S : fy_S} {p : Nat} {A B : pu_A} (h1 : pu_ld S 20 A) (h2 : pu_ld S 26 B) (hp : p < 4096) : X6_differs S 20 26 (nI p) = some (if pu_df A B false p then 1 else 0) := by
  rw [X6_differs, (pu_dm p hp).2, (pu_dm p hp).1]
  refine pw_eq (pw_be (X_acq h1 (by omega)) (pw_be (X_acq h2 (by omega)) ?_))
  unfold pu_df
  cases pu_ev (A.2.2.2.2 0) (p / 64) <;> cases pu_ev (B.2.2.2.2 0) (p % 64)
  · exact pw_t rfl (pw_s rfl)
  · exact pw_f (by decide) (pw_s rfl)
  · exact pw_f (by decide) (pw_s rfl)
  · exact pw_t rfl (pw_s rfl)
theorem X_sp2 {S : fy_S} {p x : Nat} {A B : pu_A} (hA : pu_wA A) (hB : pu_wA B) (hm : A.2.1 = B.2.1) (h1 : pu_ld S 20 A) (h2 : pu_ld S 26 B) (hp : pu_pv A B p) (hx : x < A.2.1) : X6_stepPair S 20 26 (nI p) (nI x) = some (nI (pu_p2 A B p x)) := by
  have hlt := pu_pv_lt hA hp
  rw [X6_stepPair, (pu_dm p hlt).2, (pu_dm p hlt).1]
  refine pw_eq (pw_be (X_st hA h1 hx hp.1) (pw_be (X_st hB h2 (by omega) hp.2) (pw_s ?_)))
  rw [show nI (pu_sp1 A x (p / 64)) * (64 : Int32) = nI (pu_sp1 A x (p / 64) * 64) from pk_mul _ 64, nI_add]
  unfold pu_p2
  rw [Nat.mul_comm]
/-- pairs that were reached: the k-th is O k, after d k letters -/
def pu_xb (S : fy_S) (A B : pu_A) (c : Nat) (O d : Nat → Nat) : Prop := c ≤ 4096 ∧ S.1 34 3 = nI c ∧ (∀ k, k < c → pu_pv A B (O k) ∧ S.1 35 k = nI (O k) ∧ S.1 36 (O k) = nI (d k) ∧ d k ≤ k ∧ ∃ w, pu_wv A.2.1 w ∧ w.length = d k ∧ pu_rg A B (pu_pb A B) w = O k) ∧ (∀ y, y < 4096 → (∀ k, k < c → O k ≠ y) → S.1 36 y = -1) ∧ (∀ i j, i < c → j < c → O i = O j → i = j) ∧ ∀ i j, i ≤ j → j < c → d i ≤ d j
def pu_x4 (i k : Nat) : Prop := (i = 34 ∧ k = 3) ∨ i = 35 ∨ i = 36
theorem X_rea {S : fy_S} {A B : pu_A} {c p e : Nat} {O d : Nat → Nat} (hA : pu_wA A) (h : pu_xb S A B c O d) (hp : pu_pv A B p) (he : ∀ k, k < c → d k ≤ e) (hec : e ≤ c) (hw : ∃ w, pu_wv A.2.1 w ∧ w.length = e ∧ pu_rg A B (pu_pb A B) w = p) : pw (X6_reach S (nI p) (nI e)) (fun S' => ∃ c' O' d', pu_xb S' A B c' O' d' ∧ c ≤ c' ∧ (∀ k, k < c → O' k = O k ∧ d' k = d k) ∧ (∃ k, k < c' ∧ O' k = p ∧ d' k ≤ e) ∧ (∀ k, c ≤ k → k < c' → d' k = e) ∧ fr pu_x4 S S') := by
  obtain ⟨h1, h2, h3, h4, h5, h6⟩ := h
  have hlt := pu_pv_lt hA hp
  rw [X6_reach, h2, nI_clamp (by omega)]
  refine pw_f (nI_pos (by omega)) (pw_f (nI_ge (b := 4096) hlt (by decide)) ?_)
  by_cases hx : ∃ k, k < c ∧ O k = p
  · obtain ⟨k, hk, ek⟩ := hx
    have same : ∃ c' O' d', pu_xb S A B c' O' d' ∧ c ≤ c' ∧ (∀ k, k < c → O' k = O k ∧ d' k = d k) ∧ (∃ k, k < c' ∧ O' k = p ∧ d' k ≤ e) ∧ (∀ k, c ≤ k → k < c' → d' k = e) ∧ fr pu_x4 S S := ⟨c, O, d, ⟨h1, h2, h3, h4, h5, h6⟩, Nat.le_refl _, fun _ _ => ⟨rfl, rfl⟩, ⟨k, hk, ek, he k hk⟩, fun j g1 g2 => by omega, fr_r⟩
    refine pw_if (fun _ => pw_s same) (fun _ => pw_gd (fy_ix_nI hlt (by decide)) ?_)
    have e36 := (h3 k hk).2.2.1
    rw [ek] at e36
    rw [e36]
    refine pw_f (fun hm => ?_) (pw_s same)
    have hdk := (h3 k hk).2.2.2.1
    have h1 := nI_toInt (n := d k) (by omega)
    rw [hm] at h1
    have h2 : (-1 : Int32).toInt = -1 := by decide
    omega
  · have hno : ∀ k, k < c → O k ≠ p := fun k hk e => hx ⟨k, hk, e⟩
    have hc : c + 1 ≤ 4096 := by
      refine fb_holes 4096 (c + 1) (fun k => if k < c then O k else p) (fun i hi => ?_) (fun i j hij hj e => ?_)
      · by_cases e : i < c
        · simp only [if_pos e]; exact pu_pv_lt hA (h3 i e).1
        · simp only [if_neg e]; exact hlt
      · simp only [if_pos (show i < c by omega)] at e
        by_cases ej : j < c
        · simp only [if_pos ej] at e
          have := h5 i j (by omega) ej e
          omega
        · simp only [if_neg ej] at e
          exact hno i (by omega) e
    rw [h4 p hlt hno, pu_sho (show e < 32768 by omega), pu_sho (show p < 32768 by omega)]
    refine pw_f (nI_ge (b := 4096) (by omega) (by decide)) (pw_gd (fy_ix_nI hlt (by decide)) (pw_t rfl (pw_gd (fy_ix_nI hlt (by decide)) (pw_bl ?_))))
    rw [rd_n (by omega), h2, nI_clamp (by omega)]
    refine pw_gd (fy_ix_nI (by omega) (by decide)) (pw_bl (pw_bl (pw_s ?_)))
    rw [rd_n (by omega), rd_n (by omega), h2, nI_1]
    refine ⟨c + 1, fun k => if k < c then O k else p, fun k => if k < c then d k else e, ⟨hc, rd_y, fun k hk => ?_, fun y hy hn => ?_, fun i j hi hj ee => ?_, fun i j hij hj => ?_⟩, by omega, fun k hk => ⟨if_pos hk, if_pos hk⟩, ⟨c, by omega, if_neg (by omega), ?_⟩, fun k g1 g2 => if_neg (by omega), fr_I (fr_I (fr_I fr_r (by unfold pu_x4; omega)) (by unfold pu_x4; omega)) (by unfold pu_x4; omega)⟩
    · by_cases ek : k < c
      · simp only [if_pos ek]
        have hne := hno k ek
        refine ⟨(h3 k ek).1, ?_, ?_, (h3 k ek).2.2.2.1, (h3 k ek).2.2.2.2⟩
        · rw [rd_n (by omega), rd_n (by omega), rd_n (by omega)]; exact (h3 k ek).2.1
        · rw [rd_n (by omega), rd_n (by omega), rd_n (by omega)]; exact (h3 k ek).2.2.1
      · have : k = c := by omega
        subst this
        simp only [if_neg ek]
        refine ⟨hp, ?_, ?_, hec, hw⟩
        · rw [rd_n (by omega), rd_y]
        · rw [rd_n (by omega), rd_n (by omega), rd_y]
    · have hyp : y ≠ p := fun ey => by
        have := hn c (by omega)
        simp only [if_neg (Nat.lt_irrefl c)] at this
        exact this ey.symm
      rw [rd_n (by omega), rd_n (by omega), rd_n (by omega)]
      exact h4 y hy (fun k hk => by have := hn k (by omega); simp only [if_pos hk] at this; exact this)
    · by_cases ei : i < c
      · by_cases ej : j < c
        · simp only [if_pos ei, if_pos ej] at ee
          exact h5 i j ei ej ee
        · simp only [if_pos ei, if_neg ej] at ee
          exact absurd ee (hno i ei)
      · by_cases ej : j < c
        · simp only [if_neg ei, if_pos ej] at ee
          exact absurd ee.symm (hno j ej)
        · omega
    · by_cases ej : j < c
      · simp only [if_pos ej, if_pos (show i < c by omega)]
        exact h6 i j hij ej
      · simp only [if_neg ej]
        by_cases ei : i < c
        · simp only [if_pos ei]; exact he i ei
        · simp only [if_neg ei]; exact Nat.le_refl _
    · simp only [if_neg (Nat.lt_irrefl c)]; exact Nat.le_refl _
theorem X_fgt {S : fy_S} (h : pu_P S) : pw (X6_forgetLast S) (fun S' => S'.1 34 3 = nI 0 ∧ (∀ y, y < 4096 → S'.1 36 y = -1 ∧ S'.1 37 y = 0) ∧ fr (fun i k => (i = 34 ∧ k = 3) ∨ i = 36 ∨ i = 37) S S') := by
  obtain ⟨c, f, h1, h2, h3, h4⟩ := h
  have e1 : vp_nar .short (-1 : Int32) = -1 := by decide
  have e2 : vp_nar .boolean (0 : Int32) = 0 := by decide
  have L : ∀ d k fu S', k + d = c → d < fu → S'.1 34 3 = nI c → (∀ y, y < 4096 → (∀ i, k ≤ i → i < c → f i ≠ y) → S'.1 36 y = -1 ∧ S'.1 37 y = 0) → fr (fun i k => (i = 34 ∧ k = 3) ∨ i = 36 ∨ i = 37) S S' → pw (X6_forgetLast_2 fu S' (nI k)) (fun S' => S'.1 34 3 = nI 0 ∧ (∀ y, y < 4096 → S'.1 36 y = -1 ∧ S'.1 37 y = 0) ∧ fr (fun i k => (i = 34 ∧ k = 3) ∨ i = 36 ∨ i = 37) S S') := by
    intro d
    induction d with
    | zero =>
      intro k fu S' hk hfu hc hy hf
      obtain ⟨fu, rfl⟩ : ∃ z, fu = z + 1 := ⟨fu - 1, by omega⟩
      rw [X6_forgetLast_2, hc]
      refine pw_t (nI_le (by omega) (by omega)) ?_
      rw [X6_forgetLast_47]
      refine pw_bl (pw_s ⟨rd_y, fun y hy' => ?_, fr_I hf (.inl ⟨rfl, rfl⟩)⟩)
      rw [rd_n (by omega), rd_n (by omega)]
      exact hy y hy' (fun i g1 g2 => by omega)
    | succ d ih =>
      intro k fu S' hk hfu hc hy hf
      obtain ⟨fu, rfl⟩ : ∃ z, fu = z + 1 := ⟨fu - 1, by omega⟩
      have hkc : k < c := by omega
      have hfk := h3 k hkc
      have e35 : S'.1 35 k = nI (f k) := by rw [(hf _ _ (by omega)).1]; exact hfk.2
      rw [X6_forgetLast_2, hc, nI_clamp (by omega), e35, e1, nI_clamp (by omega), nI_1]
      refine pw_f (nI_ge hkc (by omega)) (pw_f (nI_ge (b := 4096) (by omega) (by decide)) (pw_gd (fy_ix_nI (by omega) (by decide)) (pw_gd (fy_ix_nI hfk.1 (by decide)) (pw_bl (pw_gd (fy_ix_nI (by omega) (by decide)) ?_)))))
      rw [rd_n (by omega), e35, nI_clamp (by omega), e2]
      refine pw_gd (fy_ix_nI hfk.1 (by decide)) (pw_bl (pw_bl (ih (k + 1) fu _ (by omega) (by omega) (by rw [rd_n (by omega), rd_n (by omega)]; exact hc) (fun y hy' hn => ?_) (fr_I (fr_I hf (by omega)) (by omega)))))
      by_cases ey : y = f k
      · subst ey
        rw [rd_n (by omega), rd_y, rd_y]
        exact ⟨rfl, rfl⟩
      · rw [rd_n (by omega), rd_n (by omega), rd_n (by omega), rd_n (by omega)]
        refine hy y hy' (fun i g1 g2 => ?_)
        by_cases ei : i = k
        · rw [ei]; exact fun e => ey e.symm
        · exact hn i (by omega) g2
  rw [X6_forgetLast]
  exact L c 0 fy_fu S (by omega) (fz_fu (by omega)) h2 (fun y hy hn => h4 y hy (fun i hi => hn i (Nat.zero_le _) hi)) fr_r
/-- where the search stands: pairs ahead of h are seen, none of them differs -/
def pu_xc (A B : pu_A) (o : Bool) (c h : Nat) (O d : Nat → Nat) : Prop := O 0 = pu_pb A B ∧ d 0 = 0 ∧ (∀ k, k < h → pu_df A B o (O k) = false) ∧ ∀ k x, k < h → x < A.2.1 → ∃ k', k' < c ∧ O k' = pu_p2 A B (O k) x ∧ d k' ≤ d k + 1
def pu_x6 (i k : Nat) : Prop := (i = 34 ∧ (k = 3 ∨ k = 4)) ∨ (35 ≤ i ∧ i ≤ 37)
theorem X_sea {S : fy_S} {A B : pu_A} (o : Bool) (hA : pu_wA A) (hB : pu_wA B) (hm : A.2.1 = B.2.1) (hl1 : pu_ld S 20 A) (hl2 : pu_ld S 26 B) (hP : pu_P S) : pw (X6_search S 20 26 (if o then 1 else 0)) (fun R => ∃ c O d, pu_xb R.1 A B c O d ∧ (∀ y, y < 4096 → R.1.1 37 y = 0) ∧ fr pu_x6 S R.1 ∧ ((R.2 = 0 ∧ pu_xc A B o c c O d ∧ 0 < c) ∨ (R.2 = 1 ∧ ∃ h, h < c ∧ R.1.1 34 4 = nI h ∧ pu_df A B o (O h) = true ∧ pu_xc A B o c h O d))) := by
  have hm3 : A.2.1 ≤ 3 := hA.2.2.2.1
  have hFA : A.2.2.1 < 64 := Nat.lt_of_lt_of_le hA.2.2.2.2.1 (pu_2n hA.2.1)
  have hFB : B.2.2.1 < 64 := Nat.lt_of_lt_of_le hB.2.2.2.2.1 (pu_2n hB.2.1)
  have mv1 : ∀ S', fr pu_x6 S S' → pu_ld S' 20 A := fun S' f => pu_ld_c hl1 (fun i k h => f i k (by unfold pu_x6; omega))
  have mv2 : ∀ S', fr pu_x6 S S' → pu_ld S' 26 B := fun S' f => pu_ld_c hl2 (fun i k h => f i k (by unfold pu_x6; omega))
  have L : ∀ g h fu S' c O d, h + g = 4097 → g < fu → fr pu_x6 S S' → pu_xb S' A B c O d → (∀ y, y < 4096 → S'.1 37 y = 0) → pu_xc A B o c h O d → 0 < c → h ≤ c → (h < c → ∀ k, k < c → d k ≤ d h + 1) → pw (X6_search_24 fu S' 20 26 (if o then 1 else 0) (nI h)) (fun R => ∃ c O d, pu_xb R.1 A B c O d ∧ (∀ y, y < 4096 → R.1.1 37 y = 0) ∧ fr pu_x6 S R.1 ∧ ((R.2 = 0 ∧ pu_xc A B o c c O d ∧ 0 < c) ∨ (R.2 = 1 ∧ ∃ h, h < c ∧ R.1.1 34 4 = nI h ∧ pu_df A B o (O h) = true ∧ pu_xc A B o c h O d))) := by
    intro g
    induction g with
    | zero =>
      intro h fu S' c O d hh hfu hf hx hy hxc hc hhc hd
      have := hx.1
      omega
    | succ g ih =>
      intro h fu S' c O d hh hfu hf hx hy hxc hc hhc hd
      obtain ⟨fu, rfl⟩ : ∃ z, fu = z + 1 := ⟨fu - 1, by omega⟩
      have hc4 := hx.1
      rw [X6_search_24, hx.2.1]
      by_cases hlast : h = c
      · subst hlast
        exact pw_t (nI_le (Nat.le_refl _) (by omega)) (pw_s ⟨h, O, d, hx, hy, hf, .inl ⟨rfl, hxc, hc⟩⟩)
      · have hhc : h < c := by omega
        have hk := hx.2.2.1 h hhc
        have hlt := pu_pv_lt hA hk.1
        have hd := hd hhc
        rw [nI_clamp (by omega), hk.2.1]
        refine pw_f (nI_ge hhc (by omega)) (pw_f (nI_ge (b := 4096) (by omega) (by decide)) (pw_gd (fy_ix_nI (by omega) (by decide)) (pw_bl (pw_be (X_dif (mv1 S' hf) (mv2 S' hf) hlt) ?_))))
        -- going on
        have go : pu_df A B o (O h) = false → pw (X6_search_87 (fun S v1 v2 v3 v4 => X6_search_24 fu S v1 v2 v3 v4) fy_fu S' 20 26 (if o then 1 else 0) (nI h) (nI (O h)) (0 : Int32)) (fun R => ∃ c O d, pu_xb R.1 A B c O d ∧ (∀ y, y < 4096 → R.1.1 37 y = 0) ∧ fr pu_x6 S R.1 ∧ ((R.2 = 0 ∧ pu_xc A B o c c O d ∧ 0 < c) ∨ (R.2 = 1 ∧ ∃ h, h < c ∧ R.1.1 34 4 = nI h ∧ pu_df A B o (O h) = true ∧ pu_xc A B o c h O d))) := by
          intro hno
          have inner : ∀ e x fu' S' c O d, x + e = A.2.1 → e < fu' → fr pu_x6 S S' → pu_xb S' A B c O d → (∀ y, y < 4096 → S'.1 37 y = 0) → pu_xc A B o c h O d → h < c → (∀ k, k < c → d k ≤ d h + 1) → pu_df A B o (O h) = false → (∀ x', x' < x → ∃ k', k' < c ∧ O k' = pu_p2 A B (O h) x' ∧ d k' ≤ d h + 1) → pw (X6_search_87 (fun S v1 v2 v3 v4 => X6_search_24 fu S v1 v2 v3 v4) fu' S' 20 26 (if o then 1 else 0) (nI h) (nI (O h)) (nI x)) (fun R => ∃ c O d, pu_xb R.1 A B c O d ∧ (∀ y, y < 4096 → R.1.1 37 y = 0) ∧ fr pu_x6 S R.1 ∧ ((R.2 = 0 ∧ pu_xc A B o c c O d ∧ 0 < c) ∨ (R.2 = 1 ∧ ∃ h, h < c ∧ R.1.1 34 4 = nI h ∧ pu_df A B o (O h) = true ∧ pu_xc A B o c h O d))) := by
            intro e
            induction e with
            | zero =>
              intro x fu' S' c O d hxe hfu' hf hx hy hxc hhc hd hno hxx
              obtain ⟨fu', rfl⟩ : ∃ z, fu' = z + 1 := ⟨fu' - 1, by omega⟩
              have : x = A.2.1 := by omega
              subst this
              rw [X6_search_87, (mv1 S' hf).1, nI_1 h]
              refine pw_t (nI_le (Nat.le_refl _) (by omega)) (pw_bl (ih (h + 1) fu S' c O d (by omega) (by omega) hf hx hy ⟨hxc.1, hxc.2.1, fun k hk => ?_, fun k x' hk hx' => ?_⟩ (by omega) (by omega) (fun hh k hk => ?_)))
              · by_cases ek : k = h
                · rw [ek]; exact hno
                · exact hxc.2.2.1 k (by omega)
              · by_cases ek : k = h
                · rw [ek]; exact hxx x' hx'
                · exact hxc.2.2.2 k x' (by omega) hx'
              · have m1 := hd k hk
                have m2 := hx.2.2.2.2.2 h (h + 1) (by omega) hh
                omega
            | succ e ih2 =>
              intro x fu' S' c O d hxe hfu' hf hx hy hxc hhc hd hno hxx
              obtain ⟨fu', rfl⟩ : ∃ z, fu' = z + 1 := ⟨fu' - 1, by omega⟩
              have hxm : x < A.2.1 := by omega
              have hk := hx.2.2.1 h hhc
              have hlt := pu_pv_lt hA hk.1
              have hc4 := hx.1
              rw [X6_search_87, (mv1 S' hf).1, nI_1 x]
              refine pw_f (nI_ge hxm (by omega)) (pw_be (X_sp2 hA hB hm (mv1 S' hf) (mv2 S' hf) hk.1 hxm) (pw_gd (fy_ix_nI hlt (by decide)) ?_))
              rw [nI_clamp (by omega), hk.2.2.1, nI_1]
              obtain ⟨w, hw1, hw2, hw3⟩ := hk.2.2.2.2
              refine pw_bd (X_rea (e := d h + 1) hA hx (pu_pv_s hA hB (O h) x) hd (by omega) ⟨x :: w, fun y hy => (List.mem_cons.mp hy).elim (fun e => by rw [e]; exact hxm) (hw1 y), by rw [List.length_cons, hw2], by rw [pu_rg, hw3]⟩) (fun S1 s1 => pw_bl ?_)
              obtain ⟨c', O', d', hx', hcc, hsame, hin, hnew, hfr⟩ := s1
              have eOh := hsame h hhc
              have := ih2 (x + 1) fu' S1 c' O' d' (by omega) (by omega) (fr_t hf (fr_m hfr (fun i k h => by unfold pu_x4 at h; unfold pu_x6; omega))) hx' (fun y hy' => by rw [(hfr _ _ (by unfold pu_x4; omega)).1]; exact hy y hy') ⟨by rw [(hsame 0 (by omega)).1]; exact hxc.1, by rw [(hsame 0 (by omega)).2]; exact hxc.2.1, fun k hk => by rw [(hsame k (by omega)).1]; exact hxc.2.2.1 k hk, fun k x' hk hx' => ?_⟩ (by omega) (fun k hk => ?_) (by rw [eOh.1]; exact hno) (fun x' hx' => ?_)
              · rw [eOh.1] at this
                exact this
              · obtain ⟨k', g1, g2, g3⟩ := hxc.2.2.2 k x' hk hx'
                exact ⟨k', by omega, by rw [(hsame k' g1).1, (hsame k (by omega)).1]; exact g2, by rw [(hsame k' g1).2, (hsame k (by omega)).2]; exact g3⟩
              · rw [eOh.2]
                by_cases ek : k < c
                · rw [(hsame k ek).2]; exact hd k ek
                · rw [hnew k (by omega) hk]; exact Nat.le_refl _
              · rw [eOh.1, eOh.2]
                by_cases ex : x' = x
                · subst ex; exact hin
                · obtain ⟨k', g1, g2, g3⟩ := hxx x' (by omega)
                  exact ⟨k', by omega, by rw [(hsame k' g1).1]; exact g2, by rw [(hsame k' g1).2]; exact g3⟩
          exact inner A.2.1 0 fy_fu S' c O d (by omega) (fz_fu (by omega)) hf hx hy hxc hhc hd hno (fun x' hx' => absurd hx' (Nat.not_lt_zero x'))
        -- a difference
        have stop : pu_df A B o (O h) = true → pw (X6_search_76 S' (nI h)) (fun R => ∃ c O d, pu_xb R.1 A B c O d ∧ (∀ y, y < 4096 → R.1.1 37 y = 0) ∧ fr pu_x6 S R.1 ∧ ((R.2 = 0 ∧ pu_xc A B o c c O d ∧ 0 < c) ∨ (R.2 = 1 ∧ ∃ h, h < c ∧ R.1.1 34 4 = nI h ∧ pu_df A B o (O h) = true ∧ pu_xc A B o c h O d))) := by
          intro hyes
          rw [X6_search_76]
          refine pw_bl (pw_s ⟨c, O, d, ⟨hx.1, by rw [rd_n (by omega)]; exact hx.2.1, fun k hk => ?_, fun y hy' hn => ?_, hx.2.2.2.2⟩, fun y hy' => by rw [rd_n (by omega)]; exact hy y hy', fr_I hf (by unfold pu_x6; omega), .inr ⟨rfl, h, hhc, rd_y, hyes, hxc⟩⟩)
          · rw [rd_n (by omega), rd_n (by omega)]; exact hx.2.2.1 k hk
          · rw [rd_n (by omega)]; exact hx.2.2.2.1 y hy' hn
        cases hdf : pu_df A B false (O h)
        · refine pw_t rfl (go ?_)
          unfold pu_df at hdf ⊢
          revert hdf
          cases o <;> cases pu_ev (A.2.2.2.2 0) (O h / 64) <;> cases pu_ev (B.2.2.2.2 0) (O h % 64) <;> decide
        · refine pw_f (by decide) ?_
          cases o with
          | false => exact pw_t rfl (stop hdf)
          | true =>
            refine pw_f (by decide) ?_
            rw [(pu_dm (O h) hlt).1]
            refine pw_be (X_acq (mv1 S' hf) (by omega)) ?_
            unfold pu_df at hdf
            cases hev : pu_ev (A.2.2.2.2 0) (O h / 64)
            · exact pw_t rfl (go (by unfold pu_df; rw [hev]; cases pu_ev (B.2.2.2.2 0) (O h % 64) <;> decide))
            · refine pw_f (by decide) (stop ?_)
              unfold pu_df
              rw [hev] at hdf ⊢
              revert hdf
              cases pu_ev (B.2.2.2.2 0) (O h % 64) <;> decide
  rw [X6_search]
  refine pw_bd (X_fgt hP) (fun S1 s1 => ?_)
  obtain ⟨f1, f2, f3⟩ := s1
  have hf1 : fr pu_x6 S S1 := fr_m f3 (fun i k h => by unfold pu_x6; omega)
  have e0 : (S1.1 20 6 * (64 : Int32)) + S1.1 26 6 = nI (pu_pb A B) := by
    rw [(mv1 S1 hf1).2.1, (mv2 S1 hf1).2.1, show nI A.2.2.1 * (64 : Int32) = nI (A.2.2.1 * 64) from pk_mul _ 64, nI_add]
    unfold pu_pb
    rw [Nat.mul_comm]
  rw [e0]
  have x0 : pu_xb S1 A B 0 (fun _ => 0) (fun _ => 0) := ⟨Nat.zero_le _, f1, fun k hk => absurd hk (Nat.not_lt_zero k), fun y hy _ => (f2 y hy).1, fun i j hi => absurd hi (Nat.not_lt_zero i), fun i j _ hj => absurd hj (Nat.not_lt_zero j)⟩
  refine pw_bd (X_rea (e := 0) hA x0 (pu_pv_0 hA hB) (fun k hk => absurd hk (Nat.not_lt_zero k)) (Nat.le_refl _) ⟨[], fun y hy => (by cases hy), rfl, rfl⟩) (fun S2 s2 => ?_)
  obtain ⟨c', O', d', hx', hcc, hsame, ⟨k, hk, ek, ed⟩, hnew, hfr⟩ := s2
  have hd0 : ∀ k, k < c' → d' k = 0 := fun k hk => hnew k (Nat.zero_le _) hk
  have hk0 : k = 0 := by have := (hx'.2.2.1 k hk).2.2.2.1; have := hd0 k hk; exact Classical.byContradiction (fun hne => by
    -- two pairs at the beginning would be one
    have h0 : 0 < c' := by omega
    obtain ⟨w, _, hw2, hw3⟩ := (hx'.2.2.1 0 h0).2.2.2.2
    rw [hd0 0 h0] at hw2
    have : w = [] := List.length_eq_zero_iff.mp hw2
    rw [this] at hw3
    have hw3 : pu_pb A B = O' 0 := hw3
    have := hx'.2.2.2.2.1 k 0 hk h0 (by rw [ek, hw3])
    exact hne this)
  subst hk0
  refine L 4097 0 fy_fu S2 c' O' d' (by omega) (fz_fu (by omega)) (fr_t hf1 (fr_m hfr (fun i k h => by unfold pu_x4 at h; unfold pu_x6; omega))) hx' (fun y hy => by rw [(hfr _ _ (by unfold pu_x4; omega)).1]; exact (f2 y hy).2) ⟨ek, hd0 0 hk, fun k hk => absurd hk (Nat.not_lt_zero k), fun k x hk => absurd hk (Nat.not_lt_zero k)⟩ hk (Nat.zero_le _) (fun _ k hk' => by rw [hd0 k hk']; exact Nat.zero_le _)
