/-! countWords: the reference; the call -/
theorem M_acq {S : fy_S} {a s : Nat} {A : pu_A} (ha : a < 7) (hA : pu_wA A) (hM : pu_MA S a A) (hs : s < 64) : M_isAccepting S (nI a) (nI s) = some (if pu_ev (A.2.2.2.2 0) s then 1 else 0) := by
  have hu : pu_u A 0 := .inl rfl
  have h2 := M_sat ha (by decide) hA.2.1 (hA.2.2.2.2.2.2 0 (by decide) hu) (hM.2.2.2.2.2 0 (by decide) hu) hs
  rw [M_isAccepting]
  refine pw_eq (pw_be h2 ?_)
  cases pu_ev (A.2.2.2.2 0) s
  · exact pw_gd (by decide) (pw_s rfl)
  · exact pw_gd (by decide) (pw_s rfl)
def pu_sw3 (i k : Nat) : Prop := i = 32 ∨ i = 33
theorem M_count {S : fy_S} {a len n : Nat} {A : pu_A} {f : Nat → Nat} (ha : a < 7) (hA : pu_wA A) (hM : pu_MA S a A) (hd : pu_fd S n f) (h0 : 0 < n) (hf0 : f 0 = A.2.2.1) (hfc : pu_fc A n f) (hlen : len ≤ 20) : pw (M_countWords_28 fy_fu S (nI a) (nI len) (nI 0)) (fun R => R.2 = lN (pu_tot A len) ∧ fr pu_sw3 S R.1) := by
  have h64 := pu_2n hA.2.1
  have hm3 : A.2.1 ≤ 3 := hA.2.2.2.1
  have hn64 := hd.1
  have hinj := pu_fd_i hd
  have hflt : ∀ i, i < n → f i < 64 := fun i hi => (hd.2.2.1 i hi).1
  have mvM : ∀ S', fr pu_sw3 S S' → pu_MA S' a A := fun S' f => pu_MA_c hA hM (fun i g1 g2 => (f _ _ (by unfold pu_sw3; omega)).1) (fun k g1 g2 => (f _ _ (by unfold pu_sw3; omega)).1) (fun k g1 g2 => (f _ _ (by unfold pu_sw3; omega)).1) (fun k g1 g2 => (f _ _ (by unfold pu_sw3; omega)).1)
  have mvD : ∀ S', fr pu_sw3 S S' → pu_fd S' n f := fun S' g => pu_fd_c hd (g _ _ (by unfold pu_sw3; omega)).1 (fun i k h => (g _ _ (by unfold pu_sw3; omega)).1)
  have out : ∀ i s, s < 64 → (∀ j, j < n → f j ≠ s) → pu_cn A i s = 0 := fun i s _ hno => pu_cn_rc i s (fun hr => by
    obtain ⟨j, hj, e⟩ := (hfc s).mp hr
    exact hno j hj e)
  have inn : ∀ k x, k < n → x < A.2.1 → ∃ j, j < n ∧ f j = pu_sp1 A x (f k) := fun k x hk hx => (hfc _).mp (pu_cl_n ((hfc _).mpr ⟨k, hk, rfl⟩) ⟨x, hx, rfl⟩)
  -- the sum at the end
  have E : ∀ d k fu S', k + d = n → d < fu → fr pu_sw3 S S' → (∀ j, j < n → S'.2 32 j = lN (pu_cn A len (f j))) → pw (M_countWords_217 fu S' (nI a) (lN (fb_sm (fun j => if pu_ev (A.2.2.2.2 0) (f j) then pu_cn A len (f j) else 0) k)) (nI k)) (fun R => R.2 = lN (pu_tot A len) ∧ fr pu_sw3 S R.1) := by
    intro d
    induction d with
    | zero =>
      intro k fu S' hk hfu hf hc
      obtain ⟨fu, rfl⟩ : ∃ z, fu = z + 1 := ⟨fu - 1, by omega⟩
      have : k = n := by omega
      subst this
      rw [M_countWords_217, (mvD S' hf).2.1]
      refine pw_t (nI_le (Nat.le_refl _) (by omega)) (pw_s ⟨?_, hf⟩)
      show lN _ = lN _
      congr 1
      exact (fb_sm_im (N := 64) (f := f) k (fun s => if pu_ev (A.2.2.2.2 0) s then pu_cn A len s else 0) hflt hinj (fun s hs hno => by simp only [out len s hs hno]; split <;> rfl)).symm
    | succ d ih =>
      intro k fu S' hk hfu hf hc
      obtain ⟨fu, rfl⟩ : ∃ z, fu = z + 1 := ⟨fu - 1, by omega⟩
      have hkn : k < n := by omega
      have ih := ih (k + 1) fu S' (by omega) (by omega) hf hc
      have hdk := (mvD S' hf).2.2.1 k hkn
      rw [M_countWords_217, (mvD S' hf).2.1, nI_1, nI_clamp (by omega), hdk.2.1]
      refine pw_f (nI_ge hkn (by omega)) (pw_gd (fy_ix_nI (by omega) (by decide)) (pw_be (M_acq ha hA (mvM S' hf) hdk.1) ?_))
      rw [fb_sm_succ] at ih
      cases hb : pu_ev (A.2.2.2.2 0) (f k)
      · rw [hb] at ih
        refine pw_t rfl (pw_bl (pw_bl ?_))
        rw [show (0 : Int64) = lN 0 from rfl, lN_add]
        simpa using ih
      · rw [hb, if_pos rfl] at ih
        refine pw_f (by decide) (pw_gd (fy_ix_nI (by omega) (by decide)) (pw_bl (pw_bl ?_)))
        rw [hc k hkn, lN_add]
        exact ih
  -- one letter more
  have R : ∀ d i fu S', i + d = len → d < fu → fr pu_sw3 S S' → (∀ j, j < n → S'.2 32 j = lN (pu_cn A i (f j))) → pw (M_countWords_59 fu S' (nI a) (nI len) (nI i)) (fun R => R.2 = lN (pu_tot A len) ∧ fr pu_sw3 S R.1) := by
    intro d
    induction d with
    | zero =>
      intro i fu S' hi hfu hf hc
      obtain ⟨fu, rfl⟩ : ∃ z, fu = z + 1 := ⟨fu - 1, by omega⟩
      have : i = len := by omega
      subst this
      rw [M_countWords_59]
      exact pw_t (nI_le (Nat.le_refl _) (by omega)) (E n 0 fy_fu S' (by omega) (fz_fu (by omega)) hf hc)
    | succ d ih =>
      intro i fu S' hi hfu hf hc
      obtain ⟨fu, rfl⟩ : ∃ z, fu = z + 1 := ⟨fu - 1, by omega⟩
      rw [M_countWords_59]
      refine pw_f (nI_ge (by omega) (by omega)) ?_
      generalize hk59 : (fun S v1 v2 v3 => M_countWords_59 fu S v1 v2 v3) = k59
      have ih : ∀ S', fr pu_sw3 S S' → (∀ j, j < n → S'.2 32 j = lN (pu_cn A (i + 1) (f j))) → pw (k59 S' (nI a) (nI len) (nI (i + 1))) (fun R => R.2 = lN (pu_tot A len) ∧ fr pu_sw3 S R.1) := by
        intro S' hf hc
        rw [← hk59]
        exact ih (i + 1) fu S' (by omega) (by omega) hf hc
      -- copying
      have C : ∀ e k fu S', k + e = n → e < fu → fr pu_sw3 S S' → (∀ j, j < n → S'.2 33 j = lN (pu_cn A (i + 1) (f j))) → (∀ j, j < k → S'.2 32 j = lN (pu_cn A (i + 1) (f j))) → pw (M_countWords_177 k59 fu S' (nI a) (nI len) (nI i) (nI k)) (fun R => R.2 = lN (pu_tot A len) ∧ fr pu_sw3 S R.1) := by
        intro e
        induction e with
        | zero =>
          intro k fu S' hk hfu hf h33 h32
          obtain ⟨fu, rfl⟩ : ∃ z, fu = z + 1 := ⟨fu - 1, by omega⟩
          have : k = n := by omega
          subst this
          rw [M_countWords_177, (mvD S' hf).2.1, nI_1 i]
          exact pw_t (nI_le (Nat.le_refl _) (by omega)) (pw_bl (ih S' hf h32))
        | succ e ih2 =>
          intro k fu S' hk hfu hf h33 h32
          obtain ⟨fu, rfl⟩ : ∃ z, fu = z + 1 := ⟨fu - 1, by omega⟩
          have hkn : k < n := by omega
          rw [M_countWords_177, (mvD S' hf).2.1, nI_1 k, nI_clamp (by omega), h33 k hkn]
          refine pw_f (nI_ge hkn (by omega)) (pw_gd (fy_ix_nI (by omega) (by decide)) (pw_gd (fy_ix_nI (by omega) (by decide)) (pw_bl (pw_bl ?_))))
          refine ih2 (k + 1) fu _ (by omega) (by omega) (fr_L hf (.inl rfl)) (fun j hj => by rw [rd_Ln (by omega)]; exact h33 j hj) (fun j hj => ?_)
          by_cases ej : j = k
          · rw [ej, rd_Ly]
          · rw [rd_Ln (by omega)]; exact h32 j (by omega)
      -- adding
      have B : ∀ e k fu S', k + e = n → e < fu → fr pu_sw3 S S' → (∀ j, j < n → S'.2 32 j = lN (pu_cn A i (f j))) → (∀ j, j < n → S'.2 33 j = lN (fb_sm (fun k => pu_cy A (pu_cn A i) (f j) (f k)) k)) → pw (M_countWords_93 k59 fu S' (nI a) (nI len) (nI i) (nI k)) (fun R => R.2 = lN (pu_tot A len) ∧ fr pu_sw3 S R.1) := by
        intro e
        induction e with
        | zero =>
          intro k fu S' hk hfu hf h32 h33
          obtain ⟨fu, rfl⟩ : ∃ z, fu = z + 1 := ⟨fu - 1, by omega⟩
          have : k = n := by omega
          subst this
          rw [M_countWords_93, (mvD S' hf).2.1]
          refine pw_t (nI_le (Nat.le_refl _) (by omega)) (C k 0 fy_fu S' (by omega) (fz_fu (by omega)) hf (fun j hj => ?_) (fun j hj => absurd hj (Nat.not_lt_zero j)))
          rw [h33 j hj, pu_cn, fb_sm_im (N := 64) (f := f) k (pu_cy A (pu_cn A i) (f j)) hflt hinj (fun s hs hno => pu_cy0 (out i s hs hno))]
        | succ e ih2 =>
          intro k fu S' hk hfu hf h32 h33
          obtain ⟨fu, rfl⟩ : ∃ z, fu = z + 1 := ⟨fu - 1, by omega⟩
          have hkn : k < n := by omega
          have hcb := pu_cn_lt (i := i) hA (by omega) (hflt k hkn)
          rw [M_countWords_93, (mvD S' hf).2.1]
          refine pw_f (nI_ge hkn (by omega)) ?_
          have X : ∀ g x fu' S', x + g = A.2.1 → g < fu' → fr pu_sw3 S S' → (∀ j, j < n → S'.2 32 j = lN (pu_cn A i (f j))) → (∀ j, j < n → S'.2 33 j = lN (fb_sm (fun k => pu_cy A (pu_cn A i) (f j) (f k)) k + fb_sm (pu_cx A (pu_cn A i) (f j) (f k)) x)) → pw (M_countWords_105 k59 (fun S v1 v2 v3 v4 => M_countWords_93 k59 fu S v1 v2 v3 v4) fu' S' (nI a) (nI len) (nI i) (nI k) (nI x)) (fun R => R.2 = lN (pu_tot A len) ∧ fr pu_sw3 S R.1) := by
            intro g
            induction g with
            | zero =>
              intro x fu' S' hx hfu' hf h32 h33
              obtain ⟨fu', rfl⟩ : ∃ z, fu' = z + 1 := ⟨fu' - 1, by omega⟩
              have : x = A.2.1 := by omega
              subst this
              rw [M_countWords_105, nI_clamp (by omega), (mvM S' hf).2.1, nI_1 k]
              exact pw_gd (fy_ix_nI ha (by decide)) (pw_t (nI_le (Nat.le_refl _) (by omega)) (pw_bl (ih2 (k + 1) fu S' (by omega) (by omega) hf h32 (fun j hj => by rw [fb_sm_succ]; exact h33 j hj))))
            | succ g ih3 =>
              intro x fu' S' hx hfu' hf h32 h33
              obtain ⟨fu', rfl⟩ : ∃ z, fu' = z + 1 := ⟨fu' - 1, by omega⟩
              have hxm : x < A.2.1 := by omega
              have hdk := (mvD S' hf).2.2.1 k hkn
              rw [M_countWords_105, nI_clamp (by omega), (mvM S' hf).2.1, nI_1 k, nI_1 x, nI_clamp (by omega), h32 k hkn, hdk.2.1]
              refine pw_gd (fy_ix_nI ha (by decide)) (pw_f (nI_ge hxm (by omega)) (pw_gd (fy_ix_nI (by omega) (by decide)) (pw_if (fun hz => ?_) (fun hz => ?_))))
              · have c0 := (lN_zl (by omega)).mp hz
                refine pw_bl (ih2 (k + 1) fu S' (by omega) (by omega) hf h32 (fun j hj => ?_))
                have e0 : ∀ y, fb_sm (pu_cx A (pu_cn A i) (f j) (f k)) y = 0 := fun y => fb_sm_z (fun x _ => by unfold pu_cx; rw [c0]; split <;> rfl)
                rw [fb_sm_succ, h33 j hj, e0]
                unfold pu_cy
                rw [e0]
              · obtain ⟨j0, hj0, ej0⟩ := inn k x hkn hxm
                have hd0 := (mvD S' hf).2.2.1 j0 hj0
                rw [ej0] at hd0
                refine pw_gd (fy_ix_nI (by omega) (by decide)) (pw_be (M_step ha hA (mvM S' hf) hxm hdk.1) ?_)
                rw [nI_clamp (by omega), hd0.2.2, nI_clamp (by omega)]
                refine pw_gd (fy_ix_nI hd0.1 (by decide)) (pw_gd (fy_ix_nI (by omega) (by decide)) (pw_gd (fy_ix_nI (by omega) (by decide)) (pw_gd (fy_ix_nI (by omega) (by decide)) (pw_bl (pw_bl ?_)))))
                refine ih3 (x + 1) fu' _ (by omega) (by omega) (fr_L hf (.inr rfl)) (fun j hj => by rw [rd_Ln (by omega)]; exact h32 j hj) (fun j hj => ?_)
                rw [fb_sm_succ]
                by_cases ej : j = j0
                · subst ej
                  have : pu_cx A (pu_cn A i) (f j) (f k) x = pu_cn A i (f k) := by unfold pu_cx; rw [if_pos ej0.symm]
                  rw [this, rd_Ly, h33 j hj, lN_add, Nat.add_assoc]
                · have : pu_cx A (pu_cn A i) (f j) (f k) x = 0 := by unfold pu_cx; rw [if_neg (fun h => ej (hinj j j0 hj hj0 (h.symm.trans ej0.symm)))]
                  rw [this, Nat.add_zero, rd_Ln (by omega)]; exact h33 j hj
          exact X A.2.1 0 fy_fu S' (by omega) (fz_fu (by omega)) hf h32 (fun j hj => by rw [h33 j hj]; rfl)
      -- zeroes
      have Z : ∀ e k fu S', k + e = n → e < fu → fr pu_sw3 S S' → (∀ j, j < n → S'.2 32 j = lN (pu_cn A i (f j))) → (∀ j, j < k → S'.2 33 j = 0) → pw (M_countWords_67 k59 fu S' (nI a) (nI len) (nI i) (nI k)) (fun R => R.2 = lN (pu_tot A len) ∧ fr pu_sw3 S R.1) := by
        intro e
        induction e with
        | zero =>
          intro k fu S' hk hfu hf h32 h33
          obtain ⟨fu, rfl⟩ : ∃ z, fu = z + 1 := ⟨fu - 1, by omega⟩
          have : k = n := by omega
          subst this
          rw [M_countWords_67, (mvD S' hf).2.1]
          exact pw_t (nI_le (Nat.le_refl _) (by omega)) (B k 0 fy_fu S' (by omega) (fz_fu (by omega)) hf h32 (fun j hj => h33 j hj))
        | succ e ih2 =>
          intro k fu S' hk hfu hf h32 h33
          obtain ⟨fu, rfl⟩ : ∃ z, fu = z + 1 := ⟨fu - 1, by omega⟩
          have hkn : k < n := by omega
          rw [M_countWords_67, (mvD S' hf).2.1, nI_1 k, nI_clamp (by omega)]
          refine pw_f (nI_ge hkn (by omega)) (pw_gd (fy_ix_nI (by omega) (by decide)) (pw_bl (pw_bl ?_)))
          refine ih2 (k + 1) fu _ (by omega) (by omega) (fr_L hf (.inr rfl)) (fun j hj => by rw [rd_Ln (by omega)]; exact h32 j hj) (fun j hj => ?_)
          by_cases ej : j = k
          · rw [ej, rd_Ly]
          · rw [rd_Ln (by omega)]; exact h33 j (by omega)
      exact Z n 0 fy_fu S' (by omega) (fz_fu (by omega)) hf hc (fun j hj => absurd hj (Nat.not_lt_zero j))
  -- the beginning
  have I : ∀ d k fu S', k + d = n → d < fu → fr pu_sw3 S S' → (∀ j, j < k → S'.2 32 j = lN (pu_cn A 0 (f j))) → pw (M_countWords_28 fu S' (nI a) (nI len) (nI k)) (fun R => R.2 = lN (pu_tot A len) ∧ fr pu_sw3 S R.1) := by
    intro d
    induction d with
    | zero =>
      intro k fu S' hk hfu hf hc
      obtain ⟨fu, rfl⟩ : ∃ z, fu = z + 1 := ⟨fu - 1, by omega⟩
      have : k = n := by omega
      subst this
      rw [M_countWords_28, (mvD S' hf).2.1]
      exact pw_t (nI_le (Nat.le_refl _) (by omega)) (R len 0 fy_fu S' (by omega) (fz_fu (by omega)) hf hc)
    | succ d ih =>
      intro k fu S' hk hfu hf hc
      obtain ⟨fu, rfl⟩ : ∃ z, fu = z + 1 := ⟨fu - 1, by omega⟩
      have hkn : k < n := by omega
      rw [M_countWords_28, (mvD S' hf).2.1]
      refine pw_f (nI_ge hkn (by omega)) ?_
      have fin : ∀ v : Int64, v = lN (pu_cn A 0 (f k)) → pw (M_countWords_50 (fun S v1 v2 v3 => M_countWords_28 fu S v1 v2 v3) S' (nI a) (nI len) (nI k) v (nI k)) (fun R => R.2 = lN (pu_tot A len) ∧ fr pu_sw3 S R.1) := by
        intro v hv
        rw [M_countWords_50, nI_1, nI_clamp (by omega)]
        refine pw_gd (fy_ix_nI (by omega) (by decide)) (pw_bl (pw_bl (ih (k + 1) fu _ (by omega) (by omega) (fr_L hf (.inl rfl)) (fun j hj => ?_))))
        by_cases ej : j = k
        · rw [ej, rd_Ly, hv]
        · rw [rd_Ln (by omega)]; exact hc j (by omega)
      by_cases e0 : k = 0
      · subst e0
        exact pw_t rfl (fin 1 (by rw [pu_cn, if_pos hf0]; rfl))
      · exact pw_f (nI_ne0 (by omega) (by omega)) (fin 0 (by rw [pu_cn, if_neg (fun e => e0 (hinj k 0 hkn h0 (e.trans hf0.symm)))]; rfl))
  exact I n 0 fy_fu S (by omega) (fz_fu (by omega)) fr_r (fun j hj => absurd hj (Nat.not_lt_zero j))
theorem ez_countWords {SX SM : fy_S} (v1 v2 : Int32) (h : pu_I SX SM) : ∃ (SX' SM' : fy_S) (r : Int64), X9_countWords SX v1 v2 = some (SX', r) ∧ M_countWords SM v1 v2 = some (SM', r) ∧ pu_I SX' SM' := by
  rcases pu_slot v1 with ⟨a, ha, rfl⟩ | hb
  · rcases pu_bw (lo := 0) (hi := 20) v2 (by decide) (by decide) with ⟨len, _, hlen, rfl⟩ | hb
    · obtain ⟨G, hw, hX, hM⟩ := h
      have hwA := hw.1 a (by omega)
      have hX1 : pw (X9_countWords SX (nI a) (nI len)) (fun R => R.2 = lN (pu_tot (G.1 a) len) ∧ pu_X R.1 G) := by
        rw [X9_countWords]
        refine pw_be (X_ain_y ha) (pw_be (X_within_y (lo := 0) (hi := 20) (Nat.zero_le _) hlen (by decide)) (pw_f (by decide) (pw_bd (X_load (v0 := 20) (by omega) hwA (by decide) (hX.1 a (by omega))) (fun S1 s1 => pw_bp (X_count hwA s1.1 hlen) (fun S2 r2 h2 => pw_s ⟨h2.1, pu_X_fr hw hX (fr_t (fr_m s1.2 (fun i k h => by unfold pu_xs; omega)) (fr_m h2.2 (fun i k h => by unfold pu_xs; omega)))⟩)))))
      have hM1 : pw (M_countWords SM (nI a) (nI len)) (fun R => R.2 = lN (pu_tot (G.1 a) len) ∧ pu_M R.1 G) := by
        rw [M_countWords]
        refine pw_be (M_slot_y ha) (pw_f (by decide) (pw_be (M_between_y (lo := 0) (hi := 20) (Nat.zero_le _) hlen (by decide)) (pw_f (by decide) (pw_bd (M_rev (by omega) hwA (hM.1 a (by omega))) (fun S1 s1 => ?_)))))
        obtain ⟨n, f, hd, h0, hf0, hfc, hfr⟩ := s1
        have hMA1 : pu_MA S1 a (G.1 a) := pu_MA_c hwA (hM.1 a (by omega)) (fun i g1 g2 => (hfr _ _ (by unfold pu_sx; omega)).1) (fun k g1 g2 => (hfr _ _ (by unfold pu_sx; omega)).1) (fun k g1 g2 => (hfr _ _ (by unfold pu_sx; omega)).1) (fun k g1 g2 => (hfr _ _ (by unfold pu_sx; omega)).1)
        exact pw_m (M_count (by omega) hwA hMA1 hd h0 hf0 hfc hlen) (fun R r => ⟨r.1, pu_M_fr hw hM (fr_t (fr_m hfr (fun i k h => by unfold pu_sx at h; unfold pu_ms; omega)) (fr_m r.2 (fun i k h => by unfold pu_sw3 at h; unfold pu_ms; omega)))⟩)
      obtain ⟨⟨SX', r1⟩, e1, e2, h1⟩ := hX1
      obtain ⟨⟨SM', r2⟩, e3, e4, h2⟩ := hM1
      dsimp only at e2 e4
      subst e2; subst e4
      exact ⟨SX', SM', _, e1, e3, G, hw, h1, h2⟩
    · refine ⟨SX, SM, -1, ?_, ?_, h⟩
      · rw [X9_countWords]; exact pw_eq (pw_be (X_ain_y ha) (pw_be (X_within_n (lo := 0) (hi := 20) hb) (pw_t rfl (pw_s rfl))))
      · rw [M_countWords]; exact pw_eq (pw_be (M_slot_y ha) (pw_f (by decide) (pw_be (M_between_n (lo := 0) (hi := 20) hb) (pw_t rfl (pw_s rfl)))))
  · refine ⟨SX, SM, -1, ?_, ?_, h⟩
    · rw [X9_countWords]; exact pw_eq (pw_be (X_ain_n hb) (pw_s rfl))
    · rw [M_countWords]; exact pw_eq (pw_be (M_slot_n hb) (pw_t rfl (pw_s rfl)))
