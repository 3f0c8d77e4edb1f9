/-! model -/
def pu_mr (P : Nat → Bool) (i : Nat) : Bool := pu_mi P (i % 64) && decide (pu_pc (i % 64) = i / 64)
theorem pu_mr_at {P : Nat → Bool} {z s : Nat} (hs : s < 64) : pu_mr P (64 * z + s) = (pu_mi P s && decide (pu_pc s = z)) := by
  unfold pu_mr
  rw [show (64 * z + s) % 64 = s by omega, show (64 * z + s) / 64 = z by omega]
theorem X_pos {S : fy_S} {P : Nat → Bool} {u : Int64} {pos : Nat} {ans : Int32} (hu : ∀ s, s < 64 → lb u s = pu_mi P s) (hpos : pos < 2 ^ 31) (hA : ∀ i, i < 448 → pu_mr P i = true → fb_ct (pu_mr P) i = pos → ans = nI (i % 64)) (hB : fb_ct (pu_mr P) 448 ≤ pos → ans = -1) : ∀ d z fu, z + d = 7 → d < fu → fb_ct (pu_mr P) (64 * z) ≤ pos → pw (X9_setAtPosition_5 S fu u (nI (pos - fb_ct (pu_mr P) (64 * z))) (nI z)) (fun r => r = ans) := by
  intro d
  induction d with
  | zero =>
    intro z fu hz hfu hc
    obtain ⟨fu, rfl⟩ : ∃ z, fu = z + 1 := ⟨fu - 1, by omega⟩
    have : z = 7 := by omega
    subst this
    rw [X9_setAtPosition_5]
    exact pw_t (by decide) (pw_s (hB hc).symm)
  | succ d ih =>
    intro z fu hz hfu hc
    obtain ⟨fu, rfl⟩ : ∃ z, fu = z + 1 := ⟨fu - 1, by omega⟩
    rw [X9_setAtPosition_5]
    refine pw_f (nI_nlt (a := 6) (by omega) (by decide)) ?_
    have L : ∀ e s fu', s + e = 64 → e < fu' → fb_ct (pu_mr P) (64 * z + s) ≤ pos → pw (X9_setAtPosition_15 S (fun v0 v3 v4 => X9_setAtPosition_5 S fu v0 v3 v4) fu' u (nI (pos - fb_ct (pu_mr P) (64 * z + s))) (nI z) (nI s)) (fun r => r = ans) := by
      intro e
      induction e with
      | zero =>
        intro s fu' hs hfu' hc
        obtain ⟨fu', rfl⟩ : ∃ z, fu' = z + 1 := ⟨fu' - 1, by omega⟩
        have : s = 64 := by omega
        subst this
        rw [X9_setAtPosition_15, nI_1]
        refine pw_t (by decide) (pw_bl ?_)
        rw [show 64 * z + 64 = 64 * (z + 1) by omega] at hc ⊢
        exact ih (z + 1) fu (by omega) (by omega) hc
      | succ e ih2 =>
        intro s fu' hs hfu' hc
        obtain ⟨fu', rfl⟩ : ∃ z, fu' = z + 1 := ⟨fu' - 1, by omega⟩
        have hs64 : s < 64 := by omega
        have ih2 := ih2 (s + 1) fu' (by omega) (by omega)
        have hat := pu_mr_at (P := P) (z := z) hs64
        have hpc := pu_pc_le s hs64
        rw [X9_setAtPosition_15, nI_1 s]
        refine pw_f (nI_ge (b := 64) (by omega) (by decide)) (pw_be (X_isIn' hs64) ?_)
        rw [hu s hs64]
        have skip : pu_mr P (64 * z + s) = false → pw (X9_setAtPosition_15 S (fun v0 v3 v4 => X9_setAtPosition_5 S fu v0 v3 v4) fu' u (nI (pos - fb_ct (pu_mr P) (64 * z + s))) (nI z) (nI (s + 1))) (fun r => r = ans) := by
          intro hf
          have e : fb_ct (pu_mr P) (64 * z + (s + 1)) = fb_ct (pu_mr P) (64 * z + s) := by
            rw [← Nat.add_assoc, fb_ct_succ, hf]; rfl
          rw [e] at ih2
          exact ih2 hc
        cases hm : pu_mi P s
        · rw [hm] at hat
          exact pw_t rfl (pw_bl (skip hat))
        · rw [hm, Bool.true_and] at hat
          refine pw_f (by decide) (pw_be (X_bc32 hs64) ?_)
          by_cases hz' : pu_pc s = z
          · rw [hz', decide_eq_true rfl] at hat
            rw [hz']
            refine pw_t rfl ?_
            by_cases h0 : fb_ct (pu_mr P) (64 * z + s) = pos
            · have := hA (64 * z + s) (by omega) hat h0
              rw [show (64 * z + s) % 64 = s by omega] at this
              refine pw_t ?_ (pw_s this.symm)
              rw [h0, Nat.sub_self]; rfl
            · have e : fb_ct (pu_mr P) (64 * z + (s + 1)) = fb_ct (pu_mr P) (64 * z + s) + 1 := by
                rw [← Nat.add_assoc, fb_ct_succ, hat]; rfl
              refine pw_f (nI_ne0 (by omega) (by omega)) (pw_bl (pw_bl ?_))
              rw [e] at ih2
              rw [show pos - fb_ct (pu_mr P) (64 * z + s) = (pos - (fb_ct (pu_mr P) (64 * z + s) + 1)) + 1 by omega, pk_m1]
              exact ih2 (by omega)
          · rw [decide_eq_false hz'] at hat
            exact pw_f (fun h => hz' ((nI_eq (by omega) (by omega)).mp h)) (pw_bl (skip hat))
    have := L 64 0 fy_fu (by omega) (fz_fu (by omega)) (by rw [Nat.add_zero]; exact hc)
    rw [Nat.add_zero] at this
    exact this
theorem pu_pc_n : ∀ n, n < 7 → ∀ s, s < 2 ^ n → pu_pc s ≤ n := by decide +kernel
theorem pu_mr_no {P : Nat → Bool} {n : Nat} (hn : n ≤ 6) (hP : pu_lw n P) {z s : Nat} (hs : s < 64) (h : 2 ^ n ≤ s ∨ n < z) : pu_mr P (64 * z + s) = false := by
  rw [pu_mr_at hs]
  by_cases h1 : 2 ^ n ≤ s
  · rw [pu_mi_hi hn hP hs h1]; rfl
  · have := pu_pc_n n (by omega) s (by omega)
    rw [decide_eq_false (by omega), Bool.and_false]
theorem fb_ct_flat {p : Nat → Bool} {m : Nat} : ∀ d, (∀ i, i < d → p (m + i) = false) → fb_ct p (m + d) = fb_ct p m := by
  intro d
  induction d with
  | zero => intro _; rfl
  | succ d ih =>
    intro h
    rw [← Nat.add_assoc, fb_ct_succ, h d (by omega), ih (fun i hi => h i (by omega))]; rfl
theorem M_pos {S : fy_S} {P : Nat → Bool} {a n : Nat} {v4 ans : Int32} (ha : a < 7) (hn : n ≤ 6) (hP : pu_lw n P) (h1 : S.1 1 a = nI n) (hw : pu_wn S P) (hA : ∀ i, i < 448 → pu_mr P i = true → nI (fb_ct (pu_mr P) i) = v4 → ans = nI (i % 64)) (hB : (∀ i, i < 448 → pu_mr P i = true → nI (fb_ct (pu_mr P) i) ≠ v4) → (if v4 = -1 then nI (fb_ct (pu_mr P) 448) else -1) = ans) : ∀ d z fu, z + d = n + 1 → d < fu → (∀ i, i < 64 * z → pu_mr P i = true → nI (fb_ct (pu_mr P) i) ≠ v4) → pw (M_model_38 fu S (nI a) v4 (nI (fb_ct (pu_mr P) (64 * z))) (nI z)) (fun r => r.2 = ans ∧ r.1 = S) := by
  have h2n := pu_2n hn
  have hpos := Nat.two_pow_pos n
  intro d
  induction d with
  | zero =>
    intro z fu hz hfu hc
    obtain ⟨fu, rfl⟩ : ∃ z, fu = z + 1 := ⟨fu - 1, by omega⟩
    have : z = n + 1 := by omega
    subst this
    have flat : ∀ i, 64 * (n + 1) ≤ i → i < 448 → pu_mr P i = false := by
      intro i h1 h2
      have := pu_mr_no (P := P) hn hP (z := i / 64) (s := i % 64) (by omega) (.inr (by omega))
      rw [show 64 * (i / 64) + i % 64 = i by omega] at this
      exact this
    have ec : fb_ct (pu_mr P) 448 = fb_ct (pu_mr P) (64 * (n + 1)) := by
      have := fb_ct_flat (p := pu_mr P) (m := 64 * (n + 1)) (448 - 64 * (n + 1)) (fun i hi => flat _ (by omega) (by omega))
      rw [show 64 * (n + 1) + (448 - 64 * (n + 1)) = 448 by omega] at this
      exact this
    have hB := hB (fun i hi hr => by
      by_cases h : i < 64 * (n + 1)
      · exact hc i h hr
      · rw [flat i (by omega) hi] at hr; cases hr)
    rw [ec] at hB
    rw [M_model_38, nI_clamp (by omega), h1]
    refine pw_gd (fy_ix_nI ha (by decide)) (pw_t (nI_lt (by omega) (by omega)) ?_)
    by_cases hv : v4 = -1
    · rw [if_pos hv] at hB
      exact pw_t hv (pw_s ⟨hB, rfl⟩)
    · rw [if_neg hv] at hB
      exact pw_f hv (pw_s ⟨hB, rfl⟩)
  | succ d ih =>
    intro z fu hz hfu hc
    obtain ⟨fu, rfl⟩ : ∃ z, fu = z + 1 := ⟨fu - 1, by omega⟩
    rw [M_model_38, nI_clamp (by omega), h1]
    refine pw_gd (fy_ix_nI ha (by decide)) (pw_f (nI_nlt (by omega) (by omega)) ?_)
    have L : ∀ e s fu', s + e = 2 ^ n → e < fu' → (∀ i, i < 64 * z + s → pu_mr P i = true → nI (fb_ct (pu_mr P) i) ≠ v4) → pw (M_model_52 (fun S v1 v4 v6 v7 => M_model_38 fu S v1 v4 v6 v7) fu' S (nI a) v4 (nI (fb_ct (pu_mr P) (64 * z + s))) (nI z) (nI s)) (fun r => r.2 = ans ∧ r.1 = S) := by
      intro e
      induction e with
      | zero =>
        intro s fu' hs hfu' hc
        obtain ⟨fu', rfl⟩ : ∃ z, fu' = z + 1 := ⟨fu' - 1, by omega⟩
        have : s = 2 ^ n := by omega
        subst this
        have ec : fb_ct (pu_mr P) (64 * (z + 1)) = fb_ct (pu_mr P) (64 * z + 2 ^ n) := by
          have := fb_ct_flat (p := pu_mr P) (m := 64 * z + 2 ^ n) (64 - 2 ^ n) (fun i hi => by
            rw [Nat.add_assoc]
            exact pu_mr_no hn hP (by omega) (.inl (by omega)))
          rw [show 64 * z + 2 ^ n + (64 - 2 ^ n) = 64 * (z + 1) by omega] at this
          exact this
        rw [M_model_52, nI_1]
        refine pw_be (M_all ha h1 hn) (pw_t (nI_lt (by omega) (by omega)) (pw_bl ?_))
        rw [← ec]
        refine ih (z + 1) fu (by omega) (by omega) (fun i hi hr => ?_)
        by_cases h : i < 64 * z + 2 ^ n
        · exact hc i h hr
        · have := pu_mr_no (P := P) hn hP (z := z) (s := i - 64 * z) (by omega) (.inl (by omega))
          rw [show 64 * z + (i - 64 * z) = i by omega] at this
          rw [this] at hr; cases hr
      | succ e ih2 =>
        intro s fu' hs hfu' hc
        obtain ⟨fu', rfl⟩ : ∃ z, fu' = z + 1 := ⟨fu' - 1, by omega⟩
        have hs64 : s < 64 := by omega
        have ih2 := ih2 (s + 1) fu' (by omega) (by omega)
        have hat := pu_mr_at (P := P) (z := z) hs64
        have hpc := pu_pc_le s hs64
        rw [M_model_52, nI_1 s]
        refine pw_be (M_all ha h1 hn) (pw_f (nI_nlt (by omega) (by omega)) (pw_be (M_bits_e hs64) ?_))
        have skip : pu_mr P (64 * z + s) = false → pw (M_model_52 (fun S v1 v4 v6 v7 => M_model_38 fu S v1 v4 v6 v7) fu' S (nI a) v4 (nI (fb_ct (pu_mr P) (64 * z + s))) (nI z) (nI (s + 1))) (fun r => r.2 = ans ∧ r.1 = S) := by
          intro hf
          have e : fb_ct (pu_mr P) (64 * z + (s + 1)) = fb_ct (pu_mr P) (64 * z + s) := by
            rw [← Nat.add_assoc, fb_ct_succ, hf]; rfl
          rw [e] at ih2
          refine ih2 (fun i hi hr => ?_)
          by_cases h : i < 64 * z + s
          · exact hc i h hr
          · rw [show i = 64 * z + s by omega, hf] at hr; cases hr
        by_cases hz' : pu_pc s = z
        · rw [hz']
          refine pw_t rfl (pw_be (M_min hw hs64) ?_)
          cases hm : pu_mi P s
          · rw [hm] at hat
            exact pw_t rfl (pw_bl (skip hat))
          · rw [hm, Bool.true_and, hz', decide_eq_true rfl] at hat
            refine pw_f (by decide) ?_
            by_cases h0 : nI (fb_ct (pu_mr P) (64 * z + s)) = v4
            · have := hA (64 * z + s) (by omega) hat h0
              rw [show (64 * z + s) % 64 = s by omega] at this
              exact pw_t h0 (pw_s ⟨this.symm, rfl⟩)
            · have e : fb_ct (pu_mr P) (64 * z + (s + 1)) = fb_ct (pu_mr P) (64 * z + s) + 1 := by
                rw [← Nat.add_assoc, fb_ct_succ, hat]; rfl
              refine pw_f h0 (pw_bl (pw_bl ?_))
              rw [nI_1, ← e]
              refine ih2 (fun i hi hr => ?_)
              by_cases h : i < 64 * z + s
              · exact hc i h hr
              · rw [show i = 64 * z + s by omega]; exact h0
        · rw [decide_eq_false hz', Bool.and_false] at hat
          exact pw_f (fun h => hz' ((nI_eq (by omega) (by omega)).mp h)) (pw_bl (skip hat))
    have := L (2 ^ n) 0 fy_fu (by omega) (fz_fu (by omega)) (by rw [Nat.add_zero]; exact hc)
    rw [Nat.add_zero] at this
    exact this
theorem pu_mr_tot (P : Nat → Bool) : fb_ct (pu_mr P) 448 = fb_ct (pu_mi P) 64 := by
  have sp : ∀ z, fb_ct (pu_mr P) (64 * (z + 1)) = fb_ct (pu_mr P) (64 * z) + fb_ct (fun s => pu_mi P s && decide (pu_pc s = z)) 64 := by
    intro z
    rw [show 64 * (z + 1) = 64 * z + 64 by omega, fb_ct_split]
    congr 1
    exact fb_ct_cong (fun s hs => pu_mr_at hs)
  have one : ∀ m, m ≤ 64 → fb_ct (fun s => pu_mi P s && decide (pu_pc s = 0)) m + fb_ct (fun s => pu_mi P s && decide (pu_pc s = 1)) m + fb_ct (fun s => pu_mi P s && decide (pu_pc s = 2)) m + fb_ct (fun s => pu_mi P s && decide (pu_pc s = 3)) m + fb_ct (fun s => pu_mi P s && decide (pu_pc s = 4)) m + fb_ct (fun s => pu_mi P s && decide (pu_pc s = 5)) m + fb_ct (fun s => pu_mi P s && decide (pu_pc s = 6)) m = fb_ct (pu_mi P) m := by
    intro m
    induction m with
    | zero => intro _; rfl
    | succ m ih =>
      intro hm
      have ih := ih (by omega)
      have hp := pu_pc_le m (by omega)
      rw [fb_ct_succ, fb_ct_succ, fb_ct_succ, fb_ct_succ, fb_ct_succ, fb_ct_succ, fb_ct_succ, fb_ct_succ]
      cases hmi : pu_mi P m
      · simp only [Bool.false_and, Bool.false_eq_true, if_false]
        omega
      · simp only [Bool.true_and, decide_eq_true_eq, if_true]
        have : pu_pc m = 0 ∨ pu_pc m = 1 ∨ pu_pc m = 2 ∨ pu_pc m = 3 ∨ pu_pc m = 4 ∨ pu_pc m = 5 ∨ pu_pc m = 6 := by omega
        rcases this with e | e | e | e | e | e | e <;> rw [e] <;> simp <;> omega
  have h := one 64 (Nat.le_refl _)
  have s0 := sp 0
  have s1 := sp 1
  have s2 := sp 2
  have s3 := sp 3
  have s4 := sp 4
  have s5 := sp 5
  have s6 := sp 6
  have z0 : fb_ct (pu_mr P) (64 * 0) = 0 := rfl
  simp only [Nat.reduceMul, Nat.reduceAdd, Nat.mul_zero] at s0 s1 s2 s3 s4 s5 s6 z0
  omega
theorem ez_model {SX SM : fy_S} (v1 v2 v3 v4 : Int32) (h : pu_I SX SM) : ∃ SM' r, X9_model SX v1 v2 v3 v4 = some r ∧ M_model SM v1 v2 v3 v4 = some (SM', r) ∧ pu_I SX SM' := by
  have hI := h
  rcases pu_slot v1 with ⟨a, ha, rfl⟩ | hb
  · obtain ⟨G, hw, hX, hM⟩ := h
    have hwA := hw.1 a (by omega)
    have hXA := hX.1 a (by omega)
    have hMA := hM.1 a (by omega)
    have hn6 : (G.1 a).1 ≤ 6 := hwA.2.1
    rcases pu_asked ha hwA hXA hMA v2 v3 with ⟨j, hj, hu, e1, e2⟩ | ⟨e1, e2⟩
    · by_cases h4 : (-1 : Int32) ≤ v4
      · have hq := hwA.2.2.2.2.2.2 j hj hu
        generalize hqd : (G.1 a).2.2.2.2 j = q at hq
        have hXF := hXA.2.2.2.2 j hj hu
        have hMF := hMA.2.2.2.2.2 j hj hu
        rw [hqd] at hXF hMF
        generalize hP : pu_ev q = P
        have hlt : ∀ s, s < 64 → lb (pu_T q) s = P s := fun s hs => by rw [lb_T q hs, hP]
        have hla : ∀ s, s < 64 → ∀ c, c ≤ 6 → pu_la (lb (pu_T q)) s c = pu_la P s c := by
          intro s hs c
          induction c with
          | zero => intro _; rfl
          | succ c ih => intro hc; rw [pu_la, pu_la, ih (by omega), hlt _ (Nat.lt_of_le_of_lt (Nat.sub_le _ _) hs)]
        have hmi : ∀ s, s < 64 → lb (pu_mt (lb (pu_T q))) s = pu_mi P s := fun s hs => by
          rw [lb_mt _ hs, pu_mi, pu_mi, hlt s hs, hla s hs 6 (Nat.le_refl _)]
        have hlw : pu_lw (G.1 a).1 P := by rw [← hP]; exact pu_ev_lw hq
        have hcle : ∀ i, fb_ct (pu_mr P) i ≤ i := fb_ct_le _
        -- the answer
        have hans : ∃ ans : Int32, X9_model SX (nI a) v2 v3 v4 = some ans ∧ (∀ i, i < 448 → pu_mr P i = true → nI (fb_ct (pu_mr P) i) = v4 → ans = nI (i % 64)) ∧ ((∀ i, i < 448 → pu_mr P i = true → nI (fb_ct (pu_mr P) i) ≠ v4) → (if v4 = -1 then nI (fb_ct (pu_mr P) 448) else -1) = ans) := by
          by_cases hm1 : v4 = -1
          · subst hm1
            refine ⟨nI (fb_ct (pu_mi P) 64), ?_, fun i hi _ he => ?_, fun _ => ?_⟩
            · rw [X9_model]
              refine pw_eq (pw_be e1 (pw_t (by decide) ?_))
              rw [hXF.2]
              refine pw_be (X_min _) (pw_t rfl (pw_be (X_bc _) (pw_s ?_)))
              rw [fb_ct_cong (fun s hs => hmi s hs)]
            · exfalso
              have h1 := nI_toInt (n := fb_ct (pu_mr P) i) (by have := hcle i; omega)
              rw [he] at h1
              have h2 : (-1 : Int32).toInt = -1 := by decide
              omega
            · rw [if_pos rfl, pu_mr_tot]
          · obtain ⟨pos, hpos, rfl⟩ : ∃ pos : Nat, pos < 2 ^ 31 ∧ v4 = nI pos := nI_of (fun hlt => hm1 (by
              rw [fa_le] at h4
              rw [fa_lt] at hlt
              rw [fa_eq]
              have h2 : (-1 : Int32).toInt = -1 := by decide
              have h3 : (0 : Int32).toInt = 0 := by decide
              omega))
            have hinj : ∀ i, i < 448 → (nI (fb_ct (pu_mr P) i) = nI pos ↔ fb_ct (pu_mr P) i = pos) := fun i hi => nI_eq (by have := hcle i; omega) hpos
            have run : ∀ ans : Int32, (∀ i, i < 448 → pu_mr P i = true → fb_ct (pu_mr P) i = pos → ans = nI (i % 64)) → (fb_ct (pu_mr P) 448 ≤ pos → ans = -1) → X9_model SX (nI a) v2 v3 (nI pos) = some ans := by
              intro ans hA hB
              rw [X9_model]
              refine pw_eq (pw_be e1 (pw_t h4 ?_))
              rw [hXF.2]
              refine pw_be (X_min _) (pw_f hm1 ?_)
              rw [X9_setAtPosition]
              have := X_pos (S := SX) hmi hpos hA hB 7 0 fy_fu (by omega) (fz_fu (by omega)) (Nat.zero_le _)
              exact pw_bd this (fun r hr => pw_s hr)
            by_cases hex : ∃ i, i < 448 ∧ pu_mr P i = true ∧ fb_ct (pu_mr P) i = pos
            · obtain ⟨i, hi, hr, hc⟩ := hex
              have uniq : ∀ i', i' < 448 → pu_mr P i' = true → fb_ct (pu_mr P) i' = pos → nI (i % 64) = nI (i' % 64) := fun i' _ hr' hc' => by rw [fb_ct_kth_one hr hr' (hc.trans hc'.symm)]
              refine ⟨nI (i % 64), run _ uniq (fun hle => ?_), fun i' hi' hr' he => uniq i' hi' hr' ((hinj i' hi').mp he), fun hno => ?_⟩
              · exfalso
                have h1 : fb_ct (pu_mr P) (i + 1) = pos + 1 := by rw [fb_ct_succ, hr, hc]; rfl
                have h2 := fb_ct_mono (pu_mr P) (show i + 1 ≤ 448 by omega)
                omega
              · exact absurd ((hinj i hi).mpr hc) (hno i hi hr)
            · refine ⟨-1, run _ (fun i hi hr hc => absurd ⟨i, hi, hr, hc⟩ hex) (fun _ => rfl), fun i hi hr he => absurd ⟨i, hi, hr, (hinj i hi).mp he⟩ hex, fun _ => if_neg hm1⟩
        obtain ⟨ans, hXe, hA, hB⟩ := hans
        have hMe : pw (M_model SM (nI a) v2 v3 v4) (fun R => R.2 = ans ∧ fr pu_ms SM R.1) := by
          rw [M_model]
          refine pw_be e2 (pw_f (nI_pos (by omega)) (pw_t h4 (pw_bd M_wants_e (fun S1 s1 => ?_))))
          obtain ⟨w20, w21, -, -, f1⟩ := s1
          have hMF1 : pu_MF S1 a j q := pu_l_c hMF (f1 _ _ (by omega)).1 (fun k _ => (f1 _ _ (by omega)).1)
          have hwn : pu_wn S1 P := by rw [← hP]; exact M_wn1 (by omega) hj hn6 hq hMF1 w20 w21
          have := M_pos (S := S1) (a := a) (ans := ans) (v4 := v4) (by omega) hn6 hlw (by rw [(f1 _ _ (by omega)).1]; exact hMA.1) hwn hA hB ((G.1 a).1 + 1) 0 fy_fu (by omega) (fz_fu (by omega)) (fun i hi => absurd hi (by omega))
          exact pw_m this (fun R r => ⟨r.1, by rw [r.2]; exact fr_m f1 (fun i k h => by unfold pu_ms; omega)⟩)
        obtain ⟨⟨SM', r⟩, e3, e4, f⟩ := hMe
        dsimp only at e4 f
        subst e4
        exact ⟨SM', _, hXe, e3, G, hw, hX, pu_M_fr hw hM f⟩
      · refine ⟨SM, -2, ?_, ?_, hI⟩
        · rw [X9_model]; exact pw_eq (pw_be e1 (pw_f h4 (pw_s rfl)))
        · rw [M_model]; exact pw_eq (pw_be e2 (pw_f (nI_pos (by omega)) (pw_f h4 (pw_s rfl))))
    · refine ⟨SM, -2, ?_, ?_, hI⟩
      · rw [X9_model]; exact pw_eq (pw_be e1 (pw_s rfl))
      · rw [M_model]; exact pw_eq (pw_be e2 (pw_t (by decide) (pw_s rfl)))
  · obtain ⟨e1, e2⟩ := pu_asked_n (SX := SX) (SM := SM) (v2 := v2) (v3 := v3) hb
    refine ⟨SM, -2, ?_, ?_, hI⟩
    · rw [X9_model]; exact pw_eq (pw_be e1 (pw_s rfl))
    · rw [M_model]; exact pw_eq (pw_be e2 (pw_t (by decide) (pw_s rfl)))
