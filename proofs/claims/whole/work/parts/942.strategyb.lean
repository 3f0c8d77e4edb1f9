/-! strategy: going down from the top -/
def pu_wo (W : Nat → Bool) (g : Nat → Nat) : Nat → Nat
  | 0 => 0
  | k + 1 => pu_wo W g k ||| (if W k then g k else 0)
theorem pu_wo_c {W W' : Nat → Bool} {g : Nat → Nat} : ∀ k, (∀ i, i < k → W' i = W i) → pu_wo W' g k = pu_wo W g k := by
  intro k
  induction k with
  | zero => intro _; rfl
  | succ k ih => intro h; rw [pu_wo, pu_wo, ih (fun i hi => h i (by omega)), h k (by omega)]
def pu_wt (W : Nat → Bool) (j : Nat) : Nat → Bool := fun i => if i = j then true else W i
theorem pu_wo_u {W : Nat → Bool} {g : Nat → Nat} {j : Nat} : ∀ k, j < k → pu_wo (pu_wt W j) g k = pu_wo W g k ||| g j := by
  intro k
  induction k with
  | zero => intro h; omega
  | succ k ih =>
    intro h
    rw [pu_wo, pu_wo]
    by_cases e : j = k
    · subst e
      rw [pu_wo_c (W := W) j (fun i hi => by unfold pu_wt; rw [if_neg (by omega)])]
      have : pu_wt W j j = true := by unfold pu_wt; rw [if_pos rfl]
      rw [this, if_pos rfl]
      cases W j
      · simp
      · simp [Nat.or_assoc]
    · have : pu_wt W j k = W k := by unfold pu_wt; rw [if_neg (by omega)]
      rw [ih (by omega), this, Nat.or_assoc, Nat.or_assoc, Nat.or_comm (g j)]
theorem pu_wo_w {W : Nat → Bool} {g : Nat → Nat} {last : Nat} (h : ∀ i, i ≤ last → W i = decide (i = last)) : pu_wo W g (last + 1) = g last := by
  have : ∀ k, k ≤ last → pu_wo W g k = 0 := by
    intro k
    induction k with
    | zero => intro _; rfl
    | succ k ih => intro hk; rw [pu_wo, ih (by omega), h k (by omega), decide_eq_false (by omega)]; simp
  rw [pu_wo, this last (Nat.le_refl _), h last (Nat.le_refl _)]
  simp
theorem M_st_l {a j n : Nat} {V : Nat → Nat} {q : pu_q} (ha : a < 7) (hj : j < 19) (hn : n ≤ 6) (hq : pu_ok n q) (hB : ∀ i, i < q.1 → (pu_nd V q.2 i).1 < 2 ^ 30) (T : Nat) : ∀ k fu S W set, k ≤ q.1 → k < fu → pu_MF S a j q → (∀ i, i < q.1 → S.1 17 i = nI (pu_nd V q.2 i).1) → (∀ i, i < q.1 → 8 ≤ q.2 i → S.1 10 i = nI (pu_lo q.2 i)) → (∀ i, i < k → S.1 18 i = if W i then 1 else 0) → set ||| pu_wo W (fun i => (pu_nd V q.2 i).2) k = T → pw (M_strategy_148 fu S (nI (40 * (19 * a + j))) (nI set) (nI k - 1)) (fun R => R.2 = nI T ∧ fr (fun i _ => i = 18) S R.1) := by
  have hv := pu_ok_va hq
  have h40 := hq.2.1
  intro k
  induction k with
  | zero =>
    intro fu S W set hk hfu hm h17 h10 h18 hT
    obtain ⟨fu, rfl⟩ : ∃ z, fu = z + 1 := ⟨fu - 1, by omega⟩
    rw [M_strategy_148]
    refine pw_t (by decide) (pw_s ⟨?_, fr_r⟩)
    rw [← hT, pu_wo, Nat.or_zero]
  | succ k ih =>
    intro fu S W set hk hfu hm h17 h10 h18 hT
    obtain ⟨fu, rfl⟩ : ∃ z, fu = z + 1 := ⟨fu - 1, by omega⟩
    have hkq : k < q.1 := by omega
    have hc10 := pu_ok10 hn hq hkq
    have hcn := (hq.2.2.1 k hkq).1
    have h6 : S.1 6 (40 * (19 * a + j) + k) = nI (pu_c (q.2 k)) := hm.2 k hkq
    rw [M_strategy_148, nI_pred, nI_add, nI_clamp (by omega), nI_clamp (by omega), h6, h18 k (by omega)]
    refine pw_f (nI_pos (by omega)) (pw_gd (fy_ix_nI (by omega) (by decide)) (pw_bl (pw_gd (fy_ix_nI (by omega) (by decide)) ?_)))
    rw [pu_wo] at hT
    have go : ∀ set', set' ||| pu_wo W (fun i => (pu_nd V q.2 i).2) k = T → pw (M_strategy_148 fu S (nI (40 * (19 * a + j))) (nI set') (nI k - 1)) (fun R => R.2 = nI T ∧ fr (fun i _ => i = 18) S R.1) := fun set' h' => ih fu S W set' (by omega) (by omega) hm h17 h10 (fun i hi => h18 i (by omega)) h'
    by_cases hW : W k = true
    · rw [hW, if_pos rfl] at hT
      rw [if_pos hW]
      refine pw_f (by decide) ?_
      by_cases h8 : q.2 k < 8
      · rw [pu_nd_l h8] at hT
        by_cases c6 : q.2 k < 6
        · have e1 : pu_c (q.2 k) = q.2 k := by unfold pu_c; rw [if_pos c6]
          rw [pu_vl, if_pos c6] at hT
          rw [e1]
          refine pw_f (nI_ge (b := 8) (by omega) (by decide)) (pw_bl ?_)
          rw [pu_sh1 _ (by omega), fa_or, M_strategy_194]
          refine pw_f (nI_ge (b := 10) (by omega) (by decide)) (pw_bl ?_)
          rw [pu_m1]
          exact go _ (by rw [← hT, Nat.or_assoc, Nat.or_comm (2 ^ q.2 k)])
        · have e0 : (pu_vl V (q.2 k)).2 = 0 := by unfold pu_vl; rw [if_neg c6]; split <;> rfl
          rw [e0, Nat.or_zero] at hT
          have : q.2 k = 6 ∨ q.2 k = 7 := by omega
          rcases this with e | e
          · rw [e]
            refine pw_t (by decide) ?_
            rw [M_strategy_194]
            refine pw_f (by decide) (pw_bl ?_)
            rw [pu_m1]
            exact go _ hT
          · rw [e]
            refine pw_t (by decide) ?_
            rw [M_strategy_194]
            refine pw_f (by decide) (pw_bl ?_)
            rw [pu_m1]
            exact go _ hT
      · obtain ⟨g1, g2, -⟩ := pu_nd_j (V := V) hv hkq h8
        have o89 : q.2 k = 8 ∨ q.2 k = 9 := by omega
        have ek : nI k - (1 : Int32) = nI (k - 1) := pk_sub (b := 1) (by omega)
        have elo := h10 k hkq (by omega)
        generalize hlo : pu_lo q.2 k = lo at g1 g2 elo
        have c8 : (8 : Int32) ≤ nI (pu_c (q.2 k)) := by rcases o89 with e | e <;> rw [e] <;> decide
        have c10 : (10 : Int32) ≤ nI (pu_c (q.2 k)) := by rcases o89 with e | e <;> rw [e] <;> decide
        rw [g2] at hT
        refine pw_t c8 ?_
        rw [M_strategy_194, ek, nI_clamp (by omega), nI_clamp (by omega), elo, nI_clamp (by omega), h17 _ (by omega), h17 _ (by omega)]
        refine pw_t c10 (pw_gd (fy_ix_nI (by omega) (by decide)) (pw_gd (fy_ix_nI (by omega) (by decide)) (pw_gd (fy_ix_nI (by omega) (by decide)) ?_)))
        -- the two writes
        have wl : ∀ (S' : fy_S) (W' : Nat → Bool), fr (fun i _ => i = 18) S S' → (∀ i, i < k → S'.1 18 i = if W' i then 1 else 0) → set ||| pu_wo W' (fun i => (pu_nd V q.2 i).2) k = T → pw (M_strategy_148 fu S' (nI (40 * (19 * a + j))) (nI set) (nI k - 1)) (fun R => R.2 = nI T ∧ fr (fun i _ => i = 18) S R.1) := by
          intro S' W' f h' hT'
          exact pw_m (ih fu S' W' set (by omega) (by omega) (pu_l_c hm (f _ _ (by omega)).1 (fun t _ => (f _ _ (by omega)).1)) (fun i hi => by rw [(f _ _ (by omega)).1]; exact h17 i hi) (fun i hi h => by rw [(f _ _ (by omega)).1]; exact h10 i hi h) h' hT') (fun R r => ⟨r.1, fr_t f r.2⟩)
        have wr : ∀ (S' : fy_S) (W' : Nat → Bool), (∀ i, i < k → S'.1 18 i = if W' i then 1 else 0) → ∀ t, t < k → ∀ i, i < k → (fy_sI S' 18 t 1).1 18 i = if pu_wt W' t i then 1 else 0 := by
          intro S' W' h' t ht i hi
          unfold pu_wt
          by_cases e : i = t
          · rw [e, rd_y, if_pos rfl, if_pos rfl]
          · rw [rd_n (by omega), if_neg e, h' i hi]
        have h18k : ∀ i, i < k → S.1 18 i = if W i then 1 else 0 := fun i hi => h18 i (by omega)
        have right : ∀ (S' : fy_S) (W' : Nat → Bool), fr (fun i _ => i = 18) S S' → (∀ i, i < k → S'.1 18 i = if W' i then 1 else 0) → set ||| (pu_wo W' (fun i => (pu_nd V q.2 i).2) k ||| (pu_nd V q.2 (k - 1)).2) = T → pw (M_strategy_272 (fun S v6 v7 v8 => M_strategy_148 fu S v6 v7 v8) S' (nI (40 * (19 * a + j))) (nI set) (nI k)) (fun R => R.2 = nI T ∧ fr (fun i _ => i = 18) S R.1) := by
          intro S' W' f h' hT'
          rw [M_strategy_272, ek, nI_clamp (by omega)]
          refine pw_gd (fy_ix_nI (by omega) (by decide)) (pw_bl (pw_bl ?_))
          rw [pu_m1]
          refine wl _ (pu_wt W' (k - 1)) (fr_I f rfl) (wr S' W' h' (k - 1) (by omega)) ?_
          rw [pu_wo_u k (by omega)]; exact hT'
        rcases o89 with e | e
        · rw [e] at hT ⊢
          have evj : (pu_vj 8 (pu_nd V q.2 lo) (pu_nd V q.2 (k - 1))).2 = if (pu_nd V q.2 (k - 1)).1 < (pu_nd V q.2 lo).1 then (pu_nd V q.2 (k - 1)).2 else (pu_nd V q.2 lo).2 := by unfold pu_vj; rw [if_neg (by decide)]
          rw [evj] at hT
          by_cases hlt : (pu_nd V q.2 (k - 1)).1 < (pu_nd V q.2 lo).1
          · rw [if_pos hlt] at hT
            refine pw_t (nI_lt hlt (by have := hB lo (by omega); omega)) ?_
            rw [M_strategy_233]
            refine pw_f (by decide) (pw_t rfl ?_)
            rw [M_strategy_260]
            exact pw_f (by decide) (pw_t rfl (right S W fr_r h18k hT))
          · rw [if_neg hlt] at hT
            refine pw_f (nI_nlt (by omega) (by have := hB (k - 1) (by omega); omega)) ?_
            rw [M_strategy_233]
            refine pw_f (by decide) (pw_f (by decide) ?_)
            rw [M_strategy_247, nI_clamp (by omega), elo, nI_clamp (by omega)]
            refine pw_gd (fy_ix_nI (by omega) (by decide)) (pw_gd (fy_ix_nI (by omega) (by decide)) (pw_bl ?_))
            rw [M_strategy_260]
            refine pw_f (by decide) (pw_f (by decide) (pw_bl ?_))
            rw [pu_m1]
            refine wl _ (pu_wt W lo) (fr_I fr_r rfl) (wr S W h18k lo (by omega)) ?_
            rw [pu_wo_u k (by omega)]; exact hT
        · rw [e] at hT ⊢
          have evj : (pu_vj 9 (pu_nd V q.2 lo) (pu_nd V q.2 (k - 1))).2 = (pu_nd V q.2 lo).2 ||| (pu_nd V q.2 (k - 1)).2 := by unfold pu_vj; rw [if_pos rfl]
          rw [evj] at hT
          have both : ∀ z : Int32, pw (M_strategy_233 (fun S v6 v7 v8 => M_strategy_148 fu S v6 v7 v8) S (nI (40 * (19 * a + j))) (nI set) (nI k) (nI (pu_c 9)) z) (fun R => R.2 = nI T ∧ fr (fun i _ => i = 18) S R.1) := by
            intro z
            rw [M_strategy_233]
            refine pw_t (by decide) ?_
            rw [M_strategy_247, nI_clamp (by omega), elo, nI_clamp (by omega)]
            refine pw_gd (fy_ix_nI (by omega) (by decide)) (pw_gd (fy_ix_nI (by omega) (by decide)) (pw_bl ?_))
            rw [M_strategy_260]
            refine pw_t (by decide) (right _ (pu_wt W lo) (fr_I fr_r rfl) (wr S W h18k lo (by omega)) ?_)
            rw [pu_wo_u k (by omega), Nat.or_assoc]; exact hT
          exact pw_if (fun _ => both _) (fun _ => both _)
    · have hW : W k = false := by simpa using hW
      rw [hW] at hT ⊢
      refine pw_t (by decide) (pw_bl ?_)
      rw [pu_m1]
      exact go _ (by simpa using hT)
theorem M_st_i {a j n : Nat} {V : Nat → Nat} {q : pu_q} (ha : a < 7) (hj : j < 19) (hn : n ≤ 6) (hq : pu_ok n q) (hB : ∀ i, i < q.1 → (pu_nd V q.2 i).1 < 2 ^ 30) : ∀ d k fu S, k + d = q.1 → d < fu → pu_MF S a j q → (∀ i, i < q.1 → S.1 17 i = nI (pu_nd V q.2 i).1) → (∀ i, i < q.1 → 8 ≤ q.2 i → S.1 10 i = nI (pu_lo q.2 i)) → (∀ i, i < k → S.1 18 i = if decide (i = q.1 - 1) then 1 else 0) → pw (M_strategy_109 fu S (nI (q.1 - 1)) (nI (40 * (19 * a + j))) (nI k)) (fun R => R.2 = nI (pu_nd V q.2 (q.1 - 1)).2 ∧ fr (fun i _ => i = 18) S R.1) := by
  have h40 := hq.2.1
  have h1 := hq.1
  intro d
  induction d with
  | zero =>
    intro k fu S hk hfu hm h17 h10 h18
    obtain ⟨fu, rfl⟩ : ∃ z, fu = z + 1 := ⟨fu - 1, by omega⟩
    have : k = q.1 := by omega
    subst this
    rw [M_strategy_109]
    refine pw_t (nI_lt (by omega) (by omega)) ?_
    have := M_st_l ha hj hn hq hB (pu_nd V q.2 (q.1 - 1)).2 q.1 fy_fu S (fun i => decide (i = q.1 - 1)) 0 (Nat.le_refl _) (fz_fu (by omega)) hm h17 h10 h18 (by
      have := pu_wo_w (W := fun i => decide (i = q.1 - 1)) (g := fun i => (pu_nd V q.2 i).2) (last := q.1 - 1) (fun i _ => rfl)
      rw [show q.1 - 1 + 1 = q.1 by omega] at this
      rw [this, Nat.zero_or])
    rw [show nI q.1 - (1 : Int32) = nI (q.1 - 1) from pk_sub (b := 1) (by omega)] at this
    exact this
  | succ d ih =>
    intro k fu S hk hfu hm h17 h10 h18
    obtain ⟨fu, rfl⟩ : ∃ z, fu = z + 1 := ⟨fu - 1, by omega⟩
    have fin : ∀ v : Int32, v = (if decide (k = q.1 - 1) then 1 else 0) → pw (M_strategy_134 (fun S v5 v6 v7 => M_strategy_109 fu S v5 v6 v7) S (nI (q.1 - 1)) (nI (40 * (19 * a + j))) (nI k) v (nI k)) (fun R => R.2 = nI (pu_nd V q.2 (q.1 - 1)).2 ∧ fr (fun i _ => i = 18) S R.1) := by
      intro v hv
      rw [M_strategy_134, nI_clamp (by omega), nI_1]
      refine pw_gd (fy_ix_nI (by omega) (by decide)) (pw_bl (pw_bl ?_))
      refine pw_m (ih (k + 1) fu _ (by omega) (by omega) (pu_l_c hm (rd_n (by omega)) (fun t _ => rd_n (by omega))) (fun i hi => by rw [rd_n (by omega)]; exact h17 i hi) (fun i hi h => by rw [rd_n (by omega)]; exact h10 i hi h) (fun i hi => ?_)) (fun R r => ⟨r.1, fr_t (fr_I fr_r rfl) r.2⟩)
      by_cases e : i = k
      · rw [e, rd_y, hv]
      · rw [rd_n (by omega)]; exact h18 i (by omega)
    rw [M_strategy_109]
    refine pw_f (nI_nlt (by omega) (by omega)) ?_
    by_cases e : k = q.1 - 1
    · exact pw_t (by rw [e]) (fin 1 (by rw [decide_eq_true e]; rfl))
    · exact pw_f (fun h => e ((nI_eq (by omega) (by omega)).mp h)) (fin 0 (by rw [decide_eq_false e]; rfl))
theorem ez_strategy {SX SM : fy_S} (v1 v2 v3 : Int32) (h : pu_I SX SM) : pu_O (X9_strategy SX v1 v2 v3) (M_strategy SM v1 v2 v3) := by
  rcases pu_slot v1 with ⟨a, ha, rfl⟩ | hb
  · have hI := h
    obtain ⟨G, hw, hX, hM⟩ := h
    have hwA := hw.1 a (by omega)
    have hXA := hX.1 a (by omega)
    have hMA := hM.1 a (by omega)
    have hn6 : (G.1 a).1 ≤ 6 := hwA.2.1
    have hm3 : (G.1 a).2.1 ≤ 3 := hwA.2.2.2.1
    have hl : G.2.2.2.1.1 ≤ 12 := hw.2.2.2.1.1
    have eX := X_fits hXA.2.1 hm3 hl hw.2.2.2.1.2 hX.2.2.2.1
    have eM := M_fits (by omega) hMA.2.1 hm3 hl hw.2.2.2.1.2 hM.2.2.2.1
    rcases pu_ixx v3 (n := (G.1 a).1) (by omega) with ⟨p, hp, rfl⟩ | hb
    · by_cases hbt : ∃ st : Nat, st < G.2.2.2.1.1 ∧ v2 = nI st
      · obtain ⟨st, hst, rfl⟩ := hbt
        have e1 : nI G.2.2.2.1.1 - (1 : Int32) = nI (G.2.2.2.1.1 - 1) := pk_sub (b := 1) (by omega)
        have iX : X9_isWithin SX (nI st) 0 (SX.1 12 1 - 1) = some 1 := by rw [hX.2.2.2.1.1, e1]; exact X_within_y (lo := 0) (Nat.zero_le _) (by omega) (by omega)
        have iM : M_isBetween SM (nI st) 0 (SM.1 0 25 - 1) = some 1 := by rw [hM.2.2.2.1.1, e1]; exact M_between_y (lo := 0) (Nat.zero_le _) (by omega) (by omega)
        by_cases hf : pu_fit G.2.2.2.1 (G.1 a).2.1 G.2.2.2.1.1 = true
        · rw [hf] at eX eM
          generalize hwd : G.2.2.2.1 = w at hl eX eM hst iX iM hf e1
          generalize hAd : G.1 a = A at hwA hXA hMA hn6 hm3 eX eM hp hf
          have hlX : pu_l (SX.1 13) (SX.1 12 1) w := by rw [← hwd]; exact hX.2.2.2.1
          have hlM : pu_l (SM.1 14) (SM.1 0 25) w := by rw [← hwd]; exact hM.2.2.2.1
          obtain ⟨d, hd⟩ : ∃ d, w.1 - st = d + 1 := ⟨w.1 - st - 1, by omega⟩
          have hlt := pu_fit_t hf st hst
          have hu : pu_u A (1 + 3 * p + w.2 st) := pu_u_m hp hlt hm3
          have hj : 1 + 3 * p + w.2 st < 19 := by omega
          have hq := hwA.2.2.2.2.2.2 _ hj hu
          have hsn := pu_rk_sn hwA hl hf
          have q1 := hq.1
          have q40 := hq.2.1
          have erk : pu_rk A w (d + 1) p = (pu_vv (pu_rk A w d) (A.2.2.2.2 (1 + 3 * p + w.2 st))).1 + 1 := by
            rw [pu_rk, show w.1 - 1 - d = st by omega]
          have evn := pu_vv_nd (V := pu_rk A w d) q1
          have hs1 := pu_nd_sn hq (hsn d (by omega)) ((A.2.2.2.2 (1 + 3 * p + w.2 st)).1 - 1) (by omega)
          rw [← evn] at hs1
          unfold pu_sn at hs1
          by_cases hwon : 10000 ≤ (pu_vv (pu_rk A w d) (A.2.2.2.2 (1 + 3 * p + w.2 st))).1
          · refine pu_both G (-1) hw ?_ ?_
            · rw [X9_strategy]
              refine pw_be (X_ain_y ha) (pw_be (X_hs_y hXA.1 hp (by omega)) (pw_f (by decide) (pw_be iX (pw_f (by decide) (pw_be eX (pw_f (by decide) (pw_bd (X_sol (by omega) hwA hXA hl hf hlX (by omega)) (fun S' h' => pw_be (X_valAt (by omega) (by omega)) ?_))))))))
              have hr := h'.1 (d + 1) (by omega) p hp
              rw [show w.1 - (d + 1) = st by omega] at hr
              rw [hr.1]
              refine pw_f (nI_nlt (b := 10000) (by omega) (by omega)) (pw_s ⟨rfl, pu_X_fr hw hX (fr_m h'.2 (fun i k h => by unfold pu_xs; omega))⟩)
            · rw [M_strategy, nI_1]
              refine pw_be (M_slot_y ha) (pw_f (by decide) (pw_be (M_hs_y (by omega) hMA.1 hp (by omega)) (pw_f (by decide) (pw_be iM (pw_f (by decide) (pw_be eM (pw_f (by decide) (pw_bd (M_fr (by omega) hwA hMA hl hf hlM (by omega)) (fun S1 s1 => pw_gd (fy_ix_nI (by omega) (by decide)) ?_)))))))))
              rw [nI_clamp (by omega), (s1.2 _ _ (by omega)).1, hlM.2 st hst]
              have hMA1 : pu_MA S1 a A := pu_MA_c hwA hMA (fun i g1 g2 => (s1.2 _ _ (by omega)).1) (fun k g1 g2 => (s1.2 _ _ (by omega)).1) (fun k g1 g2 => (s1.2 _ _ (by omega)).1) (fun k g1 g2 => (s1.2 _ _ (by omega)).1)
              have hr1 : pu_sr S1 A w d := by rw [show d = w.1 - (st + 1) by omega]; exact s1.1
              refine pw_be M_fof (pw_bd (M_nr (V := pu_rk A w d) (M := 10000 + 41 * d) (by omega) hj hn6 hq (by omega) (by omega) (fun z hz => (hr1 z hz).2) (hMA1.2.2.2.2.2 _ hj hu) (fun z hz => (hr1 z hz).1)) (fun S2 s2 => ?_))
              refine pw_be (M_size (by omega) hj (by rw [(s2.2.2 _ _ (by omega)).1]; exact (hMA1.2.2.2.2.2 _ hj hu).1)) (pw_bl ?_)
              dsimp only
              rw [show nI (A.2.2.2.2 (1 + 3 * p + w.2 st)).1 - (1 : Int32) = nI ((A.2.2.2.2 (1 + 3 * p + w.2 st)).1 - 1) from pk_sub (b := 1) q1]
              refine pw_gd (fy_ix_nI (by omega) (by decide)) ?_
              have hbn := pu_nd_le (V := pu_rk A w d) (M := 10000 + 41 * d) hn6 hq (by omega) (fun z hz => (hr1 z hz).2) ((A.2.2.2.2 (1 + 3 * p + w.2 st)).1 - 1) (by omega)
              rw [nI_clamp (by omega), s2.1 _ (by omega)]
              refine pw_be (M_won (by omega)) ?_
              rw [← evn, if_pos hwon]
              exact pw_t rfl (pw_s ⟨rfl, pu_M_fr hw hM (fr_t (fr_m s1.2 (fun i k h => by unfold pu_ms; omega)) (fr_m s2.2.2 (fun i k h => by unfold pu_ms; omega)))⟩)
          · refine pu_both G (nI (pu_vv (pu_rk A w d) (A.2.2.2.2 (1 + 3 * p + w.2 st))).2) hw ?_ ?_
            · rw [X9_strategy]
              refine pw_be (X_ain_y ha) (pw_be (X_hs_y hXA.1 hp (by omega)) (pw_f (by decide) (pw_be iX (pw_f (by decide) (pw_be eX (pw_f (by decide) (pw_bd (X_sol (by omega) hwA hXA hl hf hlX (by omega)) (fun S' h' => pw_be (X_valAt (by omega) (by omega)) ?_))))))))
              have hr := h'.1 (d + 1) (by omega) p hp
              rw [show w.1 - (d + 1) = st by omega] at hr
              rw [hr.1, nI_1]
              have hlX' : pu_l (S'.1 13) (S'.1 12 1) w := pu_l_c hlX (h'.2 _ _ (by omega)).1 (fun k _ => (h'.2 _ _ (by omega)).1)
              have hXA' : pu_XA S' (38 + 41 * a) A := pu_XA_c hXA (fun i k g1 g2 => h'.2 i k (by omega))
              refine pw_t (nI_lt (b := 10000) (by omega) (by decide)) (pw_be (X_letter hlX' hst hl) (pw_be (X_move (by omega) hXA'.1 hXA'.2.1 hp hn6 hlt hm3) ?_))
              dsimp only
              rw [X5_statesLedTo]
              refine pw_bp (Q := fun R => R.2 = nI (pu_vv (pu_rk A w d) (A.2.2.2.2 (1 + 3 * p + w.2 st))).2 ∧ fr (fun i _ => i = 18 ∨ i = 19) S' R.1) (pw_bd (X_eval (V := pu_rk A w d) (M := 10000 + 41 * d) hn6 hq (by omega) (by omega) (by omega) (fun z hz => (h'.1 d (by omega) z hz).2) (by omega) (hXA'.2.2.2.2 _ hj hu).1 (fun z hz => by rw [show st + 1 = w.1 - d by omega]; exact (h'.1 d (by omega) z hz).1)) (fun S1 s1 => pw_gd (by decide) (pw_s ⟨s1.2.1, s1.2.2.2⟩))) (fun S1 r1 hr1 => pw_s ⟨hr1.1, pu_X_fr hw hX (fr_t (fr_m h'.2 (fun i k h => by unfold pu_xs; omega)) (fr_m hr1.2 (fun i k h => by unfold pu_xs; omega)))⟩)
            · rw [M_strategy, nI_1]
              refine pw_be (M_slot_y ha) (pw_f (by decide) (pw_be (M_hs_y (by omega) hMA.1 hp (by omega)) (pw_f (by decide) (pw_be iM (pw_f (by decide) (pw_be eM (pw_f (by decide) (pw_bd (M_fr (by omega) hwA hMA hl hf hlM (by omega)) (fun S1 s1 => pw_gd (fy_ix_nI (by omega) (by decide)) ?_)))))))))
              rw [nI_clamp (by omega), (s1.2 _ _ (by omega)).1, hlM.2 st hst]
              have hMA1 : pu_MA S1 a A := pu_MA_c hwA hMA (fun i g1 g2 => (s1.2 _ _ (by omega)).1) (fun k g1 g2 => (s1.2 _ _ (by omega)).1) (fun k g1 g2 => (s1.2 _ _ (by omega)).1) (fun k g1 g2 => (s1.2 _ _ (by omega)).1)
              have hr1 : pu_sr S1 A w d := by rw [show d = w.1 - (st + 1) by omega]; exact s1.1
              refine pw_be M_fof (pw_bd (M_nr (V := pu_rk A w d) (M := 10000 + 41 * d) (by omega) hj hn6 hq (by omega) (by omega) (fun z hz => (hr1 z hz).2) (hMA1.2.2.2.2.2 _ hj hu) (fun z hz => (hr1 z hz).1)) (fun S2 s2 => ?_))
              refine pw_be (M_size (by omega) hj (by rw [(s2.2.2 _ _ (by omega)).1]; exact (hMA1.2.2.2.2.2 _ hj hu).1)) (pw_bl ?_)
              dsimp only
              rw [show nI (A.2.2.2.2 (1 + 3 * p + w.2 st)).1 - (1 : Int32) = nI ((A.2.2.2.2 (1 + 3 * p + w.2 st)).1 - 1) from pk_sub (b := 1) q1]
              refine pw_gd (fy_ix_nI (by omega) (by decide)) ?_
              have hbn := pu_nd_le (V := pu_rk A w d) (M := 10000 + 41 * d) hn6 hq (by omega) (fun z hz => (hr1 z hz).2)
              have hbl := hbn ((A.2.2.2.2 (1 + 3 * p + w.2 st)).1 - 1) (by omega)
              rw [nI_clamp (by omega), s2.1 _ (by omega)]
              refine pw_be (M_won (by omega)) ?_
              rw [← evn, if_neg hwon, evn]
              refine pw_f (by decide) (pw_be M_at_e ?_)
              have hMF2 : pu_MF S2 a (1 + 3 * p + w.2 st) (A.2.2.2.2 (1 + 3 * p + w.2 st)) := pu_l_c (hMA1.2.2.2.2.2 _ hj hu) (s2.2.2 _ _ (by omega)).1 (fun k _ => (s2.2.2 _ _ (by omega)).1)
              refine pw_m (M_st_i (V := pu_rk A w d) (by omega) hj hn6 hq (fun i hi => by have := hbn i hi; omega) (A.2.2.2.2 (1 + 3 * p + w.2 st)).1 0 fy_fu S2 (by omega) (fz_fu (by omega)) hMF2 s2.1 s2.2.1 (fun i hi => absurd hi (Nat.not_lt_zero i))) (fun R r => ⟨r.1, pu_M_fr hw hM (fr_t (fr_t (fr_m s1.2 (fun i k h => by unfold pu_ms; omega)) (fr_m s2.2.2 (fun i k h => by unfold pu_ms; omega))) (fr_m r.2 (fun i k h => by unfold pu_ms; omega)))⟩)
        · have hf : pu_fit G.2.2.2.1 (G.1 a).2.1 G.2.2.2.1.1 = false := by simpa using hf
          rw [hf] at eX eM
          refine pu_same (-4) hI ?_ ?_
          · rw [X9_strategy]; exact pw_eq (pw_be (X_ain_y ha) (pw_be (X_hs_y hXA.1 hp (by omega)) (pw_f (by decide) (pw_be iX (pw_f (by decide) (pw_be eX (pw_t rfl (pw_s rfl))))))))
          · rw [M_strategy]; exact pw_eq (pw_be (M_slot_y ha) (pw_f (by decide) (pw_be (M_hs_y (by omega) hMA.1 hp (by omega)) (pw_f (by decide) (pw_be iM (pw_f (by decide) (pw_be eM (pw_t rfl (pw_s rfl)))))))))
      · have hc : v2 < 0 ∨ nI G.2.2.2.1.1 - 1 < v2 := by
          rcases pu_ixx v2 (n := G.2.2.2.1.1) (by omega) with ⟨st, hst, e⟩ | h | h
          · exact absurd ⟨st, hst, e⟩ hbt
          · exact .inl h
          · refine .inr ?_
            have := pu_pre (k := G.2.2.2.1.1) (by omega)
            exact fa_trans this h
        have iX : X9_isWithin SX v2 0 (SX.1 12 1 - 1) = some 0 := by
          rw [hX.2.2.2.1.1, X9_isWithin]
          by_cases h1 : v2 < 0
          · rw [if_pos h1]
          · rw [if_neg h1, if_pos (hc.resolve_left h1)]
        have iM : M_isBetween SM v2 0 (SM.1 0 25 - 1) = some 0 := by
          rw [hM.2.2.2.1.1, M_isBetween]
          by_cases h1 : v2 < 0
          · rw [if_pos h1]
          · rw [if_neg h1, if_pos (hc.resolve_left h1)]
        refine pu_same (-2) hI ?_ ?_
        · rw [X9_strategy]; exact pw_eq (pw_be (X_ain_y ha) (pw_be (X_hs_y hXA.1 hp (by omega)) (pw_f (by decide) (pw_be iX (pw_t rfl (pw_s rfl))))))
        · rw [M_strategy]; exact pw_eq (pw_be (M_slot_y ha) (pw_f (by decide) (pw_be (M_hs_y (by omega) hMA.1 hp (by omega)) (pw_f (by decide) (pw_be iM (pw_t rfl (pw_s rfl)))))))
    · refine pu_same (-2) hI ?_ ?_
      · rw [X9_strategy]; exact pw_eq (pw_be (X_ain_y ha) (pw_be (X_hs_n hXA.1 hb) (pw_t rfl (pw_s rfl))))
      · rw [M_strategy]; exact pw_eq (pw_be (M_slot_y ha) (pw_f (by decide) (pw_be (M_hs_n (by omega) hMA.1 hb) (pw_t rfl (pw_s rfl)))))
  · refine pu_same (-2) h ?_ ?_
    · rw [X9_strategy]; exact pw_eq (pw_be (X_ain_n hb) (pw_s rfl))
    · rw [M_strategy]; exact pw_eq (pw_be (M_slot_n hb) (pw_t rfl (pw_s rfl)))
