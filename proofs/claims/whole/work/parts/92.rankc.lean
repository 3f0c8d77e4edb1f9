/-! rank: the reference, the call -/
theorem M_won {S : fy_S} {v : Nat} (hv : v < 2 ^ 31) : M_isWon S (nI v) = some (if 10000 ≤ v then 0 else 1) := by
  rw [M_isWon]
  by_cases h : 10000 ≤ v
  · rw [if_pos (show (10000 : Int32) ≤ nI v from nI_le (a := 10000) h hv), if_pos h]
  · rw [if_neg (show ¬ (10000 : Int32) ≤ nI v from nI_ge (b := 10000) (by omega) (by decide)), if_neg h]
theorem M_j39 {S : fy_S} {o l a c : Nat} (b : Bool) (ho : o = 8 ∨ o = 9) (hl : l < 2 ^ 31) : M_joined_39 S (nI (pu_c o)) (nI l) (if b then 1 else 0) (nI a) (nI c) = some (nI (1 + if o = 9 then (if b = true ∧ 10000 ≤ l then a else c) else (if b = true ∧ 10000 ≤ l then c else a))) := by
  have e : ∀ z : Nat, (1 : Int32) + nI z = nI (1 + z) := fun z => nI_add 1 z
  rw [M_joined_39, M_joined_73, M_joined_73, M_won hl, fy_bd_s, fy_bd_s, e, e]
  cases b
  · rcases ho with rfl | rfl
    · rfl
    · rfl
  · have k1 : nI (pu_c 8) = 11 := by decide
    have k2 : ¬ nI (pu_c 9) = 11 := by decide
    by_cases h : 10000 ≤ l
    · rw [if_pos h]
      rcases ho with rfl | rfl
      · simp [h, k1]
      · simp [h, k2]
    · rw [if_neg h]
      rcases ho with rfl | rfl
      · simp [h, k1]
      · simp [h, k2]
theorem M_join {S : fy_S} {o : Nat} {l r : pu_v} (ho : o = 8 ∨ o = 9) (hl : l.1 < 2 ^ 30) (hr : r.1 < 2 ^ 30) : M_joined S (nI (pu_c o)) (nI l.1) (nI r.1) = some (nI (pu_vj o l r).1) := by
  have key : ∀ b : Bool, (b = true ↔ (10000 ≤ l.1 ↔ 10000 ≤ r.1)) → M_joined_16 S (nI (pu_c o)) (nI l.1) (nI r.1) (if b then 1 else 0) = some (nI (pu_vj o l r).1) := by
    intro b hb
    have c16 : M_joined_16 S (nI (pu_c o)) (nI l.1) (nI r.1) (if b then 1 else 0) = M_joined_39 S (nI (pu_c o)) (nI l.1) (if b then 1 else 0) (nI (pu_mn l.1 r.1)) (nI (pu_mx l.1 r.1)) := by
      rw [M_joined_16, M_joined_27, M_joined_27]
      by_cases e : r.1 ≤ l.1
      · have e1 : pu_mn l.1 r.1 = r.1 := by unfold pu_mn; split <;> omega
        have e2 : pu_mx l.1 r.1 = l.1 := by unfold pu_mx; split <;> omega
        rw [if_pos (nI_le e (by omega)), e1, e2, if_pos (nI_le e (by omega))]
      · have e1 : pu_mn l.1 r.1 = l.1 := by unfold pu_mn; split <;> omega
        have e2 : pu_mx l.1 r.1 = r.1 := by unfold pu_mx; split <;> omega
        rw [if_neg (nI_ge (by omega) (by omega)), e1, e2, if_neg (nI_ge (by omega) (by omega))]
    have hmn : (b = true ∧ 10000 ≤ l.1) ↔ 10000 ≤ pu_mn l.1 r.1 := by
      rw [hb]
      unfold pu_mn
      split <;> omega
    rw [c16, M_j39 b ho (by omega)]
    rcases ho with rfl | rfl
    · have ev : (pu_vj 8 l r).1 = (if 10000 ≤ pu_mn l.1 r.1 then pu_mx l.1 r.1 else pu_mn l.1 r.1) + 1 := by unfold pu_vj; rw [if_neg (show ¬ (8 : Nat) = 9 by decide)]
      rw [ev, if_neg (show ¬ (8 : Nat) = 9 by decide), Nat.add_comm]
      by_cases h : 10000 ≤ pu_mn l.1 r.1
      · rw [if_pos (hmn.mpr h), if_pos h]
      · rw [if_neg (fun e => h (hmn.mp e)), if_neg h]
    · have ev : (pu_vj 9 l r).1 = (if 10000 ≤ pu_mn l.1 r.1 then pu_mn l.1 r.1 else pu_mx l.1 r.1) + 1 := by unfold pu_vj; rw [if_pos rfl]
      rw [ev, if_pos rfl, Nat.add_comm]
      by_cases h : 10000 ≤ pu_mn l.1 r.1
      · rw [if_pos (hmn.mpr h), if_pos h]
      · rw [if_neg (fun e => h (hmn.mp e)), if_neg h]
  rw [M_joined, M_won (by omega), fy_bd_s, M_won (by omega), fy_bd_s]
  by_cases h1 : 10000 ≤ l.1
  · by_cases h2 : 10000 ≤ r.1
    · rw [if_pos h1, if_pos h2, if_pos rfl]; exact key true (by simp [h1, h2])
    · rw [if_pos h1, if_neg h2, if_neg (by decide)]; exact key false (by simp [h1, h2])
  · by_cases h2 : 10000 ≤ r.1
    · rw [if_neg h1, if_pos h2, if_neg (by decide)]; exact key false (by simp [h1, h2])
    · rw [if_neg h1, if_neg h2, if_pos rfl]; exact key true (by simp [h1, h2])
theorem pu_nd_le {V : Nat → Nat} {n M : Nat} {q : pu_q} (hn : n ≤ 6) (hq : pu_ok n q) (hM : 10000 ≤ M) (hV : ∀ c, c < n → V c ≤ M) : ∀ k, k < q.1 → (pu_nd V q.2 k).1 ≤ M + k := by
  intro k
  induction k using Nat.strongRecOn with
  | ind k ih =>
    intro hk
    by_cases h : q.2 k < 8
    · rw [pu_nd_l h]
      have := (hq.2.2.1 k hk).1
      unfold pu_vl
      split
      · have := hV (q.2 k) (by omega)
        show V (q.2 k) ≤ _
        omega
      · split
        · exact Nat.zero_le _
        · show 10000 ≤ _
          omega
    · obtain ⟨g1, g2, -⟩ := pu_nd_j (V := V) (pu_ok_va hq) hk h
      rw [g2]
      have i1 := ih (pu_lo q.2 k) (by omega) (by omega)
      have i2 := ih (k - 1) (by omega) (by omega)
      have := pu_vj_le (o := q.2 k) (M := M + (k - 1)) (l := pu_nd V q.2 (pu_lo q.2 k)) (r := pu_nd V q.2 (k - 1)) (by omega) (by omega)
      omega
theorem M_nr_l {a j n M : Nat} {V : Nat → Nat} {q : pu_q} (ha : a < 7) (hj : j < 19) (hn : n ≤ 6) (hq : pu_ok n q) (hM : 10000 ≤ M) (hM2 : M < 2 ^ 20) (hV : ∀ c, c < n → V c ≤ M) : ∀ d k fu S, k + d = q.1 → d < fu → pu_MF S a j q → (∀ c, c < n → S.1 15 c = nI (V c)) → (∀ i, i < q.1 → 8 ≤ q.2 i → S.1 10 i = nI (pu_lo q.2 i)) → (∀ i, i < k → S.1 17 i = nI (pu_nd V q.2 i).1) → pw (M_findNodeRanks_21 fu S (nI a) (nI j) (nI (40 * (19 * a + j))) (nI k)) (fun S' => (∀ i, i < q.1 → S'.1 17 i = nI (pu_nd V q.2 i).1) ∧ fr (fun i _ => i = 17) S S') := by
  have h40 := hq.2.1
  intro d
  induction d with
  | zero =>
    intro k fu S hk hfu hm hv hl hr
    obtain ⟨fu, rfl⟩ : ∃ z, fu = z + 1 := ⟨fu - 1, by omega⟩
    have : k = q.1 := by omega
    subst this
    rw [M_findNodeRanks_21]
    exact pw_be (M_size ha hj hm.1) (pw_t (nI_le (Nat.le_refl _) (by show q.1 < 2 ^ 31; omega)) (pw_s ⟨hr, fr_r⟩))
  | succ d ih =>
    intro k fu S hk hfu hm hv hl hr
    obtain ⟨fu, rfl⟩ : ∃ z, fu = z + 1 := ⟨fu - 1, by omega⟩
    have hkq : k < q.1 := by omega
    have hcn := (hq.2.2.1 k hkq).1
    have step : ∀ z : Int32, z = nI (pu_nd V q.2 k).1 → pw (M_findNodeRanks_116 (fun S v1 v2 v3 v4 => M_findNodeRanks_21 fu S v1 v2 v3 v4) S (nI a) (nI j) (nI (40 * (19 * a + j))) (nI k) z (nI k)) (fun S' => (∀ i, i < q.1 → S'.1 17 i = nI (pu_nd V q.2 i).1) ∧ fr (fun i _ => i = 17) S S') := by
      intro z hz
      rw [M_findNodeRanks_116, nI_clamp (by omega), hz, nI_1]
      refine pw_gd (fy_ix_nI (by omega) (by decide)) (pw_bl (pw_bl ?_))
      refine pw_m (ih (k + 1) fu _ (by omega) (by omega) (pu_l_c hm (by rw [rd_n (by omega)]) (fun t _ => rd_n (by omega))) (fun c hc => by rw [rd_n (by omega)]; exact hv c hc) (fun i hi h => by rw [rd_n (by omega)]; exact hl i hi h) (fun i hi => ?_)) (fun S' h' => ⟨h'.1, fr_t (fr_I fr_r rfl) h'.2⟩)
      by_cases e : i = k
      · rw [e, rd_y]
      · rw [rd_n (by omega)]; exact hr i (by omega)
    rw [M_findNodeRanks_21]
    refine pw_be (M_size ha hj hm.1) (pw_f (nI_ge hkq (by show q.1 < 2 ^ 31; omega)) ?_)
    rw [nI_add]
    refine pw_gd (fy_ix_nI (by omega) (by decide)) (pw_bl ?_)
    rw [nI_clamp (by omega), show S.1 6 (40 * (19 * a + j) + k) = nI (pu_c (q.2 k)) from hm.2 k hkq]
    by_cases h8 : q.2 k < 8
    · have en := pu_nd_l (V := V) (f := q.2) h8
      by_cases h6 : q.2 k < 6
      · have e1 : pu_c (q.2 k) = q.2 k := by unfold pu_c; rw [if_pos h6]
        rw [e1]
        refine pw_t (nI_lt (b := 10) (by omega) (by decide)) (pw_f (fun e => absurd ((nI_eq (b := 8) (by omega) (by decide)).mp e) (by omega)) (pw_f (fun e => absurd ((nI_eq (b := 9) (by omega) (by decide)).mp e) (by omega)) (pw_gd (fy_ix_nI (by omega) (by decide)) (step _ ?_))))
        rw [nI_clamp (by omega), hv _ (by omega), en, pu_vl, if_pos h6]
      · by_cases e6 : q.2 k = 6
        · have e2 : nI (pu_nd V q.2 k).1 = 0 := by rw [en, e6]; rfl
          rw [e6]
          exact pw_t (by decide) (pw_t (by decide) (step _ e2.symm))
        · have e7 : q.2 k = 7 := by omega
          have e2 : nI (pu_nd V q.2 k).1 = 10000 := by rw [en, e7]; rfl
          rw [e7]
          exact pw_t (by decide) (pw_f (by decide) (pw_t (by decide) (step _ e2.symm)))
    · obtain ⟨g1, g2, -⟩ := pu_nd_j (V := V) (pu_ok_va hq) hkq h8
      have o89 : q.2 k = 8 ∨ q.2 k = 9 := by omega
      have n1 := pu_nd_le hn hq hM hV (pu_lo q.2 k) (by omega)
      have n2 := pu_nd_le hn hq hM hV (k - 1) (by omega)
      have hn10 : ¬ nI (pu_c (q.2 k)) < (10 : Int32) := by rcases o89 with e | e <;> rw [e] <;> decide
      refine pw_f hn10 ?_
      rw [nI_clamp (by omega), hl k hkq (by omega), show nI k - (1 : Int32) = nI (k - 1) from pk_sub (b := 1) (by omega), nI_clamp (by omega), nI_clamp (by omega), hr _ (by omega), hr (k - 1) (by omega)]
      refine pw_gd (fy_ix_nI (by omega) (by decide)) (pw_gd (fy_ix_nI (by omega) (by decide)) (pw_gd (fy_ix_nI (by omega) (by decide)) (pw_be (M_join o89 (by omega) (by omega)) (step _ ?_))))
      rw [g2]
theorem M_nr {S : fy_S} {a j n M : Nat} {V : Nat → Nat} {q : pu_q} (ha : a < 7) (hj : j < 19) (hn : n ≤ 6) (hq : pu_ok n q) (hM : 10000 ≤ M) (hM2 : M < 2 ^ 20) (hV : ∀ c, c < n → V c ≤ M) (hm : pu_MF S a j q) (hv : ∀ c, c < n → S.1 15 c = nI (V c)) : pw (M_findNodeRanks S (nI a) (nI j)) (fun S' => (∀ i, i < q.1 → S'.1 17 i = nI (pu_nd V q.2 i).1) ∧ (∀ i, i < q.1 → 8 ≤ q.2 i → S'.1 10 i = nI (pu_lo q.2 i)) ∧ fr (fun i _ => i = 10 ∨ i = 11 ∨ i = 17) S S') := by
  have h40 := hq.2.1
  rw [M_findNodeRanks]
  refine pw_be M_at_e (pw_be (M_size ha hj hm.1) (pw_bd (M_parts ha hj hn hq q.1 0 fy_fu S (by omega) (fz_fu (by omega)) hm trivial (fun i hi => absurd hi (Nat.not_lt_zero i))) (fun S1 s1 => ?_)))
  refine pw_m (M_nr_l (V := V) (M := M) ha hj hn hq hM hM2 hV q.1 0 fy_fu S1 (by omega) (fz_fu (by omega)) (pu_l_c hm (s1.2 _ _ (by omega)).1 (fun t _ => (s1.2 _ _ (by omega)).1)) (fun c hc => by rw [(s1.2 _ _ (by omega)).1]; exact hv c hc) s1.1 (fun i hi => absurd hi (Nat.not_lt_zero i))) (fun S2 s2 => ⟨s2.1, fun i hi h => by rw [(s2.2 _ _ (by omega)).1]; exact s1.1 i hi h, fr_t (fr_m s1.2 (fun i k h => by omega)) (fr_m s2.2 (fun i k h => by omega))⟩)
