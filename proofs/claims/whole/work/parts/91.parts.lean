/-! the reference's parts of a formula: where each begins, where the left part's top stands -/
def pu_rt (f : Nat → Nat) : Nat → List (Nat × Nat)
  | 0 => []
  | k + 1 => if f k < 8 then (k, k) :: pu_rt f k else match pu_rt f k with
    | _ :: l :: t => (k, l.2) :: t
    | s => s
theorem pu_rt_l {f : Nat → Nat} {k : Nat} (h : f k < 8) : pu_rt f (k + 1) = (k, k) :: pu_rt f k := by rw [pu_rt, if_pos h]
theorem pu_rt_j {f : Nat → Nat} {k : Nat} {r l : Nat × Nat} {t : List (Nat × Nat)} (h : ¬ f k < 8) (e : pu_rt f k = r :: l :: t) : pu_rt f (k + 1) = (k, l.2) :: t := by rw [pu_rt, if_neg h, e]
theorem pu_rt_n {f : Nat → Nat} {k : Nat} (h : ¬ f k < 8) (e : (pu_rt f k).length < 2) : pu_rt f (k + 1) = pu_rt f k := by
  rw [pu_rt, if_neg h]
  split
  · rename_i r l t e2; rw [e2] at e; simp at e; omega
  · rfl
theorem pu_rt_len {f : Nat → Nat} : ∀ k, (pu_rt f k).length = pu_dp f k := by
  intro k
  induction k with
  | zero => rfl
  | succ k ih =>
    unfold pu_dp at ih ⊢
    by_cases h : f k < 8
    · rw [pu_rt_l h, pu_st_l h, List.length_cons, List.length_cons, ih]
    · by_cases h2 : 2 ≤ (pu_rt f k).length
      · obtain ⟨r, l, t, e⟩ := pu_len2 h2
        obtain ⟨r', l', t', e'⟩ := pu_len2 (ih ▸ h2)
        rw [pu_rt_j h e, pu_st_j h e']
        rw [e, e'] at ih
        simpa using ih
      · rw [pu_rt_n h (by omega), pu_st_n h (by omega), ih]
def pu_ch : Nat → List (Nat × Nat) → Prop
  | k, [] => k = 0
  | k, x :: t => x.1 + 1 = k ∧ x.2 ≤ x.1 ∧ pu_ch x.2 t
def pu_va (f : Nat → Nat) (n : Nat) : Prop := ∀ k, k < n → 8 ≤ f k → 2 ≤ pu_dp f k
theorem pu_rt_ch {f : Nat → Nat} {n : Nat} (hv : pu_va f n) : ∀ k, k ≤ n → pu_ch k (pu_rt f k) := by
  intro k
  induction k with
  | zero => intro _; rfl
  | succ k ih =>
    intro hk
    have ih := ih (by omega)
    by_cases h : f k < 8
    · rw [pu_rt_l h]; exact ⟨rfl, Nat.le_refl _, ih⟩
    · have h2 := hv k (by omega) (by omega)
      rw [← pu_rt_len] at h2
      obtain ⟨r, l, t, e⟩ := pu_len2 h2
      rw [pu_rt_j h e]
      rw [e] at ih
      obtain ⟨c1, c2, c3, c4, c5⟩ := ih
      exact ⟨rfl, by show l.2 ≤ k; omega, c5⟩
def pu_lo (f : Nat → Nat) (k : Nat) : Nat := match pu_rt f k with
  | _ :: l :: _ => l.1
  | _ => 0
/-- the item of a node -/
def pu_nd (V : Nat → Nat) (f : Nat → Nat) (j : Nat) : pu_v := (pu_st (pu_vl V) pu_vj f (j + 1)).headD (0, 0)
def pu_zz (V : Nat → Nat) (f : Nat → Nat) : List (Nat × Nat) → List pu_v → Prop
  | [], [] => True
  | x :: t, y :: u => y = pu_nd V f x.1 ∧ pu_zz V f t u
  | _, _ => False
theorem pu_zz_k {V : Nat → Nat} {f : Nat → Nat} {n : Nat} (hv : pu_va f n) : ∀ k, k ≤ n → pu_zz V f (pu_rt f k) (pu_st (pu_vl V) pu_vj f k) := by
  intro k
  induction k with
  | zero => intro _; trivial
  | succ k ih =>
    intro hk
    have ih := ih (by omega)
    by_cases h : f k < 8
    · have e : pu_nd V f k = pu_vl V (f k) := by unfold pu_nd; rw [pu_st_l h]; rfl
      rw [pu_rt_l h, pu_st_l h]; exact ⟨e.symm, ih⟩
    · have h2 := hv k (by omega) (by omega)
      obtain ⟨r, l, t, e⟩ := pu_len2 (show 2 ≤ (pu_rt f k).length by rw [pu_rt_len]; exact h2)
      obtain ⟨r', l', t', e'⟩ := pu_len2 (show 2 ≤ (pu_st (pu_vl V) pu_vj f k).length by rw [pu_st_dp]; exact h2)
      have e2 : pu_nd V f k = pu_vj (f k) l' r' := by unfold pu_nd; rw [pu_st_j h e']; rfl
      rw [e, e'] at ih
      rw [pu_rt_j h e, pu_st_j h e']
      exact ⟨e2.symm, ih.2.2⟩
theorem pu_nd_l {V : Nat → Nat} {f : Nat → Nat} {k : Nat} (h : f k < 8) : pu_nd V f k = pu_vl V (f k) := by unfold pu_nd; rw [pu_st_l h]; rfl
theorem pu_nd_j {V : Nat → Nat} {f : Nat → Nat} {n k : Nat} (hv : pu_va f n) (hk : k < n) (h : ¬ f k < 8) : pu_lo f k + 1 < k ∧ pu_nd V f k = pu_vj (f k) (pu_nd V f (pu_lo f k)) (pu_nd V f (k - 1)) ∧ ∃ r l t, pu_rt f k = r :: l :: t ∧ r.1 = k - 1 ∧ l.1 = pu_lo f k ∧ r.2 = l.1 + 1 := by
  have h2 := hv k hk (by omega)
  obtain ⟨r, l, t, e⟩ := pu_len2 (show 2 ≤ (pu_rt f k).length by rw [pu_rt_len]; exact h2)
  obtain ⟨r', l', t', e'⟩ := pu_len2 (show 2 ≤ (pu_st (pu_vl V) pu_vj f k).length by rw [pu_st_dp]; exact h2)
  have e2 : pu_nd V f k = pu_vj (f k) l' r' := by unfold pu_nd; rw [pu_st_j h e']; rfl
  have hz := pu_zz_k (V := V) hv k (by omega)
  have hc := pu_rt_ch hv k (by omega)
  rw [e, e'] at hz
  rw [e] at hc
  have hlo : pu_lo f k = l.1 := by unfold pu_lo; rw [e]
  obtain ⟨c1, c2, c3, c4, c5⟩ := hc
  obtain ⟨z1, z2, z3⟩ := hz
  refine ⟨by omega, ?_, r, l, t, e, by omega, hlo.symm, by omega⟩
  rw [e2, z1, z2, hlo, show k - 1 = r.1 by omega]
/-- begins of the items on the pile -/
def pu_bg (S : fy_S) : List (Nat × Nat) → Prop
  | [] => True
  | x :: t => S.1 11 x.1 = nI x.2 ∧ pu_bg S t
theorem pu_bg_c {S S' : fy_S} : ∀ {l : List (Nat × Nat)} {k : Nat}, pu_ch k l → (∀ j, j < k → S'.1 11 j = S.1 11 j) → pu_bg S l → pu_bg S' l := by
  intro l
  induction l with
  | nil => intro _ _ _ _; trivial
  | cons x t ih =>
    intro k hc hs h
    obtain ⟨c1, c2, c3⟩ := hc
    exact ⟨by rw [hs _ (by omega)]; exact h.1, ih c3 (fun j hj => hs j (by omega)) h.2⟩
theorem pu_ok_va {n : Nat} {q : pu_q} (h : pu_ok n q) : pu_va q.2 q.1 := fun k hk h8 => (h.2.2.1 k hk).2 h8
theorem M_parts {a j n : Nat} {q : pu_q} (ha : a < 7) (hj : j < 19) (hn : n ≤ 6) (hq : pu_ok n q) : ∀ d k fu S, k + d = q.1 → d < fu → pu_MF S a j q → pu_bg S (pu_rt q.2 k) → (∀ i, i < k → 8 ≤ q.2 i → S.1 10 i = nI (pu_lo q.2 i)) → pw (M_findParts_2 fu S (nI (40 * (19 * a + j))) (nI q.1) (nI k)) (fun S' => (∀ i, i < q.1 → 8 ≤ q.2 i → S'.1 10 i = nI (pu_lo q.2 i)) ∧ fr (fun i _ => i = 10 ∨ i = 11) S S') := by
  have hv := pu_ok_va hq
  have h40 := hq.2.1
  intro d
  induction d with
  | zero =>
    intro k fu S hk hfu hm hb hl
    obtain ⟨fu, rfl⟩ : ∃ z, fu = z + 1 := ⟨fu - 1, by omega⟩
    have : k = q.1 := by omega
    subst this
    rw [M_findParts_2]
    exact pw_t (nI_le (Nat.le_refl _) (by omega)) (pw_s ⟨hl, fr_r⟩)
  | succ d ih =>
    intro k fu S hk hfu hm hb hl
    obtain ⟨fu, rfl⟩ : ∃ z, fu = z + 1 := ⟨fu - 1, by omega⟩
    have hkq : k < q.1 := by omega
    have hc10 := pu_ok10 hn hq hkq
    have hcn := (hq.2.2.1 k hkq).1
    have hch := pu_rt_ch hv k (by omega)
    have h6 : (fy_sI S 11 k (nI k)).1 6 (40 * (19 * a + j) + k) = nI (pu_c (q.2 k)) := by rw [rd_n (by omega)]; exact hm.2 k hkq
    rw [M_findParts_2, nI_add]
    refine pw_f (nI_ge hkq (by omega)) (pw_gd (fy_ix_nI (by omega) (by decide)) (pw_bl (pw_gd (fy_ix_nI (by omega) (by decide)) ?_)))
    rw [nI_clamp (by omega), nI_clamp (by omega), h6, nI_1]
    by_cases h8 : q.2 k < 8
    · refine pw_f ?_ (pw_bl ?_)
      · unfold pu_c
        split
        · exact nI_ge (b := 10) (by omega) (by decide)
        · split
          · decide
          · split
            · decide
            · omega
      · refine pw_m (ih (k + 1) fu _ (by omega) (by omega) (pu_l_c hm (by rw [rd_n (by omega)]) (fun t _ => rd_n (by omega))) ?_ (fun i hi h => ?_)) (fun S' h' => ⟨h'.1, fr_t (fr_I fr_r (.inr rfl)) h'.2⟩)
        · rw [pu_rt_l h8]
          exact ⟨rd_y, pu_bg_c hch (fun i hi => rd_n (by omega)) hb⟩
        · rw [rd_n (by omega)]
          by_cases e : i = k
          · subst e; omega
          · exact hl i (by omega) h
    · obtain ⟨g1, g2, r, l, t, e, e1, e2, e3⟩ := pu_nd_j (V := fun _ => 0) hv hkq h8
      rw [e] at hb hch
      obtain ⟨b1, b2, b3⟩ := hb
      obtain ⟨c1, c2, c3, c4, c5⟩ := hch
      have ek : nI k - (1 : Int32) = nI (k - 1) := pk_sub (b := 1) (by omega)
      have eb : (fy_sI S 11 k (nI k)).1 11 (k - 1) - 1 = nI l.1 := by
        rw [rd_n (by omega), ← e1, b1, e3]
        exact nI_pred _
      refine pw_t ?_ ?_
      · have : q.2 k = 8 ∨ q.2 k = 9 := by omega
        rcases this with e | e <;> rw [e] <;> decide
      rw [ek, nI_clamp (by omega), eb]
      refine pw_gd (fy_ix_nI (by omega) (by decide)) (pw_gd (fy_ix_nI (by omega) (by decide)) (pw_bl ?_))
      rw [rd_y, nI_clamp (by omega)]
      have el : (fy_sI (fy_sI S 11 k (nI k)) 10 k (nI l.1)).1 11 l.1 = nI l.2 := by rw [rd_n (by omega), rd_n (by omega)]; exact b2
      rw [el]
      refine pw_gd (fy_ix_nI (by omega) (by decide)) (pw_gd (fy_ix_nI (by omega) (by decide)) (pw_gd (fy_ix_nI (by omega) (by decide)) (pw_bl (pw_bl ?_))))
      refine pw_m (ih (k + 1) fu _ (by omega) (by omega) (pu_l_c hm (by rw [rd_n (by omega), rd_n (by omega), rd_n (by omega)]) (fun t _ => by rw [rd_n (by omega), rd_n (by omega), rd_n (by omega)])) ?_ (fun i hi h => ?_)) (fun S' h' => ⟨h'.1, fr_t (fr_I (fr_I (fr_I fr_r (.inr rfl)) (.inl rfl)) (.inr rfl)) h'.2⟩)
      · rw [pu_rt_j h8 e]
        exact ⟨rd_y, pu_bg_c c5 (fun i hi => by rw [rd_n (by omega), rd_n (by omega), rd_n (by omega)]) b3⟩
      · rw [rd_n (by omega)]
        by_cases e : i = k
        · rw [e, rd_y, e2]
        · rw [rd_n (by omega), rd_n (by omega)]; exact hl i (by omega) h
