/-! formulas: the pile, what a set makes of a formula -/
theorem pu_st_l {α : Type} {lf : Nat → α} {jn : Nat → α → α → α} {f : Nat → Nat} {k : Nat} (h : f k < 8) : pu_st lf jn f (k + 1) = lf (f k) :: pu_st lf jn f k := by rw [pu_st, if_pos h]
theorem pu_st_j {α : Type} {lf : Nat → α} {jn : Nat → α → α → α} {f : Nat → Nat} {k : Nat} {r l : α} {t : List α} (h : ¬ f k < 8) (e : pu_st lf jn f k = r :: l :: t) : pu_st lf jn f (k + 1) = jn (f k) l r :: t := by rw [pu_st, if_neg h, e]
theorem pu_len2 {α : Type} {s : List α} (h : 2 ≤ s.length) : ∃ r l t, s = r :: l :: t := by
  match s, h with
  | r :: l :: t, _ => exact ⟨r, l, t, rfl⟩
  | [_], h => exact absurd h (by simp)
  | [], h => exact absurd h (by simp)
theorem pu_st_n {α : Type} {lf : Nat → α} {jn : Nat → α → α → α} {f : Nat → Nat} {k : Nat} (h : ¬ f k < 8) (e : (pu_st lf jn f k).length < 2) : pu_st lf jn f (k + 1) = pu_st lf jn f k := by
  rw [pu_st, if_neg h]
  split
  · rename_i r l t e2; rw [e2] at e; simp at e; omega
  · rfl
theorem pu_st_len {α β : Type} {lf : Nat → α} {jn : Nat → α → α → α} {lf' : Nat → β} {jn' : Nat → β → β → β} {f : Nat → Nat} : ∀ k, (pu_st lf jn f k).length = (pu_st lf' jn' f k).length := by
  intro k
  induction k with
  | zero => rfl
  | succ k ih =>
    by_cases h : f k < 8
    · rw [pu_st_l h, pu_st_l h, List.length_cons, List.length_cons, ih]
    · by_cases h2 : 2 ≤ (pu_st lf jn f k).length
      · obtain ⟨r, l, t, e⟩ := pu_len2 h2
        obtain ⟨r', l', t', e'⟩ := pu_len2 (ih ▸ h2)
        rw [pu_st_j h e, pu_st_j h e']
        rw [e, e'] at ih
        simpa using ih
      · rw [pu_st_n h (by omega), pu_st_n h (by omega), ih]
theorem pu_st_dp {α : Type} {lf : Nat → α} {jn : Nat → α → α → α} {f : Nat → Nat} (k : Nat) : (pu_st lf jn f k).length = pu_dp f k := pu_st_len k
theorem pu_st_hom {α β : Type} {lf : Nat → α} {jn : Nat → α → α → α} {lf' : Nat → β} {jn' : Nat → β → β → β} {f : Nat → Nat} (h : α → β) (hl : ∀ c, c < 8 → h (lf c) = lf' c) (hj : ∀ o l r, h (jn o l r) = jn' o (h l) (h r)) : ∀ k, (pu_st lf jn f k).map h = pu_st lf' jn' f k := by
  intro k
  induction k with
  | zero => rfl
  | succ k ih =>
    by_cases hk : f k < 8
    · rw [pu_st_l hk, pu_st_l hk, List.map_cons, hl _ hk, ih]
    · by_cases h2 : 2 ≤ (pu_st lf jn f k).length
      · obtain ⟨r, l, t, e⟩ := pu_len2 h2
        rw [pu_st_j hk e, pu_st_j hk (r := h r) (l := h l) (t := t.map h) (by rw [← ih, e]; rfl), List.map_cons, hj]
      · rw [pu_st_n hk (by omega), pu_st_n hk (by rw [← ih, List.length_map]; omega), ih]
def pu_e (s c : Nat) : Bool := if c < 6 then s.testBit c else c == 6
def pu_j (o : Nat) (l r : Bool) : Bool := if o = 9 then l && r else l || r
def pu_ev (q : pu_q) (s : Nat) : Bool := (pu_st (pu_e s) pu_j q.2 q.1).headD false
theorem pu_hd {α β : Type} (h : α → β) (d : α) (l : List α) : (l.map h).headD (h d) = h (l.headD d) := by cases l <;> rfl
theorem pu_ct_b : ∀ c, c < 6 → ∀ s, s < 64 → (fy_cont c).toBitVec.getLsbD s = s.testBit c := by decide +kernel
theorem pu_m1_b : ∀ s, s < 64 → (-1 : Int64).toBitVec.getLsbD s = true := by decide +kernel
theorem pu_0_b (s : Nat) : (0 : Int64).toBitVec.getLsbD s = false := by
  show (BitVec.ofNat 64 0).getLsbD s = false
  simp
theorem pu_T_b (q : pu_q) {s : Nat} (hs : s < 64) : (pu_T q).toBitVec.getLsbD s = pu_ev q s := by
  unfold pu_T pu_ev
  rw [← pu_st_hom (lf := pu_lt) (jn := pu_jt) (fun t : Int64 => t.toBitVec.getLsbD s), ← pu_hd (fun t : Int64 => t.toBitVec.getLsbD s) 0, pu_0_b]
  · intro c hc
    unfold pu_lt pu_e
    by_cases h6 : c < 6
    · rw [if_pos h6, if_pos h6]; exact pu_ct_b c h6 s hs
    · rw [if_neg h6, if_neg h6]
      by_cases e : c = 6
      · rw [if_pos e, e]; exact pu_m1_b s hs
      · rw [if_neg e, pu_0_b]; simp [e]
  · intro o l r
    unfold pu_jt pu_j
    by_cases e : o = 9
    · simp only [if_pos e, Int64.toBitVec_and, BitVec.getLsbD_and]
    · simp only [if_neg e, Int64.toBitVec_or, BitVec.getLsbD_or]
theorem X_isIn {S : fy_S} {t : Int64} {s : Nat} (hs : s < 64) : X9_isIn S t (nI s) = some (if t.toBitVec.getLsbD s then 1 else 0) := by
  rw [X9_isIn]
  have h := ts_bit (w := t) (s := ((nI s).toInt64.toUInt64 &&& Int64.toUInt64 63)) hs (by rw [wb_cu s hs]; exact u_tn (by omega))
  by_cases hb : t.toBitVec.getLsbD s = true
  · rw [if_neg (fun e => by rw [lg_cmp_eq] at e; rw [h.mp e] at hb; cases hb), if_pos hb]
  · have hb : t.toBitVec.getLsbD s = false := by simpa using hb
    rw [if_pos (show lg_cmp (fy_lus t (nI s) &&& 1) 0 = 0 from (lg_cmp_eq _ _).mpr (h.mpr hb)), hb]; rfl
theorem X_holds {S : fy_S} {id s : Nat} {q : pu_q} (h : pu_XF S id q) (hs : s < 64) : X2_holdsIn S id (nI s) = some (if pu_ev q s then 1 else 0) := by
  rw [X2_holdsIn, h.2]
  refine pw_eq (pw_be (X_isIn hs) ?_)
  rw [pu_T_b q hs]
  cases pu_ev q s
  · exact pw_gd (by decide) (pw_s rfl)
  · exact pw_gd (by decide) (pw_s rfl)
/-! the reference's pile of bits -/
def pu_en : List Bool → Nat
  | [] => 0
  | b :: t => pu_en t * 2 + b.toNat
theorem pu_en_lt : ∀ l : List Bool, pu_en l < 2 ^ l.length
  | [] => by decide
  | b :: t => by
    have := pu_en_lt t
    rw [pu_en, List.length_cons, Nat.pow_succ]
    have : b.toNat ≤ 1 := Bool.toNat_le b
    omega
theorem pu_en_1 {l : List Bool} (h : l.length = 1) : pu_en l = 1 ↔ l.headD false = true := by
  match l, h with
  | [true], _ => decide
  | [false], _ => decide
theorem pu_sb : ∀ s, s < 64 → ∀ c, c < 6 → ((nI s >>> (nI c &&& 31)) &&& 1) = if s.testBit c then (1 : Int32) else 0 := by decide +kernel
theorem pu_psh {l : List Bool} {b : Bool} (hl : l.length ≤ 40) : (lN (pu_en l) <<< ((1 : Int32).toInt64 &&& 63)) ||| (if b then (1 : Int64) else 0) = lN (pu_en (b :: l)) := by
  have h1 := pu_en_lt l
  have h2 : 2 ^ l.length ≤ 2 ^ 40 := Nat.pow_le_pow_right (by decide) hl
  have e : lN (pu_en l) <<< ((1 : Int32).toInt64 &&& 63) = lN (pu_en l * 2 ^ 1) := wb_shl (pu_en l) (k := 1) (by decide)
  rw [e, pu_en]
  cases b
  · exact g_or (k := 1) (p := 2) (a := 0) rfl (by decide) (by omega)
  · exact g_or (k := 1) (p := 2) (a := 1) rfl (by decide) (by omega)
theorem pu_opp {l : List Bool} {r x b : Bool} {o : Int64} (hl : l.length ≤ 40) (ho : o = if b then 1 else 0) : ((lN (pu_en (r :: x :: l)) >>> ((2 : Int32).toInt64 &&& 63)) <<< ((1 : Int32).toInt64 &&& 63)) ||| o = lN (pu_en (b :: l)) := by
  have h1 := pu_en_lt l
  have h2 : 2 ^ l.length ≤ 2 ^ 40 := Nat.pow_le_pow_right (by decide) hl
  have hr : r.toNat ≤ 1 := Bool.toNat_le r
  have hx : x.toNat ≤ 1 := Bool.toNat_le x
  rw [pf_shr (d := 2) (by decide) (by rw [pu_en, pu_en]; omega), ho, show pu_en (r :: x :: l) / 2 ^ 2 = pu_en l by rw [pu_en, pu_en]; omega]
  exact pu_psh hl
theorem pu_b0 {l : List Bool} {r : Bool} (hl : l.length ≤ 40) : lN (pu_en (r :: l)) &&& 1 = if r then 1 else 0 := by
  have h1 := pu_en_lt l
  have h2 : 2 ^ l.length ≤ 2 ^ 40 := Nat.pow_le_pow_right (by decide) hl
  have hr : r.toNat ≤ 1 := Bool.toNat_le r
  rw [wb_a1 (by rw [pu_en]; omega), show pu_en (r :: l) % 2 = r.toNat by rw [pu_en]; omega]
  cases r <;> rfl
theorem pu_b1 {l : List Bool} {r x : Bool} (hl : l.length ≤ 40) : (lN (pu_en (r :: x :: l)) >>> ((1 : Int32).toInt64 &&& 63)) &&& 1 = if x then 1 else 0 := by
  have h1 := pu_en_lt l
  have h2 : 2 ^ l.length ≤ 2 ^ 40 := Nat.pow_le_pow_right (by decide) hl
  have hr : r.toNat ≤ 1 := Bool.toNat_le r
  have hx : x.toNat ≤ 1 := Bool.toNat_le x
  rw [pf_shr (d := 1) (by decide) (by rw [pu_en, pu_en]; omega), show pu_en (r :: x :: l) / 2 ^ 1 = pu_en (x :: l) by rw [pu_en, pu_en]; omega]
  exact pu_b0 hl
theorem pu_dp_le (f : Nat → Nat) : ∀ k, pu_dp f k ≤ k := by
  intro k
  induction k with
  | zero => exact Nat.le_refl 0
  | succ k ih =>
    unfold pu_dp at ih ⊢
    by_cases h : f k < 8
    · rw [pu_st_l h, List.length_cons]; omega
    · by_cases h2 : 2 ≤ (pu_st (fun _ => ()) (fun _ _ _ => ()) f k).length
      · obtain ⟨r, l, t, e⟩ := pu_len2 h2
        rw [pu_st_j h e]
        rw [e] at ih
        simp at ih ⊢
        omega
      · rw [pu_st_n h (by omega)]; omega
theorem M_size {S : fy_S} {a j z : Nat} (ha : a < 7) (hj : j < 19) (h : S.1 5 (19 * a + j) = nI z) : M_sizeOf S (nI a) (nI j) = some (nI z) := by
  rw [M_sizeOf, show (19 : Int32) * nI a = nI (19 * a) from pk_mul 19 a, nI_add, fy_gd_y (by omega) (by decide), nI_clamp (by omega), h]
theorem M_sat_l {S : fy_S} {a j n s : Nat} {q : pu_q} (ha : a < 7) (hj : j < 19) (hn : n ≤ 6) (hq : pu_ok n q) (h : pu_MF S a j q) (hs : s < 64) : ∀ d k fu, k + d = q.1 → d < fu → pw (M_satisfies_14 S fu (nI a) (nI j) (nI s) (lN (pu_en (pu_st (pu_e s) pu_j q.2 k))) (nI (40 * (19 * a + j))) (nI k)) (fun r => r = if pu_ev q s then 1 else 0) := by
  obtain ⟨q1, q2, q3, q4⟩ := hq
  intro d
  induction d with
  | zero =>
    intro k fu hk hfu
    obtain ⟨fu, rfl⟩ : ∃ z, fu = z + 1 := ⟨fu - 1, by omega⟩
    have : k = q.1 := by omega
    subst this
    rw [M_satisfies_14]
    refine pw_be (M_size ha hj h.1) (pw_t (nI_le (Nat.le_refl _) (by omega)) ?_)
    have hl : (pu_st (pu_e s) pu_j q.2 q.1).length = 1 := by rw [pu_st_dp]; exact q4
    have hlt := pu_en_lt (pu_st (pu_e s) pu_j q.2 q.1)
    rw [hl] at hlt
    have e := pu_en_1 hl
    by_cases hv : pu_ev q s = true
    · rw [if_pos hv]
      refine pw_t ((lg_cmp_eq _ _).mpr ?_) (pw_s rfl)
      rw [e.mpr hv]; rfl
    · rw [if_neg hv]
      refine pw_f (fun e2 => hv (e.mp ?_)) (pw_s rfl)
      exact (lN_eq (b := 1) (by omega) (by decide)).mp ((lg_cmp_eq _ _).mp e2)
  | succ d ih =>
    intro k fu hk hfu
    obtain ⟨fu, rfl⟩ : ∃ z, fu = z + 1 := ⟨fu - 1, by omega⟩
    have hkq : k < q.1 := by omega
    have hn6 : S.1 6 (40 * (19 * a + j) + k) = nI (pu_c (q.2 k)) := h.2 k hkq
    have hdp := pu_dp_le q.2 k
    rw [M_satisfies_14]
    refine pw_be (M_size ha hj h.1) (pw_f (nI_ge hkq (by show q.1 < 2 ^ 31; omega)) ?_)
    rw [nI_add]
    refine pw_gd (fy_ix_nI (by omega) (by decide)) (pw_bl ?_)
    rw [nI_clamp (by omega), hn6, nI_1]
    have ih := ih (k + 1) fu (by omega) (by omega)
    have hlen : (pu_st (pu_e s) pu_j q.2 k).length ≤ 40 := by rw [pu_st_dp]; omega
    by_cases hc : q.2 k < 8
    · rw [pu_st_l hc] at ih
      have hp := pu_psh (l := pu_st (pu_e s) pu_j q.2 k) (b := pu_e s (q.2 k)) hlen
      rw [← hp] at ih
      by_cases h6 : q.2 k < 6
      · have e1 : pu_c (q.2 k) = q.2 k := by unfold pu_c; rw [if_pos h6]
        have e2 : pu_e s (q.2 k) = s.testBit (q.2 k) := by unfold pu_e; rw [if_pos h6]
        rw [e1]
        refine pw_t (nI_lt (b := 10) (by omega) (by decide)) (pw_f (fun e => absurd ((nI_eq (b := 8) (by omega) (by decide)).mp e) (by omega)) (pw_f (nI_ge (b := 8) (by omega) (by decide)) ?_))
        rw [pu_sb s hs _ h6]
        rw [e2] at ih
        by_cases ht : s.testBit (q.2 k) = true
        · rw [if_pos ht] at ih ⊢
          exact pw_t rfl (pw_bl (pw_bl ih))
        · rw [if_neg ht] at ih ⊢
          exact pw_f (by decide) (pw_bl (pw_bl ih))
      · by_cases e6 : q.2 k = 6
        · rw [e6] at ih ⊢
          exact pw_t (by decide) (pw_t (by decide) (pw_bl (pw_bl ih)))
        · have e7 : q.2 k = 7 := by omega
          rw [e7] at ih ⊢
          exact pw_t (by decide) (pw_f (by decide) (pw_t (by decide) (pw_bl (pw_bl ih))))
    · have h2 := (q3 k hkq).2 (by omega)
      have h10 := (q3 k hkq).1
      rw [← pu_st_dp (lf := pu_e s) (jn := pu_j)] at h2
      obtain ⟨r, l, t, e⟩ := pu_len2 h2
      rw [pu_st_j hc e] at ih
      rw [e] at hlen ⊢
      have ht : t.length ≤ 40 := by simp at hlen; omega
      have ht1 : (l :: t).length ≤ 40 := by simp at hlen ⊢; omega
      by_cases e9 : q.2 k = 9
      · rw [e9] at ih ⊢
        refine pw_f (by decide) (pw_bl (pw_bl (pw_t (by decide) (pw_bl (pw_bl ?_)))))
        rw [pu_b0 ht1, pu_b1 ht, pu_opp (b := pu_j 9 l r) ht (by cases l <;> cases r <;> decide)]
        exact ih
      · have e8 : q.2 k = 8 := by omega
        rw [e8] at ih ⊢
        refine pw_f (by decide) (pw_bl (pw_bl (pw_f (by decide) (pw_bl (pw_bl ?_)))))
        rw [pu_b0 ht1, pu_b1 ht, pu_opp (b := pu_j 8 l r) ht (by cases l <;> cases r <;> decide)]
        exact ih
theorem M_sat {S : fy_S} {a j n s : Nat} {q : pu_q} (ha : a < 7) (hj : j < 19) (hn : n ≤ 6) (hq : pu_ok n q) (h : pu_MF S a j q) (hs : s < 64) : M_satisfies S (nI a) (nI j) (nI s) = some (if pu_ev q s then 1 else 0) := by
  rw [M_satisfies]
  exact pw_eq (pw_be M_at_e (M_sat_l ha hj hn hq h hs q.1 0 fy_fu (by omega) (fz_fu (by have := hq.2.1; omega))))
