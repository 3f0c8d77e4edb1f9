/-! sets of sets as longs; dualize -/
def lb (t : Int64) (s : Nat) : Bool := t.toBitVec.getLsbD s
theorem lb_x {t u : Int64} (h : ∀ s, s < 64 → lb t s = lb u s) : t = u := Int64.toBitVec_inj.mp (BitVec.eq_of_getLsbD_eq (fun i hi => h i hi))
theorem lb_or (t u : Int64) (s : Nat) : lb (t ||| u) s = (lb t s || lb u s) := by unfold lb; rw [Int64.toBitVec_or, BitVec.getLsbD_or]
theorem lb_and (t u : Int64) (s : Nat) : lb (t &&& u) s = (lb t s && lb u s) := by unfold lb; rw [Int64.toBitVec_and, BitVec.getLsbD_and]
theorem lb_not (t : Int64) {s : Nat} (hs : s < 64) : lb (t ^^^ (-1)) s = !lb t s := by
  unfold lb
  rw [Int64.toBitVec_xor, BitVec.getLsbD_xor, pu_m1_b s hs, Bool.xor_true]
theorem lb_0 (s : Nat) : lb 0 s = false := pu_0_b s
theorem lb_m1 {s : Nat} (hs : s < 64) : lb (-1) s = true := pu_m1_b s hs
theorem lb_tp : ∀ i, i < 64 → ((1 : Int64) <<< ((nI i).toInt64 &&& 63)).toBitVec = BitVec.twoPow 64 i := by decide +kernel
theorem lb_1 {i s : Nat} (hi : i < 64) (hs : s < 64) : lb ((1 : Int64) <<< ((nI i).toInt64 &&& 63)) s = decide (i = s) := by
  unfold lb
  rw [lb_tp i hi, BitVec.getLsbD_twoPow]
  simp [hi]
theorem lb_T (q : pu_q) {s : Nat} (hs : s < 64) : lb (pu_T q) s = pu_ev q s := pu_T_b q hs
theorem X_isIn' {S : fy_S} {t : Int64} {s : Nat} (hs : s < 64) : X9_isIn S t (nI s) = some (if lb t s then 1 else 0) := X_isIn hs
/-- the long that a loop over sets builds -/
def pu_tb (p : Nat → Bool) : Nat → Int64
  | 0 => 0
  | i + 1 => if p i then pu_tb p i ||| ((1 : Int64) <<< ((nI i).toInt64 &&& 63)) else pu_tb p i
theorem lb_tb (p : Nat → Bool) {s : Nat} (hs : s < 64) : ∀ i, i ≤ 64 → lb (pu_tb p i) s = (decide (s < i) && p s) := by
  intro i
  induction i with
  | zero => intro _; rw [pu_tb, lb_0]; simp
  | succ i ih =>
    intro hi
    have ih := ih (by omega)
    rw [pu_tb]
    by_cases hp : p i = true
    · rw [if_pos hp, lb_or, ih, lb_1 (by omega) hs]
      by_cases e : s = i
      · subst e; simp [hp]
      · have : decide (i = s) = false := decide_eq_false (fun h => e h.symm)
        rw [this, Bool.or_false]
        have : decide (s < i) = decide (s < i + 1) := decide_eq_decide.mpr (by omega)
        rw [this]
    · have hp : p i = false := by simpa using hp
      rw [if_neg (by rw [hp]; decide), ih]
      by_cases e : s = i
      · subst e; simp [hp]
      · have : decide (s < i) = decide (s < i + 1) := decide_eq_decide.mpr (by omega)
        rw [this]
theorem lb_tb64 (p : Nat → Bool) {s : Nat} (hs : s < 64) : lb (pu_tb p 64) s = p s := by
  rw [lb_tb p hs 64 (Nat.le_refl _), decide_eq_true hs, Bool.true_and]
/-! the dual of a formula -/
def pu_dl (c : Nat) : Nat := if c = 6 then 7 else if c = 7 then 6 else if c = 8 then 9 else if c = 9 then 8 else c
def pu_dq (q : pu_q) : pu_q := (q.1, fun k => pu_dl (q.2 k))
theorem pu_dl_8 {c : Nat} : pu_dl c < 8 ↔ c < 8 := by
  unfold pu_dl
  split
  · omega
  · split
    · omega
    · split
      · omega
      · split <;> omega
theorem pu_dp_c {f g : Nat → Nat} : ∀ k, (∀ i, i < k → (g i < 8 ↔ f i < 8)) → pu_dp g k = pu_dp f k := by
  intro k
  induction k with
  | zero => intro _; rfl
  | succ k ih =>
    intro h
    have ih := ih (fun i hi => h i (by omega))
    have hk := h k (by omega)
    unfold pu_dp at ih ⊢
    by_cases h8 : f k < 8
    · rw [pu_st_l h8, pu_st_l (hk.mpr h8), List.length_cons, List.length_cons, ih]
    · have h8' : ¬ g k < 8 := fun e => h8 (hk.mp e)
      by_cases h2 : 2 ≤ (pu_st (fun _ => ()) (fun _ _ _ => ()) f k).length
      · obtain ⟨r, l, t, e⟩ := pu_len2 h2
        obtain ⟨r', l', t', e'⟩ := pu_len2 (ih ▸ h2 : 2 ≤ (pu_st (fun _ => ()) (fun _ _ _ => ()) g k).length)
        rw [pu_st_j h8 e, pu_st_j h8' e']
        rw [e, e'] at ih
        simpa using ih
      · rw [pu_st_n h8 (by omega), pu_st_n h8' (by omega), ih]
theorem pu_dq_ok {n : Nat} {q : pu_q} (hn : n ≤ 6) (h : pu_ok n q) : pu_ok n (pu_dq q) := by
  obtain ⟨h1, h2, h3, h4⟩ := h
  have hd : ∀ k, pu_dp (pu_dq q).2 k = pu_dp q.2 k := fun k => pu_dp_c k (fun i _ => pu_dl_8)
  refine ⟨h1, h2, fun k hk => ⟨?_, fun h8 => ?_⟩, (hd _).trans h4⟩
  · have := (h3 k hk).1
    show pu_dl (q.2 k) < n ∨ (6 ≤ pu_dl (q.2 k) ∧ pu_dl (q.2 k) < 10)
    unfold pu_dl
    split
    · omega
    · split
      · omega
      · split
        · omega
        · split <;> omega
  · rw [hd]
    have h8 : 8 ≤ pu_dl (q.2 k) := h8
    have := pu_dl_8 (c := q.2 k)
    exact (h3 k hk).2 (by omega)
theorem pu_cb : ∀ s, s < 64 → ∀ c, c < 6 → s.testBit c = !(63 - s).testBit c := by decide +kernel
theorem pu_dq_st {f : Nat → Nat} {s : Nat} (hs : s < 64) : ∀ k, (∀ i, i < k → f i < 10) → pu_st (pu_e s) pu_j (fun i => pu_dl (f i)) k = (pu_st (pu_e (63 - s)) pu_j f k).map (fun b => !b) := by
  intro k
  induction k with
  | zero => intro _; rfl
  | succ k ih =>
    intro h
    have ih := ih (fun i hi => h i (by omega))
    have hk := h k (by omega)
    by_cases h8 : f k < 8
    · have e : pu_e s (pu_dl (f k)) = !pu_e (63 - s) (f k) := by
        by_cases h6 : f k < 6
        · have : pu_dl (f k) = f k := by unfold pu_dl; rw [if_neg (by omega), if_neg (by omega), if_neg (by omega), if_neg (by omega)]
          rw [this, pu_e, pu_e, if_pos h6, if_pos h6]
          exact pu_cb s hs _ h6
        · have : f k = 6 ∨ f k = 7 := by omega
          rcases this with e | e <;> rw [e] <;> rfl
      rw [pu_st_l (f := fun i => pu_dl (f i)) (pu_dl_8.mpr h8), pu_st_l h8, List.map_cons, e, ih]
    · have h8' : ¬ pu_dl (f k) < 8 := fun e => h8 (pu_dl_8.mp e)
      by_cases h2 : 2 ≤ (pu_st (pu_e (63 - s)) pu_j f k).length
      · obtain ⟨r, l, t, e⟩ := pu_len2 h2
        rw [e] at ih
        rw [pu_st_j (f := fun i => pu_dl (f i)) h8' ih, pu_st_j h8 e, List.map_cons]
        have : f k = 8 ∨ f k = 9 := by omega
        rcases this with e | e <;> rw [e] <;> cases l <;> cases r <;> rfl
      · rw [pu_st_n (f := fun i => pu_dl (f i)) h8' (by rw [ih, List.length_map]; omega), pu_st_n h8 (by omega), ih]
theorem pu_dq_ev {n : Nat} {q : pu_q} (hn : n ≤ 6) (h : pu_ok n q) {s : Nat} (hs : s < 64) : pu_ev (pu_dq q) s = !pu_ev q (63 - s) := by
  unfold pu_ev pu_dq
  dsimp only
  have hl : (pu_st (pu_e (63 - s)) pu_j q.2 q.1).length = 1 := by rw [pu_st_dp]; exact h.2.2.2
  rw [pu_dq_st hs q.1 (fun i hi => pu_ok10 hn h hi)]
  match hm : pu_st (pu_e (63 - s)) pu_j q.2 q.1, hl with
  | [b], _ => rfl
theorem X_dualT {S : fy_S} {t : Int64} : X2_dualTable S t = some (pu_tb (fun s => !lb t (63 - s)) 64) := by
  have L : ∀ d i fu, i + d = 64 → d < fu → pw (X2_dualTable_5 S fu t (pu_tb (fun s => !lb t (63 - s)) i) (nI i)) (fun r => r = pu_tb (fun s => !lb t (63 - s)) 64) := by
    intro d
    induction d with
    | zero =>
      intro i fu hi hfu
      obtain ⟨fu, rfl⟩ : ∃ z, fu = z + 1 := ⟨fu - 1, by omega⟩
      have : i = 64 := by omega
      subst this
      rw [X2_dualTable_5]
      exact pw_t (nI_le (Nat.le_refl 64) (by decide)) (pw_s rfl)
    | succ d ih =>
      intro i fu hi hfu
      obtain ⟨fu, rfl⟩ : ∃ z, fu = z + 1 := ⟨fu - 1, by omega⟩
      have ih := ih (i + 1) fu (by omega) (by omega)
      rw [X2_dualTable_5, show (63 : Int32) - nI i = nI (63 - i) from pk_sub (a := 63) (by omega), nI_1]
      refine pw_f (nI_ge (b := 64) (by omega) (by decide)) (pw_be (X_isIn' (by omega)) ?_)
      rw [pu_tb] at ih
      cases hb : lb t (63 - i)
      · rw [hb] at ih
        exact pw_t rfl (pw_bl (pw_bl ih))
      · rw [hb] at ih
        exact pw_f (by decide) (pw_bl ih)
  exact pw_eq (L 64 0 fy_fu (by omega) (fz_fu (by omega)))
theorem pu_dq_T {n : Nat} {q : pu_q} (hn : n ≤ 6) (h : pu_ok n q) : pu_tb (fun s => !lb (pu_T q) (63 - s)) 64 = pu_T (pu_dq q) := lb_x (fun s hs => by
  rw [lb_tb64 _ hs, lb_T _ hs, pu_dq_ev hn h hs, lb_T _ (by omega)])
theorem X_dualN : ∀ c, c < 10 → ∀ S : fy_S, X2_dualNode S (nI c) = some (nI (pu_dl c)) ∧ vp_nar .byte (nI (pu_dl c)) = nI (pu_dl c) := by
  intro c hc S
  have : c = 0 ∨ c = 1 ∨ c = 2 ∨ c = 3 ∨ c = 4 ∨ c = 5 ∨ c = 6 ∨ c = 7 ∨ c = 8 ∨ c = 9 := by omega
  rcases this with rfl | rfl | rfl | rfl | rfl | rfl | rfl | rfl | rfl | rfl <;> exact ⟨by rfl, by decide⟩
theorem X_dualF {id id' n : Nat} {q : pu_q} (hn : n ≤ 6) (hq : pu_ok n q) (hid : id = id' ∨ (id ≠ id' ∧ id ≠ id' + 1 ∧ id + 1 ≠ id')) : ∀ d k fu S, k + d = q.1 → d < fu → S.1 id' 1 = nI q.1 → S.2 id' 2 = pu_T q → (∀ t, t < k → S.1 (id + 1) t = nI (pu_dl (q.2 t))) → (∀ t, k ≤ t → t < q.1 → S.1 (id' + 1) t = nI (q.2 t)) → pw (X2_becomeDual_2 fu S id id' (nI k)) (fun S' => pu_XF S' id (pu_dq q) ∧ fr (fun i _ => i = id ∨ i = id + 1) S S') := by
  have h40 := hq.2.1
  intro d
  induction d with
  | zero =>
    intro k fu S hk hfu h1 hT hd hr
    obtain ⟨fu, rfl⟩ : ∃ z, fu = z + 1 := ⟨fu - 1, by omega⟩
    have : k = q.1 := by omega
    subst this
    rw [X2_becomeDual_2, h1]
    refine pw_t (nI_le (Nat.le_refl _) (by omega)) (pw_bl (pw_be X_dualT (pw_bl (pw_s ⟨⟨⟨?_, fun t ht => ?_⟩, ?_⟩, fr_L (fr_I fr_r (.inl rfl)) (.inl rfl)⟩))))
    · rw [rd_L1, rd_y]; rfl
    · rw [rd_L1, rd_n (by omega)]; exact hd t ht
    · rw [rd_Ly, rd_I2, hT, pu_dq_T hn hq]
  | succ d ih =>
    intro k fu S hk hfu h1 hT hd hr
    obtain ⟨fu, rfl⟩ : ∃ z, fu = z + 1 := ⟨fu - 1, by omega⟩
    have hkq : k < q.1 := by omega
    obtain ⟨n1, n2⟩ := X_dualN (q.2 k) (pu_ok10 hn hq hkq) S
    rw [X2_becomeDual_2, h1, nI_clamp (by omega), hr k (Nat.le_refl _) hkq, nI_1]
    refine pw_f (nI_ge hkq (by omega)) (pw_gd (fy_ix_nI (by omega) (by decide)) (pw_be n1 (pw_gd (fy_ix_nI (by omega) (by decide)) (pw_bl (pw_bl ?_)))))
    rw [n2]
    refine pw_m (ih (k + 1) fu _ (by omega) (by omega) (by rw [rd_n (by omega)]; exact h1) hT (fun t ht => ?_) (fun t g1 g2 => by rw [rd_n (by omega)]; exact hr t (by omega) g2)) (fun S' h' => ⟨h'.1, fr_t (fr_I fr_r (.inr rfl)) h'.2⟩)
    by_cases e : t = k
    · rw [e, rd_y]
    · rw [rd_n (by omega)]; exact hd t (by omega)
theorem X_dual1 {S : fy_S} {id id' n : Nat} {q : pu_q} (hn : n ≤ 6) (hq : pu_ok n q) (hid : id = id' ∨ (id ≠ id' ∧ id ≠ id' + 1 ∧ id + 1 ≠ id')) (h : pu_XF S id' q) : pw (X2_becomeDual S id id') (fun S' => pu_XF S' id (pu_dq q) ∧ fr (fun i _ => i = id ∨ i = id + 1) S S') :=
  X_dualF hn hq hid q.1 0 fy_fu S (by omega) (fz_fu (by have := hq.2.1; omega)) h.1.1 h.2 (fun t ht => absurd ht (Nat.not_lt_zero t)) (fun t _ ht => h.1.2 t ht)
theorem X_shape' {S : fy_S} {a b n : Nat} : pw (X0_takeShape S (38 + 41 * a) (38 + 41 * b) (nI n)) (fun S' => S'.1 (38 + 41 * a) 3 = nI n ∧ S'.1 (38 + 41 * a) 4 = S.1 (38 + 41 * b) 4 ∧ (∀ x, x < 3 → S'.1 (38 + 41 * a + 1) x = S.1 (38 + 41 * b + 1) x) ∧ fr (fun i k => (i = 38 + 41 * a ∧ (k = 3 ∨ k = 4)) ∨ i = 38 + 41 * a + 1) S S') := by
  rw [X0_takeShape]
  refine pw_bl (pw_bl (pw_gd ?_ (pw_bl (pw_s ⟨?_, ?_, fun x hx => ?_, fr_A (fr_I (fr_I fr_r (by omega)) (by omega)) (fun _ => .inr rfl)⟩))))
  · unfold fy_cpI
    exact decide_eq_true ⟨by decide, by decide, by decide, by decide, by decide, fun i hi => rfl⟩
  · rw [rd_A, if_neg (by omega), rd_n (by omega), rd_y]
  · rw [rd_A, if_neg (by omega), rd_y, rd_n (by omega)]
  · rw [rd_A, if_pos rfl]
    refine (sb_cpy0 hx).trans ?_
    rw [rd_n (by omega), rd_n (by omega)]
