/-! combine: formulas -/
theorem pu_st_c {α : Type} {lf : Nat → α} {jn : Nat → α → α → α} {f g : Nat → Nat} : ∀ k, (∀ i, i < k → g i = f i) → pu_st lf jn g k = pu_st lf jn f k := by
  intro k
  induction k with
  | zero => intro _; rfl
  | succ k ih =>
    intro h
    rw [pu_st, pu_st, ih (fun i hi => h i (by omega)), h k (by omega)]
theorem pu_st_app {α : Type} {lf : Nat → α} {jn : Nat → α → α → α} {f g : Nat → Nat} {z : Nat} : ∀ k, (∀ i, i < k → g (z + i) = f i) → (∀ i, i < k → 8 ≤ f i → 2 ≤ pu_dp f i) → pu_st lf jn g (z + k) = pu_st lf jn f k ++ pu_st lf jn g z := by
  intro k
  induction k with
  | zero => intro _ _; rfl
  | succ k ih =>
    intro h hd
    have ih := ih (fun i hi => h i (by omega)) (fun i hi => hd i (by omega))
    have hk := h k (by omega)
    rw [← Nat.add_assoc]
    by_cases h8 : f k < 8
    · rw [pu_st_l (f := g) (by rw [hk]; exact h8), pu_st_l h8, ih, hk]; rfl
    · have h2 := hd k (by omega) (by omega)
      rw [← pu_st_dp (lf := lf) (jn := jn)] at h2
      obtain ⟨r, l, t, e⟩ := pu_len2 h2
      rw [e] at ih
      rw [pu_st_j (f := g) (by rw [hk]; exact h8) ih, pu_st_j h8 e, hk]; rfl
def pu_sh (o c : Nat) : Nat := if c < 6 then c + o else c
def pu_sq (o : Nat) (q : pu_q) : pu_q := (q.1, fun k => pu_sh o (q.2 k))
def pu_jq (o op : Nat) (p q : pu_q) : pu_q := (p.1 + q.1 + 1, fun k => if k < p.1 then p.2 k else if k < p.1 + q.1 then pu_sh o (q.2 (k - p.1)) else op)
theorem pu_sh_8 {o c n : Nat} (hno : n + o ≤ 6) (h : c < n ∨ (6 ≤ c ∧ c < 10)) : pu_sh o c < 8 ↔ c < 8 := by
  unfold pu_sh
  split <;> omega
theorem pu_sq_ok {n o : Nat} {q : pu_q} (hno : n + o ≤ 6) (h : pu_ok n q) : pu_ok (o + n) (pu_sq o q) := by
  obtain ⟨h1, h2, h3, h4⟩ := h
  have hd : ∀ k, k ≤ q.1 → pu_dp (pu_sq o q).2 k = pu_dp q.2 k := fun k hk => pu_dp_c k (fun i hi => pu_sh_8 hno (h3 i (by omega)).1)
  refine ⟨h1, h2, fun k hk => ⟨?_, fun h8 => ?_⟩, (hd _ (Nat.le_refl _)).trans h4⟩
  · have := (h3 k hk).1
    show pu_sh o (q.2 k) < o + n ∨ (6 ≤ pu_sh o (q.2 k) ∧ pu_sh o (q.2 k) < 10)
    unfold pu_sh
    split <;> omega
  · have hk : k < q.1 := hk
    rw [hd k (by omega)]
    have h8 : 8 ≤ pu_sh o (q.2 k) := h8
    have := pu_sh_8 hno (h3 k hk).1
    exact (h3 k hk).2 (by omega)
theorem pu_ok_m {n n' : Nat} {q : pu_q} (h : pu_ok n q) (hn : n ≤ n') : pu_ok n' q := ⟨h.1, h.2.1, fun k hk => ⟨by have := (h.2.2.1 k hk).1; omega, (h.2.2.1 k hk).2⟩, h.2.2.2⟩
theorem pu_sq_st {f : Nat → Nat} {n o s : Nat} (hno : n + o ≤ 6) : ∀ k, (∀ i, i < k → f i < n ∨ (6 ≤ f i ∧ f i < 10)) → pu_st (pu_e s) pu_j (fun i => pu_sh o (f i)) k = pu_st (pu_e (s / 2 ^ o)) pu_j f k := by
  intro k
  induction k with
  | zero => intro _; rfl
  | succ k ih =>
    intro h
    have ih := ih (fun i hi => h i (by omega))
    have hk := h k (by omega)
    have h8 := pu_sh_8 hno hk
    by_cases e8 : f k < 8
    · have e : pu_e s (pu_sh o (f k)) = pu_e (s / 2 ^ o) (f k) := by
        by_cases h6 : f k < 6
        · have e1 : pu_sh o (f k) = f k + o := by unfold pu_sh; rw [if_pos h6]
          rw [e1, pu_e, pu_e, if_pos (by omega), if_pos h6, ← Nat.shiftRight_eq_div_pow, Nat.testBit_shiftRight, Nat.add_comm]
        · have e1 : pu_sh o (f k) = f k := by unfold pu_sh; rw [if_neg h6]
          rw [e1, pu_e, pu_e, if_neg h6, if_neg h6]
      rw [pu_st_l (f := fun i => pu_sh o (f i)) (h8.mpr e8), pu_st_l e8, e, ih]
    · have e8' : ¬ pu_sh o (f k) < 8 := fun e => e8 (h8.mp e)
      have e1 : pu_sh o (f k) = f k := by unfold pu_sh; rw [if_neg (by omega)]
      by_cases h2 : 2 ≤ (pu_st (pu_e (s / 2 ^ o)) pu_j f k).length
      · obtain ⟨r, l, t, e⟩ := pu_len2 h2
        rw [pu_st_j (f := fun i => pu_sh o (f i)) e8' (ih.trans e), pu_st_j e8 e, e1]
      · rw [pu_st_n (f := fun i => pu_sh o (f i)) e8' (by rw [ih]; omega), pu_st_n e8 (by omega), ih]
theorem pu_sq_ev {n o s : Nat} {q : pu_q} (hno : n + o ≤ 6) (h : pu_ok n q) : pu_ev (pu_sq o q) s = pu_ev q (s / 2 ^ o) := by
  unfold pu_ev pu_sq
  rw [pu_sq_st hno q.1 (fun i hi => (h.2.2.1 i hi).1)]
theorem X_shT {S : fy_S} {t : Int64} {o : Nat} (ho : o ≤ 6) : X2_shiftedTable S t (nI o) = some (pu_tb (fun s => lb t (s / 2 ^ o)) 64) := by
  have sh : ∀ s, s < 64 → ∀ o, o < 7 → nI s >>> (nI o &&& 31) = nI (s / 2 ^ o) := by decide +kernel
  have L : ∀ d i fu, i + d = 64 → d < fu → pw (X2_shiftedTable_5 S fu t (nI o) (pu_tb (fun s => lb t (s / 2 ^ o)) i) (nI i)) (fun r => r = pu_tb (fun s => lb t (s / 2 ^ o)) 64) := by
    intro d
    induction d with
    | zero =>
      intro i fu hi hfu
      obtain ⟨fu, rfl⟩ : ∃ z, fu = z + 1 := ⟨fu - 1, by omega⟩
      have : i = 64 := by omega
      subst this
      rw [X2_shiftedTable_5]
      exact pw_t (nI_le (Nat.le_refl 64) (by decide)) (pw_s rfl)
    | succ d ih =>
      intro i fu hi hfu
      obtain ⟨fu, rfl⟩ : ∃ z, fu = z + 1 := ⟨fu - 1, by omega⟩
      have ih := ih (i + 1) fu (by omega) (by omega)
      have hle : i / 2 ^ o ≤ i := Nat.div_le_self i _
      rw [X2_shiftedTable_5, sh i (by omega) o (by omega), nI_1]
      refine pw_f (nI_ge (b := 64) (by omega) (by decide)) (pw_be (X_isIn' (by omega)) ?_)
      rw [pu_tb] at ih
      cases hb : lb t (i / 2 ^ o)
      · rw [hb] at ih
        exact pw_t rfl (pw_bl ih)
      · rw [hb] at ih
        exact pw_f (by decide) (pw_bl (pw_bl ih))
  exact pw_eq (L 64 0 fy_fu (by omega) (fz_fu (by omega)))
theorem pu_sq_T {n o : Nat} {q : pu_q} (hno : n + o ≤ 6) (h : pu_ok n q) : pu_tb (fun s => lb (pu_T q) (s / 2 ^ o)) 64 = pu_T (pu_sq o q) := lb_x (fun s hs => by
  have hle : s / 2 ^ o ≤ s := Nat.div_le_self s _
  rw [lb_tb64 _ hs, lb_T _ hs, pu_sq_ev hno h, lb_T _ (by omega)])
theorem pu_len1 {α : Type} {s : List α} (h : s.length = 1) : ∃ r, s = [r] := by
  match s, h with
  | [r], _ => exact ⟨r, rfl⟩
/-- two formulas and their operator: the pile -/
theorem pu_jq_st {α : Type} {lf : Nat → α} {jn : Nat → α → α → α} {n o op : Nat} {p q : pu_q} (hno : n + o ≤ 6) (hop : ¬ op < 8) (hp : pu_ok o p) (hq : pu_ok n q) : ∃ l r, pu_st lf jn p.2 p.1 = [l] ∧ pu_st lf jn (pu_sq o q).2 q.1 = [r] ∧ pu_st lf jn (pu_jq o op p q).2 p.1 = [l] ∧ pu_st lf jn (pu_jq o op p q).2 (p.1 + q.1) = [r, l] ∧ pu_st lf jn (pu_jq o op p q).2 (p.1 + q.1 + 1) = [jn op l r] := by
  have hsq := pu_sq_ok hno hq
  obtain ⟨l, el⟩ := pu_len1 ((pu_st_dp (lf := lf) (jn := jn) p.1).trans hp.2.2.2)
  obtain ⟨r, er⟩ := pu_len1 ((pu_st_dp (lf := lf) (jn := jn) (f := (pu_sq o q).2) q.1).trans hsq.2.2.2)
  have e1 : pu_st lf jn (pu_jq o op p q).2 p.1 = [l] := by
    rw [← el]
    exact pu_st_c p.1 (fun i hi => by show (if i < p.1 then p.2 i else _) = _; rw [if_pos hi])
  have e2 : pu_st lf jn (pu_jq o op p q).2 (p.1 + q.1) = [r, l] := by
    rw [pu_st_app (f := (pu_sq o q).2) q.1 (fun i hi => ?_) (fun i hi h8 => (hsq.2.2.1 i hi).2 h8), er, e1]; rfl
    show (if p.1 + i < p.1 then _ else if p.1 + i < p.1 + q.1 then pu_sh o (q.2 (p.1 + i - p.1)) else _) = pu_sh o (q.2 i)
    rw [if_neg (by omega), if_pos (by omega), show p.1 + i - p.1 = i by omega]
  have eo : (pu_jq o op p q).2 (p.1 + q.1) = op := by
    show (if p.1 + q.1 < p.1 then _ else if p.1 + q.1 < p.1 + q.1 then _ else op) = op
    rw [if_neg (by omega), if_neg (by omega)]
  refine ⟨l, r, el, er, e1, e2, ?_⟩
  rw [pu_st_j (by rw [eo]; exact hop) e2, eo]
theorem pu_jq_ok {n o op : Nat} {p q : pu_q} (hno : n + o ≤ 6) (hop : op = 8 ∨ op = 9) (hp : pu_ok o p) (hq : pu_ok n q) (h40 : p.1 + q.1 + 1 ≤ 40) : pu_ok (o + n) (pu_jq o op p q) := by
  have hsq := pu_sq_ok hno hq
  obtain ⟨l, r, el, er, e1, e2, e3⟩ := pu_jq_st (lf := fun _ => ()) (jn := fun _ _ _ => ()) hno (by omega : ¬ op < 8) hp hq
  refine ⟨by show 1 ≤ p.1 + q.1 + 1; omega, h40, fun k hk => ?_, by unfold pu_dp; rw [show (pu_jq o op p q).1 = p.1 + q.1 + 1 from rfl, e3]; rfl⟩
  have hk : k < p.1 + q.1 + 1 := hk
  by_cases h1 : k < p.1
  · have e : (pu_jq o op p q).2 k = p.2 k := by
      show (if k < p.1 then p.2 k else _) = _
      rw [if_pos h1]
    have ed : pu_dp (pu_jq o op p q).2 k = pu_dp p.2 k := by
      unfold pu_dp
      rw [pu_st_c k (fun i hi => by show (if i < p.1 then p.2 i else _) = _; rw [if_pos (by omega)])]
    rw [e, ed]
    exact ⟨by have := (hp.2.2.1 k h1).1; omega, (hp.2.2.1 k h1).2⟩
  · by_cases h2 : k < p.1 + q.1
    · obtain ⟨i, rfl⟩ : ∃ i, k = p.1 + i := ⟨k - p.1, by omega⟩
      have g : ∀ i, i < q.1 → (pu_jq o op p q).2 (p.1 + i) = (pu_sq o q).2 i := fun i hi => by
        show (if p.1 + i < p.1 then _ else if p.1 + i < p.1 + q.1 then pu_sh o (q.2 (p.1 + i - p.1)) else _) = pu_sh o (q.2 i)
        rw [if_neg (by omega), if_pos (by omega), show p.1 + i - p.1 = i by omega]
      rw [g i (by omega)]
      refine ⟨(hsq.2.2.1 i (by show i < q.1; omega)).1, fun h8 => ?_⟩
      have := (hsq.2.2.1 i (by show i < q.1; omega)).2 h8
      unfold pu_dp at this ⊢
      rw [pu_st_app (f := (pu_sq o q).2) i (fun j hj => g j (by omega)) (fun j hj h8 => (hsq.2.2.1 j (by show j < q.1; omega)).2 h8), List.length_append]
      omega
    · have : k = p.1 + q.1 := by omega
      subst this
      have eo : (pu_jq o op p q).2 (p.1 + q.1) = op := by
        show (if p.1 + q.1 < p.1 then _ else if p.1 + q.1 < p.1 + q.1 then _ else op) = op
        rw [if_neg (by omega), if_neg (by omega)]
      rw [eo]
      refine ⟨by omega, fun _ => ?_⟩
      unfold pu_dp
      rw [e2]; exact Nat.le_refl 2
theorem pu_jq_T {n o op : Nat} {p q : pu_q} (hno : n + o ≤ 6) (hop : op = 8 ∨ op = 9) (hp : pu_ok o p) (hq : pu_ok n q) : pu_T (pu_jq o op p q) = pu_jt op (pu_T p) (pu_T (pu_sq o q)) := by
  obtain ⟨l, r, el, er, e1, e2, e3⟩ := pu_jq_st (lf := pu_lt) (jn := pu_jt) hno (by omega : ¬ op < 8) hp hq
  unfold pu_T
  rw [show (pu_jq o op p q).1 = p.1 + q.1 + 1 from rfl, e3, el, show (pu_sq o q).1 = q.1 from rfl, er]; rfl
