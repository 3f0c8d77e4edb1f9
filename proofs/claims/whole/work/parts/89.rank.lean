/-! rank and strategy: the class's evaluation of a formula -/
abbrev pu_v : Type := Nat × Nat
def pu_vl (V : Nat → Nat) (c : Nat) : pu_v := if c < 6 then (V c, 2 ^ c) else if c = 6 then (0, 0) else (10000, 0)
def pu_mn (a b : Nat) : Nat := if b < a then b else a
def pu_mx (a b : Nat) : Nat := if a < b then b else a
def pu_vj (o : Nat) (l r : pu_v) : pu_v := if o = 9 then ((if 10000 ≤ pu_mn l.1 r.1 then pu_mn l.1 r.1 else pu_mx l.1 r.1) + 1, l.2 ||| r.2) else ((if 10000 ≤ pu_mn l.1 r.1 then pu_mx l.1 r.1 else pu_mn l.1 r.1) + 1, if r.1 < l.1 then r.2 else l.2)
def pu_ly (S : fy_S) : List pu_v → Prop
  | [] => True
  | x :: t => S.1 18 t.length = nI x.1 ∧ S.1 19 t.length = nI x.2 ∧ pu_ly S t
theorem pu_ly_c {S S' : fy_S} {n : Nat} (f : ∀ i k, (i = 18 ∨ i = 19) → k < n → S'.1 i k = S.1 i k) : ∀ {l : List pu_v}, l.length ≤ n → pu_ly S l → pu_ly S' l := by
  intro l
  induction l with
  | nil => intro _ _; trivial
  | cons x t ih =>
    intro hl h
    have hl : t.length + 1 ≤ n := hl
    exact ⟨by rw [f _ _ (.inl rfl) (by omega)]; exact h.1, by rw [f _ _ (.inr rfl) (by omega)]; exact h.2.1, ih (by omega) h.2.2⟩
def pu_bd (M : Nat) (l : List pu_v) : Prop := ∀ x, x ∈ l → x.1 ≤ M
theorem pu_mn_le {a b M : Nat} (ha : a ≤ M) (hb : b ≤ M) : pu_mn a b ≤ M ∧ pu_mx a b ≤ M := by
  unfold pu_mn pu_mx
  constructor
  · split <;> omega
  · split <;> omega
theorem pu_vj_le {o M : Nat} {l r : pu_v} (hl : l.1 ≤ M) (hr : r.1 ≤ M) : (pu_vj o l r).1 ≤ M + 1 := by
  have := pu_mn_le hl hr
  unfold pu_vj
  split
  · show (if _ then _ else _) + 1 ≤ M + 1
    split <;> omega
  · show (if _ then _ else _) + 1 ≤ M + 1
    split <;> omega
theorem X_jp {S : fy_S} {o L : Nat} {l r : pu_v} (ho : o = 8 ∨ o = 9) (hL : L + 1 < 40) (h1 : S.1 18 L = nI l.1) (h2 : S.1 19 L = nI l.2) (h3 : S.1 18 (L + 1) = nI r.1) (h4 : S.1 19 (L + 1) = nI r.2) (hl : l.1 < 2 ^ 30) (hr : r.1 < 2 ^ 30) : pw (X5_joinParts S (nI o) (nI L) (nI (L + 1))) (fun S' => S'.1 18 L = nI (pu_vj o l r).1 ∧ S'.1 19 L = nI (pu_vj o l r).2 ∧ fr (fun i k => (i = 18 ∨ i = 19) ∧ k = L) S S') := by
  have hM := pu_mn_le (Nat.le_of_lt hl) (Nat.le_of_lt hr)
  have c1 : (if nI r.1 < nI l.1 then nI r.1 else nI l.1) = nI (pu_mn l.1 r.1) := by
    unfold pu_mn
    by_cases e : r.1 < l.1
    · rw [if_pos (nI_lt e (by omega)), if_pos e]
    · rw [if_neg (nI_nlt (by omega) (by omega)), if_neg e]
  have c2 : (if nI l.1 < nI r.1 then nI r.1 else nI l.1) = nI (pu_mx l.1 r.1) := by
    unfold pu_mx
    by_cases e : l.1 < r.1
    · rw [if_pos (nI_lt e (by omega)), if_pos e]
    · rw [if_neg (nI_nlt (by omega) (by omega)), if_neg e]
  rw [X5_joinParts, nI_clamp (by omega), nI_clamp (by omega), h1, h3, c1, c2]
  refine pw_gd (fy_ix_nI (by omega) (by decide)) (pw_gd (fy_ix_nI (by omega) (by decide)) (pw_bl (pw_gd (fy_ix_nI (by omega) (by decide)) (pw_gd (fy_ix_nI (by omega) (by decide)) (pw_bl ?_)))))
  have fin : ∀ (z : Int32) (b : Bool), (z = 0 ↔ b = false) → b = decide (10000 ≤ pu_mn l.1 r.1) → pw (X5_joinParts_47 S (nI o) (nI L) (nI (L + 1)) (nI (pu_mn l.1 r.1)) (nI (pu_mx l.1 r.1)) z) (fun S' => S'.1 18 L = nI (pu_vj o l r).1 ∧ S'.1 19 L = nI (pu_vj o l r).2 ∧ fr (fun i k => (i = 18 ∨ i = 19) ∧ k = L) S S') := by
    intro z b hz hb
    rw [X5_joinParts_47, nI_clamp (by omega), nI_clamp (by omega)]
    rcases ho with e | e
    · subst e
      refine pw_f (by decide) (pw_gd (fy_ix_nI (by omega) (by decide)) (pw_gd (fy_ix_nI (by omega) (by decide)) ?_))
      have last : ∀ S1 : fy_S, S1.1 19 L = nI (if r.1 < l.1 then r.2 else l.2) → fr (fun i k => (i = 18 ∨ i = 19) ∧ k = L) S S1 → pw (X5_joinParts_120 S1 (nI L) (nI (pu_mn l.1 r.1)) (nI (pu_mx l.1 r.1)) z) (fun S' => S'.1 18 L = nI (pu_vj 8 l r).1 ∧ S'.1 19 L = nI (pu_vj 8 l r).2 ∧ fr (fun i k => (i = 18 ∨ i = 19) ∧ k = L) S S') := by
        intro S1 e1 f1
        have ev : (pu_vj 8 l r) = ((if 10000 ≤ pu_mn l.1 r.1 then pu_mx l.1 r.1 else pu_mn l.1 r.1) + 1, if r.1 < l.1 then r.2 else l.2) := by unfold pu_vj; rw [if_neg (by decide)]
        rw [X5_joinParts_120, ev]
        by_cases e : 10000 ≤ pu_mn l.1 r.1
        · have : b = true := by rw [hb]; exact decide_eq_true e
          refine pw_f (fun h => by rw [hz.mp h] at this; cases this) ?_
          rw [X5_joinParts_137, nI_clamp (by omega), nI_1]
          refine pw_gd (fy_ix_nI (by omega) (by decide)) (pw_bl (pw_s ⟨?_, ?_, fr_I f1 ⟨.inl rfl, rfl⟩⟩))
          · rw [rd_y, if_pos e]
          · rw [rd_n (by omega)]; exact e1
        · have : b = false := by rw [hb]; exact decide_eq_false e
          refine pw_t (hz.mpr this) ?_
          rw [X5_joinParts_137, nI_clamp (by omega), nI_1]
          refine pw_gd (fy_ix_nI (by omega) (by decide)) (pw_bl (pw_s ⟨?_, ?_, fr_I f1 ⟨.inl rfl, rfl⟩⟩))
          · rw [rd_y, if_neg e]
          · rw [rd_n (by omega)]; exact e1
      rw [h1, h3, h4]
      by_cases e : r.1 < l.1
      · refine pw_f (nI_ge e (by omega)) (pw_gd (fy_ix_nI (by omega) (by decide)) (pw_gd (fy_ix_nI (by omega) (by decide)) (pw_bl (last _ ?_ (fr_I fr_r ⟨.inr rfl, rfl⟩)))))
        rw [rd_y, if_pos e]
      · refine pw_t (nI_le (by omega) (by omega)) (last _ ?_ fr_r)
        rw [if_neg e]; exact h2
    · subst e
      have ev : (pu_vj 9 l r) = ((if 10000 ≤ pu_mn l.1 r.1 then pu_mn l.1 r.1 else pu_mx l.1 r.1) + 1, l.2 ||| r.2) := by unfold pu_vj; rw [if_pos rfl]
      rw [ev, h2, h4, fa_or]
      refine pw_t rfl (pw_gd (fy_ix_nI (by omega) (by decide)) (pw_gd (fy_ix_nI (by omega) (by decide)) (pw_gd (fy_ix_nI (by omega) (by decide)) (pw_bl ?_))))
      by_cases e : 10000 ≤ pu_mn l.1 r.1
      · have : b = true := by rw [hb]; exact decide_eq_true e
        refine pw_f (fun h => by rw [hz.mp h] at this; cases this) ?_
        rw [X5_joinParts_87, nI_clamp (by omega), nI_1]
        refine pw_gd (fy_ix_nI (by omega) (by decide)) (pw_bl (pw_s ⟨?_, ?_, fr_I (fr_I fr_r ⟨.inr rfl, rfl⟩) ⟨.inl rfl, rfl⟩⟩))
        · rw [rd_y, if_pos e]
        · rw [rd_n (by omega), rd_y]
      · have : b = false := by rw [hb]; exact decide_eq_false e
        refine pw_t (hz.mpr this) ?_
        rw [X5_joinParts_87, nI_clamp (by omega), nI_1]
        refine pw_gd (fy_ix_nI (by omega) (by decide)) (pw_bl (pw_s ⟨?_, ?_, fr_I (fr_I fr_r ⟨.inr rfl, rfl⟩) ⟨.inl rfl, rfl⟩⟩))
        · rw [rd_y, if_neg e]
        · rw [rd_n (by omega), rd_y]
  by_cases e : 10000 ≤ pu_mn l.1 r.1
  · exact pw_f (show ¬ nI (pu_mn l.1 r.1) < 10000 from nI_nlt (b := 10000) e (by omega)) (fin 1 true (by decide) (decide_eq_true e).symm)
  · exact pw_t (show nI (pu_mn l.1 r.1) < 10000 from nI_lt (b := 10000) (by omega) (by decide)) (fin 0 false (by decide) (decide_eq_false e).symm)
theorem X_node {S : fy_S} {id k : Nat} {q : pu_q} (h : pu_l (S.1 (id + 1)) (S.1 id 1) q) (hk : k < q.1) (hq : q.1 ≤ 40) : X2_nodeAt S id (nI k) = some (nI (q.2 k)) := by
  rw [X2_nodeAt, h.1]
  refine pw_eq (pw_f (nI_pos (by omega)) (pw_f (nI_ge hk (by omega)) (pw_gd (fy_ix_nI (by omega) (by decide)) (pw_s ?_))))
  rw [nI_clamp (by omega)]
  exact h.2 k hk
theorem X_valAt {S : fy_S} {rd p : Nat} (hr : rd ≤ 12) (hp : p < 6) : X5_valueAt S (nI rd) (nI p) = some (S.1 17 (rd * 6 + p)) := by
  have hpos : X5_isPosition S (nI rd) (nI p) = some 1 := by
    rw [X5_isPosition]
    exact pw_eq (pw_f (nI_pos (by omega)) (pw_f (nI_nlt (a := 12) hr (by decide)) (pw_f (nI_pos (by omega)) (pw_f (nI_ge (b := 6) hp (by decide)) (pw_s rfl)))))
  rw [X5_valueAt, show nI rd * (6 : Int32) = nI (rd * 6) from pk_mul rd 6, nI_add]
  refine pw_eq (pw_be hpos (pw_f (by decide) (pw_gd (fy_ix_nI (by omega) (by decide)) (pw_s ?_))))
  rw [nI_clamp (by omega)]
theorem X_setVal {S : fy_S} {rd p : Nat} {v : Int32} (hr : rd ≤ 12) (hp : p < 6) : X5_setValue S (nI rd) (nI p) v = some (fy_sI S 17 (rd * 6 + p) v) := by
  have hpos : X5_isPosition S (nI rd) (nI p) = some 1 := by
    rw [X5_isPosition]
    exact pw_eq (pw_f (nI_pos (by omega)) (pw_f (nI_nlt (a := 12) hr (by decide)) (pw_f (nI_pos (by omega)) (pw_f (nI_ge (b := 6) hp (by decide)) (pw_s rfl)))))
  rw [X5_setValue, show nI rd * (6 : Int32) = nI (rd * 6) from pk_mul rd 6, nI_add]
  refine pw_eq (pw_be hpos (pw_f (by decide) (pw_gd (fy_ix_nI (by omega) (by decide)) (pw_bl (pw_s ?_)))))
  rw [nI_clamp (by omega)]
theorem X_eval_l {id n rd M : Nat} {V : Nat → Nat} {q : pu_q} (hn : n ≤ 6) (hq : pu_ok n q) (hr : rd ≤ 12) (hM : 10000 ≤ M) (hM2 : M < 2 ^ 20) (hV : ∀ c, c < n → V c ≤ M) (hid : 38 ≤ id) : ∀ d k fu S, k + d = q.1 → d < fu → pu_l (S.1 (id + 1)) (S.1 id 1) q → (∀ c, c < n → S.1 17 (rd * 6 + c) = nI (V c)) → pu_ly S (pu_st (pu_vl V) pu_vj q.2 k) → pu_bd (M + k) (pu_st (pu_vl V) pu_vj q.2 k) → pw (X5_evaluate_5 fu S id (nI rd) (nI (pu_st (pu_vl V) pu_vj q.2 k).length) (nI k)) (fun S' => pu_ly S' (pu_st (pu_vl V) pu_vj q.2 q.1) ∧ pu_bd (M + q.1) (pu_st (pu_vl V) pu_vj q.2 q.1) ∧ fr (fun i _ => i = 18 ∨ i = 19) S S') := by
  obtain ⟨q1, q2, q3, q4⟩ := hq
  intro d
  induction d with
  | zero =>
    intro k fu S hk hfu hl hv hy hb
    obtain ⟨fu, rfl⟩ : ∃ z, fu = z + 1 := ⟨fu - 1, by omega⟩
    have : k = q.1 := by omega
    subst this
    rw [X5_evaluate_5, hl.1]
    exact pw_t (nI_le (Nat.le_refl _) (by omega)) (pw_s ⟨hy, hb, fr_r⟩)
  | succ d ih =>
    intro k fu S hk hfu hl hv hy hb
    obtain ⟨fu, rfl⟩ : ∃ z, fu = z + 1 := ⟨fu - 1, by omega⟩
    have hkq : k < q.1 := by omega
    have hdp := pu_dp_le q.2 k
    have hlen : (pu_st (pu_vl V) pu_vj q.2 k).length ≤ k := by rw [pu_st_dp]; exact hdp
    have hc := (q3 k hkq).1
    rw [X5_evaluate_5, hl.1]
    refine pw_f (nI_ge hkq (by omega)) (pw_be (X_node hl hkq q2) ?_)
    by_cases h8 : q.2 k < 8
    · refine pw_f (fun e => absurd ((nI_eq (b := 9) (by omega) (by decide)).mp e) (by omega)) (pw_f (fun e => absurd ((nI_eq (b := 8) (by omega) (by decide)).mp e) (by omega)) (pw_f (nI_ge (b := 40) (by omega) (by decide)) ?_))
      have ih := ih (k + 1) fu
      rw [pu_st_l h8] at ih
      have leaf : X5_leafValue S (nI (q.2 k)) (nI rd) = some (nI (pu_vl V (q.2 k)).1) := by
        rw [X5_leafValue]
        by_cases h6 : q.2 k < 6
        · have : q.2 k < n := by omega
          refine pw_eq (pw_f (nI_ge (b := 6) h6 (by decide)) (pw_be (X_valAt hr h6) (pw_s ?_)))
          rw [hv _ this, pu_vl, if_pos h6]
        · refine pw_eq (pw_t (nI_le (a := 6) (by omega) (by omega)) ?_)
          by_cases e6 : q.2 k = 6
          · rw [e6]; exact pw_t rfl (pw_s rfl)
          · have e7 : q.2 k = 7 := by omega
            rw [e7]; exact pw_f (by decide) (pw_s rfl)
      refine pw_be leaf (pw_gd (fy_ix_nI (by omega) (by decide)) (pw_bl ?_))
      rw [nI_clamp (by omega)]
      have step : ∀ z : Int32, z = nI (pu_vl V (q.2 k)).2 → pw (X5_evaluate_75 (fun S v1 v2 v3 v4 => X5_evaluate_5 fu S v1 v2 v3 v4) (fy_sI S 18 (pu_st (pu_vl V) pu_vj q.2 k).length (nI (pu_vl V (q.2 k)).1)) id (nI rd) (nI (pu_st (pu_vl V) pu_vj q.2 k).length) (nI k) z (nI (pu_st (pu_vl V) pu_vj q.2 k).length)) (fun S' => pu_ly S' (pu_st (pu_vl V) pu_vj q.2 q.1) ∧ pu_bd (M + q.1) (pu_st (pu_vl V) pu_vj q.2 q.1) ∧ fr (fun i _ => i = 18 ∨ i = 19) S S') := by
        intro z hz
        rw [X5_evaluate_75, hz, nI_clamp (by omega)]
        refine pw_gd (fy_ix_nI (by omega) (by decide)) (pw_bl (pw_bl (pw_bl ?_)))
        rw [nI_1, nI_1]
        refine pw_m (ih _ (by omega) (by omega) (pu_l_c hl (by rw [rd_n (by omega), rd_n (by omega)]) (fun t _ => by rw [rd_n (by omega), rd_n (by omega)])) (fun c hcn => by rw [rd_n (by omega), rd_n (by omega)]; exact hv c hcn) ⟨by rw [rd_n (by omega), rd_y], by rw [rd_y], pu_ly_c (n := (pu_st (pu_vl V) pu_vj q.2 k).length) (fun i t h ht => by rw [rd_n (by omega), rd_n (by omega)]) (Nat.le_refl _) hy⟩ (fun x hx => ?_)) (fun S' h' => ⟨h'.1, h'.2.1, fr_t (fr_I (fr_I fr_r (.inl rfl)) (.inr rfl)) h'.2.2⟩)
        rcases List.mem_cons.mp hx with e | e
        · rw [e]
          unfold pu_vl
          split
          · have := hV (q.2 k) (by omega)
            show V (q.2 k) ≤ _
            omega
          · split
            · exact Nat.zero_le _
            · show 10000 ≤ _
              omega
        · have := hb x e
          omega
      by_cases h6 : q.2 k < 6
      · refine pw_f (nI_ge (b := 6) h6 (by decide)) (step _ ?_)
        rw [pu_sh1 _ (by omega), pu_vl, if_pos h6]
      · refine pw_t (nI_le (a := 6) (by omega) (by omega)) (step _ ?_)
        rw [pu_vl, if_neg h6]
        split <;> rfl
    · have h2 := (q3 k hkq).2 (by omega)
      rw [← pu_st_dp (lf := pu_vl V) (jn := pu_vj)] at h2
      obtain ⟨r, l, t, e⟩ := pu_len2 h2
      have ih := ih (k + 1) fu
      rw [pu_st_j h8 e] at ih
      rw [e] at hy hb hlen ⊢
      have hlen : t.length + 2 ≤ k := hlen
      have o89 : q.2 k = 8 ∨ q.2 k = 9 := by omega
      have hl1 := hb l (by simp)
      have hr1 := hb r (by simp)
      have step : pw (X5_evaluate_82 (fun S v1 v2 v3 v4 => X5_evaluate_5 fu S v1 v2 v3 v4) S id (nI rd) (nI (r :: l :: t).length) (nI k) (nI (q.2 k))) (fun S' => pu_ly S' (pu_st (pu_vl V) pu_vj q.2 q.1) ∧ pu_bd (M + q.1) (pu_st (pu_vl V) pu_vj q.2 q.1) ∧ fr (fun i _ => i = 18 ∨ i = 19) S S') := by
        rw [X5_evaluate_82, show (r :: l :: t).length = t.length + 1 + 1 from rfl]
        refine pw_f (nI_nlt (b := 2) (by omega) (by omega)) (pw_bl ?_)
        rw [pk_m1, nI_pred, nI_1]
        refine pw_bd (X_jp (l := l) (r := r) o89 (by omega) hy.2.2.1 hy.2.2.2.1 hy.1 hy.2.1 (by omega) (by omega)) (fun S1 s1 => pw_bl ?_)
        refine pw_m (ih S1 (by omega) (by omega) (pu_l_c hl (s1.2.2 _ _ (by omega)).1 (fun t _ => (s1.2.2 _ _ (by omega)).1)) (fun c hcn => by rw [(s1.2.2 _ _ (by omega)).1]; exact hv c hcn) ⟨s1.1, s1.2.1, pu_ly_c (n := t.length) (fun i x h hx => (s1.2.2 _ _ (by omega)).1) (Nat.le_refl _) hy.2.2.2.2⟩ (fun x hx => ?_)) (fun S' h' => ⟨h'.1, h'.2.1, fr_t (fr_m s1.2.2 (fun i k h => h.1)) h'.2.2⟩)
        rcases List.mem_cons.mp hx with e | e
        · rw [e]
          exact pu_vj_le hl1 hr1
        · have := hb x (by simp [e])
          omega
      rcases o89 with e | e
      · rw [e] at step ⊢
        exact pw_f (by decide) (pw_t rfl step)
      · rw [e] at step ⊢
        exact pw_t rfl step
/-- the value of a formula, and the states that its best play leads to -/
def pu_vv (V : Nat → Nat) (q : pu_q) : pu_v := (pu_st (pu_vl V) pu_vj q.2 q.1).headD (0, 0)
theorem X_eval {S : fy_S} {id n rd M : Nat} {V : Nat → Nat} {q : pu_q} (hn : n ≤ 6) (hq : pu_ok n q) (hr : rd ≤ 12) (hM : 10000 ≤ M) (hM2 : M < 2 ^ 20) (hV : ∀ c, c < n → V c ≤ M) (hid : 38 ≤ id) (hl : pu_l (S.1 (id + 1)) (S.1 id 1) q) (hv : ∀ c, c < n → S.1 17 (rd * 6 + c) = nI (V c)) : pw (X5_evaluate S id (nI rd)) (fun S' => S'.1 18 0 = nI (pu_vv V q).1 ∧ S'.1 19 0 = nI (pu_vv V q).2 ∧ (pu_vv V q).1 ≤ M + 40 ∧ fr (fun i _ => i = 18 ∨ i = 19) S S') := by
  refine pw_m (X_eval_l hn hq hr hM hM2 hV hid q.1 0 fy_fu S (by omega) (fz_fu (by have := hq.2.1; omega)) hl hv trivial (fun x hx => by cases hx)) (fun S' h' => ?_)
  obtain ⟨r, e⟩ := pu_len1 ((pu_st_dp (lf := pu_vl V) (jn := pu_vj) q.1).trans hq.2.2.2)
  unfold pu_vv
  rw [e] at h' ⊢
  have hb := h'.2.1 r (by simp)
  have := hq.2.1
  exact ⟨h'.1.1, h'.1.2.1, by show r.1 ≤ _; omega, h'.2.2⟩
