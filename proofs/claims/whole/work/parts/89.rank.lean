/-! rank and strategy: the class's evaluation of a formula -/
abbrev pu_v : Type := Nat × Nat
def pu_vl (V : Nat → Nat) (c : Nat) : pu_v := if c < 6 then (V c, 2 ^ c) else if c = 6 then (0, 0) else (10000, 0)
def pu_mn (a b : Nat) : Nat := if b < a then b else a
def pu_mx (a b : Nat) : Nat := if a < b then b else a
def pu_vj (o : Nat) (l r : pu_v) : pu_v := if o = 9 then ((if 10000 ≤ pu_mn l.1 r.1 then pu_mn l.1 r.1 else pu_mx l.1 r.1) + 1, l.2 ||| r.2) else ((if 10000 ≤ pu_mn l.1 r.1 then pu_mx l.1 r.1 else pu_mn l.1 r.1) + 1, if r.1 < l.1 then r.2 else l.2)
def pu_ly (S : fy_S) : List pu_v → Prop
  | [] => True
  | x :: t => S.1 18 t.length = nI x.1 ∧ S.1 19 t.length = nI x.2 ∧ pu_ly S t
theorem pu_ly_c {S S' : fy_S} {n : Nat} (f : ∀ i k, (i = 18 ∨ i = 19) → k < n → S'.1 i k = S.1 i k) : ∀ {l : List pu_v}, l.length ≤ n → pu_ly S l → pu_ly S' l := by
  intro l
  induction l with
  | nil => intro _ _; trivial
  | cons x t ih =>
    intro hl h
    have hl : t.length + 1 ≤ n := hl
    exact ⟨by rw [f _ _ (.inl rfl) (by omega)]; exact h.1, by rw [f _ _ (.inr rfl) (by omega)]; exact h.2.1, ih (by omega) h.2.2⟩
def pu_bd (M : Nat) (l : List pu_v) : Prop := ∀ x, x ∈ l → x.1 ≤ M
theorem pu_mn_le {a b M : Nat} (ha : a ≤ M) (hb : b ≤ M) : pu_mn a b ≤ M ∧ pu_mx a b ≤ M := by
  unfold pu_mn pu_mx
  constructor
  · split <;> omega
  · split <;> omega
theorem pu_vj_le {o M : Nat} {l r : pu_v} (hl : l.1 ≤ M) (hr : r.1 ≤ M) : (pu_vj o l r).1 ≤ M + 1 := by
  have := pu_mn_le hl hr
  unfold pu_vj
  split
  · show (if _ then _ else _) + 1 ≤ M + 1
    split <;> omega
  · show (if _ then _ else _) + 1 ≤ M + 1
    split <;> omega
theorem X_jp {S : fy_S} {o L : Nat} {l r : pu_v} (ho : o = 8 ∨ o = 9) (hL : L + 1 < 40) (h1 : S.1 18 L = nI l.1) (h2 : S.1 19 L = nI l.2) (h3 : S.1 18 (L + 1) = nI r.1) (h4 : S.1 19 (L + 1) = nI r.2) (hl : l.1 < 2 ^ 30) (hr : r.1 < 2 ^ 30) : pw (X5_joinParts S (nI o) (nI L) (nI (L + 1))) (fun S' => S'.1 18 L = nI (pu_vj o l r).1 ∧ S'.1 19 L = nI (pu_vj o l r).2 ∧ fr (fun i k => (i = 18 ∨ i = 19) ∧ k = L) S S') := by
  have hM := pu_mn_le (Nat.le_of_lt hl) (Nat.le_of_lt hr)
  have c1 : (if nI r.1 < nI l.1 then nI r.1 else nI l.1) = nI (pu_mn l.1 r.1) := by
    unfold pu_mn
    by_cases e : r.1 < l.1
    · rw [if_pos (nI_lt e (by omega)), if_pos e]
    · rw [if_neg (nI_nlt (by omega) (by omega)), if_neg e]
  have c2 : (if nI l.1 < nI r.1 then nI r.1 else nI l.1) = nI (pu_mx l.1 r.1) := by
    unfold pu_mx
    by_cases e : l.1 < r.1
    · rw [if_pos (nI_lt e (by omega)), if_pos e]
    · rw [if_neg (nI_nlt (by omega) (by omega)), if_neg e]
  rw [X5_joinParts, nI_clamp (by omega), nI_clamp (by omega), h1, h3, c1, c2]
  refine pw_gd (fy_ix_nI (by omega) (by decide)) (pw_gd (fy_ix_nI (by omega) (by decide)) (pw_bl (pw_gd (fy_ix_nI (by omega) (by decide)) (pw_gd (fy_ix_nI (by omega) (by decide)) (pw_bl ?_)))))
  have fin : ∀ (z : Int32) (b : Bool), (z = 0 ↔ b = false) → b = decide (10000 ≤ pu_mn l.1 r.1) → pw (X5_joinParts_47 S (nI o) (nI L) (nI (L + 1)) (nI (pu_mn l.1 r.1)) (nI (pu_mx l.1 r.1)) z) (fun S' => S'.1 18 L = nI (pu_vj o l r).1 ∧ S'.1 19 L = nI (pu_vj o l r).2 ∧ fr (fun i k => (i = 18 ∨ i = 19) ∧ k = L) S S') := by
    intro z b hz hb
    rw [X5_joinParts_47, nI_clamp (by omega), nI_clamp (by omega)]
    rcases ho with e | e
    · subst e
      refine pw_f (by decide) (pw_gd (fy_ix_nI (by omega) (by decide)) (pw_gd (fy_ix_nI (by omega) (by decide)) ?_))
      have last : ∀ S1 : fy_S, S1.1 19 L = nI (if r.1 < l.1 then r.2 else l.2) → fr (fun i k => (i = 18 ∨ i = 19) ∧ k = L) S S1 → pw (X5_joinParts_120 S1 (nI L) (nI (pu_mn l.1 r.1)) (nI (pu_mx l.1 r.1)) z) (fun S' => S'.1 18 L = nI (pu_vj 8 l r).1 ∧ S'.1 19 L = nI (pu_vj 8 l r).2 ∧ fr (fun i k => (i = 18 ∨ i = 19) ∧ k = L) S S') := by
        intro S1 e1 f1
        have ev : (pu_vj 8 l r) = ((if 10000 ≤ pu_mn l.1 r.1 then pu_mx l.1 r.1 else pu_mn l.1 r.1) + 1, if r.1 < l.1 then r.2 else l.2) := by unfold pu_vj; rw [if_neg (by decide)]
        rw [X5_joinParts_120, ev]
        by_cases e : 10000 ≤ pu_mn l.1 r.1
        · have : b = true := by rw [hb]; exact decide_eq_true e
          refine pw_f (fun h => by rw [hz.mp h] at this; cases this) ?_
          rw [X5_joinParts_137, nI_clamp (by omega), nI_1]
          refine pw_gd (fy_ix_nI (by omega) (by decide)) (pw_bl (pw_s ⟨?_, ?_, fr_I f1 ⟨.inl rfl, rfl⟩⟩))
          · rw [rd_y, if_pos e]
          · rw [rd_n (by omega)]; exact e1
        · have : b = false := by rw [hb]; exact decide_eq_false e
          refine pw_t (hz.mpr this) ?_
          rw [X5_joinParts_137, nI_clamp (by omega), nI_1]
          refine pw_gd (fy_ix_nI (by omega) (by decide)) (pw_bl (pw_s ⟨?_, ?_, fr_I f1 ⟨.inl rfl, rfl⟩⟩))
          · rw [rd_y, if_neg e]
          · rw [rd_n (by omega)]; exact e1
      rw [h1, h3, h4]
      by_cases e : r.1 < l.1
      · refine pw_f (nI_ge e (by omega)) (pw_gd (fy_ix_nI (by omega) (by decide)) (pw_gd (fy_ix_nI (by omega) (by decide)) (pw_bl (last _ ?_ (fr_I fr_r ⟨.inr rfl, rfl⟩)))))
        rw [rd_y, if_pos e]
      · refine pw_t (nI_le (by omega) (by omega)) (last _ ?_ fr_r)
        rw [if_neg e]; exact h2
    · subst e
      have ev : (pu_vj 9 l r) = ((if 10000 ≤ pu_mn l.1 r.1 then pu_mn l.1 r.1 else pu_mx l.1 r.1) + 1, l.2 ||| r.2) := by unfold pu_vj; rw [if_pos rfl]
      rw [ev, h2, h4, fa_or]
      refine pw_t rfl (pw_gd (fy_ix_nI (by omega) (by decide)) (pw_gd (fy_ix_nI (by omega) (by decide)) (pw_gd (fy_ix_nI (by omega) (by decide)) (pw_bl ?_))))
      by_cases e : 10000 ≤ pu_mn l.1 r.1
      · have : b = true := by rw [hb]; exact decide_eq_true e
        refine pw_f (fun h => by rw [hz.mp h] at this; cases this) ?_
        rw [X5_joinParts_87, nI_clamp (by omega), nI_1]
        refine pw_gd (fy_ix_nI (by omega) (by decide)) (pw_bl (pw_s ⟨?_, ?_, fr_I (fr_I fr_r ⟨.inr rfl, rfl⟩) ⟨.inl rfl, rfl⟩⟩))
        · rw [rd_y, if_pos e]
        · rw [rd_n (by omega), rd_y]
      · have : b = false := by rw [hb]; exact decide_eq_false e
        refine pw_t (hz.mpr this) ?_
        rw [X5_joinParts_87, nI_clamp (by omega), nI_1]
        refine pw_gd (fy_ix_nI (by omega) (by decide)) (pw_bl (pw_s ⟨?_, ?_, fr_I (fr_I fr_r ⟨.inr rfl, rfl⟩) ⟨.inl rfl, rfl⟩⟩))
        · rw [rd_y, if_neg e]
        · rw [rd_n (by omega), rd_y]
  by_cases e : 10000 ≤ pu_mn l.1 r.1
  · exact pw_f (show ¬ nI (pu_mn l.1 r.1) < 10000 from nI_nlt (b := 10000) e (by omega)) (fin 1 true (by decide) (decide_eq_true e).symm)
  · exact pw_t (show nI (pu_mn l.1 r.1) < 10000 from nI_lt (b := 10000) (by omega) (by decide)) (fin 0 false (by decide) (decide_eq_false e).symm)
theorem X_node {S : fy_S} {id k : Nat} {q : pu_q} (h : pu_l (S.1 (id + 1)) (S.1 id 1) q) (hk : k < q.1) (hq : q.1 ≤ 40) : X2_nodeAt S id (nI k) = some (nI (q.2 k)) := by
  rw [X2_nodeAt, h.1]
  refine pw_eq (pw_f (nI_pos (by omega)) (pw_f (nI_ge hk (by omega)) (pw_gd (fy_ix_nI (by omega) (by decide)) (pw_s ?_))))
  rw [nI_clamp (by omega)]
  exact h.2 k hk
theorem X_valAt {S : fy_S} {rd p : Nat} (hr : rd ≤ 12) (hp : p < 6) : X5_valueAt S (nI rd) (nI p) = some (S.1 17 (rd * 6 + p)) := by
  have hpos : X5_isPosition S (nI rd) (nI p) = some 1 := by
    rw [X5_isPosition]
    exact pw_eq (pw_f (nI_pos (by omega)) (pw_f (nI_nlt (a := 12) hr (by decide)) (pw_f (nI_pos (by omega)) (pw_f (nI_ge (b := 6) hp (by decide)) (pw_s rfl)))))
  rw [X5_valueAt, show nI rd * (6 : Int32) = nI (rd * 6) from pk_mul rd 6, nI_add]
  refine pw_eq (pw_be hpos (pw_f (by decide) (pw_gd (fy_ix_nI (by omega) (by decide)) (pw_s ?_))))
  rw [nI_clamp (by omega)]
theorem X_setVal {S : fy_S} {rd p : Nat} {v : Int32} (hr : rd ≤ 12) (hp : p < 6) : X5_setValue S (nI rd) (nI p) v = some (fy_sI S 17 (rd * 6 + p) v) := by
  have hpos : X5_isPosition S (nI rd) (nI p) = some 1 := by
    rw [X5_isPosition]
    exact pw_eq (pw_f (nI_pos (by omega)) (pw_f (nI_nlt (a := 12) hr (by decide)) (pw_f (nI_pos (by omega)) (pw_f (nI_ge (b := 6) hp (by decide)) (pw_s rfl)))))
  rw [X5_setValue, show nI rd * (6 : Int32) = nI (rd * 6) from pk_mul rd 6, nI_add]
  refine pw_eq (pw_be hpos (pw_f (by decide) (pw_gd (fy_ix_nI (by omega) (by decide)) (pw_bl (pw_s ?_)))))
  rw [nI_clamp (by omega)]
