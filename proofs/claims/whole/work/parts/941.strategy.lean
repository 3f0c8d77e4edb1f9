/-! strategy: what is won is won soon -/
def pu_sn (M : Nat) (v : Nat) : Prop := v < 10000 → v ≤ M
theorem pu_mnx (a b : Nat) : (pu_mn a b = a ∧ pu_mx a b = b ∧ a ≤ b) ∨ (pu_mn a b = b ∧ pu_mx a b = a ∧ b ≤ a) := by
  unfold pu_mn pu_mx
  by_cases h : b < a
  · rw [if_pos h, if_neg (by omega)]; omega
  · rw [if_neg h]
    by_cases h2 : a < b
    · rw [if_pos h2]; omega
    · rw [if_neg h2]; omega
theorem pu_vj_sn {o M : Nat} {l r : pu_v} (hl : pu_sn M l.1) (hr : pu_sn M r.1) : pu_sn (M + 1) (pu_vj o l r).1 := by
  unfold pu_sn at *
  have hm := pu_mnx l.1 r.1
  unfold pu_vj
  by_cases ho : o = 9
  · rw [if_pos ho]
    show (if 10000 ≤ pu_mn l.1 r.1 then _ else _) + 1 < 10000 → (if 10000 ≤ pu_mn l.1 r.1 then _ else _) + 1 ≤ M + 1
    by_cases h : 10000 ≤ pu_mn l.1 r.1
    · rw [if_pos h]; omega
    · rw [if_neg h]; omega
  · rw [if_neg ho]
    show (if 10000 ≤ pu_mn l.1 r.1 then _ else _) + 1 < 10000 → (if 10000 ≤ pu_mn l.1 r.1 then _ else _) + 1 ≤ M + 1
    by_cases h : 10000 ≤ pu_mn l.1 r.1
    · rw [if_pos h]; omega
    · rw [if_neg h]; omega
theorem pu_nd_sn {V : Nat → Nat} {n M : Nat} {q : pu_q} (hq : pu_ok n q) (hV : ∀ c, c < n → pu_sn M (V c)) : ∀ k, k < q.1 → pu_sn (M + k) (pu_nd V q.2 k).1 := by
  intro k
  induction k using Nat.strongRecOn with
  | ind k ih =>
    intro hk
    by_cases h : q.2 k < 8
    · rw [pu_nd_l h]
      have := (hq.2.2.1 k hk).1
      unfold pu_vl
      split
      · intro h2
        have := hV (q.2 k) (by omega) h2
        show V (q.2 k) ≤ _
        omega
      · split
        · intro _; exact Nat.zero_le _
        · intro h2; exact absurd h2 (by show ¬ 10000 < 10000; omega)
    · obtain ⟨g1, g2, -⟩ := pu_nd_j (V := V) (pu_ok_va hq) hk h
      rw [g2]
      have i1 := ih (pu_lo q.2 k) (by omega) (by omega)
      have i2 := ih (k - 1) (by omega) (by omega)
      have := pu_vj_sn (o := q.2 k) (M := M + (k - 1)) (l := pu_nd V q.2 (pu_lo q.2 k)) (r := pu_nd V q.2 (k - 1)) (fun h => by have := i1 h; omega) i2
      intro h3
      have := this h3
      omega
theorem pu_rk_sn {A : pu_A} {w : pu_q} (hA : pu_wA A) (hw : w.1 ≤ 12) (hf : pu_fit w A.2.1 w.1 = true) : ∀ d, d ≤ w.1 → ∀ p, p < A.1 → pu_sn (41 * d) (pu_rk A w d p) := by
  intro d
  induction d with
  | zero =>
    intro _ p _ h
    rw [pu_rk] at h ⊢
    split at h
    · rename_i hb; rw [if_pos hb]; exact Nat.zero_le _
    · omega
  | succ d ih =>
    intro hd p hp h
    have ih := ih (by omega)
    have hlt := pu_fit_t hf (w.1 - 1 - d) (by omega)
    have hu : pu_u A (1 + 3 * p + w.2 (w.1 - 1 - d)) := pu_u_m hp hlt hA.2.2.2.1
    have hm3 := hA.2.2.2.1
    have hn6 := hA.2.1
    have hq := hA.2.2.2.2.2.2 _ (by omega) hu
    have q1 := hq.1
    have q40 := hq.2.1
    have := pu_nd_sn hq ih ((A.2.2.2.2 (1 + 3 * p + w.2 (w.1 - 1 - d))).1 - 1) (by omega)
    rw [pu_rk, pu_vv_nd q1] at h ⊢
    have := this (by omega)
    omega
