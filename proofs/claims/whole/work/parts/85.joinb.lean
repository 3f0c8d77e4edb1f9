/-! combine: the class -/
theorem pu_byte {n : Nat} (h : n < 128) : vp_nar .byte ((nI n).toInt8.toInt32) = nI n := ez_byte h
theorem pu_sh_lt {o c : Nat} (ho : o ≤ 6) (h : c < 10) : pu_sh o c < 128 := by unfold pu_sh; split <;> omega
theorem X_adds_l {id id' n o z : Nat} {q : pu_q} (hn : n ≤ 6) (ho : o ≤ 6) (hq : pu_ok n q) (hz : z + q.1 ≤ 40) (h1 : id' ≠ id) (h2 : id' ≠ id + 1) (h3 : id' + 1 ≠ id) : ∀ d k fu S, k + d = q.1 → d < fu → S.1 id 1 = nI (z + k) → pu_l (S.1 (id' + 1)) (S.1 id' 1) q → (∀ t, t < k → S.1 (id + 1) (z + t) = nI (pu_sh o (q.2 t))) → pw (X2_addShifted_2 fu S id id' (nI o) (nI k)) (fun S' => S'.1 id 1 = nI (z + q.1) ∧ (∀ t, t < q.1 → S'.1 (id + 1) (z + t) = nI (pu_sh o (q.2 t))) ∧ fr (fun i t => (i = id ∧ t = 1) ∨ (i = id + 1 ∧ z ≤ t)) S S') := by
  intro d
  induction d with
  | zero =>
    intro k fu S hk hfu hs hl hd
    obtain ⟨fu, rfl⟩ : ∃ z, fu = z + 1 := ⟨fu - 1, by omega⟩
    have : k = q.1 := by omega
    subst this
    rw [X2_addShifted_2, hl.1]
    exact pw_t (nI_le (Nat.le_refl _) (by omega)) (pw_s ⟨hs, hd, fr_r⟩)
  | succ d ih =>
    intro k fu S hk hfu hs hl hd
    obtain ⟨fu, rfl⟩ : ∃ z, fu = z + 1 := ⟨fu - 1, by omega⟩
    have hkq : k < q.1 := by omega
    have hc := pu_ok10 hn hq hkq
    have step : pw (X2_addShifted_51 (fun S v0 v1 v2 v3 => X2_addShifted_2 fu S v0 v1 v2 v3) S id id' (nI o) (nI k) (nI (pu_sh o (q.2 k))) (nI (z + k)) (id + 1)) (fun S' => S'.1 id 1 = nI (z + q.1) ∧ (∀ t, t < q.1 → S'.1 (id + 1) (z + t) = nI (pu_sh o (q.2 t))) ∧ fr (fun i t => (i = id ∧ t = 1) ∨ (i = id + 1 ∧ z ≤ t)) S S') := by
      rw [X2_addShifted_51]
      refine pw_gd (fy_ix_nI (by omega) (by decide)) (pw_bl (pw_bl (pw_bl ?_)))
      rw [nI_clamp (by omega), pu_byte (pu_sh_lt ho hc), rd_n (by omega), hs, nI_1, nI_1]
      refine pw_m (ih (k + 1) fu _ (by omega) (by omega) (by rw [rd_y]; rfl) (pu_l_c hl (by rw [rd_n (by omega), rd_n (by omega)]) (fun t _ => by rw [rd_n (by omega), rd_n (by omega)])) (fun t ht => ?_)) (fun S' h' => ⟨h'.1, h'.2.1, fr_t (fr_I (fr_I fr_r (.inr ⟨rfl, by omega⟩)) (.inl ⟨rfl, rfl⟩)) h'.2.2⟩)
      by_cases e : t = k
      · rw [e, rd_n (by omega), rd_y]
      · rw [rd_n (by omega), rd_n (by omega)]; exact hd t (by omega)
    rw [X2_addShifted_2, hl.1, hs]
    refine pw_f (nI_ge hkq (by omega)) (pw_f (nI_ge (b := 40) (by omega) (by decide)) (pw_gd (fy_ix_nI (by omega) (by decide)) (pw_bl ?_)))
    rw [nI_clamp (by omega), hl.2 k hkq]
    by_cases h6 : q.2 k < 6
    · refine pw_f (nI_ge (b := 6) h6 (by decide)) ?_
      rw [nI_add, show q.2 k + o = pu_sh o (q.2 k) by unfold pu_sh; rw [if_pos h6]]
      exact step
    · refine pw_t (nI_le (a := 6) (by omega) (by omega)) ?_
      have e : pu_sh o (q.2 k) = q.2 k := by unfold pu_sh; rw [if_neg h6]
      rw [e] at step
      exact step
theorem X_adds {S : fy_S} {id id' n o z : Nat} {q : pu_q} (hn : n ≤ 6) (ho : o ≤ 6) (hq : pu_ok n q) (hz : z + q.1 ≤ 40) (h1 : id' ≠ id) (h2 : id' ≠ id + 1) (h3 : id' + 1 ≠ id) (hs : S.1 id 1 = nI z) (hl : pu_l (S.1 (id' + 1)) (S.1 id' 1) q) : pw (X2_addShifted S id id' (nI o)) (fun S' => S'.1 id 1 = nI (z + q.1) ∧ (∀ t, t < q.1 → S'.1 (id + 1) (z + t) = nI (pu_sh o (q.2 t))) ∧ fr (fun i t => (i = id ∧ t = 1) ∨ (i = id + 1 ∧ z ≤ t)) S S') :=
  X_adds_l hn ho hq hz h1 h2 h3 q.1 0 fy_fu S (by omega) (fz_fu (by omega)) hs hl (fun t ht => absurd ht (Nat.not_lt_zero t))
theorem X_shF {S : fy_S} {id id' n o : Nat} {q : pu_q} (hno : n + o ≤ 6) (hq : pu_ok n q) (h1 : id' ≠ id) (h2 : id' ≠ id + 1) (h3 : id' + 1 ≠ id) (h : pu_XF S id' q) : pw (X2_becomeShifted S id id' (nI o)) (fun S' => pu_XF S' id (pu_sq o q) ∧ fr (fun i _ => i = id ∨ i = id + 1) S S') := by
  rw [X2_becomeShifted]
  refine pw_bl (pw_bd (X_adds (z := 0) (by omega) (by omega) hq (by have := hq.2.1; omega) h1 h2 h3 rd_y (pu_l_c h.1 (by rw [rd_n (by omega)]) (fun t _ => by rw [rd_n (by omega)]))) (fun S1 s1 => pw_be (X_shT (by omega)) (pw_bl (pw_s ⟨⟨⟨?_, fun t ht => ?_⟩, ?_⟩, fr_L (fr_t (fr_I fr_r (.inl rfl)) (fr_m s1.2.2 (fun i t h => by omega))) (.inl rfl)⟩))))
  · rw [rd_L1, s1.1, Nat.zero_add]; rfl
  · have := s1.2.1 t ht
    rw [Nat.zero_add] at this
    rw [rd_L1]; exact this
  · rw [rd_Ly, (s1.2.2 _ _ (by omega)).2, rd_I2, h.2, pu_sq_T hno hq]
theorem X_joT {S : fy_S} {op : Nat} (hop : op = 8 ∨ op = 9) {t u : Int64} : X9_joinTables S (nI op) t u = some (pu_jt op t u) := by
  rcases hop with rfl | rfl
  · rw [X9_joinTables]; rfl
  · rw [X9_joinTables]; rfl
theorem X_joF {S : fy_S} {id i1 i2 n o op : Nat} {p q : pu_q} (hno : n + o ≤ 6) (hop : op = 8 ∨ op = 9) (hp : pu_ok o p) (hq : pu_ok n q) (h40 : p.1 + q.1 + 1 ≤ 40) (h1 : i1 ≠ id) (h2 : i1 ≠ id + 1) (h3 : i1 + 1 ≠ id) (g1 : i2 ≠ id) (g2 : i2 ≠ id + 1) (g3 : i2 + 1 ≠ id) (hP : pu_XF S i1 p) (hQ : pu_XF S i2 q) : pw (X2_becomeJoin S id i1 i2 (nI o) (nI op)) (fun S' => pu_XF S' id (pu_jq o op p q) ∧ fr (fun i _ => i = id ∨ i = id + 1) S S') := by
  rw [X2_becomeJoin, hP.1.1, hQ.1.1, nI_add, nI_1]
  refine pw_t (nI_le (b := 40) h40 (by decide)) (pw_bl (pw_bd (X_adds (o := 0) (z := 0) (by omega) (by omega) hp (by omega) h1 h2 h3 rd_y (pu_l_c hP.1 (by rw [rd_n (by omega)]) (fun t _ => by rw [rd_n (by omega)]))) (fun S1 s1 => pw_bd (X_adds (z := 0 + p.1) (by omega) (by omega) hq (by omega) g1 g2 g3 s1.1 (pu_l_c hQ.1 (by rw [(s1.2.2 _ _ (by omega)).1, rd_n (by omega)]) (fun t _ => by rw [(s1.2.2 _ _ (by omega)).1, rd_n (by omega)]))) (fun S2 s2 => ?_))))
  rw [Nat.zero_add] at s2
  rw [s2.1]
  have hop2 : op < 128 := by omega
  refine pw_gd (fy_ix_nI (by omega) (by decide)) (pw_bl (pw_bl ?_))
  rw [nI_clamp (by omega), pu_byte hop2, rd_n (by omega), s2.1, nI_1]
  refine pw_be (X_shT (by omega)) (pw_be (X_joT hop) (pw_bl (pw_s ⟨⟨⟨?_, fun t ht => ?_⟩, ?_⟩, ?_⟩)))
  · rw [rd_L1, rd_y]; rfl
  · have ht : t < p.1 + q.1 + 1 := ht
    rw [rd_L1, rd_n (by omega)]
    show _ = nI (if t < p.1 then p.2 t else if t < p.1 + q.1 then pu_sh o (q.2 (t - p.1)) else op)
    by_cases e : t = p.1 + q.1
    · rw [e, rd_y, if_neg (by omega), if_neg (by omega)]
    · rw [rd_n (by omega)]
      by_cases e1 : t < p.1
      · rw [if_pos e1, (s2.2.2 _ _ (by omega)).1]
        have := s1.2.1 t e1
        rw [Nat.zero_add] at this
        rw [this]
        unfold pu_sh
        split <;> rfl
      · rw [if_neg e1, if_pos (by omega)]
        have := s2.2.1 (t - p.1) (by omega)
        rw [show p.1 + (t - p.1) = t by omega] at this
        exact this
  · rw [rd_Ly, rd_I2, rd_I2, (s2.2.2 _ _ (by omega)).2, (s1.2.2 _ _ (by omega)).2, (s2.2.2 _ _ (by omega)).2, (s1.2.2 _ _ (by omega)).2, rd_I2, hP.2, hQ.2, pu_sq_T hno hq, pu_jq_T hno hop hp hq]
  · exact fr_L (fr_I (fr_I (fr_t (fr_t (fr_I fr_r (.inl rfl)) (fr_m s1.2.2 (fun i t h => by omega))) (fr_m s2.2.2 (fun i t h => by omega))) (.inr rfl)) (.inl rfl)) (.inl rfl)
def pu_jA (op : Nat) (A B : pu_A) : pu_A := (A.1 + B.1, A.2.1, A.2.2.1 + B.2.2.1 * 2 ^ A.1, A.2.2.2.1, fun j => if j = 0 then pu_jq A.1 op (A.2.2.2.2 0) (B.2.2.2.2 0) else if (j - 1) / 3 < A.1 then A.2.2.2.2 j else pu_sq A.1 (B.2.2.2.2 (j - 3 * A.1)))
theorem pu_jF0 : ∀ n, n < 7 → ∀ k, k < 7 - n → ∀ F, F < 2 ^ n → ∀ E, E < 2 ^ k → (nI F ||| (nI E <<< (nI n &&& 31))) = nI (F + E * 2 ^ n) ∧ F + E * 2 ^ n < 2 ^ (n + k) := by decide +kernel
theorem pu_jF (n : Nat) (hn : n < 7) (k : Nat) (hk : k < 7) (h : n + k ≤ 6) (F : Nat) (hF : F < 2 ^ n) (E : Nat) (hE : E < 2 ^ k) : (nI F ||| (nI E <<< (nI n &&& 31))) = nI (F + E * 2 ^ n) ∧ F + E * 2 ^ n < 2 ^ (n + k) := pu_jF0 n hn k (by omega) F hF E hE
theorem pu_jA_w {op : Nat} {A B : pu_A} (hop : op = 8 ∨ op = 9) (hA : pu_wA A) (hB : pu_wA B) (hm : A.2.1 = B.2.1) (h6 : A.1 + B.1 ≤ 6) (h40 : (A.2.2.2.2 0).1 + (B.2.2.2.2 0).1 + 1 ≤ 40) : pu_wA (pu_jA op A B) := by
  obtain ⟨w1, w2, w3, w4, w5, w6, w7⟩ := hA
  obtain ⟨v1, v2, v3, v4, v5, v6, v7⟩ := hB
  refine ⟨by show 1 ≤ A.1 + B.1; omega, h6, w3, w4, (pu_jF A.1 (by omega) B.1 (by omega) h6 _ w5 _ v5).2, w6, fun j hj hu => ?_⟩
  show pu_ok (A.1 + B.1) (if j = 0 then _ else if (j - 1) / 3 < A.1 then A.2.2.2.2 j else _)
  by_cases e : j = 0
  · rw [if_pos e]
    exact pu_jq_ok (by omega) hop (w7 0 (by decide) (.inl rfl)) (v7 0 (by decide) (.inl rfl)) h40
  · rw [if_neg e]
    rcases hu with e' | ⟨u1, u2, u3⟩
    · exact absurd e' e
    · have u2 : (j - 1) / 3 < A.1 + B.1 := u2
      have u3 : (j - 1) % 3 < A.2.1 := u3
      by_cases e1 : (j - 1) / 3 < A.1
      · rw [if_pos e1]; exact pu_ok_m (w7 j hj (.inr ⟨u1, e1, u3⟩)) (by omega)
      · rw [if_neg e1]
        exact pu_sq_ok (by omega) (v7 _ (by omega) (.inr ⟨by omega, by omega, by rw [← hm]; omega⟩))
theorem X_joM {a b : Nat} {A B : pu_A} {op : Nat} (ha : a < 7) (hb : b < 7) (hab : a ≠ b) (hA : pu_wA A) (hB : pu_wA B) (hm : A.2.1 = B.2.1) (h6 : A.1 + B.1 ≤ 6) : ∀ d p fu S, p + d = B.1 → d < fu → S.1 (38 + 41 * a) 3 = nI (A.1 + B.1) → S.1 (38 + 41 * a) 4 = nI A.2.1 → pu_XA S (38 + 41 * b) B → pu_dn S (38 + 41 * a) (A.1 + B.1) A.2.1 (A.1 + p) 0 (pu_jA op A B).2.2.2.2 → pw (X0_becomeJoin_60 fu S (38 + 41 * a) (38 + 41 * b) (nI A.1) (nI p)) (fun S' => pu_dn S' (38 + 41 * a) (A.1 + B.1) A.2.1 (A.1 + B.1) 0 (pu_jA op A B).2.2.2.2 ∧ fr (fun i _ => 38 + 41 * a + 5 ≤ i ∧ i < 38 + 41 * a + 41) S S') := by
  have hn6 : B.1 ≤ 6 := hB.2.1
  have hm3 : B.2.1 ≤ 3 := hB.2.2.2.1
  intro d
  induction d with
  | zero =>
    intro p fu S hp hfu h3 h4 hX hd
    obtain ⟨fu, rfl⟩ : ∃ z, fu = z + 1 := ⟨fu - 1, by omega⟩
    have : p = B.1 := by omega
    subst this
    rw [X0_becomeJoin_60, hX.1]
    exact pw_t (nI_le (Nat.le_refl _) (by omega)) (pw_s ⟨hd, fr_r⟩)
  | succ d ih =>
    intro p fu S hp hfu h3 h4 hX hd
    obtain ⟨fu, rfl⟩ : ∃ z, fu = z + 1 := ⟨fu - 1, by omega⟩
    have hpn : p < B.1 := by omega
    rw [X0_becomeJoin_60, hX.1]
    refine pw_f (nI_ge hpn (by omega)) ?_
    have inner : ∀ c x fu' S', x + c = A.2.1 → c < fu' → fr (fun i _ => 38 + 41 * a + 5 ≤ i ∧ i < 38 + 41 * a + 41) S S' → pu_dn S' (38 + 41 * a) (A.1 + B.1) A.2.1 (A.1 + p) x (pu_jA op A B).2.2.2.2 → pw (X0_becomeJoin_72 (fun S v0 v2 v4 v5 => X0_becomeJoin_60 fu S v0 v2 v4 v5) fu' S' (38 + 41 * a) (38 + 41 * b) (nI A.1) (nI p) (nI x)) (fun S' => pu_dn S' (38 + 41 * a) (A.1 + B.1) A.2.1 (A.1 + B.1) 0 (pu_jA op A B).2.2.2.2 ∧ fr (fun i _ => 38 + 41 * a + 5 ≤ i ∧ i < 38 + 41 * a + 41) S S') := by
      intro c
      induction c with
      | zero =>
        intro x fu' S' hx hfu' hf hd'
        obtain ⟨fu', rfl⟩ : ∃ z, fu' = z + 1 := ⟨fu' - 1, by omega⟩
        have : x = A.2.1 := by omega
        subst this
        rw [X0_becomeJoin_72, (hf _ _ (by omega)).1, h4]
        refine pw_t (nI_le (Nat.le_refl _) (by omega)) (pw_bl ?_)
        rw [nI_1]
        refine pw_m (ih (p + 1) fu S' (by omega) (by omega) (by rw [(hf _ _ (by omega)).1]; exact h3) (by rw [(hf _ _ (by omega)).1]; exact h4) (pu_XA_c hX (fun i k g1 g2 => hf i k (by omega))) (fun p' x' h1 h2 h3 => hd' p' x' h1 h2 (by omega))) (fun S'' h'' => ⟨h''.1, fr_t hf h''.2⟩)
      | succ c ih2 =>
        intro x fu' S' hx hfu' hf hd'
        obtain ⟨fu', rfl⟩ : ∃ z, fu' = z + 1 := ⟨fu' - 1, by omega⟩
        have hxm : x < A.2.1 := by omega
        have hX' := pu_XA_c hX (fun i k g1 g2 => hf i k (by omega))
        have hu : pu_u B (1 + 3 * p + x) := pu_u_m hpn (by omega) hm3
        rw [X0_becomeJoin_72, (hf _ _ (by omega)).1, h4, nI_add]
        refine pw_f (nI_ge hxm (by omega)) (pw_be (X_move ha (by rw [(hf _ _ (by omega)).1]; exact h3) (by rw [(hf _ _ (by omega)).1]; exact h4) (by omega) h6 hxm (by omega)) (pw_be (X_move hb hX'.1 hX'.2.1 hpn hn6 (by omega) hm3) ?_))
        refine pw_bd (X_shF (n := B.1) (by omega) (hB.2.2.2.2.2.2 _ (by omega) hu) (by omega) (by omega) (by omega) (hX'.2.2.2.2 _ (by omega) hu)) (fun S2 h2 => pw_bl ?_)
        rw [nI_1]
        refine ih2 (x + 1) fu' S2 (by omega) (by omega) (fr_t hf (fr_m h2.2 (fun i k h => by omega))) (fun p' x' g1 g2 g3 => ?_)
        by_cases e : p' = A.1 + p ∧ x' = x
        · rw [e.1, e.2]
          have : (pu_jA op A B).2.2.2.2 (1 + 3 * (A.1 + p) + x) = pu_sq A.1 (B.2.2.2.2 (1 + 3 * p + x)) := by
            show (if 1 + 3 * (A.1 + p) + x = 0 then _ else if (1 + 3 * (A.1 + p) + x - 1) / 3 < A.1 then _ else pu_sq A.1 (B.2.2.2.2 (1 + 3 * (A.1 + p) + x - 3 * A.1))) = _
            rw [if_neg (by omega), if_neg (by omega), show 1 + 3 * (A.1 + p) + x - 3 * A.1 = 1 + 3 * p + x by omega]
          rw [this]; exact h2.1
        · exact pu_XF_c (hd' p' x' g1 g2 (by omega)) (fun i k hi => h2.2 i k (by omega))
    exact inner A.2.1 0 fy_fu S (by omega) (fz_fu (by omega)) fr_r hd
theorem X_joA {S : fy_S} {a b : Nat} {A B : pu_A} {op : Nat} (ha : a < 6) (hb : b < 6) (hop : op = 8 ∨ op = 9) (hA : pu_wA A) (hB : pu_wA B) (hm : A.2.1 = B.2.1) (h6 : A.1 + B.1 ≤ 6) (h40 : (A.2.2.2.2 0).1 + (B.2.2.2.2 0).1 + 1 ≤ 40) (hXA : pu_XA S (38 + 41 * a) A) (hXB : pu_XA S (38 + 41 * b) B) : pw (X0_becomeJoin S (38 + 41 * 6) (38 + 41 * a) (38 + 41 * b) (nI op)) (fun S' => pu_XA S' (38 + 41 * 6) (pu_jA op A B) ∧ fr (fun i _ => 284 ≤ i) S S') := by
  have hm3 : A.2.1 ≤ 3 := hA.2.2.2.1
  have hu0 : pu_u A 0 := .inl rfl
  have hv0 : pu_u B 0 := .inl rfl
  rw [X0_becomeJoin, hXA.1, hXB.1]
  refine pw_bl ?_
  rw [nI_add]
  refine pw_bd X_shape' (fun S1 h1 => pw_bl ?_)
  obtain ⟨s1, s2, s3, s4⟩ := h1
  rw [(s4 _ _ (by omega)).1, (s4 _ _ (by omega)).1, hXA.2.2.1, hXB.2.2.1, (pu_jF A.1 (by omega) B.1 (by omega) h6 _ hA.2.2.2.2.1 _ hB.2.2.2.2.1).1]
  have f1 : fr (fun i k => i = 284 ∨ i = 285) S (fy_sI S1 (38 + 41 * 6) 5 (nI (A.2.2.1 + B.2.2.1 * 2 ^ A.1))) := fr_I (fr_m s4 (fun i k h => by omega)) (.inl rfl)
  have xa := pu_XA_c hXA (fun i k g1 g2 => f1 i k (by omega))
  have xb := pu_XA_c hXB (fun i k g1 g2 => f1 i k (by omega))
  refine pw_bd (X_joF (n := B.1) (by omega) hop (hA.2.2.2.2.2.2 0 (by decide) hu0) (hB.2.2.2.2.2.2 0 (by decide) hv0) h40 (by omega) (by omega) (by omega) (by omega) (by omega) (by omega) (xa.2.2.2.2 0 (by decide) hu0) (xb.2.2.2.2 0 (by decide) hv0)) (fun S2 h2 => ?_)
  have xa2 := pu_XA_c xa (fun i k g1 g2 => h2.2 i k (by omega))
  have xb2 := pu_XA_c xb (fun i k g1 g2 => h2.2 i k (by omega))
  have e3 : S2.1 (38 + 41 * 6) 3 = nI (A.1 + B.1) := by rw [(h2.2 _ _ (by omega)).1, rd_n (by omega)]; exact s1
  have e4 : S2.1 (38 + 41 * 6) 4 = nI A.2.1 := by rw [(h2.2 _ _ (by omega)).1, rd_n (by omega), s2]; exact hXA.2.1
  refine pw_bd (X_cpM (a := 6) (N := A.1 + B.1) (by omega) (by omega) (by omega) hA (by omega) h6 A.1 0 fy_fu S2 (by omega) (fz_fu (by omega)) e3 e4 xa2 (fun p' x' _ _ h => by omega)) (fun S3 h3 => ?_)
  have d3 : pu_dn S3 (38 + 41 * 6) (A.1 + B.1) A.2.1 (A.1 + 0) 0 (pu_jA op A B).2.2.2.2 := fun p' x' z1 z2 z3 => by
    have : (pu_jA op A B).2.2.2.2 (1 + 3 * p' + x') = A.2.2.2.2 (1 + 3 * p' + x') := by
      show (if 1 + 3 * p' + x' = 0 then _ else if (1 + 3 * p' + x' - 1) / 3 < A.1 then A.2.2.2.2 (1 + 3 * p' + x') else _) = _
      rw [if_neg (by omega), if_pos (by omega)]
    rw [this]
    exact h3.1 p' x' (by omega) z2 (by omega)
  refine pw_m (X_joM (a := 6) (by omega) (by omega) (by omega) hA hB hm h6 B.1 0 fy_fu S3 (by omega) (fz_fu (by omega)) (by rw [(h3.2 _ _ (by omega)).1]; exact e3) (by rw [(h3.2 _ _ (by omega)).1]; exact e4) (pu_XA_c xb2 (fun i k g1 g2 => h3.2 i k (by omega))) d3) (fun S4 h4 => ⟨⟨?_, ?_, ?_, fun x hx => ?_, fun j hj hu => ?_⟩, ?_⟩)
  · rw [(h4.2 _ _ (by omega)).1, (h3.2 _ _ (by omega)).1]; exact e3
  · rw [(h4.2 _ _ (by omega)).1, (h3.2 _ _ (by omega)).1]; exact e4
  · rw [(h4.2 _ _ (by omega)).1, (h3.2 _ _ (by omega)).1, (h2.2 _ _ (by omega)).1, rd_y]; rfl
  · rw [(h4.2 _ _ (by omega)).1, (h3.2 _ _ (by omega)).1, (h2.2 _ _ (by omega)).1, rd_n (by omega), s3 x hx]; exact hXA.2.2.2.1 x hx
  · rcases hu with e | ⟨z1, z2, z3⟩
    · subst e
      exact pu_XF_c (pu_XF_c h2.1 (fun i k hi => h3.2 i k (by omega))) (fun i k hi => h4.2 i k (by omega))
    · have z2 : (j - 1) / 3 < A.1 + B.1 := z2
      have := h4.1 ((j - 1) / 3) ((j - 1) % 3) z2 z3 (by omega)
      rw [show 1 + 3 * ((j - 1) / 3) + (j - 1) % 3 = j by omega] at this
      exact this
  · exact fr_t (fr_t (fr_t (fr_m f1 (fun i k h => by omega)) (fr_m h2.2 (fun i k h => by omega))) (fr_m h3.2 (fun i k h => by omega))) (fr_m h4.2 (fun i k h => by omega))
