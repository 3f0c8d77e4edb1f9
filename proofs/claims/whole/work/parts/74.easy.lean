/-! the easy calls -/
theorem ez_foundCost {SX SM : fy_S} (h : pu_I SX SM) : ∃ r : Int32, X9_foundCost SX = some r ∧ M_foundCost SM = some r := by
  obtain ⟨G, h⟩ := h
  refine ⟨nI G.2.2.2.2.2.1, ?_, ?_⟩
  · rw [X9_foundCost, h.2.1.2.2.2.2.2.1]
  · rw [M_foundCost, h.2.2.2.2.2.2.2.1]
theorem ez_index {S : fy_S} {f : Nat → Int32} {c : Int32} {q : pu_q} {v : Int32} {N : Nat} (h : pu_l f c q) (hq : q.1 ≤ N) (hN : N < 2 ^ 30) : fy_bd (M_isBetween S v (0 : Int32) (c - (1 : Int32))) (fun r8 => if r8 = 0 then some (-1 : Int32) else fy_gd (fy_ix v N) (some (f v.toNatClampNeg))) = some (if v < 0 then -1 else if nI q.1 ≤ v then -1 else nI (q.2 v.toNatClampNeg)) := by
  obtain ⟨h1, h2⟩ := h
  subst h1
  rw [M_isBetween]
  rcases pu_ixx v (n := q.1) (by omega) with ⟨p, hp, rfl⟩ | hb
  · have e : nI q.1 - 1 = nI (q.1 - 1) := by
      rw [show q.1 = (q.1 - 1) + 1 by omega, nI_pred]; rfl
    rw [e, if_neg (nI_pos (by omega)), if_neg (nI_nlt (by omega) (by omega)), fy_bd_s, if_neg (by decide), fy_gd_y (by omega) (by omega), if_neg (nI_ge hp (by omega)), nI_clamp (by omega), h2 p hp]
    rw [if_neg (nI_pos (by omega))]
  · by_cases h0 : v < 0
    · rw [if_pos h0, fy_bd_s, if_pos rfl, if_pos h0]
    · have hb := hb.resolve_left h0
      rw [if_neg h0, if_pos, fy_bd_s, if_pos rfl, if_neg h0, if_pos hb]
      obtain ⟨j, hj, rfl⟩ := nI_of h0
      have hb := (nI_leI (by omega) hj).mp hb
      rw [fa_lt, nI_toInt hj, show (1 : Int32) = nI 1 from rfl, pk_sub_toInt (by omega) (by decide)]
      omega
theorem ez_printed {SX SM : fy_S} (v : Int32) (h : pu_I SX SM) : ∃ r : Int32, X9_printed SX v = some r ∧ M_printed SM v = some r := by
  obtain ⟨G, hw, hX, hM⟩ := h
  have hlen : G.2.2.1.1 ≤ 120 := hw.2.2.1
  refine ⟨if v < 0 then -1 else if nI G.2.2.1.1 ≤ v then -1 else nI (G.2.2.1.2 v.toNatClampNeg), ?_, ?_⟩
  · rw [X9_printed, hX.2.2.1.1]
    rcases pu_ixx v (n := G.2.2.1.1) (by omega) with ⟨p, hp, rfl⟩ | hb
    · rw [if_neg (nI_pos (by omega)), if_neg (nI_ge hp (by omega)), if_neg (nI_pos (by omega)), if_neg (nI_ge hp (by omega)), fy_gd_y (by omega) (by decide), nI_clamp (by omega), hX.2.2.1.2 p hp]
    · by_cases h0 : v < 0
      · rw [if_pos h0, if_pos h0]
      · have hb := hb.resolve_left h0
        rw [if_neg h0, if_pos hb, if_neg h0, if_pos hb]
  · exact ez_index hM.2.2.1 (N := 200) (by omega) (by decide)
theorem ez_foundLetter {SX SM : fy_S} (v : Int32) (h : pu_I SX SM) : ∃ r : Int32, X9_foundLetter SX v = some r ∧ M_foundLetter SM v = some r := by
  obtain ⟨G, hw, hX, hM⟩ := h
  have hlen : G.2.2.2.2.1.1 ≤ 128 := hw.2.2.2.2.1
  have e128 : X_al (14 + 1) = 128 := by decide
  refine ⟨if v < 0 then -1 else if nI G.2.2.2.2.1.1 ≤ v then -1 else nI (G.2.2.2.2.1.2 v.toNatClampNeg), ?_, ?_⟩
  · rw [X9_foundLetter, hX.2.2.2.2.1.1, X8_letterAt, hX.2.2.2.2.1.1, e128]
    rcases pu_ixx v (n := G.2.2.2.2.1.1) (by omega) with ⟨p, hp, rfl⟩ | hb
    · rw [if_neg (nI_pos (by omega)), if_neg (nI_ge hp (by omega)), if_neg (nI_pos (by omega)), if_neg (nI_ge hp (by omega)), fy_gd_y (by omega) (by decide), nI_clamp (by omega), hX.2.2.2.2.1.2 p hp, if_neg (nI_pos (by omega)), if_neg (nI_ge hp (by omega))]
      rfl
    · by_cases h0 : v < 0
      · rw [if_pos h0, if_pos h0]
      · have hb := hb.resolve_left h0
        rw [if_neg h0, if_pos hb, if_neg h0, if_pos hb]
  · exact ez_index hM.2.2.2.2.1 (N := 4096) (by omega) (by decide)
theorem ez_byte {n : Nat} (h : n < 128) : vp_nar .byte ((nI n).toInt8.toInt32) = nI n := by
  rw [fa_byte_small h]
  exact fa_byte_small h
abbrev pu_O (mX mM : Option (fy_S × Int32)) : Prop := ∃ (SX' SM' : fy_S) (r : Int32), mX = some (SX', r) ∧ mM = some (SM', r) ∧ pu_I SX' SM'
theorem pu_both {mX mM : Option (fy_S × Int32)} (G : pu_G) (r : Int32) (hw : pu_W G) (hX : pw mX (fun q => q.2 = r ∧ pu_X q.1 G)) (hM : pw mM (fun q => q.2 = r ∧ pu_M q.1 G)) : pu_O mX mM := by
  obtain ⟨⟨SX, r1⟩, e1, e2, h1⟩ := hX
  obtain ⟨⟨SM, r2⟩, e3, e4, h2⟩ := hM
  dsimp only at e2 e4
  subst e2; subst e4
  exact ⟨SX, SM, _, e1, e3, G, hw, h1, h2⟩
theorem pu_same {mX mM : Option (fy_S × Int32)} {SX SM : fy_S} (r : Int32) (h : pu_I SX SM) (hX : mX = some (SX, r)) (hM : mM = some (SM, r)) : pu_O mX mM := ⟨SX, SM, r, hX, hM, h⟩
/-! parts of G that change -/
def pu_sA (G : pu_G) (a : Nat) (A : pu_A) : pu_G := (fun b => if b = a then A else G.1 b, G.2)
def pu_st_ (G : pu_G) (q : pu_q) : pu_G := (G.1, q, G.2.2)
def pu_sp (G : pu_G) (q : pu_q) : pu_G := (G.1, G.2.1, q, G.2.2.2)
def pu_sw (G : pu_G) (q : pu_q) : pu_G := (G.1, G.2.1, G.2.2.1, q, G.2.2.2.2)
def pu_sf (G : pu_G) (q : pu_q) (c : Nat) : pu_G := (G.1, G.2.1, G.2.2.1, G.2.2.2.1, q, c, G.2.2.2.2.2.2)
def pu_ps (q : pu_q) (v : Nat) : pu_q := (q.1 + 1, fun k => if k < q.1 then q.2 k else v)
theorem pu_X_w {S S' : fy_S} {G : pu_G} {q : pu_q} (h : pu_X S G) (f : fr (fun i k => i = 12 ∨ i = 13) S S') (hq : pu_l (S'.1 13) (S'.1 12 1) q) : pu_X S' (pu_sw G q) := by
  obtain ⟨h1, h2, h3, h4, h5, h6, h7, h8⟩ := h
  refine ⟨fun a ha => pu_XA_c (h1 a ha) (fun i k g1 g2 => f i k (by omega)), pu_l_c h2 (f _ _ (by omega)).1 (fun k _ => (f _ _ (by omega)).1), pu_l_c h3 (f _ _ (by omega)).1 (fun k _ => (f _ _ (by omega)).1), hq, pu_l_c h5 (f _ _ (by omega)).1 (fun k _ => (f _ _ (by omega)).1), ?_, ?_, pu_P_c h8 (f _ _ (by omega)).1 (fun i k _ _ => (f _ _ (by omega)).1)⟩
  · rw [(f _ _ (by omega)).1]; exact h6
  · rw [(f _ _ (by omega)).1]; exact h7
theorem pu_M_w {S S' : fy_S} {G : pu_G} {q : pu_q} (hw : pu_W G) (h : pu_M S G) (f : fr (fun i k => (i = 0 ∧ k = 25) ∨ i = 14) S S') (hq : pu_l (S'.1 14) (S'.1 0 25) q) : pu_M S' (pu_sw G q) := by
  obtain ⟨h1, h2, h3, h4, h5, h6, h7⟩ := h
  refine ⟨fun a ha => pu_MA_c (hw.1 a ha) (h1 a ha) (fun i g1 g2 => (f i a (by omega)).1) (fun k g1 g2 => (f 4 k (by omega)).1) (fun k g1 g2 => (f 5 k (by omega)).1) (fun k g1 g2 => (f 6 k (by omega)).1), pu_l_c h2 (f _ _ (by omega)).1 (fun k _ => (f _ _ (by omega)).1), pu_l_c h3 (f _ _ (by omega)).1 (fun k _ => (f _ _ (by omega)).1), hq, pu_l_c h5 (f _ _ (by omega)).1 (fun k _ => (f _ _ (by omega)).1), ?_, ?_⟩
  · rw [(f _ _ (by omega)).1]; exact h6
  · rw [(f _ _ (by omega)).1]; exact h7
/-- a letter more in a row -/
theorem pu_l_ps {f f' : Nat → Int32} {c : Int32} {q : pu_q} {v : Nat} (h : pu_l f c q) (hv : f' q.1 = nI v) (hf : ∀ k, k < q.1 → f' k = f k) : pu_l f' (nI (q.1 + 1)) (pu_ps q v) := by
  refine ⟨rfl, fun k hk => ?_⟩
  have hk : k < q.1 + 1 := hk
  show f' k = nI (if k < q.1 then q.2 k else v)
  by_cases hl : k < q.1
  · rw [if_pos hl, hf k hl, h.2 k hl]
  · rw [if_neg hl, show k = q.1 by omega, hv]
theorem X_word_add {S : fy_S} {id x N : Nat} {q : pu_q} (hN : X_al (id + 1) = N) (h : pu_l (S.1 (id + 1)) (S.1 id 1) q) (hl : q.1 < N) (hN2 : N < 2 ^ 31) (hx : x < 128) : pw (X8_add S id (nI x)) (fun S' => pu_l (S'.1 (id + 1)) (S'.1 id 1) (pu_ps q x) ∧ S'.1 id 1 = nI (q.1 + 1) ∧ fr (fun i _ => i = id ∨ i = id + 1) S S') := by
  rw [X8_add, hN, h.1]
  refine pw_f (nI_ge hl hN2) (pw_gd (fy_ix_nI hl hN2) (pw_bl (pw_bl (pw_s ?_))))
  rw [nI_clamp (by omega), ez_byte hx, rd_n (by omega), h.1, nI_1, rd_y]
  refine ⟨pu_l_ps h ?_ (fun k hk => ?_), rfl, fr_I (fr_I fr_r (.inr rfl)) (.inl rfl)⟩
  · rw [rd_n (by omega), rd_y]
  · rw [rd_n (by omega), rd_n (by omega)]
theorem ez_push {SX SM : fy_S} (v : Int32) (h : pu_I SX SM) : pu_O (X9_push SX v) (M_push SM v) := by
  rcases pu_bw (lo := 0) (hi := 2) v (by decide) (by decide) with ⟨x, hx0, hx, rfl⟩ | hb
  · obtain ⟨G, hw, hX, hM⟩ := h
    have hlen : G.2.2.2.1.1 ≤ 12 := hw.2.2.2.1.1
    by_cases hf : G.2.2.2.1.1 = 12
    · refine pu_both G (-3) hw ?_ ?_
      · rw [X9_push]
        refine pw_be (X_within_y (lo := 0) (hi := 2) hx0 hx (by decide)) (pw_f (by decide) ?_)
        rw [hX.2.2.2.1.1, hf]
        exact pw_f (by decide) (pw_s ⟨rfl, hX⟩)
      · rw [M_push]
        refine pw_be (M_between_y (lo := 0) (hi := 2) hx0 hx (by decide)) (pw_f (by decide) ?_)
        rw [hM.2.2.2.1.1, hf]
        exact pw_t (by decide) (pw_s ⟨rfl, hM⟩)
    · have hl : G.2.2.2.1.1 < 12 := by omega
      refine pu_both (pu_sw G (pu_ps G.2.2.2.1 x)) (nI (G.2.2.2.1.1 + 1)) ⟨hw.1, hw.2.1, hw.2.2.1, ⟨hl, fun k hk => ?_⟩, hw.2.2.2.2⟩ ?_ ?_
      · have hk : k < G.2.2.2.1.1 + 1 := hk
        show (if k < G.2.2.2.1.1 then G.2.2.2.1.2 k else x) < 3
        by_cases h : k < G.2.2.2.1.1
        · rw [if_pos h]; exact hw.2.2.2.1.2 k h
        · rw [if_neg h]; omega
      · rw [X9_push]
        refine pw_be (X_within_y (lo := 0) (hi := 2) hx0 hx (by decide)) (pw_f (by decide) (pw_t ?_ ?_))
        · rw [hX.2.2.2.1.1]; exact nI_lt (b := 12) hl (by decide)
        · refine pw_bd (X_word_add (N := 12) (by decide) hX.2.2.2.1 hl (by decide) (by omega)) (fun S' h' => pw_s ⟨h'.2.1, pu_X_w hX h'.2.2 h'.1⟩)
      · rw [M_push]
        refine pw_be (M_between_y (lo := 0) (hi := 2) hx0 hx (by decide)) (pw_f (by decide) ?_)
        rw [hM.2.2.2.1.1]
        refine pw_f (fun e => hf ((nI_eq (b := 12) (by omega) (by decide)).mp e)) (pw_gd (fy_ix_nI hl (by decide)) (pw_bl (pw_bl (pw_s ?_))))
        rw [nI_clamp (by omega), rd_n (by omega), hM.2.2.2.1.1, nI_1, rd_y]
        refine ⟨rfl, pu_M_w hw hM (fr_I (fr_I fr_r (.inr rfl)) (.inl ⟨rfl, rfl⟩)) ?_⟩
        rw [rd_y]
        refine pu_l_ps hM.2.2.2.1 ?_ (fun k hk => ?_)
        · rw [rd_n (by omega), rd_y]
        · rw [rd_n (by omega), rd_n (by omega)]
  · refine pu_same (-2) h ?_ ?_
    · rw [X9_push]; exact pw_eq (pw_be (X_within_n (lo := 0) (hi := 2) hb) (pw_t rfl (pw_s rfl)))
    · rw [M_push]; exact pw_eq (pw_be (M_between_n (lo := 0) (hi := 2) hb) (pw_t rfl (pw_s rfl)))
theorem ez_clearWord {SX SM : fy_S} (h : pu_I SX SM) : pu_O (X9_clearWord SX) (M_clearWord SM) := by
  obtain ⟨G, hw, hX, hM⟩ := h
  refine pu_both (pu_sw G (0, G.2.2.2.1.2)) (nI G.2.2.2.1.1) ⟨hw.1, hw.2.1, hw.2.2.1, ⟨Nat.zero_le _, fun k hk => absurd hk (Nat.not_lt_zero k)⟩, hw.2.2.2.2⟩ ?_ ?_
  · rw [X9_clearWord]
    refine pw_bl (pw_bl (pw_s ⟨hX.2.2.2.1.1, pu_X_w hX (fr_I fr_r (.inl rfl)) ⟨?_, fun k hk => absurd hk (Nat.not_lt_zero k)⟩⟩))
    rw [rd_y]; rfl
  · rw [M_clearWord]
    refine pw_bl (pw_bl (pw_s ⟨hM.2.2.2.1.1, pu_M_w hw hM (fr_I fr_r (.inl ⟨rfl, rfl⟩)) ⟨?_, fun k hk => absurd hk (Nat.not_lt_zero k)⟩⟩))
    rw [rd_y]; rfl
