/-! reading a text: the reference; the calls -/
def pu_cq (q : pu_q) : pu_q := (q.1, fun k => pu_c (q.2 k))
def pu_p0 (h : Nat) : Nat := if h = 0 then 99 else pu_c h
def pu_pm (S : fy_S) (q : pu_q) (w : List Nat) : Prop := pu_l (S.1 8) (S.1 0 11) (pu_cq q) ∧ S.1 0 12 = nI w.length ∧ pu_lq (S.1 9) pu_p0 w ∧ S.1 0 13 = nI (pu_on w)
def pu_mq (i k : Nat) : Prop := (i = 0 ∧ 10 ≤ k ∧ k ≤ 13) ∨ i = 8 ∨ i = 9
theorem M_mk {S : fy_S} {q : pu_q} {v : Nat} (h : pu_l (S.1 8) (S.1 0 11) (pu_cq q)) (hq : q.1 < 64) : pw (M_makes S (nI (pu_c v))) (fun S' => pu_l (S'.1 8) (S'.1 0 11) (pu_cq (pu_ps q v)) ∧ fr (fun i k => (i = 0 ∧ k = 11) ∨ i = 8) S S') := by
  have e1 : S.1 0 11 = nI q.1 := h.1
  rw [M_makes, e1]
  refine pw_gd (fy_ix_nI hq (by decide)) (pw_bl (pw_bl (pw_s ?_)))
  rw [nI_clamp (by omega), rd_n (by omega), e1, nI_1, rd_y]
  refine ⟨⟨rfl, fun k hk => ?_⟩, fr_I (fr_I fr_r (.inr rfl)) (.inl ⟨rfl, rfl⟩)⟩
  have hk : k < q.1 + 1 := hk
  show _ = nI (pu_c ((pu_ps q v).2 k))
  by_cases e : k = q.1
  · rw [e, pu_ps_at, rd_n (by omega), rd_y]
  · rw [pu_ps_lo (by omega), rd_n (by omega), rd_n (by omega)]; exact h.2 k (show k < q.1 by omega)
theorem pu_p0_lt {h o : Nat} (hh : h = 0 ∨ h = 8 ∨ h = 9) (ho : o = 8 ∨ o = 9) : nI (pu_c o) < nI (pu_p0 h) ↔ h < o := by
  rcases ho with rfl | rfl <;> rcases hh with rfl | rfl | rfl <;> decide
theorem M_apW {n i o : Nat} (ho : o = 8 ∨ o = 9) (hi : i ≤ 60) : ∀ (w : List Nat) (fu : Nat) (S : fy_S) (q : pu_q), w.length < fu → pu_pm S q w → pu_pi n i 1 q w → pw (M_makesFrom_0 fu S (nI (pu_c o))) (fun S' => pu_pm S' (pu_ap o w q).1 (pu_ap o w q).2 ∧ fr (fun i k => (i = 0 ∧ (k = 11 ∨ k = 12)) ∨ i = 8) S S') := by
  intro w
  induction w with
  | nil =>
    intro fu S q hfu hx hp
    obtain ⟨fu, rfl⟩ : ∃ z, fu = z + 1 := ⟨fu - 1, by omega⟩
    rw [M_makesFrom_0, hx.2.1]
    exact pw_t (by decide) (pw_s ⟨hx, fr_r⟩)
  | cons h t ih =>
    intro fu S q hfu hx hp
    obtain ⟨fu, rfl⟩ : ∃ z, fu = z + 1 := ⟨fu - 1, by omega⟩
    have hlen : q.1 + (t.length + 1) ≤ i := hp.1
    have hfu : t.length + 1 < fu + 1 := hfu
    have h089 := hp.2.1 h (by simp)
    obtain ⟨m1, m2, m3, m4⟩ := hx
    have m2 : S.1 0 12 = nI (t.length + 1) := m2
    have e9 : S.1 9 t.length = nI (pu_p0 h) := m3.1
    rw [M_makesFrom_0, m2, nI_pred, nI_clamp (by omega), e9]
    refine pw_f (nI_nle (by omega) (by omega)) (pw_gd (fy_ix_nI (by omega) (by decide)) ?_)
    rw [pu_ap]
    by_cases hlt : h < o
    · rw [if_pos hlt]
      exact pw_t ((pu_p0_lt h089 ho).mpr hlt) (pw_s ⟨⟨m1, m2, m3, m4⟩, fr_r⟩)
    · rw [if_neg hlt]
      refine pw_f (fun e => hlt ((pu_p0_lt h089 ho).mp e)) (pw_bl ?_)
      have ep : pu_p0 h = pu_c h := by unfold pu_p0; rw [if_neg (by omega)]
      rw [rd_y, nI_clamp (by omega), rd_n (by omega), e9, ep]
      refine pw_gd (fy_ix_nI (by omega) (by decide)) (pw_bd (M_mk (q := q) (v := h) (pu_l_c m1 (rd_n (by omega)) (fun k _ => rd_n (by omega))) (by omega)) (fun S1 s1 => ?_))
      refine pw_m (ih fu S1 (pu_ps q h) (by omega) ⟨s1.1, by rw [(s1.2 _ _ (by omega)).1, rd_y], pu_lq_c (n := t.length) (fun k hk => ?_) (Nat.le_refl _) m3.2, ?_⟩ (pu_pi_op hp (by omega)).1) (fun S2 s2 => ⟨s2.1, fr_t (fr_t (fr_I fr_r (by omega)) (fr_m s1.2 (fun i k h => by omega))) s2.2⟩)
      · rw [(s1.2 _ _ (by omega)).1, rd_n (by omega)]
      · rw [(s1.2 _ _ (by omega)).1, rd_n (by omega), m4, pu_on, if_neg (by omega)]; rfl
theorem M_mf {S : fy_S} {n i o : Nat} {q : pu_q} {w : List Nat} (ho : o = 8 ∨ o = 9) (hi : i ≤ 60) (hx : pu_pm S q w) (hp : pu_pi n i 1 q w) : pw (M_makesFrom S (nI (pu_c o))) (fun S' => pu_pm S' (pu_ap o w q).1 (pu_ap o w q).2 ∧ fr (fun i k => (i = 0 ∧ (k = 11 ∨ k = 12)) ∨ i = 8) S S') := by
  have hl := hp.1
  have := M_apW ho hi w (fy_fu + 1) S q (by have := fz_fu (n := w.length) (by omega); omega) hx hp
  rw [M_makesFrom_0] at this
  rw [M_makesFrom]
  exact this
theorem M_nx {S : fy_S} {i : Nat} {T : pu_q} (hT : T.1 ≤ 60) (hl : pu_l (S.1 7) (S.1 0 9) T) (h10 : S.1 0 10 = nI i) (hi : i < T.1) : M_next S = some (nI (T.2 i)) := by
  rw [M_next, h10, hl.1, if_neg (nI_ge hi (by omega)), fy_gd_y (by omega) (by decide), nI_clamp (by omega), hl.2 i hi]
theorem M_nx0 {S : fy_S} {i : Nat} {T : pu_q} (hT : T.1 ≤ 60) (hl : pu_l (S.1 7) (S.1 0 9) T) (h10 : S.1 0 10 = nI i) (hi : i = T.1) : M_next S = some (-1) := by
  rw [M_next, h10, hl.1, if_pos (nI_le (by omega) (by omega))]
def pu_pF (T : pu_q) (n d : Nat) (S : fy_S) (R : fy_S × Int32) (res : Nat ⊕ pu_q) : Prop := ((R.2 = 0 ∧ ∃ i, i ≤ T.1 ∧ res = .inl i ∧ R.1.1 0 10 = nI i) ∨ (R.2 = 1 ∧ ∃ d' i' q' w', i' + d' = T.1 ∧ d' < d ∧ R.1.1 0 10 = nI i' ∧ pu_pm R.1 q' w' ∧ pu_pi n i' 1 q' w' ∧ pu_pr T.2 n T.1 d' false q' w' = res ∧ (i' < T.1 → ¬ (T.2 i' = 41 ∧ 0 < pu_on w')))) ∧ fr pu_mq S R.1
theorem pu_pF_m {T : pu_q} {n d d' : Nat} {S : fy_S} {R : fy_S × Int32} {res : Nat ⊕ pu_q} (h : pu_pF T n d S R res) (hd : d ≤ d') : pu_pF T n d' S R res := by
  obtain ⟨h1 | ⟨h1, e, i', q', w', g1, g2, g3⟩, h2⟩ := h
  · exact ⟨.inl h1, h2⟩
  · exact ⟨.inr ⟨h1, e, i', q', w', g1, by omega, g3⟩, h2⟩
theorem M_clo {S : fy_S} {n : Nat} {T : pu_q} {res : Nat ⊕ pu_q} (hT : T.1 ≤ 60) (hT2 : ∀ k, k < T.1 → T.2 k < 128) (hl : pu_l (S.1 7) (S.1 0 9) T) : ∀ d i fu S' q w, i + d = T.1 → d < fu → fr pu_mq S S' → S'.1 0 10 = nI i → pu_pm S' q w → pu_pi n i 1 q w → pu_pr T.2 n T.1 d false q w = res → pw (M_takesFactor_143 fu S') (fun R => pu_pF T n (d + 1) S R res) := by
  intro d
  induction d with
  | zero =>
    intro i fu S' q w hi hfu hf h10 hx hp hr
    obtain ⟨fu, rfl⟩ : ∃ z, fu = z + 1 := ⟨fu - 1, by omega⟩
    have hl' : pu_l (S'.1 7) (S'.1 0 9) T := pu_l_c hl (hf _ _ (by unfold pu_mq; omega)).1 (fun k _ => (hf _ _ (by unfold pu_mq; omega)).1)
    rw [M_takesFactor_143]
    exact pw_be (M_nx0 hT hl' h10 (by omega)) (pw_f (by decide) (pw_s ⟨.inr ⟨rfl, 0, i, q, w, hi, by omega, h10, hx, hp, hr, fun h => by omega⟩, hf⟩))
  | succ d ih =>
    intro i fu S' q w hi hfu hf h10 hx hp hr
    obtain ⟨fu, rfl⟩ : ∃ z, fu = z + 1 := ⟨fu - 1, by omega⟩
    have hl' : pu_l (S'.1 7) (S'.1 0 9) T := pu_l_c hl (hf _ _ (by unfold pu_mq; omega)).1 (fun k _ => (hf _ _ (by unfold pu_mq; omega)).1)
    have hc := hT2 i (by omega)
    have hon := pu_on_le w
    have hwl := hp.1
    have stop : ¬ (T.2 i = 41 ∧ 0 < pu_on w) → pu_pF T n (d + 1 + 1) S (S', 1) res := fun hno => ⟨.inr ⟨rfl, d + 1, i, q, w, hi, by omega, h10, hx, hp, hr, fun _ => hno⟩, hf⟩
    rw [M_takesFactor_143]
    refine pw_be (M_nx hT hl' h10 (by omega)) ?_
    by_cases h41 : T.2 i = 41
    · refine pw_t (by rw [h41]; rfl) ?_
      rw [hx.2.2.2]
      by_cases ho : 0 < pu_on w
      · rw [pu_pr, show T.1 - (d + 1) = i by omega, if_pos ⟨h41, ho⟩] at hr
        obtain ⟨t, et, pt, on⟩ := pu_ap_gr hp ho
        rw [et] at hr
        have hont := pu_on_le t
        have hlt := pt.1
        refine pw_f (nI_nle ho (by omega)) (pw_bd (M_mf (o := 8) (.inl rfl) (by omega) hx hp) (fun S1 s1 => pw_bl (pw_bl (pw_bl ?_))))
        obtain ⟨s1, f1⟩ := s1
        rw [et] at s1
        obtain ⟨m1, m2, m3, m4⟩ := s1
        have m2 : S1.1 0 12 = nI (t.length + 1) := m2
        have m4 : S1.1 0 13 = nI (pu_on t + 1) := by rw [m4, pu_on, if_pos rfl]
        have m5 : S1.1 0 10 = nI i := by rw [(f1 _ _ (by omega)).1]; exact h10
        rw [m2, nI_pred, rd_n (by omega), m4, nI_pred, rd_n (by omega), rd_n (by omega), m5, nI_1]
        refine pw_m (ih (i + 1) fu _ (pu_ap 8 w q).1 t (by omega) (by omega) (fr_I (fr_I (fr_I (fr_t hf (fr_m f1 (fun i k h => by unfold pu_mq; omega))) (by unfold pu_mq; omega)) (by unfold pu_mq; omega)) (by unfold pu_mq; omega)) rd_y ⟨pu_l_c m1 (by rw [rd_n (by omega), rd_n (by omega), rd_n (by omega)]) (fun k _ => by rw [rd_n (by omega), rd_n (by omega), rd_n (by omega)]), by rw [rd_n (by omega), rd_n (by omega), rd_y], pu_lq_c (n := t.length) (fun k hk => by rw [rd_n (by omega), rd_n (by omega), rd_n (by omega)]) (Nat.le_refl _) m3.2, by rw [rd_n (by omega), rd_y]⟩ (pu_pi_up pt (by omega)) hr) (fun R r => pu_pF_m r (by omega))
      · have h0 : pu_on w = 0 := by omega
        rw [h0]
        exact pw_t (by decide) (pw_s (stop (fun h => ho h.2)))
    · exact pw_f (fun e => h41 ((nI_eq (b := 41) (by omega) (by decide)).mp e)) (pw_s (stop (fun h => h41 h.1)))
theorem M_fac {S : fy_S} {a n : Nat} {T : pu_q} {res : Nat ⊕ pu_q} (ha : a < 7) (hn : n ≤ 6) (hT : T.1 ≤ 60) (hT2 : ∀ k, k < T.1 → T.2 k < 128) (hs : S.1 1 a = nI n) (hl : pu_l (S.1 7) (S.1 0 9) T) : ∀ d i fu S' q w, i + d = T.1 → d < fu → fr pu_mq S S' → S'.1 0 10 = nI i → pu_pm S' q w → pu_pi n i 0 q w → pu_pr T.2 n T.1 d true q w = res → pw (M_takesFactor_0 fu S' (nI a)) (fun R => pu_pF T n d S R res) := by
  intro d
  induction d with
  | zero =>
    intro i fu S' q w hi hfu hf h10 hx hp hr
    obtain ⟨fu, rfl⟩ : ∃ z, fu = z + 1 := ⟨fu - 1, by omega⟩
    have hl' : pu_l (S'.1 7) (S'.1 0 9) T := pu_l_c hl (hf _ _ (by unfold pu_mq; omega)).1 (fun k _ => (hf _ _ (by unfold pu_mq; omega)).1)
    have nx := M_nx0 hT hl' h10 (by omega)
    rw [pu_pr] at hr
    rw [M_takesFactor_0, nx]
    refine pw_be rfl (pw_f (by decide) (pw_be rfl (pw_f (by decide) (pw_be rfl (pw_f (by decide) (pw_be rfl (pw_be (M_between_n (lo := 48) (hi := 57) (.inl (by decide))) (pw_t rfl ?_))))))))
    rw [M_takesFactor_121]
    exact pw_f (by decide) (pw_s ⟨.inl ⟨rfl, T.1, Nat.le_refl _, hr.symm, by rw [← hi]; exact h10⟩, hf⟩)
  | succ d ih =>
    intro i fu S' q w hi hfu hf h10 hx hp hr
    obtain ⟨fu, rfl⟩ : ∃ z, fu = z + 1 := ⟨fu - 1, by omega⟩
    have hl' : pu_l (S'.1 7) (S'.1 0 9) T := pu_l_c hl (hf _ _ (by unfold pu_mq; omega)).1 (fun k _ => (hf _ _ (by unfold pu_mq; omega)).1)
    have hs' : S'.1 1 a = nI n := by rw [(hf _ _ (by unfold pu_mq; omega)).1]; exact hs
    have hc := hT2 i (by omega)
    have hwl := hp.1
    have hon := pu_on_le w
    have nx := M_nx hT hl' h10 (by omega)
    rw [pu_pr, show T.1 - (d + 1) = i by omega] at hr
    have ceq : ∀ z : Nat, z < 128 → (nI (T.2 i) = nI z ↔ T.2 i = z) := fun z hz => nI_eq (by omega) (by omega)
    rw [M_takesFactor_0, nx]
    refine pw_be rfl ?_
    by_cases h40 : T.2 i = 40
    · rw [if_pos h40] at hr
      obtain ⟨m1, m2, m3, m4⟩ := hx
      refine pw_t (by rw [h40]; rfl) ?_
      rw [m2, nI_clamp (by omega)]
      refine pw_gd (fy_ix_nI (by omega) (by decide)) (pw_bl (pw_bl (pw_bl (pw_bl ?_))))
      rw [rd_n (by omega), m2, nI_1, rd_n (by omega), rd_n (by omega), m4, nI_1, rd_n (by omega), rd_n (by omega), rd_n (by omega), h10, nI_1]
      refine pw_m (ih (i + 1) fu _ q (0 :: w) (by omega) (by omega) (fr_I (fr_I (fr_I (fr_I hf (by unfold pu_mq; omega)) (by unfold pu_mq; omega)) (by unfold pu_mq; omega)) (by unfold pu_mq; omega)) rd_y ⟨pu_l_c m1 (by rw [rd_n (by omega), rd_n (by omega), rd_n (by omega), rd_n (by omega)]) (fun k _ => by rw [rd_n (by omega), rd_n (by omega), rd_n (by omega), rd_n (by omega)]), by rw [rd_n (by omega), rd_n (by omega), rd_y]; rfl, ⟨by rw [rd_n (by omega), rd_n (by omega), rd_n (by omega), rd_y]; rfl, pu_lq_c (n := w.length) (fun k hk => by rw [rd_n (by omega), rd_n (by omega), rd_n (by omega), rd_n (by omega)]) (Nat.le_refl _) m3⟩, by rw [rd_n (by omega), rd_y, pu_on, if_pos rfl]⟩ (pu_pi_gr hp) hr) (fun R r => pu_pF_m r (by omega))
    · rw [if_neg h40] at hr
      refine pw_f (fun e => h40 ((ceq 40 (by decide)).mp e)) ?_
      have bad : pu_lf n (T.2 i) = none → pw (M_takesFactor_121 S' (-1)) (fun R => pu_pF T n (d + 1) S R res) := by
        intro hno
        rw [hno] at hr
        rw [M_takesFactor_121]
        exact pw_f (by decide) (pw_s ⟨.inl ⟨rfl, i, by omega, hr.symm, h10⟩, hf⟩)
      have good : ∀ l, pu_lf n (T.2 i) = some l → l < 8 → (l < n ∨ 6 ≤ l) → pw (M_takesFactor_121 S' (nI (pu_c l))) (fun R => pu_pF T n (d + 1) S R res) := by
        intro l hlf h8 hn2
        rw [hlf] at hr
        have hc128 : pu_c l < 128 := by unfold pu_c; split <;> (try split) <;> (try split) <;> (try split) <;> omega
        rw [M_takesFactor_121]
        obtain ⟨m1, m2, m3, m4⟩ := hx
        refine pw_t (nI_pos' (by omega)) (pw_bd (M_mk (q := q) (v := l) m1 (by omega)) (fun S1 s1 => pw_bl ?_))
        have m5 : S1.1 0 10 = nI i := by rw [(s1.2 _ _ (by omega)).1]; exact h10
        rw [m5, nI_1]
        exact M_clo (S := S) hT hT2 hl d (i + 1) fy_fu _ (pu_ps q l) w (by omega) (fz_fu (by omega)) (fr_I (fr_t hf (fr_m s1.2 (fun i k h => by unfold pu_mq; omega))) (by unfold pu_mq; omega)) rd_y ⟨pu_l_c s1.1 (rd_n (by omega)) (fun k _ => rd_n (by omega)), by rw [rd_n (by omega), (s1.2 _ _ (by omega)).1]; exact m2, pu_lq_c (n := w.length) (fun k hk => by rw [rd_n (by omega), (s1.2 _ _ (by omega)).1]) (Nat.le_refl _) m3, by rw [rd_n (by omega), (s1.2 _ _ (by omega)).1]; exact m4⟩ (pu_pi_lf hp h8 hn2) hr
      refine pw_be rfl ?_
      by_cases h116 : T.2 i = 116
      · exact pw_t (by rw [h116]; rfl) (good 6 (by rw [h116]; rfl) (by decide) (by omega))
      · refine pw_f (fun e => h116 ((ceq 116 (by decide)).mp e)) (pw_be rfl ?_)
        by_cases h102 : T.2 i = 102
        · exact pw_t (by rw [h102]; rfl) (good 7 (by rw [h102]; rfl) (by decide) (by omega))
        · refine pw_f (fun e => h102 ((ceq 102 (by decide)).mp e)) (pw_be rfl ?_)
          have hlf : pu_lf n (T.2 i) = if 48 ≤ T.2 i ∧ T.2 i < 48 + n then some (T.2 i - 48) else none := by unfold pu_lf; rw [if_neg h116, if_neg h102]
          by_cases hb : 48 ≤ T.2 i ∧ T.2 i ≤ 57
          · refine pw_be (M_between_y (lo := 48) (hi := 57) hb.1 hb.2 (by decide)) (pw_f (by decide) (pw_be rfl ?_))
            have e48 : nI (T.2 i) - (48 : Int32) = nI (T.2 i - 48) := pk_sub (b := 48) hb.1
            rw [e48]
            by_cases hst : T.2 i - 48 < n
            · refine pw_be (M_hs_y ha hs' hst (by omega)) (pw_f (by decide) (pw_be rfl ?_))
              rw [e48]
              have := good (T.2 i - 48) (by rw [hlf, if_pos (by omega)]) (by omega) (.inl hst)
              rw [show pu_c (T.2 i - 48) = T.2 i - 48 by unfold pu_c; rw [if_pos (by omega)]] at this
              exact this
            · exact pw_be (M_hs_n ha hs' (.inr (nI_le (by omega) (by omega)))) (pw_t rfl (bad (by rw [hlf, if_neg (by omega)])))
          · refine pw_be (M_between_n (lo := 48) (hi := 57) ?_) (pw_t rfl (bad (by rw [hlf, if_neg (by omega)])))
            by_cases h48 : T.2 i < 48
            · exact .inl (nI_lt h48 (by decide))
            · exact .inr (nI_lt (by omega) (by omega))
def pu_pT (T : pu_q) (n : Nat) (S : fy_S) (R : fy_S × Int32) (res : Nat ⊕ pu_q) : Prop := ((R.2 = 0 ∧ ∃ i, i ≤ T.1 ∧ res = .inl i ∧ R.1.1 0 10 = nI i) ∨ (R.2 = 1 ∧ ∃ q, res = .inr q ∧ pu_l (R.1.1 8) (R.1.1 0 11) (pu_cq q) ∧ pu_pi n 60 1 q [])) ∧ fr pu_mq S R.1
theorem M_txt {S : fy_S} {a n : Nat} {T : pu_q} {res : Nat ⊕ pu_q} (ha : a < 7) (hn : n ≤ 6) (hT : T.1 ≤ 60) (hT2 : ∀ k, k < T.1 → T.2 k < 128) (hs : S.1 1 a = nI n) (hl : pu_l (S.1 7) (S.1 0 9) T) : ∀ d i fu S' q w, i + d = T.1 → d < fu → fr pu_mq S S' → S'.1 0 10 = nI i → pu_pm S' q w → pu_pi n i 0 q w → pu_pr T.2 n T.1 d true q w = res → pw (M_takesText_20 fu S' (nI a)) (fun R => pu_pT T n S R res) := by
  intro d
  induction d using Nat.strongRecOn with
  | ind d ih =>
    intro i fu S' q w hi hfu hf h10 hx hp hr
    obtain ⟨fu, rfl⟩ : ∃ z, fu = z + 1 := ⟨fu - 1, by omega⟩
    have F : pw (M_takesFactor S' (nI a)) (fun R => pu_pF T n d S R res) := by
      have := M_fac ha hn hT hT2 hs hl d i (fy_fu + 1) S' q w hi (by have := fz_fu (n := d) (by omega); omega) hf h10 hx hp hr
      rw [M_takesFactor_0] at this
      rw [M_takesFactor]
      exact this
    rw [M_takesText_20]
    refine pw_bp F (fun S1 r1 h1 => ?_)
    obtain ⟨h1 | ⟨h1, d', i', q', w', hi', hd', g10, gx, gp, gr, gno⟩, gf⟩ := h1
    · obtain ⟨e0, i', hi', er, eat⟩ := h1
      dsimp only at e0
      subst e0
      exact pw_t rfl (pw_s ⟨.inl ⟨rfl, i', hi', er, eat⟩, gf⟩)
    · dsimp only at h1 g10 gx gf
      subst h1
      refine pw_f (by decide) ?_
      have hl' : pu_l (S1.1 7) (S1.1 0 9) T := pu_l_c hl (gf _ _ (by unfold pu_mq; omega)).1 (fun k _ => (gf _ _ (by unfold pu_mq; omega)).1)
      have hwl := gp.1
      have hon := pu_on_le w'
      -- an end
      have fin : (d' = 0 ∨ (T.2 i' ≠ 38 ∧ T.2 i' ≠ 124)) → pw (M_takesText_57 (fun S v1 => M_takesText_20 fu S v1) S1 (nI a) (0 : Int32)) (fun R => pu_pT T n S R res) := by
        intro hend
        rw [M_takesText_57]
        refine pw_t rfl (pw_bd (M_mf (o := 8) (.inl rfl) (by omega) gx gp) (fun S2 s2 => ?_))
        have a10 : S2.1 0 10 = nI i' := by rw [(s2.2 _ _ (by omega)).1]; exact g10
        have a9 : S2.1 0 9 = nI T.1 := by rw [(s2.2 _ _ (by omega)).1]; exact hl'.1
        have a13 : S2.1 0 13 = nI (pu_on w') := by rw [(s2.2 _ _ (by omega)).1]; exact gx.2.2.2
        have f2 : fr pu_mq S S2 := fr_t gf (fr_m s2.2 (fun i k h => by unfold pu_mq; omega))
        rw [a10, a9, a13]
        cases d' with
        | zero =>
          have : i' = T.1 := by omega
          subst this
          rw [pu_pr] at gr
          refine pw_t rfl ?_
          by_cases ho : 0 < pu_on w'
          · rw [if_pos ho] at gr
            exact pw_f (nI_ne0 ho (by omega)) (pw_s ⟨.inl ⟨rfl, T.1, Nat.le_refl _, gr.symm, a10⟩, f2⟩)
          · rw [if_neg ho] at gr
            have h0 : pu_on w' = 0 := by omega
            rw [h0]
            refine pw_t rfl (pw_s ⟨.inr ⟨rfl, _, gr.symm, s2.1.1, ?_⟩, f2⟩)
            have := (pu_ap_pi (o := 8) (Nat.le_refl _) w' q' gp).1
            rw [pu_ap_no gp ho] at this
            exact pu_pi_up this hT
        | succ d' =>
          have hend := hend.resolve_left (by omega)
          rw [pu_pr, show T.1 - (d' + 1) = i' by omega, if_neg (gno (by omega)), if_neg hend.1, if_neg hend.2] at gr
          exact pw_f (fun e => absurd ((nI_eq (by omega) (by omega)).mp e) (by omega)) (pw_s ⟨.inl ⟨rfl, i', by omega, gr.symm, a10⟩, f2⟩)
      -- an operator
      have opr : ∀ o, (o = 8 ∨ o = 9) → ∀ d2, d' = d2 + 1 → pu_pr T.2 n T.1 d2 true (pu_ap o w' q').1 (o :: (pu_ap o w' q').2) = res → pw (M_takesText_57 (fun S v1 => M_takesText_20 fu S v1) S1 (nI a) (nI (pu_c o))) (fun R => pu_pT T n S R res) := by
        intro o ho d2 ed gr2
        have hc128 : pu_c o < 64 ∧ 0 < pu_c o := by rcases ho with rfl | rfl <;> decide
        obtain ⟨p1, p2, p3⟩ := pu_ap_pi (o := o) (by omega) w' q' gp
        have hl2 := p1.1
        rw [M_takesText_57]
        refine pw_f (nI_ne0 hc128.2 (by omega)) (pw_bd (M_mf ho (by omega) gx gp) (fun S2 s2 => ?_))
        obtain ⟨⟨m1, m2, m3, m4⟩, f2⟩ := s2
        have a10 : S2.1 0 10 = nI i' := by rw [(f2 _ _ (by omega)).1]; exact g10
        rw [m2, nI_clamp (by omega)]
        refine pw_gd (fy_ix_nI (by omega) (by decide)) (pw_bl (pw_bl (pw_bl ?_)))
        rw [rd_n (by omega), m2, nI_1, rd_n (by omega), rd_n (by omega), a10, nI_1]
        have ep : pu_p0 o = pu_c o := by unfold pu_p0; rw [if_neg (by omega)]
        refine ih d2 (by omega) (i' + 1) fu _ (pu_ap o w' q').1 (o :: (pu_ap o w' q').2) (by omega) (by omega) (fr_I (fr_I (fr_I (fr_t gf (fr_m f2 (fun i k h => by unfold pu_mq; omega))) (by unfold pu_mq; omega)) (by unfold pu_mq; omega)) (by unfold pu_mq; omega)) rd_y ⟨pu_l_c m1 (by rw [rd_n (by omega), rd_n (by omega), rd_n (by omega)]) (fun k _ => by rw [rd_n (by omega), rd_n (by omega), rd_n (by omega)]), by rw [rd_n (by omega), rd_y]; rfl, ⟨by rw [rd_n (by omega), rd_n (by omega), rd_y, ep], pu_lq_c (n := (pu_ap o w' q').2.length) (fun k hk => by rw [rd_n (by omega), rd_n (by omega), rd_n (by omega)]) (Nat.le_refl _) m3⟩, by rw [rd_n (by omega), rd_n (by omega), rd_n (by omega), m4, pu_on, if_neg (by omega)]; rfl⟩ (pu_pi_wt p1 ho) gr2
      cases d' with
      | zero =>
        have nx := M_nx0 hT hl' g10 (by omega)
        rw [nx]
        exact pw_be rfl (pw_f (by decide) (pw_be rfl (pw_f (by decide) (fin (.inl rfl)))))
      | succ d' =>
        have nx := M_nx hT hl' g10 (by omega)
        have hc := hT2 i' (by omega)
        have ceq : ∀ z : Nat, z < 128 → (nI (T.2 i') = nI z ↔ T.2 i' = z) := fun z hz => nI_eq (by omega) (by omega)
        have gr0 := gr
        rw [pu_pr, show T.1 - (d' + 1) = i' by omega, if_neg (gno (by omega))] at gr0
        rw [nx]
        refine pw_be rfl ?_
        by_cases h38 : T.2 i' = 38
        · rw [if_pos h38] at gr0
          exact pw_t (by rw [h38]; rfl) (opr 9 (.inr rfl) d' rfl gr0)
        · rw [if_neg h38] at gr0
          refine pw_f (fun e => h38 ((ceq 38 (by decide)).mp e)) (pw_be rfl ?_)
          by_cases h124 : T.2 i' = 124
          · rw [if_pos h124] at gr0
            exact pw_t (by rw [h124]; rfl) (opr 8 (.inl rfl) d' rfl gr0)
          · exact pw_f (fun e => h124 ((ceq 124 (by decide)).mp e)) (fin (.inr ⟨h38, h124⟩))
