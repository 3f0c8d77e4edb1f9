/-! countWords: how many words of a length lead to a set -/
theorem fb_sm_z {f : Nat → Nat} {n : Nat} (h : ∀ k, k < n → f k = 0) : fb_sm f n = 0 := by
  rw [fb_sm_cong h, fb_sm_const, Nat.mul_zero]
theorem fb_sm_im {N : Nat} {f : Nat → Nat} : ∀ (n : Nat) (g : Nat → Nat), (∀ i, i < n → f i < N) → (∀ i j, i < n → j < n → f i = f j → i = j) → (∀ s, s < N → (∀ i, i < n → f i ≠ s) → g s = 0) → fb_sm g N = fb_sm (fun i => g (f i)) n := by
  intro n
  induction n with
  | zero =>
    intro g _ _ h
    exact fb_sm_z (fun k hk => h k hk (fun i hi => absurd hi (Nat.not_lt_zero i)))
  | succ n ih =>
    intro g h1 h2 h3
    have hn := h1 n (by omega)
    have e := ih (fun k => if k = f n then 0 else g k) (fun i hi => h1 i (by omega)) (fun i j hi hj => h2 i j (by omega) (by omega)) (fun s hs hno => by
      by_cases es : s = f n
      · simp only [if_pos es]
      · simp only [if_neg es]
        refine h3 s hs (fun i hi e => ?_)
        by_cases ei : i = n
        · rw [ei] at e; exact es e.symm
        · exact hno i (by omega) e)
    have u := fb_sm_upd g 0 (i := f n) (n := N) hn
    have e2 : fb_sm (fun i => if f i = f n then 0 else g (f i)) n = fb_sm (fun i => g (f i)) n := fb_sm_cong (fun k hk => if_neg (fun ek => by have := h2 k n (by omega) (by omega) ek; omega))
    rw [e, e2] at u
    rw [fb_sm_succ]
    omega
theorem fb_sm_sw (g : Nat → Nat → Nat) (m : Nat) : ∀ n, fb_sm (fun t => fb_sm (fun s => g s t) n) m = fb_sm (fun s => fb_sm (fun t => g s t) m) n := by
  intro n
  induction n with
  | zero => exact fb_sm_z (fun _ _ => rfl)
  | succ n ih =>
    rw [fb_sm_succ, ← ih, ← fb_sm_add]
    exact fb_sm_cong (fun _ _ => rfl)
theorem fb_sm_at {k c : Nat} : ∀ n, fb_sm (fun t => if k = t then c else 0) n ≤ c := by
  intro n
  have : fb_sm (fun t => if k = t then c else 0) n = if k < n then c else 0 := by
    induction n with
    | zero => rfl
    | succ n ih =>
      rw [fb_sm_succ, ih]
      by_cases e : k = n
      · rw [if_neg (by omega), if_pos e, if_pos (by omega), Nat.zero_add]
      · rw [if_neg e]
        by_cases h : k < n
        · rw [if_pos h, if_pos (by omega)]; rfl
        · rw [if_neg h, if_neg (by omega)]
  rw [this]
  split <;> omega
theorem fb_sm_k (c : Nat) (f : Nat → Nat) : ∀ n, fb_sm (fun s => c * f s) n = c * fb_sm f n := by
  intro n
  induction n with
  | zero => rfl
  | succ n ih => rw [fb_sm_succ, fb_sm_succ, ih, Nat.mul_add]
def pu_cx (A : pu_A) (c : Nat → Nat) (t s x : Nat) : Nat := if pu_sp1 A x s = t then c s else 0
def pu_cy (A : pu_A) (c : Nat → Nat) (t s : Nat) : Nat := fb_sm (pu_cx A c t s) A.2.1
def pu_cn (A : pu_A) : Nat → Nat → Nat
  | 0, t => if t = A.2.2.1 then 1 else 0
  | i + 1, t => fb_sm (pu_cy A (pu_cn A i) t) 64
theorem pu_cy0 {A : pu_A} {c : Nat → Nat} {t s : Nat} (h : c s = 0) : pu_cy A c t s = 0 := fb_sm_z (fun x _ => by unfold pu_cx; rw [h]; split <;> rfl)
theorem pu_cn_rc {A : pu_A} : ∀ i t, ¬ pu_rc A t → pu_cn A i t = 0 := by
  intro i
  induction i with
  | zero =>
    intro t h
    rw [pu_cn, if_neg (fun e : t = A.2.2.1 => h (pu_cl_i e))]
  | succ i ih =>
    intro t h
    rw [pu_cn]
    refine fb_sm_z (fun s _ => ?_)
    by_cases hs : pu_rc A s
    · refine fb_sm_z (fun x hx => ?_)
      unfold pu_cx
      exact if_neg (fun e => h (pu_cl_n hs ⟨x, hx, e.symm⟩))
    · exact pu_cy0 (ih s hs)
theorem pu_cn_sm {A : pu_A} (hA : pu_wA A) : ∀ i, fb_sm (pu_cn A i) 64 ≤ 3 ^ i := by
  have hm3 : A.2.1 ≤ 3 := hA.2.2.2.1
  intro i
  induction i with
  | zero =>
    have := fb_sm_at (k := A.2.2.1) (c := 1) 64
    have e : fb_sm (pu_cn A 0) 64 = fb_sm (fun t => if A.2.2.1 = t then 1 else 0) 64 := fb_sm_cong (fun k _ => by
      rw [pu_cn]
      by_cases e : k = A.2.2.1
      · rw [if_pos e, if_pos e.symm]
      · rw [if_neg e, if_neg (fun h => e h.symm)])
    rw [e]; exact this
  | succ i ih =>
    have e : fb_sm (pu_cn A (i + 1)) 64 = fb_sm (fun s => fb_sm (fun t => pu_cy A (pu_cn A i) t s) 64) 64 := fb_sm_sw (fun s t => pu_cy A (pu_cn A i) t s) 64 64
    have b : fb_sm (fun s => fb_sm (fun t => pu_cy A (pu_cn A i) t s) 64) 64 ≤ fb_sm (fun s => 3 * pu_cn A i s) 64 := fb_sm_le (fun s _ => by
      have e2 : fb_sm (fun t => pu_cy A (pu_cn A i) t s) 64 = fb_sm (fun x => fb_sm (fun t => pu_cx A (pu_cn A i) t s x) 64) A.2.1 := fb_sm_sw (fun x t => pu_cx A (pu_cn A i) t s x) 64 A.2.1
      have e3 : fb_sm (fun x => fb_sm (fun t => pu_cx A (pu_cn A i) t s x) 64) A.2.1 ≤ A.2.1 * pu_cn A i s := fb_sm_bound (fun x _ => fb_sm_at 64)
      have : A.2.1 * pu_cn A i s ≤ 3 * pu_cn A i s := Nat.mul_le_mul_right _ hm3
      omega)
    rw [fb_sm_k] at b
    rw [e, Nat.pow_succ]
    omega
theorem pu_cn_lt {A : pu_A} (hA : pu_wA A) {i s : Nat} (hi : i ≤ 20) (hs : s < 64) : pu_cn A i s < 2 ^ 62 := by
  have h1 := pu_cn_sm hA i
  have h2 := fb_sm_part (pu_cn A i) hs
  have h3 : 3 ^ i ≤ 3 ^ 20 := Nat.pow_le_pow_right (by decide) hi
  have h4 : (3 : Nat) ^ 20 < 2 ^ 62 := by decide
  omega
/-! the class -/
theorem X_fillL {S : fy_S} {id : Nat} {v : Int64} (hid : X_al id = 64) : pw (J7_fill_d0a16 S id v) (fun S' => (∀ s, s < 64 → S'.2 id s = v) ∧ fr (fun i _ => i = id) S S') := by
  have L : ∀ d k fu S', k + d = 64 → d < fu → (∀ s, s < k → S'.2 id s = v) → fr (fun i _ => i = id) S S' → pw (J7_fill_d0a16_6 fu S' id v (nI k) (nI 64)) (fun S' => (∀ s, s < 64 → S'.2 id s = v) ∧ fr (fun i _ => i = id) S S') := by
    intro d
    induction d with
    | zero =>
      intro k fu S' hk hfu h hf
      obtain ⟨fu, rfl⟩ : ∃ z, fu = z + 1 := ⟨fu - 1, by omega⟩
      have : k = 64 := by omega
      subst this
      rw [J7_fill_d0a16_6]
      exact pw_t (nI_le (Nat.le_refl _) (by decide)) (pw_s ⟨h, hf⟩)
    | succ d ih =>
      intro k fu S' hk hfu h hf
      obtain ⟨fu, rfl⟩ : ∃ z, fu = z + 1 := ⟨fu - 1, by omega⟩
      rw [J7_fill_d0a16_6, hid, nI_clamp (by omega), nI_1]
      refine pw_f (nI_ge (by omega) (by decide)) (pw_gd (fy_ix_nI (by omega) (by decide)) (pw_bl (pw_bl (ih (k + 1) fu _ (by omega) (by omega) (fun s hs => ?_) (fr_L hf rfl)))))
      by_cases e : s = k
      · rw [e, rd_Ly]
      · rw [rd_Ln (by omega)]; exact h s (by omega)
  rw [J7_fill_d0a16, hid]
  exact pw_bl (L 64 0 fy_fu S (by omega) (fz_fu (by omega)) (fun s hs => absurd hs (Nat.not_lt_zero s)) fr_r)
theorem lN_z {n : Nat} (h : n < 2 ^ 63) : lg_cmp (lN n) 0 = 0 ↔ n = 0 := by
  rw [lg_cmp_eq]
  exact fb_lN_inj (b := 0) h (by decide)
theorem lN_zl {n : Nat} (h : n < 2 ^ 63) : lg_cmp (lN n) 0 ≤ 0 ↔ n = 0 := by
  rw [lg_cmp_le]
  have := pk_lLE (a := n) (b := 0) h (by decide)
  rw [show lN 0 = (0 : Int64) from rfl] at this
  rw [this]
  omega
theorem X_more {S : fy_S} {A : pu_A} {c : Nat → Nat} (hA : pu_wA A) (hl : pu_ld S 20 A) (hc : ∀ s, s < 64 → S.2 24 s = lN (c s)) (hcl : ∀ s, s < 64 → c s < 2 ^ 62) (hcn : ∀ s, s < 64 → c s ≠ 0 → s < 2 ^ A.1) : pw (X7_countOneLetterMore S 20) (fun S' => (∀ t, t < 64 → S'.2 24 t = lN (fb_sm (pu_cy A c t) 64)) ∧ fr (fun i _ => i = 24 ∨ i = 25) S S') := by
  have h64 := pu_2n hA.2.1
  have hm3 : A.2.1 ≤ 3 := hA.2.2.2.1
  have L : ∀ d s fu S', s + d = 64 → d < fu → fr (fun i _ => i = 25) S S' → (∀ t, t < 64 → S'.2 25 t = lN (fb_sm (pu_cy A c t) s)) → pw (X7_countOneLetterMore_10 fu S' 20 (nI s)) (fun S' => (∀ t, t < 64 → S'.2 24 t = lN (fb_sm (pu_cy A c t) 64)) ∧ fr (fun i _ => i = 24 ∨ i = 25) S S') := by
    intro d
    induction d with
    | zero =>
      intro s fu S' hs hfu hf hn
      obtain ⟨fu, rfl⟩ : ∃ z, fu = z + 1 := ⟨fu - 1, by omega⟩
      have : s = 64 := by omega
      subst this
      rw [X7_countOneLetterMore_10]
      refine pw_t (by decide) (pw_gd (by decide) (pw_bl (pw_s ⟨fun t ht => ?_, fr_B (fr_m hf (fun i k h => .inr h)) (fun _ => .inl rfl)⟩)))
      rw [rd_B, if_pos rfl, pk_cpy_in (by show 0 ≤ t; omega) (by show t < 0 + 64; omega)]
      show S'.2 25 (0 + (t - 0)) = _
      rw [show 0 + (t - 0) = t by omega]; exact hn t ht
    | succ d ih =>
      intro s fu S' hs hfu hf hn
      obtain ⟨fu, rfl⟩ : ∃ z, fu = z + 1 := ⟨fu - 1, by omega⟩
      have hs64 : s < 64 := by omega
      have h24 : S'.2 (20 + 4) s = lN (c s) := by rw [(hf _ _ (by omega)).2]; exact hc s hs64
      have hcs := hcl s hs64
      rw [X7_countOneLetterMore_10, nI_clamp (by omega), h24, nI_1]
      refine pw_f (nI_ge (b := 64) (by omega) (by decide)) (pw_gd (fy_ix_nI hs64 (by decide)) (pw_if (fun hz => ?_) (fun hz => ?_)))
      · have c0 := (lN_z (by omega)).mp hz
        refine pw_bl (ih (s + 1) fu S' (by omega) (by omega) hf (fun t ht => ?_))
        rw [fb_sm_succ, pu_cy0 c0, Nat.add_zero]; exact hn t ht
      · have hsn := hcn s hs64 (fun e => hz ((lN_z (by omega)).mpr e))
        have inner : ∀ e x fu' S', x + e = A.2.1 → e < fu' → fr (fun i _ => i = 25) S S' → (∀ t, t < 64 → S'.2 25 t = lN (fb_sm (pu_cy A c t) s + fb_sm (pu_cx A c t s) x)) → pw (X7_countOneLetterMore_29 (fun S v0 v1 => X7_countOneLetterMore_10 fu S v0 v1) fu' S' 20 (nI s) (nI x)) (fun S' => (∀ t, t < 64 → S'.2 24 t = lN (fb_sm (pu_cy A c t) 64)) ∧ fr (fun i _ => i = 24 ∨ i = 25) S S') := by
          intro e
          induction e with
          | zero =>
            intro x fu' S' hx hfu' hf hn
            obtain ⟨fu', rfl⟩ : ∃ z, fu' = z + 1 := ⟨fu' - 1, by omega⟩
            have : x = A.2.1 := by omega
            subst this
            rw [X7_countOneLetterMore_29, (hf _ _ (by omega)).1, hl.1, nI_1]
            exact pw_t (nI_le (Nat.le_refl _) (by omega)) (pw_bl (ih (s + 1) fu S' (by omega) (by omega) hf (fun t ht => by rw [fb_sm_succ]; exact hn t ht)))
          | succ e ih2 =>
            intro x fu' S' hx hfu' hf hn
            obtain ⟨fu', rfl⟩ : ∃ z, fu' = z + 1 := ⟨fu' - 1, by omega⟩
            have hxm : x < A.2.1 := by omega
            have hlt := (pu_sp1_lt hA x s).2
            have hl' : pu_ld S' 20 A := pu_ld_c hl (fun i k h => hf i k (by omega))
            have h24 : S'.2 (20 + 4) s = lN (c s) := by rw [(hf _ _ (by omega)).2]; exact hc s hs64
            rw [X7_countOneLetterMore_29, hl'.1, nI_1 x]
            refine pw_f (nI_ge hxm (by omega)) (pw_be (X_st hA hl' hxm hsn) (pw_gd (fy_ix_nI hlt (by decide)) (pw_gd (fy_ix_nI hs64 (by decide)) (pw_gd (fy_ix_nI hlt (by decide)) (pw_bl (pw_bl ?_))))))
            rw [nI_clamp (by omega), nI_clamp (by omega), h24]
            refine ih2 (x + 1) fu' _ (by omega) (by omega) (fr_L hf rfl) (fun t ht => ?_)
            rw [fb_sm_succ]
            by_cases et : pu_sp1 A x s = t
            · have : pu_cx A c t s x = c s := by unfold pu_cx; rw [if_pos et]
              rw [this, et, rd_Ly, hn t ht, lN_add, Nat.add_assoc]
            · have : pu_cx A c t s x = 0 := by unfold pu_cx; rw [if_neg et]
              rw [this, Nat.add_zero, rd_Ln (.inr (fun h => et h.symm))]; exact hn t ht
        exact inner A.2.1 0 fy_fu S' (by omega) (fz_fu (by omega)) hf (fun t ht => by rw [hn t ht]; rfl)
  rw [X7_countOneLetterMore]
  refine pw_bd (X_fillL (id := 20 + 5) (v := 0) (by decide)) (fun S1 s1 => ?_)
  exact L 64 0 fy_fu S1 (by omega) (fz_fu (by omega)) s1.2 (fun t ht => s1.1 t ht)
def pu_tot (A : pu_A) (len : Nat) : Nat := fb_sm (fun s => if pu_ev (A.2.2.2.2 0) s then pu_cn A len s else 0) 64
theorem X_count {S : fy_S} {A : pu_A} {len : Nat} (hA : pu_wA A) (hl : pu_ld S 20 A) (hlen : len ≤ 20) : pw (X7_countAccepted S 20 (nI len)) (fun R => R.2 = lN (pu_tot A len) ∧ fr (fun i _ => i = 24 ∨ i = 25) S R.1) := by
  have h64 := pu_2n hA.2.1
  have hF : A.2.2.1 < 64 := Nat.lt_of_lt_of_le hA.2.2.2.2.1 h64
  have rcn : ∀ i s, pu_cn A i s ≠ 0 → s < 2 ^ A.1 := fun i s h => by
    by_cases hr : pu_rc A s
    · exact pu_rc_lt hA hr
    · exact absurd (pu_cn_rc i s hr) h
  have E : ∀ d s fu S', s + d = 64 → d < fu → fr (fun i _ => i = 24 ∨ i = 25) S S' → (∀ s, s < 64 → S'.2 24 s = lN (pu_cn A len s)) → pw (X7_countAccepted_40 fu S' 20 (lN (fb_sm (fun s => if pu_ev (A.2.2.2.2 0) s then pu_cn A len s else 0) s)) (nI s)) (fun R => R.2 = lN (pu_tot A len) ∧ fr (fun i _ => i = 24 ∨ i = 25) S R.1) := by
    intro d
    induction d with
    | zero =>
      intro s fu S' hs hfu hf hc
      obtain ⟨fu, rfl⟩ : ∃ z, fu = z + 1 := ⟨fu - 1, by omega⟩
      have : s = 64 := by omega
      subst this
      rw [X7_countAccepted_40]
      exact pw_t (by decide) (pw_s ⟨rfl, hf⟩)
    | succ d ih =>
      intro s fu S' hs hfu hf hc
      obtain ⟨fu, rfl⟩ : ∃ z, fu = z + 1 := ⟨fu - 1, by omega⟩
      have ih := ih (s + 1) fu S' (by omega) (by omega) hf hc
      have hs64 : s < 64 := by omega
      rw [X7_countAccepted_40, nI_1, (hf _ _ (by omega)).2, hl.2.2.1]
      refine pw_f (nI_ge (b := 64) (by omega) (by decide)) (pw_be (X_isIn' hs64) ?_)
      rw [lb_T _ hs64]
      rw [fb_sm_succ] at ih
      cases hb : pu_ev (A.2.2.2.2 0) s
      · rw [hb] at ih
        exact pw_t rfl (pw_bl (by simpa using ih))
      · rw [hb, if_pos rfl] at ih
        refine pw_f (by decide) (pw_gd (fy_ix_nI hs64 (by decide)) (pw_bl (pw_bl ?_)))
        rw [nI_clamp (by omega), hc s hs64, lN_add]
        exact ih
  have L : ∀ d i fu S', i + d = len → d < fu → fr (fun i _ => i = 24 ∨ i = 25) S S' → (∀ s, s < 64 → S'.2 24 s = lN (pu_cn A i s)) → pw (X7_countAccepted_20 fu S' 20 (nI len) (nI i)) (fun R => R.2 = lN (pu_tot A len) ∧ fr (fun i _ => i = 24 ∨ i = 25) S R.1) := by
    intro d
    induction d with
    | zero =>
      intro i fu S' hi hfu hf hc
      obtain ⟨fu, rfl⟩ : ∃ z, fu = z + 1 := ⟨fu - 1, by omega⟩
      have : i = len := by omega
      subst this
      rw [X7_countAccepted_20]
      exact pw_t (nI_le (Nat.le_refl _) (by omega)) (E 64 0 fy_fu S' (by omega) (fz_fu (by omega)) hf hc)
    | succ d ih =>
      intro i fu S' hi hfu hf hc
      obtain ⟨fu, rfl⟩ : ∃ z, fu = z + 1 := ⟨fu - 1, by omega⟩
      rw [X7_countAccepted_20, nI_1]
      refine pw_f (nI_ge (by omega) (by omega)) (pw_bd (X_more (c := pu_cn A i) hA (pu_ld_c hl (fun j k h => hf j k (by omega))) hc (fun s hs => pu_cn_lt hA (by omega) hs) (fun s _ h => rcn i s h)) (fun S1 s1 => pw_bl ?_))
      exact ih (i + 1) fu S1 (by omega) (by omega) (fr_t hf s1.2) (fun s hs => by rw [s1.1 s hs]; rfl)
  rw [X7_countAccepted]
  refine pw_bd (X_fillL (id := 20 + 4) (v := 0) (by decide)) (fun S1 s1 => ?_)
  rw [(s1.2 _ _ (by omega)).1, hl.2.1, nI_clamp (by omega)]
  refine pw_gd (fy_ix_nI hF (by decide)) (pw_bl (L len 0 fy_fu _ (by omega) (fz_fu (by omega)) (fr_L (fr_m s1.2 (fun i k h => .inl h)) (.inl rfl)) (fun s hs => ?_)))
  rw [pu_cn]
  by_cases e : s = A.2.2.1
  · rw [if_pos e, e, rd_Ly]; rfl
  · rw [if_neg e, rd_Ln (.inr e)]; exact s1.1 s hs
