/-! findCheapest: words of one automaton, the letter that is read last ahead -/
def pu_r1 (A : pu_A) (s : Nat) : List Nat → Nat
  | [] => s
  | y :: w => pu_sp1 A y (pu_r1 A s w)
def pu_co (A : pu_A) : List Nat → Nat
  | [] => 0
  | x :: w => A.2.2.2.1 x + pu_co A w
def pu_rs (A : pu_A) (w : List Nat) : Nat := pu_r1 A A.2.2.1 w
def pu_acc (A : pu_A) (s : Nat) : Bool := pu_ev (A.2.2.2.2 0) s
theorem pu_r1_app {A : pu_A} {s : Nat} {v : List Nat} : ∀ u : List Nat, pu_r1 A s (u ++ v) = pu_r1 A (pu_r1 A s v) u := by
  intro u
  induction u with
  | nil => rfl
  | cons y u ih => rw [List.cons_append, pu_r1, ih, pu_r1]
theorem pu_r1_lt {A : pu_A} (hA : pu_wA A) {s : Nat} (hs : s < 2 ^ A.1) : ∀ w, pu_r1 A s w < 2 ^ A.1 := by
  intro w
  cases w with
  | nil => exact hs
  | cons y w => exact (pu_sp1_lt hA y _).1
theorem pu_rs_lt {A : pu_A} (hA : pu_wA A) (w : List Nat) : pu_rs A w < 2 ^ A.1 ∧ pu_rs A w < 64 := by
  have h := pu_r1_lt hA hA.2.2.2.2.1 w
  have := pu_2n hA.2.1
  exact ⟨h, Nat.lt_of_lt_of_le h this⟩
theorem pu_co_app {A : pu_A} {v : List Nat} : ∀ u : List Nat, pu_co A (u ++ v) = pu_co A u + pu_co A v := by
  intro u
  induction u with
  | nil => rw [List.nil_append, pu_co, Nat.zero_add]
  | cons y u ih => rw [List.cons_append, pu_co, pu_co, ih, Nat.add_assoc]
theorem pu_co_b {A : pu_A} (hA : pu_wA A) : ∀ {w : List Nat}, pu_wv A.2.1 w → w.length ≤ pu_co A w ∧ pu_co A w ≤ 9 * w.length := by
  intro w
  induction w with
  | nil => intro _; exact ⟨Nat.le_refl _, Nat.le_refl _⟩
  | cons x w ih =>
    intro hv
    have h1 := ih (fun y hy => hv y (by simp [hy]))
    have hx := hv x (by simp)
    have h2 := hA.2.2.2.2.2.1 x (by have := hA.2.2.2.1; omega)
    rw [pu_co, List.length_cons]
    omega
theorem pu_cs_co {A : pu_A} : ∀ u : List Nat, pu_cs A u u.length = pu_co A u := by
  intro u
  induction u with
  | nil => rfl
  | cons x u ih =>
    rw [pu_co, ← ih]
    unfold pu_cs
    rw [List.length_cons, show u.length + 1 = 1 + u.length by omega, fb_sm_split]
    congr 1
    · rw [fb_sm_succ]; show 0 + _ = _; rw [Nat.zero_add]; rfl
    · exact fb_sm_cong (fun k _ => by rw [show 1 + k = k + 1 by omega]; rfl)
/-- the order of words: by cost, by length, by letters -/
def pu_l3 (A : pu_A) (a b : List Nat) : Prop := pu_co A a < pu_co A b ∨ (pu_co A a = pu_co A b ∧ (a.length < b.length ∨ (a.length = b.length ∧ pu_ll a b)))
theorem pu_l3_r {A : pu_A} (a : List Nat) : pu_l3 A a a := .inr ⟨rfl, .inr ⟨rfl, pu_ll_r a⟩⟩
theorem pu_l3_t {A : pu_A} {a b c : List Nat} (h1 : pu_l3 A a b) (h2 : pu_l3 A b c) : pu_l3 A a c := by
  rcases h1 with h1 | ⟨h1, h1' | ⟨h1', h1''⟩⟩
  · rcases h2 with h2 | ⟨h2, _⟩
    · exact .inl (by omega)
    · exact .inl (by omega)
  · rcases h2 with h2 | ⟨h2, h2' | ⟨h2', h2''⟩⟩
    · exact .inl (by omega)
    · exact .inr ⟨by omega, .inl (by omega)⟩
    · exact .inr ⟨by omega, .inl (by omega)⟩
  · rcases h2 with h2 | ⟨h2, h2' | ⟨h2', h2''⟩⟩
    · exact .inl (by omega)
    · exact .inr ⟨by omega, .inl (by omega)⟩
    · exact .inr ⟨by omega, .inr ⟨by omega, pu_ll_t h1'' h2''⟩⟩
theorem pu_l3_a {A : pu_A} {a b : List Nat} (h1 : pu_l3 A a b) (h2 : pu_l3 A b a) : a = b := by
  rcases h1 with h1 | ⟨h1, h1' | ⟨h1', h1''⟩⟩
  · rcases h2 with h2 | ⟨h2, _⟩ <;> omega
  · rcases h2 with h2 | ⟨h2, h2' | ⟨h2', h2''⟩⟩ <;> omega
  · rcases h2 with h2 | ⟨h2, h2' | ⟨h2', h2''⟩⟩
    · omega
    · omega
    · exact pu_ll_a h1'' h2''
theorem pu_l3_c {A : pu_A} {a b : List Nat} (x : Nat) (h : pu_l3 A a b) : pu_l3 A (x :: a) (x :: b) := by
  rcases h with h | ⟨h, h' | ⟨h', h''⟩⟩
  · exact .inl (by rw [pu_co, pu_co]; omega)
  · exact .inr ⟨by rw [pu_co, pu_co]; omega, .inl (by rw [List.length_cons, List.length_cons]; omega)⟩
  · exact .inr ⟨by rw [pu_co, pu_co]; omega, .inr ⟨by rw [List.length_cons, List.length_cons]; omega, .inr ⟨rfl, h''⟩⟩⟩
def pu_cbe (A : pu_A) (u : List Nat) : Prop := pu_wv A.2.1 u ∧ pu_acc A (pu_rs A u) = true ∧ ∀ w, pu_wv A.2.1 w → pu_acc A (pu_rs A w) = true → pu_l3 A u w
theorem pu_cbe_u {A : pu_A} {u v : List Nat} (h : pu_cbe A u) (h' : pu_cbe A v) : u = v := pu_l3_a (h.2.2 v h'.1 h'.2.1) (h'.2.2 u h.1 h.2.1)
/-- no set twice -/
theorem pu_sho3 {A : pu_A} (hA : pu_wA A) : ∀ n w, w.length ≤ n → pu_wv A.2.1 w → ∃ w', pu_wv A.2.1 w' ∧ pu_rs A w' = pu_rs A w ∧ w'.length ≤ 63 ∧ (w' = w ∨ (pu_co A w' < pu_co A w ∧ w'.length < w.length)) := by
  intro n
  induction n with
  | zero => intro w hl hv; exact ⟨w, hv, rfl, by omega, .inl rfl⟩
  | succ n ih =>
    intro w hl hv
    by_cases h63 : w.length ≤ 63
    · exact ⟨w, hv, rfl, h63, .inl rfl⟩
    · obtain ⟨i, j, hij, hj, e⟩ := fb_twice (m := 64) (n := w.length + 1) (f := fun i => pu_rs A (w.drop i)) (fun i _ => (pu_rs_lt hA _).2) (by omega)
      have e : pu_rs A (w.drop i) = pu_rs A (w.drop j) := e
      have hsub : pu_wv A.2.1 (w.take i ++ w.drop j) := fun y hy => (List.mem_append.mp hy).elim (fun h => hv y (List.mem_of_mem_take h)) (fun h => hv y (List.mem_of_mem_drop h))
      have hrs : pu_rs A (w.take i ++ w.drop j) = pu_rs A w := by
        unfold pu_rs at e ⊢
        rw [pu_r1_app, ← e, ← pu_r1_app, List.take_append_drop]
      have hlen : (w.take i ++ w.drop j).length < w.length := by rw [List.length_append, List.length_take, List.length_drop]; omega
      have hco : pu_co A (w.take i ++ w.drop j) < pu_co A w := by
        have e1 : pu_co A w = pu_co A (w.take i) + pu_co A (w.drop i) := by rw [← pu_co_app, List.take_append_drop]
        have e2 : pu_co A (w.drop i) = pu_co A ((w.drop i).take (j - i)) + pu_co A (w.drop j) := by
          rw [show w.drop j = (w.drop i).drop (j - i) by rw [List.drop_drop]; congr 1; omega, ← pu_co_app, List.take_append_drop]
        have e3 := (pu_co_b hA (w := (w.drop i).take (j - i)) (fun y hy => hv y (List.mem_of_mem_drop (List.mem_of_mem_take hy)))).1
        have e4 : ((w.drop i).take (j - i)).length = j - i := by rw [List.length_take, List.length_drop]; omega
        rw [pu_co_app]
        omega
      obtain ⟨w', g1, g2, g3, g4⟩ := ih (w.take i ++ w.drop j) (by omega) hsub
      refine ⟨w', g1, by rw [g2, hrs], g3, .inr ?_⟩
      rcases g4 with g4 | g4
      · rw [g4]; exact ⟨hco, hlen⟩
      · omega
theorem pu_sho4 {A : pu_A} (hA : pu_wA A) {w : List Nat} (hv : pu_wv A.2.1 w) : ∃ w', pu_wv A.2.1 w' ∧ pu_rs A w' = pu_rs A w ∧ w'.length ≤ 63 ∧ (w' = w ∨ (pu_co A w' < pu_co A w ∧ w'.length < w.length)) := pu_sho3 hA w.length w (Nat.le_refl _) hv
/-- the best word of a set is short -/
theorem pu_b63 {A : pu_A} (hA : pu_wA A) {w : List Nat} (hv : pu_wv A.2.1 w) (hb : ∀ w', pu_wv A.2.1 w' → pu_rs A w' = pu_rs A w → pu_l3 A w w') : w.length ≤ 63 := by
  obtain ⟨w', g1, g2, g3, g4⟩ := pu_sho4 hA hv
  rcases g4 with g4 | g4
  · rw [← g4]; exact g3
  · have := hb w' g1 g2
    rcases this with h | ⟨h, _⟩ <;> omega
/-! prices -/
def pu_pr1 (A : pu_A) (x : Nat) : Nat := 1000 * A.2.2.2.1 x + 1
def pu_pri (A : pu_A) (w : List Nat) : Nat := 1000 * pu_co A w + w.length
theorem pu_pri_c {A : pu_A} {x : Nat} {w : List Nat} : pu_pri A (x :: w) = pu_pri A w + pu_pr1 A x := by
  unfold pu_pri pu_pr1
  rw [pu_co, List.length_cons]
  omega
theorem pu_pri_b {A : pu_A} (hA : pu_wA A) {w : List Nat} (hv : pu_wv A.2.1 w) (hl : w.length ≤ 66) : pu_pri A w ≤ 600000 := by
  have := (pu_co_b hA hv).2
  unfold pu_pri
  omega
def pu_pf (S : fy_S) (P : Nat → Nat) : Prop := ∀ s, s < 64 → S.1 33 s = nI (P s) ∧ P s ≤ 1000000000
def pu_ps_ (A : pu_A) (P : Nat → Nat) : Prop := ∀ s, s < 64 → P s < 1000000000 → ∃ w, pu_wv A.2.1 w ∧ pu_rs A w = s ∧ pu_pri A w = P s
theorem X_al3 : ∀ a, a < 7 → X_al (38 + 41 * a + 1) = 3 := by decide +kernel
theorem X_prc {S : fy_S} {a x : Nat} {A : pu_A} (ha : a < 7) (hX : pu_XA S (38 + 41 * a) A) (hx : x < 3) : X1_priceOf S (38 + 41 * a + 1) (nI x) = some (nI (pu_pr1 A x)) := by
  rw [X1_priceOf, X_al3 a ha, X1_priceOf_17, X1_priceOf_17, nI_clamp (by omega), hX.2.2.2.1 x hx]
  refine pw_eq (pw_f (nI_pos (by omega)) (pw_f (show ¬ nI 3 ≤ nI x from nI_ge hx (by decide)) (pw_gd (fy_ix_nI hx (by decide)) (pw_s ?_))))
  rw [show nI (A.2.2.2.1 x) * (1000 : Int32) = nI (A.2.2.2.1 x * 1000) from pk_mul _ 1000, nI_1]
  unfold pu_pr1
  rw [Nat.mul_comm]
def pu_c3 (i k : Nat) : Prop := i = 33
/-- one sweep -/
theorem X_low {S : fy_S} {a : Nat} {A : pu_A} {P0 : Nat → Nat} (ha : a < 7) (hA : pu_wA A) (hX : pu_XA S (38 + 41 * a) A) (hl : pu_ld S 20 A) (hp : pu_pf S P0) (hs : pu_ps_ A P0) : pw (X1_lowerPrices S 20 (38 + 41 * a + 1)) (fun R => ∃ P, pu_pf R.1 P ∧ pu_ps_ A P ∧ (∀ s, s < 64 → P s ≤ P0 s) ∧ (∀ s x, s < 64 → x < A.2.1 → P0 s < 1000000000 → P (pu_sp1 A x s) ≤ P0 s + pu_pr1 A x) ∧ (R.2 = 0 ∨ R.2 = 1) ∧ (R.2 = 0 → ∀ s, s < 64 → P s = P0 s) ∧ fr pu_c3 S R.1) := by
  have hm3 : A.2.1 ≤ 3 := hA.2.2.2.1
  have h64 := pu_2n hA.2.1
  have mvX : ∀ S', fr pu_c3 S S' → pu_XA S' (38 + 41 * a) A := fun S' f => pu_XA_c hX (fun i k g1 g2 => f i k (by unfold pu_c3; omega))
  have mvl : ∀ S', fr pu_c3 S S' → pu_ld S' 20 A := fun S' f => pu_ld_c hl (fun i k h => f i k (by unfold pu_c3; omega))
  have hpr : ∀ x, x < A.2.1 → pu_pr1 A x ≤ 9001 := fun x hx => by
    have := hA.2.2.2.2.2.1 x (by omega)
    unfold pu_pr1
    omega
  have L : ∀ d s fu S' (ch : Int32) P, s + d = 64 → d < fu → fr pu_c3 S S' → pu_pf S' P → pu_ps_ A P → (∀ t, t < 64 → P t ≤ P0 t) → (∀ t x, t < s → x < A.2.1 → P0 t < 1000000000 → P (pu_sp1 A x t) ≤ P0 t + pu_pr1 A x) → (ch = 0 ∨ ch = 1) → (ch = 0 → ∀ t, t < 64 → P t = P0 t) → pw (X1_lowerPrices_5 fu S' 20 (38 + 41 * a + 1) ch (nI s)) (fun R => ∃ P, pu_pf R.1 P ∧ pu_ps_ A P ∧ (∀ s, s < 64 → P s ≤ P0 s) ∧ (∀ s x, s < 64 → x < A.2.1 → P0 s < 1000000000 → P (pu_sp1 A x s) ≤ P0 s + pu_pr1 A x) ∧ (R.2 = 0 ∨ R.2 = 1) ∧ (R.2 = 0 → ∀ s, s < 64 → P s = P0 s) ∧ fr pu_c3 S R.1) := by
    intro d
    induction d with
    | zero =>
      intro s fu S' ch P hsd hfu hf hpf hps hle hpr' hch hsame
      obtain ⟨fu, rfl⟩ : ∃ z, fu = z + 1 := ⟨fu - 1, by omega⟩
      have : s = 64 := by omega
      subst this
      rw [X1_lowerPrices_5]
      refine pw_t (by decide) (pw_gd ?_ (pw_s ⟨P, hpf, hps, hle, fun t x ht => hpr' t x ht, hch, hsame, hf⟩))
      rcases hch with h | h <;> rw [h] <;> decide
    | succ d ih =>
      intro s fu S' ch P hsd hfu hf hpf hps hle hpr' hch hsame
      obtain ⟨fu, rfl⟩ : ∃ z, fu = z + 1 := ⟨fu - 1, by omega⟩
      have hs64 : s < 64 := by omega
      rw [X1_lowerPrices_5]
      refine pw_f (nI_ge (b := 64) (by omega) (by decide)) ?_
      have inner : ∀ e x fu' S' (ch : Int32) P, x + e = A.2.1 → e < fu' → fr pu_c3 S S' → pu_pf S' P → pu_ps_ A P → (∀ t, t < 64 → P t ≤ P0 t) → (∀ t x, t < s → x < A.2.1 → P0 t < 1000000000 → P (pu_sp1 A x t) ≤ P0 t + pu_pr1 A x) → (∀ x', x' < x → P0 s < 1000000000 → P (pu_sp1 A x' s) ≤ P0 s + pu_pr1 A x') → (ch = 0 ∨ ch = 1) → (ch = 0 → ∀ t, t < 64 → P t = P0 t) → pw (X1_lowerPrices_15 (fun S v1 v2 v3 v4 => X1_lowerPrices_5 fu S v1 v2 v3 v4) fu' S' 20 (38 + 41 * a + 1) ch (nI s) (nI x)) (fun R => ∃ P, pu_pf R.1 P ∧ pu_ps_ A P ∧ (∀ s, s < 64 → P s ≤ P0 s) ∧ (∀ s x, s < 64 → x < A.2.1 → P0 s < 1000000000 → P (pu_sp1 A x s) ≤ P0 s + pu_pr1 A x) ∧ (R.2 = 0 ∨ R.2 = 1) ∧ (R.2 = 0 → ∀ s, s < 64 → P s = P0 s) ∧ fr pu_c3 S R.1) := by
        intro e
        induction e with
        | zero =>
          intro x fu' S' ch P hxe hfu' hf hpf hps hle hpr' hx' hch hsame
          obtain ⟨fu', rfl⟩ : ∃ z, fu' = z + 1 := ⟨fu' - 1, by omega⟩
          have : x = A.2.1 := by omega
          subst this
          rw [X1_lowerPrices_15, (mvl S' hf).1, nI_1 s]
          refine pw_t (nI_le (Nat.le_refl _) (by omega)) (pw_bl (ih (s + 1) fu S' ch P (by omega) (by omega) hf hpf hps hle (fun t x ht hx hlt => ?_) hch hsame))
          by_cases et : t = s
          · rw [et] at hlt ⊢; exact hx' x hx hlt
          · exact hpr' t x (by omega) hx hlt
        | succ e ih2 =>
          intro x fu' S' ch P hxe hfu' hf hpf hps hle hpr' hx' hch hsame
          obtain ⟨fu', rfl⟩ : ∃ z, fu' = z + 1 := ⟨fu' - 1, by omega⟩
          have hxm : x < A.2.1 := by omega
          have hps64 := hpf s hs64
          rw [X1_lowerPrices_15, (mvl S' hf).1, nI_clamp (by omega), hps64.1, nI_1 s, nI_1 x]
          refine pw_f (nI_ge hxm (by omega)) (pw_gd (fy_ix_nI hs64 (by decide)) ?_)
          by_cases hun : 1000000000 ≤ P s
          · refine pw_t (nI_le (a := 1000000000) hun (by omega)) (pw_bl (ih (s + 1) fu S' ch P (by omega) (by omega) hf hpf hps hle (fun t x ht hx hlt => ?_) hch hsame))
            by_cases et : t = s
            · rw [et] at hlt
              have := hle s hs64
              omega
            · exact hpr' t x (by omega) hx hlt
          · have hplt : P s < 1000000000 := by omega
            obtain ⟨w, w1, w2, w3⟩ := hps s hs64 hplt
            have hs2 : s < 2 ^ A.1 := by rw [← w2]; exact (pu_rs_lt hA w).1
            have hnx := (pu_sp1_lt hA x s).2
            have hpn := hpf _ hnx
            have hb := hpr x hxm
            refine pw_f (nI_ge (b := 1000000000) hplt (by decide)) (pw_gd (fy_ix_nI hs64 (by decide)) (pw_be (X_prc ha (mvX S' hf) (by omega)) (pw_bl (pw_be (X_st hA (mvl S' hf) hxm hs2) (pw_gd (fy_ix_nI hnx (by decide)) ?_)))))
            rw [nI_add, nI_clamp (by omega), hpn.1]
            by_cases hlow : P (pu_sp1 A x s) ≤ P s + pu_pr1 A x
            · refine pw_t (nI_le hlow (by omega)) (pw_bl (ih2 (x + 1) fu' S' ch P (by omega) (by omega) hf hpf hps hle hpr' (fun x' hx'' hlt => ?_) hch hsame))
              by_cases ex : x' = x
              · rw [ex]
                have := hle s hs64
                omega
              · exact hx' x' (by omega) hlt
            · refine pw_f (nI_ge (by omega) (by omega)) (pw_gd (fy_ix_nI hnx (by decide)) (pw_bl (pw_bl ?_)))
              have less : ∀ t, (if t = pu_sp1 A x s then P s + pu_pr1 A x else P t) ≤ P t := fun t => by
                by_cases et : t = pu_sp1 A x s
                · rw [if_pos et, et]; omega
                · rw [if_neg et]; exact Nat.le_refl _
              refine ih2 (x + 1) fu' _ 1 (fun t => if t = pu_sp1 A x s then P s + pu_pr1 A x else P t) (by omega) (by omega) (fr_I hf rfl) (fun t ht => ?_) (fun t ht hlt => ?_) (fun t ht => Nat.le_trans (less t) (hle t ht)) (fun t x2 ht hx2 hlt => Nat.le_trans (less _) (hpr' t x2 ht hx2 hlt)) (fun x' hx'' hlt => ?_) (.inr rfl) (fun h => absurd h (by decide))
              · by_cases et : t = pu_sp1 A x s
                · rw [et, rd_y]; simp only [if_true]; exact ⟨trivial, by omega⟩
                · rw [rd_n (by omega)]; simp only [if_neg et]; exact hpf t ht
              · by_cases et : t = pu_sp1 A x s
                · simp only [if_pos et] at hlt ⊢
                  refine ⟨x :: w, fun y hy => (List.mem_cons.mp hy).elim (fun e => by rw [e]; exact hxm) (w1 y), ?_, by rw [pu_pri_c, w3]⟩
                  show pu_sp1 A x (pu_rs A w) = t
                  rw [w2, et]
                · simp only [if_neg et] at hlt ⊢
                  exact hps t ht hlt
              · by_cases ex : x' = x
                · rw [ex]
                  simp only [if_true]
                  have := hle s hs64
                  omega
                · exact Nat.le_trans (less _) (hx' x' (by omega) hlt)
      exact inner A.2.1 0 fy_fu S' ch P (by omega) (fz_fu (by omega)) hf hpf hps hle hpr' (fun x' hx' => absurd hx' (Nat.not_lt_zero x')) hch hsame
  exact L 64 0 fy_fu S 0 P0 (by omega) (fz_fu (by omega)) fr_r hp hs (fun t _ => Nat.le_refl _) (fun t x ht => absurd ht (Nat.not_lt_zero t)) (.inl rfl) (fun _ t _ => rfl)
