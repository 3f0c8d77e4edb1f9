/-! print: the reference; the call -/
def pu_gn {α : Type} (lf : Nat → α) (jn : Nat → α → α → α) (d : α) (f : Nat → Nat) (j : Nat) : α := (pu_st lf jn f (j + 1)).headD d
def pu_zg {α : Type} (g : Nat → α) : List (Nat × Nat) → List α → Prop
  | [], [] => True
  | x :: t, y :: u => y = g x.1 ∧ pu_zg g t u
  | _, _ => False
theorem pu_zg_k {α : Type} {lf : Nat → α} {jn : Nat → α → α → α} {d : α} {f : Nat → Nat} {n : Nat} (hv : pu_va f n) : ∀ k, k ≤ n → pu_zg (pu_gn lf jn d f) (pu_rt f k) (pu_st lf jn f k) := by
  intro k
  induction k with
  | zero => intro _; trivial
  | succ k ih =>
    intro hk
    have ih := ih (by omega)
    by_cases h : f k < 8
    · have e : pu_gn lf jn d f k = lf (f k) := by unfold pu_gn; rw [pu_st_l h]; rfl
      rw [pu_rt_l h, pu_st_l h]; exact ⟨e.symm, ih⟩
    · have h2 := hv k (by omega) (by omega)
      obtain ⟨r, l, t, e⟩ := pu_len2 (show 2 ≤ (pu_rt f k).length by rw [pu_rt_len]; exact h2)
      obtain ⟨r', l', t', e'⟩ := pu_len2 (show 2 ≤ (pu_st lf jn f k).length by rw [pu_st_dp]; exact h2)
      have e2 : pu_gn lf jn d f k = jn (f k) l' r' := by unfold pu_gn; rw [pu_st_j h e']; rfl
      rw [e, e'] at ih
      rw [pu_rt_j h e, pu_st_j h e']
      exact ⟨e2.symm, ih.2.2⟩
theorem pu_gn_l {α : Type} {lf : Nat → α} {jn : Nat → α → α → α} {d : α} {f : Nat → Nat} {k : Nat} (h : f k < 8) : pu_gn lf jn d f k = lf (f k) := by unfold pu_gn; rw [pu_st_l h]; rfl
theorem pu_gn_j {α : Type} {lf : Nat → α} {jn : Nat → α → α → α} {d : α} {f : Nat → Nat} {n k : Nat} (hv : pu_va f n) (hk : k < n) (h : ¬ f k < 8) : pu_lo f k + 1 < k ∧ pu_gn lf jn d f k = jn (f k) (pu_gn lf jn d f (pu_lo f k)) (pu_gn lf jn d f (k - 1)) := by
  have h2 := hv k hk (by omega)
  obtain ⟨r, l, t, e⟩ := pu_len2 (show 2 ≤ (pu_rt f k).length by rw [pu_rt_len]; exact h2)
  obtain ⟨r', l', t', e'⟩ := pu_len2 (show 2 ≤ (pu_st lf jn f k).length by rw [pu_st_dp]; exact h2)
  have e2 : pu_gn lf jn d f k = jn (f k) l' r' := by unfold pu_gn; rw [pu_st_j h e']; rfl
  have hz := pu_zg_k (lf := lf) (jn := jn) (d := d) hv k (by omega)
  have hc := pu_rt_ch hv k (by omega)
  rw [e, e'] at hz
  rw [e] at hc
  have hlo : pu_lo f k = l.1 := by unfold pu_lo; rw [e]
  obtain ⟨c1, c2, c3, c4, c5⟩ := hc
  obtain ⟨z1, z2, z3⟩ := hz
  refine ⟨by omega, ?_⟩
  rw [e2, z1, z2, hlo, show k - 1 = r.1 by omega]
def pu_tn (f : Nat → Nat) (j : Nat) : pu_t := pu_gn pu_tf pu_tj (0, []) f j
theorem pu_tn_1 {f : Nat → Nat} {n k : Nat} (hv : pu_va f n) (hk : k < n) : (pu_tn f k).1 = f k := by
  unfold pu_tn
  by_cases h : f k < 8
  · rw [pu_gn_l h]; rfl
  · rw [(pu_gn_j hv hk h).2]; rfl
theorem pu_tn_len {f : Nat → Nat} {n k : Nat} (hv : pu_va f n) (hk : k < n) : 1 ≤ (pu_tn f k).2.length := by
  unfold pu_tn
  by_cases h : f k < 8
  · rw [pu_gn_l h]; exact Nat.le_refl _
  · rw [(pu_gn_j hv hk h).2]
    show 1 ≤ (_ ++ _ :: _ : List Nat).length
    rw [List.length_append, List.length_cons]
    omega
/-! what is still to be told: nodes, and signs -/
def pu_iv : Nat ⊕ Nat → Int32
  | .inl k => nI k
  | .inr c => -(nI c)
def pu_is (f : Nat → Nat) : Nat ⊕ Nat → List Nat
  | .inl k => (pu_tn f k).2
  | .inr c => [c]
def pu_zs (f : Nat → Nat) : List (Nat ⊕ Nat) → List Nat
  | [] => []
  | x :: t => pu_is f x ++ pu_zs f t
def pu_iw (f : Nat → Nat) : Nat ⊕ Nat → Nat
  | .inl k => 2 * (pu_tn f k).2.length
  | .inr _ => 1
def pu_zw (f : Nat → Nat) : List (Nat ⊕ Nat) → Nat
  | [] => 0
  | x :: t => pu_iw f x + pu_zw f t
def pu_io (n : Nat) : Nat ⊕ Nat → Prop
  | .inl k => k < n
  | .inr c => 0 < c ∧ c < 128
def pu_zk (S : fy_S) : List (Nat ⊕ Nat) → Prop
  | [] => True
  | x :: t => S.1 12 t.length = pu_iv x ∧ pu_zk S t
theorem pu_zk_c {S S' : fy_S} {n : Nat} (f : ∀ k, k < n → S'.1 12 k = S.1 12 k) : ∀ {l : List (Nat ⊕ Nat)}, l.length ≤ n → pu_zk S l → pu_zk S' l := by
  intro l
  induction l with
  | nil => intro _ _; trivial
  | cons x t ih =>
    intro hl h
    have hl : t.length + 1 ≤ n := hl
    exact ⟨by rw [f _ (by omega)]; exact h.1, ih (by omega) h.2⟩
theorem pu_zs_len {f : Nat → Nat} {n : Nat} (hv : pu_va f n) : ∀ {l : List (Nat ⊕ Nat)}, (∀ x, x ∈ l → pu_io n x) → l.length ≤ (pu_zs f l).length := by
  intro l
  induction l with
  | nil => intro _; exact Nat.le_refl _
  | cons x t ih =>
    intro h
    have ih := ih (fun y hy => h y (by simp [hy]))
    rw [pu_zs, List.length_append, List.length_cons]
    have : 1 ≤ (pu_is f x).length := by
      cases x with
      | inl k => exact pu_tn_len hv (h (.inl k) (by simp))
      | inr c => exact Nat.le_refl _
    omega
def pu_sk2 (S : fy_S) (Z : List (Nat ⊕ Nat)) : Prop := S.1 0 19 = nI Z.length ∧ pu_zk S Z
theorem M_put {S : fy_S} {Z : List (Nat ⊕ Nat)} {x : Nat ⊕ Nat} {v : Int32} (h : pu_sk2 S Z) (hv : v = pu_iv x) (hz : Z.length < 200) : pw (M_puts S v) (fun S' => pu_sk2 S' (x :: Z) ∧ fr (fun i k => (i = 0 ∧ k = 19) ∨ i = 12) S S') := by
  rw [M_puts, h.1, nI_clamp (by omega)]
  refine pw_gd (fy_ix_nI hz (by decide)) (pw_bl (pw_bl (pw_s ?_)))
  rw [rd_n (by omega), h.1, nI_1]
  exact ⟨⟨rd_y, by rw [rd_n (by omega), rd_y, hv], pu_zk_c (n := Z.length) (fun k hk => by rw [rd_n (by omega), rd_n (by omega)]) (Nat.le_refl _) h.2⟩, fr_I (fr_I fr_r (.inr rfl)) (.inl ⟨rfl, rfl⟩)⟩
def pu_pp (b : Bool) (k : Nat) (Z : List (Nat ⊕ Nat)) : List (Nat ⊕ Nat) := if b then .inr 40 :: .inl k :: .inr 41 :: Z else .inl k :: Z
theorem M_putP {S : fy_S} {Z : List (Nat ⊕ Nat)} {k : Nat} {v : Int32} (b : Bool) (hb : v = if b then 1 else 0) (h : pu_sk2 S Z) (hz : (pu_pp b k Z).length ≤ 200) : pw (M_putsPart S (nI k) v) (fun S' => pu_sk2 S' (pu_pp b k Z) ∧ fr (fun i k => (i = 0 ∧ k = 19) ∨ i = 12) S S') := by
  subst hb
  rw [M_putsPart]
  cases b
  · have hz : Z.length + 1 ≤ 200 := hz
    refine pw_t rfl ?_
    rw [M_putsPart_10]
    exact pw_bd (M_put (x := .inl k) h rfl (by omega)) (fun S1 s1 => pw_t rfl (pw_s s1))
  · have hz : Z.length + 1 + 1 + 1 ≤ 200 := hz
    refine pw_f (by decide) (pw_bd (M_put (x := .inr 41) h (by decide) (by omega)) (fun S1 s1 => ?_))
    rw [M_putsPart_10]
    refine pw_bd (M_put (x := .inl k) s1.1 rfl (by show Z.length + 1 < 200; omega)) (fun S2 s2 => pw_f (by decide) (pw_bd (M_put (x := .inr 40) s2.1 (by decide) (by show Z.length + 1 + 1 < 200; omega)) (fun S3 s3 => pw_s ⟨s3.1, fr_t s1.2 (fr_t s2.2 s3.2)⟩)))
theorem pu_pp_s {f : Nat → Nat} {b : Bool} {k : Nat} {Z : List (Nat ⊕ Nat)} : pu_zs f (pu_pp b k Z) = pu_tp b (pu_tn f k).2 ++ pu_zs f Z := by
  cases b
  · rfl
  · show [40] ++ ((pu_tn f k).2 ++ ([41] ++ pu_zs f Z)) = 40 :: ((pu_tn f k).2 ++ [41]) ++ pu_zs f Z
    simp
theorem pu_pp_w {f : Nat → Nat} {b : Bool} {k : Nat} {Z : List (Nat ⊕ Nat)} : pu_zw f (pu_pp b k Z) + (pu_tn f k).2.length ≤ 2 * (pu_tp b (pu_tn f k).2).length + pu_zw f Z - (if b then 2 else 0) + (pu_tn f k).2.length := by
  cases b
  · show 2 * (pu_tn f k).2.length + pu_zw f Z + _ ≤ 2 * (pu_tn f k).2.length + pu_zw f Z - 0 + _
    omega
  · show 1 + (2 * (pu_tn f k).2.length + (1 + pu_zw f Z)) + _ ≤ 2 * (40 :: ((pu_tn f k).2 ++ [41])).length + pu_zw f Z - 2 + _
    simp
    omega
theorem pu_pp_wl {f : Nat → Nat} {b : Bool} {k : Nat} {Z : List (Nat ⊕ Nat)} : pu_zw f (pu_pp b k Z) ≤ 2 * (pu_tp b (pu_tn f k).2).length + pu_zw f Z := by
  have := pu_pp_w (f := f) (b := b) (k := k) (Z := Z)
  omega
def pu_mp (i k : Nat) : Prop := (i = 0 ∧ (k = 18 ∨ k = 19)) ∨ i = 12 ∨ i = 13
def pu_sM (S : fy_S) (L : List Nat) : Prop := S.1 0 18 = nI L.length ∧ ∀ i v, L[i]? = some v → S.1 13 i = nI v
theorem pu_sM_a {S : fy_S} {L : List Nat} {c : Nat} (h : pu_sM S L) : pu_sM (fy_sI (fy_sI S 13 L.length (nI c)) 0 18 (nI (L.length + 1))) (L ++ [c]) := by
  refine ⟨by rw [rd_y]; simp, fun i v hv => ?_⟩
  rw [rd_n (by omega)]
  by_cases e : i = L.length
  · subst e
    rw [List.getElem?_append_right (Nat.le_refl _), Nat.sub_self] at hv
    cases hv
    rw [rd_y]
  · have hlt : i < (L ++ [c]).length := (List.getElem?_eq_some_iff.mp hv).1
    simp at hlt
    rw [List.getElem?_append_left (by omega)] at hv
    rw [rd_n (by omega)]
    exact h.2 i v hv
theorem pu_neg0 : ∀ c, c < 128 → 0 < c → -(nI c) < 0 := by
  have : ∀ c, c < 128 → (decide (c = 0) || decide (-(nI c) < 0)) = true := by decide +kernel
  intro c h1 h2
  have := this c h1
  simp only [Bool.or_eq_true, decide_eq_true_eq] at this
  exact this.resolve_left (by omega)
theorem M_pr {S : fy_S} {a j n : Nat} {q : pu_q} {T : List Nat} (ha : a < 7) (hj : j < 19) (hn : n ≤ 6) (hq : pu_ok n q) (hT : T.length ≤ 120) : ∀ w fu S' Z P, pu_zw q.2 Z ≤ w → w < fu → fr pu_mp S S' → pu_MF S' a j q → (∀ i, i < q.1 → 8 ≤ q.2 i → S'.1 10 i = nI (pu_lo q.2 i)) → pu_sk2 S' Z → pu_sM S' P → (∀ x, x ∈ Z → pu_io q.1 x) → P ++ pu_zs q.2 Z = T → pw (M_print_62 fu S' (nI (40 * (19 * a + j)))) (fun R => R.2 = nI T.length ∧ pu_sM R.1 T ∧ fr pu_mp S R.1) := by
  have hv := pu_ok_va hq
  have h40 := hq.2.1
  intro w
  induction w with
  | zero =>
    intro fu S' Z P hw hfu hf hm hlo hz hp hio hPT
    obtain ⟨fu, rfl⟩ : ∃ z, fu = z + 1 := ⟨fu - 1, by omega⟩
    cases Z with
    | nil =>
      rw [M_print_62, hz.1]
      have e : P = T := by rw [← hPT]; simp [pu_zs]
      subst e
      exact pw_t (by decide) (pw_s ⟨hp.1, hp, hf⟩)
    | cons x t =>
      exfalso
      rw [pu_zw] at hw
      have hx := hio x (by simp)
      cases x with
      | inl k =>
        have := pu_tn_len hv (show k < q.1 from hx)
        have hw : 2 * (pu_tn q.2 k).2.length + pu_zw q.2 t ≤ 0 := hw
        omega
      | inr c =>
        have hw : 1 + pu_zw q.2 t ≤ 0 := hw
        omega
  | succ w ih =>
    intro fu S' Z P hw hfu hf hm hlo hz hp hio hPT
    obtain ⟨fu, rfl⟩ : ∃ z, fu = z + 1 := ⟨fu - 1, by omega⟩
    cases Z with
    | nil =>
      rw [M_print_62, hz.1]
      have e : P = T := by rw [← hPT]; simp [pu_zs]
      subst e
      exact pw_t (by decide) (pw_s ⟨hp.1, hp, hf⟩)
    | cons x t =>
      have hx := hio x (by simp)
      have hzl := pu_zs_len hv hio
      have hTl : P.length + (pu_zs q.2 (x :: t)).length = T.length := by rw [← hPT, List.length_append]
      have hzl : t.length + 1 ≤ (pu_zs q.2 (x :: t)).length := hzl
      have hz1 : S'.1 0 19 = nI (t.length + 1) := hz.1
      have hz2 : S'.1 12 t.length = pu_iv x := hz.2.1
      have hiot : ∀ y, y ∈ t → pu_io q.1 y := fun y hy => hio y (by simp [hy])
      rw [M_print_62, hz1]
      refine pw_f (nI_nle (by omega) (by omega)) (pw_bl ?_)
      rw [nI_pred, rd_y, nI_clamp (by omega), rd_n (by omega), hz2]
      refine pw_gd (fy_ix_nI (by omega) (by decide)) ?_
      have hz' : pu_sk2 (fy_sI S' 0 19 (nI t.length)) t := ⟨rd_y, pu_zk_c (n := t.length) (fun k hk => rd_n (by omega)) (Nat.le_refl _) hz.2.2⟩
      have hp' : pu_sM (fy_sI S' 0 19 (nI t.length)) P := ⟨by rw [rd_n (by omega)]; exact hp.1, fun i v hv => by rw [rd_n (by omega)]; exact hp.2 i v hv⟩
      have hm' : pu_MF (fy_sI S' 0 19 (nI t.length)) a j q := pu_l_c hm (rd_n (by omega)) (fun k _ => rd_n (by omega))
      have hlo' : ∀ i, i < q.1 → 8 ≤ q.2 i → (fy_sI S' 0 19 (nI t.length)).1 10 i = nI (pu_lo q.2 i) := fun i hi h => by rw [rd_n (by omega)]; exact hlo i hi h
      have hf' : fr pu_mp S (fy_sI S' 0 19 (nI t.length)) := fr_I hf (by unfold pu_mp; omega)
      generalize fy_sI S' 0 19 (nI t.length) = S1 at hz' hp' hm' hlo' hf' ⊢
      -- one sign is told
      have one : ∀ c, pu_zs q.2 (x :: t) = c :: pu_zs q.2 t → pu_zw q.2 t ≤ w → pw (M_print_62 fu (fy_sI (fy_sI S1 13 P.length (nI c)) 0 18 (nI (P.length + 1))) (nI (40 * (19 * a + j)))) (fun R => R.2 = nI T.length ∧ pu_sM R.1 T ∧ fr pu_mp S R.1) := by
        intro c hc hwt
        refine ih fu _ t (P ++ [c]) hwt (by omega) (fr_I (fr_I hf' (by unfold pu_mp; omega)) (by unfold pu_mp; omega)) (pu_l_c hm' (by rw [rd_n (by omega), rd_n (by omega)]) (fun k _ => by rw [rd_n (by omega), rd_n (by omega)])) (fun i hi h => by rw [rd_n (by omega), rd_n (by omega)]; exact hlo' i hi h) ⟨by rw [rd_n (by omega), rd_n (by omega)]; exact hz'.1, pu_zk_c (n := t.length) (fun k hk => by rw [rd_n (by omega), rd_n (by omega)]) (Nat.le_refl _) hz'.2⟩ (pu_sM_a hp') hiot ?_
        rw [← hPT, hc]; simp
      cases x with
      | inr c =>
        have hc : 0 < c ∧ c < 128 := hx
        have hwt : pu_zw q.2 t ≤ w := by
          have hw : 1 + pu_zw q.2 t ≤ w + 1 := hw
          omega
        refine pw_t (pu_neg0 c hc.2 hc.1) (pw_gd (fy_ix_nI (by omega) (by decide)) ?_)
        rw [hp'.1, nI_clamp (by omega), show pu_iv (.inr c) = -(nI c) from rfl, Int32.neg_neg]
        refine pw_gd (fy_ix_nI (by omega) (by decide)) (pw_bl (pw_bl ?_))
        rw [rd_n (by omega), hp'.1, nI_1]
        exact one c rfl hwt
      | inl k =>
        have hk : k < q.1 := hx
        have hc10 := pu_ok10 hn hq hk
        have h6 : S1.1 6 (40 * (19 * a + j) + k) = nI (pu_c (q.2 k)) := hm'.2 k hk
        have hw : 2 * (pu_tn q.2 k).2.length + pu_zw q.2 t ≤ w + 1 := hw
        have hlen := pu_tn_len hv hk
        refine pw_f (nI_pos (n := k) (by omega)) (pw_gd (fy_ix_nI (by omega) (by decide)) ?_)
        rw [show pu_iv (.inl k) = nI k from rfl, M_tells, nI_add, nI_clamp (by omega), h6]
        by_cases h8 : q.2 k < 8
        · have etn : (pu_tn q.2 k).2 = [pu_sg (q.2 k)] := by unfold pu_tn; rw [pu_gn_l h8]; rfl
          have tell : ∀ z : Int32, z = nI (pu_sg (q.2 k)) → pw (fy_bd (M_tells_49 S1 z (S1.1 0 18)) fun S103 => M_print_62 fu S103 (nI (40 * (19 * a + j)))) (fun R => R.2 = nI T.length ∧ pu_sM R.1 T ∧ fr pu_mp S R.1) := by
            intro z hz0
            refine pw_bd (Q := fun S2 => S2 = fy_sI (fy_sI S1 13 P.length (nI (pu_sg (q.2 k)))) 0 18 (nI (P.length + 1))) ?_ (fun S2 s2 => ?_)
            · rw [M_tells_49, hp'.1, nI_clamp (by omega), hz0]
              refine pw_gd (fy_ix_nI (by omega) (by decide)) (pw_bl (pw_bl (pw_s ?_)))
              rw [rd_n (by omega), hp'.1, nI_1]
            · rw [s2]
              refine one _ ?_ (by omega)
              show (pu_tn q.2 k).2 ++ pu_zs q.2 t = _
              rw [etn]; rfl
          have ngd : ¬ (10 : Int32) ≤ nI (pu_c (q.2 k)) := by
            have key : ∀ c, c < 8 → ¬ (10 : Int32) ≤ nI (pu_c c) := by decide +kernel
            exact key _ h8
          have unf : ∀ z : Int32, z = nI (pu_sg (q.2 k)) → (if nI (pu_c (q.2 k)) = (8 : Int32) then M_tells_49 S1 (116 : Int32) (S1.1 0 18) else if nI (pu_c (q.2 k)) = (9 : Int32) then M_tells_49 S1 (102 : Int32) (S1.1 0 18) else M_tells_49 S1 ((48 : Int32) + nI (pu_c (q.2 k))) (S1.1 0 18)) = M_tells_49 S1 z (S1.1 0 18) := by
            intro z hz0
            by_cases h6c : q.2 k < 6
            · have e1 : pu_c (q.2 k) = q.2 k := by unfold pu_c; rw [if_pos h6c]
              rw [e1, if_neg (fun e : nI (q.2 k) = (8 : Int32) => absurd ((nI_eq (b := 8) (by omega) (by decide)).mp e) (by omega)), if_neg (fun e : nI (q.2 k) = (9 : Int32) => absurd ((nI_eq (b := 9) (by omega) (by decide)).mp e) (by omega)), hz0, show (48 : Int32) + nI (q.2 k) = nI (48 + q.2 k) from nI_add 48 _]
              unfold pu_sg
              rw [if_neg (by omega), if_neg (by omega)]
            · have : q.2 k = 6 ∨ q.2 k = 7 := by omega
              rcases this with e | e
              · rw [hz0, e]; rfl
              · rw [hz0, e]; rfl
          have tl := tell _ rfl
          rw [← unf _ rfl] at tl
          refine pw_m (P := fun R => R.2 = nI T.length ∧ pu_sM R.1 T ∧ fr pu_mp S R.1) ?_ (fun R r => r)
          have e0 : (fy_gd (fy_ix (nI (40 * (19 * a + j) + k)) 5320) <| fy_bl (nI (pu_c (q.2 k))) fun x8 => if (10 : Int32) ≤ x8 then (fy_gd (fy_ix (nI k) 40) <| fy_gd (fy_ix (nI (40 * (19 * a + j)) + (S1.1 10 k)) 5320) <| fy_bl (S1.1 6 (nI (40 * (19 * a + j)) + (S1.1 10 k)).toNatClampNeg) fun x74 => fy_gd (fy_ix (nI (40 * (19 * a + j) + k) - (1 : Int32)) 5320) <| fy_bl (S1.1 6 (nI (40 * (19 * a + j) + k) - (1 : Int32)).toNatClampNeg) fun x86 => if x8 = x86 then M_tells_116 S1 (nI k) x8 x74 (1 : Int32) (nI k - (1 : Int32)) else if x8 = (10 : Int32) then (if x86 = (11 : Int32) then M_tells_116 S1 (nI k) x8 x74 (1 : Int32) (nI k - (1 : Int32)) else M_tells_116 S1 (nI k) x8 x74 (0 : Int32) (nI k - (1 : Int32))) else M_tells_116 S1 (nI k) x8 x74 (0 : Int32) (nI k - (1 : Int32))) else (if x8 = (8 : Int32) then M_tells_49 S1 (116 : Int32) (S1.1 0 18) else if x8 = (9 : Int32) then M_tells_49 S1 (102 : Int32) (S1.1 0 18) else M_tells_49 S1 ((48 : Int32) + x8) (S1.1 0 18))) = (if nI (pu_c (q.2 k)) = (8 : Int32) then M_tells_49 S1 (116 : Int32) (S1.1 0 18) else if nI (pu_c (q.2 k)) = (9 : Int32) then M_tells_49 S1 (102 : Int32) (S1.1 0 18) else M_tells_49 S1 ((48 : Int32) + nI (pu_c (q.2 k))) (S1.1 0 18)) := by
            rw [fy_gd_y (by omega) (by decide)]
            show (if (10 : Int32) ≤ nI (pu_c (q.2 k)) then _ else _) = _
            rw [if_neg ngd]
          rw [nI_clamp (by omega), e0]
          exact tl
        · obtain ⟨g1, g2⟩ := pu_gn_j (lf := pu_tf) (jn := pu_tj) (d := (0, [])) hv hk h8
          have etn : pu_tn q.2 k = pu_tj (q.2 k) (pu_tn q.2 (pu_lo q.2 k)) (pu_tn q.2 (k - 1)) := g2
          have t1 := pu_tn_1 hv (show k - 1 < q.1 by omega)
          have t2 := pu_tn_1 hv (show pu_lo q.2 k < q.1 by omega)
          have elo := hlo' k hk (by omega)
          have r10 := pu_ok10 hn hq (show k - 1 < q.1 by omega)
          have l10 := pu_ok10 hn hq (show pu_lo q.2 k < q.1 by omega)
          generalize hlod : pu_lo q.2 k = lo at g1 etn t2 elo l10
          have o89 : q.2 k = 8 ∨ q.2 k = 9 := by omega
          have ek : nI k - (1 : Int32) = nI (k - 1) := pk_sub (b := 1) (by omega)
          have ek2 : nI (40 * (19 * a + j) + k) - (1 : Int32) = nI (40 * (19 * a + j) + (k - 1)) := by rw [show 40 * (19 * a + j) + (k - 1) = 40 * (19 * a + j) + k - 1 by omega]; exact pk_sub (b := 1) (by omega)
          have h6r : S1.1 6 (40 * (19 * a + j) + (k - 1)) = nI (pu_c (q.2 (k - 1))) := hm'.2 (k - 1) (show k - 1 < q.1 by omega)
          have h6l : S1.1 6 (40 * (19 * a + j) + lo) = nI (pu_c (q.2 lo)) := hm'.2 lo (show lo < q.1 by omega)
          -- the whole of a node with parts
          have etx : (pu_tn q.2 k).2 = pu_tp (pu_lp_ (q.2 k) (q.2 lo)) (pu_tn q.2 lo).2 ++ pu_og (q.2 k) :: pu_tp (pu_rp_ (q.2 k) (q.2 (k - 1))) (pu_tn q.2 (k - 1)).2 := by
            rw [etn, ← t1, ← t2]; rfl
          generalize hbl : pu_lp_ (q.2 k) (q.2 lo) = bl at etx
          generalize hbr : pu_rp_ (q.2 k) (q.2 (k - 1)) = br at etx
          have hog : 0 < pu_og (q.2 k) ∧ pu_og (q.2 k) < 128 := by unfold pu_og; split <;> omega
          -- the new pile
          have hZs : pu_zs q.2 (pu_pp bl lo (.inr (pu_og (q.2 k)) :: pu_pp br (k - 1) t)) = pu_zs q.2 (.inl k :: t) := by
            rw [pu_pp_s]
            show _ ++ ([pu_og (q.2 k)] ++ pu_zs q.2 (pu_pp br (k - 1) t)) = (pu_tn q.2 k).2 ++ pu_zs q.2 t
            rw [pu_pp_s, etx]
            simp
          have hZw : pu_zw q.2 (pu_pp bl lo (.inr (pu_og (q.2 k)) :: pu_pp br (k - 1) t)) ≤ w := by
            have w1 := pu_pp_wl (f := q.2) (b := bl) (k := lo) (Z := .inr (pu_og (q.2 k)) :: pu_pp br (k - 1) t)
            have w2 := pu_pp_wl (f := q.2) (b := br) (k := k - 1) (Z := t)
            have w3 : pu_zw q.2 (.inr (pu_og (q.2 k)) :: pu_pp br (k - 1) t) = 1 + pu_zw q.2 (pu_pp br (k - 1) t) := rfl
            have w4 : (pu_tn q.2 k).2.length = (pu_tp bl (pu_tn q.2 lo).2).length + ((pu_tp br (pu_tn q.2 (k - 1)).2).length + 1) := by rw [etx, List.length_append, List.length_cons]
            omega
          have ppio : ∀ (b : Bool) (k' : Nat) (Z' : List (Nat ⊕ Nat)), k' < q.1 → (∀ y, y ∈ Z' → pu_io q.1 y) → ∀ y, y ∈ pu_pp b k' Z' → pu_io q.1 y := by
            intro b k' Z' hk' hZ' y hy
            cases b
            · rcases List.mem_cons.mp hy with e | e
              · rw [e]; exact hk'
              · exact hZ' y e
            · rcases List.mem_cons.mp hy with e | e
              · rw [e]; exact ⟨by decide, by decide⟩
              · rcases List.mem_cons.mp e with e | e
                · rw [e]; exact hk'
                · rcases List.mem_cons.mp e with e | e
                  · rw [e]; exact ⟨by decide, by decide⟩
                  · exact hZ' y e
          have hZio : ∀ y, y ∈ pu_pp bl lo (.inr (pu_og (q.2 k)) :: pu_pp br (k - 1) t) → pu_io q.1 y := ppio bl lo _ (by omega) (fun y hy => by
            rcases List.mem_cons.mp hy with e | e
            · rw [e]; exact hog
            · exact ppio br (k - 1) t (by omega) hiot y e)
          have hZl := pu_zs_len hv hZio
          rw [hZs] at hZl
          have lenpp : ∀ (b : Bool) (k' : Nat) (Z' : List (Nat ⊕ Nat)), Z'.length + 1 ≤ (pu_pp b k' Z').length := by
            intro b k' Z'
            cases b
            · exact Nat.le_refl _
            · show Z'.length + 1 ≤ Z'.length + 1 + 1 + 1; omega
          have hl1 := lenpp bl lo (.inr (pu_og (q.2 k)) :: pu_pp br (k - 1) t)
          have hl1 : (pu_pp br (k - 1) t).length + 1 + 1 ≤ (pu_pp bl lo (.inr (pu_og (q.2 k)) :: pu_pp br (k - 1) t)).length := hl1
          -- the end of telling
          have e161 : ∀ (S2 : fy_S) (z : Int32), z = (if bl then 1 else 0) → pu_sk2 S2 (.inr (pu_og (q.2 k)) :: pu_pp br (k - 1) t) → fr (fun i k => (i = 0 ∧ k = 19) ∨ i = 12) S1 S2 → pw (fy_bd (M_tells_161 S2 z (nI lo)) fun S103 => M_print_62 fu S103 (nI (40 * (19 * a + j)))) (fun R => R.2 = nI T.length ∧ pu_sM R.1 T ∧ fr pu_mp S R.1) := by
            intro S2 z hz0 hz2 f2
            rw [M_tells_161]
            refine pw_bd (Q := fun S3 => pu_sk2 S3 (pu_pp bl lo (.inr (pu_og (q.2 k)) :: pu_pp br (k - 1) t)) ∧ fr (fun i k => (i = 0 ∧ k = 19) ∨ i = 12) S2 S3) (pw_bd (M_putP bl hz0 hz2 (by omega)) (fun S3 s3 => pw_s s3)) (fun S3 s3 => ?_)
            have f3 := fr_t f2 s3.2
            exact ih fu S3 _ P hZw (by omega) (fr_t hf' (fr_m f3 (fun i k h => by unfold pu_mp; omega))) (pu_l_c hm' (f3 _ _ (by omega)).1 (fun t _ => (f3 _ _ (by omega)).1)) (fun i hi h => by rw [(f3 _ _ (by omega)).1]; exact hlo' i hi h) s3.1 ⟨by rw [(f3 _ _ (by omega)).1]; exact hp'.1, fun i v hv => by rw [(f3 _ _ (by omega)).1]; exact hp'.2 i v hv⟩ hZio (by rw [hZs]; exact hPT)
          have cfac : ∀ o l, o = 8 ∨ o = 9 → l < 10 → ((nI (pu_c o) = 10 ↔ o = 9) ∧ (nI (pu_c l) = 11 ↔ l = 8)) := by
            have key : ∀ l, l < 10 → (nI (pu_c l) = 11 ↔ l = 8) := by decide +kernel
            intro o l ho hl
            refine ⟨?_, key l hl⟩
            rcases ho with rfl | rfl <;> decide
          obtain ⟨ca, cb⟩ := cfac (q.2 k) (q.2 lo) o89 l10
          have e133 : ∀ (S2 : fy_S) (z : Int32), z = pu_iv (.inr (pu_og (q.2 k))) → pu_sk2 S2 (pu_pp br (k - 1) t) → fr (fun i k => (i = 0 ∧ k = 19) ∨ i = 12) S1 S2 → pw (fy_bd (M_tells_133 S2 (nI k) (nI (pu_c (q.2 k))) (nI (pu_c (q.2 lo))) z) fun S103 => M_print_62 fu S103 (nI (40 * (19 * a + j)))) (fun R => R.2 = nI T.length ∧ pu_sM R.1 T ∧ fr pu_mp S R.1) := by
            intro S2 z hz0 hz2 f2
            obtain ⟨S3, e3, s3, fs3⟩ := M_put (x := .inr (pu_og (q.2 k))) hz2 hz0 (by omega)
            have f3 := fr_t f2 fs3
            have elo3 : S3.1 10 (nI k).toNatClampNeg = nI lo := by rw [nI_clamp (by omega), (f3 _ _ (by omega)).1]; exact elo
            rw [M_tells_133, e3, fy_bd_s, fy_gd_y (by omega) (by decide), elo3]
            by_cases h9 : q.2 k = 9
            · rw [if_pos (ca.mpr h9)]
              by_cases hl8 : q.2 lo = 8
              · rw [if_pos (cb.mpr hl8)]
                exact e161 S3 1 (by rw [← hbl, h9, hl8]; rfl) s3 f3
              · rw [if_neg (fun e => hl8 (cb.mp e))]
                exact e161 S3 0 (by rw [← hbl]; unfold pu_lp_; rw [decide_eq_false hl8]; rfl) s3 f3
            · rw [if_neg (fun e => h9 (ca.mp e))]
              exact e161 S3 0 (by rw [← hbl]; unfold pu_lp_; rw [decide_eq_false h9, Bool.and_false]; rfl) s3 f3
          have e116 : ∀ z : Int32, z = (if br then 1 else 0) → pw (fy_bd (M_tells_116 S1 (nI k) (nI (pu_c (q.2 k))) (nI (pu_c (q.2 lo))) z (nI (k - 1))) fun S103 => M_print_62 fu S103 (nI (40 * (19 * a + j)))) (fun R => R.2 = nI T.length ∧ pu_sM R.1 T ∧ fr pu_mp S R.1) := by
            intro z hz0
            obtain ⟨S2, e2, s2, f2⟩ := M_putP (k := k - 1) br hz0 hz' (by omega)
            rw [M_tells_116, e2, fy_bd_s]
            by_cases h9 : q.2 k = 9
            · rw [if_pos (ca.mpr h9)]
              exact e133 S2 (-38) (by rw [h9]; decide) s2 f2
            · rw [if_neg (fun e => h9 (ca.mp e))]
              have h8' : q.2 k = 8 := by omega
              exact e133 S2 (-124) (by rw [h8']; decide) s2 f2
          have c10 : (10 : Int32) ≤ nI (pu_c (q.2 k)) := by rcases o89 with e | e <;> rw [e] <;> decide
          rw [ek, ek2, nI_clamp (by omega), elo, nI_add, nI_clamp (by omega), h6l, nI_clamp (by omega), h6r]
          rw [fy_gd_y (by omega) (by decide)]
          show pw (fy_bd (if (10 : Int32) ≤ nI (pu_c (q.2 k)) then _ else _) _) _
          rw [if_pos c10, fy_gd_y (by omega) (by decide), fy_gd_y (by omega) (by decide)]
          show pw (fy_bd (fy_gd _ (if nI (pu_c (q.2 k)) = nI (pu_c (q.2 (k - 1))) then _ else _)) _) _
          rw [fy_gd_y (by omega) (by decide)]
          have rfac : ∀ o r, o = 8 ∨ o = 9 → r < 10 → ((nI (pu_c o) = nI (pu_c r) ↔ o = r) ∧ (nI (pu_c r) = 11 ↔ r = 8)) := by
            have key : ∀ r, r < 10 → ((nI (pu_c 8) = nI (pu_c r) ↔ 8 = r) ∧ (nI (pu_c r) = 11 ↔ r = 8)) := by decide +kernel
            have key2 : ∀ r, r < 10 → ((nI (pu_c 9) = nI (pu_c r) ↔ 9 = r) ∧ (nI (pu_c r) = 11 ↔ r = 8)) := by decide +kernel
            intro o r ho hr
            rcases ho with rfl | rfl
            · exact key r hr
            · exact key2 r hr
          obtain ⟨ra, rb⟩ := rfac (q.2 k) (q.2 (k - 1)) o89 r10
          by_cases hor : q.2 k = q.2 (k - 1)
          · rw [if_pos (ra.mpr hor)]
            refine e116 1 ?_
            rw [← hbr, ← hor]
            rcases o89 with e | e <;> rw [e] <;> rfl
          · rw [if_neg (fun e => hor (ra.mp e))]
            by_cases h9 : q.2 k = 9
            · rw [if_pos (ca.mpr h9)]
              by_cases hr8 : q.2 (k - 1) = 8
              · rw [if_pos (rb.mpr hr8)]
                exact e116 1 (by rw [← hbr, hr8]; rfl)
              · rw [if_neg (fun e => hr8 (rb.mp e))]
                refine e116 0 ?_
                rw [← hbr]
                unfold pu_rp_
                rw [decide_eq_false hr8, decide_eq_false (show ¬ q.2 (k - 1) = 9 by omega)]; rfl
            · rw [if_neg (fun e => h9 (ca.mp e))]
              refine e116 0 ?_
              rw [← hbr]
              unfold pu_rp_
              rw [decide_eq_false (show ¬ q.2 (k - 1) = 8 by omega), decide_eq_false h9, Bool.and_false]; rfl
theorem pu_X_p {S S' : fy_S} {G : pu_G} {q : pu_q} (h : pu_X S G) (f : fr pu_xp S S') (hq : pu_l (S'.1 9) (S'.1 8 1) q) : pu_X S' (pu_sp G q) := by
  obtain ⟨h1, h2, h3, h4, h5, h6, h7, h8⟩ := h
  refine ⟨fun a ha => pu_XA_c (h1 a ha) (fun i k g1 g2 => f i k (by unfold pu_xp; omega)), pu_l_c h2 (f _ _ (by unfold pu_xp; omega)).1 (fun k _ => (f _ _ (by unfold pu_xp; omega)).1), hq, pu_l_c h4 (f _ _ (by unfold pu_xp; omega)).1 (fun k _ => (f _ _ (by unfold pu_xp; omega)).1), pu_l_c h5 (f _ _ (by unfold pu_xp; omega)).1 (fun k _ => (f _ _ (by unfold pu_xp; omega)).1), ?_, ?_, pu_P_c h8 (f _ _ (by unfold pu_xp; omega)).1 (fun i k _ _ => (f _ _ (by unfold pu_xp; omega)).1)⟩
  · rw [(f _ _ (by unfold pu_xp; omega)).1]; exact h6
  · rw [(f _ _ (by unfold pu_xp; omega)).1]; exact h7
def pu_mo (i k : Nat) : Prop := (i = 0 ∧ (k = 18 ∨ k = 19)) ∨ (10 ≤ i ∧ i ≤ 13)
theorem pu_M_p {S S' : fy_S} {G : pu_G} {q : pu_q} (hw : pu_W G) (h : pu_M S G) (f : fr pu_mo S S') (hq : pu_l (S'.1 13) (S'.1 0 18) q) : pu_M S' (pu_sp G q) := by
  obtain ⟨h1, h2, h3, h4, h5, h6, h7⟩ := h
  refine ⟨fun a ha => pu_MA_c (hw.1 a ha) (h1 a ha) (fun i g1 g2 => (f i a (by unfold pu_mo; omega)).1) (fun k g1 g2 => (f 4 k (by unfold pu_mo; omega)).1) (fun k g1 g2 => (f 5 k (by unfold pu_mo; omega)).1) (fun k g1 g2 => (f 6 k (by unfold pu_mo; omega)).1), pu_l_c h2 (f _ _ (by unfold pu_mo; omega)).1 (fun k _ => (f _ _ (by unfold pu_mo; omega)).1), hq, pu_l_c h4 (f _ _ (by unfold pu_mo; omega)).1 (fun k _ => (f _ _ (by unfold pu_mo; omega)).1), pu_l_c h5 (f _ _ (by unfold pu_mo; omega)).1 (fun k _ => (f _ _ (by unfold pu_mo; omega)).1), ?_, ?_⟩
  · rw [(f _ _ (by unfold pu_mo; omega)).1]; exact h6
  · rw [(f _ _ (by unfold pu_mo; omega)).1]; exact h7
def pu_lq2 (L : List Nat) : pu_q := (L.length, fun i => L.getD i 0)
theorem pu_lq2_l {g : Nat → Int32} {c : Int32} {L : List Nat} (h1 : c = nI L.length) (h2 : ∀ i v, L[i]? = some v → g i = nI v) : pu_l g c (pu_lq2 L) := by
  refine ⟨h1, fun k hk => ?_⟩
  have hk : k < L.length := hk
  show g k = nI (L.getD k 0)
  have e : L[k]? = some L[k] := List.getElem?_eq_getElem hk
  rw [h2 k _ e, List.getD_eq_getElem?_getD, e]; rfl
theorem ez_print {SX SM : fy_S} (v1 v2 v3 : Int32) (h : pu_I SX SM) : pu_O (X9_print SX v1 v2 v3) (M_print SM v1 v2 v3) := by
  rcases pu_slot v1 with ⟨a, ha, rfl⟩ | hb
  · have hI := h
    obtain ⟨G, hw, hX, hM⟩ := h
    have hwA := hw.1 a (by omega)
    have hXA := hX.1 a (by omega)
    have hMA := hM.1 a (by omega)
    have hn6 : (G.1 a).1 ≤ 6 := hwA.2.1
    rcases pu_asked ha hwA hXA hMA v2 v3 with ⟨j, hj, hu, e1, e2⟩ | ⟨e1, e2⟩
    · have hq := hwA.2.2.2.2.2.2 j hj hu
      generalize hqd : (G.1 a).2.2.2.2 j = q at hq
      have hXF := hXA.2.2.2.2 j hj hu
      have hMF := hMA.2.2.2.2.2 j hj hu
      rw [hqd] at hXF hMF
      have q1 := hq.1
      have q40 := hq.2.1
      have hlen : (pu_tx q).length ≤ 120 := by
        obtain ⟨r, e⟩ := pu_len1 ((pu_st_dp (lf := pu_tf) (jn := pu_tj) q.1).trans hq.2.2.2)
        have hwl := pu_wl_k q.2 q.1
        unfold pu_tx
        rw [e] at hwl ⊢
        have hwl : 0 + (r.2.length + 2) ≤ 3 * q.1 := hwl
        show r.2.length ≤ 120
        omega
      refine pu_both (pu_sp G (pu_lq2 (pu_tx q))) (nI (pu_tx q).length) ⟨hw.1, hw.2.1, hlen, hw.2.2.2⟩ ?_ ?_
      · rw [X9_print]
        refine pw_be e1 (pw_bd (X_wr hn6 hq (by omega) hXF.1) (fun S1 s1 => pw_s ⟨s1.1.1, pu_X_p hX s1.2 (pu_lq2_l s1.1.1 s1.1.2)⟩))
      · rw [M_print]
        refine pw_be e2 (pw_t (nI_pos' (by omega)) (pw_be M_at_e (pw_be (M_size (by omega) hj hMF.1) ?_)))
        rw [M_findParts]
        refine pw_bd (M_parts (by omega) hj hn6 hq q.1 0 fy_fu SM (by omega) (fz_fu (by omega)) hMF trivial (fun i hi => absurd hi (Nat.not_lt_zero i))) (fun S1 s1 => pw_bl (pw_bl ?_))
        have hMF1 : pu_MF (fy_sI (fy_sI S1 0 18 0) 0 19 0) a j q := pu_l_c hMF (by rw [rd_n (by omega), rd_n (by omega), (s1.2 _ _ (by omega)).1]) (fun t _ => by rw [rd_n (by omega), rd_n (by omega), (s1.2 _ _ (by omega)).1])
        refine pw_be (M_size (by omega) hj hMF1.1) ?_
        dsimp only
        rw [show nI q.1 - (1 : Int32) = nI (q.1 - 1) from pk_sub (b := 1) q1]
        refine pw_bd (M_put (Z := []) (x := .inl (q.1 - 1)) ⟨rd_y, trivial⟩ rfl (by decide)) (fun S2 s2 => ?_)
        have etx : pu_tx q = (pu_tn q.2 (q.1 - 1)).2 := by
          unfold pu_tx pu_tn pu_gn
          rw [show q.1 - 1 + 1 = q.1 by omega]
        have fin := M_pr (S := S2) (T := pu_tx q) (a := a) (j := j) (by omega) hj hn6 hq hlen 240 fy_fu S2 [.inl (q.1 - 1)] [] (by
          show 2 * (pu_tn q.2 (q.1 - 1)).2.length + 0 ≤ 240
          rw [← etx]; omega) (fz_fu (by omega)) fr_r (pu_l_c hMF1 (s2.2 _ _ (by omega)).1 (fun t _ => (s2.2 _ _ (by omega)).1)) (fun i hi h => by rw [(s2.2 _ _ (by omega)).1, rd_n (by omega), rd_n (by omega)]; exact s1.1 i hi h) s2.1 ⟨by rw [(s2.2 _ _ (by omega)).1, rd_n (by omega), rd_y]; rfl, fun i v hv => by simp at hv⟩ (fun x hx => by
            have : x = .inl (q.1 - 1) := by simpa using hx
            rw [this]; show q.1 - 1 < q.1; omega) (by
            show [] ++ ((pu_tn q.2 (q.1 - 1)).2 ++ []) = pu_tx q
            rw [etx]; simp)
        refine pw_m fin (fun R r => ⟨r.1, pu_M_p hw hM (fr_t (fr_t (fr_I (fr_I (fr_m s1.2 (fun i k h => by unfold pu_mo; omega)) (by unfold pu_mo; omega)) (by unfold pu_mo; omega)) (fr_m s2.2 (fun i k h => by unfold pu_mo; omega))) (fr_m r.2.2 (fun i k h => by unfold pu_mp at h; unfold pu_mo; omega))) (pu_lq2_l r.2.1.1 r.2.1.2)⟩)
    · refine pu_same (-2) hI ?_ ?_
      · rw [X9_print]; exact pw_eq (pw_be e1 (pw_s rfl))
      · rw [M_print]; exact pw_eq (pw_be e2 (pw_f (by decide) (pw_s rfl)))
  · obtain ⟨e1, e2⟩ := pu_asked_n (SX := SX) (SM := SM) (v2 := v2) (v3 := v3) hb
    refine pu_same (-2) h ?_ ?_
    · rw [X9_print]; exact pw_eq (pw_be e1 (pw_s rfl))
    · rw [M_print]; exact pw_eq (pw_be e2 (pw_f (by decide) (pw_s rfl)))
