/-! what can be reached: the least set that holds the beginnings and all that follows -/
def pu_cl (I : Nat → Prop) (N : Nat → Nat → Prop) (s : Nat) : Prop := ∀ Q : Nat → Prop, (∀ t, I t → Q t) → (∀ t u, Q t → N t u → Q u) → Q s
theorem pu_cl_i {I : Nat → Prop} {N : Nat → Nat → Prop} {s : Nat} (h : I s) : pu_cl I N s := fun _ h1 _ => h1 s h
theorem pu_cl_n {I : Nat → Prop} {N : Nat → Nat → Prop} {t u : Nat} (h : pu_cl I N t) (hn : N t u) : pu_cl I N u := fun Q h1 h2 => h2 t u (h Q h1 h2) hn
def pu_xi (I : Nat → Prop) (N : Nat → Nat → Prop) (u v : Int64) (r : Nat) : Prop := (∀ s, s < 64 → lb u s = true → pu_cl I N s) ∧ (∀ s, s < 64 → lb v s = true → pu_cl I N s) ∧ (∀ s, s < 64 → I s → lb u s = true ∨ lb v s = true) ∧ (∀ s t, s < 64 → t < 64 → lb u s = true → N s t → lb u t = true ∨ lb v t = true) ∧ (∀ s, s < 64 → lb u s = true → lb v s = false) ∧ r ≤ fb_ct (lb u) 64
theorem pu_xi_s {I : Nat → Prop} {N : Nat → Nat → Prop} {u v w : Int64} {r : Nat} (h : pu_xi I N u v r) (hv : ∃ s, s < 64 ∧ lb v s = true) (hw : ∀ t, t < 64 → (lb w t = true ↔ ∃ s, s < 64 ∧ lb v s = true ∧ N s t)) : pu_xi I N (u ||| v) (w &&& ((u ||| v) ^^^ (-1))) (r + 1) := by
  obtain ⟨h1, h2, h3, h4, h5, h6⟩ := h
  have or_t : ∀ s, lb (u ||| v) s = true ↔ lb u s = true ∨ lb v s = true := fun s => by rw [lb_or, Bool.or_eq_true]
  have nx : ∀ t, t < 64 → (lb (w &&& ((u ||| v) ^^^ (-1))) t = true ↔ lb w t = true ∧ ¬ lb (u ||| v) t = true) := fun t ht => by
    rw [lb_and, lb_not _ ht, Bool.and_eq_true]
    cases lb (u ||| v) t <;> simp
  refine ⟨fun s hs hl => ?_, fun s hs hl => ?_, fun s hs hi => ?_, fun s t hs ht hl hn => ?_, fun s hs hl => ?_, ?_⟩
  · rcases (or_t s).mp hl with e | e
    · exact h1 s hs e
    · exact h2 s hs e
  · obtain ⟨t, ht, e1, e2⟩ := (hw s hs).mp ((nx s hs).mp hl).1
    exact pu_cl_n (h2 t ht e1) e2
  · exact .inl ((or_t s).mpr (h3 s hs hi))
  · by_cases hin : lb (u ||| v) t = true
    · exact .inl hin
    · right
      refine (nx t ht).mpr ⟨?_, hin⟩
      rcases (or_t s).mp hl with e | e
      · exact absurd ((or_t t).mpr (h4 s t hs ht e hn)) hin
      · exact (hw t ht).mpr ⟨s, hs, e, hn⟩
  · cases hx : lb (w &&& ((u ||| v) ^^^ (-1))) s
    · rfl
    · exact absurd hl ((nx s hs).mp hx).2
  · obtain ⟨s, hs, hs2⟩ := hv
    have hu : lb u s = false := by
      cases hx : lb u s
      · rfl
      · rw [h5 s hs hx] at hs2; cases hs2
    have e := fb_ct_upd (lb u) true (i := s) (n := 64) hs
    rw [hu] at e
    have e2 : fb_ct (fun k => if k = s then true else lb u k) 64 ≤ fb_ct (lb (u ||| v)) 64 := fb_ct_sub (fun k hk hp => by
      by_cases ek : k = s
      · rw [ek]; exact (or_t s).mpr (.inr hs2)
      · rw [if_neg ek] at hp; exact (or_t k).mpr (.inl hp))
    simp only [Bool.false_eq_true, if_false, if_true] at e
    omega
theorem pu_xi_e {I : Nat → Prop} {N : Nat → Nat → Prop} {u v : Int64} {r : Nat} (h : pu_xi I N u v r) (hI : ∀ s, I s → s < 64) (hN : ∀ s t, s < 64 → N s t → t < 64) (hv : ∀ s, s < 64 → lb v s = false) : ∀ s, s < 64 → (lb u s = true ↔ pu_cl I N s) := by
  obtain ⟨h1, h2, h3, h4, h5, h6⟩ := h
  intro s hs
  refine ⟨h1 s hs, fun hc => ?_⟩
  have := hc (fun t => t < 64 ∧ lb u t = true) (fun t ht => ⟨hI t ht, (h3 t (hI t ht) ht).resolve_right (fun e => by rw [hv t (hI t ht)] at e; cases e)⟩) (fun t w ht hn => ⟨hN t w ht.1 hn, (h4 t w ht.1 (hN t w ht.1 hn) ht.2 hn).resolve_right (fun e => by rw [hv w (hN t w ht.1 hn)] at e; cases e)⟩)
  exact this.2
theorem lb_nz {v : Int64} (h : ¬ lg_cmp v 0 = 0) : ∃ s, s < 64 ∧ lb v s = true := by
  by_cases hx : ∃ s, s < 64 ∧ lb v s = true
  · exact hx
  · exact absurd ((lg_cmp_eq v 0).mpr (lb_x (fun s hs => by
      rw [lb_0]
      cases e : lb v s
      · rfl
      · exact absurd ⟨s, hs, e⟩ hx))) h
theorem lb_z {v : Int64} (h : lg_cmp v 0 = 0) : ∀ s, s < 64 → lb v s = false := fun s _ => by rw [(lg_cmp_eq v 0).mp h, lb_0]
/-! the reference's list of what was found -/
def pu_fd (S : fy_S) (n : Nat) (f : Nat → Nat) : Prop := n ≤ 64 ∧ S.1 0 34 = nI n ∧ (∀ i, i < n → f i < 64 ∧ S.1 19 i = nI (f i) ∧ S.1 20 (f i) = nI i) ∧ ∀ s, s < 64 → (∀ i, i < n → f i ≠ s) → S.1 20 s = -1
theorem pu_fd_i {S : fy_S} {n : Nat} {f : Nat → Nat} (h : pu_fd S n f) : ∀ i j, i < n → j < n → f i = f j → i = j := by
  intro i j hi hj e
  have h0 := h.1
  have e1 := (h.2.2.1 i hi).2.2
  have e2 := (h.2.2.1 j hj).2.2
  rw [e, e2] at e1
  exact ((nI_eq (by omega) (by omega)).mp e1).symm
theorem pu_fd_c {S S' : fy_S} {n : Nat} {f : Nat → Nat} (h : pu_fd S n f) (h1 : S'.1 0 34 = S.1 0 34) (h2 : ∀ i k, (i = 19 ∨ i = 20) → S'.1 i k = S.1 i k) : pu_fd S' n f := ⟨h.1, h1.trans h.2.1, fun i hi => ⟨(h.2.2.1 i hi).1, (h2 _ _ (.inl rfl)).trans (h.2.2.1 i hi).2.1, (h2 _ _ (.inr rfl)).trans (h.2.2.1 i hi).2.2⟩, fun s hs hn => (h2 _ _ (.inr rfl)).trans (h.2.2.2 s hs hn)⟩
theorem pu_neg1 : ∀ i, i < 64 → ¬ nI i < 0 := by decide +kernel
def pu_sx (i k : Nat) : Prop := (i = 0 ∧ k = 34) ∨ i = 19 ∨ i = 20
theorem M_come {S : fy_S} {n : Nat} {f : Nat → Nat} {s : Nat} (h : pu_fd S n f) (hs : s < 64) : pw (M_comes S (nI s)) (fun R => ∃ n' f', pu_fd R.1 n' f' ∧ n ≤ n' ∧ (∀ i, i < n → f' i = f i) ∧ (∃ i, i < n' ∧ f' i = s) ∧ (∀ i, n ≤ i → i < n' → f' i = s) ∧ fr pu_sx S R.1) := by
  have hinj := pu_fd_i h
  obtain ⟨h0, h1, h2, h3⟩ := h
  rw [M_comes, nI_clamp (by omega)]
  refine pw_gd (fy_ix_nI hs (by decide)) ?_
  by_cases hx : ∃ i, i < n ∧ f i = s
  · obtain ⟨i, hi, rfl⟩ := hx
    rw [(h2 i hi).2.2]
    exact pw_f (pu_neg1 i (by omega)) (pw_s ⟨n, f, ⟨h0, h1, h2, h3⟩, Nat.le_refl _, fun _ _ => rfl, ⟨i, hi, rfl⟩, fun j h1 h2 => by omega, fr_r⟩)
  · have hno : ∀ i, i < n → f i ≠ s := fun i hi e => hx ⟨i, hi, e⟩
    have hn : n + 1 ≤ 64 := by
      refine fb_holes 64 (n + 1) (fun i => if i < n then f i else s) (fun i hi => ?_) (fun i j hij hj e => ?_)
      · by_cases e : i < n
        · simp only [if_pos e]; exact (h2 i e).1
        · simp only [if_neg e]; exact hs
      · simp only [if_pos (show i < n by omega)] at e
        by_cases ej : j < n
        · simp only [if_pos ej] at e
          have := hinj i j (by omega) ej e
          omega
        · simp only [if_neg ej] at e
          exact hno i (by omega) e
    rw [h3 s hs hno]
    refine pw_t (by decide) (pw_gd (fy_ix_nI hs (by decide)) (pw_bl ?_))
    rw [rd_n (by omega), h1, nI_clamp (by omega)]
    refine pw_gd (fy_ix_nI (by omega) (by decide)) (pw_bl (pw_bl (pw_s ?_)))
    rw [rd_n (by omega), rd_n (by omega), h1, nI_1]
    refine ⟨n + 1, fun i => if i < n then f i else s, ⟨hn, rd_y, fun i hi => ?_, fun t ht hno' => ?_⟩, by omega, fun i hi => if_pos hi, ⟨n, by omega, if_neg (by omega)⟩, fun i h1 h2 => if_neg (by omega), fr_I (fr_I (fr_I fr_r (.inr (.inr rfl))) (.inr (.inl rfl))) (.inl ⟨rfl, rfl⟩)⟩
    · by_cases e : i < n
      · simp only [if_pos e]
        refine ⟨(h2 i e).1, ?_, ?_⟩
        · rw [rd_n (by omega), rd_n (by omega), rd_n (by omega)]; exact (h2 i e).2.1
        · have := hno i e
          rw [rd_n (by omega), rd_n (by omega), rd_n (by omega)]; exact (h2 i e).2.2
      · have ei : i = n := by omega
        subst ei
        simp only [if_neg e]
        refine ⟨hs, ?_, ?_⟩
        · rw [rd_n (by omega), rd_y]
        · rw [rd_n (by omega), rd_n (by omega), rd_y]
    · have ht' : t ≠ s := by
        have := hno' n (by omega)
        simp only [if_neg (Nat.lt_irrefl n)] at this
        exact fun e => this e.symm
      rw [rd_n (by omega), rd_n (by omega), rd_n (by omega)]
      exact h3 t ht (fun i hi => by have := hno' i (by omega); simp only [if_pos hi] at this; exact this)
theorem M_forget {S : fy_S} : pw (M_forgets S) (fun S' => pu_fd S' 0 (fun _ => 0) ∧ fr pu_sx S S') := by
  have L : ∀ d k fu S', k + d = 64 → d < fu → S'.1 0 34 = nI 0 → (∀ s, s < k → S'.1 20 s = -1) → fr pu_sx S S' → pw (M_forgets_7 fu S' (nI k)) (fun S' => pu_fd S' 0 (fun _ => 0) ∧ fr pu_sx S S') := by
    intro d
    induction d with
    | zero =>
      intro k fu S' hk hfu h0 h1 hf
      obtain ⟨fu, rfl⟩ : ∃ z, fu = z + 1 := ⟨fu - 1, by omega⟩
      have : k = 64 := by omega
      subst this
      rw [M_forgets_7]
      exact pw_t (by decide) (pw_s ⟨⟨by decide, h0, fun i hi => absurd hi (Nat.not_lt_zero i), fun s hs _ => h1 s hs⟩, hf⟩)
    | succ d ih =>
      intro k fu S' hk hfu h0 h1 hf
      obtain ⟨fu, rfl⟩ : ∃ z, fu = z + 1 := ⟨fu - 1, by omega⟩
      rw [M_forgets_7, nI_clamp (by omega), nI_1]
      refine pw_f (nI_ge (b := 64) (by omega) (by decide)) (pw_gd (fy_ix_nI (by omega) (by decide)) (pw_bl (pw_bl (ih (k + 1) fu _ (by omega) (by omega) (by rw [rd_n (by omega)]; exact h0) (fun s hs => ?_) (fr_I hf (.inr (.inr rfl)))))))
      by_cases e : s = k
      · rw [e, rd_y]
      · rw [rd_n (by omega)]; exact h1 s (by omega)
  rw [M_forgets]
  exact pw_bl (L 64 0 fy_fu _ (by omega) (fz_fu (by omega)) rd_y (fun s hs => absurd hs (Nat.not_lt_zero s)) (fr_I fr_r (.inl ⟨rfl, rfl⟩)))
/-! counting what a list names -/
theorem fb_ct_im {N : Nat} {f : Nat → Nat} : ∀ (n : Nat) (p : Nat → Bool), (∀ i, i < n → f i < N) → (∀ i j, i < n → j < n → f i = f j → i = j) → (∀ s, s < N → (p s = true ↔ ∃ i, i < n ∧ f i = s)) → fb_ct p N = n := by
  intro n
  induction n with
  | zero =>
    intro p _ _ h
    refine fb_ct_zero.mpr (fun k hk => ?_)
    cases e : p k
    · rfl
    · obtain ⟨i, hi, _⟩ := (h k hk).mp e
      omega
  | succ n ih =>
    intro p h1 h2 h3
    have hn := h1 n (by omega)
    have hp : p (f n) = true := (h3 _ hn).mpr ⟨n, by omega, rfl⟩
    have e := ih (fun k => if k = f n then false else p k) (fun i hi => h1 i (by omega)) (fun i j hi hj => h2 i j (by omega) (by omega)) (fun s hs => by
      by_cases es : s = f n
      · simp only [if_pos es]
        refine ⟨fun h => (by cases h), fun ⟨i, hi, ei⟩ => ?_⟩
        have := h2 i n (by omega) (by omega) (ei.trans es)
        omega
      · simp only [if_neg es]
        rw [h3 s hs]
        refine ⟨fun ⟨i, hi, ei⟩ => ⟨i, ?_, ei⟩, fun ⟨i, hi, ei⟩ => ⟨i, by omega, ei⟩⟩
        have : i ≠ n := fun e => es (by rw [← ei, e])
        omega)
    have u := fb_ct_upd p false (i := f n) (n := N) hn
    rw [hp, e] at u
    simp only [Bool.false_eq_true, if_false, if_true] at u
    omega
