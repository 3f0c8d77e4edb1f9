/-! pairs of sets; words with the letter that is read last ahead -/
def pu_p2 (A B : pu_A) (p x : Nat) : Nat := 64 * pu_sp1 A x (p / 64) + pu_sp1 B x (p % 64)
def pu_rg (A B : pu_A) (p : Nat) : List Nat → Nat
  | [] => p
  | y :: w => pu_p2 A B (pu_rg A B p w) y
def pu_pb (A B : pu_A) : Nat := 64 * A.2.2.1 + B.2.2.1
def pu_wv (m : Nat) (w : List Nat) : Prop := ∀ x, x ∈ w → x < m
def pu_df (A B : pu_A) (o : Bool) (p : Nat) : Bool := (pu_ev (A.2.2.2.2 0) (p / 64) != pu_ev (B.2.2.2.2 0) (p % 64)) && (!o || pu_ev (A.2.2.2.2 0) (p / 64))
def pu_pv (A B : pu_A) (p : Nat) : Prop := p / 64 < 2 ^ A.1 ∧ p % 64 < 2 ^ B.1
theorem pu_pv_lt {A B : pu_A} (hA : pu_wA A) {p : Nat} (h : pu_pv A B p) : p < 4096 := by
  have := pu_2n hA.2.1
  have := h.1
  omega
theorem pu_pv_0 {A B : pu_A} (hA : pu_wA A) (hB : pu_wA B) : pu_pv A B (pu_pb A B) := by
  have h1 := hA.2.2.2.2.1
  have h2 := hB.2.2.2.2.1
  have := pu_2n hB.2.1
  unfold pu_pv pu_pb
  rw [show (64 * A.2.2.1 + B.2.2.1) / 64 = A.2.2.1 by omega, show (64 * A.2.2.1 + B.2.2.1) % 64 = B.2.2.1 by omega]
  exact ⟨h1, h2⟩
theorem pu_p2_dm {A B : pu_A} (hB : pu_wA B) (p x : Nat) : pu_p2 A B p x / 64 = pu_sp1 A x (p / 64) ∧ pu_p2 A B p x % 64 = pu_sp1 B x (p % 64) := by
  have := (pu_sp1_lt hB x (p % 64)).2
  unfold pu_p2
  omega
theorem pu_pv_s {A B : pu_A} (hA : pu_wA A) (hB : pu_wA B) (p x : Nat) : pu_pv A B (pu_p2 A B p x) := by
  obtain ⟨e1, e2⟩ := pu_p2_dm (A := A) hB p x
  exact ⟨by rw [e1]; exact (pu_sp1_lt hA x _).1, by rw [e2]; exact (pu_sp1_lt hB x _).1⟩
theorem pu_rg_app {A B : pu_A} {p x : Nat} : ∀ u : List Nat, pu_rg A B p (u ++ [x]) = pu_rg A B (pu_p2 A B p x) u := by
  intro u
  induction u with
  | nil => rfl
  | cons y u ih => rw [List.cons_append, pu_rg, ih, pu_rg]
theorem pu_rg_apps {A B : pu_A} {p : Nat} {v : List Nat} : ∀ u : List Nat, pu_rg A B p (u ++ v) = pu_rg A B (pu_rg A B p v) u := by
  intro u
  induction u with
  | nil => rfl
  | cons y u ih => rw [List.cons_append, pu_rg, ih, pu_rg]
theorem pu_pv_r {A B : pu_A} (hA : pu_wA A) (hB : pu_wA B) {p : Nat} (h : pu_pv A B p) : ∀ w, pu_pv A B (pu_rg A B p w) := by
  intro w
  cases w with
  | nil => exact h
  | cons y w => exact pu_pv_s hA hB _ _
/-! the order of words of one length -/
def pu_ll : List Nat → List Nat → Prop
  | [], [] => True
  | x :: a, y :: b => x < y ∨ (x = y ∧ pu_ll a b)
  | _, _ => False
theorem pu_ll_r : ∀ a, pu_ll a a := by
  intro a
  induction a with
  | nil => trivial
  | cons x a ih => exact .inr ⟨rfl, ih⟩
theorem pu_ll_t : ∀ {a b c}, pu_ll a b → pu_ll b c → pu_ll a c := by
  intro a
  induction a with
  | nil =>
    intro b c h1 h2
    cases b with
    | nil => exact h2
    | cons y b => exact absurd h1 (by intro h; exact h)
  | cons x a ih =>
    intro b c h1 h2
    cases b with
    | nil => exact absurd h1 (by intro h; exact h)
    | cons y b =>
      cases c with
      | nil => exact absurd h2 (by intro h; exact h)
      | cons z c =>
        rcases h1 with h1 | ⟨h1, h1'⟩
        · rcases h2 with h2 | ⟨h2, h2'⟩
          · exact .inl (by omega)
          · exact .inl (by omega)
        · rcases h2 with h2 | ⟨h2, h2'⟩
          · exact .inl (by omega)
          · exact .inr ⟨by omega, ih h1' h2'⟩
theorem pu_ll_a : ∀ {a b}, pu_ll a b → pu_ll b a → a = b := by
  intro a
  induction a with
  | nil =>
    intro b h1 h2
    cases b with
    | nil => rfl
    | cons y b => exact absurd h1 (by intro h; exact h)
  | cons x a ih =>
    intro b h1 h2
    cases b with
    | nil => exact absurd h1 (by intro h; exact h)
    | cons y b =>
      rcases h1 with h1 | ⟨h1, h1'⟩
      · rcases h2 with h2 | ⟨h2, h2'⟩ <;> omega
      · rcases h2 with h2 | ⟨h2, h2'⟩
        · omega
        · rw [h1, ih h1' h2']
def pu_bw_ (A B : pu_A) (o : Bool) (w : List Nat) : Prop := pu_wv A.2.1 w ∧ pu_df A B o (pu_rg A B (pu_pb A B) w) = true ∧ ∀ w', pu_wv A.2.1 w' → pu_df A B o (pu_rg A B (pu_pb A B) w') = true → w.length < w'.length ∨ (w.length = w'.length ∧ pu_ll w w')
theorem pu_bw_u {A B : pu_A} {o : Bool} {w w' : List Nat} (h : pu_bw_ A B o w) (h' : pu_bw_ A B o w') : w = w' := by
  have a := h.2.2 w' h'.1 h'.2.1
  have b := h'.2.2 w h.1 h.2.1
  rcases a with a | ⟨a1, a2⟩
  · rcases b with b | ⟨b1, b2⟩ <;> omega
  · rcases b with b | ⟨b1, b2⟩
    · omega
    · exact pu_ll_a a2 b2
/-! how long a word may be that tells two sets apart: both automata beside each other -/
def pu_ud (A B : pu_A) (u x : Nat) : Nat := if u < 64 then pu_sp1 A x u else 64 + pu_sp1 B x (u - 64)
def pu_ua (A B : pu_A) (u : Nat) : Bool := if u < 64 then pu_ev (A.2.2.2.2 0) u else pu_ev (B.2.2.2.2 0) (u - 64)
def pu_gE (A B : pu_A) : Nat → Nat → Nat → Prop
  | 0, s, t => pu_ua A B s = pu_ua A B t
  | r + 1, s, t => pu_gE A B r s t ∧ ∀ x, x < A.2.1 → pu_gE A B r (pu_ud A B s x) (pu_ud A B t x)
theorem pu_gE_r {A B : pu_A} : ∀ r s, pu_gE A B r s s := by
  intro r
  induction r with
  | zero => intro s; rfl
  | succ r ih => intro s; exact ⟨ih s, fun x _ => ih _⟩
theorem pu_gE_s {A B : pu_A} : ∀ {r s t}, pu_gE A B r s t → pu_gE A B r t s := by
  intro r
  induction r with
  | zero => intro s t h; exact Eq.symm h
  | succ r ih => intro s t h; exact ⟨ih h.1, fun x hx => ih (h.2 x hx)⟩
theorem pu_gE_t {A B : pu_A} : ∀ {r s t u}, pu_gE A B r s t → pu_gE A B r t u → pu_gE A B r s u := by
  intro r
  induction r with
  | zero => intro s t u h1 h2; exact Eq.trans h1 h2
  | succ r ih => intro s t u h1 h2; exact ⟨ih h1.1 h2.1, fun x hx => ih (h1.2 x hx) (h2.2 x hx)⟩
theorem pu_gE_d {A B : pu_A} : ∀ {d r s t}, pu_gE A B (r + d) s t → pu_gE A B r s t := by
  intro d
  induction d with
  | zero => intro r s t h; exact h
  | succ d ih => intro r s t h; exact ih (show pu_gE A B (r + d) s t from h.1)
def pu_ldr (A B : pu_A) (r s : Nat) : Prop := ∀ t, t < s → ¬ pu_gE A B r t s
theorem pu_ud_lt {A B : pu_A} (hA : pu_wA A) (hB : pu_wA B) (u x : Nat) : pu_ud A B u x < 128 := by
  have h1 := (pu_sp1_lt hA x u).2
  have h2 := (pu_sp1_lt hB x (u - 64)).2
  unfold pu_ud
  split <;> omega
theorem pu_gmin {A B : pu_A} {r : Nat} : ∀ s, ∃ l, l ≤ s ∧ pu_gE A B r l s ∧ pu_ldr A B r l := by
  intro s
  induction s using Nat.strongRecOn with
  | ind s ih =>
    by_cases h : ∃ t, t < s ∧ pu_gE A B r t s
    · obtain ⟨t, ht, e⟩ := h
      obtain ⟨l, hl, el, hd⟩ := ih t ht
      exact ⟨l, by omega, pu_gE_t el e, hd⟩
    · exact ⟨s, Nat.le_refl _, pu_gE_r _ _, fun t ht e => h ⟨t, ht, e⟩⟩
noncomputable def pu_lc (A B : pu_A) (r : Nat) : Nat := fb_ct (fun s => @decide (pu_ldr A B r s) (Classical.propDecidable _)) 128
theorem pu_lc_s {A B : pu_A} (r : Nat) (h : ¬ ∀ s t, s < 128 → t < 128 → pu_gE A B r s t → pu_gE A B (r + 1) s t) : pu_lc A B r < pu_lc A B (r + 1) := by
  have sub : ∀ s, pu_ldr A B r s → pu_ldr A B (r + 1) s := fun s hs t ht e => hs t ht e.1
  by_cases hx : ∃ s, s < 128 ∧ pu_ldr A B (r + 1) s ∧ ¬ pu_ldr A B r s
  · obtain ⟨s, hs, h1, h2⟩ := hx
    unfold pu_lc
    have u := fb_ct_upd (fun s => @decide (pu_ldr A B r s) (Classical.propDecidable _)) true (i := s) (n := 128) hs
    have e0 : @decide (pu_ldr A B r s) (Classical.propDecidable _) = false := @decide_eq_false _ (Classical.propDecidable _) h2
    simp only [e0, Bool.false_eq_true, if_false, if_true] at u
    have le : fb_ct (fun k => if k = s then true else @decide (pu_ldr A B r k) (Classical.propDecidable _)) 128 ≤ fb_ct (fun s => @decide (pu_ldr A B (r + 1) s) (Classical.propDecidable _)) 128 := fb_ct_sub (fun k hk hp => by
      by_cases ek : k = s
      · rw [ek]; exact @decide_eq_true _ (Classical.propDecidable _) h1
      · rw [if_neg ek] at hp
        exact @decide_eq_true _ (Classical.propDecidable _) (sub k (@of_decide_eq_true _ (Classical.propDecidable _) hp)))
    omega
  · exfalso
    refine h (fun s t hs ht e => ?_)
    obtain ⟨s', hs', es, ls⟩ := pu_gmin (A := A) (B := B) (r := r + 1) s
    obtain ⟨t', ht', et, lt⟩ := pu_gmin (A := A) (B := B) (r := r + 1) t
    have ls2 : pu_ldr A B r s' := Classical.byContradiction (fun hn => hx ⟨s', by omega, ls, hn⟩)
    have lt2 : pu_ldr A B r t' := Classical.byContradiction (fun hn => hx ⟨t', by omega, lt, hn⟩)
    have eq : pu_gE A B r s' t' := pu_gE_t es.1 (pu_gE_t e (pu_gE_s et.1))
    have : s' = t' := by
      rcases Nat.lt_trichotomy s' t' with h | h | h
      · exact absurd eq (lt2 s' h)
      · exact h
      · exact absurd (pu_gE_s eq) (ls2 t' h)
    subst this
    exact pu_gE_t (pu_gE_s es) et
theorem pu_gst {A B : pu_A} (hA : pu_wA A) (hB : pu_wA B) {s t : Nat} (hs : s < 128) (ht : t < 128) (h : pu_gE A B 127 s t) : ∀ k, pu_gE A B k s t := by
  have ex : ∃ r, r ≤ 127 ∧ ∀ s t, s < 128 → t < 128 → pu_gE A B r s t → pu_gE A B (r + 1) s t := by
    refine Classical.byContradiction (fun hno => ?_)
    have up : ∀ r, r ≤ 128 → r + 1 ≤ pu_lc A B r := by
      intro r
      induction r with
      | zero =>
        intro _
        have : 0 < pu_lc A B 0 := fb_ct_pos.mpr ⟨0, by decide, @decide_eq_true _ (Classical.propDecidable _) (fun t ht => absurd ht (Nat.not_lt_zero t))⟩
        omega
      | succ r ih =>
        intro hr
        have := pu_lc_s (A := A) (B := B) r (fun hh => hno ⟨r, by omega, hh⟩)
        have := ih (by omega)
        omega
    have h1 := up 128 (Nat.le_refl _)
    have h2 : pu_lc A B 128 ≤ 128 := fb_ct_le _ 128
    omega
  obtain ⟨r, hr, hst⟩ := ex
  have all : ∀ d s t, s < 128 → t < 128 → pu_gE A B r s t → pu_gE A B (r + d) s t := by
    intro d
    induction d with
    | zero => intro s t _ _ h; exact h
    | succ d ih =>
      intro s t hs ht h
      refine ⟨ih s t hs ht h, fun x hx => ih _ _ (pu_ud_lt hA hB _ _) (pu_ud_lt hA hB _ _) ((hst s t hs ht h).2 x hx)⟩
  have hr0 : pu_gE A B r s t := pu_gE_d (d := 127 - r) (by rw [show r + (127 - r) = 127 by omega]; exact h)
  intro k
  by_cases hk : k ≤ r
  · exact pu_gE_d (d := r - k) (by rw [show k + (r - k) = r by omega]; exact hr0)
  · have := all (k - r) s t hs ht hr0
    rw [show r + (k - r) = k by omega] at this
    exact this
theorem pu_gE_w {A B : pu_A} (hA : pu_wA A) (hB : pu_wA B) (hm : A.2.1 = B.2.1) : ∀ r p, p < 4096 → (pu_gE A B r (p / 64) (64 + p % 64) ↔ ∀ w, pu_wv A.2.1 w → w.length ≤ r → pu_df A B false (pu_rg A B p w) = false) := by
  have base : ∀ p, p < 4096 → (pu_ua A B (p / 64) = pu_ua A B (64 + p % 64) ↔ pu_df A B false p = false) := by
    intro p hp
    have e1 : pu_ua A B (p / 64) = pu_ev (A.2.2.2.2 0) (p / 64) := by unfold pu_ua; rw [if_pos (by omega)]
    have e2 : pu_ua A B (64 + p % 64) = pu_ev (B.2.2.2.2 0) (p % 64) := by unfold pu_ua; rw [if_neg (by omega), show 64 + p % 64 - 64 = p % 64 by omega]
    rw [e1, e2]
    unfold pu_df
    cases pu_ev (A.2.2.2.2 0) (p / 64) <;> cases pu_ev (B.2.2.2.2 0) (p % 64) <;> decide
  intro r
  induction r with
  | zero =>
    intro p hp
    rw [pu_gE, base p hp]
    constructor
    · intro h w _ hw
      have : w = [] := List.length_eq_zero_iff.mp (by omega)
      rw [this]; exact h
    · intro h
      exact h [] (fun x hx => by cases hx) (Nat.le_refl _)
  | succ r ih =>
    intro p hp
    have step : ∀ x, pu_ud A B (p / 64) x = pu_p2 A B p x / 64 ∧ pu_ud A B (64 + p % 64) x = 64 + pu_p2 A B p x % 64 := by
      intro x
      obtain ⟨e1, e2⟩ := pu_p2_dm (A := A) hB p x
      rw [e1, e2]
      refine ⟨by unfold pu_ud; rw [if_pos (by omega)], by unfold pu_ud; rw [if_neg (by omega), show 64 + p % 64 - 64 = p % 64 by omega]⟩
    constructor
    · rintro ⟨h1, h2⟩ w hv hw
      by_cases hlen : w.length ≤ r
      · exact (ih p hp).mp h1 w hv hlen
      · -- the letter that is read first
        have hne : w ≠ [] := fun e => by rw [e] at hlen; exact hlen (Nat.zero_le _)
        have ew := List.dropLast_concat_getLast hne
        have hx : w.getLast hne < A.2.1 := hv _ (List.getLast_mem hne)
        have g := h2 (w.getLast hne) hx
        rw [(step _).1, (step _).2] at g
        have hlt := pu_pv_lt hA (pu_pv_s (B := B) hA hB p (w.getLast hne))
        have := (ih _ hlt).mp g w.dropLast (fun y hy => hv y ((List.dropLast_sublist w).subset hy)) (by rw [List.length_dropLast]; omega)
        rw [← pu_rg_app, ew] at this
        exact this
    · intro h
      refine ⟨(ih p hp).mpr (fun w hv hw => h w hv (by omega)), fun x hx => ?_⟩
      rw [(step x).1, (step x).2]
      have hlt := pu_pv_lt hA (pu_pv_s (B := B) hA hB p x)
      refine (ih _ hlt).mpr (fun w hv hw => ?_)
      have := h (w ++ [x]) (fun y hy => (List.mem_append.mp hy).elim (hv y) (fun e => by simp at e; rw [e]; exact hx)) (by simp; omega)
      rw [pu_rg_app] at this
      exact this
/-- a word that tells them apart: one of at most 127 letters does -/
theorem pu_127 {A B : pu_A} (hA : pu_wA A) (hB : pu_wA B) (hm : A.2.1 = B.2.1) {w : List Nat} (hv : pu_wv A.2.1 w) (hd : pu_df A B false (pu_rg A B (pu_pb A B) w) = true) : ∃ w', pu_wv A.2.1 w' ∧ pu_df A B false (pu_rg A B (pu_pb A B) w') = true ∧ w'.length ≤ 127 := by
  refine Classical.byContradiction (fun hno => ?_)
  have hp := pu_pv_lt hA (pu_pv_0 hA hB)
  have h127 : pu_gE A B 127 (pu_pb A B / 64) (64 + pu_pb A B % 64) := (pu_gE_w hA hB hm 127 _ hp).mpr (fun w' hv' hl' => by
    cases e : pu_df A B false (pu_rg A B (pu_pb A B) w')
    · rfl
    · exact absurd ⟨w', hv', e, hl'⟩ hno)
  have hk := pu_gst hA hB (by omega) (by omega) h127 w.length
  have := (pu_gE_w hA hB hm w.length _ hp).mp hk w hv (Nat.le_refl _)
  rw [this] at hd; cases hd
