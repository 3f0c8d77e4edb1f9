/-! the pure statement: a small calculus of what answers, frames, the state that both sides show -/
def pw {α : Type} (m : Option α) (P : α → Prop) : Prop := ∃ r, m = some r ∧ P r
theorem pw_s {α : Type} {r : α} {P : α → Prop} (h : P r) : pw (some r) P := ⟨r, rfl, h⟩
theorem pw_gd {α : Type} {b : Bool} {k : Option α} {P : α → Prop} (hb : b = true) (h : pw k P) : pw (fy_gd b k) P := by rw [fy_gd, if_pos hb]; exact h
theorem pw_bl {α β : Type} {x : α} {f : α → Option β} {P : β → Prop} (h : pw (f x) P) : pw (fy_bl x f) P := h
theorem pw_bd {α β : Type} {x : Option α} {f : α → Option β} {Q : α → Prop} {P : β → Prop} (h1 : pw x Q) (h2 : ∀ v, Q v → pw (f v) P) : pw (fy_bd x f) P := by
  obtain ⟨r, rfl, h⟩ := h1
  exact h2 r h
theorem pw_be {α β : Type} {x : Option α} {v : α} {f : α → Option β} {P : β → Prop} (h1 : x = some v) (h2 : pw (f v) P) : pw (fy_bd x f) P := by subst h1; exact h2
theorem pw_bp {α β γ : Type} {x : Option (α × β)} {f : α → β → Option γ} {Q : α × β → Prop} {P : γ → Prop} (h1 : pw x Q) (h2 : ∀ a b, Q (a, b) → pw (f a b) P) : pw (fy_bp x f) P := by
  obtain ⟨r, rfl, h⟩ := h1
  exact h2 r.1 r.2 h
theorem pw_t {α : Type} {c : Prop} [Decidable c] {a b : Option α} {P : α → Prop} (hc : c) (h : pw a P) : pw (if c then a else b) P := by rw [if_pos hc]; exact h
theorem pw_f {α : Type} {c : Prop} [Decidable c] {a b : Option α} {P : α → Prop} (hc : ¬ c) (h : pw b P) : pw (if c then a else b) P := by rw [if_neg hc]; exact h
theorem pw_if {α : Type} {c : Prop} [Decidable c] {a b : Option α} {P : α → Prop} (h1 : c → pw a P) (h2 : ¬ c → pw b P) : pw (if c then a else b) P := by
  by_cases hc : c
  · exact pw_t hc (h1 hc)
  · exact pw_f hc (h2 hc)
theorem pw_m {α : Type} {m : Option α} {P Q : α → Prop} (h : pw m P) (f : ∀ r, P r → Q r) : pw m Q := by
  obtain ⟨r, e, h⟩ := h
  exact ⟨r, e, f r h⟩
theorem pw_e {α : Type} {m : Option α} {r : α} {P : α → Prop} (e : m = some r) (h : P r) : pw m P := ⟨r, e, h⟩
theorem pw_eq {α : Type} {m : Option α} {r : α} (h : pw m (fun v => v = r)) : m = some r := by
  obtain ⟨v, e, rfl⟩ := h
  exact e
/-! reading a state that was written -/
theorem rd_I {S : fy_S} {i k : Nat} {v : Int32} (i' k' : Nat) : (fy_sI S i k v).1 i' k' = if i' = i ∧ k' = k then v else S.1 i' k' := by
  by_cases h : i' = i
  · subst h
    by_cases h2 : k' = k
    · subst h2; simp [fy_sI, va_up]
    · simp [fy_sI, va_up, h2]
  · simp [fy_sI, va_up, h]
theorem rd_I2 {S : fy_S} {i k : Nat} {v : Int32} : (fy_sI S i k v).2 = S.2 := rfl
theorem rd_L {S : fy_S} {i k : Nat} {v : Int64} (i' k' : Nat) : (fy_sL S i k v).2 i' k' = if i' = i ∧ k' = k then v else S.2 i' k' := by
  by_cases h : i' = i
  · subst h
    by_cases h2 : k' = k
    · subst h2; simp [fy_sL, va_up]
    · simp [fy_sL, va_up, h2]
  · simp [fy_sL, va_up, h]
theorem rd_L1 {S : fy_S} {i k : Nat} {v : Int64} : (fy_sL S i k v).1 = S.1 := rfl
theorem rd_A {S : fy_S} {i : Nat} {f : Nat → Int32} (i' k' : Nat) : (fy_sA S i f).1 i' k' = if i' = i then f k' else S.1 i' k' := by
  by_cases h : i' = i
  · subst h; simp [fy_sA, va_up]
  · simp [fy_sA, va_up, h]
theorem rd_A2 {S : fy_S} {i : Nat} {f : Nat → Int32} : (fy_sA S i f).2 = S.2 := rfl
theorem rd_B {S : fy_S} {i : Nat} {f : Nat → Int64} (i' k' : Nat) : (fy_sB S i f).2 i' k' = if i' = i then f k' else S.2 i' k' := by
  by_cases h : i' = i
  · subst h; simp [fy_sB, va_up]
  · simp [fy_sB, va_up, h]
theorem rd_B1 {S : fy_S} {i : Nat} {f : Nat → Int64} : (fy_sB S i f).1 = S.1 := rfl
theorem rd_y {S : fy_S} {i k : Nat} {v : Int32} : (fy_sI S i k v).1 i k = v := by rw [rd_I, if_pos ⟨rfl, rfl⟩]
theorem rd_n {S : fy_S} {i k i' k' : Nat} {v : Int32} (h : i' ≠ i ∨ k' ≠ k) : (fy_sI S i k v).1 i' k' = S.1 i' k' := by rw [rd_I, if_neg (by omega)]
theorem rd_Ly {S : fy_S} {i k : Nat} {v : Int64} : (fy_sL S i k v).2 i k = v := by rw [rd_L, if_pos ⟨rfl, rfl⟩]
theorem rd_Ln {S : fy_S} {i k i' k' : Nat} {v : Int64} (h : i' ≠ i ∨ k' ≠ k) : (fy_sL S i k v).2 i' k' = S.2 i' k' := by rw [rd_L, if_neg (by omega)]
/-! frames: cells outside D are as they were -/
def fr (D : Nat → Nat → Prop) (S S' : fy_S) : Prop := ∀ i k, ¬ D i k → S'.1 i k = S.1 i k ∧ S'.2 i k = S.2 i k
theorem fr_r {D : Nat → Nat → Prop} {S : fy_S} : fr D S S := fun _ _ _ => ⟨rfl, rfl⟩
theorem fr_t {D : Nat → Nat → Prop} {S S' S'' : fy_S} (h : fr D S S') (h2 : fr D S' S'') : fr D S S'' := fun i k hn => ⟨((h2 i k hn).1).trans (h i k hn).1, ((h2 i k hn).2).trans (h i k hn).2⟩
theorem fr_m {D E : Nat → Nat → Prop} {S S' : fy_S} (h : fr D S S') (hs : ∀ i k, D i k → E i k) : fr E S S' := fun i k hn => h i k (fun hd => hn (hs i k hd))
theorem fr_I {D : Nat → Nat → Prop} {S S' : fy_S} {i k : Nat} {v : Int32} (h : fr D S S') (hd : D i k) : fr D S (fy_sI S' i k v) := fun i' k' hn => by
  rw [rd_I, if_neg (fun e => hn (by rw [e.1, e.2]; exact hd)), rd_I2]
  exact h i' k' hn
theorem fr_L {D : Nat → Nat → Prop} {S S' : fy_S} {i k : Nat} {v : Int64} (h : fr D S S') (hd : D i k) : fr D S (fy_sL S' i k v) := fun i' k' hn => by
  rw [rd_L, if_neg (fun e => hn (by rw [e.1, e.2]; exact hd)), rd_L1]
  exact h i' k' hn
theorem fr_A {D : Nat → Nat → Prop} {S S' : fy_S} {i : Nat} {f : Nat → Int32} (h : fr D S S') (hd : ∀ k, D i k) : fr D S (fy_sA S' i f) := fun i' k' hn => by
  rw [rd_A, if_neg (fun e => hn (by rw [e]; exact hd k')), rd_A2]
  exact h i' k' hn
theorem fr_B {D : Nat → Nat → Prop} {S S' : fy_S} {i : Nat} {f : Nat → Int64} (h : fr D S S') (hd : ∀ k, D i k) : fr D S (fy_sB S' i f) := fun i' k' hn => by
  rw [rd_B, if_neg (fun e => hn (by rw [e]; exact hd k')), rd_B1]
  exact h i' k' hn
/-! the state that both sides show: an automaton is (states, letters, finals, weights, formulas); a row is (length, what stands at each place) -/
abbrev pu_q : Type := Nat × (Nat → Nat)
abbrev pu_A : Type := Nat × Nat × Nat × (Nat → Nat) × (Nat → pu_q)
abbrev pu_G : Type := (Nat → pu_A) × pu_q × pu_q × pu_q × pu_q × Nat × Nat
def pu_l (f : Nat → Int32) (c : Int32) (q : pu_q) : Prop := c = nI q.1 ∧ ∀ k, k < q.1 → f k = nI (q.2 k)
def pu_u (A : pu_A) (j : Nat) : Prop := j = 0 ∨ (0 < j ∧ (j - 1) / 3 < A.1 ∧ (j - 1) % 3 < A.2.1)
/-- what stands on the pile after k nodes of a formula (states 0-5, true 6, false 7, or 8, and 9) -/
def pu_st {α : Type} (lf : Nat → α) (jn : Nat → α → α → α) (f : Nat → Nat) : Nat → List α
  | 0 => []
  | k + 1 => if f k < 8 then lf (f k) :: pu_st lf jn f k else match pu_st lf jn f k with
    | r :: l :: t => jn (f k) l r :: t
    | s => s
/-- a formula over n states: at most 40 nodes, each operator has two parts, one part is left in the end -/
def pu_dp (f : Nat → Nat) (k : Nat) : Nat := (pu_st (fun _ => ()) (fun _ _ _ => ()) f k).length
def pu_ok (n : Nat) (q : pu_q) : Prop := 1 ≤ q.1 ∧ q.1 ≤ 40 ∧ (∀ k, k < q.1 → (q.2 k < n ∨ (6 ≤ q.2 k ∧ q.2 k < 10)) ∧ (8 ≤ q.2 k → 2 ≤ pu_dp q.2 k)) ∧ pu_dp q.2 q.1 = 1
/-- the table of a formula: bit s says whether the set s satisfies it -/
def pu_lt (c : Nat) : Int64 := if c < 6 then fy_cont c else if c = 6 then -1 else 0
def pu_jt (o : Nat) (l r : Int64) : Int64 := if o = 9 then l &&& r else l ||| r
def pu_T (q : pu_q) : Int64 := (pu_st pu_lt pu_jt q.2 q.1).headD 0
def pu_c (c : Nat) : Nat := if c < 6 then c else if c = 6 then 8 else if c = 7 then 9 else if c = 8 then 11 else 10
def pu_XF (S : fy_S) (id : Nat) (q : pu_q) : Prop := pu_l (S.1 (id + 1)) (S.1 id 1) q ∧ S.2 id 2 = pu_T q
def pu_XA (S : fy_S) (B : Nat) (A : pu_A) : Prop := S.1 B 3 = nI A.1 ∧ S.1 B 4 = nI A.2.1 ∧ S.1 B 5 = nI A.2.2.1 ∧ (∀ x, x < 3 → S.1 (B + 1) x = nI (A.2.2.2.1 x)) ∧ ∀ j, j < 19 → pu_u A j → pu_XF S (B + 3 + 2 * j) (A.2.2.2.2 j)
def pu_MF (S : fy_S) (a j : Nat) (q : pu_q) : Prop := pu_l (fun k => S.1 6 (40 * (19 * a + j) + k)) (S.1 5 (19 * a + j)) (q.1, fun k => pu_c (q.2 k))
def pu_MA (S : fy_S) (a : Nat) (A : pu_A) : Prop := S.1 1 a = nI A.1 ∧ S.1 2 a = nI A.2.1 ∧ S.1 3 a = nI A.2.2.1 ∧ (∀ x, x < 3 → S.1 4 (3 * a + x) = nI (A.2.2.2.1 x)) ∧ (∀ j, j < 19 → ∃ z : Nat, z ≤ 40 ∧ S.1 5 (19 * a + j) = nI z) ∧ ∀ j, j < 19 → pu_u A j → pu_MF S a j (A.2.2.2.2 j)
def pu_wA (A : pu_A) : Prop := 1 ≤ A.1 ∧ A.1 ≤ 6 ∧ 1 ≤ A.2.1 ∧ A.2.1 ≤ 3 ∧ A.2.2.1 < 2 ^ A.1 ∧ (∀ x, x < 3 → 1 ≤ A.2.2.2.1 x ∧ A.2.2.2.1 x ≤ 9) ∧ ∀ j, j < 19 → pu_u A j → pu_ok A.1 (A.2.2.2.2 j)
/-- the search through pairs leaves nothing behind but what its order names -/
def pu_P (S : fy_S) : Prop := ∃ (c : Nat) (f : Nat → Nat), c ≤ 4096 ∧ S.1 34 3 = nI c ∧ (∀ k, k < c → f k < 4096 ∧ S.1 35 k = nI (f k)) ∧ ∀ y, y < 4096 → (∀ k, k < c → f k ≠ y) → S.1 36 y = -1 ∧ S.1 37 y = 0
def pu_X (S : fy_S) (G : pu_G) : Prop := (∀ a, a < 3 + 3 * G.2.2.2.2.2.2 → pu_XA S (38 + 41 * a) (G.1 a)) ∧ pu_l (S.1 4) (S.1 3 4) G.2.1 ∧ pu_l (S.1 9) (S.1 8 1) G.2.2.1 ∧ pu_l (S.1 13) (S.1 12 1) G.2.2.2.1 ∧ pu_l (S.1 15) (S.1 14 1) G.2.2.2.2.1 ∧ S.1 0 13 = nI G.2.2.2.2.2.1 ∧ S.1 0 12 = nI G.2.2.2.2.2.2 ∧ pu_P S
def pu_M (S : fy_S) (G : pu_G) : Prop := (∀ a, a < 3 + 3 * G.2.2.2.2.2.2 → pu_MA S a (G.1 a)) ∧ pu_l (S.1 7) (S.1 0 9) G.2.1 ∧ pu_l (S.1 13) (S.1 0 18) G.2.2.1 ∧ pu_l (S.1 14) (S.1 0 25) G.2.2.2.1 ∧ pu_l (S.1 24) (S.1 0 44) G.2.2.2.2.1 ∧ S.1 0 45 = nI G.2.2.2.2.2.1 ∧ S.1 0 48 = nI G.2.2.2.2.2.2
def pu_W (G : pu_G) : Prop := (∀ a, a < 3 + 3 * G.2.2.2.2.2.2 → pu_wA (G.1 a)) ∧ (G.2.1.1 ≤ 60 ∧ ∀ k, k < G.2.1.1 → G.2.1.2 k < 128) ∧ G.2.2.1.1 ≤ 120 ∧ (G.2.2.2.1.1 ≤ 12 ∧ ∀ k, k < G.2.2.2.1.1 → G.2.2.2.1.2 k < 3) ∧ G.2.2.2.2.1.1 ≤ 128 ∧ G.2.2.2.2.2.2 ≤ 1
def pu_R (SX SM : fy_S) (G : pu_G) : Prop := pu_W G ∧ pu_X SX G ∧ pu_M SM G
def pu_I (SX SM : fy_S) : Prop := ∃ G, pu_R SX SM G
/-- cells that nothing depends on between calls -/
def pu_xs (i k : Nat) : Prop := (i = 3 ∧ k ≠ 4) ∨ (5 ≤ i ∧ i ≤ 7) ∨ (i = 8 ∧ k ≠ 1) ∨ i = 10 ∨ i = 11 ∨ (16 ≤ i ∧ i ≤ 33) ∨ 284 ≤ i
def pu_ms (i k : Nat) : Prop := (i = 0 ∧ ((10 ≤ k ∧ k ≤ 13) ∨ (19 ≤ k ∧ k ≤ 23) ∨ k = 34)) ∨ (8 ≤ i ∧ i ≤ 12) ∨ (15 ≤ i ∧ i ≤ 23) ∨ (25 ≤ i ∧ i ≤ 33) ∨ (1 ≤ i ∧ i ≤ 3 ∧ k = 6) ∨ (i = 4 ∧ 18 ≤ k) ∨ (i = 5 ∧ 114 ≤ k) ∨ (i = 6 ∧ 4560 ≤ k)
/-! one piece of the state stays if its cells do -/
theorem pu_l_c {f f' : Nat → Int32} {c c' : Int32} {q : pu_q} (h : pu_l f c q) (hc : c' = c) (hf : ∀ k, k < q.1 → f' k = f k) : pu_l f' c' q := ⟨hc.trans h.1, fun k hk => (hf k hk).trans (h.2 k hk)⟩
theorem pu_XA_c {S S' : fy_S} {B : Nat} {A : pu_A} (h : pu_XA S B A) (hc : ∀ i k, B ≤ i → i < B + 41 → S'.1 i k = S.1 i k ∧ S'.2 i k = S.2 i k) : pu_XA S' B A := by
  obtain ⟨h1, h2, h3, h4, h5⟩ := h
  refine ⟨?_, ?_, ?_, fun x hx => ?_, fun j hj hu => ⟨⟨?_, fun k hk => ?_⟩, ?_⟩⟩
  · rw [(hc _ _ (by omega) (by omega)).1]; exact h1
  · rw [(hc _ _ (by omega) (by omega)).1]; exact h2
  · rw [(hc _ _ (by omega) (by omega)).1]; exact h3
  · rw [(hc _ _ (by omega) (by omega)).1]; exact h4 x hx
  · rw [(hc _ _ (by omega) (by omega)).1]; exact (h5 j hj hu).1.1
  · rw [(hc _ _ (by omega) (by omega)).1]; exact (h5 j hj hu).1.2 k hk
  · rw [(hc _ _ (by omega) (by omega)).2]; exact (h5 j hj hu).2
theorem pu_MA_c {S S' : fy_S} {a : Nat} {A : pu_A} (hw : pu_wA A) (h : pu_MA S a A) (h1 : ∀ i, 1 ≤ i → i ≤ 3 → S'.1 i a = S.1 i a) (h4 : ∀ k, 3 * a ≤ k → k < 3 * a + 3 → S'.1 4 k = S.1 4 k) (h5 : ∀ k, 19 * a ≤ k → k < 19 * a + 19 → S'.1 5 k = S.1 5 k) (h6 : ∀ k, 760 * a ≤ k → k < 760 * a + 760 → S'.1 6 k = S.1 6 k) : pu_MA S' a A := by
  obtain ⟨g1, g2, g3, g4, g5, g6⟩ := h
  refine ⟨?_, ?_, ?_, fun x hx => ?_, fun j hj => ?_, fun j hj hu => ⟨?_, fun k hk => ?_⟩⟩
  · rw [h1 _ (by omega) (by omega)]; exact g1
  · rw [h1 _ (by omega) (by omega)]; exact g2
  · rw [h1 _ (by omega) (by omega)]; exact g3
  · rw [h4 _ (by omega) (by omega)]; exact g4 x hx
  · rw [h5 _ (by omega) (by omega)]; exact g5 j hj
  · rw [h5 _ (by omega) (by omega)]; exact (g6 j hj hu).1
  · have hk40 : k < 40 := Nat.lt_of_lt_of_le hk (hw.2.2.2.2.2.2 j hj hu).2.1
    show S'.1 6 _ = _
    rw [h6 _ (by omega) (by omega)]; exact (g6 j hj hu).2 k hk
theorem pu_P_c {S S' : fy_S} (h : pu_P S) (h1 : S'.1 34 3 = S.1 34 3) (h2 : ∀ i k, 35 ≤ i → i ≤ 37 → S'.1 i k = S.1 i k) : pu_P S' := by
  obtain ⟨c, f, g1, g2, g3, g4⟩ := h
  refine ⟨c, f, g1, by rw [h1]; exact g2, fun k hk => ⟨(g3 k hk).1, by rw [h2 _ _ (by omega) (by omega)]; exact (g3 k hk).2⟩, fun y hy hn => ⟨?_, ?_⟩⟩
  · rw [h2 _ _ (by omega) (by omega)]; exact (g4 y hy hn).1
  · rw [h2 _ _ (by omega) (by omega)]; exact (g4 y hy hn).2
theorem pu_X_fr {S S' : fy_S} {G : pu_G} (hw : pu_W G) (h : pu_X S G) (f : fr pu_xs S S') : pu_X S' G := by
  obtain ⟨h1, h2, h3, h4, h5, h6, h7, h8⟩ := h
  have hs := hw.2.2.2.2.2
  refine ⟨fun a ha => pu_XA_c (h1 a ha) (fun i k g1 g2 => f i k (by unfold pu_xs; omega)), pu_l_c h2 (f _ _ (by unfold pu_xs; omega)).1 (fun k _ => (f _ _ (by unfold pu_xs; omega)).1), pu_l_c h3 (f _ _ (by unfold pu_xs; omega)).1 (fun k _ => (f _ _ (by unfold pu_xs; omega)).1), pu_l_c h4 (f _ _ (by unfold pu_xs; omega)).1 (fun k _ => (f _ _ (by unfold pu_xs; omega)).1), pu_l_c h5 (f _ _ (by unfold pu_xs; omega)).1 (fun k _ => (f _ _ (by unfold pu_xs; omega)).1), ?_, ?_, pu_P_c h8 (f _ _ (by unfold pu_xs; omega)).1 (fun i k _ _ => (f _ _ (by unfold pu_xs; omega)).1)⟩
  · rw [(f _ _ (by unfold pu_xs; omega)).1]; exact h6
  · rw [(f _ _ (by unfold pu_xs; omega)).1]; exact h7
theorem pu_M_fr {S S' : fy_S} {G : pu_G} (hw : pu_W G) (h : pu_M S G) (f : fr pu_ms S S') : pu_M S' G := by
  obtain ⟨h1, h2, h3, h4, h5, h6, h7⟩ := h
  have hs := hw.2.2.2.2.2
  refine ⟨fun a ha => pu_MA_c (hw.1 a ha) (h1 a ha) (fun i g1 g2 => (f i a (by unfold pu_ms; omega)).1) (fun k g1 g2 => (f 4 k (by unfold pu_ms; omega)).1) (fun k g1 g2 => (f 5 k (by unfold pu_ms; omega)).1) (fun k g1 g2 => (f 6 k (by unfold pu_ms; omega)).1), pu_l_c h2 (f _ _ (by unfold pu_ms; omega)).1 (fun k _ => (f _ _ (by unfold pu_ms; omega)).1), pu_l_c h3 (f _ _ (by unfold pu_ms; omega)).1 (fun k _ => (f _ _ (by unfold pu_ms; omega)).1), pu_l_c h4 (f _ _ (by unfold pu_ms; omega)).1 (fun k _ => (f _ _ (by unfold pu_ms; omega)).1), pu_l_c h5 (f _ _ (by unfold pu_ms; omega)).1 (fun k _ => (f _ _ (by unfold pu_ms; omega)).1), ?_, ?_⟩
  · rw [(f _ _ (by unfold pu_ms; omega)).1]; exact h6
  · rw [(f _ _ (by unfold pu_ms; omega)).1]; exact h7
/-! slots, ranges -/
theorem pu_slot (v : Int32) : (∃ a : Nat, a < 3 ∧ v = nI a) ∨ (v < 0 ∨ (3 : Int32) ≤ v) := by
  rcases pk_ix v (n := 3) (by decide) with h | h | h
  · exact .inr (.inl h)
  · exact .inr (.inr h)
  · exact .inl h
theorem X_ar1 {a : Nat} : X_ar 1 a = 38 + 41 * a := by
  have h : X_kd 1 = 13 := by decide
  simp [X_ar, h]
theorem X_ar2 {a : Nat} : X_ar 2 a = 161 + 41 * a := by
  have h : X_kd 2 = 14 := by decide
  simp [X_ar, h]
theorem X_kd11 : ∀ a, a < 7 → X_kd (38 + 41 * a + 2) = 11 := by decide +kernel
theorem X_arm {a j : Nat} (ha : a < 7) : X_ar (38 + 41 * a + 2) j = 38 + 41 * a + 5 + 2 * j := by
  rw [X_ar, if_pos (X_kd11 a ha)]
theorem X_ain_y {S : fy_S} {a : Nat} (ha : a < 3) : X9_automatonIn S (nI a) = some (some (38 + 41 * a)) := by
  rw [X9_automatonIn, if_neg (nI_pos (by omega)), if_neg (show ¬ (3 : Int32) ≤ nI a from nI_ge (b := 3) ha (by decide)), fy_gd, if_pos (fy_ix_nI ha (by decide)), nI_clamp (by omega), X_ar1]
theorem X_ain_n {S : fy_S} {v : Int32} (h : v < 0 ∨ (3 : Int32) ≤ v) : X9_automatonIn S v = some none := by
  rw [X9_automatonIn]
  by_cases h1 : v < 0
  · rw [if_pos h1]
  · rw [if_neg h1, if_pos (h.resolve_left h1)]
theorem M_slot_y {S : fy_S} {a : Nat} (ha : a < 3) : M_isSlot S (nI a) = some 1 := by
  rw [M_isSlot, if_neg (nI_pos (by omega)), if_neg (show ¬ (3 : Int32) ≤ nI a from nI_ge (b := 3) ha (by decide))]
theorem M_slot_n {S : fy_S} {v : Int32} (h : v < 0 ∨ (3 : Int32) ≤ v) : M_isSlot S v = some 0 := by
  rw [M_isSlot]
  by_cases h1 : v < 0
  · rw [if_pos h1]
  · rw [if_neg h1, if_pos (h.resolve_left h1)]
theorem pu_bw {lo hi : Nat} (v : Int32) (hl : lo < 2 ^ 31) (hh : hi < 2 ^ 31) : (∃ k : Nat, lo ≤ k ∧ k ≤ hi ∧ v = nI k) ∨ (v < nI lo ∨ nI hi < v) := by
  by_cases h0 : v < 0
  · right; left
    rw [fa_lt] at h0 ⊢
    rw [nI_toInt hl]
    have : (0 : Int32).toInt = 0 := by decide
    omega
  · obtain ⟨j, hj, rfl⟩ := nI_of h0
    by_cases h1 : hi < j
    · exact .inr (.inr (nI_lt h1 hj))
    · by_cases h2 : j < lo
      · exact .inr (.inl (nI_lt h2 hl))
      · exact .inl ⟨j, by omega, by omega, rfl⟩
theorem X_within_y {S : fy_S} {lo hi k : Nat} (h1 : lo ≤ k) (h2 : k ≤ hi) (hh : hi < 2 ^ 31) : X9_isWithin S (nI k) (nI lo) (nI hi) = some 1 := by
  rw [X9_isWithin, if_neg (nI_nlt h1 (by omega)), if_neg (nI_nlt h2 hh)]
theorem X_within_n {S : fy_S} {lo hi : Nat} {v : Int32} (h : v < nI lo ∨ nI hi < v) : X9_isWithin S v (nI lo) (nI hi) = some 0 := by
  rw [X9_isWithin]
  by_cases h1 : v < nI lo
  · rw [if_pos h1]
  · rw [if_neg h1, if_pos (h.resolve_left h1)]
theorem M_between_y {S : fy_S} {lo hi k : Nat} (h1 : lo ≤ k) (h2 : k ≤ hi) (hh : hi < 2 ^ 31) : M_isBetween S (nI k) (nI lo) (nI hi) = some 1 := by
  rw [M_isBetween, if_neg (nI_nlt h1 (by omega)), if_neg (nI_nlt h2 hh)]
theorem M_between_n {S : fy_S} {lo hi : Nat} {v : Int32} (h : v < nI lo ∨ nI hi < v) : M_isBetween S v (nI lo) (nI hi) = some 0 := by
  rw [M_isBetween]
  by_cases h1 : v < nI lo
  · rw [if_pos h1]
  · rw [if_neg h1, if_pos (h.resolve_left h1)]
theorem X_hs_y {S : fy_S} {B p n : Nat} (hS : S.1 B 3 = nI n) (h : p < n) (hn : n < 2 ^ 31) : X0_hasState S B (nI p) = some 1 := by
  rw [X0_hasState, if_neg (nI_pos (by omega)), hS, if_neg (nI_ge h hn)]
theorem X_hs_n {S : fy_S} {B n : Nat} {v : Int32} (hS : S.1 B 3 = nI n) (h : v < 0 ∨ nI n ≤ v) : X0_hasState S B v = some 0 := by
  rw [X0_hasState, hS]
  by_cases h1 : v < 0
  · rw [if_pos h1]
  · rw [if_neg h1, if_pos (h.resolve_left h1)]
theorem X_hl_y {S : fy_S} {B p n : Nat} (hS : S.1 B 4 = nI n) (h : p < n) (hn : n < 2 ^ 31) : X0_hasLetter S B (nI p) = some 1 := by
  rw [X0_hasLetter, if_neg (nI_pos (by omega)), hS, if_neg (nI_ge h hn)]
theorem X_hl_n {S : fy_S} {B n : Nat} {v : Int32} (hS : S.1 B 4 = nI n) (h : v < 0 ∨ nI n ≤ v) : X0_hasLetter S B v = some 0 := by
  rw [X0_hasLetter, hS]
  by_cases h1 : v < 0
  · rw [if_pos h1]
  · rw [if_neg h1, if_pos (h.resolve_left h1)]
theorem M_hs_y {S : fy_S} {a p n : Nat} (ha : a < 7) (hS : S.1 1 a = nI n) (h : p < n) (hn : n < 2 ^ 31) : M_isState S (nI a) (nI p) = some 1 := by
  rw [M_isState, if_neg (nI_pos (by omega)), nI_clamp (by omega), hS, if_neg (nI_ge h hn), fy_gd, if_pos (fy_ix_nI ha (by decide))]
theorem M_hs_n {S : fy_S} {a n : Nat} {v : Int32} (ha : a < 7) (hS : S.1 1 a = nI n) (h : v < 0 ∨ nI n ≤ v) : M_isState S (nI a) v = some 0 := by
  rw [M_isState, nI_clamp (by omega), hS]
  by_cases h1 : v < 0
  · rw [if_pos h1]
  · rw [if_neg h1, if_pos (h.resolve_left h1), fy_gd, if_pos (fy_ix_nI ha (by decide))]
theorem M_hl_y {S : fy_S} {a p n : Nat} (ha : a < 7) (hS : S.1 2 a = nI n) (h : p < n) (hn : n < 2 ^ 31) : M_isLetter S (nI a) (nI p) = some 1 := by
  rw [M_isLetter, if_neg (nI_pos (by omega)), nI_clamp (by omega), hS, if_neg (nI_ge h hn), fy_gd, if_pos (fy_ix_nI ha (by decide))]
theorem M_hl_n {S : fy_S} {a n : Nat} {v : Int32} (ha : a < 7) (hS : S.1 2 a = nI n) (h : v < 0 ∨ nI n ≤ v) : M_isLetter S (nI a) v = some 0 := by
  rw [M_isLetter, nI_clamp (by omega), hS]
  by_cases h1 : v < 0
  · rw [if_pos h1]
  · rw [if_neg h1, if_pos (h.resolve_left h1), fy_gd, if_pos (fy_ix_nI ha (by decide))]
theorem pu_ixx (v : Int32) {n : Nat} (hn : n < 2 ^ 31) : (∃ p : Nat, p < n ∧ v = nI p) ∨ (v < 0 ∨ nI n ≤ v) := by
  rcases pk_ix v hn with h | h | h
  · exact .inr (.inl h)
  · exact .inr (.inr h)
  · exact .inl h
theorem fy_gd_y {α : Type} {i n : Nat} {k : Option α} (h : i < n) (hn : n < 2 ^ 31) : fy_gd (fy_ix (nI i) n) k = k := by rw [fy_gd, if_pos (fy_ix_nI h hn)]
