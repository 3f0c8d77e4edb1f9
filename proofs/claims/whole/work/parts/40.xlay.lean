/-! THE CLASS'S LAYOUT: the workbench 0, its rows and parts 1 to 37, then seven automata of 41 cells each: the object, its weights, its row of moves, and nineteen formulas with their nodes -/
def X_kd (id : Nat) : Nat := if id < 38 then ([9, 13, 14, 4, 15, 16, 17, 16, 3, 18, 19, 19, 8, 20, 8, 21, 5, 22, 19, 19, 7, 23, 24, 24, 25, 25, 7, 23, 24, 24, 25, 25, 1, 24, 6, 26, 26, 27] : List Nat).getD id 99 else if (id - 38) % 41 = 0 then 0 else if (id - 38) % 41 = 1 then 10 else if (id - 38) % 41 = 2 then 11 else if (id - 38) % 41 % 2 = 1 then 2 else 12
def X_at (k : Nat) : Nat := ([0, 7, 1, 6, 6, 2, 1, 5, 2, 0, 1, 1, 0, 0, 0, 5, 3, 4] : List Nat).getD (k - 10) 0
def X_ln (k : Nat) : Nat := ([3, 18, 40, 3, 3, 60, 60, 60, 120, 40, 12, 128, 78, 192, 64, 64, 4096, 4096] : List Nat).getD (k - 10) 0
def X_al (id : Nat) : Nat := X_ln (X_kd id)
def X_ar (id j : Nat) : Nat := if X_kd id = 11 then id + 3 + 2 * j else if id = 1 then 38 + 41 * j else 161 + 41 * j
def X_sh (ci id : Nat) : List fy_K := match ci with
  | 0 => [some (some (id + 1)), some (some (id + 3)), some (some (id + 2)), none, none, none]
  | 1 => [some (some 33), none]
  | 2 => [some (some (id + 1)), none, some none]
  | 3 => [some (some 9), none, some (some 10), some (some 11), none]
  | 4 => [some (some 4), some (some 5), some (some 6), some (some 7), none, none, none, none, none]
  | 5 => [some (some 17), some (some 18), some (some 19)]
  | 6 => [some (some 35), some (some 36), some (some 37), none, none]
  | 7 => [some (some (id + 1)), some (some (id + 2)), some (some (id + 3)), some (some (id + 4)), some (some (id + 5)), none, none, some none]
  | 8 => [some (some (id + 1)), none]
  | _ => [some (some 1), some (some 2), some (some 284), some (some 3), some (some 8), some (some 12), some (some 14), some (some 16), some (some 20), some (some 26), some (some 32), some (some 34), none, none]
def X_lay (id : Nat) : fy_L := if X_kd id < 10 then .inr (X_kd id, X_sh (X_kd id) id) else .inl (X_at (X_kd id), X_al id, X_ar id)
def X_Y : fy_Y := (X_lay, List.range 325)
/-- a part of the layout in which every cell's rows and parts lie too -/
def X_clo (y : fy_Y) : Prop := y.1 = X_lay ∧ (∀ id ∈ y.2, id < 325) ∧ (∀ id ∈ y.2, X_kd id = 0 → id + 1 ∈ y.2 ∧ id + 2 ∈ y.2 ∧ id + 3 ∈ y.2) ∧ (∀ id ∈ y.2, X_kd id = 2 → id + 1 ∈ y.2) ∧ (∀ id ∈ y.2, X_kd id = 7 → id + 1 ∈ y.2 ∧ id + 2 ∈ y.2 ∧ id + 3 ∈ y.2 ∧ id + 4 ∈ y.2 ∧ id + 5 ∈ y.2) ∧ (∀ id ∈ y.2, X_kd id = 8 → id + 1 ∈ y.2) ∧ (∀ id ∈ y.2, X_kd id = 11 → ∀ j, j < 18 → X_ar id j ∈ y.2) ∧ (∀ id ∈ y.2, (X_kd id = 13 ∨ X_kd id = 14) → ∀ j, j < 3 → X_ar id j ∈ y.2)
theorem X_full : X_clo X_Y := ⟨rfl, by decide +kernel, by decide +kernel, by decide +kernel, by decide +kernel, by decide +kernel, by decide +kernel, by decide +kernel⟩
theorem X_in {id : Nat} (h : id < 325) : id ∈ X_Y.2 := by
  simp only [X_Y, List.mem_range]
  exact h
def X_is (y : fy_Y) (ci id : Nat) : Prop := id ∈ y.2 ∧ X_kd id = ci
theorem X_oo {y : fy_Y} (hcl : X_clo y) {ci id : Nat} (h : X_is y ci id) (h10 : ci < 10) : id ∈ y.2 ∧ y.1 id = .inr (ci, X_sh ci id) := ⟨h.1, by
  rw [hcl.1]
  unfold X_lay
  rw [h.2, if_pos h10]⟩
theorem X_aa {y : fy_Y} (hcl : X_clo y) {k id : Nat} (h : id ∈ y.2) (hk : X_kd id = k) (h10 : ¬ k < 10) : id ∈ y.2 ∧ y.1 id = .inl (X_at k, X_ln k, X_ar id) := ⟨h, by
  rw [hcl.1]
  unfold X_lay X_al
  rw [hk, if_neg h10]⟩
theorem X_inv {y : fy_Y} (hcl : X_clo y) {t n id : Nat} {r : Nat → Nat} (h : id ∈ y.2 ∧ y.1 id = .inl (t, n, r)) : ¬ X_kd id < 10 ∧ X_at (X_kd id) = t ∧ X_al id = n := by
  obtain ⟨h1, h2⟩ := h
  rw [hcl.1] at h2
  unfold X_lay at h2
  by_cases hk : X_kd id < 10
  · rw [if_pos hk] at h2; cases h2
  · rw [if_neg hk] at h2
    have h3 := Sum.inl.inj h2
    exact ⟨hk, congrArg (·.1) h3, congrArg (·.2.1) h3⟩
theorem X_an {y : fy_Y} (hcl : X_clo y) {t n id : Nat} (h : id ∈ y.2 ∧ y.1 id = .inl (t, n, X_ar id)) : id ∈ y.2 ∧ y.1 id = .inl (t, X_al id, X_ar id) := by
  obtain ⟨-, -, h4⟩ := X_inv hcl h
  rw [h4]; exact h
theorem X_o0 {y : fy_Y} (hcl : X_clo y) {id : Nat} (h : X_is y 0 id) : id ∈ y.2 ∧ y.1 id = .inr (0, X_sh 0 id) := X_oo hcl h (by decide)
theorem X_o1 {y : fy_Y} (hcl : X_clo y) {id : Nat} (h : X_is y 1 id) : id ∈ y.2 ∧ y.1 id = .inr (1, X_sh 1 id) := X_oo hcl h (by decide)
theorem X_o2 {y : fy_Y} (hcl : X_clo y) {id : Nat} (h : X_is y 2 id) : id ∈ y.2 ∧ y.1 id = .inr (2, X_sh 2 id) := X_oo hcl h (by decide)
theorem X_o3 {y : fy_Y} (hcl : X_clo y) {id : Nat} (h : X_is y 3 id) : id ∈ y.2 ∧ y.1 id = .inr (3, X_sh 3 id) := X_oo hcl h (by decide)
theorem X_o4 {y : fy_Y} (hcl : X_clo y) {id : Nat} (h : X_is y 4 id) : id ∈ y.2 ∧ y.1 id = .inr (4, X_sh 4 id) := X_oo hcl h (by decide)
theorem X_o5 {y : fy_Y} (hcl : X_clo y) {id : Nat} (h : X_is y 5 id) : id ∈ y.2 ∧ y.1 id = .inr (5, X_sh 5 id) := X_oo hcl h (by decide)
theorem X_o6 {y : fy_Y} (hcl : X_clo y) {id : Nat} (h : X_is y 6 id) : id ∈ y.2 ∧ y.1 id = .inr (6, X_sh 6 id) := X_oo hcl h (by decide)
theorem X_o7 {y : fy_Y} (hcl : X_clo y) {id : Nat} (h : X_is y 7 id) : id ∈ y.2 ∧ y.1 id = .inr (7, X_sh 7 id) := X_oo hcl h (by decide)
theorem X_o8 {y : fy_Y} (hcl : X_clo y) {id : Nat} (h : X_is y 8 id) : id ∈ y.2 ∧ y.1 id = .inr (8, X_sh 8 id) := X_oo hcl h (by decide)
theorem X_o9 {y : fy_Y} (hcl : X_clo y) {id : Nat} (h : X_is y 9 id) : id ∈ y.2 ∧ y.1 id = .inr (9, X_sh 9 id) := X_oo hcl h (by decide)
theorem X_d0 : ∀ id, id < 325 → X_kd id = 0 → X_kd (id + 1) = 10 ∧ X_kd (id + 2) = 11 ∧ X_kd (id + 3) = 2 := by decide +kernel
theorem X_d2 : ∀ id, id < 325 → X_kd id = 2 → X_kd (id + 1) = 12 := by decide +kernel
theorem X_d7 : ∀ id, id < 325 → X_kd id = 7 → X_kd (id + 1) = 23 ∧ X_kd (id + 2) = 24 ∧ X_kd (id + 3) = 24 ∧ X_kd (id + 4) = 25 ∧ X_kd (id + 5) = 25 := by decide +kernel
theorem X_d8 : ∀ id, id < 325 → X_kd id = 8 → ¬ X_kd (id + 1) < 10 ∧ X_at (X_kd (id + 1)) = 1 := by decide +kernel
theorem X_d11 : ∀ id, id < 325 → ¬ X_kd id < 10 → X_at (X_kd id) = 7 → X_kd id = 11 ∧ ∀ j, j < 18 → X_kd (X_ar id j) = 2 := by decide +kernel
theorem X_d13 : ∀ id, id < 325 → ¬ X_kd id < 10 → X_at (X_kd id) = 6 → (X_kd id = 13 ∨ X_kd id = 14) ∧ X_al id = 3 ∧ ∀ j, j < 3 → X_kd (X_ar id j) = 0 := by decide +kernel
theorem X_f0_weights {y : fy_Y} (hcl : X_clo y) {id : Nat} (h : X_is y 0 id) : id + 1 ∈ y.2 ∧ y.1 (id + 1) = .inl (0, 3, X_ar (id + 1)) :=
  X_aa hcl (hcl.2.2.1 id h.1 h.2).1 (X_d0 id (hcl.2.1 id h.1) h.2).1 (by decide)
theorem X_f0_moves {y : fy_Y} (hcl : X_clo y) {id : Nat} (h : X_is y 0 id) : id + 2 ∈ y.2 ∧ y.1 (id + 2) = .inl (7, 18, X_ar (id + 2)) :=
  X_aa hcl (hcl.2.2.1 id h.1 h.2).2.1 (X_d0 id (hcl.2.1 id h.1) h.2).2.1 (by decide)
theorem X_f0_initial {y : fy_Y} (hcl : X_clo y) {id : Nat} (h : X_is y 0 id) : X_is y 2 (id + 3) :=
  ⟨(hcl.2.2.1 id h.1 h.2).2.2, (X_d0 id (hcl.2.1 id h.1) h.2).2.2⟩
theorem X_f2_nodes {y : fy_Y} (hcl : X_clo y) {id : Nat} (h : X_is y 2 id) : id + 1 ∈ y.2 ∧ y.1 (id + 1) = .inl (1, 40, X_ar (id + 1)) :=
  X_aa hcl (hcl.2.2.2.1 id h.1 h.2) (X_d2 id (hcl.2.1 id h.1) h.2) (by decide)
theorem X_f8_letters {y : fy_Y} (hcl : X_clo y) {id : Nat} (h : X_is y 8 id) : id + 1 ∈ y.2 ∧ y.1 (id + 1) = .inl (1, X_al (id + 1), X_ar (id + 1)) := by
  obtain ⟨b, c⟩ := X_d8 id (hcl.2.1 id h.1) h.2
  have := X_aa hcl (hcl.2.2.2.2.2.1 id h.1 h.2) rfl b
  rw [c] at this
  exact this
theorem X_f7_steps {y : fy_Y} (hcl : X_clo y) {id : Nat} (h : X_is y 7 id) : id + 1 ∈ y.2 ∧ y.1 (id + 1) = .inl (0, 192, X_ar (id + 1)) :=
  X_aa hcl (hcl.2.2.2.2.1 id h.1 h.2).1 (X_d7 id (hcl.2.1 id h.1) h.2).1 (by decide)
theorem X_f7_classes {y : fy_Y} (hcl : X_clo y) {id : Nat} (h : X_is y 7 id) : id + 2 ∈ y.2 ∧ y.1 (id + 2) = .inl (0, 64, X_ar (id + 2)) :=
  X_aa hcl (hcl.2.2.2.2.1 id h.1 h.2).2.1 (X_d7 id (hcl.2.1 id h.1) h.2).2.1 (by decide)
theorem X_f7_finerClasses {y : fy_Y} (hcl : X_clo y) {id : Nat} (h : X_is y 7 id) : id + 3 ∈ y.2 ∧ y.1 (id + 3) = .inl (0, 64, X_ar (id + 3)) :=
  X_aa hcl (hcl.2.2.2.2.1 id h.1 h.2).2.2.1 (X_d7 id (hcl.2.1 id h.1) h.2).2.2.1 (by decide)
theorem X_f7_counts {y : fy_Y} (hcl : X_clo y) {id : Nat} (h : X_is y 7 id) : id + 4 ∈ y.2 ∧ y.1 (id + 4) = .inl (5, 64, X_ar (id + 4)) :=
  X_aa hcl (hcl.2.2.2.2.1 id h.1 h.2).2.2.2.1 (X_d7 id (hcl.2.1 id h.1) h.2).2.2.2.1 (by decide)
theorem X_f7_nextCounts {y : fy_Y} (hcl : X_clo y) {id : Nat} (h : X_is y 7 id) : id + 5 ∈ y.2 ∧ y.1 (id + 5) = .inl (5, 64, X_ar (id + 5)) :=
  X_aa hcl (hcl.2.2.2.2.1 id h.1 h.2).2.2.2.2 (X_d7 id (hcl.2.1 id h.1) h.2).2.2.2.2 (by decide)
theorem X_e7 {y : fy_Y} (hcl : X_clo y) {id n : Nat} (h : id ∈ y.2 ∧ y.1 id = .inl (7, n, X_ar id)) {i : Int32} (hi : fy_ix i n = true) : X_is y 2 (X_ar id i.toNatClampNeg) := by
  obtain ⟨h2, h3, h4⟩ := X_inv hcl h
  obtain ⟨h5, h6⟩ := X_d11 id (hcl.2.1 id h.1) h2 h3
  have hn : n = 18 := by rw [← h4, X_al, h5]; rfl
  have hlt : i.toNatClampNeg < 18 := by rw [← hn]; exact (of_decide_eq_true hi).2
  exact ⟨hcl.2.2.2.2.2.2.1 id h.1 h5 _ hlt, h6 _ hlt⟩
theorem X_e6 {y : fy_Y} (hcl : X_clo y) {id n : Nat} (h : id ∈ y.2 ∧ y.1 id = .inl (6, n, X_ar id)) {i : Int32} (hi : fy_ix i n = true) : X_is y 0 (X_ar id i.toNatClampNeg) := by
  obtain ⟨h2, h3, h4⟩ := X_inv hcl h
  obtain ⟨h5, h7, h6⟩ := X_d13 id (hcl.2.1 id h.1) h2 h3
  have hn : n = 3 := by rw [← h4, h7]
  have hlt : i.toNatClampNeg < 3 := by rw [← hn]; exact (of_decide_eq_true hi).2
  exact ⟨hcl.2.2.2.2.2.2.2 id h.1 h5 _ hlt, h6 _ hlt⟩
theorem X_i0 : X_is X_Y 9 0 := ⟨X_in (by decide), by decide⟩
theorem X_i3 : X_is X_Y 4 3 := ⟨X_in (by decide), by decide⟩
theorem X_i8 : X_is X_Y 3 8 := ⟨X_in (by decide), by decide⟩
theorem X_i12 : X_is X_Y 8 12 := ⟨X_in (by decide), by decide⟩
theorem X_i14 : X_is X_Y 8 14 := ⟨X_in (by decide), by decide⟩
theorem X_i16 : X_is X_Y 5 16 := ⟨X_in (by decide), by decide⟩
theorem X_i20 : X_is X_Y 7 20 := ⟨X_in (by decide), by decide⟩
theorem X_i26 : X_is X_Y 7 26 := ⟨X_in (by decide), by decide⟩
theorem X_i32 : X_is X_Y 1 32 := ⟨X_in (by decide), by decide⟩
theorem X_i34 : X_is X_Y 6 34 := ⟨X_in (by decide), by decide⟩
theorem X_i284 : X_is X_Y 0 284 := ⟨X_in (by decide), by decide⟩
theorem X_a1 : 1 ∈ X_Y.2 ∧ X_Y.1 1 = .inl (6, 3, X_ar 1) := X_aa X_full (k := 13) (X_in (by decide)) (by decide) (by decide)
theorem X_a2 : 2 ∈ X_Y.2 ∧ X_Y.1 2 = .inl (6, 3, X_ar 2) := X_aa X_full (k := 14) (X_in (by decide)) (by decide) (by decide)
theorem X_a4 : 4 ∈ X_Y.2 ∧ X_Y.1 4 = .inl (2, 60, X_ar 4) := X_aa X_full (k := 15) (X_in (by decide)) (by decide) (by decide)
theorem X_a5 : 5 ∈ X_Y.2 ∧ X_Y.1 5 = .inl (1, 60, X_ar 5) := X_aa X_full (k := 16) (X_in (by decide)) (by decide) (by decide)
theorem X_a6 : 6 ∈ X_Y.2 ∧ X_Y.1 6 = .inl (5, 60, X_ar 6) := X_aa X_full (k := 17) (X_in (by decide)) (by decide) (by decide)
theorem X_a7 : 7 ∈ X_Y.2 ∧ X_Y.1 7 = .inl (1, 60, X_ar 7) := X_aa X_full (k := 16) (X_in (by decide)) (by decide) (by decide)
theorem X_a9 : 9 ∈ X_Y.2 ∧ X_Y.1 9 = .inl (2, 120, X_ar 9) := X_aa X_full (k := 18) (X_in (by decide)) (by decide) (by decide)
theorem X_a10 : 10 ∈ X_Y.2 ∧ X_Y.1 10 = .inl (0, 40, X_ar 10) := X_aa X_full (k := 19) (X_in (by decide)) (by decide) (by decide)
theorem X_a11 : 11 ∈ X_Y.2 ∧ X_Y.1 11 = .inl (0, 40, X_ar 11) := X_aa X_full (k := 19) (X_in (by decide)) (by decide) (by decide)
theorem X_a13 : 13 ∈ X_Y.2 ∧ X_Y.1 13 = .inl (1, 12, X_ar 13) := X_aa X_full (k := 20) (X_in (by decide)) (by decide) (by decide)
theorem X_a15 : 15 ∈ X_Y.2 ∧ X_Y.1 15 = .inl (1, 128, X_ar 15) := X_aa X_full (k := 21) (X_in (by decide)) (by decide) (by decide)
theorem X_a17 : 17 ∈ X_Y.2 ∧ X_Y.1 17 = .inl (0, 78, X_ar 17) := X_aa X_full (k := 22) (X_in (by decide)) (by decide) (by decide)
theorem X_a18 : 18 ∈ X_Y.2 ∧ X_Y.1 18 = .inl (0, 40, X_ar 18) := X_aa X_full (k := 19) (X_in (by decide)) (by decide) (by decide)
theorem X_a19 : 19 ∈ X_Y.2 ∧ X_Y.1 19 = .inl (0, 40, X_ar 19) := X_aa X_full (k := 19) (X_in (by decide)) (by decide) (by decide)
theorem X_a21 : 21 ∈ X_Y.2 ∧ X_Y.1 21 = .inl (0, 192, X_ar 21) := X_aa X_full (k := 23) (X_in (by decide)) (by decide) (by decide)
theorem X_a22 : 22 ∈ X_Y.2 ∧ X_Y.1 22 = .inl (0, 64, X_ar 22) := X_aa X_full (k := 24) (X_in (by decide)) (by decide) (by decide)
theorem X_a23 : 23 ∈ X_Y.2 ∧ X_Y.1 23 = .inl (0, 64, X_ar 23) := X_aa X_full (k := 24) (X_in (by decide)) (by decide) (by decide)
theorem X_a24 : 24 ∈ X_Y.2 ∧ X_Y.1 24 = .inl (5, 64, X_ar 24) := X_aa X_full (k := 25) (X_in (by decide)) (by decide) (by decide)
theorem X_a25 : 25 ∈ X_Y.2 ∧ X_Y.1 25 = .inl (5, 64, X_ar 25) := X_aa X_full (k := 25) (X_in (by decide)) (by decide) (by decide)
theorem X_a27 : 27 ∈ X_Y.2 ∧ X_Y.1 27 = .inl (0, 192, X_ar 27) := X_aa X_full (k := 23) (X_in (by decide)) (by decide) (by decide)
theorem X_a28 : 28 ∈ X_Y.2 ∧ X_Y.1 28 = .inl (0, 64, X_ar 28) := X_aa X_full (k := 24) (X_in (by decide)) (by decide) (by decide)
theorem X_a29 : 29 ∈ X_Y.2 ∧ X_Y.1 29 = .inl (0, 64, X_ar 29) := X_aa X_full (k := 24) (X_in (by decide)) (by decide) (by decide)
theorem X_a30 : 30 ∈ X_Y.2 ∧ X_Y.1 30 = .inl (5, 64, X_ar 30) := X_aa X_full (k := 25) (X_in (by decide)) (by decide) (by decide)
theorem X_a31 : 31 ∈ X_Y.2 ∧ X_Y.1 31 = .inl (5, 64, X_ar 31) := X_aa X_full (k := 25) (X_in (by decide)) (by decide) (by decide)
theorem X_a33 : 33 ∈ X_Y.2 ∧ X_Y.1 33 = .inl (0, 64, X_ar 33) := X_aa X_full (k := 24) (X_in (by decide)) (by decide) (by decide)
theorem X_a35 : 35 ∈ X_Y.2 ∧ X_Y.1 35 = .inl (3, 4096, X_ar 35) := X_aa X_full (k := 26) (X_in (by decide)) (by decide) (by decide)
theorem X_a36 : 36 ∈ X_Y.2 ∧ X_Y.1 36 = .inl (3, 4096, X_ar 36) := X_aa X_full (k := 26) (X_in (by decide)) (by decide) (by decide)
theorem X_a37 : 37 ∈ X_Y.2 ∧ X_Y.1 37 = .inl (4, 4096, X_ar 37) := X_aa X_full (k := 27) (X_in (by decide)) (by decide) (by decide)
theorem tw_cont : Cond.fieldLinkNest RX4 79 RX9 "CONTAINING" "[J" RX9 ∈ lw_tbl := List.mem_append_right _ (List.mem_of_getElem? (i := 405) (by decide +kernel))
/-- what a copy of a stretch asks -/
def fy_cpI (ty : FieldType) (f : Nat → Int32) (sp dp n : Int32) (n0 n1 : Nat) : Bool := decide (¬ sp < 0 ∧ ¬ dp < 0 ∧ ¬ n < 0 ∧ sp.toNatClampNeg + n.toNatClampNeg ≤ n0 ∧ dp.toNatClampNeg + n.toNatClampNeg ≤ n1 ∧ ∀ i, i < n.toNatClampNeg → fits ty (.int (f (sp.toNatClampNeg + i))) = true)
def fy_cpL (sp dp n : Int32) (n0 n1 : Nat) : Bool := decide (¬ sp < 0 ∧ ¬ dp < 0 ∧ ¬ n < 0 ∧ sp.toNatClampNeg + n.toNatClampNeg ≤ n0 ∧ dp.toNatClampNeg + n.toNatClampNeg ≤ n1)
section FYC
variable {p : Program} {l : Launch} {e : Env} {R : Room} {s : State} {m : MethodId} {args : Array Value} {below : List Frame} {meth : Method} {c : Code} {H : Heap} {locs : List Loc} {cells slots : Nat} {Q : State → Prop}
variable {g : fy_G} {y : fy_Y} {S : fy_S} {own : String} {cc : ByteArray} {nL : Nat} {rt : Option FieldType} {pc : Nat} {ls : Array Slot} {rest : List Value}
theorem fy_cpy0 (C : fy_C g y p s m args meth c own cc nL rt) (w : fy_W g y S s H locs) {id0 id1 n0 n1 : Nat} {r0 r1 : Nat → Nat} (h0 : id0 ∈ y.2 ∧ y.1 id0 = .inl (0, n0, r0)) (h1 : id1 ∈ y.2 ∧ y.1 id1 = .inl (0, n1, r1)) {sp dp n : Int32} (hg : fy_cpI .int (S.1 id0) sp dp n n0 n1 = true) {index : Nat} (q1 : Cond.methodLink own index arraycopyName ∈ fy_tb) (q2 : Cond.native arraycopyName ∈ fy_tb) (q3 : Cond.static arraycopyName ∈ fy_tb) (q4 : Cond.initialized RJ10 ∈ fy_tb) (hsz : ls.size = nL) (hfr : 1 ≤ R.frames) (hlo : (rest.map fun v => v.category).sum + (nativeFrameWords "java/lang/System" "arraycopy" 5 + 11) ≤ R.locals) (hdg : decode cc pc = .ok (.invokestatic index, 3))
    (kk : ∀ (H1 : Heap) (locs1 : List Loc), fy_W g y (fy_sA S id1 (va_cpy (S.1 id0) (S.1 id1) sp.toNatClampNeg dp.toNatClampNeg n.toNatClampNeg)) s H1 locs1 → W p l e R s m args below meth c H1 locs1 cells slots Q (F0 m (pc + 3) ls rest)) : W p l e R s m args below meth c H locs cells slots Q (F0 m pc ls (.int n :: .int dp :: .ref (g.2.2.1 id1) :: .int sp :: .ref (g.2.2.1 id0) :: rest)) := by
  obtain ⟨hx, hb, -, hts, hown, -, hml, hK, hD, -⟩ := C
  obtain ⟨a1, a2, a3, a4, a5, a6⟩ := of_decide_eq_true hg
  obtain ⟨k0, hk0, -⟩ := fy_cell_i (g := g) (S := S) h0 (by decide)
  obtain ⟨k1, hk1, hk2⟩ := fy_cell_i (g := g) (S := S) h1 (by decide)
  refine va_copyi hx hb (hml.trans hsz.symm) hown (hts _ q1) (hts _ q2) (hts _ q3) (hts _ q4) hK w.1 (fy_dis S hD) w.2 k0 k1 0 0 hk0 hk1 rfl rfl rfl a1 a2 a3 a4 a5 a6 hfr hlo hdg (fun H1 locs1 hP _ hS => kk H1 locs1 ⟨?_, hS⟩)
  rw [fy_wI hD hk2 h1.2 (by decide)] at hP
  exact hP
theorem fy_cpy1 (C : fy_C g y p s m args meth c own cc nL rt) (w : fy_W g y S s H locs) {id0 id1 n0 n1 : Nat} {r0 r1 : Nat → Nat} (h0 : id0 ∈ y.2 ∧ y.1 id0 = .inl (1, n0, r0)) (h1 : id1 ∈ y.2 ∧ y.1 id1 = .inl (1, n1, r1)) {sp dp n : Int32} (hg : fy_cpI .byte (S.1 id0) sp dp n n0 n1 = true) {index : Nat} (q1 : Cond.methodLink own index arraycopyName ∈ fy_tb) (q2 : Cond.native arraycopyName ∈ fy_tb) (q3 : Cond.static arraycopyName ∈ fy_tb) (q4 : Cond.initialized RJ10 ∈ fy_tb) (hsz : ls.size = nL) (hfr : 1 ≤ R.frames) (hlo : (rest.map fun v => v.category).sum + (nativeFrameWords "java/lang/System" "arraycopy" 5 + 11) ≤ R.locals) (hdg : decode cc pc = .ok (.invokestatic index, 3))
    (kk : ∀ (H1 : Heap) (locs1 : List Loc), fy_W g y (fy_sA S id1 (va_cpy (S.1 id0) (S.1 id1) sp.toNatClampNeg dp.toNatClampNeg n.toNatClampNeg)) s H1 locs1 → W p l e R s m args below meth c H1 locs1 cells slots Q (F0 m (pc + 3) ls rest)) : W p l e R s m args below meth c H locs cells slots Q (F0 m pc ls (.int n :: .int dp :: .ref (g.2.2.1 id1) :: .int sp :: .ref (g.2.2.1 id0) :: rest)) := by
  obtain ⟨hx, hb, -, hts, hown, -, hml, hK, hD, -⟩ := C
  obtain ⟨a1, a2, a3, a4, a5, a6⟩ := of_decide_eq_true hg
  obtain ⟨k0, hk0, -⟩ := fy_cell_i (g := g) (S := S) h0 (by decide)
  obtain ⟨k1, hk1, hk2⟩ := fy_cell_i (g := g) (S := S) h1 (by decide)
  refine va_copyi hx hb (hml.trans hsz.symm) hown (hts _ q1) (hts _ q2) (hts _ q3) (hts _ q4) hK w.1 (fy_dis S hD) w.2 k0 k1 1 1 hk0 hk1 rfl rfl rfl a1 a2 a3 a4 a5 a6 hfr hlo hdg (fun H1 locs1 hP _ hS => kk H1 locs1 ⟨?_, hS⟩)
  rw [fy_wI hD hk2 h1.2 (by decide)] at hP
  exact hP
theorem fy_cpy5 (C : fy_C g y p s m args meth c own cc nL rt) (w : fy_W g y S s H locs) {id0 id1 n0 n1 : Nat} {r0 r1 : Nat → Nat} (h0 : id0 ∈ y.2 ∧ y.1 id0 = .inl (5, n0, r0)) (h1 : id1 ∈ y.2 ∧ y.1 id1 = .inl (5, n1, r1)) {sp dp n : Int32} (hg : fy_cpL sp dp n n0 n1 = true) {index : Nat} (q1 : Cond.methodLink own index arraycopyName ∈ fy_tb) (q2 : Cond.native arraycopyName ∈ fy_tb) (q3 : Cond.static arraycopyName ∈ fy_tb) (q4 : Cond.initialized RJ10 ∈ fy_tb) (hsz : ls.size = nL) (hfr : 1 ≤ R.frames) (hlo : (rest.map fun v => v.category).sum + (nativeFrameWords "java/lang/System" "arraycopy" 5 + 11) ≤ R.locals) (hdg : decode cc pc = .ok (.invokestatic index, 3))
    (kk : ∀ (H1 : Heap) (locs1 : List Loc), fy_W g y (fy_sB S id1 (va_cpy (S.2 id0) (S.2 id1) sp.toNatClampNeg dp.toNatClampNeg n.toNatClampNeg)) s H1 locs1 → W p l e R s m args below meth c H1 locs1 cells slots Q (F0 m (pc + 3) ls rest)) : W p l e R s m args below meth c H locs cells slots Q (F0 m pc ls (.int n :: .int dp :: .ref (g.2.2.1 id1) :: .int sp :: .ref (g.2.2.1 id0) :: rest)) := by
  obtain ⟨hx, hb, -, hts, hown, -, hml, hK, hD, -⟩ := C
  obtain ⟨a1, a2, a3, a4, a5⟩ := of_decide_eq_true hg
  obtain ⟨k0, hk0, -⟩ := fy_cell_l (g := g) (S := S) h0
  obtain ⟨k1, hk1, hk2⟩ := fy_cell_l (g := g) (S := S) h1
  refine va_copyl hx hb (hml.trans hsz.symm) hown (hts _ q1) (hts _ q2) (hts _ q3) (hts _ q4) hK w.1 (fy_dis S hD) w.2 k0 k1 5 5 hk0 hk1 rfl rfl rfl a1 a2 a3 a4 a5 (fun i _ => rfl) hfr hlo hdg (fun H1 locs1 hP _ hS => kk H1 locs1 ⟨?_, hS⟩)
  rw [fy_wL hD hk2 h1.2] at hP
  exact hP
theorem fy_astoreO_n (hexec : p.tables.exec = Jvm.exec) (hb : c.code = cc) {ad : Nat → Nat} {r : Option Nat} {k : Fin 4} {i nL : Nat} {lv lv' : List (Nat × Value)} (hdg : decode cc pc = .ok (.astore_n k, 1)) (hi : (k : Nat) = i) (h : lv_has ls nL lv) (hn : i < nL) (hl : (i, va_re ad r) :: lv.filter (fun q => !(q.1 == i) && !(q.1 + 1 == i && q.2.category == 2)) = lv') (kk : ∀ ls', lv_has ls' nL lv' → W p l e R s m args below meth c H locs cells slots Q (F0 m (pc + 1) ls' rest)) : W p l e R s m args below meth c H locs cells slots Q (F0 m pc ls (va_re ad r :: rest)) := by
  cases r with
  | none => exact lv_astore_nN hexec hb hdg hi h hn hl kk
  | some a => exact lv_astore_n hexec hb hdg hi h hn hl kk
theorem fy_astoreO (hexec : p.tables.exec = Jvm.exec) (hb : c.code = cc) {ad : Nat → Nat} {r : Option Nat} {i nL : Nat} {lv lv' : List (Nat × Value)} (hdg : decode cc pc = .ok (.astore i, 2)) (h : lv_has ls nL lv) (hn : i < nL) (hl : (i, va_re ad r) :: lv.filter (fun q => !(q.1 == i) && !(q.1 + 1 == i && q.2.category == 2)) = lv') (kk : ∀ ls', lv_has ls' nL lv' → W p l e R s m args below meth c H locs cells slots Q (F0 m (pc + 2) ls' rest)) : W p l e R s m args below meth c H locs cells slots Q (F0 m pc ls (va_re ad r :: rest)) := by
  cases r with
  | none => exact lv_astoreN hexec hb hdg h hn hl kk
  | some a => exact lv_astore hexec hb hdg h hn hl kk
end FYC
/-- behind a switch's cases -/
theorem fy_swi {x : Int32} {n : Nat} (hn : n < 2 ^ 31) (h : ∀ k : Nat, k < n → ¬ x = Int32.ofNat k) : x.toInt < 0 ∨ ((n : Int) - 1) < x.toInt := by
  by_cases h0 : x.toInt < 0
  · exact Or.inl h0
  · refine Or.inr (Int.not_le.mp fun hle => ?_)
    obtain ⟨j, hj⟩ : ∃ j : Nat, x.toInt = (j : Int) := ⟨x.toInt.toNat, by omega⟩
    have hjn : j < n := by omega
    apply h j hjn
    apply Int32.toInt_inj.mp
    rw [hj]
    exact (nI_toInt (n := j) (by omega)).symm
theorem fy_sw3 {x : Int32} (h0 : ¬ x = (0 : Int32)) (h1 : ¬ x = (1 : Int32)) (h2 : ¬ x = (2 : Int32)) : x.toInt < 0 ∨ 2 < x.toInt := by
  have a := lv_neT h0 (a := 0) (by decide)
  have b := lv_neT h1 (a := 1) (by decide)
  have d := lv_neT h2 (a := 2) (by decide)
  omega
theorem fy_sw4 {x : Int32} (h0 : ¬ x = (6 : Int32)) (h1 : ¬ x = (7 : Int32)) (h2 : ¬ x = (8 : Int32)) (h3 : ¬ x = (9 : Int32)) : x.toInt < 6 ∨ 9 < x.toInt := by
  have a := lv_neT h0 (a := 6) (by decide)
  have b := lv_neT h1 (a := 7) (by decide)
  have d := lv_neT h2 (a := 8) (by decide)
  have f := lv_neT h3 (a := 9) (by decide)
  omega
theorem fy_recat (ad : Nat → Nat) (r : Option Nat) : (va_re ad r).category = 1 := by cases r <;> rfl
