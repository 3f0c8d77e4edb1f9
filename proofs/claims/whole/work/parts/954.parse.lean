/-! reading a text: nodes so far, and operators and groups that wait (0: a group, 8: or, 9: and; the last one first) -/
def pu_on : List Nat → Nat
  | [] => 0
  | h :: t => pu_on t + (if h = 0 then 1 else 0)
def pu_os : List Nat → Nat
  | [] => 0
  | h :: t => pu_os t + (if h = 0 then 0 else 1)
def pu_ap (o : Nat) : List Nat → pu_q → pu_q × List Nat
  | [], q => (q, [])
  | h :: t, q => if h < o then (q, h :: t) else pu_ap o t (pu_ps q h)
def pu_lf (n c : Nat) : Option Nat := if c = 116 then some 6 else if c = 102 then some 7 else if 48 ≤ c ∧ c < 48 + n then some (c - 48) else none
def pu_pr (T : Nat → Nat) (n L : Nat) : Nat → Bool → pu_q → List Nat → Nat ⊕ pu_q
  | 0, true, _, _ => .inl L
  | 0, false, q, w => if 0 < pu_on w then .inl L else .inr (pu_ap 8 w q).1
  | d + 1, true, q, w => if T (L - (d + 1)) = 40 then pu_pr T n L d true q (0 :: w) else match pu_lf n (T (L - (d + 1))) with
    | none => .inl (L - (d + 1))
    | some l => pu_pr T n L d false (pu_ps q l) w
  | d + 1, false, q, w => if T (L - (d + 1)) = 41 ∧ 0 < pu_on w then pu_pr T n L d false (pu_ap 8 w q).1 (pu_ap 8 w q).2.tail else if T (L - (d + 1)) = 38 then pu_pr T n L d true (pu_ap 9 w q).1 (9 :: (pu_ap 9 w q).2) else if T (L - (d + 1)) = 124 then pu_pr T n L d true (pu_ap 8 w q).1 (8 :: (pu_ap 8 w q).2) else .inl (L - (d + 1))
def pu_pi (n i b : Nat) (q : pu_q) (w : List Nat) : Prop := q.1 + w.length ≤ i ∧ (∀ h, h ∈ w → h = 0 ∨ h = 8 ∨ h = 9) ∧ pu_dp q.2 q.1 = pu_os w + b ∧ ∀ k, k < q.1 → (q.2 k < n ∨ (6 ≤ q.2 k ∧ q.2 k < 10)) ∧ (8 ≤ q.2 k → 2 ≤ pu_dp q.2 k)
theorem pu_ps_at {q : pu_q} {v : Nat} : (pu_ps q v).2 q.1 = v := if_neg (Nat.lt_irrefl _)
theorem pu_ps_lo {q : pu_q} {v k : Nat} (h : k < q.1) : (pu_ps q v).2 k = q.2 k := if_pos h
theorem pu_ps_st {α : Type} {lf : Nat → α} {jn : Nat → α → α → α} {q : pu_q} {v k : Nat} (hk : k ≤ q.1) : pu_st lf jn (pu_ps q v).2 k = pu_st lf jn q.2 k := pu_st_c k (fun i hi => pu_ps_lo (by omega))
theorem pu_ps_dp {q : pu_q} {v k : Nat} (hk : k ≤ q.1) : pu_dp (pu_ps q v).2 k = pu_dp q.2 k := by unfold pu_dp; rw [pu_ps_st hk]
theorem pu_pi_nd {n : Nat} {q : pu_q} {v : Nat} (hv : (v < n ∨ (6 ≤ v ∧ v < 10)) ∧ (8 ≤ v → 2 ≤ pu_dp q.2 q.1)) (h : ∀ k, k < q.1 → (q.2 k < n ∨ (6 ≤ q.2 k ∧ q.2 k < 10)) ∧ (8 ≤ q.2 k → 2 ≤ pu_dp q.2 k)) : ∀ k, k < (pu_ps q v).1 → ((pu_ps q v).2 k < n ∨ (6 ≤ (pu_ps q v).2 k ∧ (pu_ps q v).2 k < 10)) ∧ (8 ≤ (pu_ps q v).2 k → 2 ≤ pu_dp (pu_ps q v).2 k) := by
  intro k hk
  have hk : k < q.1 + 1 := hk
  by_cases e : k = q.1
  · subst e
    rw [pu_ps_at, pu_ps_dp (Nat.le_refl _)]; exact hv
  · rw [pu_ps_lo (by omega), pu_ps_dp (by omega)]; exact h k (by omega)
theorem pu_pi_lf {n i l : Nat} {q : pu_q} {w : List Nat} (h : pu_pi n i 0 q w) (hl : l < 8) (hl2 : l < n ∨ 6 ≤ l) : pu_pi n (i + 1) 1 (pu_ps q l) w := by
  obtain ⟨h1, h2, h3, h4⟩ := h
  refine ⟨by show q.1 + 1 + w.length ≤ i + 1; omega, h2, ?_, pu_pi_nd ⟨by omega, fun h => by omega⟩ h4⟩
  show pu_dp (pu_ps q l).2 (q.1 + 1) = pu_os w + 1
  rw [Nat.add_zero] at h3
  rw [← h3]
  unfold pu_dp
  rw [pu_st_l (by rw [pu_ps_at]; exact hl), List.length_cons, pu_ps_st (Nat.le_refl _)]
theorem pu_pi_op {n i h : Nat} {q : pu_q} {t : List Nat} (hp : pu_pi n i 1 q (h :: t)) (h8 : 8 ≤ h) : pu_pi n i 1 (pu_ps q h) t ∧ (h = 8 ∨ h = 9) ∧ 2 ≤ pu_dp q.2 q.1 := by
  obtain ⟨h1, h2, h3, h4⟩ := hp
  have h89 : h = 8 ∨ h = 9 := by have := h2 h (by simp); omega
  have hdp : pu_dp q.2 q.1 = pu_os t + 1 + 1 := by rw [h3, pu_os, if_neg (by omega)]
  have h1 : q.1 + (t.length + 1) ≤ i := h1
  refine ⟨⟨by show q.1 + 1 + t.length ≤ i; omega, fun x hx => h2 x (by simp [hx]), ?_, pu_pi_nd ⟨by omega, fun _ => by omega⟩ h4⟩, h89, by omega⟩
  show pu_dp (pu_ps q h).2 (q.1 + 1) = pu_os t + 1
  have e := pu_st_dp (lf := fun _ => ()) (jn := fun _ _ _ => ()) (f := q.2) q.1
  rw [hdp] at e
  obtain ⟨r, l, u, e2⟩ := pu_len2 (show 2 ≤ (pu_st (fun _ => ()) (fun _ _ _ => ()) q.2 q.1).length by omega)
  unfold pu_dp
  rw [pu_st_j (r := r) (l := l) (t := u) (by rw [pu_ps_at]; omega) (by rw [pu_ps_st (Nat.le_refl _)]; exact e2), List.length_cons]
  rw [e2] at e
  simp at e
  omega
theorem pu_ap_pi {n i o : Nat} (ho : 8 ≤ o) : ∀ (w : List Nat) (q : pu_q), pu_pi n i 1 q w → pu_pi n i 1 (pu_ap o w q).1 (pu_ap o w q).2 ∧ pu_on (pu_ap o w q).2 = pu_on w ∧ ∀ h t, (pu_ap o w q).2 = h :: t → h < o := by
  intro w
  induction w with
  | nil => intro q hp; exact ⟨hp, rfl, fun h t e => by cases e⟩
  | cons h t ih =>
    intro q hp
    rw [pu_ap]
    by_cases hlt : h < o
    · rw [if_pos hlt]
      exact ⟨hp, rfl, fun h' t' e => by cases e; exact hlt⟩
    · rw [if_neg hlt]
      obtain ⟨g1, g2, g3⟩ := ih (pu_ps q h) (pu_pi_op hp (by omega)).1
      refine ⟨g1, ?_, g3⟩
      rw [g2, pu_on, if_neg (by omega)]; rfl
theorem pu_pi_up {n i j b : Nat} {q : pu_q} {w : List Nat} (h : pu_pi n i b q w) (hij : i ≤ j) : pu_pi n j b q w := ⟨by have := h.1; omega, h.2⟩
theorem pu_pi_wt {n i : Nat} {q : pu_q} {w : List Nat} {o : Nat} (h : pu_pi n i 1 q w) (ho : o = 8 ∨ o = 9) : pu_pi n (i + 1) 0 q (o :: w) := ⟨by have := h.1; show q.1 + (w.length + 1) ≤ i + 1; omega, fun x hx => by
  rcases List.mem_cons.mp hx with e | e
  · omega
  · exact h.2.1 x e, by rw [h.2.2.1, pu_os, if_neg (by omega)], h.2.2.2⟩
theorem pu_pi_gr {n i : Nat} {q : pu_q} {w : List Nat} (h : pu_pi n i 0 q w) : pu_pi n (i + 1) 0 q (0 :: w) := ⟨by have := h.1; show q.1 + (w.length + 1) ≤ i + 1; omega, fun x hx => by
  rcases List.mem_cons.mp hx with e | e
  · omega
  · exact h.2.1 x e, by rw [h.2.2.1, pu_os, if_pos rfl], h.2.2.2⟩
/-- a group that waits is left where all above it is done -/
theorem pu_ap_gr {n i : Nat} {q : pu_q} {w : List Nat} (h : pu_pi n i 1 q w) (ho : 0 < pu_on w) : ∃ t, (pu_ap 8 w q).2 = 0 :: t ∧ pu_pi n i 1 (pu_ap 8 w q).1 t ∧ pu_on w = pu_on t + 1 := by
  obtain ⟨g1, g2, g3⟩ := pu_ap_pi (o := 8) (Nat.le_refl _) w q h
  match e : (pu_ap 8 w q).2 with
  | [] => rw [e] at g2; rw [← g2] at ho; exact absurd ho (Nat.lt_irrefl _)
  | x :: t =>
    rw [e] at g1 g2
    have hx := g3 x t e
    have h0 : x = 0 := by have := g1.2.1 x (by simp); omega
    subst h0
    refine ⟨t, rfl, ⟨by have := g1.1; simp at this; omega, fun y hy => g1.2.1 y (by simp [hy]), ?_, g1.2.2.2⟩, ?_⟩
    · rw [g1.2.2.1, pu_os, if_pos rfl]
    · rw [← g2, pu_on, if_pos rfl]
theorem pu_ap_no {n i : Nat} {q : pu_q} {w : List Nat} (h : pu_pi n i 1 q w) (ho : ¬ 0 < pu_on w) : (pu_ap 8 w q).2 = [] := by
  obtain ⟨g1, g2, g3⟩ := pu_ap_pi (o := 8) (Nat.le_refl _) w q h
  match e : (pu_ap 8 w q).2 with
  | [] => rfl
  | x :: t =>
    rw [e] at g1 g2
    have hx := g3 x t e
    have h0 : x = 0 := by have := g1.2.1 x (by simp); omega
    subst h0
    rw [pu_on, if_pos rfl] at g2
    omega
theorem pu_pi_ok {n i : Nat} {q : pu_q} (h : pu_pi n i 1 q []) (h40 : q.1 ≤ 40) : pu_ok n q := by
  have hd : pu_dp q.2 q.1 = 1 := h.2.2.1
  have := pu_dp_le q.2 q.1
  exact ⟨by omega, h40, h.2.2.2, hd⟩
theorem pu_on_le : ∀ w, pu_on w ≤ w.length := by
  intro w
  induction w with
  | nil => exact Nat.le_refl _
  | cons h t ih =>
    rw [pu_on, List.length_cons]
    split <;> omega
/-! the class -/
def pu_lz (S : fy_S) : List Int64 → Prop
  | [] => True
  | x :: t => S.2 6 t.length = x ∧ pu_lz S t
def pu_lq (g : Nat → Int32) (m : Nat → Nat) : List Nat → Prop
  | [] => True
  | h :: t => g t.length = nI (m h) ∧ pu_lq g m t
theorem pu_lz_c {S S' : fy_S} {n : Nat} (f : ∀ k, k < n → S'.2 6 k = S.2 6 k) : ∀ {l : List Int64}, l.length ≤ n → pu_lz S l → pu_lz S' l := by
  intro l
  induction l with
  | nil => intro _ _; trivial
  | cons x t ih =>
    intro hl h
    have hl : t.length + 1 ≤ n := hl
    exact ⟨by rw [f _ (by omega)]; exact h.1, ih (by omega) h.2⟩
theorem pu_lz_I {S : fy_S} {i k : Nat} {v : Int32} : ∀ {l : List Int64}, pu_lz S l → pu_lz (fy_sI S i k v) l := by
  intro l
  induction l with
  | nil => intro _; trivial
  | cons x t ih => intro h; exact ⟨h.1, ih h.2⟩
theorem pu_lq_c {g g' : Nat → Int32} {m : Nat → Nat} {n : Nat} (f : ∀ k, k < n → g' k = g k) : ∀ {l : List Nat}, l.length ≤ n → pu_lq g m l → pu_lq g' m l := by
  intro l
  induction l with
  | nil => intro _ _; trivial
  | cons x t ih =>
    intro hl h
    have hl : t.length + 1 ≤ n := hl
    exact ⟨by rw [f _ (by omega)]; exact h.1, ih (by omega) h.2⟩
def pu_tl (q : pu_q) : List Int64 := pu_st pu_lt pu_jt q.2 q.1
def pu_px (S : fy_S) (q : pu_q) (w : List Nat) : Prop := pu_l (S.1 5) (S.1 3 5) q ∧ S.1 3 6 = nI (pu_tl q).length ∧ pu_lz S (pu_tl q) ∧ S.1 3 7 = nI w.length ∧ pu_lq (S.1 7) (fun h => h) w ∧ S.1 3 8 = nI (pu_on w)
def pu_xq (i k : Nat) : Prop := (i = 3 ∧ 5 ≤ k ∧ k ≤ 8) ∨ (5 ≤ i ∧ i ≤ 7)
theorem X_addN {S : fy_S} {q : pu_q} {v : Nat} (h : pu_l (S.1 5) (S.1 3 5) q) (hq : q.1 < 60) (hv : v < 128) : pw (X4_addNode S (nI v)) (fun S' => pu_l (S'.1 5) (S'.1 3 5) (pu_ps q v) ∧ fr (fun i k => (i = 3 ∧ k = 5) ∨ i = 5) S S') := by
  rw [X4_addNode, h.1]
  refine pw_f (nI_ge (b := 60) hq (by decide)) (pw_gd (fy_ix_nI hq (by decide)) (pw_bl (pw_bl (pw_s ?_))))
  rw [nI_clamp (by omega), ez_byte hv, rd_n (by omega), h.1, nI_1, rd_y]
  refine ⟨pu_l_ps h ?_ (fun k hk => ?_), fr_I (fr_I fr_r (.inr rfl)) (.inl ⟨rfl, rfl⟩)⟩
  · rw [rd_n (by omega), rd_y]
  · rw [rd_n (by omega), rd_n (by omega)]
theorem X_addW {S : fy_S} {q : pu_q} {w : List Nat} {v : Nat} (h : pu_px S q w) (hw : w.length < 60) (hv : v < 128) (hv0 : v ≠ 0) : pw (X4_addWaiting S (nI v)) (fun S' => pu_px S' q (v :: w) ∧ fr pu_xq S S') := by
  obtain ⟨h1, h2, h3, h4, h5, h6⟩ := h
  rw [X4_addWaiting, h4]
  refine pw_f (nI_ge (b := 60) hw (by decide)) (pw_gd (fy_ix_nI hw (by decide)) (pw_bl (pw_bl (pw_s ?_))))
  rw [nI_clamp (by omega), ez_byte hv, rd_n (by omega), h4, nI_1]
  refine ⟨⟨pu_l_c h1 (by rw [rd_n (by omega), rd_n (by omega)]) (fun k _ => by rw [rd_n (by omega), rd_n (by omega)]), by rw [rd_n (by omega), rd_n (by omega)]; exact h2, pu_lz_I (pu_lz_I h3), rd_y, ⟨by rw [rd_n (by omega), rd_y], pu_lq_c (n := w.length) (fun k hk => by rw [rd_n (by omega), rd_n (by omega)]) (Nat.le_refl _) h5⟩, ?_⟩, fr_I (fr_I fr_r (by unfold pu_xq; omega)) (by unfold pu_xq; omega)⟩
  rw [rd_n (by omega), rd_n (by omega), h6, pu_on, if_neg hv0]; rfl
theorem X_opG {S : fy_S} {q : pu_q} {w : List Nat} (h : pu_px S q w) (hw : w.length < 60) : pw (X4_openGroup S) (fun S' => pu_px S' q (0 :: w) ∧ fr pu_xq S S') := by
  obtain ⟨h1, h2, h3, h4, h5, h6⟩ := h
  have hon := pu_on_le w
  rw [X4_openGroup, X4_addWaiting, h4, if_neg (show ¬ (60 : Int32) ≤ nI w.length from nI_ge (b := 60) hw (by decide)), fy_gd_y hw (by decide), nI_clamp (by omega)]
  have e0 : vp_nar .byte ((0 : Int32).toInt8.toInt32) = nI 0 := ez_byte (n := 0) (by decide)
  rw [e0]
  refine pw_bd (Q := fun S' => S' = fy_sI (fy_sI S 7 w.length (nI 0)) 3 7 (nI (w.length + 1))) (pw_bl (pw_bl (pw_s ?_))) (fun S1 s1 => pw_bl (pw_s ?_))
  · rw [rd_n (by omega), h4, nI_1]
  · subst s1
    rw [rd_n (by omega), rd_n (by omega), h6, nI_1]
    refine ⟨⟨pu_l_c h1 (by rw [rd_n (by omega), rd_n (by omega), rd_n (by omega)]) (fun k _ => by rw [rd_n (by omega), rd_n (by omega), rd_n (by omega)]), by rw [rd_n (by omega), rd_n (by omega), rd_n (by omega)]; exact h2, pu_lz_I (pu_lz_I (pu_lz_I h3)), by rw [rd_n (by omega), rd_y]; rfl, ⟨by rw [rd_n (by omega), rd_n (by omega), rd_y], pu_lq_c (n := w.length) (fun k hk => by rw [rd_n (by omega), rd_n (by omega), rd_n (by omega)]) (Nat.le_refl _) h5⟩, ?_⟩, fr_I (fr_I (fr_I fr_r (by unfold pu_xq; omega)) (by unfold pu_xq; omega)) (by unfold pu_xq; omega)⟩
    rw [rd_y, pu_on, if_pos rfl]
theorem X_addL {S : fy_S} {n i l : Nat} {q : pu_q} {w : List Nat} (hn : n ≤ 6) (h : pu_px S q w) (hp : pu_pi n i 0 q w) (hi : i < 60) (hl : l < 8) : pw (X4_addLeaf S (nI l)) (fun S' => pu_px S' (pu_ps q l) w ∧ fr pu_xq S S') := by
  obtain ⟨h1, h2, h3, h4, h5, h6⟩ := h
  have hq60 : q.1 < 60 := by have := hp.1; omega
  have htl : (pu_tl q).length ≤ q.1 := by unfold pu_tl; rw [pu_st_dp]; exact pu_dp_le _ _
  have ht : X4_leafTable = fun S v => X4_leafTable S v := rfl
  rw [X4_addLeaf]
  refine pw_bd (X_addN h1 hq60 (by omega)) (fun S1 s1 => ?_)
  have e6 : S1.1 3 6 = nI (pu_tl q).length := by rw [(s1.2 _ _ (by omega)).1]; exact h2
  have lt : X4_leafTable S1 (nI l) = some (pu_lt l) := by
    rw [X4_leafTable]
    by_cases h6 : l < 6
    · refine pw_eq (pw_f (nI_pos (by omega)) (pw_f (nI_ge (b := 6) h6 (by decide)) (pw_gd (fy_ix_nI h6 (by decide)) (pw_s ?_))))
      rw [nI_clamp (by omega), pu_lt, if_pos h6]
    · have : l = 6 ∨ l = 7 := by omega
      rcases this with e | e <;> rw [e] <;> rfl
  rw [e6]
  refine pw_f (nI_ge (b := 60) (by omega) (by decide)) (pw_be lt (pw_gd (fy_ix_nI (by omega) (by decide)) (pw_bl (pw_bl (pw_s ?_)))))
  rw [nI_clamp (by omega), rd_L1, e6, nI_1]
  have etl : pu_tl (pu_ps q l) = pu_lt l :: pu_tl q := by
    unfold pu_tl
    show pu_st pu_lt pu_jt (pu_ps q l).2 (q.1 + 1) = _
    rw [pu_st_l (by rw [pu_ps_at]; exact hl), pu_ps_at, pu_ps_st (Nat.le_refl _)]
  rw [pu_px, etl]
  refine ⟨⟨pu_l_c s1.1 (by rw [rd_n (by omega), rd_L1]) (fun k _ => by rw [rd_n (by omega), rd_L1]), rd_y, ⟨by rw [rd_I2, rd_Ly], pu_lz_c (n := (pu_tl q).length) (fun k hk => ?_) (Nat.le_refl _) h3⟩, ?_, pu_lq_c (n := w.length) (fun k hk => ?_) (Nat.le_refl _) h5, ?_⟩, fr_I (fr_L (fr_m s1.2 (fun i k h => by unfold pu_xq; omega)) (by unfold pu_xq; omega)) (by unfold pu_xq; omega)⟩
  · show (fy_sL S1 6 _ _).2 6 k = S.2 6 k
    rw [rd_Ln (by omega), (s1.2 _ _ (by omega)).2]
  · rw [rd_n (by omega), rd_L1, (s1.2 _ _ (by omega)).1]; exact h4
  · rw [rd_n (by omega), rd_L1, (s1.2 _ _ (by omega)).1]
  · rw [rd_n (by omega), rd_L1, (s1.2 _ _ (by omega)).1]; exact h6
theorem X_apO {S : fy_S} {n i h : Nat} {q : pu_q} {t : List Nat} (hx : pu_px S q (h :: t)) (hp : pu_pi n i 1 q (h :: t)) (hi : i ≤ 60) (h8 : 8 ≤ h) : pw (X4_applyOperator S (nI h)) (fun S' => pu_l (S'.1 5) (S'.1 3 5) (pu_ps q h) ∧ S'.1 3 6 = nI (pu_tl (pu_ps q h)).length ∧ pu_lz S' (pu_tl (pu_ps q h)) ∧ fr (fun i k => (i = 3 ∧ (k = 5 ∨ k = 6)) ∨ i = 5 ∨ i = 6) S S') := by
  obtain ⟨h1, h2, h3, h4, h5, h6⟩ := hx
  obtain ⟨p1, h89, hdp⟩ := pu_pi_op hp h8
  have hlen : q.1 + (t.length + 1) ≤ i := hp.1
  have htl : (pu_tl q).length ≤ q.1 := by unfold pu_tl; rw [pu_st_dp]; exact pu_dp_le _ _
  obtain ⟨r, l, u, e⟩ := pu_len2 (show 2 ≤ (pu_tl q).length by unfold pu_tl; rw [pu_st_dp]; exact hdp)
  have etl : pu_tl (pu_ps q h) = pu_jt h l r :: u := by
    unfold pu_tl at e ⊢
    show pu_st pu_lt pu_jt (pu_ps q h).2 (q.1 + 1) = _
    rw [pu_st_j (r := r) (l := l) (t := u) (by rw [pu_ps_at]; omega) (by rw [pu_ps_st (Nat.le_refl _)]; exact e), pu_ps_at]
  rw [e] at h2 h3 htl
  have htl : u.length + 2 ≤ q.1 := htl
  obtain ⟨z1, z2, z3⟩ := h3
  have z1 : S.2 6 (u.length + 1) = r := z1
  rw [X4_applyOperator]
  refine pw_bd (X_addN h1 (by omega) (by omega)) (fun S1 s1 => ?_)
  have e6 : S1.1 3 6 = nI (u.length + 1 + 1) := by rw [(s1.2 _ _ (by omega)).1]; exact h2
  rw [e6]
  refine pw_f (nI_nlt (b := 2) (by omega) (by omega)) (pw_bl ?_)
  rw [nI_pred, rd_y, nI_pred, nI_clamp (by omega), nI_clamp (by omega), rd_I2, (s1.2 6 (u.length + 1) (by omega)).2, (s1.2 6 u.length (by omega)).2, z1, z2]
  refine pw_gd (fy_ix_nI (by omega) (by decide)) (pw_gd (fy_ix_nI (by omega) (by decide)) (pw_be (X_joT h89) (pw_gd (fy_ix_nI (by omega) (by decide)) (pw_bl (pw_s ?_)))))
  rw [etl]
  refine ⟨pu_l_c s1.1 (by rw [rd_L1, rd_n (by omega)]) (fun k _ => by rw [rd_L1, rd_n (by omega)]), by rw [rd_L1, rd_y]; rfl, ⟨rd_Ly, pu_lz_c (n := u.length) (fun k hk => ?_) (Nat.le_refl _) z3⟩, fr_L (fr_I (fr_m s1.2 (fun i k h => by omega)) (by omega)) (by omega)⟩
  show (fy_sL _ 6 _ _).2 6 k = S.2 6 k
  rw [rd_Ln (by omega), rd_I2, (s1.2 _ _ (by omega)).2]
theorem X_apW {n i o : Nat} (ho : o = 8 ∨ o = 9) (hi : i ≤ 60) : ∀ (w : List Nat) (fu : Nat) (S : fy_S) (q : pu_q), w.length < fu → pu_px S q w → pu_pi n i 1 q w → pw (X4_applyWaiting_7 fu S (nI o) (nI w.length - 1)) (fun S' => pu_px S' (pu_ap o w q).1 (pu_ap o w q).2 ∧ fr pu_xq S S') := by
  intro w
  induction w with
  | nil =>
    intro fu S q hfu hx hp
    obtain ⟨fu, rfl⟩ : ∃ z, fu = z + 1 := ⟨fu - 1, by omega⟩
    rw [X4_applyWaiting_7]
    exact pw_t (by show nI 0 - 1 < 0; decide) (pw_s ⟨hx, fr_r⟩)
  | cons h t ih =>
    intro fu S q hfu hx hp
    obtain ⟨fu, rfl⟩ : ∃ z, fu = z + 1 := ⟨fu - 1, by omega⟩
    have hlen : q.1 + (t.length + 1) ≤ i := hp.1
    have hfu : t.length + 1 < fu + 1 := hfu
    have h089 := hp.2.1 h (by simp)
    have e7 : S.1 7 t.length = nI h := hx.2.2.2.2.1.1
    rw [X4_applyWaiting_7, show (h :: t).length = t.length + 1 from rfl, nI_pred, nI_clamp (by omega), e7]
    refine pw_f (nI_pos (by omega)) (pw_gd (fy_ix_nI (by omega) (by decide)) ?_)
    rw [pu_ap]
    by_cases hlt : h < o
    · rw [if_pos hlt]
      exact pw_t (nI_lt hlt (by omega)) (pw_s ⟨hx, fr_r⟩)
    · rw [if_neg hlt]
      refine pw_f (nI_nlt (by omega) (by omega)) (pw_gd (fy_ix_nI (by omega) (by decide)) (pw_bd (X_apO hx hp hi (by omega)) (fun S1 s1 => pw_bl (pw_bl ?_))))
      rw [pu_m1]
      refine pw_m (ih fu (fy_sI S1 3 7 (nI t.length)) (pu_ps q h) (by omega) ⟨pu_l_c s1.1 (rd_n (by omega)) (fun k _ => rd_n (by omega)), by rw [rd_n (by omega)]; exact s1.2.1, pu_lz_I s1.2.2.1, rd_y, pu_lq_c (n := t.length) (fun k hk => ?_) (Nat.le_refl _) hx.2.2.2.2.1.2, ?_⟩ (pu_pi_op hp (by omega)).1) (fun S2 s2 => ⟨s2.1, fr_t (fr_I (fr_m s1.2.2.2 (fun i k h => by unfold pu_xq; omega)) (by unfold pu_xq; omega)) s2.2⟩)
      · rw [rd_n (by omega), (s1.2.2.2 _ _ (by omega)).1]
      · rw [rd_n (by omega), (s1.2.2.2 _ _ (by omega)).1, hx.2.2.2.2.2, pu_on, if_neg (by omega)]; rfl
theorem X_apply {S : fy_S} {n i o : Nat} {q : pu_q} {w : List Nat} (ho : o = 8 ∨ o = 9) (hi : i ≤ 60) (hx : pu_px S q w) (hp : pu_pi n i 1 q w) : pw (X4_applyWaiting S (nI o)) (fun S' => pu_px S' (pu_ap o w q).1 (pu_ap o w q).2 ∧ fr pu_xq S S') := by
  have := hp.1
  rw [X4_applyWaiting, hx.2.2.2.1]
  exact pw_bl (X_apW ho hi w fy_fu S q (fz_fu (by omega)) hx hp)
theorem X_clG {S : fy_S} {n i : Nat} {q : pu_q} {w : List Nat} (hi : i ≤ 60) (hx : pu_px S q w) (hp : pu_pi n i 1 q w) (ho : 0 < pu_on w) : pw (X4_closeGroup S) (fun S' => pu_px S' (pu_ap 8 w q).1 (pu_ap 8 w q).2.tail ∧ pu_pi n i 1 (pu_ap 8 w q).1 (pu_ap 8 w q).2.tail ∧ fr pu_xq S S') := by
  obtain ⟨t, et, pt, on⟩ := pu_ap_gr hp ho
  have hon := pu_on_le t
  have hlt := pt.1
  rw [X4_closeGroup]
  refine pw_bd (X_apply (o := 8) (.inl rfl) hi hx hp) (fun S1 s1 => ?_)
  obtain ⟨s1, f1⟩ := s1
  rw [et] at s1 ⊢
  obtain ⟨h1, h2, h3, h4, h5, h6⟩ := s1
  have h4 : S1.1 3 7 = nI (t.length + 1) := h4
  have h6 : S1.1 3 8 = nI (pu_on t + 1) := by rw [h6, pu_on, if_pos rfl]
  rw [h4]
  refine pw_f (nI_nle (by omega) (by omega)) (pw_bl ?_)
  rw [X4_closeGroup_23, nI_pred, rd_n (by omega), h6, nI_pred]
  refine pw_bl (pw_s ⟨⟨pu_l_c h1 (by rw [rd_n (by omega), rd_n (by omega)]) (fun k _ => by rw [rd_n (by omega), rd_n (by omega)]), by rw [rd_n (by omega), rd_n (by omega)]; exact h2, pu_lz_I (pu_lz_I h3), by rw [rd_n (by omega), rd_y]; rfl, pu_lq_c (n := t.length) (fun k hk => by rw [rd_n (by omega), rd_n (by omega)]) (Nat.le_refl _) h5.2, by rw [rd_y]; rfl⟩, pt, fr_I (fr_I f1 (by unfold pu_xq; omega)) (by unfold pu_xq; omega)⟩)
theorem X_adO {S : fy_S} {n i o : Nat} {q : pu_q} {w : List Nat} (ho : o = 8 ∨ o = 9) (hi : i < 60) (hx : pu_px S q w) (hp : pu_pi n i 1 q w) : pw (X4_addOperator S (nI o)) (fun S' => pu_px S' (pu_ap o w q).1 (o :: (pu_ap o w q).2) ∧ pu_pi n (i + 1) 0 (pu_ap o w q).1 (o :: (pu_ap o w q).2) ∧ fr pu_xq S S') := by
  obtain ⟨g1, g2, g3⟩ := pu_ap_pi (o := o) (by omega) w q hp
  have := g1.1
  rw [X4_addOperator]
  refine pw_bd (X_apply ho (by omega) hx hp) (fun S1 s1 => pw_bd (X_addW s1.1 (by omega) (by omega) (by omega)) (fun S2 s2 => pw_s ⟨s2.1, pu_pi_wt g1 ho, fr_t s1.2 s2.2⟩))
theorem X_leaf {S : fy_S} {n c : Nat} (hn : n ≤ 6) (hc : c < 128) : X4_leafFor S (nI c) (nI n) = some (match pu_lf n c with | none => -1 | some l => nI l) := by
  rw [X4_leafFor, pu_lf]
  by_cases h1 : c = 116
  · subst h1; rfl
  · rw [if_neg (fun e : nI c = (116 : Int32) => h1 ((nI_eq (b := 116) (by omega) (by decide)).mp e)), if_neg h1]
    by_cases h2 : c = 102
    · subst h2; rfl
    · rw [if_neg (fun e : nI c = (102 : Int32) => h2 ((nI_eq (b := 102) (by omega) (by decide)).mp e)), if_neg h2]
      show (if nI c - nI 48 < 0 then some (-1 : Int32) else if nI n ≤ nI c - nI 48 then some (-1) else some (nI c - nI 48)) = _
      by_cases h3 : c < 48
      · rw [if_pos (pk_sneg (by decide) h3), if_neg (by omega)]
      · rw [pk_sub (by omega), if_neg (nI_pos (by omega))]
        by_cases h4 : n ≤ c - 48
        · rw [if_pos (nI_le h4 (by omega)), if_neg (by omega)]
        · rw [if_neg (nI_ge (by omega) (by omega)), if_pos (by omega)]
def pu_pX (T : pu_q) (n : Nat) (S : fy_S) (R : fy_S × Int32) (res : Nat ⊕ pu_q) : Prop := ((∃ i, i ≤ T.1 ∧ res = .inl i ∧ R.2 = nI i) ∨ ∃ q, res = .inr q ∧ R.2 = -1 ∧ pu_px R.1 q [] ∧ pu_pi n 60 1 q []) ∧ fr pu_xq S R.1
theorem X_par {S : fy_S} {n : Nat} {T : pu_q} {res : Nat ⊕ pu_q} (hn : n ≤ 6) (hT : T.1 ≤ 60) (hT2 : ∀ k, k < T.1 → T.2 k < 128) (hl : pu_l (S.1 4) (S.1 3 4) T) : ∀ d i fu S' want q w, i + d = T.1 → d < fu → fr pu_xq S S' → pu_px S' q w → pu_pi n i (if want then 0 else 1) q w → pu_pr T.2 n T.1 d want q w = res → pw (X4_parse_24 fu S' (nI n) (if want then 1 else 0) (nI i)) (fun R => pu_pX T n S R res) := by
  intro d
  induction d with
  | zero =>
    intro i fu S' want q w hi hfu hf hx hp hr
    obtain ⟨fu, rfl⟩ : ∃ z, fu = z + 1 := ⟨fu - 1, by omega⟩
    have : i = T.1 := by omega
    subst this
    have e4 : S'.1 3 4 = nI T.1 := by rw [(hf 3 4 (by unfold pu_xq; omega)).1]; exact hl.1
    have hon := pu_on_le w
    have hwl := hp.1
    rw [X4_parse_24, e4]
    refine pw_t (nI_le (Nat.le_refl _) (by omega)) ?_
    cases want with
    | true =>
      rw [pu_pr] at hr
      exact pw_f (by decide) (pw_s ⟨.inl ⟨T.1, Nat.le_refl _, hr.symm, rfl⟩, hf⟩)
    | false =>
      rw [pu_pr] at hr
      have hp : pu_pi n T.1 1 q w := hp
      rw [hx.2.2.2.2.2]
      refine pw_t rfl ?_
      by_cases ho : 0 < pu_on w
      · rw [if_pos ho] at hr
        exact pw_f (nI_nle ho (by omega)) (pw_s ⟨.inl ⟨T.1, Nat.le_refl _, hr.symm, rfl⟩, hf⟩)
      · rw [if_neg ho] at hr
        have h0 : pu_on w = 0 := by omega
        rw [h0]
        refine pw_t (by decide) (pw_bd (X_apply (o := 8) (.inl rfl) hT hx hp) (fun S1 s1 => pw_s ⟨.inr ⟨_, hr.symm, rfl, ?_, ?_⟩, fr_t hf s1.2⟩))
        · have := s1.1
          rw [pu_ap_no hp ho] at this
          exact this
        · have := (pu_ap_pi (o := 8) (Nat.le_refl _) w q hp).1
          rw [pu_ap_no hp ho] at this
          exact pu_pi_up this hT
  | succ d ih =>
    intro i fu S' want q w hi hfu hf hx hp hr
    obtain ⟨fu, rfl⟩ : ∃ z, fu = z + 1 := ⟨fu - 1, by omega⟩
    have hiT : i < T.1 := by omega
    have hi60 : i < 60 := by omega
    have e4 : S'.1 3 4 = nI T.1 := by rw [(hf 3 4 (by unfold pu_xq; omega)).1]; exact hl.1
    have ec : S'.1 4 i = nI (T.2 i) := by rw [(hf 4 i (by unfold pu_xq; omega)).1]; exact hl.2 i hiT
    have hc := hT2 i hiT
    have hon := pu_on_le w
    have hwl := hp.1
    have eT : T.1 - (d + 1) = i := by omega
    have ceq : ∀ z : Nat, z < 128 → (nI (T.2 i) = nI z ↔ T.2 i = z) := fun z hz => nI_eq (by omega) (by omega)
    rw [X4_parse_24, e4, nI_clamp (by omega), ec]
    refine pw_f (nI_ge hiT (by omega)) (pw_gd (fy_ix_nI hi60 (by decide)) (pw_bl ?_))
    cases want with
    | true =>
      have hp : pu_pi n i 0 q w := hp
      rw [pu_pr, eT] at hr
      refine pw_f (by decide) ?_
      by_cases h40 : T.2 i = 40
      · rw [if_pos h40] at hr
        refine pw_t (by rw [h40]; rfl) (pw_bd (X_opG hx (by omega)) (fun S1 s1 => pw_bl ?_))
        rw [nI_1 i]
        exact ih (i + 1) fu S1 true q (0 :: w) (by omega) (by omega) (fr_t hf s1.2) s1.1 (pu_pi_gr hp) hr
      · rw [if_neg h40] at hr
        refine pw_f (fun e => h40 ((ceq 40 (by decide)).mp e)) ?_
        rw [X4_parse_58]
        refine pw_f (by decide) (pw_be (X_leaf hn hc) ?_)
        cases hlf : pu_lf n (T.2 i) with
        | none =>
          rw [hlf] at hr
          exact pw_t rfl (pw_s ⟨.inl ⟨i, by omega, hr.symm, rfl⟩, hf⟩)
        | some l =>
          rw [hlf] at hr
          have hl8 : l < 8 ∧ (l < n ∨ 6 ≤ l) := by
            unfold pu_lf at hlf
            split at hlf
            · cases hlf; omega
            · split at hlf
              · cases hlf; omega
              · split at hlf
                · cases hlf; omega
                · cases hlf
          refine pw_f (fun e => ?_) (pw_bd (X_addL hn hx hp hi60 hl8.1) (fun S1 s1 => pw_bl ?_))
          · have e : nI l = -1 := e
            have h1 := nI_toInt (n := l) (by omega)
            rw [e] at h1
            have h2 : (-1 : Int32).toInt = -1 := by decide
            omega
          · rw [nI_1 i]
            exact ih (i + 1) fu S1 false (pu_ps q l) w (by omega) (by omega) (fr_t hf s1.2) s1.1 (pu_pi_lf hp hl8.1 hl8.2) hr
    | false =>
      have hp : pu_pi n i 1 q w := hp
      rw [pu_pr, eT] at hr
      refine pw_t rfl ?_
      rw [X4_parse_58]
      refine pw_t rfl ?_
      have rest : ¬ (T.2 i = 41 ∧ 0 < pu_on w) → pw (X4_parse_110 (fun S v1 v2 v3 => X4_parse_24 fu S v1 v2 v3) S' (nI n) (nI i) (nI (T.2 i))) (fun R => pu_pX T n S R res) := by
        intro hno
        rw [if_neg hno] at hr
        rw [X4_parse_110]
        by_cases h38 : T.2 i = 38
        · rw [if_pos h38] at hr
          refine pw_t (by rw [h38]; rfl) ?_
          rw [X4_parse_124]
          refine pw_t (by rw [h38]; rfl) ?_
          rw [X4_parse_139, nI_1 i]
          refine pw_bd (X_adO (o := 9) (.inr rfl) hi60 hx hp) (fun S1 s1 => pw_bl ?_)
          exact ih (i + 1) fu S1 true _ _ (by omega) (by omega) (fr_t hf s1.2.2) s1.1 s1.2.1 hr
        · rw [if_neg h38] at hr
          refine pw_f (fun e => h38 ((ceq 38 (by decide)).mp e)) ?_
          by_cases h124 : T.2 i = 124
          · rw [if_pos h124] at hr
            refine pw_t (by rw [h124]; rfl) ?_
            rw [X4_parse_124]
            refine pw_f (fun e => h38 ((ceq 38 (by decide)).mp e)) ?_
            rw [X4_parse_139, nI_1 i]
            refine pw_bd (X_adO (o := 8) (.inl rfl) hi60 hx hp) (fun S1 s1 => pw_bl ?_)
            exact ih (i + 1) fu S1 true _ _ (by omega) (by omega) (fr_t hf s1.2.2) s1.1 s1.2.1 hr
          · rw [if_neg h124] at hr
            exact pw_f (fun e => h124 ((ceq 124 (by decide)).mp e)) (pw_s ⟨.inl ⟨i, by omega, hr.symm, rfl⟩, hf⟩)
      by_cases h41 : T.2 i = 41
      · refine pw_t (by rw [h41]; rfl) ?_
        rw [hx.2.2.2.2.2]
        by_cases ho : 0 < pu_on w
        · rw [if_pos ⟨h41, ho⟩] at hr
          refine pw_f (nI_nle ho (by omega)) (pw_bd (X_clG (by omega) hx hp ho) (fun S1 s1 => pw_bl ?_))
          rw [nI_1 i]
          exact ih (i + 1) fu S1 false _ _ (by omega) (by omega) (fr_t hf s1.2.2) s1.1 (pu_pi_up s1.2.1 (by omega)) hr
        · have h0 : pu_on w = 0 := by omega
          rw [h0]
          exact pw_t (by decide) (rest (fun h => ho h.2))
      · exact pw_f (fun e => h41 ((ceq 41 (by decide)).mp e)) (rest (fun h => h41 h.1))
