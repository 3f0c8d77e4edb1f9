/-! print: the text of a formula; a part is (its top, its signs) -/
abbrev pu_t : Type := Nat × List Nat
def pu_sg (c : Nat) : Nat := if c = 6 then 116 else if c = 7 then 102 else 48 + c
def pu_tp (b : Bool) (l : List Nat) : List Nat := if b then 40 :: (l ++ [41]) else l
def pu_rp_ (o r : Nat) : Bool := decide (r = 8) || (decide (r = 9) && decide (o = 9))
def pu_lp_ (o l : Nat) : Bool := decide (l = 8) && decide (o = 9)
def pu_og (o : Nat) : Nat := if o = 9 then 38 else 124
def pu_tf (c : Nat) : pu_t := (c, [pu_sg c])
def pu_tj (o : Nat) (l r : pu_t) : pu_t := (o, pu_tp (pu_lp_ o l.1) l.2 ++ pu_og o :: pu_tp (pu_rp_ o r.1) r.2)
def pu_cc : List pu_t → List Nat
  | [] => []
  | x :: t => pu_cc t ++ x.2
def pu_wl : List pu_t → Nat
  | [] => 0
  | x :: t => pu_wl t + (x.2.length + 2)
theorem pu_tp_len (b : Bool) (l : List Nat) : l.length ≤ (pu_tp b l).length ∧ (pu_tp b l).length ≤ l.length + 2 := by
  unfold pu_tp
  split
  · simp; omega
  · omega
theorem pu_wl_k (f : Nat → Nat) : ∀ k, pu_wl (pu_st pu_tf pu_tj f k) ≤ 3 * k := by
  intro k
  induction k with
  | zero => exact Nat.le_refl _
  | succ k ih =>
    by_cases h : f k < 8
    · rw [pu_st_l h, pu_wl]
      have : (pu_tf (f k)).2.length = 1 := rfl
      omega
    · by_cases h2 : 2 ≤ (pu_st pu_tf pu_tj f k).length
      · obtain ⟨r, l, t, e⟩ := pu_len2 h2
        rw [pu_st_j h e]
        rw [e] at ih
        rw [pu_wl, pu_wl] at ih
        rw [pu_wl]
        have h1 := pu_tp_len (pu_lp_ (f k) l.1) l.2
        have h2 := pu_tp_len (pu_rp_ (f k) r.1) r.2
        have : (pu_tj (f k) l r).2.length = (pu_tp (pu_lp_ (f k) l.1) l.2).length + ((pu_tp (pu_rp_ (f k) r.1) r.2).length + 1) := by
          unfold pu_tj; simp
        omega
      · rw [pu_st_n h (by omega)]; omega
theorem pu_cc_wl : ∀ s : List pu_t, (pu_cc s).length + 2 * s.length = pu_wl s := by
  intro s
  induction s with
  | nil => rfl
  | cons x t ih => rw [pu_cc, pu_wl, List.length_append, List.length_cons]; omega
def pu_a1 (l : List Nat) : Prop := ∀ c, c ∈ l → 0 < c ∧ c < 128
theorem pu_tp_a {b : Bool} {l : List Nat} (h : pu_a1 l) : pu_a1 (pu_tp b l) := by
  unfold pu_tp
  split
  · intro c hc
    simp at hc
    rcases hc with e | e | e
    · omega
    · exact h c e
    · omega
  · exact h
theorem pu_tj_a {o : Nat} {l r : pu_t} (hl : pu_a1 l.2) (hr : pu_a1 r.2) : pu_a1 (pu_tj o l r).2 := by
  unfold pu_tj
  intro c hc
  rcases List.mem_append.mp hc with e | e
  · exact pu_tp_a hl c e
  · rcases List.mem_cons.mp e with e | e
    · rw [e]; unfold pu_og; split <;> omega
    · exact pu_tp_a hr c e
theorem pu_tf_a {c : Nat} (h : c < 8) : pu_a1 (pu_tf c).2 := by
  intro x hx
  have : x = pu_sg c := by simpa [pu_tf] using hx
  rw [this]
  unfold pu_sg
  split
  · omega
  · split <;> omega
theorem pu_st_a (f : Nat → Nat) : ∀ k, ∀ x, x ∈ pu_st pu_tf pu_tj f k → pu_a1 x.2 := by
  intro k
  induction k with
  | zero => intro x hx; cases hx
  | succ k ih =>
    intro x hx
    by_cases h : f k < 8
    · rw [pu_st_l h] at hx
      rcases List.mem_cons.mp hx with e | e
      · rw [e]; exact pu_tf_a h
      · exact ih x e
    · by_cases h2 : 2 ≤ (pu_st pu_tf pu_tj f k).length
      · obtain ⟨r, l, t, e⟩ := pu_len2 h2
        rw [pu_st_j h e] at hx
        rw [e] at ih
        rcases List.mem_cons.mp hx with ex | ex
        · rw [ex]; exact pu_tj_a (ih l (by simp)) (ih r (by simp))
        · exact ih x (by simp [ex])
      · rw [pu_st_n h (by omega)] at hx; exact ih x hx
theorem pu_cc_a : ∀ s : List pu_t, (∀ x, x ∈ s → pu_a1 x.2) → pu_a1 (pu_cc s) := by
  intro s
  induction s with
  | nil => intro _ c hc; cases hc
  | cons x t ih =>
    intro h c hc
    rw [pu_cc] at hc
    rcases List.mem_append.mp hc with e | e
    · exact ih (fun y hy => h y (by simp [hy])) c e
    · exact h x (by simp) c e
/-! the class: a row of signs, and a sign that comes between -/
def pu_sL (S : fy_S) (L : List Nat) : Prop := S.1 8 1 = nI L.length ∧ ∀ i v, L[i]? = some v → S.1 9 i = nI v
theorem pu_chr {v : Nat} (h : v < 128) : vp_nar .char (nI v) = nI v := fb_char (by omega)
theorem X_ins {S : fy_S} {A B : List Nat} {c : Nat} (h : pu_sL S (A ++ B)) (ha : pu_a1 (A ++ B)) (hc : c < 128) (hl : (A ++ B).length < 120) : pw (X3_insert S (nI A.length) (nI c)) (fun S' => pu_sL S' (A ++ c :: B) ∧ fr (fun i k => (i = 8 ∧ k = 1) ∨ i = 9) S S') := by
  obtain ⟨h1, h2⟩ := h
  have hlen : (A ++ B).length = A.length + B.length := List.length_append
  have hcell : ∀ i, i < A.length + B.length → ∃ v, (A ++ B)[i]? = some v ∧ S.1 9 i = nI v ∧ v < 128 := fun i hi => by
    have hi' : i < (A ++ B).length := by omega
    have e : (A ++ B)[i]? = some (A ++ B)[i] := List.getElem?_eq_getElem hi'
    exact ⟨_, e, h2 i _ e, (ha _ (List.getElem_mem hi')).2⟩
  have L : ∀ d fu S', d < fu → A.length + d ≤ A.length + B.length → S'.1 8 1 = nI (A.length + B.length) → (∀ j, j < A.length + d → S'.1 9 j = S.1 9 j) → (∀ j, A.length + d < j → j ≤ A.length + B.length → S'.1 9 j = S.1 9 (j - 1)) → fr (fun i k => (i = 8 ∧ k = 1) ∨ i = 9) S S' → pw (X3_insert_27 fu S' (nI A.length) (nI c) (nI (A.length + d))) (fun S' => pu_sL S' (A ++ c :: B) ∧ fr (fun i k => (i = 8 ∧ k = 1) ∨ i = 9) S S') := by
    intro d
    induction d with
    | zero =>
      intro fu S' hfu hd hlen' hlo hhi hf
      obtain ⟨fu, rfl⟩ : ∃ z, fu = z + 1 := ⟨fu - 1, by omega⟩
      rw [X3_insert_27, nI_clamp (by omega), pu_chr hc]
      refine pw_t (nI_le (by omega) (by omega)) (pw_gd (fy_ix_nI (by omega) (by decide)) (pw_bl (pw_bl (pw_s ⟨⟨?_, fun i v hv => ?_⟩, fr_I (fr_I hf (.inr rfl)) (.inl ⟨rfl, rfl⟩)⟩))))
      · rw [rd_y, rd_n (by omega), hlen', nI_1]
        simp; congr 1
      · rw [rd_n (by omega)]
        by_cases e : i = A.length
        · subst e
          rw [rd_y]
          rw [List.getElem?_append_right (Nat.le_refl _), Nat.sub_self] at hv
          cases hv; rfl
        · rw [rd_n (by omega)]
          by_cases hi : i < A.length
          · rw [List.getElem?_append_left hi] at hv
            rw [hlo i (by omega)]
            exact h2 i v (by rw [List.getElem?_append_left hi]; exact hv)
          · have hlt : i < (A ++ c :: B).length := (List.getElem?_eq_some_iff.mp hv).1
            simp at hlt
            rw [List.getElem?_append_right (by omega), List.getElem?_cons, if_neg (by omega)] at hv
            rw [hhi i (by omega) (by omega)]
            refine h2 (i - 1) v ?_
            rw [List.getElem?_append_right (by omega), show i - 1 - A.length = i - A.length - 1 by omega]
            exact hv
    | succ d ih =>
      intro fu S' hfu hd hlen' hlo hhi hf
      obtain ⟨fu, rfl⟩ : ∃ z, fu = z + 1 := ⟨fu - 1, by omega⟩
      obtain ⟨v, hv1, hv2, hv3⟩ := hcell (A.length + d) (by omega)
      rw [X3_insert_27, ← Nat.add_assoc, nI_pred, nI_clamp (by omega), nI_clamp (by omega), nI_clamp (by omega), hlo (A.length + d) (by omega), hv2, pu_chr hv3, pk_m1]
      refine pw_f (nI_ge (by omega) (by omega)) (pw_gd (fy_ix_nI (by omega) (by decide)) (pw_gd (fy_ix_nI (by omega) (by decide)) (pw_bl (pw_bl (ih fu _ (by omega) (by omega) (by rw [rd_n (by omega)]; exact hlen') (fun j hj => by rw [rd_n (by omega)]; exact hlo j (by omega)) (fun j h1 h2 => ?_) (fr_I hf (.inr rfl)))))))
      by_cases e : j = A.length + d + 1
      · subst e
        rw [rd_y, show A.length + d + 1 - 1 = A.length + d by omega, hv2]
      · rw [rd_n (by omega)]; exact hhi j (by omega) h2
  rw [X3_insert, h1, hlen]
  refine pw_f (nI_pos (by omega)) (pw_f (nI_nlt (by omega) (by omega)) (pw_t (nI_lt (b := 120) (by omega) (by decide)) (pw_bl (L B.length fy_fu S (fz_fu (by omega)) (by omega) (by rw [h1, hlen]) (fun j _ => rfl) (fun j h1 h2 => by omega) fr_r))))
def pu_pk (S : fy_S) : List pu_t → Prop
  | [] => True
  | x :: t => S.1 10 t.length = nI (pu_cc t).length ∧ S.1 11 t.length = nI x.1 ∧ pu_pk S t
theorem pu_pk_c {S S' : fy_S} {n : Nat} (f : ∀ i k, (i = 10 ∨ i = 11) → k < n → S'.1 i k = S.1 i k) : ∀ {l : List pu_t}, l.length ≤ n → pu_pk S l → pu_pk S' l := by
  intro l
  induction l with
  | nil => intro _ _; trivial
  | cons x t ih =>
    intro hl h
    have hl : t.length + 1 ≤ n := hl
    exact ⟨by rw [f _ _ (.inl rfl) (by omega)]; exact h.1, by rw [f _ _ (.inr rfl) (by omega)]; exact h.2.1, ih (by omega) h.2.2⟩
def pu_pw (S : fy_S) (s : List pu_t) : Prop := pu_sL S (pu_cc s) ∧ S.1 8 4 = nI s.length ∧ pu_pk S s
def pu_xp (i k : Nat) : Prop := (i = 8 ∧ (k = 1 ∨ k = 4)) ∨ (9 ≤ i ∧ i ≤ 11)
theorem X_lsg {S : fy_S} {c : Nat} (h : c < 8) : X3_leafSign S (nI c) = some (nI (pu_sg c)) := by
  have key : ∀ c, c < 8 → ((((48 : Int32) + nI c).toUInt32 % 65536).toInt32) = nI (48 + c) := by decide +kernel
  rw [X3_leafSign]
  by_cases h6 : c = 6
  · subst h6; rfl
  · by_cases h7 : c = 7
    · subst h7; rfl
    · rw [key c h]
      refine pw_eq (pw_f (fun e => h6 ((nI_eq (b := 6) (by omega) (by decide)).mp e)) (pw_f (fun e => h7 ((nI_eq (b := 7) (by omega) (by decide)).mp e)) (pw_gd ?_ (pw_s ?_))))
      · have : ∀ c, c < 8 → fy_nr .char (nI (48 + c)) = true := by decide +kernel
        exact this c h
      · unfold pu_sg; rw [if_neg h6, if_neg h7]
theorem X_aP {S : fy_S} {s : List pu_t} {c : Nat} (h : pu_pw S s) (ha : pu_a1 (pu_cc s)) (hc : c < 8) (hw : pu_wl s + 3 ≤ 120) (hs : s.length < 40) : pw (X3_addPart S (nI c)) (fun S' => pu_pw S' (pu_tf c :: s) ∧ fr pu_xp S S') := by
  obtain ⟨h1, h2, h3⟩ := h
  have hcc := pu_cc_wl s
  rw [X3_addPart, h2, nI_clamp (by omega)]
  refine pw_f (nI_ge (b := 40) hs (by decide)) (pw_gd (fy_ix_nI hs (by decide)) (pw_bl ?_))
  rw [rd_n (by omega), h2, nI_clamp (by omega)]
  refine pw_gd (fy_ix_nI hs (by decide)) (pw_bl (pw_bl ?_))
  rw [rd_n (by omega), rd_n (by omega), h2, nI_1]
  refine pw_be (X_lsg hc) ?_
  rw [rd_n (by omega), rd_n (by omega), rd_n (by omega), h1.1]
  have hsg : pu_sg c < 128 := by unfold pu_sg; split <;> (try split) <;> omega
  have e1 : pu_sL (fy_sI (fy_sI (fy_sI S 10 s.length (nI (pu_cc s).length)) 11 s.length (nI c)) 8 4 (nI (s.length + 1))) (pu_cc s ++ []) := by
    rw [List.append_nil]
    exact ⟨by rw [rd_n (by omega), rd_n (by omega), rd_n (by omega)]; exact h1.1, fun i v hv => by rw [rd_n (by omega), rd_n (by omega), rd_n (by omega)]; exact h1.2 i v hv⟩
  refine pw_bd (X_ins (A := pu_cc s) (B := []) e1 (by rw [List.append_nil]; exact ha) hsg (by rw [List.append_nil]; omega)) (fun S1 s1 => pw_s ⟨⟨s1.1, ?_, ?_, ?_, ?_⟩, fr_t (fr_I (fr_I (fr_I fr_r (by unfold pu_xp; omega)) (by unfold pu_xp; omega)) (by unfold pu_xp; omega)) (fr_m s1.2 (fun i k h => by unfold pu_xp; omega))⟩)
  · rw [(s1.2 _ _ (by omega)).1, rd_y]; rfl
  · rw [(s1.2 _ _ (by omega)).1, rd_n (by omega), rd_n (by omega), rd_y]
  · rw [(s1.2 _ _ (by omega)).1, rd_n (by omega), rd_y]; rfl
  · exact pu_pk_c (n := s.length) (fun i k hi hk => by rw [(s1.2 _ _ (by omega)).1, rd_n (by omega), rd_n (by omega), rd_n (by omega)]) (Nat.le_refl _) h3
theorem X_jP {S : fy_S} {t : List pu_t} {l r : pu_t} {o : Nat} (ho : o = 8 ∨ o = 9) (hl1 : l.1 < 10) (hr1 : r.1 < 10) (h : pu_pw S (r :: l :: t)) (ha : pu_a1 (pu_cc (r :: l :: t))) (hal : pu_a1 l.2) (har : pu_a1 r.2) (hat : pu_a1 (pu_cc t)) (hw : pu_wl (r :: l :: t) + 3 ≤ 120) (hs : t.length + 2 ≤ 40) : pw (X3_joinParts S (nI o)) (fun S' => pu_pw S' (pu_tj o l r :: t) ∧ fr pu_xp S S') := by
  obtain ⟨h1, h2, h3⟩ := h
  obtain ⟨b1, b2, b3, b4, b5⟩ := h3
  have b1 : S.1 10 (t.length + 1) = nI (pu_cc (l :: t)).length := b1
  have b2 : S.1 11 (t.length + 1) = nI r.1 := b2
  have h2 : S.1 8 4 = nI (t.length + 1 + 1) := h2
  have hccl : (pu_cc (l :: t)).length = (pu_cc t).length + l.2.length := by rw [pu_cc, List.length_append]
  have hct := pu_cc_wl t
  have hwl : pu_wl t + (l.2.length + 2) + (r.2.length + 2) + 3 ≤ 120 := hw
  have ecc : pu_cc (r :: l :: t) = (pu_cc t ++ l.2) ++ r.2 := rfl
  rw [ecc] at h1 ha
  have hlen : (pu_cc t).length + l.2.length + r.2.length ≤ 113 := by omega
  -- the end: the top is set
  have fin : ∀ S', pu_sL S' (pu_cc t ++ (pu_tj o l r).2) → fr pu_xp S S' → S'.1 8 4 = nI (t.length + 1) → (∀ i k, (i = 10 ∨ i = 11) → S'.1 i k = S.1 i k) → pw (X3_joinParts_145 S' (nI o) (nI t.length)) (fun S' => pu_pw S' (pu_tj o l r :: t) ∧ fr pu_xp S S') := by
    intro S' g1 gf g4 gk
    rw [X3_joinParts_145, nI_clamp (by omega)]
    refine pw_gd (fy_ix_nI (by omega) (by decide)) (pw_bl (pw_s ⟨⟨⟨by rw [rd_n (by omega)]; exact g1.1, fun i v hv => by rw [rd_n (by omega)]; exact g1.2 i v hv⟩, by rw [rd_n (by omega)]; exact g4, by rw [rd_n (by omega), gk _ _ (.inl rfl)]; exact b3, rd_y, pu_pk_c (n := t.length) (fun i k hi hk => by rw [rd_n (by omega)]; exact gk i k hi) (Nat.le_refl _) b5⟩, fr_I gf (by unfold pu_xp; omega)⟩))
  -- the operator and the left part
  have mid : ∀ S' (b : Bool), b = pu_rp_ o r.1 → pu_sL S' ((pu_cc t ++ l.2) ++ pu_tp b r.2) → fr pu_xp S S' → S'.1 8 4 = nI (t.length + 1) → (∀ i k, (i = 10 ∨ i = 11) → S'.1 i k = S.1 i k) → pw (X3_joinParts_81 S' (nI o) (nI t.length) (nI (t.length + 1))) (fun S' => pu_pw S' (pu_tj o l r :: t) ∧ fr pu_xp S S') := by
    intro S' b hb g1 gf g4 gk
    have harp : pu_a1 (pu_tp b r.2) := pu_tp_a har
    have hatl : pu_a1 (pu_cc t ++ l.2) := fun c hc => (List.mem_append.mp hc).elim (hat c) (hal c)
    have hal2 : pu_a1 ((pu_cc t ++ l.2) ++ pu_tp b r.2) := fun c hc => (List.mem_append.mp hc).elim (hatl c) (harp c)
    have hrl := pu_tp_len b r.2
    have key : ∀ z : Nat, z = pu_og o → pw (X3_joinParts_101 S' (nI o) (nI t.length) (nI (t.length + 1)) (nI z) (nI (pu_cc t ++ l.2).length)) (fun S' => pu_pw S' (pu_tj o l r :: t) ∧ fr pu_xp S S') := by
      intro z hz
      have hz128 : 0 < z ∧ z < 128 := by rw [hz]; unfold pu_og; split <;> omega
      rw [X3_joinParts_101]
      refine pw_bd (X_ins (A := pu_cc t ++ l.2) (B := pu_tp b r.2) g1 hal2 hz128.2 (by rw [List.length_append, List.length_append]; omega)) (fun S1 s1 => ?_)
      have k1 : ∀ i k, (i = 10 ∨ i = 11) → S1.1 i k = S.1 i k := fun i k hi => by rw [(s1.2 _ _ (by omega)).1]; exact gk i k hi
      rw [nI_clamp (by omega), k1 _ _ (.inr rfl), b4]
      refine pw_gd (fy_ix_nI (by omega) (by decide)) ?_
      have k4 : S1.1 8 4 = nI (t.length + 1) := by rw [(s1.2 _ _ (by omega)).1]; exact g4
      have f1 : fr pu_xp S S1 := fr_t gf (fr_m s1.2 (fun i k h => by unfold pu_xp; omega))
      have noP : pu_lp_ o l.1 = false → pw (X3_joinParts_145 S1 (nI o) (nI t.length)) (fun S' => pu_pw S' (pu_tj o l r :: t) ∧ fr pu_xp S S') := by
        intro hno
        refine fin S1 ?_ f1 k4 k1
        have e : pu_cc t ++ (pu_tj o l r).2 = (pu_cc t ++ l.2) ++ z :: pu_tp b r.2 := by
          unfold pu_tj
          rw [hno, ← hb, hz]
          show pu_cc t ++ (l.2 ++ _) = _
          rw [List.append_assoc]
        rw [e]; exact s1.1
      by_cases hl8 : l.1 = 8
      · refine pw_t (by rw [hl8]; rfl) ?_
        by_cases ho9 : o = 9
        · refine pw_t (by rw [ho9]; rfl) (pw_gd (fy_ix_nI (by omega) (by decide)) ?_)
          rw [nI_clamp (by omega), k1 _ _ (.inl rfl), b1]
          have haz : pu_a1 ((pu_cc t ++ l.2) ++ z :: pu_tp b r.2) := fun c hc => (List.mem_append.mp hc).elim (hatl c) (fun e => (List.mem_cons.mp e).elim (fun e => by rw [e]; exact hz128) (harp c))
          refine pw_bd (X_ins (A := pu_cc t ++ l.2) (B := z :: pu_tp b r.2) (c := 41) s1.1 haz (by decide) (by rw [List.length_append, List.length_append, List.length_cons]; omega)) (fun S2 s2 => pw_gd (fy_ix_nI (by omega) (by decide)) ?_)
          have k2 : ∀ i k, (i = 10 ∨ i = 11) → S2.1 i k = S.1 i k := fun i k hi => by rw [(s2.2 _ _ (by omega)).1]; exact k1 i k hi
          rw [k2 _ _ (.inl rfl), b3]
          have s2' : pu_sL S2 (pu_cc t ++ (l.2 ++ 41 :: z :: pu_tp b r.2)) := by rw [← List.append_assoc]; exact s2.1
          have hay : pu_a1 (pu_cc t ++ (l.2 ++ 41 :: z :: pu_tp b r.2)) := fun c hc => (List.mem_append.mp hc).elim (hat c) (fun e => (List.mem_append.mp e).elim (hal c) (fun e => (List.mem_cons.mp e).elim (fun e => by omega) (fun e => (List.mem_cons.mp e).elim (fun e => by rw [e]; exact hz128) (harp c))))
          refine pw_bd (X_ins (A := pu_cc t) (B := l.2 ++ 41 :: z :: pu_tp b r.2) (c := 40) s2' hay (by decide) (by simp; omega)) (fun S3 s3 => ?_)
          refine fin S3 ?_ (fr_t (fr_t f1 (fr_m s2.2 (fun i k h => by unfold pu_xp; omega))) (fr_m s3.2 (fun i k h => by unfold pu_xp; omega))) (by rw [(s3.2 _ _ (by omega)).1, (s2.2 _ _ (by omega)).1]; exact k4) (fun i k hi => by rw [(s3.2 _ _ (by omega)).1]; exact k2 i k hi)
          have e : pu_cc t ++ (pu_tj o l r).2 = pu_cc t ++ 40 :: (l.2 ++ 41 :: z :: pu_tp b r.2) := by
            unfold pu_tj
            rw [show pu_lp_ o l.1 = true by rw [hl8, ho9]; rfl, ← hb, hz]
            show pu_cc t ++ (40 :: (l.2 ++ [41]) ++ _) = _
            simp
          rw [e]; exact s3.1
        · refine pw_f (fun e => ho9 ((nI_eq (b := 9) (by omega) (by decide)).mp e)) (noP ?_)
          unfold pu_lp_; rw [decide_eq_false ho9, Bool.and_false]
      · refine pw_f (fun e => hl8 ((nI_eq (b := 8) (by omega) (by decide)).mp e)) (noP ?_)
        unfold pu_lp_; rw [decide_eq_false hl8, Bool.false_and]
    have eb : S'.1 10 (nI (t.length + 1)).toNatClampNeg = nI (pu_cc t ++ l.2).length := by rw [nI_clamp (by omega), gk _ _ (.inl rfl)]; exact b1
    rw [X3_joinParts_81, eb]
    refine pw_gd (fy_ix_nI (by omega) (by decide)) ?_
    rcases ho with e | e
    · subst e
      exact pw_f (by decide) (key 124 rfl)
    · subst e
      exact pw_t rfl (key 38 rfl)
  rw [X3_joinParts, h2]
  refine pw_t (nI_le (a := 2) (by omega) (by omega)) (pw_bl ?_)
  rw [nI_pred, rd_y, nI_pred]
  refine pw_bl (pw_bl (pw_gd (fy_ix_nI (by omega) (by decide)) ?_))
  rw [nI_clamp (by omega), rd_n (by omega), b2]
  have g0 : pu_sL (fy_sI S 8 4 (nI (t.length + 1))) ((pu_cc t ++ l.2) ++ r.2) := ⟨by rw [rd_n (by omega)]; exact h1.1, fun i v hv => by rw [rd_n (by omega)]; exact h1.2 i v hv⟩
  have gf0 : fr pu_xp S (fy_sI S 8 4 (nI (t.length + 1))) := fr_I fr_r (by unfold pu_xp; omega)
  have gk0 : ∀ i k, (i = 10 ∨ i = 11) → (fy_sI S 8 4 (nI (t.length + 1))).1 i k = S.1 i k := fun i k hi => rd_n (by omega)
  have noR : pu_rp_ o r.1 = false → pw (X3_joinParts_81 (fy_sI S 8 4 (nI (t.length + 1))) (nI o) (nI t.length) (nI (t.length + 1))) (fun S' => pu_pw S' (pu_tj o l r :: t) ∧ fr pu_xp S S') := fun hno => mid _ false hno.symm g0 gf0 rd_y gk0
  have yesR : pu_rp_ o r.1 = true → pw (X3_joinParts_59 (fy_sI S 8 4 (nI (t.length + 1))) (nI o) (nI t.length) (nI (t.length + 1))) (fun S' => pu_pw S' (pu_tj o l r :: t) ∧ fr pu_xp S S') := by
    intro hyes
    rw [X3_joinParts_59, g0.1]
    have g0' : pu_sL (fy_sI S 8 4 (nI (t.length + 1))) (((pu_cc t ++ l.2) ++ r.2) ++ []) := by rw [List.append_nil]; exact g0
    refine pw_bd (X_ins (A := (pu_cc t ++ l.2) ++ r.2) (B := []) (c := 41) g0' (by rw [List.append_nil]; exact ha) (by decide) (by simp; omega)) (fun S1 s1 => pw_gd (fy_ix_nI (by omega) (by decide)) ?_)
    have k1 : ∀ i k, (i = 10 ∨ i = 11) → S1.1 i k = S.1 i k := fun i k hi => by rw [(s1.2 _ _ (by omega)).1]; exact gk0 i k hi
    have eb : S1.1 10 (nI (t.length + 1)).toNatClampNeg = nI (pu_cc t ++ l.2).length := by rw [nI_clamp (by omega), k1 _ _ (.inl rfl)]; exact b1
    have s1' : pu_sL S1 ((pu_cc t ++ l.2) ++ (r.2 ++ [41])) := by rw [← List.append_assoc]; exact s1.1
    have hay : pu_a1 ((pu_cc t ++ l.2) ++ (r.2 ++ [41])) := by
      rw [← List.append_assoc]
      exact fun c hc => (List.mem_append.mp hc).elim (ha c) (fun e => by simp at e; omega)
    rw [eb]
    refine pw_bd (X_ins (A := pu_cc t ++ l.2) (B := r.2 ++ [41]) (c := 40) s1' hay (by decide) (by simp; omega)) (fun S2 s2 => ?_)
    exact mid S2 true hyes.symm s2.1 (fr_t (fr_t gf0 (fr_m s1.2 (fun i k h => by unfold pu_xp; omega))) (fr_m s2.2 (fun i k h => by unfold pu_xp; omega))) (by rw [(s2.2 _ _ (by omega)).1, (s1.2 _ _ (by omega)).1, rd_y]) (fun i k hi => by rw [(s2.2 _ _ (by omega)).1]; exact k1 i k hi)
  by_cases hr8 : r.1 = 8
  · exact pw_t (by rw [hr8]; rfl) (yesR (by unfold pu_rp_; rw [decide_eq_true hr8, Bool.true_or]))
  · refine pw_f (fun e => hr8 ((nI_eq (b := 8) (by omega) (by decide)).mp e)) (pw_gd (fy_ix_nI (by omega) (by decide)) ?_)
    by_cases hr9 : r.1 = 9
    · refine pw_t (by rw [hr9]; rfl) ?_
      by_cases ho9 : o = 9
      · exact pw_t (by rw [ho9]; rfl) (yesR (by unfold pu_rp_; rw [decide_eq_true hr9, decide_eq_true ho9, Bool.true_and, Bool.or_true]))
      · exact pw_f (fun e => ho9 ((nI_eq (b := 9) (by omega) (by decide)).mp e)) (noR (by unfold pu_rp_; rw [decide_eq_false hr8, decide_eq_false ho9, Bool.and_false, Bool.false_or]))
    · exact pw_f (fun e => hr9 ((nI_eq (b := 9) (by omega) (by decide)).mp e)) (noR (by unfold pu_rp_; rw [decide_eq_false hr8, decide_eq_false hr9, Bool.false_and, Bool.false_or]))
theorem pu_st_top (f : Nat → Nat) : ∀ k, (∀ i, i < k → f i < 10) → ∀ x, x ∈ pu_st pu_tf pu_tj f k → x.1 < 10 := by
  intro k
  induction k with
  | zero => intro _ x hx; cases hx
  | succ k ih =>
    intro h10 x hx
    have ih := ih (fun i hi => h10 i (by omega))
    have hk := h10 k (by omega)
    by_cases h : f k < 8
    · rw [pu_st_l h] at hx
      rcases List.mem_cons.mp hx with e | e
      · rw [e]; exact hk
      · exact ih x e
    · by_cases h2 : 2 ≤ (pu_st pu_tf pu_tj f k).length
      · obtain ⟨r, l, t, e⟩ := pu_len2 h2
        rw [pu_st_j h e] at hx
        rw [e] at ih
        rcases List.mem_cons.mp hx with ex | ex
        · rw [ex]; exact hk
        · exact ih x (by simp [ex])
      · rw [pu_st_n h (by omega)] at hx; exact ih x hx
/-- the text of a formula -/
def pu_tx (q : pu_q) : List Nat := ((pu_st pu_tf pu_tj q.2 q.1).headD (0, [])).2
theorem X_wr {S : fy_S} {id n : Nat} {q : pu_q} (hn : n ≤ 6) (hq : pu_ok n q) (hid : 38 ≤ id) (hl : pu_l (S.1 (id + 1)) (S.1 id 1) q) : pw (X3_write S id) (fun S' => pu_sL S' (pu_tx q) ∧ fr pu_xp S S') := by
  obtain ⟨q1, q2, q3, q4⟩ := hq
  have L : ∀ d k fu S', k + d = q.1 → d < fu → fr pu_xp S S' → pu_pw S' (pu_st pu_tf pu_tj q.2 k) → pw (X3_write_12 fu S' id (nI k)) (fun S' => pu_sL S' (pu_tx q) ∧ fr pu_xp S S') := by
    intro d
    induction d with
    | zero =>
      intro k fu S' hk hfu hf hp
      obtain ⟨fu, rfl⟩ : ∃ z, fu = z + 1 := ⟨fu - 1, by omega⟩
      have : k = q.1 := by omega
      subst this
      have e1 : S'.1 id 1 = nI q.1 := by rw [(hf _ _ (by unfold pu_xp; omega)).1]; exact hl.1
      rw [X3_write_12, e1]
      refine pw_t (nI_le (Nat.le_refl _) (by omega)) (pw_s ⟨?_, hf⟩)
      obtain ⟨r, e⟩ := pu_len1 ((pu_st_dp (lf := pu_tf) (jn := pu_tj) q.1).trans q4)
      have h1 := hp.1
      unfold pu_tx
      rw [e] at h1 ⊢
      exact h1
    | succ d ih =>
      intro k fu S' hk hfu hf hp
      obtain ⟨fu, rfl⟩ : ∃ z, fu = z + 1 := ⟨fu - 1, by omega⟩
      have hkq : k < q.1 := by omega
      have hl' : pu_l (S'.1 (id + 1)) (S'.1 id 1) q := pu_l_c hl (hf _ _ (by unfold pu_xp; omega)).1 (fun t _ => (hf _ _ (by unfold pu_xp; omega)).1)
      have hc := (q3 k hkq).1
      have hwl := pu_wl_k q.2 k
      have hlen : (pu_st pu_tf pu_tj q.2 k).length ≤ k := by rw [pu_st_dp]; exact pu_dp_le _ _
      have hall := pu_st_a q.2 k
      have htop := pu_st_top q.2 k (fun i hi => by have := (q3 i (by omega)).1; omega)
      rw [X3_write_12, hl'.1]
      refine pw_f (nI_ge hkq (by omega)) (pw_be (X_node hl' hkq q2) ?_)
      by_cases h8 : q.2 k < 8
      · refine pw_f (fun e => absurd ((nI_eq (b := 9) (by omega) (by decide)).mp e) (by omega)) (pw_f (fun e => absurd ((nI_eq (b := 8) (by omega) (by decide)).mp e) (by omega)) (pw_bd (X_aP hp (pu_cc_a _ hall) h8 (by omega) (by omega)) (fun S1 s1 => pw_bl ?_)))
        rw [nI_1]
        refine ih (k + 1) fu S1 (by omega) (by omega) (fr_t hf s1.2) ?_
        rw [pu_st_l h8]; exact s1.1
      · have h2 := (q3 k hkq).2 (by omega)
        rw [← pu_st_dp (lf := pu_tf) (jn := pu_tj)] at h2
        obtain ⟨r, l, t, e⟩ := pu_len2 h2
        have o89 : q.2 k = 8 ∨ q.2 k = 9 := by omega
        rw [e] at hp hwl hlen hall htop
        have hlen : t.length + 2 ≤ k := hlen
        have step : pw (X3_write_38 (fun S v1 v2 => X3_write_12 fu S v1 v2) S' id (nI k) (nI (q.2 k))) (fun S' => pu_sL S' (pu_tx q) ∧ fr pu_xp S S') := by
          rw [X3_write_38]
          refine pw_bd (X_jP o89 (htop l (by simp)) (htop r (by simp)) hp (pu_cc_a _ hall) (hall l (by simp)) (hall r (by simp)) (pu_cc_a _ (fun x hx => hall x (by simp [hx]))) (by omega) (by omega)) (fun S1 s1 => pw_bl ?_)
          rw [nI_1]
          refine ih (k + 1) fu S1 (by omega) (by omega) (fr_t hf s1.2) ?_
          rw [pu_st_j h8 e]; exact s1.1
        rcases o89 with e9 | e9
        · rw [e9] at step ⊢
          exact pw_f (by decide) (pw_t rfl step)
        · rw [e9] at step ⊢
          exact pw_t rfl step
  rw [X3_write]
  refine pw_bl (pw_bl (L q.1 0 fy_fu _ (by omega) (fz_fu (by omega)) (fr_I (fr_I fr_r (by unfold pu_xp; omega)) (by unfold pu_xp; omega)) ⟨⟨?_, fun i v hv => ?_⟩, ?_, trivial⟩))
  · rw [rd_n (by omega), rd_y]; rfl
  · simp [pu_st, pu_cc] at hv
  · rw [rd_y]; rfl
