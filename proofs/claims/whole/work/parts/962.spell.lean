/-! what the search knows; spelling the word -/
theorem pu_xcov {S : fy_S} {A B : pu_A} {o : Bool} {c h : Nat} {O d : Nat → Nat} (hx : pu_xb S A B c O d) (hc : pu_xc A B o c h O d) (h0 : 0 < c) (hh : h ≤ c) : ∀ w, pu_wv A.2.1 w → (h < c → w.length ≤ d h) → ∃ k, k < c ∧ O k = pu_rg A B (pu_pb A B) w ∧ d k ≤ w.length := by
  intro w
  induction w with
  | nil => intro _ _; exact ⟨0, h0, hc.1, by rw [hc.2.1]; exact Nat.zero_le _⟩
  | cons x w ih =>
    intro hv hl
    have hl : h < c → w.length + 1 ≤ d h := hl
    obtain ⟨k, hk, ek, dk⟩ := ih (fun y hy => hv y (by simp [hy])) (fun hlt => by have := hl hlt; omega)
    have hkh : k < h := by
      by_cases e : h < c
      · have := hl e
        exact Classical.byContradiction (fun hn => by
          have := hx.2.2.2.2.2 h k (by omega) hk
          omega)
      · omega
    obtain ⟨k', g1, g2, g3⟩ := hc.2.2.2 k x hkh (hv x (by simp))
    exact ⟨k', g1, by rw [g2, ek, pu_rg], by rw [List.length_cons]; omega⟩
theorem pu_xno {S : fy_S} {A B : pu_A} {o : Bool} {c : Nat} {O d : Nat → Nat} (hx : pu_xb S A B c O d) (hc : pu_xc A B o c c O d) (h0 : 0 < c) : ∀ w, pu_wv A.2.1 w → pu_df A B o (pu_rg A B (pu_pb A B) w) = false := by
  intro w hv
  obtain ⟨k, hk, ek, _⟩ := pu_xcov hx hc h0 (Nat.le_refl _) w hv (fun h => absurd h (Nat.lt_irrefl _))
  rw [← ek]; exact hc.2.2.1 k hk
theorem pu_xmin {S : fy_S} {A B : pu_A} {o : Bool} {c h : Nat} {O d : Nat → Nat} (hx : pu_xb S A B c O d) (hc : pu_xc A B o c h O d) (hh : h < c) : ∀ w, pu_wv A.2.1 w → pu_df A B o (pu_rg A B (pu_pb A B) w) = true → d h ≤ w.length := by
  intro w hv hd
  refine Classical.byContradiction (fun hn => ?_)
  obtain ⟨k, hk, ek, dk⟩ := pu_xcov hx hc (by omega) (by omega) w hv (fun _ => by omega)
  have hkh : k < h := Classical.byContradiction (fun hn2 => by
    have := hx.2.2.2.2.2 h k (by omega) hk
    omega)
  rw [← ek, hc.2.2.1 k hkh] at hd
  cases hd
theorem pu_ll_app {x y : Nat} : ∀ {u v : List Nat}, pu_ll u v → (u = v → x ≤ y) → pu_ll (u ++ [x]) (v ++ [y]) := by
  intro u
  induction u with
  | nil =>
    intro v h hxy
    cases v with
    | nil =>
      have := hxy rfl
      by_cases e : x = y
      · exact .inr ⟨e, trivial⟩
      · exact .inl (by omega)
    | cons z v => exact absurd h (by intro h; exact h)
  | cons z u ih =>
    intro v h hxy
    cases v with
    | nil => exact absurd h (by intro h; exact h)
    | cons t v =>
      rcases h with h | ⟨h1, h2⟩
      · exact .inl h
      · exact .inr ⟨h1, ih h2 (fun e => hxy (by rw [h1, e]))⟩
def pu_bi (b : Bool) : Int32 := if b then 1 else 0
def pu_lk (S : fy_S) (O : Nat → Nat) (c : Nat) (g : Nat → Bool) : Prop := (∀ i, i < c → S.1 37 (O i) = pu_bi (g i)) ∧ ∀ y, y < 4096 → (∀ i, i < c → O i ≠ y) → S.1 37 y = 0
theorem pu_lk_u {S : fy_S} {A B : pu_A} {c : Nat} {O d : Nat → Nat} {g : Nat → Bool} {i : Nat} (b : Bool) (hA : pu_wA A) (hx : pu_xb S A B c O d) (h : pu_lk S O c g) (hi : i < c) : pu_lk (fy_sI S 37 (O i) (pu_bi b)) O c (fun k => if k = i then b else g k) := by
  refine ⟨fun k hk => ?_, fun y hy hn => ?_⟩
  · by_cases e : k = i
    · subst e
      rw [rd_y]
      show pu_bi b = pu_bi (if k = k then b else g k)
      rw [if_pos rfl]
    · have hne : O k ≠ O i := fun ee => e (hx.2.2.2.2.1 k i hk hi ee)
      rw [rd_n (by omega)]
      show _ = pu_bi (if k = i then b else g k)
      rw [if_neg e]; exact h.1 k hk
  · have hne : y ≠ O i := fun ee => hn i hi ee.symm
    rw [rd_n (by omega)]; exact h.2 y hy hn
theorem pu_xb_c {S S' : fy_S} {A B : pu_A} {c : Nat} {O d : Nat → Nat} (h : pu_xb S A B c O d) (f1 : S'.1 34 3 = S.1 34 3) (f2 : ∀ i k, (i = 35 ∨ i = 36) → S'.1 i k = S.1 i k) : pu_xb S' A B c O d := ⟨h.1, f1.trans h.2.1, fun k hk => ⟨(h.2.2.1 k hk).1, (f2 _ _ (.inl rfl)).trans (h.2.2.1 k hk).2.1, (f2 _ _ (.inr rfl)).trans (h.2.2.1 k hk).2.2.1, (h.2.2.1 k hk).2.2.2⟩, fun y hy hn => (f2 _ _ (.inr rfl)).trans (h.2.2.2.1 y hy hn), h.2.2.2.2⟩
theorem X_lev {S : fy_S} {A B : pu_A} {c : Nat} {O d : Nat → Nat} (hA : pu_wA A) (hx : pu_xb S A B c O d) {e lv : Nat} (he : e ≤ c) (hlv : lv < 2 ^ 30) : pw (X6_levelBegin S (nI e) (nI lv)) (fun r => ∃ b, r = nI b ∧ b ≤ e ∧ (∀ i, b ≤ i → i < e → d i = lv) ∧ (0 < b → d (b - 1) ≠ lv)) := by
  have hc4 := hx.1
  have L : ∀ i fu, i ≤ e → i < fu → (∀ j, i ≤ j → j < e → d j = lv) → pw (X6_levelBegin_7 S fu (nI lv) (nI i) (nI i - 1)) (fun r => ∃ b, r = nI b ∧ b ≤ e ∧ (∀ i, b ≤ i → i < e → d i = lv) ∧ (0 < b → d (b - 1) ≠ lv)) := by
    intro i
    induction i with
    | zero =>
      intro fu hi hfu hj
      obtain ⟨fu, rfl⟩ : ∃ z, fu = z + 1 := ⟨fu - 1, by omega⟩
      rw [X6_levelBegin_7]
      exact pw_t (by decide) (pw_s ⟨0, rfl, hi, hj, fun h => absurd h (Nat.lt_irrefl _)⟩)
    | succ i ih =>
      intro fu hi hfu hj
      obtain ⟨fu, rfl⟩ : ∃ z, fu = z + 1 := ⟨fu - 1, by omega⟩
      have hk := hx.2.2.1 i (by omega)
      have hlt := pu_pv_lt hA hk.1
      have hdk := hk.2.2.2.1
      rw [X6_levelBegin_7, nI_pred, nI_clamp (by omega), hk.2.1, nI_clamp (by omega), hk.2.2.1]
      refine pw_f (nI_pos (by omega)) (pw_gd (fy_ix_nI (by omega) (by decide)) (pw_gd (fy_ix_nI hlt (by decide)) ?_))
      by_cases ed : d i = lv
      · refine pw_t (by rw [ed]) (pw_bl ?_)
        rw [pu_m1]
        refine ih fu (by omega) (by omega) (fun j g1 g2 => ?_)
        by_cases ej : j = i
        · rw [ej]; exact ed
        · exact hj j (by omega) g2
      · refine pw_f (fun h => ed ((nI_eq (by omega) (by omega)).mp h)) (pw_s ⟨i + 1, rfl, hi, hj, fun _ => by rw [Nat.add_sub_cancel]; exact ed⟩)
  rw [X6_levelBegin]
  exact pw_bl (L e fy_fu (Nat.le_refl _) (fz_fu (by omega)) (fun j g1 g2 => by omega))
def pu_x7 (i k : Nat) : Prop := i = 14 ∨ i = 15 ∨ i = 37
theorem pu_lq2_s {g g' : Nat → Int32} {u : List Nat} {x : Nat} {c : Int32} (h : pu_l g' c (pu_ps (pu_lq2 u) x)) : pu_l g' c (pu_lq2 (u ++ [x])) := by
  refine ⟨h.1.trans (by simp [pu_ps, pu_lq2]), fun k hk => ?_⟩
  have hk : k < (u ++ [x]).length := hk
  rw [List.length_append] at hk
  have hk : k < u.length + 1 := hk
  rw [h.2 k hk]
  congr 1
  show (if k < u.length then u.getD k 0 else x) = (u ++ [x]).getD k 0
  rw [List.getD_eq_getElem?_getD, List.getD_eq_getElem?_getD]
  by_cases e : k < u.length
  · rw [if_pos e, List.getElem?_append_left e]
  · rw [if_neg e, List.getElem?_append_right (by omega), show k - u.length = 0 by omega]; rfl
theorem X_spl {S : fy_S} {A B : pu_A} {c h : Nat} {O d : Nat → Nat} (hA : pu_wA A) (hB : pu_wA B) (hm : A.2.1 = B.2.1) (hl1 : pu_ld S 20 A) (hl2 : pu_ld S 26 B) (hx : pu_xb S A B c O d) (h37 : ∀ y, y < 4096 → S.1 37 y = 0) (h34 : S.1 34 4 = nI h) (hh : h < c) (hD : pu_df A B false (O h) = true) (hc : pu_xc A B false c h O d) : pw (X6_spell S 20 26 14) (fun S' => (∃ u, pu_bw_ A B false u ∧ u.length ≤ 127 ∧ pu_l (S'.1 15) (S'.1 14 1) (pu_lq2 u)) ∧ (∃ g, pu_lk S' O c g) ∧ fr pu_x7 S S') := by
  have hm3 : A.2.1 ≤ 3 := hA.2.2.2.1
  have hc4 := hx.1
  have hdh := (hx.2.2.1 h hh).2.2.2.1
  obtain ⟨wh, wh1, wh2, wh3⟩ := (hx.2.2.1 h hh).2.2.2.2
  have hDw : pu_df A B false (pu_rg A B (pu_pb A B) wh) = true := by rw [wh3]; exact hD
  have hmin := pu_xmin hx hc hh
  have h127 : d h ≤ 127 := by
    obtain ⟨w', g1, g2, g3⟩ := pu_127 hA hB hm wh1 hDw
    have := hmin w' g1 g2
    omega
  have mono := hx.2.2.2.2.2
  have mv1 : ∀ S', fr pu_x7 S S' → pu_ld S' 20 A := fun S' f => pu_ld_c hl1 (fun i k h => f i k (by unfold pu_x7; omega))
  have mv2 : ∀ S', fr pu_x7 S S' → pu_ld S' 26 B := fun S' f => pu_ld_c hl2 (fun i k h => f i k (by unfold pu_x7; omega))
  have mvx : ∀ S', fr pu_x7 S S' → pu_xb S' A B c O d := fun S' f => pu_xb_c hx (f _ _ (by unfold pu_x7; omega)).1 (fun i k h => (f _ _ (by unfold pu_x7; omega)).1)
  have hex : ∀ i, i < c → ∃ w, pu_wv A.2.1 w ∧ w.length = d i ∧ pu_rg A B (pu_pb A B) w = O i := fun i hi => (hx.2.2.1 i hi).2.2.2.2
  -- a word that can be completed ends at a pair of its level
  have lvl : ∀ w2 u2, pu_wv A.2.1 w2 → pu_wv A.2.1 u2 → u2.length + w2.length = d h → pu_df A B false (pu_rg A B (pu_rg A B (pu_pb A B) w2) u2) = true → ∃ i, i < c ∧ O i = pu_rg A B (pu_pb A B) w2 ∧ d i = w2.length := by
    intro w2 u2 hv2 hu2 hlen hdf
    obtain ⟨i, hi, ei, di⟩ := pu_xcov hx hc (by omega) (by omega) w2 hv2 (fun _ => by omega)
    obtain ⟨wi, g1, g2, g3⟩ := hex i hi
    have := hmin (u2 ++ wi) (fun y hy => (List.mem_append.mp hy).elim (hu2 y) (g1 y)) (by rw [pu_rg_apps, g3, ei]; exact hdf)
    rw [List.length_append] at this
    exact ⟨i, hi, ei, by omega⟩
  -- one letter marks the pairs of a level
  have mark : ∀ (lv x b e : Nat) (u : List Nat) (S1 : fy_S) (g : Nat → Bool), lv + 1 + u.length = d h → x < A.2.1 → pu_wv A.2.1 u → b ≤ e → e ≤ c → (∀ i, b ≤ i → i < e → d i = lv) → fr pu_x7 S S1 → pu_lk S1 O c g → (∀ i, i < c → d i = lv + 1 → g i = pu_df A B false (pu_rg A B (O i) u)) → (∀ i, b ≤ i → i < e → g i = false) → pw (X6_markLeading S1 20 26 (nI x) (nI b) (nI e)) (fun R => fr (fun i k => i = 37) S1 R.1 ∧ pu_lk R.1 O c (fun i => if b ≤ i ∧ i < e then pu_df A B false (pu_rg A B (pu_p2 A B (O i) x) u) else g i) ∧ ((R.2 = 0 ∧ ∀ i, b ≤ i → i < e → pu_df A B false (pu_rg A B (pu_p2 A B (O i) x) u) = false) ∨ (R.2 = 1 ∧ ∃ i, b ≤ i ∧ i < e ∧ pu_df A B false (pu_rg A B (pu_p2 A B (O i) x) u) = true))) := by
    intro lv x b e u S1 g hlv hxm hu hbe hec hdl hf1 hlk hgl hgb
    have cond : ∀ i, b ≤ i → i < e → ∀ (S' : fy_S) (g' : Nat → Bool), fr (fun i k => i = 37) S1 S' → pu_lk S' O c g' → (∀ j, j < c → d j = lv + 1 → g' j = g j) → (pu_df A B false (pu_rg A B (pu_p2 A B (O i) x) u) = true ↔ (¬ S'.1 37 (pu_p2 A B (O i) x) = 0 ∧ S'.1 36 (pu_p2 A B (O i) x) = nI (lv + 1))) := by
      intro i hbi hie S' g' hf' hlk' hg'
      have hi : i < c := by omega
      have hnx := pu_pv_s hA hB (O i) x
      have hnlt := pu_pv_lt hA hnx
      have e36 : ∀ y, S'.1 36 y = S.1 36 y := fun y => by rw [(hf' _ _ (by omega)).1, (hf1 _ _ (by unfold pu_x7; omega)).1]
      constructor
      · intro hdf
        obtain ⟨wi, g1, g2, g3⟩ := hex i hi
        obtain ⟨j, hj, ej, dj⟩ := lvl (x :: wi) u (fun y hy => (List.mem_cons.mp hy).elim (fun e => by rw [e]; exact hxm) (g1 y)) hu (by rw [List.length_cons, g2, hdl i hbi hie]; omega) (by rw [pu_rg, g3]; exact hdf)
        rw [pu_rg, g3] at ej
        rw [List.length_cons, g2, hdl i hbi hie] at dj
        rw [e36, ← ej, (hx.2.2.1 j hj).2.2.1, dj, hlk'.1 j hj, hg' j hj dj, hgl j hj dj, ej, hdf]
        exact ⟨by decide, rfl⟩
      · rintro ⟨h1, h2⟩
        by_cases hin : ∃ j, j < c ∧ O j = pu_p2 A B (O i) x
        · obtain ⟨j, hj, ej⟩ := hin
          have hdj := (hx.2.2.1 j hj).2.2.2.1
          rw [e36, ← ej, (hx.2.2.1 j hj).2.2.1] at h2
          have dj : d j = lv + 1 := (nI_eq (by omega) (by omega)).mp h2
          rw [← ej, hlk'.1 j hj, hg' j hj dj, hgl j hj dj] at h1
          rw [← ej]
          cases hb : pu_df A B false (pu_rg A B (O j) u)
          · rw [hb] at h1; exact absurd rfl h1
          · rfl
        · exact absurd (hlk'.2 _ hnlt (fun j hj ej => hin ⟨j, hj, ej⟩)) h1
    have L : ∀ n i fu S' any, i + n = e → n < fu → b ≤ i → fr (fun i k => i = 37) S1 S' → pu_lk S' O c (fun j => if b ≤ j ∧ j < i then pu_df A B false (pu_rg A B (pu_p2 A B (O j) x) u) else g j) → ((any = 0 ∧ ∀ j, b ≤ j → j < i → pu_df A B false (pu_rg A B (pu_p2 A B (O j) x) u) = false) ∨ (any = 1 ∧ ∃ j, b ≤ j ∧ j < i ∧ pu_df A B false (pu_rg A B (pu_p2 A B (O j) x) u) = true)) → pw (X6_markLeading_7 fu S' 20 26 (nI x) (nI e) any (nI i)) (fun R => fr (fun i k => i = 37) S1 R.1 ∧ pu_lk R.1 O c (fun i => if b ≤ i ∧ i < e then pu_df A B false (pu_rg A B (pu_p2 A B (O i) x) u) else g i) ∧ ((R.2 = 0 ∧ ∀ i, b ≤ i → i < e → pu_df A B false (pu_rg A B (pu_p2 A B (O i) x) u) = false) ∨ (R.2 = 1 ∧ ∃ i, b ≤ i ∧ i < e ∧ pu_df A B false (pu_rg A B (pu_p2 A B (O i) x) u) = true))) := by
      intro n
      induction n with
      | zero =>
        intro i fu S' any hi hfu hbi hf' hlk' hany
        obtain ⟨fu, rfl⟩ : ∃ z, fu = z + 1 := ⟨fu - 1, by omega⟩
        have : i = e := by omega
        subst this
        rw [X6_markLeading_7]
        refine pw_t (nI_le (Nat.le_refl _) (by omega)) (pw_gd ?_ (pw_s ⟨hf', hlk', hany⟩))
        rcases hany with ⟨h, _⟩ | ⟨h, _⟩ <;> rw [h] <;> decide
      | succ n ih =>
        intro i fu S' any hi hfu hbi hf' hlk' hany
        obtain ⟨fu, rfl⟩ : ∃ z, fu = z + 1 := ⟨fu - 1, by omega⟩
        have hie : i < e := by omega
        have hic : i < c := by omega
        have hf7 : fr pu_x7 S S' := fr_t hf1 (fr_m hf' (fun i k h => by unfold pu_x7; omega))
        have hx' := mvx S' hf7
        have hk := hx'.2.2.1 i hic
        have hlt := pu_pv_lt hA hk.1
        have hnlt := pu_pv_lt hA (pu_pv_s hA hB (O i) x)
        have cd := cond i hbi hie S' _ hf' hlk' (fun j hj dj => by
          have : ¬ (b ≤ j ∧ j < i) := fun hh => by
            have := hdl j hh.1 (by omega)
            omega
          simp only [if_neg this])
        have e36 : S'.1 36 (O i) = nI lv := by rw [hk.2.2.1, hdl i hbi hie]
        have nog : (fun j => if b ≤ j ∧ j < i + 1 then pu_df A B false (pu_rg A B (pu_p2 A B (O j) x) u) else g j) = fun j => if j = i then pu_df A B false (pu_rg A B (pu_p2 A B (O i) x) u) else if b ≤ j ∧ j < i then pu_df A B false (pu_rg A B (pu_p2 A B (O j) x) u) else g j := by
          funext j
          by_cases ej : j = i
          · subst ej; rw [if_pos ⟨hbi, by omega⟩, if_pos rfl]
          · rw [if_neg ej]
            by_cases hj : b ≤ j ∧ j < i
            · rw [if_pos hj, if_pos ⟨hj.1, by omega⟩]
            · rw [if_neg hj, if_neg (by omega)]
        -- nothing is marked
        have skip : pu_df A B false (pu_rg A B (pu_p2 A B (O i) x) u) = false → pw (X6_markLeading_7 fu S' 20 26 (nI x) (nI e) any (nI (i + 1))) (fun R => fr (fun i k => i = 37) S1 R.1 ∧ pu_lk R.1 O c (fun i => if b ≤ i ∧ i < e then pu_df A B false (pu_rg A B (pu_p2 A B (O i) x) u) else g i) ∧ ((R.2 = 0 ∧ ∀ i, b ≤ i → i < e → pu_df A B false (pu_rg A B (pu_p2 A B (O i) x) u) = false) ∨ (R.2 = 1 ∧ ∃ i, b ≤ i ∧ i < e ∧ pu_df A B false (pu_rg A B (pu_p2 A B (O i) x) u) = true))) := by
          intro hno
          refine ih (i + 1) fu S' any (by omega) (by omega) (by omega) hf' ?_ ?_
          · rw [nog]
            refine ⟨fun j hj => ?_, hlk'.2⟩
            by_cases ej : j = i
            · subst ej
              have := hlk'.1 j hj
              dsimp only at this
              rw [if_neg (show ¬ (b ≤ j ∧ j < j) by omega), hgb j hbi hie] at this
              dsimp only
              rw [if_pos rfl, hno]
              exact this
            · dsimp only
              rw [if_neg ej]; exact hlk'.1 j hj
          · rcases hany with ⟨h1, h2⟩ | ⟨h1, j, g1, g2, g3⟩
            · refine .inl ⟨h1, fun j g1 g2 => ?_⟩
              by_cases ej : j = i
              · subst ej; exact hno
              · exact h2 j g1 (by omega)
            · exact .inr ⟨h1, j, g1, by omega, g3⟩
        rw [X6_markLeading_7, hx'.2.1, nI_clamp (by omega), hk.2.1, nI_1 i]
        refine pw_f (nI_ge hie (by omega)) (pw_f (nI_ge hic (by omega)) (pw_gd (fy_ix_nI (by omega) (by decide)) (pw_bl (pw_be (X_sp2 hA hB hm (mv1 S' hf7) (mv2 S' hf7) hk.1 hxm) (pw_gd (fy_ix_nI hnlt (by decide)) ?_)))))
        rw [nI_clamp (by omega), nI_clamp (by omega), e36, nI_1 lv]
        refine pw_if (fun h0 => pw_bl (skip ?_)) (fun h0 => pw_gd (fy_ix_nI hnlt (by decide)) (pw_gd (fy_ix_nI hlt (by decide)) (pw_if (fun h1 => pw_gd (fy_ix_nI hlt (by decide)) (pw_bl (pw_bl ?_))) (fun h1 => pw_bl (skip ?_)))))
        · cases hb : pu_df A B false (pu_rg A B (pu_p2 A B (O i) x) u)
          · rfl
          · exact absurd h0 (cd.mp hb).1
        · have hyes := cd.mpr ⟨h0, h1⟩
          rw [show vp_nar .boolean (1 : Int32) = 1 from by decide]
          have up := pu_lk_u (i := i) true hA hx' hlk' hic
          refine ih (i + 1) fu _ 1 (by omega) (by omega) (by omega) (fr_I hf' rfl) ?_ (.inr ⟨rfl, i, hbi, by omega, hyes⟩)
          rw [nog, hyes]
          exact up
        · cases hb : pu_df A B false (pu_rg A B (pu_p2 A B (O i) x) u)
          · rfl
          · exact absurd (cd.mp hb).2 h1
    rw [X6_markLeading]
    refine L (e - b) b fy_fu S1 0 (by omega) (fz_fu (by omega)) (Nat.le_refl _) fr_r ?_ (.inl ⟨rfl, fun j g1 g2 => by omega⟩)
    refine ⟨fun j hj => ?_, hlk.2⟩
    dsimp only
    rw [if_neg (show ¬ (b ≤ j ∧ j < b) by omega)]; exact hlk.1 j hj
  -- the levels
  have V : ∀ k fu S' e u (g : Nat → Bool), k + u.length = d h → k < fu → e ≤ c → (∀ i, i < e → d i < k) → (∀ i, e ≤ i → i < c → k ≤ d i) → fr pu_x7 S S' → pu_lk S' O c g → (∀ i, i < c → d i = k → g i = pu_df A B false (pu_rg A B (O i) u)) → (∀ i, i < c → d i < k → g i = false) → pu_l (S'.1 15) (S'.1 14 1) (pu_lq2 u) → pu_wv A.2.1 u → (∃ v, pu_wv A.2.1 v ∧ v.length = k ∧ pu_df A B false (pu_rg A B (pu_pb A B) (u ++ v)) = true) → (∀ w1 w2, pu_wv A.2.1 (w1 ++ w2) → w1.length = u.length → w2.length = k → pu_df A B false (pu_rg A B (pu_pb A B) (w1 ++ w2)) = true → pu_ll u w1) → pw (X6_spell_101 fu S' 20 26 14 (nI e) (nI k - 1)) (fun S' => (∃ u, pu_bw_ A B false u ∧ u.length ≤ 127 ∧ pu_l (S'.1 15) (S'.1 14 1) (pu_lq2 u)) ∧ (∃ g, pu_lk S' O c g) ∧ fr pu_x7 S S') := by
    intro k
    induction k with
    | zero =>
      intro fu S' e u g hk hfu hec hlo hhi hf hlk hg1 hg0 hu hwu hal hbe
      obtain ⟨fu, rfl⟩ : ∃ z, fu = z + 1 := ⟨fu - 1, by omega⟩
      rw [X6_spell_101]
      refine pw_t (by decide) (pw_s ⟨⟨u, ⟨hwu, ?_, fun w' hv' hd' => ?_⟩, by omega, hu⟩, ⟨g, hlk⟩, hf⟩)
      · obtain ⟨v, _, hv2, hv3⟩ := hal
        have : v = [] := List.length_eq_zero_iff.mp hv2
        rw [this, List.append_nil] at hv3
        exact hv3
      · have := hmin w' hv' hd'
        by_cases e1 : u.length < w'.length
        · exact .inl e1
        · exact .inr ⟨by omega, hbe w' [] (by rw [List.append_nil]; exact hv') (by omega) rfl (by rw [List.append_nil]; exact hd')⟩
    | succ k ih =>
      intro fu S' e u g hk hfu hec hlo hhi hf hlk hg1 hg0 hu hwu hal hbe
      obtain ⟨fu, rfl⟩ : ∃ z, fu = z + 1 := ⟨fu - 1, by omega⟩
      have hx' := mvx S' hf
      rw [X6_spell_101, nI_pred]
      refine pw_f (nI_pos (by omega)) (pw_bd (X_lev hA hx' hec (by omega)) (fun rb hb => ?_))
      obtain ⟨b, rfl, hbe', hbl, hb0⟩ := hb
      have hblo : ∀ i, i < b → d i < k := by
        intro i hi
        have h1 := hlo (b - 1) (by omega)
        have h2 := hb0 (by omega)
        have h3 := mono i (b - 1) (by omega) (by omega)
        omega
      have hbhi : ∀ i, b ≤ i → i < c → k ≤ d i := by
        intro i g1 g2
        by_cases hie : i < e
        · rw [hbl i g1 hie]; exact Nat.le_refl _
        · have := hhi i (by omega) g2
          omega
      have hlev : ∀ i, i < c → d i = k → b ≤ i ∧ i < e := by
        intro i hi di
        refine ⟨Classical.byContradiction (fun hn => by have := hblo i (by omega); omega), Classical.byContradiction (fun hn => by have := hhi i (by omega) hi; omega)⟩
      -- the letters
      have X : ∀ n x fu' S', x + n = A.2.1 → n < fu' → fr pu_x7 S S' → pu_lk S' O c g → pu_l (S'.1 15) (S'.1 14 1) (pu_lq2 u) → (∀ y, y < x → ∀ i, b ≤ i → i < e → pu_df A B false (pu_rg A B (pu_p2 A B (O i) y) u) = false) → pw (X6_spell_122 (fun S v1 v2 v3 v5 v6 => X6_spell_101 fu S v1 v2 v3 v5 v6) fu' S' 20 26 14 (nI e) (nI k) (nI b) (0 : Int32) (nI x)) (fun S' => (∃ u, pu_bw_ A B false u ∧ u.length ≤ 127 ∧ pu_l (S'.1 15) (S'.1 14 1) (pu_lq2 u)) ∧ (∃ g, pu_lk S' O c g) ∧ fr pu_x7 S S') := by
        intro n
        induction n with
        | zero =>
          intro x fu' S' hxn hfu' hf hlk hu hno
          exfalso
          obtain ⟨v, hv1, hv2, hv3⟩ := hal
          cases v with
          | nil => cases hv2
          | cons y v =>
            have hv2 : v.length = k := by simpa using hv2
            have hym : y < A.2.1 := hv1 y (by simp)
            rw [pu_rg_apps, pu_rg] at hv3
            obtain ⟨i, hi, ei, di⟩ := lvl v (u ++ [y]) (fun z hz => hv1 z (by simp [hz])) (fun z hz => (List.mem_append.mp hz).elim (hwu z) (fun e => by simp at e; rw [e]; exact hym)) (by simp; omega) (by rw [pu_rg_app]; exact hv3)
            have hbi := hlev i hi (by omega)
            have := hno y (by omega) i hbi.1 hbi.2
            rw [ei, hv3] at this
            cases this
        | succ n ih2 =>
          intro x fu' S' hxn hfu' hf hlk hu hno
          obtain ⟨fu', rfl⟩ : ∃ z, fu' = z + 1 := ⟨fu' - 1, by omega⟩
          have hxm : x < A.2.1 := by omega
          rw [X6_spell_122, (mv1 S' hf).1, nI_1 x]
          refine pw_f (nI_ge hxm (by omega)) (pw_t rfl (pw_bp (mark k x b e u S' g (by omega) hxm hwu hbe' hec hbl hf hlk hg1 (fun i g1 g2 => hg0 i (by omega) (by rw [hbl i g1 g2]; omega))) (fun S1 r1 h1 => ?_)))
          obtain ⟨f1, lk1, hr⟩ := h1
          have f7 : fr pu_x7 S S1 := fr_t hf (fr_m f1 (fun i k h => by unfold pu_x7; omega))
          have hu1 : pu_l (S1.1 15) (S1.1 14 1) (pu_lq2 u) := pu_l_c hu (f1 _ _ (by omega)).1 (fun k _ => (f1 _ _ (by omega)).1)
          rcases hr with ⟨h0, hnone⟩ | ⟨h1, i1, g1, g2, g3⟩
          · dsimp only at h0
            subst h0
            refine pw_t rfl (pw_bl (ih2 (x + 1) fu' S1 (by omega) (by omega) f7 ⟨fun j hj => ?_, lk1.2⟩ hu1 (fun y hy i hb1 hb2 => ?_)))
            · have := lk1.1 j hj
              dsimp only at this
              by_cases hj' : b ≤ j ∧ j < e
              · rw [if_pos hj', hnone j hj'.1 hj'.2] at this
                rw [hg0 j hj (by rw [hbl j hj'.1 hj'.2]; omega)]
                exact this
              · rw [if_neg hj'] at this
                exact this
            · by_cases ey : y = x
              · rw [ey]; exact hnone i hb1 hb2
              · exact hno y (by omega) i hb1 hb2
          · dsimp only at h1
            subst h1
            refine pw_f (by decide) (pw_bd (X_word_add (S := S1) (id := 14) (x := x) (N := 128) (by decide) hu1 (by show u.length < 128; omega) (by decide) (by omega)) (fun S2 s2 => pw_bl ?_))
            obtain ⟨w1, w2, w3⟩ := s2
            have f8 : fr pu_x7 S S2 := fr_t f7 (fr_m w3 (fun i k h => by unfold pu_x7; omega))
            have e37 : ∀ y, S2.1 37 y = S1.1 37 y := fun y => (w3 _ _ (by omega)).1
            have lk2 : pu_lk S2 O c (fun i => if b ≤ i ∧ i < e then pu_df A B false (pu_rg A B (pu_p2 A B (O i) x) u) else g i) := ⟨fun j hj => by rw [e37]; exact lk1.1 j hj, fun y hy hn => by rw [e37]; exact lk1.2 y hy hn⟩
            have go : pw (X6_spell_101 fu S2 20 26 14 (nI b) (nI k + -1)) (fun S' => (∃ u, pu_bw_ A B false u ∧ u.length ≤ 127 ∧ pu_l (S'.1 15) (S'.1 14 1) (pu_lq2 u)) ∧ (∃ g, pu_lk S' O c g) ∧ fr pu_x7 S S') := by
              rw [pu_m1]
              refine ih fu S2 b (u ++ [x]) _ (by simp; omega) (by omega) (by omega) hblo hbhi f8 lk2 (fun i hi di => ?_) (fun i hi di => ?_) (pu_lq2_s (g := S1.1 15) w1) (fun z hz => (List.mem_append.mp hz).elim (hwu z) (fun e => by simp at e; rw [e]; exact hxm)) ?_ (fun w1' w2' hv12 hl1 hl2 hdf => ?_)
              · have := hlev i hi di
                simp only [if_pos this]
                rw [pu_rg_app]
              · have : ¬ (b ≤ i ∧ i < e) := fun hh => by have := hbhi i hh.1 hi; omega
                simp only [if_neg this]
                exact hg0 i hi (by omega)
              · obtain ⟨wi, gi1, gi2, gi3⟩ := hex i1 (by omega)
                refine ⟨wi, gi1, by rw [gi2, hbl i1 g1 g2], ?_⟩
                rw [pu_rg_apps, gi3, pu_rg_app]; exact g3
              · -- the least letter
                have hne : w1' ≠ [] := fun e => by rw [e] at hl1; simp at hl1
                have ew := List.dropLast_concat_getLast hne
                have hl1' : w1'.length = u.length + 1 := by simpa using hl1
                generalize hw0 : w1'.dropLast = w0 at ew
                generalize hy0 : w1'.getLast hne = y at ew
                have hl0 : w0.length = u.length := by rw [← hw0, List.length_dropLast]; omega
                rw [← ew] at hv12 hdf ⊢
                have hv12' : pu_wv A.2.1 (w0 ++ (y :: w2')) := fun z hz => hv12 z (by simpa using hz)
                have hdf' : pu_df A B false (pu_rg A B (pu_pb A B) (w0 ++ (y :: w2'))) = true := by
                  rw [List.append_assoc] at hdf; exact hdf
                refine pu_ll_app (hbe w0 (y :: w2') hv12' hl0 (by simp; omega) hdf') (fun eu => ?_)
                refine Classical.byContradiction (fun hn => ?_)
                rw [← eu, pu_rg_apps, pu_rg] at hdf'
                have hym : y < A.2.1 := hv12' y (by simp)
                obtain ⟨i, hi, ei, di⟩ := lvl w2' (u ++ [y]) (fun z hz => hv12' z (by simp [hz])) (fun z hz => (List.mem_append.mp hz).elim (hwu z) (fun e => by simp at e; rw [e]; exact hym)) (by simp; omega) (by rw [pu_rg_app]; exact hdf')
                have hbi := hlev i hi (by omega)
                have := hno y (by omega) i hbi.1 hbi.2
                rw [ei, hdf'] at this
                cases this
            -- the rest of the letters is passed over
            cases n with
            | zero =>
              have hx1 : x + 1 = A.2.1 := by omega
              obtain ⟨fu'', rfl⟩ : ∃ z, fu' = z + 1 := ⟨fu' - 1, by omega⟩
              rw [X6_spell_122, (mv1 S2 f8).1, hx1]
              exact pw_t (nI_le (Nat.le_refl _) (by omega)) (pw_bl go)
            | succ n =>
              obtain ⟨fu'', rfl⟩ : ∃ z, fu' = z + 1 := ⟨fu' - 1, by omega⟩
              rw [X6_spell_122, (mv1 S2 f8).1]
              exact pw_f (nI_ge (by omega) (by omega)) (pw_f (by decide) (pw_bl go))
      exact X A.2.1 0 fy_fu S' (by omega) (fz_fu (by omega)) hf hlk hu (fun y hy => absurd hy (Nat.not_lt_zero y))
  -- the pairs at the end
  have I : ∀ n i fu S' (g : Nat → Bool), i + n = c → n < fu → h ≤ i → (∀ j, h ≤ j → j < i → d j = d h) → fr pu_x7 S S' → pu_l (S'.1 15) (S'.1 14 1) (pu_lq2 []) → pu_lk S' O c g → (∀ j, j < c → g j = if h ≤ j ∧ j < i then pu_df A B false (O j) else false) → pw (X6_spell_27 fu S' 20 26 14 (nI (d h)) (nI i)) (fun S' => (∃ u, pu_bw_ A B false u ∧ u.length ≤ 127 ∧ pu_l (S'.1 15) (S'.1 14 1) (pu_lq2 u)) ∧ (∃ g, pu_lk S' O c g) ∧ fr pu_x7 S S') := by
    have fin : ∀ i S' (g : Nat → Bool), i ≤ c → h ≤ i → (∀ j, h ≤ j → j < i → d j = d h) → (i < c → d i ≠ d h) → fr pu_x7 S S' → pu_l (S'.1 15) (S'.1 14 1) (pu_lq2 []) → pu_lk S' O c g → (∀ j, j < c → g j = if h ≤ j ∧ j < i then pu_df A B false (O j) else false) → pw (X6_spell_83 S' 20 26 14 (nI (d h))) (fun S' => (∃ u, pu_bw_ A B false u ∧ u.length ≤ 127 ∧ pu_l (S'.1 15) (S'.1 14 1) (pu_lq2 u)) ∧ (∃ g, pu_lk S' O c g) ∧ fr pu_x7 S S') := by
      intro i S' g hic hhi hsame hnext hf hu hlk hg
      have e34 : S'.1 34 4 = nI h := by rw [(hf _ _ (by unfold pu_x7; omega)).1]; exact h34
      rw [X6_spell_83, e34]
      refine pw_bd (X_lev hA (mvx S' hf) (show h ≤ c by omega) (by omega)) (fun rb hb => pw_bl ?_)
      obtain ⟨b, rfl, hbe', hbl, hb0⟩ := hb
      have hblo : ∀ j, j < b → d j < d h := by
        intro j hj
        have h1 := mono (b - 1) h (by omega) hh
        have h2 := hb0 (by omega)
        have h3 := mono j (b - 1) (by omega) (by omega)
        omega
      refine V (d h) fy_fu S' b [] g (by simp) (fz_fu (by omega)) (by omega) hblo (fun j g1 g2 => ?_) hf hlk (fun j hj dj => ?_) (fun j hj dj => ?_) hu (fun z hz => (by cases hz)) ⟨wh, wh1, wh2, hDw⟩ (fun w1 w2 _ hl1 _ _ => ?_)
      · by_cases e : j < h
        · rw [hbl j g1 e]; exact Nat.le_refl _
        · exact mono h j (by omega) g2
      · rw [hg j hj]
        show _ = pu_df A B false (O j)
        by_cases e : h ≤ j ∧ j < i
        · rw [if_pos e]
        · rw [if_neg e]
          by_cases e2 : j < h
          · exact (hc.2.2.1 j e2).symm
          · -- beyond the level
            exfalso
            have hij : i ≤ j := by omega
            have h1 := hnext (by omega)
            have h2 := mono h i hhi (by omega)
            have h3 := mono i j hij hj
            omega
      · rw [hg j hj]
        have : ¬ (h ≤ j ∧ j < i) := fun hh => by have := hsame j hh.1 hh.2; omega
        rw [if_neg this]
      · have : w1 = [] := List.length_eq_zero_iff.mp hl1
        rw [this]; trivial
    intro n
    induction n with
    | zero =>
      intro i fu S' g hi hfu hhi hsame hf hu hlk hg
      obtain ⟨fu, rfl⟩ : ∃ z, fu = z + 1 := ⟨fu - 1, by omega⟩
      have : i = c := by omega
      subst this
      rw [X6_spell_27, (mvx S' hf).2.1]
      exact pw_t (nI_le (Nat.le_refl _) (by omega)) (fin i S' g (Nat.le_refl _) hhi hsame (fun h => absurd h (Nat.lt_irrefl _)) hf hu hlk hg)
    | succ n ih =>
      intro i fu S' g hi hfu hhi hsame hf hu hlk hg
      obtain ⟨fu, rfl⟩ : ∃ z, fu = z + 1 := ⟨fu - 1, by omega⟩
      have hic : i < c := by omega
      have hx' := mvx S' hf
      have hk := hx'.2.2.1 i hic
      have hlt := pu_pv_lt hA hk.1
      have hdi := hk.2.2.2.1
      rw [X6_spell_27, hx'.2.1, nI_clamp (by omega), hk.2.1, nI_clamp (by omega), hk.2.2.1, nI_1]
      refine pw_f (nI_ge hic (by omega)) (pw_gd (fy_ix_nI (by omega) (by decide)) (pw_gd (fy_ix_nI hlt (by decide)) ?_))
      by_cases ed : d i = d h
      · refine pw_t (by rw [ed]) (pw_gd (fy_ix_nI (by omega) (by decide)) (pw_gd (fy_ix_nI (by omega) (by decide)) (pw_be (X_dif (mv1 S' hf) (mv2 S' hf) hlt) (pw_gd (fy_ix_nI hlt (by decide)) (pw_bl (pw_bl ?_))))))
        have evp : vp_nar .boolean (if pu_df A B false (O i) then (1 : Int32) else 0) = pu_bi (pu_df A B false (O i)) := by cases pu_df A B false (O i) <;> decide
        rw [evp]
        refine ih (i + 1) fu _ (fun k => if k = i then pu_df A B false (O i) else g k) (by omega) (by omega) (by omega) (fun j g1 g2 => ?_) (fr_I hf (by unfold pu_x7; omega)) (pu_l_c hu (rd_n (by omega)) (fun k _ => rd_n (by omega))) (pu_lk_u (i := i) _ hA hx' hlk hic) (fun j hj => ?_)
        · by_cases ej : j = i
          · rw [ej]; exact ed
          · exact hsame j g1 (by omega)
        · by_cases ej : j = i
          · subst ej
            show (if j = j then pu_df A B false (O j) else g j) = _
            rw [if_pos rfl, if_pos ⟨hhi, by omega⟩]
          · show (if j = i then pu_df A B false (O i) else g j) = _
            rw [if_neg ej, hg j hj]
            by_cases hj' : h ≤ j ∧ j < i
            · rw [if_pos hj', if_pos ⟨hj'.1, by omega⟩]
            · rw [if_neg hj', if_neg (by omega)]
      · exact pw_f (fun e => ed ((nI_eq (by omega) (by omega)).mp e)) (fin i S' g (by omega) hhi hsame (fun _ => ed) hf hu hlk hg)
  have hk := hx.2.2.1 h hh
  have hlt := pu_pv_lt hA hk.1
  rw [X6_spell]
  refine pw_bl ?_
  rw [rd_n (by omega), h34, nI_clamp (by omega), rd_n (by omega), hk.2.1, nI_clamp (by omega), rd_n (by omega), hk.2.2.1]
  refine pw_gd (fy_ix_nI (by omega) (by decide)) (pw_gd (fy_ix_nI hlt (by decide)) (pw_bl (pw_bl ?_)))
  refine I (c - h) h fy_fu _ (fun _ => false) (by omega) (fz_fu (by omega)) (Nat.le_refl _) (fun j g1 g2 => by omega) (fr_I fr_r (by unfold pu_x7; omega)) ⟨rd_y, fun k hk => absurd hk (Nat.not_lt_zero k)⟩ ⟨fun i hi => ?_, fun y hy _ => ?_⟩ (fun j hj => by rw [if_neg (by omega)])
  · rw [rd_n (by omega)]; exact h37 _ (pu_pv_lt hA (hx.2.2.1 i hi).1)
  · rw [rd_n (by omega)]; exact h37 y hy
