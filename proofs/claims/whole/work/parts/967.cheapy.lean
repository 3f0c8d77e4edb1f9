/-! the class spells the cheapest word -/
theorem pu_pm_all {A : pu_A} {P : Nat → Nat} (hA : pu_wA A) (hm : pu_pm_ A P) : ∀ w, pu_wv A.2.1 w → P (pu_rs A w) ≤ pu_pri A w := by
  intro w hv
  obtain ⟨w', g1, g2, g3, g4⟩ := pu_sho4 hA hv
  have := hm w' g1 (by omega)
  rw [g2] at this
  rcases g4 with g4 | g4
  · rw [g4] at this; exact this
  · unfold pu_pri at this ⊢
    omega
theorem X_scp {S : fy_S} {a b : Nat} {A : pu_A} {P : Nat → Nat} (ha : a < 7) (hA : pu_wA A) (hX : pu_XA S (38 + 41 * a) A) (hl : pu_ld S 20 A) (hpf : pu_pf S P) (hps : pu_ps_ A P) (hpm : pu_pm_ A P) (h32 : S.1 32 1 = nI b) (hb : b < 1000000000) (hle : ∀ s, s < 64 → pu_acc A s = true → b ≤ P s) (hex : ∃ s, s < 64 ∧ pu_acc A s = true ∧ P s = b) : pw (X1_spell S 20 (38 + 41 * a + 1) 14) (fun S' => (∃ u, pu_cbe A u ∧ u.length ≤ 63 ∧ pu_l (S'.1 15) (S'.1 14 1) (pu_lq2 u)) ∧ fr (fun i k => i = 14 ∨ i = 15) S S') := by
  have hm3 : A.2.1 ≤ 3 := hA.2.2.2.1
  have F1 := pu_pm_all hA hpm
  have F2 : ∀ w, pu_wv A.2.1 w → pu_acc A (pu_rs A w) = true → b ≤ pu_pri A w := fun w hv hac => Nat.le_trans (hle _ (pu_rs_lt hA w).2 hac) (F1 w hv)
  have F3 : ∀ w, pu_wv A.2.1 w → pu_acc A (pu_rs A w) = true → pu_pri A w = b → w.length ≤ 63 := by
    intro w hv hac hp
    obtain ⟨w', g1, g2, g3, g4⟩ := pu_sho4 hA hv
    rcases g4 with g4 | g4
    · rw [← g4]; exact g3
    · have := F2 w' g1 (by rw [g2]; exact hac)
      unfold pu_pri at this hp
      omega
  have hpri_app : ∀ u v, pu_pri A (u ++ v) = pu_pri A u + pu_pri A v := fun u v => by
    unfold pu_pri
    rw [pu_co_app, List.length_append]
    omega
  have hrs_app : ∀ u v, pu_rs A (u ++ v) = pu_r1 A (pu_rs A v) u := fun u v => pu_r1_app u
  have wv_app : ∀ {u v}, pu_wv A.2.1 u → pu_wv A.2.1 v → pu_wv A.2.1 (u ++ v) := fun h1 h2 y hy => (List.mem_append.mp hy).elim (h1 y) (h2 y)
  have mvX : ∀ S', fr (fun i k => i = 14 ∨ i = 15) S S' → pu_XA S' (38 + 41 * a) A := fun S' f => pu_XA_c hX (fun i k g1 g2 => f i k (by omega))
  have mvl : ∀ S', fr (fun i k => i = 14 ∨ i = 15) S S' → pu_ld S' 20 A := fun S' f => pu_ld_c hl (fun i k h => f i k (by omega))
  have mvp : ∀ S', fr (fun i k => i = 14 ∨ i = 15) S S' → pu_pf S' P := fun S' f s hs => by rw [(f _ _ (by omega)).1]; exact hpf s hs
  -- where a word that can be completed stands
  have at_ : ∀ u v, pu_wv A.2.1 u → pu_wv A.2.1 v → pu_acc A (pu_rs A (u ++ v)) = true → pu_pri A u + pu_pri A v = b → P (pu_rs A v) = pu_pri A v := by
    intro u v hu hv hac hp
    have h1 := F1 v hv
    refine Classical.byContradiction (fun hne => ?_)
    obtain ⟨v', g1, g2, g3⟩ := hps (pu_rs A v) (pu_rs_lt hA v).2 (by omega)
    have := F2 (u ++ v') (wv_app hu g1) (by rw [hrs_app, g2, ← hrs_app]; exact hac)
    rw [hpri_app] at this
    omega
  have V : ∀ g fu S' u k ends, u.length + g = 64 → g < fu → fr (fun i k => i = 14 ∨ i = 15) S S' → pu_l (S'.1 15) (S'.1 14 1) (pu_lq2 u) → pu_wv A.2.1 u → pu_pri A u + k = b → (∀ s, s < 64 → (lb ends s = true ↔ P s = k ∧ pu_acc A (pu_r1 A s u) = true)) → (∃ s, s < 64 ∧ P s = k ∧ pu_acc A (pu_r1 A s u) = true) → (∀ w1 w2, pu_wv A.2.1 (w1 ++ w2) → pu_acc A (pu_rs A (w1 ++ w2)) = true → pu_pri A (w1 ++ w2) = b → w1.length = u.length → pu_ll u w1) → pw (X1_spell_65 fu S' 20 (38 + 41 * a + 1) 14 ends (nI k) (nI u.length)) (fun S' => (∃ u, pu_cbe A u ∧ u.length ≤ 63 ∧ pu_l (S'.1 15) (S'.1 14 1) (pu_lq2 u)) ∧ fr (fun i k => i = 14 ∨ i = 15) S S') := by
    intro g
    induction g with
    | zero =>
      intro fu S' u k ends hg hfu hf hu hwu hk hends hal hbe
      exfalso
      obtain ⟨s, hs, hPs, hac⟩ := hal
      obtain ⟨v, v1, v2, v3⟩ := hps s hs (by omega)
      have := F3 (u ++ v) (wv_app hwu v1) (by rw [hrs_app, v2]; exact hac) (by rw [hpri_app]; omega)
      rw [List.length_append] at this
      omega
    | succ g ih =>
      intro fu S' u k ends hg hfu hf hu hwu hk hends hal hbe
      obtain ⟨fu, rfl⟩ : ∃ z, fu = z + 1 := ⟨fu - 1, by omega⟩
      rw [X1_spell_65]
      refine pw_f (nI_ge (b := 64) (by omega) (by decide)) ?_
      by_cases hk0 : k = 0
      · subst hk0
        refine pw_t (by decide) (pw_s ⟨⟨u, ⟨hwu, ?_, fun w hv hac => ?_⟩, ?_, hu⟩, hf⟩)
        · obtain ⟨s, hs, hPs, hac⟩ := hal
          obtain ⟨v, v1, v2, v3⟩ := hps s hs (by omega)
          have : v = [] := List.length_eq_zero_iff.mp (by unfold pu_pri at v3; omega)
          rw [this] at v2
          rw [← v2] at hac
          exact hac
        · have hu63 : u.length ≤ 63 := by omega
          obtain ⟨w', g1, g2, g3, g4⟩ := pu_sho4 hA hv
          have hb' := F2 w' g1 (by rw [g2]; exact hac)
          have hkk : pu_pri A u = b := by omega
          have hkk2 : 1000 * pu_co A u + u.length = b := hkk
          have hb2 : b ≤ 1000 * pu_co A w' + w'.length := hb'
          rcases g4 with g4 | g4
          · subst g4
            by_cases hc : pu_co A u < pu_co A w'
            · exact .inl hc
            · right
              have hceq : pu_co A u = pu_co A w' := by omega
              refine ⟨hceq, ?_⟩
              by_cases hlt : u.length < w'.length
              · exact .inl hlt
              · right
                have hleq : u.length = w'.length := by omega
                refine ⟨hleq, hbe w' [] (by rw [List.append_nil]; exact hv) (by rw [List.append_nil]; exact hac) (by rw [List.append_nil]; show 1000 * pu_co A w' + w'.length = b; omega) hleq.symm⟩
          · exact .inl (by omega)
        · obtain ⟨s, hs, hPs, hac⟩ := hal
          obtain ⟨v, v1, v2, v3⟩ := hps s hs (by omega)
          have := F3 (u ++ v) (wv_app hwu v1) (by rw [hrs_app, v2]; exact hac) (by rw [hpri_app]; omega)
          rw [List.length_append] at this
          omega
      · refine pw_f (nI_nle (by omega) (by omega)) ?_
        have hkb : k < 1000000000 := by omega
        have hprb : ∀ x, x < A.2.1 → pu_pr1 A x ≤ 9001 := fun x hx => by
          have := hA.2.2.2.2.2.1 x (by omega)
          unfold pu_pr1
          omega
        -- the price that is left
        have vx : ∀ x s, x < A.2.1 → s < 64 → (nI (P s) = nI k - nI (pu_pr1 A x) ↔ P s + pu_pr1 A x = k) := by
          intro x s hx hs
          have h1 := hprb x hx
          have h2 := (hpf s hs).2
          rw [fa_eq, nI_toInt (by omega), pk_sub_toInt (by omega) (by omega)]
          omega
        -- the letter's ways as words
        have ways : ∀ x s, x < A.2.1 → s < 64 → ((P s + pu_pr1 A x = k ∧ lb ends (pu_sp1 A x s) = true) ↔ (P s + pu_pr1 A x = k ∧ pu_acc A (pu_r1 A s (u ++ [x])) = true)) := by
          intro x s hx hs
          rw [hends _ (pu_sp1_lt hA x s).2]
          have e : pu_r1 A s (u ++ [x]) = pu_r1 A (pu_sp1 A x s) u := pu_r1_app u
          rw [e]
          refine ⟨fun h => ⟨h.1, h.2.2⟩, fun h => ⟨h.1, ?_, h.2⟩⟩
          obtain ⟨v, v1, v2, v3⟩ := hps s hs (by omega)
          have hxv : pu_wv A.2.1 (x :: v) := fun y hy => (List.mem_cons.mp hy).elim (fun e => by rw [e]; exact hx) (v1 y)
          have hrs : pu_rs A (x :: v) = pu_sp1 A x s := by show pu_sp1 A x (pu_rs A v) = _; rw [v2]
          have := at_ u (x :: v) hwu hxv (by rw [hrs_app, hrs]; exact h.2) (by rw [pu_pri_c, v3]; omega)
          rw [hrs, pu_pri_c, v3] at this
          omega
        -- what follows a letter
        have go : ∀ x S2 w, x < A.2.1 → fr (fun i k => i = 14 ∨ i = 15) S S2 → pu_l (S2.1 15) (S2.1 14 1) (pu_lq2 u) → (∀ s, s < 64 → (lb w s = true ↔ P s + pu_pr1 A x = k ∧ pu_acc A (pu_r1 A s (u ++ [x])) = true)) → (∃ s, s < 64 ∧ lb w s = true) → (∀ y, y < x → ∀ s, s < 64 → ¬ (P s + pu_pr1 A y = k ∧ pu_acc A (pu_r1 A s (u ++ [y])) = true)) → pw (X1_spell_132 (fun S v1 v2 v3 v4 v6 v7 => X1_spell_65 fu S v1 v2 v3 v4 v6 v7) S2 20 (38 + 41 * a + 1) 14 (nI k) (nI u.length) (nI x) w) (fun S' => (∃ u, pu_cbe A u ∧ u.length ≤ 63 ∧ pu_l (S'.1 15) (S'.1 14 1) (pu_lq2 u)) ∧ fr (fun i k => i = 14 ∨ i = 15) S S') := by
          intro x S2 w hxm hf2 hu2 hw ⟨s0, hs0, hw0⟩ hleast
          have hp0 := ((hw s0 hs0).mp hw0).1
          rw [X1_spell_132]
          refine pw_bd (X_word_add (S := S2) (id := 14) (x := x) (N := 128) (by decide) hu2 (by show u.length < 128; omega) (by decide) (by omega)) (fun S3 s3 => ?_)
          obtain ⟨w1, w2, w3⟩ := s3
          have f3 : fr (fun i k => i = 14 ∨ i = 15) S S3 := fr_t hf2 (fr_m w3 (fun i k h => by omega))
          refine pw_be (X_prc ha (mvX S3 f3) (by omega)) (pw_bl (pw_bl ?_))
          rw [pk_sub (by omega), nI_1]
          have elen : (u ++ [x]).length = u.length + 1 := by simp
          rw [← elen]
          refine ih fu S3 (u ++ [x]) (k - pu_pr1 A x) w (by rw [elen]; omega) (by omega) f3 (pu_lq2_s (g := S2.1 15) w1) (wv_app hwu (fun y hy => by simp at hy; rw [hy]; exact hxm)) ?_ (fun s hs => ?_) ⟨s0, hs0, by omega, ((hw s0 hs0).mp hw0).2⟩ (fun w1' w2' hv12 hac hpb hl1 => ?_)
          · rw [hpri_app]
            have : pu_pri A [x] = pu_pr1 A x := by rw [pu_pri_c]; show 0 + _ = _; omega
            omega
          · rw [hw s hs]
            constructor
            · rintro ⟨h1, h2⟩; exact ⟨by omega, h2⟩
            · rintro ⟨h1, h2⟩; exact ⟨by omega, h2⟩
          · have hl1' : w1'.length = u.length + 1 := by rw [hl1, elen]
            have hne : w1' ≠ [] := fun e => by rw [e] at hl1'; simp at hl1'
            have ew := List.dropLast_concat_getLast hne
            generalize hw0' : w1'.dropLast = w0 at ew
            generalize hy0 : w1'.getLast hne = y at ew
            have hl0 : w0.length = u.length := by rw [← hw0', List.length_dropLast]; omega
            rw [← ew] at hv12 hac hpb ⊢
            rw [List.append_assoc] at hv12 hac hpb
            have hv12 : pu_wv A.2.1 (w0 ++ (y :: w2')) := hv12
            have hac : pu_acc A (pu_rs A (w0 ++ (y :: w2'))) = true := hac
            have hpb : pu_pri A (w0 ++ (y :: w2')) = b := hpb
            refine pu_ll_app (hbe w0 (y :: w2') hv12 hac hpb hl0) (fun eu => ?_)
            refine Classical.byContradiction (fun hn => ?_)
            rw [← eu] at hv12 hac hpb
            have hym : y < A.2.1 := hv12 y (by simp)
            have hv2 : pu_wv A.2.1 w2' := fun z hz => hv12 z (by simp [hz])
            rw [hpri_app, pu_pri_c] at hpb
            have ea : P (pu_rs A w2') = pu_pri A w2' := at_ (u ++ [y]) w2' (wv_app hwu (fun z hz => by simp at hz; rw [hz]; exact hym)) hv2 (by rw [List.append_assoc]; exact hac) (by
              rw [hpri_app]
              have : pu_pri A [y] = pu_pr1 A y := by rw [pu_pri_c]; show 0 + _ = _; omega
              omega)
            refine hleast y (by omega) (pu_rs A w2') (pu_rs_lt hA w2').2 ⟨by omega, ?_⟩
            rw [← hrs_app, List.append_assoc]; exact hac
        -- some letter goes on
        have some_ : ∃ y s, y < A.2.1 ∧ s < 64 ∧ P s + pu_pr1 A y = k ∧ pu_acc A (pu_r1 A s (u ++ [y])) = true := by
          obtain ⟨s, hs, hPs, hac⟩ := hal
          obtain ⟨v, v1, v2, v3⟩ := hps s hs (by omega)
          cases v with
          | nil => rw [hPs] at v3; exact absurd v3.symm hk0
          | cons y v =>
            have hym := v1 y (by simp)
            have hv2 : pu_wv A.2.1 v := fun z hz => v1 z (by simp [hz])
            have hac2 : pu_acc A (pu_rs A ((u ++ [y]) ++ v)) = true := by
              rw [List.append_assoc, hrs_app]
              show pu_acc A (pu_r1 A (pu_rs A (y :: v)) u) = true
              rw [v2]; exact hac
            rw [pu_pri_c, hPs] at v3
            have ea := at_ (u ++ [y]) v (wv_app hwu (fun z hz => by simp at hz; rw [hz]; exact hym)) hv2 hac2 (by
              rw [hpri_app]
              have : pu_pri A [y] = pu_pr1 A y := by rw [pu_pri_c]; show 0 + _ = _; omega
              omega)
            refine ⟨y, pu_rs A v, hym, (pu_rs_lt hA v).2, by omega, ?_⟩
            rw [← hrs_app]; exact hac2
        have X : ∀ n x fu' (v8 : Int32), x + n = A.2.1 → n < fu' → (∀ y, y < x → ∀ s, s < 64 → ¬ (P s + pu_pr1 A y = k ∧ pu_acc A (pu_r1 A s (u ++ [y])) = true)) → pw (X1_spell_86 (fun S v1 v2 v3 v4 v6 v7 => X1_spell_65 fu S v1 v2 v3 v4 v6 v7) fu' S' 20 (38 + 41 * a + 1) 14 ends (nI k) (nI u.length) v8 (0 : Int64) (nI x)) (fun S' => (∃ u, pu_cbe A u ∧ u.length ≤ 63 ∧ pu_l (S'.1 15) (S'.1 14 1) (pu_lq2 u)) ∧ fr (fun i k => i = 14 ∨ i = 15) S S') := by
          intro n
          induction n with
          | zero =>
            intro x fu' v8 hxn hfu' hno
            exfalso
            obtain ⟨y, s, hy, hs, h1, h2⟩ := some_
            exact hno y (by omega) s hs ⟨h1, h2⟩
          | succ n ih2 =>
            intro x fu' v8 hxn hfu' hno
            obtain ⟨fu', rfl⟩ : ∃ z, fu' = z + 1 := ⟨fu' - 1, by omega⟩
            have hxm : x < A.2.1 := by omega
            rw [X1_spell_86, (mvl S' hf).1, nI_1 x]
            refine pw_f (nI_ge hxm (by omega)) (pw_t (by decide) (pw_be (X_prc ha (mvX S' hf) (by omega)) (pw_bd (X_way hA (mvl S' hf) (mvp S' hf) (fun s hs he => ?_) hxm) (fun w hw => pw_bl ?_))))
            · have := (vx x s hxm hs).mp he
              obtain ⟨v, v1, v2, v3⟩ := hps s hs (by omega)
              rw [← v2]; exact (pu_rs_lt hA v).1
            · have hw' : ∀ s, s < 64 → (lb w s = true ↔ P s + pu_pr1 A x = k ∧ pu_acc A (pu_r1 A s (u ++ [x])) = true) := fun s hs => by
                rw [hw s hs, vx x s hxm hs]; exact ways x s hxm hs
              by_cases hne : ∃ s, s < 64 ∧ lb w s = true
              · have nz : ¬ lg_cmp w 0 = 0 := fun h => by
                  obtain ⟨s, hs, e⟩ := hne
                  rw [lb_z h s hs] at e; cases e
                have fin := go x S' w hxm hf hu hw' hne hno
                obtain ⟨fu'', rfl⟩ : ∃ z, fu' = z + 1 := ⟨fu' - 1, by omega⟩
                rw [X1_spell_86, (mvl S' hf).1]
                exact pw_if (fun _ => fin) (fun _ => pw_f nz fin)
              · have w0 : w = 0 := lb_x (fun s hs => by
                  rw [lb_0]
                  cases e : lb w s
                  · rfl
                  · exact absurd ⟨s, hs, e⟩ hne)
                subst w0
                refine ih2 (x + 1) fu' (nI x) (by omega) (by omega) (fun y hy s hs => ?_)
                by_cases ey : y = x
                · rw [ey]
                  exact fun h => hne ⟨s, hs, (hw' s hs).mpr h⟩
                · exact hno y (by omega) s hs
        exact X A.2.1 0 fy_fu 0 (by omega) (fz_fu (by omega)) (fun y hy => absurd hy (Nat.not_lt_zero y))
  -- where the cheapest words end
  have E : ∀ d s fu S' ends, s + d = 64 → d < fu → fr (fun i k => i = 14 ∨ i = 15) S S' → pu_l (S'.1 15) (S'.1 14 1) (pu_lq2 []) → (∀ t, t < 64 → (lb ends t = true ↔ t < s ∧ P t = b ∧ pu_acc A t = true)) → pw (X1_spell_11 fu S' 20 (38 + 41 * a + 1) 14 ends (nI s)) (fun S' => (∃ u, pu_cbe A u ∧ u.length ≤ 63 ∧ pu_l (S'.1 15) (S'.1 14 1) (pu_lq2 u)) ∧ fr (fun i k => i = 14 ∨ i = 15) S S') := by
    intro d
    induction d with
    | zero =>
      intro s fu S' ends hs hfu hf hu hends
      obtain ⟨fu, rfl⟩ : ∃ z, fu = z + 1 := ⟨fu - 1, by omega⟩
      have : s = 64 := by omega
      subst this
      rw [X1_spell_11, (hf _ _ (by omega)).1, h32]
      refine pw_t (by decide) (pw_bl (V 64 fy_fu S' [] b ends (by simp) (fz_fu (by omega)) hf hu (fun y hy => (by cases hy)) (by show 0 + b = b; omega) (fun t ht => ?_) ?_ (fun w1 w2 _ _ _ hl1 => ?_)))
      · rw [hends t ht]
        exact ⟨fun h => h.2, fun h => ⟨ht, h⟩⟩
      · obtain ⟨t, h1, h2, h3⟩ := hex
        exact ⟨t, h1, h3, h2⟩
      · have : w1 = [] := List.length_eq_zero_iff.mp hl1
        rw [this]; trivial
    | succ d ih =>
      intro s fu S' ends hs hfu hf hu hends
      obtain ⟨fu, rfl⟩ : ∃ z, fu = z + 1 := ⟨fu - 1, by omega⟩
      have hs64 : s < 64 := by omega
      have hps64 := mvp S' hf s hs64
      have skip : ¬ (P s = b ∧ pu_acc A s = true) → pw (X1_spell_11 fu S' 20 (38 + 41 * a + 1) 14 ends (nI (s + 1))) (fun S' => (∃ u, pu_cbe A u ∧ u.length ≤ 63 ∧ pu_l (S'.1 15) (S'.1 14 1) (pu_lq2 u)) ∧ fr (fun i k => i = 14 ∨ i = 15) S S') := by
        intro hno
        refine ih (s + 1) fu S' ends (by omega) (by omega) hf hu (fun t ht => ?_)
        rw [hends t ht]
        refine ⟨fun h => ⟨by omega, h.2⟩, fun h => ⟨?_, h.2⟩⟩
        have : t ≠ s := fun e => hno (by rw [← e]; exact h.2)
        omega
      rw [X1_spell_11, nI_1 s]
      refine pw_f (nI_ge (b := 64) (by omega) (by decide)) (pw_be (X_acq (mvl S' hf) hs64) ?_)
      cases hac : pu_ev (A.2.2.2.2 0) s
      · exact pw_t rfl (pw_bl (skip (fun h => by unfold pu_acc at h; rw [hac] at h; cases h.2)))
      · have hacs : pu_acc A s = true := hac
        rw [nI_clamp (by omega), hps64.1, (hf 32 1 (by omega)).1, h32]
        refine pw_f (by decide) (pw_gd (fy_ix_nI hs64 (by decide)) ?_)
        by_cases e : P s = b
        · refine pw_t (by rw [e]) (pw_bl (pw_bl (ih (s + 1) fu S' _ (by omega) (by omega) hf hu (fun t ht => ?_))))
          rw [lb_or, lb_1 hs64 ht, Bool.or_eq_true, hends t ht, decide_eq_true_eq]
          constructor
          · rintro (h | h)
            · exact ⟨by omega, h.2⟩
            · rw [← h]; exact ⟨by omega, e, hacs⟩
          · rintro ⟨h1, h2⟩
            by_cases et : t = s
            · exact .inr et.symm
            · exact .inl ⟨by omega, h2⟩
        · exact pw_f (fun h => e ((nI_eq (by omega) (by omega)).mp h)) (pw_bl (skip (fun h => e h.1)))
  rw [X1_spell]
  exact pw_bl (E 64 0 fy_fu _ 0 (by omega) (fz_fu (by omega)) (fr_I fr_r (.inl rfl)) ⟨rd_y, fun k hk => absurd hk (Nat.not_lt_zero k)⟩ (fun t ht => by
    rw [lb_0]
    exact ⟨fun h => (by cases h), fun h => absurd h.1 (Nat.not_lt_zero t)⟩))
