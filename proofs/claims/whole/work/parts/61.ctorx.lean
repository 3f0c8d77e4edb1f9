theorem th0 : Cond.methodLink RX9 3 objectInit ∈ fy_tb := fy_inR (i := 22) (by decide +kernel) rfl
theorem th1 : Cond.instanceMethod objectInit ∈ fy_tb := fy_inR (i := 23) (by decide +kernel) rfl
theorem th2 : Cond.code objectInit ⟨#[0xb1]⟩ 1 none ∈ fy_tb := fy_inR (i := 24) (by decide +kernel) rfl
theorem th3 : Cond.classLink RX9 9 RX0 ∈ fy_tb := fy_inR (i := 25) (by decide +kernel) rfl
theorem th4 : Cond.fieldLink RX9 11 RX9 "slots" "[LAlternatingAutomata$Automaton;" ∈ fy_tb := fy_inR (i := 274) (by decide +kernel) rfl
theorem th5 : Cond.fieldLink RX9 15 RX9 "snapshot" "[LAlternatingAutomata$Automaton;" ∈ fy_tb := fy_inR (i := 275) (by decide +kernel) rfl
theorem th6 : Cond.instantiable RX0 6 ∈ fy_tb := fy_inR (i := 27) (by decide +kernel) rfl
theorem th7 : Cond.initialized RX0 ∈ fy_tb := fy_inR (i := 2) (by decide +kernel) rfl
theorem th8 : Cond.instanceMethod yX0_init ∈ fy_tb := fy_inR (i := 29) (by decide +kernel) rfl
theorem th9 : Cond.code yX0_init cX0_init 2 none ∈ fy_tb := fy_inR (i := 30) (by decide +kernel) rfl
theorem th10 : Cond.methodLink RX9 18 yX0_init ∈ fy_tb := fy_inR (i := 28) (by decide +kernel) rfl
theorem th11 : Cond.fieldLink RX9 19 RX9 "combined" "LAlternatingAutomata$Automaton;" ∈ fy_tb := fy_inR (i := 276) (by decide +kernel) rfl
theorem th12 : Cond.classLink RX9 23 RX4 ∈ fy_tb := fy_inR (i := 101) (by decide +kernel) rfl
theorem th13 : Cond.instantiable RX4 9 ∈ fy_tb := fy_inR (i := 102) (by decide +kernel) rfl
theorem th14 : Cond.initialized RX4 ∈ fy_tb := fy_inR (i := 5) (by decide +kernel) rfl
theorem th15 : Cond.instanceMethod yX4_init ∈ fy_tb := fy_inR (i := 104) (by decide +kernel) rfl
theorem th16 : Cond.code yX4_init cX4_init 1 none ∈ fy_tb := fy_inR (i := 105) (by decide +kernel) rfl
theorem tn25 : Cond.methodLinkNest RX9 25 yX4_init RX9 ∈ lw_tbl := List.mem_append_right _ (List.mem_of_getElem? (i := 103) (by decide +kernel))
theorem th18 : Cond.fieldLink RX9 26 RX9 "text" "LAlternatingAutomata$FormulaText;" ∈ fy_tb := fy_inR (i := 277) (by decide +kernel) rfl
theorem th19 : Cond.classLink RX9 30 RX3 ∈ fy_tb := fy_inR (i := 138) (by decide +kernel) rfl
theorem th20 : Cond.instantiable RX3 5 ∈ fy_tb := fy_inR (i := 139) (by decide +kernel) rfl
theorem th21 : Cond.initialized RX3 ∈ fy_tb := fy_inR (i := 6) (by decide +kernel) rfl
theorem th22 : Cond.instanceMethod yX3_init ∈ fy_tb := fy_inR (i := 141) (by decide +kernel) rfl
theorem th23 : Cond.code yX3_init cX3_init 1 none ∈ fy_tb := fy_inR (i := 142) (by decide +kernel) rfl
theorem tn32 : Cond.methodLinkNest RX9 32 yX3_init RX9 ∈ lw_tbl := List.mem_append_right _ (List.mem_of_getElem? (i := 140) (by decide +kernel))
theorem th25 : Cond.fieldLink RX9 33 RX9 "printer" "LAlternatingAutomata$FormulaPrinter;" ∈ fy_tb := fy_inR (i := 278) (by decide +kernel) rfl
theorem th26 : Cond.classLink RX9 37 RX8 ∈ fy_tb := fy_inR (i := 162) (by decide +kernel) rfl
theorem th27 : Cond.instantiable RX8 2 ∈ fy_tb := fy_inR (i := 163) (by decide +kernel) rfl
theorem th28 : Cond.initialized RX8 ∈ fy_tb := fy_inR (i := 7) (by decide +kernel) rfl
theorem th29 : Cond.instanceMethod yX8_init ∈ fy_tb := fy_inR (i := 165) (by decide +kernel) rfl
theorem th30 : Cond.code yX8_init cX8_init 2 none ∈ fy_tb := fy_inR (i := 166) (by decide +kernel) rfl
theorem th31 : Cond.methodLink RX9 39 yX8_init ∈ fy_tb := fy_inR (i := 164) (by decide +kernel) rfl
theorem th32 : Cond.fieldLink RX9 42 RX9 "word" "LAlternatingAutomata$Word;" ∈ fy_tb := fy_inR (i := 279) (by decide +kernel) rfl
theorem th33 : Cond.fieldLink RX9 46 RX9 "found" "LAlternatingAutomata$Word;" ∈ fy_tb := fy_inR (i := 280) (by decide +kernel) rfl
theorem th34 : Cond.classLink RX9 49 RX5 ∈ fy_tb := fy_inR (i := 182) (by decide +kernel) rfl
theorem th35 : Cond.instantiable RX5 3 ∈ fy_tb := fy_inR (i := 183) (by decide +kernel) rfl
theorem th36 : Cond.initialized RX5 ∈ fy_tb := fy_inR (i := 9) (by decide +kernel) rfl
theorem th37 : Cond.instanceMethod yX5_init ∈ fy_tb := fy_inR (i := 185) (by decide +kernel) rfl
theorem th38 : Cond.code yX5_init cX5_init 1 none ∈ fy_tb := fy_inR (i := 186) (by decide +kernel) rfl
theorem tn51 : Cond.methodLinkNest RX9 51 yX5_init RX9 ∈ lw_tbl := List.mem_append_right _ (List.mem_of_getElem? (i := 184) (by decide +kernel))
theorem th40 : Cond.fieldLink RX9 52 RX9 "game" "LAlternatingAutomata$Game;" ∈ fy_tb := fy_inR (i := 281) (by decide +kernel) rfl
theorem th41 : Cond.classLink RX9 56 RX7 ∈ fy_tb := fy_inR (i := 198) (by decide +kernel) rfl
theorem th42 : Cond.instantiable RX7 8 ∈ fy_tb := fy_inR (i := 199) (by decide +kernel) rfl
theorem th43 : Cond.initialized RX7 ∈ fy_tb := fy_inR (i := 10) (by decide +kernel) rfl
theorem th44 : Cond.instanceMethod yX7_init ∈ fy_tb := fy_inR (i := 201) (by decide +kernel) rfl
theorem th45 : Cond.code yX7_init cX7_init 1 none ∈ fy_tb := fy_inR (i := 202) (by decide +kernel) rfl
theorem tn58 : Cond.methodLinkNest RX9 58 yX7_init RX9 ∈ lw_tbl := List.mem_append_right _ (List.mem_of_getElem? (i := 200) (by decide +kernel))
theorem th47 : Cond.fieldLink RX9 59 RX9 "reverseOne" "LAlternatingAutomata$ReverseAutomaton;" ∈ fy_tb := fy_inR (i := 282) (by decide +kernel) rfl
theorem th48 : Cond.fieldLink RX9 63 RX9 "reverseOther" "LAlternatingAutomata$ReverseAutomaton;" ∈ fy_tb := fy_inR (i := 283) (by decide +kernel) rfl
theorem th49 : Cond.classLink RX9 66 RX1 ∈ fy_tb := fy_inR (i := 233) (by decide +kernel) rfl
theorem th50 : Cond.instantiable RX1 2 ∈ fy_tb := fy_inR (i := 234) (by decide +kernel) rfl
theorem th51 : Cond.initialized RX1 ∈ fy_tb := fy_inR (i := 11) (by decide +kernel) rfl
theorem th52 : Cond.instanceMethod yX1_init ∈ fy_tb := fy_inR (i := 236) (by decide +kernel) rfl
theorem th53 : Cond.code yX1_init cX1_init 1 none ∈ fy_tb := fy_inR (i := 237) (by decide +kernel) rfl
theorem tn68 : Cond.methodLinkNest RX9 68 yX1_init RX9 ∈ lw_tbl := List.mem_append_right _ (List.mem_of_getElem? (i := 235) (by decide +kernel))
theorem th55 : Cond.fieldLink RX9 69 RX9 "cheapest" "LAlternatingAutomata$CheapestSearch;" ∈ fy_tb := fy_inR (i := 284) (by decide +kernel) rfl
theorem th56 : Cond.classLink RX9 73 RX6 ∈ fy_tb := fy_inR (i := 247) (by decide +kernel) rfl
theorem th57 : Cond.instantiable RX6 5 ∈ fy_tb := fy_inR (i := 248) (by decide +kernel) rfl
theorem th58 : Cond.initialized RX6 ∈ fy_tb := fy_inR (i := 12) (by decide +kernel) rfl
theorem th59 : Cond.instanceMethod yX6_init ∈ fy_tb := fy_inR (i := 250) (by decide +kernel) rfl
theorem th60 : Cond.code yX6_init cX6_init 1 none ∈ fy_tb := fy_inR (i := 251) (by decide +kernel) rfl
theorem th61 : Cond.methodLink RX9 75 yX6_init ∈ fy_tb := fy_inR (i := 249) (by decide +kernel) rfl
theorem th62 : Cond.fieldLink RX9 76 RX9 "pairs" "LAlternatingAutomata$PairSearch;" ∈ fy_tb := fy_inR (i := 285) (by decide +kernel) rfl
theorem th63 : Cond.fieldLink RX9 80 RX9 "hasSnapshot" "Z" ∈ fy_tb := fy_inR (i := 286) (by decide +kernel) rfl
theorem th64 : Cond.fieldLink RX9 84 RX9 "costOfFound" "I" ∈ fy_tb := fy_inR (i := 287) (by decide +kernel) rfl
/-! THE CLASS'S CONSTRUCTOR: parts come one behind another -/
theorem fz_D_addr {A : Nat → Prop} {L L' : va_W} (h : L.map Prod.fst = L'.map Prod.fst) (hD : va_D A L) : va_D A L' := by
  have at' : ∀ (i : Nat) (p : Nat × va_E), L'[i]? = some p → ∃ p0, L[i]? = some p0 ∧ p0.1 = p.1 := by
    intro i p hp
    have h1 : (L'.map Prod.fst)[i]? = some p.1 := by rw [List.getElem?_map, hp]; rfl
    rw [← h, List.getElem?_map] at h1
    cases hl : L[i]? with
    | none => rw [hl] at h1; cases h1
    | some p0 => rw [hl] at h1; exact ⟨p0, rfl, Option.some.inj h1⟩
  refine ⟨fun i j p q hp hq hpq => ?_, fun k q hq => ?_⟩
  · obtain ⟨p0, a1, a2⟩ := at' i p hp
    obtain ⟨q0, b1, b2⟩ := at' j q hq
    exact hD.1 i j p0 q0 a1 b1 (by rw [a2, b2]; exact hpq)
  · obtain ⟨q0, b1, b2⟩ := at' k q hq
    rw [← b2]; exact hD.2 k q0 b1
theorem fz_left {D : va_G} {a b : va_W} {H : Heap} (h : va_P D vwCl (a ++ b) H) : va_P D vwCl a H := fun k q hk => h k q (by rw [List.getElem?_append_left (List.getElem?_eq_some_iff.mp hk).1]; exact hk)
theorem fz_right {D : va_G} {a b : va_W} {H : Heap} (h : va_P D vwCl (a ++ b) H) : va_P D vwCl b H := fun k q hk => h (a.length + k) q (by rw [List.getElem?_append_right (by omega)]; simpa using hk)
theorem fz_mem {D : va_G} {dom : List Nat} {ad : Nat → Nat} {c : Nat → va_E} {H : Heap} : va_P D vwCl (fy_ls dom ad c) H ↔ ∀ id ∈ dom, va_at D vwCl (ad id, c id) H := by
  constructor
  · intro h id hid
    obtain ⟨k, h1, -⟩ := fy_ls_at (ad := ad) (cells := c) hid
    exact h k _ h1
  · intro h k q hk
    obtain ⟨id, h1, rfl⟩ := fy_ls_inv hk
    exact h id (List.mem_of_getElem? h1)
def fz_tr (D : va_G) (T : Nat → ClassId) (H : Heap) (ad : Nat → Nat) (id : Nat) (ad' : Nat → Nat) (id' : Nat) : Prop := ∀ a : Nat, va_at D vwCl (a, fy_c T ad X_lay X_S0 id) H → va_at D vwCl (a, fy_c T ad' X_lay X_S0 id') H
theorem fz_merge {D : va_G} {T : Nat → ClassId} {A : Nat → Prop} {H : Heap} {w : va_W} {domC domK : List Nat} {ad ad' adN : Nat → Nat} {sh : Nat → Nat} (hP : va_P D vwCl ((w ++ fy_ls domC ad (fy_c T ad X_lay X_S0)) ++ fy_ls domK ad' (fy_c T ad' X_lay X_S0)) H) (hD : va_D A ((w ++ fy_ls domC ad (fy_c T ad X_lay X_S0)) ++ fy_ls domK ad' (fy_c T ad' X_lay X_S0))) (h1 : ∀ id ∈ domC, adN id = ad id) (h2 : ∀ id ∈ domK, adN (sh id) = ad' id) (hc1 : ∀ id ∈ domC, fz_tr D T H ad id adN id) (hc2 : ∀ id ∈ domK, fz_tr D T H ad' id adN (sh id)) :
    va_P D vwCl (w ++ fy_ls (domC ++ domK.map sh) adN (fy_c T adN X_lay X_S0)) H ∧ va_D A (w ++ fy_ls (domC ++ domK.map sh) adN (fy_c T adN X_lay X_S0)) := by
  refine ⟨va_P.app (fz_left (fz_left hP)) (fz_mem.mpr fun id hid => ?_), fz_D_addr ?_ hD⟩
  · rcases List.mem_append.mp hid with h | h
    · rw [h1 id h]; exact hc1 id h _ (fz_mem.mp (fz_right (fz_left hP)) id h)
    · obtain ⟨k, hk, rfl⟩ := List.mem_map.mp h
      rw [h2 k hk]; exact hc2 k hk _ (fz_mem.mp (fz_right hP) k hk)
  · simp only [fy_ls, List.map_append, List.map_map, List.append_assoc]
    congr 1
    congr 1
    · exact List.map_congr_left (fun id hid => (h1 id hid).symm)
    · exact List.map_congr_left (fun id hid => (h2 id hid).symm)
/-- the references of a cell -/
def X_rf (id : Nat) : List Nat := if X_kd id < 10 then (X_sh (X_kd id) id).filterMap (fun k => k.join) else if X_kd id = 11 then (List.range 18).map (X_ar id) else []
theorem fz_fs_ad {ad ad' : Nat → Nat} {S S' : fy_S} {id id' : Nat} (hS1 : S.1 id = S'.1 id') (hS2 : S.2 id = S'.2 id') : ∀ (xs : List fy_K) (k : Nat), (∀ r, some (some r) ∈ xs → ad r = ad' r) → fy_fs ad S id k xs = fy_fs ad' S' id' k xs
  | [], _, _ => rfl
  | x :: xs, k, h => by
    simp only [fy_fs]
    rw [fz_fs_ad hS1 hS2 xs (k + 1) (fun r hr => h r (List.mem_cons_of_mem _ hr))]
    congr 1
    rcases x with _ | _ | r
    · simp only [fy_v, hS1]
    · simp only [fy_v, hS2]
    · simp only [fy_v, h r List.mem_cons_self]
theorem fz_tr_id {D : va_G} {T : Nat → ClassId} {H : Heap} {ad ad' : Nat → Nat} {id : Nat} (hk : X_kd id ≠ 13 ∧ X_kd id ≠ 14 ∧ X_kd id < 28) (hr : ∀ r ∈ X_rf id, ad r = ad' r) : fz_tr D T H ad id ad' id := by
  intro a h
  unfold X_rf at hr
  unfold fy_c X_lay at h ⊢
  by_cases h10 : X_kd id < 10
  · rw [if_pos h10] at h hr ⊢
    simp only at h ⊢
    rw [← fz_fs_ad (ad := ad) (ad' := ad') (S := X_S0) (S' := X_S0) (id := id) (id' := id) rfl rfl _ 0 (fun r hr2 => hr r (List.mem_filterMap.mpr ⟨_, hr2, rfl⟩))]
    exact h
  · rw [if_neg h10] at h ⊢
    simp only at h ⊢
    by_cases h11 : X_kd id = 11
    · rw [if_neg h10, if_pos h11] at hr
      have e : X_at (X_kd id) = 7 := by rw [h11]; decide
      have e2 : X_al id = 18 := by unfold X_al; rw [h11]; decide
      simp only [fy_a, e, e2] at h ⊢
      have h : H[a]? = some (vp_cell (T 7) (18, .inr (.inr (.inr (.inr (fun j => some (ad (X_ar id j)))))))) := h
      show H[a]? = some (vp_cell (T 7) (18, .inr (.inr (.inr (.inr (fun j => some (ad' (X_ar id j))))))))
      rw [h]
      congr 1
      exact fz_arr (fun j hj => by rw [hr _ (List.mem_map.mpr ⟨j, List.mem_range.mpr hj, rfl⟩)])
    · have e : X_at (X_kd id) < 6 := by
        have : ∀ k, k < 28 → ¬ k < 10 → k ≠ 11 → k ≠ 13 → k ≠ 14 → X_at k < 6 := by decide
        exact this _ hk.2.2 h10 h11 hk.1 hk.2.1
      have e2 : fy_a ad X_S0 id (X_at (X_kd id)) (X_ar id) = fy_a ad' X_S0 id (X_at (X_kd id)) (X_ar id) := by
        unfold fy_a
        by_cases h5 : X_at (X_kd id) < 5
        · rw [if_pos h5, if_pos h5]
        · rw [if_neg h5, if_neg h5, if_pos (by omega), if_pos (by omega)]
      rw [← e2]
      exact h
theorem fz_kS : ∀ a, a < 7 → ∀ id, id < 79 → 38 ≤ id → X_kd (id + 41 * a) = X_kd id := by decide +kernel
theorem fz_k38 : ∀ id, id < 79 → 38 ≤ id → X_kd id = 0 ∧ id = 38 ∨ X_kd id = 10 ∧ id = 39 ∨ X_kd id = 11 ∧ id = 40 ∨ X_kd id = 2 ∧ id < 78 ∨ X_kd id = 12 := by decide +kernel
theorem fz_S0sh {a id : Nat} (ha : a < 7) (h1 : id < 79) (h2 : 38 ≤ id) : X_S0.1 (id + 41 * a) = X_S0.1 id := by
  have hk := fz_kS a ha id h1 h2
  funext k
  simp only [X_S0]
  rw [hk]
  have e1 : ¬ id + 41 * a = 32 := by omega
  have e2 : ¬ id = 32 := by omega
  have e3 : ¬ id + 41 * a = 36 := by omega
  have e4 : ¬ id = 36 := by omega
  simp only [e1, e2, e3, e4, if_false]
theorem fz_tr_sh {D : va_G} {T : Nat → ClassId} {H : Heap} {ad ad' : Nat → Nat} {id a : Nat} (ha : a < 7) (h1 : id < 79) (h2 : 38 ≤ id) (hr : ∀ j, 38 ≤ j → j < 79 → ad' (j + 41 * a) = ad j) : fz_tr D T H ad id ad' (id + 41 * a) := by
  intro q h
  have hk := fz_kS a ha id h1 h2
  have hS := fz_S0sh ha h1 h2
  unfold fy_c X_lay X_al at h ⊢
  rw [hk]
  rcases fz_k38 id h1 h2 with ⟨h0, rfl⟩ | ⟨h0, rfl⟩ | ⟨h0, rfl⟩ | ⟨h0, h3⟩ | h0
  · rw [h0] at h ⊢
    simp only [if_pos (show 0 < 10 by decide), X_sh, fy_fs, fy_v, hS] at h ⊢
    rw [show 38 + 41 * a + 1 = 39 + 41 * a by omega, show 38 + 41 * a + 3 = 41 + 41 * a by omega, show 38 + 41 * a + 2 = 40 + 41 * a by omega, hr 39 (by decide) (by decide), hr 41 (by decide) (by decide), hr 40 (by decide) (by decide)]
    exact h
  · rw [h0] at h ⊢
    simp only [if_neg (show ¬ 10 < 10 by decide), fy_a, show X_at 10 = 0 by decide, if_pos (show 0 < 5 by decide), hS] at h ⊢
    exact h
  · rw [h0] at h ⊢
    have e : X_at 11 = 7 := by decide
    have e2 : X_ln 11 = 18 := by decide
    simp only [if_neg (show ¬ 11 < 10 by decide), fy_a, e, e2] at h ⊢
    have h : H[q]? = some (vp_cell (T 7) (18, .inr (.inr (.inr (.inr (fun j => some (ad (X_ar 40 j)))))))) := h
    show H[q]? = some (vp_cell (T 7) (18, .inr (.inr (.inr (.inr (fun j => some (ad' (X_ar (40 + 41 * a) j))))))))
    rw [h]
    congr 1
    refine fz_arr (fun j hj => ?_)
    have e3 : X_ar 40 j = 43 + 2 * j := by unfold X_ar; rw [if_pos h0]
    have e4 : X_ar (40 + 41 * a) j = (43 + 2 * j) + 41 * a := by unfold X_ar; rw [if_pos (hk.trans h0)]; omega
    rw [e3, e4, hr _ (by omega) (by omega)]
  · rw [h0] at h ⊢
    simp only [if_pos (show 2 < 10 by decide), X_sh, fy_fs, fy_v, hS] at h ⊢
    rw [show id + 41 * a + 1 = (id + 1) + 41 * a by omega, hr (id + 1) (by omega) (by omega)]
    exact h
  · rw [h0] at h ⊢
    simp only [if_neg (show ¬ 12 < 10 by decide), fy_a, show X_at 12 = 1 by decide, if_pos (show 1 < 5 by decide), hS] at h ⊢
    exact h
def fz_ok (dom : List Nat) : Prop := (∀ id ∈ dom, X_kd id ≠ 13 ∧ X_kd id ≠ 14 ∧ X_kd id < 28) ∧ ∀ id ∈ dom, ∀ r ∈ X_rf id, r ∈ dom
theorem fz_ok.app {a b : List Nat} (ha : fz_ok a) (hb : fz_ok b) : fz_ok (a ++ b) := by
  refine ⟨fun id h => ?_, fun id h r hr => ?_⟩
  · rcases List.mem_append.mp h with h | h
    · exact ha.1 id h
    · exact hb.1 id h
  · rcases List.mem_append.mp h with h | h
    · exact List.mem_append_left _ (ha.2 id h r hr)
    · exact List.mem_append_right _ (hb.2 id h r hr)
theorem fz_mrgI {D : va_G} {T : Nat → ClassId} {A : Nat → Prop} {H : Heap} {w : va_W} {domC domK : List Nat} {ad ad' : Nat → Nat} (hP : va_P D vwCl ((w ++ fy_ls domC ad (fy_c T ad X_lay X_S0)) ++ fy_ls domK ad' (fy_c T ad' X_lay X_S0)) H) (hD : va_D A ((w ++ fy_ls domC ad (fy_c T ad X_lay X_S0)) ++ fy_ls domK ad' (fy_c T ad' X_lay X_S0))) (hC : fz_ok domC) (hK : fz_ok domK) (hdis : ∀ id ∈ domC, id ∉ domK) :
    ∃ adN : Nat → Nat, (∀ id ∈ domC, adN id = ad id) ∧ (∀ id ∈ domK, adN id = ad' id) ∧ va_P D vwCl (w ++ fy_ls (domC ++ domK) adN (fy_c T adN X_lay X_S0)) H ∧ va_D A (w ++ fy_ls (domC ++ domK) adN (fy_c T adN X_lay X_S0)) := by
  have h1 : ∀ id ∈ domC, (fun i => if i ∈ domK then ad' i else ad i) id = ad id := fun id h => if_neg (hdis id h)
  have h2 : ∀ id ∈ domK, (fun i => if i ∈ domK then ad' i else ad i) id = ad' id := fun id h => if_pos h
  have h := fz_merge (sh := fun i => i) (adN := fun i => if i ∈ domK then ad' i else ad i) hP hD h1 h2 (fun id hid => fz_tr_id (hC.1 id hid) (fun r hr => (h1 r (hC.2 id hid r hr)).symm)) (fun id hid => fz_tr_id (hK.1 id hid) (fun r hr => (h2 r (hK.2 id hid r hr)).symm))
  rw [show domK.map (fun i => i) = domK by simp] at h
  exact ⟨_, h1, h2, h.1, h.2⟩
theorem fz_mrgS {D : va_G} {T : Nat → ClassId} {A : Nat → Prop} {H : Heap} {w : va_W} {domC : List Nat} {ad ad' : Nat → Nat} (a : Nat) (ha : a < 7) (hP : va_P D vwCl ((w ++ fy_ls domC ad (fy_c T ad X_lay X_S0)) ++ fy_ls (List.range' 38 41) ad' (fy_c T ad' X_lay X_S0)) H) (hD : va_D A ((w ++ fy_ls domC ad (fy_c T ad X_lay X_S0)) ++ fy_ls (List.range' 38 41) ad' (fy_c T ad' X_lay X_S0))) (hC : fz_ok domC) (hdis : ∀ id ∈ domC, ¬ (38 + 41 * a ≤ id ∧ id < 79 + 41 * a)) :
    ∃ adN : Nat → Nat, (∀ id ∈ domC, adN id = ad id) ∧ adN (38 + 41 * a) = ad' 38 ∧ va_P D vwCl (w ++ fy_ls (domC ++ (List.range' 38 41).map (fun i => i + 41 * a)) adN (fy_c T adN X_lay X_S0)) H ∧ va_D A (w ++ fy_ls (domC ++ (List.range' 38 41).map (fun i => i + 41 * a)) adN (fy_c T adN X_lay X_S0)) := by
  have h1 : ∀ id ∈ domC, (fun i => if 38 + 41 * a ≤ i ∧ i < 79 + 41 * a then ad' (i - 41 * a) else ad i) id = ad id := fun id h => if_neg (hdis id h)
  have h3 : ∀ j, 38 ≤ j → j < 79 → (fun i => if 38 + 41 * a ≤ i ∧ i < 79 + 41 * a then ad' (i - 41 * a) else ad i) (j + 41 * a) = ad' j := fun j g1 g2 => by
    show (if 38 + 41 * a ≤ j + 41 * a ∧ j + 41 * a < 79 + 41 * a then ad' (j + 41 * a - 41 * a) else ad (j + 41 * a)) = ad' j
    rw [if_pos (by omega), show j + 41 * a - 41 * a = j by omega]
  have h2 : ∀ id ∈ List.range' 38 41, (fun i => if 38 + 41 * a ≤ i ∧ i < 79 + 41 * a then ad' (i - 41 * a) else ad i) (id + 41 * a) = ad' id := fun id h => by
    have h := List.mem_range'_1.mp h
    exact h3 id h.1 h.2
  have h := fz_merge (sh := fun i => i + 41 * a) (adN := fun i => if 38 + 41 * a ≤ i ∧ i < 79 + 41 * a then ad' (i - 41 * a) else ad i) hP hD h1 h2 (fun id hid => fz_tr_id (hC.1 id hid) (fun r hr => (h1 r (hC.2 id hid r hr)).symm)) (fun id hid => by
    have hid := List.mem_range'_1.mp hid
    exact fz_tr_sh ha hid.2 hid.1 h3)
  exact ⟨_, h1, h3 38 (by decide) (by decide), h.1, h.2⟩
theorem fz_okA : ∀ a, a < 7 → fz_ok ((List.range' 38 41).map (fun i => i + 41 * a)) := by
  intro a ha
  match a, ha with
  | 0, _ => exact ⟨by decide +kernel, by decide +kernel⟩
  | 1, _ => exact ⟨by decide +kernel, by decide +kernel⟩
  | 2, _ => exact ⟨by decide +kernel, by decide +kernel⟩
  | 3, _ => exact ⟨by decide +kernel, by decide +kernel⟩
  | 4, _ => exact ⟨by decide +kernel, by decide +kernel⟩
  | 5, _ => exact ⟨by decide +kernel, by decide +kernel⟩
  | 6, _ => exact ⟨by decide +kernel, by decide +kernel⟩
def X_dom : List Nat := [0, 1, 2] ++ (((((((((((((((([] ++ (List.range' 38 41).map (fun i => i + 41 * 6)) ++ [3, 4, 5, 6, 7]) ++ [8, 9, 10, 11]) ++ [12, 13]) ++ [14, 15]) ++ [16, 17, 18, 19]) ++ [20, 21, 22, 23, 24, 25]) ++ [26, 27, 28, 29, 30, 31]) ++ [32, 33]) ++ [34, 35, 36, 37]) ++ (List.range' 38 41).map (fun i => i + 41 * 0)) ++ (List.range' 38 41).map (fun i => i + 41 * 3)) ++ (List.range' 38 41).map (fun i => i + 41 * 1)) ++ (List.range' 38 41).map (fun i => i + 41 * 4)) ++ (List.range' 38 41).map (fun i => i + 41 * 2)) ++ (List.range' 38 41).map (fun i => i + 41 * 5))
theorem X_dom_nd : X_dom.Nodup := by decide +kernel
theorem X_dom_0 : 0 ∈ X_dom := List.mem_append_left _ List.mem_cons_self
set_option maxHeartbeats 4000000 in
set_option maxRecDepth 100000 in
theorem cc_X9 (l : Launch) (D : va_G) (T : Nat → ClassId) (a0 sz : Nat) : fz_M l yX9_init cX9_init 2 (fz_rm 3 324 19944) D T X_lay X_S0 [] a0 sz 9 [.null, .null, .null, .null, .null, .null, .null, .null, .null, .null, .null, .null, .int 0, .int 0] X_dom 0 324 19944 := by
  refine fz_entry (by decide +kernel) rfl (Nat.le_of_ble_eq_true rfl) ?_
  intro p e s m args below meth c ls hx hb hr hts hown hlk hml hin hK hN hO hP hD hS hl
  have hA : ∀ q : Nat, s.heap.size ≤ q → fz_A a0 s.heap.size q := fun q h => Or.inr h
  refine lv_aload_n hx hb dX9_init_0 rfl (lv_at hl 0 rfl) ?_
  refine W.objInit hx hb hown (hts _ th0) (hts _ th1) (hts _ th2) rfl (by rw [hml]; exact hl.1) rfl dX9_init_1 (Nat.le_of_ble_eq_true rfl) (Nat.le_of_ble_eq_true rfl) ?_
  refine W.eq (g2 := F0 m 4 ls []) rfl ?_
  refine lv_aload_n hx hb dX9_init_4 rfl (lv_at hl 0 rfl) ?_
  refine lv_iconst (v := (3 : Int32)) hx hb dX9_init_5 (by decide) ?_
  refine fz_newq (C := RX0) (t := 6) (N' := 3) hx hb hts hown th3 hO.1 hK rfl hP hD hS hA (by decide) (by decide) (Nat.le_of_ble_eq_true rfl) (Nat.le_of_ble_eq_true rfl) (Nat.le_of_ble_eq_true rfl) dX9_init_6 (fun q1 H hP hD hS => ?_)
  refine va_putF (D := D) (ci := 9) (v := .ref q1) (ty := .array (.object "AlternatingAutomata$Automaton")) (C := RX9) (T := TX9) (N := 14) hx hb hts ti_X9 tyX9 tyX9_ok nmX9 hown hK hP hD hS 0 rfl rfl 0 (by decide) (hts _ th4) (fun _ h9 => h9) rfl hin rfl rfl rfl rfl (Nat.le_of_ble_eq_true rfl) dX9_init_9 (fun H locs hP hD hS => ?_)
  have hP : va_P D vwCl [(a0, .inr (9, [.ref q1, .null, .null, .null, .null, .null, .null, .null, .null, .null, .null, .null, .int 0, .int 0])), (q1, .inl (T 6, 3, .inr (.inr (.inr (.inr (fun _ => none))))))] H := hP
  have hD : va_D (fz_A a0 s.heap.size) [(a0, .inr (9, [.ref q1, .null, .null, .null, .null, .null, .null, .null, .null, .null, .null, .null, .int 0, .int 0])), (q1, .inl (T 6, 3, .inr (.inr (.inr (.inr (fun _ => none))))))] := hD
  refine lv_aload_n hx hb dX9_init_12 rfl (lv_at hl 0 rfl) ?_
  refine lv_iconst (v := (3 : Int32)) hx hb dX9_init_13 (by decide) ?_
  refine fz_newq (C := RX0) (t := 6) (N' := 3) hx hb hts hown th3 hO.1 hK rfl hP hD hS hA (by decide) (by decide) (Nat.le_of_ble_eq_true rfl) (Nat.le_of_ble_eq_true rfl) (Nat.le_of_ble_eq_true rfl) dX9_init_14 (fun q2 H hP hD hS => ?_)
  refine va_putF (D := D) (ci := 9) (v := .ref q2) (ty := .array (.object "AlternatingAutomata$Automaton")) (C := RX9) (T := TX9) (N := 14) hx hb hts ti_X9 tyX9 tyX9_ok nmX9 hown hK hP hD hS 0 rfl rfl 1 (by decide) (hts _ th5) (fun _ h9 => h9) rfl hin rfl rfl rfl rfl (Nat.le_of_ble_eq_true rfl) dX9_init_17 (fun H locs hP hD hS => ?_)
  have hP : va_P D vwCl [(a0, .inr (9, [.ref q1, .ref q2, .null, .null, .null, .null, .null, .null, .null, .null, .null, .null, .int 0, .int 0])), (q1, .inl (T 6, 3, .inr (.inr (.inr (.inr (fun _ => none)))))), (q2, .inl (T 6, 3, .inr (.inr (.inr (.inr (fun _ => none))))))] H := hP
  have hD : va_D (fz_A a0 s.heap.size) [(a0, .inr (9, [.ref q1, .ref q2, .null, .null, .null, .null, .null, .null, .null, .null, .null, .null, .int 0, .int 0])), (q1, .inl (T 6, 3, .inr (.inr (.inr (.inr (fun _ => none)))))), (q2, .inl (T 6, 3, .inr (.inr (.inr (.inr (fun _ => none))))))] := hD
  obtain ⟨ad0, -⟩ : ∃ z : Nat → Nat, z = fun _ => 0 := ⟨_, rfl⟩
  obtain ⟨dm0, ed0⟩ : ∃ z : List Nat, z = [] := ⟨_, rfl⟩
  have hP : va_P D vwCl ([(a0, .inr (9, [.ref q1, .ref q2, .null, .null, .null, .null, .null, .null, .null, .null, .null, .null, .int 0, .int 0])), (q1, .inl (T 6, 3, .inr (.inr (.inr (.inr (fun _ => none)))))), (q2, .inl (T 6, 3, .inr (.inr (.inr (.inr (fun _ => none))))))] ++ fy_ls dm0 ad0 (fy_c T ad0 X_lay X_S0)) H := by rw [ed0]; exact hP
  have hD : va_D (fz_A a0 s.heap.size) ([(a0, .inr (9, [.ref q1, .ref q2, .null, .null, .null, .null, .null, .null, .null, .null, .null, .null, .int 0, .int 0])), (q1, .inl (T 6, 3, .inr (.inr (.inr (.inr (fun _ => none)))))), (q2, .inl (T 6, 3, .inr (.inr (.inr (.inr (fun _ => none))))))] ++ fy_ls dm0 ad0 (fy_c T ad0 X_lay X_S0)) := by rw [ed0]; exact hD
  have fz_ok0 : fz_ok dm0 := by rw [ed0]; exact ⟨fun _ h => absurd h List.not_mem_nil, fun _ h => absurd h List.not_mem_nil⟩
  refine lv_aload_n hx hb dX9_init_20 rfl (lv_at hl 0 rfl) ?_
  refine va_new (ci := 0) (fs := [.null, .null, .null, .int 0, .int 0, .int 0]) (C := RX0) (T := TX0) (N := 6) hx hb hts ti_X0 tyX0 tyX0_ok hown (hts _ th3) (hts _ th6) (hts _ th7) hK hP hD hS hA rfl (fun j hj => by match j, hj with | 0, _ => rfl | 1, _ => rfl | 2, _ => rfl | 3, _ => rfl | 4, _ => rfl | 5, _ => rfl) (Nat.le_of_ble_eq_true rfl) (Nat.le_of_ble_eq_true rfl) dX9_init_21 (fun n21 H hP hD hS => ?_)
  refine lv_dup hx hb dX9_init_24 rfl ?_
  refine fz_cal (ws := ([(a0, .inr (9, [.ref q1, .ref q2, .null, .null, .null, .null, .null, .null, .null, .null, .null, .null, .int 0, .int 0])), (q1, .inl (T 6, 3, .inr (.inr (.inr (.inr (fun _ => none)))))), (q2, .inl (T 6, 3, .inr (.inr (.inr (.inr (fun _ => none))))))] ++ fy_ls dm0 ad0 (fy_c T ad0 X_lay X_S0))) hP hD hS hA (by decide) (fz_run (np := 0) (As := []) (rest := [.ref n21, .ref a0]) hx hb hml hown hts hK hN hO (fz_last hP) (cc_X0 l D T n21 H.size) ⟨th10, th8, th7, th9, rfl, (by decide +kernel), (by decide +kernel), (by decide +kernel)⟩ ⟨(Nat.le_of_ble_eq_true rfl), (Nat.le_of_ble_eq_true rfl)⟩ rfl hl.1 rfl (Nat.le_of_ble_eq_true rfl) ⟨(Nat.le_of_ble_eq_true rfl), (Nat.le_of_ble_eq_true rfl)⟩ dX9_init_25) (fun apn21 H locs hapn21 hP hD hS => ?_)
  refine va_putF (D := D) (ci := 9) (v := .ref n21) (ty := .object "AlternatingAutomata$Automaton") (C := RX9) (T := TX9) (N := 14) hx hb hts ti_X9 tyX9 tyX9_ok nmX9 hown hK hP hD hS 0 rfl rfl 2 (by decide) (hts _ th11) (fun _ h9 => h9) rfl hin rfl rfl rfl rfl (Nat.le_of_ble_eq_true rfl) dX9_init_28 (fun H locs hP hD hS => ?_)
  have hP : va_P D vwCl (([(a0, .inr (9, [.ref q1, .ref q2, .ref n21, .null, .null, .null, .null, .null, .null, .null, .null, .null, .int 0, .int 0])), (q1, .inl (T 6, 3, .inr (.inr (.inr (.inr (fun _ => none)))))), (q2, .inl (T 6, 3, .inr (.inr (.inr (.inr (fun _ => none))))))] ++ fy_ls dm0 ad0 (fy_c T ad0 X_lay X_S0)) ++ fy_ls (List.range' 38 41) apn21 (fy_c T apn21 X_lay X_S0)) H := hP
  have hD : va_D (fz_A a0 s.heap.size) (([(a0, .inr (9, [.ref q1, .ref q2, .ref n21, .null, .null, .null, .null, .null, .null, .null, .null, .null, .int 0, .int 0])), (q1, .inl (T 6, 3, .inr (.inr (.inr (.inr (fun _ => none)))))), (q2, .inl (T 6, 3, .inr (.inr (.inr (.inr (fun _ => none))))))] ++ fy_ls dm0 ad0 (fy_c T ad0 X_lay X_S0)) ++ fy_ls (List.range' 38 41) apn21 (fy_c T apn21 X_lay X_S0)) := hD
  obtain ⟨ad1, ho1, hn1, hP, hD⟩ := fz_mrgS 6 (by decide) hP hD fz_ok0 (by rw [ed0]; decide +kernel)
  have hok1 : fz_ok (dm0 ++ (List.range' 38 41).map (fun i => i + 41 * 6)) := (fz_ok0.app (fz_okA 6 (by decide)))
  generalize hdm1 : dm0 ++ (List.range' 38 41).map (fun i => i + 41 * 6) = dm1 at hP hD hok1
  have ed1 : dm1 = ([] ++ (List.range' 38 41).map (fun i => i + 41 * 6)) := by rw [← hdm1, ed0]
  have hq1_284 : ad1 284 = n21 := hn1.trans hapn21
  refine lv_aload_n hx hb dX9_init_31 rfl (lv_at hl 0 rfl) ?_
  refine va_new (ci := 4) (fs := [.null, .null, .null, .null, .int 0, .int 0, .int 0, .int 0, .int 0]) (C := RX4) (T := TX4) (N := 9) hx hb hts ti_X4 tyX4 tyX4_ok hown (hts _ th12) (hts _ th13) (hts _ th14) hK hP hD hS hA rfl (fun j hj => by match j, hj with | 0, _ => rfl | 1, _ => rfl | 2, _ => rfl | 3, _ => rfl | 4, _ => rfl | 5, _ => rfl | 6, _ => rfl | 7, _ => rfl | 8, _ => rfl) (Nat.le_of_ble_eq_true rfl) (Nat.le_of_ble_eq_true rfl) dX9_init_32 (fun n32 H hP hD hS => ?_)
  refine lv_dup hx hb dX9_init_35 rfl ?_
  refine fz_cal (ws := ([(a0, .inr (9, [.ref q1, .ref q2, .ref n21, .null, .null, .null, .null, .null, .null, .null, .null, .null, .int 0, .int 0])), (q1, .inl (T 6, 3, .inr (.inr (.inr (.inr (fun _ => none)))))), (q2, .inl (T 6, 3, .inr (.inr (.inr (.inr (fun _ => none))))))] ++ fy_ls dm1 ad1 (fy_c T ad1 X_lay X_S0))) hP hD hS hA (by decide) (fz_runN (np := 0) (As := []) (rest := [.ref n32, .ref a0]) hx hb hml hown hts hK hN hO (fz_last hP) (cc_X4 l D T n32 H.size) ⟨tn25, th15, th14, th16, rfl, (by decide +kernel), (by decide +kernel), (by decide +kernel)⟩ ⟨(Nat.le_of_ble_eq_true rfl), (Nat.le_of_ble_eq_true rfl)⟩ rfl hl.1 rfl (Nat.le_of_ble_eq_true rfl) ⟨(Nat.le_of_ble_eq_true rfl), (Nat.le_of_ble_eq_true rfl)⟩ dX9_init_36) (fun apn32 H locs hapn32 hP hD hS => ?_)
  refine va_putF (D := D) (ci := 9) (v := .ref n32) (ty := .object "AlternatingAutomata$FormulaText") (C := RX9) (T := TX9) (N := 14) hx hb hts ti_X9 tyX9 tyX9_ok nmX9 hown hK hP hD hS 0 rfl rfl 3 (by decide) (hts _ th18) (fun _ h9 => h9) rfl hin rfl rfl rfl rfl (Nat.le_of_ble_eq_true rfl) dX9_init_39 (fun H locs hP hD hS => ?_)
  have hP : va_P D vwCl (([(a0, .inr (9, [.ref q1, .ref q2, .ref n21, .ref n32, .null, .null, .null, .null, .null, .null, .null, .null, .int 0, .int 0])), (q1, .inl (T 6, 3, .inr (.inr (.inr (.inr (fun _ => none)))))), (q2, .inl (T 6, 3, .inr (.inr (.inr (.inr (fun _ => none))))))] ++ fy_ls dm1 ad1 (fy_c T ad1 X_lay X_S0)) ++ fy_ls [3, 4, 5, 6, 7] apn32 (fy_c T apn32 X_lay X_S0)) H := hP
  have hD : va_D (fz_A a0 s.heap.size) (([(a0, .inr (9, [.ref q1, .ref q2, .ref n21, .ref n32, .null, .null, .null, .null, .null, .null, .null, .null, .int 0, .int 0])), (q1, .inl (T 6, 3, .inr (.inr (.inr (.inr (fun _ => none)))))), (q2, .inl (T 6, 3, .inr (.inr (.inr (.inr (fun _ => none))))))] ++ fy_ls dm1 ad1 (fy_c T ad1 X_lay X_S0)) ++ fy_ls [3, 4, 5, 6, 7] apn32 (fy_c T apn32 X_lay X_S0)) := hD
  have hkk31 : fz_ok [3, 4, 5, 6, 7] := ⟨by decide +kernel, by decide +kernel⟩
  obtain ⟨ad2, ho2, hn2, hP, hD⟩ := fz_mrgI hP hD hok1 hkk31 (by rw [ed1]; decide +kernel)
  have hok2 : fz_ok (dm1 ++ [3, 4, 5, 6, 7]) := (hok1.app hkk31)
  generalize hdm2 : dm1 ++ [3, 4, 5, 6, 7] = dm2 at hP hD hok2
  have ed2 : dm2 = (([] ++ (List.range' 38 41).map (fun i => i + 41 * 6)) ++ [3, 4, 5, 6, 7]) := by rw [← hdm2, ed1]
  have hq2_3 : ad2 3 = n32 := (hn2 3 (by decide)).trans hapn32
  have hq2_284 : ad2 284 = n21 := (ho2 284 (by rw [ed1]; decide +kernel)).trans hq1_284
  refine lv_aload_n hx hb dX9_init_42 rfl (lv_at hl 0 rfl) ?_
  refine va_new (ci := 3) (fs := [.null, .int 0, .null, .null, .int 0]) (C := RX3) (T := TX3) (N := 5) hx hb hts ti_X3 tyX3 tyX3_ok hown (hts _ th19) (hts _ th20) (hts _ th21) hK hP hD hS hA rfl (fun j hj => by match j, hj with | 0, _ => rfl | 1, _ => rfl | 2, _ => rfl | 3, _ => rfl | 4, _ => rfl) (Nat.le_of_ble_eq_true rfl) (Nat.le_of_ble_eq_true rfl) dX9_init_43 (fun n43 H hP hD hS => ?_)
  refine lv_dup hx hb dX9_init_46 rfl ?_
  refine fz_cal (ws := ([(a0, .inr (9, [.ref q1, .ref q2, .ref n21, .ref n32, .null, .null, .null, .null, .null, .null, .null, .null, .int 0, .int 0])), (q1, .inl (T 6, 3, .inr (.inr (.inr (.inr (fun _ => none)))))), (q2, .inl (T 6, 3, .inr (.inr (.inr (.inr (fun _ => none))))))] ++ fy_ls dm2 ad2 (fy_c T ad2 X_lay X_S0))) hP hD hS hA (by decide) (fz_runN (np := 0) (As := []) (rest := [.ref n43, .ref a0]) hx hb hml hown hts hK hN hO (fz_last hP) (cc_X3 l D T n43 H.size) ⟨tn32, th22, th21, th23, rfl, (by decide +kernel), (by decide +kernel), (by decide +kernel)⟩ ⟨(Nat.le_of_ble_eq_true rfl), (Nat.le_of_ble_eq_true rfl)⟩ rfl hl.1 rfl (Nat.le_of_ble_eq_true rfl) ⟨(Nat.le_of_ble_eq_true rfl), (Nat.le_of_ble_eq_true rfl)⟩ dX9_init_47) (fun apn43 H locs hapn43 hP hD hS => ?_)
  refine va_putF (D := D) (ci := 9) (v := .ref n43) (ty := .object "AlternatingAutomata$FormulaPrinter") (C := RX9) (T := TX9) (N := 14) hx hb hts ti_X9 tyX9 tyX9_ok nmX9 hown hK hP hD hS 0 rfl rfl 4 (by decide) (hts _ th25) (fun _ h9 => h9) rfl hin rfl rfl rfl rfl (Nat.le_of_ble_eq_true rfl) dX9_init_50 (fun H locs hP hD hS => ?_)
  have hP : va_P D vwCl (([(a0, .inr (9, [.ref q1, .ref q2, .ref n21, .ref n32, .ref n43, .null, .null, .null, .null, .null, .null, .null, .int 0, .int 0])), (q1, .inl (T 6, 3, .inr (.inr (.inr (.inr (fun _ => none)))))), (q2, .inl (T 6, 3, .inr (.inr (.inr (.inr (fun _ => none))))))] ++ fy_ls dm2 ad2 (fy_c T ad2 X_lay X_S0)) ++ fy_ls [8, 9, 10, 11] apn43 (fy_c T apn43 X_lay X_S0)) H := hP
  have hD : va_D (fz_A a0 s.heap.size) (([(a0, .inr (9, [.ref q1, .ref q2, .ref n21, .ref n32, .ref n43, .null, .null, .null, .null, .null, .null, .null, .int 0, .int 0])), (q1, .inl (T 6, 3, .inr (.inr (.inr (.inr (fun _ => none)))))), (q2, .inl (T 6, 3, .inr (.inr (.inr (.inr (fun _ => none))))))] ++ fy_ls dm2 ad2 (fy_c T ad2 X_lay X_S0)) ++ fy_ls [8, 9, 10, 11] apn43 (fy_c T apn43 X_lay X_S0)) := hD
  have hkk42 : fz_ok [8, 9, 10, 11] := ⟨by decide +kernel, by decide +kernel⟩
  obtain ⟨ad3, ho3, hn3, hP, hD⟩ := fz_mrgI hP hD hok2 hkk42 (by rw [ed2]; decide +kernel)
  have hok3 : fz_ok (dm2 ++ [8, 9, 10, 11]) := (hok2.app hkk42)
  generalize hdm3 : dm2 ++ [8, 9, 10, 11] = dm3 at hP hD hok3
  have ed3 : dm3 = ((([] ++ (List.range' 38 41).map (fun i => i + 41 * 6)) ++ [3, 4, 5, 6, 7]) ++ [8, 9, 10, 11]) := by rw [← hdm3, ed2]
  have hq3_8 : ad3 8 = n43 := (hn3 8 (by decide)).trans hapn43
  have hq3_284 : ad3 284 = n21 := (ho3 284 (by rw [ed2]; decide +kernel)).trans hq2_284
  have hq3_3 : ad3 3 = n32 := (ho3 3 (by rw [ed2]; decide +kernel)).trans hq2_3
  refine lv_aload_n hx hb dX9_init_53 rfl (lv_at hl 0 rfl) ?_
  refine va_new (ci := 8) (fs := [.null, .int 0]) (C := RX8) (T := TX8) (N := 2) hx hb hts ti_X8 tyX8 tyX8_ok hown (hts _ th26) (hts _ th27) (hts _ th28) hK hP hD hS hA rfl (fun j hj => by match j, hj with | 0, _ => rfl | 1, _ => rfl) (Nat.le_of_ble_eq_true rfl) (Nat.le_of_ble_eq_true rfl) dX9_init_54 (fun n54 H hP hD hS => ?_)
  refine lv_dup hx hb dX9_init_57 rfl ?_
  refine lv_bipush (v := (12 : Int32)) hx hb dX9_init_58 (by decide) ?_
  refine fz_cal (ws := ([(a0, .inr (9, [.ref q1, .ref q2, .ref n21, .ref n32, .ref n43, .null, .null, .null, .null, .null, .null, .null, .int 0, .int 0])), (q1, .inl (T 6, 3, .inr (.inr (.inr (.inr (fun _ => none)))))), (q2, .inl (T 6, 3, .inr (.inr (.inr (.inr (fun _ => none))))))] ++ fy_ls dm3 ad3 (fy_c T ad3 X_lay X_S0))) hP hD hS hA (by decide) (fz_run (np := 1) (As := [.int (12 : Int32)]) (rest := [.ref n54, .ref a0]) hx hb hml hown hts hK hN hO (fz_last hP) (cc_X8_12 l D T n54 H.size) ⟨th31, th29, th28, th30, rfl, (by decide +kernel), (by decide +kernel), (by decide +kernel)⟩ ⟨(Nat.le_of_ble_eq_true rfl), (Nat.le_of_ble_eq_true rfl)⟩ rfl hl.1 rfl (Nat.le_of_ble_eq_true rfl) ⟨(Nat.le_of_ble_eq_true rfl), (Nat.le_of_ble_eq_true rfl)⟩ dX9_init_60) (fun apn54 H locs hapn54 hP hD hS => ?_)
  refine va_putF (D := D) (ci := 9) (v := .ref n54) (ty := .object "AlternatingAutomata$Word") (C := RX9) (T := TX9) (N := 14) hx hb hts ti_X9 tyX9 tyX9_ok nmX9 hown hK hP hD hS 0 rfl rfl 5 (by decide) (hts _ th32) (fun _ h9 => h9) rfl hin rfl rfl rfl rfl (Nat.le_of_ble_eq_true rfl) dX9_init_63 (fun H locs hP hD hS => ?_)
  have hP : va_P D vwCl (([(a0, .inr (9, [.ref q1, .ref q2, .ref n21, .ref n32, .ref n43, .ref n54, .null, .null, .null, .null, .null, .null, .int 0, .int 0])), (q1, .inl (T 6, 3, .inr (.inr (.inr (.inr (fun _ => none)))))), (q2, .inl (T 6, 3, .inr (.inr (.inr (.inr (fun _ => none))))))] ++ fy_ls dm3 ad3 (fy_c T ad3 X_lay X_S0)) ++ fy_ls [12, 13] apn54 (fy_c T apn54 X_lay X_S0)) H := hP
  have hD : va_D (fz_A a0 s.heap.size) (([(a0, .inr (9, [.ref q1, .ref q2, .ref n21, .ref n32, .ref n43, .ref n54, .null, .null, .null, .null, .null, .null, .int 0, .int 0])), (q1, .inl (T 6, 3, .inr (.inr (.inr (.inr (fun _ => none)))))), (q2, .inl (T 6, 3, .inr (.inr (.inr (.inr (fun _ => none))))))] ++ fy_ls dm3 ad3 (fy_c T ad3 X_lay X_S0)) ++ fy_ls [12, 13] apn54 (fy_c T apn54 X_lay X_S0)) := hD
  have hkk53 : fz_ok [12, 13] := ⟨by decide +kernel, by decide +kernel⟩
  obtain ⟨ad4, ho4, hn4, hP, hD⟩ := fz_mrgI hP hD hok3 hkk53 (by rw [ed3]; decide +kernel)
  have hok4 : fz_ok (dm3 ++ [12, 13]) := (hok3.app hkk53)
  generalize hdm4 : dm3 ++ [12, 13] = dm4 at hP hD hok4
  have ed4 : dm4 = (((([] ++ (List.range' 38 41).map (fun i => i + 41 * 6)) ++ [3, 4, 5, 6, 7]) ++ [8, 9, 10, 11]) ++ [12, 13]) := by rw [← hdm4, ed3]
  have hq4_12 : ad4 12 = n54 := (hn4 12 (by decide)).trans hapn54
  have hq4_284 : ad4 284 = n21 := (ho4 284 (by rw [ed3]; decide +kernel)).trans hq3_284
  have hq4_3 : ad4 3 = n32 := (ho4 3 (by rw [ed3]; decide +kernel)).trans hq3_3
  have hq4_8 : ad4 8 = n43 := (ho4 8 (by rw [ed3]; decide +kernel)).trans hq3_8
  refine lv_aload_n hx hb dX9_init_66 rfl (lv_at hl 0 rfl) ?_
  refine va_new (ci := 8) (fs := [.null, .int 0]) (C := RX8) (T := TX8) (N := 2) hx hb hts ti_X8 tyX8 tyX8_ok hown (hts _ th26) (hts _ th27) (hts _ th28) hK hP hD hS hA rfl (fun j hj => by match j, hj with | 0, _ => rfl | 1, _ => rfl) (Nat.le_of_ble_eq_true rfl) (Nat.le_of_ble_eq_true rfl) dX9_init_67 (fun n67 H hP hD hS => ?_)
  refine lv_dup hx hb dX9_init_70 rfl ?_
  refine lv_sipush (v := (128 : Int32)) hx hb dX9_init_71 (by decide) ?_
  refine fz_cal (ws := ([(a0, .inr (9, [.ref q1, .ref q2, .ref n21, .ref n32, .ref n43, .ref n54, .null, .null, .null, .null, .null, .null, .int 0, .int 0])), (q1, .inl (T 6, 3, .inr (.inr (.inr (.inr (fun _ => none)))))), (q2, .inl (T 6, 3, .inr (.inr (.inr (.inr (fun _ => none))))))] ++ fy_ls dm4 ad4 (fy_c T ad4 X_lay X_S0))) hP hD hS hA (by decide) (fz_run (np := 1) (As := [.int (128 : Int32)]) (rest := [.ref n67, .ref a0]) hx hb hml hown hts hK hN hO (fz_last hP) (cc_X8_14 l D T n67 H.size) ⟨th31, th29, th28, th30, rfl, (by decide +kernel), (by decide +kernel), (by decide +kernel)⟩ ⟨(Nat.le_of_ble_eq_true rfl), (Nat.le_of_ble_eq_true rfl)⟩ rfl hl.1 rfl (Nat.le_of_ble_eq_true rfl) ⟨(Nat.le_of_ble_eq_true rfl), (Nat.le_of_ble_eq_true rfl)⟩ dX9_init_74) (fun apn67 H locs hapn67 hP hD hS => ?_)
  refine va_putF (D := D) (ci := 9) (v := .ref n67) (ty := .object "AlternatingAutomata$Word") (C := RX9) (T := TX9) (N := 14) hx hb hts ti_X9 tyX9 tyX9_ok nmX9 hown hK hP hD hS 0 rfl rfl 6 (by decide) (hts _ th33) (fun _ h9 => h9) rfl hin rfl rfl rfl rfl (Nat.le_of_ble_eq_true rfl) dX9_init_77 (fun H locs hP hD hS => ?_)
  have hP : va_P D vwCl (([(a0, .inr (9, [.ref q1, .ref q2, .ref n21, .ref n32, .ref n43, .ref n54, .ref n67, .null, .null, .null, .null, .null, .int 0, .int 0])), (q1, .inl (T 6, 3, .inr (.inr (.inr (.inr (fun _ => none)))))), (q2, .inl (T 6, 3, .inr (.inr (.inr (.inr (fun _ => none))))))] ++ fy_ls dm4 ad4 (fy_c T ad4 X_lay X_S0)) ++ fy_ls [14, 15] apn67 (fy_c T apn67 X_lay X_S0)) H := hP
  have hD : va_D (fz_A a0 s.heap.size) (([(a0, .inr (9, [.ref q1, .ref q2, .ref n21, .ref n32, .ref n43, .ref n54, .ref n67, .null, .null, .null, .null, .null, .int 0, .int 0])), (q1, .inl (T 6, 3, .inr (.inr (.inr (.inr (fun _ => none)))))), (q2, .inl (T 6, 3, .inr (.inr (.inr (.inr (fun _ => none))))))] ++ fy_ls dm4 ad4 (fy_c T ad4 X_lay X_S0)) ++ fy_ls [14, 15] apn67 (fy_c T apn67 X_lay X_S0)) := hD
  have hkk66 : fz_ok [14, 15] := ⟨by decide +kernel, by decide +kernel⟩
  obtain ⟨ad5, ho5, hn5, hP, hD⟩ := fz_mrgI hP hD hok4 hkk66 (by rw [ed4]; decide +kernel)
  have hok5 : fz_ok (dm4 ++ [14, 15]) := (hok4.app hkk66)
  generalize hdm5 : dm4 ++ [14, 15] = dm5 at hP hD hok5
  have ed5 : dm5 = ((((([] ++ (List.range' 38 41).map (fun i => i + 41 * 6)) ++ [3, 4, 5, 6, 7]) ++ [8, 9, 10, 11]) ++ [12, 13]) ++ [14, 15]) := by rw [← hdm5, ed4]
  have hq5_14 : ad5 14 = n67 := (hn5 14 (by decide)).trans hapn67
  have hq5_284 : ad5 284 = n21 := (ho5 284 (by rw [ed4]; decide +kernel)).trans hq4_284
  have hq5_3 : ad5 3 = n32 := (ho5 3 (by rw [ed4]; decide +kernel)).trans hq4_3
  have hq5_8 : ad5 8 = n43 := (ho5 8 (by rw [ed4]; decide +kernel)).trans hq4_8
  have hq5_12 : ad5 12 = n54 := (ho5 12 (by rw [ed4]; decide +kernel)).trans hq4_12
  refine lv_aload_n hx hb dX9_init_80 rfl (lv_at hl 0 rfl) ?_
  refine va_new (ci := 5) (fs := [.null, .null, .null]) (C := RX5) (T := TX5) (N := 3) hx hb hts ti_X5 tyX5 tyX5_ok hown (hts _ th34) (hts _ th35) (hts _ th36) hK hP hD hS hA rfl (fun j hj => by match j, hj with | 0, _ => rfl | 1, _ => rfl | 2, _ => rfl) (Nat.le_of_ble_eq_true rfl) (Nat.le_of_ble_eq_true rfl) dX9_init_81 (fun n81 H hP hD hS => ?_)
  refine lv_dup hx hb dX9_init_84 rfl ?_
  refine fz_cal (ws := ([(a0, .inr (9, [.ref q1, .ref q2, .ref n21, .ref n32, .ref n43, .ref n54, .ref n67, .null, .null, .null, .null, .null, .int 0, .int 0])), (q1, .inl (T 6, 3, .inr (.inr (.inr (.inr (fun _ => none)))))), (q2, .inl (T 6, 3, .inr (.inr (.inr (.inr (fun _ => none))))))] ++ fy_ls dm5 ad5 (fy_c T ad5 X_lay X_S0))) hP hD hS hA (by decide) (fz_runN (np := 0) (As := []) (rest := [.ref n81, .ref a0]) hx hb hml hown hts hK hN hO (fz_last hP) (cc_X5 l D T n81 H.size) ⟨tn51, th37, th36, th38, rfl, (by decide +kernel), (by decide +kernel), (by decide +kernel)⟩ ⟨(Nat.le_of_ble_eq_true rfl), (Nat.le_of_ble_eq_true rfl)⟩ rfl hl.1 rfl (Nat.le_of_ble_eq_true rfl) ⟨(Nat.le_of_ble_eq_true rfl), (Nat.le_of_ble_eq_true rfl)⟩ dX9_init_85) (fun apn81 H locs hapn81 hP hD hS => ?_)
  refine va_putF (D := D) (ci := 9) (v := .ref n81) (ty := .object "AlternatingAutomata$Game") (C := RX9) (T := TX9) (N := 14) hx hb hts ti_X9 tyX9 tyX9_ok nmX9 hown hK hP hD hS 0 rfl rfl 7 (by decide) (hts _ th40) (fun _ h9 => h9) rfl hin rfl rfl rfl rfl (Nat.le_of_ble_eq_true rfl) dX9_init_88 (fun H locs hP hD hS => ?_)
  have hP : va_P D vwCl (([(a0, .inr (9, [.ref q1, .ref q2, .ref n21, .ref n32, .ref n43, .ref n54, .ref n67, .ref n81, .null, .null, .null, .null, .int 0, .int 0])), (q1, .inl (T 6, 3, .inr (.inr (.inr (.inr (fun _ => none)))))), (q2, .inl (T 6, 3, .inr (.inr (.inr (.inr (fun _ => none))))))] ++ fy_ls dm5 ad5 (fy_c T ad5 X_lay X_S0)) ++ fy_ls [16, 17, 18, 19] apn81 (fy_c T apn81 X_lay X_S0)) H := hP
  have hD : va_D (fz_A a0 s.heap.size) (([(a0, .inr (9, [.ref q1, .ref q2, .ref n21, .ref n32, .ref n43, .ref n54, .ref n67, .ref n81, .null, .null, .null, .null, .int 0, .int 0])), (q1, .inl (T 6, 3, .inr (.inr (.inr (.inr (fun _ => none)))))), (q2, .inl (T 6, 3, .inr (.inr (.inr (.inr (fun _ => none))))))] ++ fy_ls dm5 ad5 (fy_c T ad5 X_lay X_S0)) ++ fy_ls [16, 17, 18, 19] apn81 (fy_c T apn81 X_lay X_S0)) := hD
  have hkk80 : fz_ok [16, 17, 18, 19] := ⟨by decide +kernel, by decide +kernel⟩
  obtain ⟨ad6, ho6, hn6, hP, hD⟩ := fz_mrgI hP hD hok5 hkk80 (by rw [ed5]; decide +kernel)
  have hok6 : fz_ok (dm5 ++ [16, 17, 18, 19]) := (hok5.app hkk80)
  generalize hdm6 : dm5 ++ [16, 17, 18, 19] = dm6 at hP hD hok6
  have ed6 : dm6 = (((((([] ++ (List.range' 38 41).map (fun i => i + 41 * 6)) ++ [3, 4, 5, 6, 7]) ++ [8, 9, 10, 11]) ++ [12, 13]) ++ [14, 15]) ++ [16, 17, 18, 19]) := by rw [← hdm6, ed5]
  have hq6_16 : ad6 16 = n81 := (hn6 16 (by decide)).trans hapn81
  have hq6_284 : ad6 284 = n21 := (ho6 284 (by rw [ed5]; decide +kernel)).trans hq5_284
  have hq6_3 : ad6 3 = n32 := (ho6 3 (by rw [ed5]; decide +kernel)).trans hq5_3
  have hq6_8 : ad6 8 = n43 := (ho6 8 (by rw [ed5]; decide +kernel)).trans hq5_8
  have hq6_12 : ad6 12 = n54 := (ho6 12 (by rw [ed5]; decide +kernel)).trans hq5_12
  have hq6_14 : ad6 14 = n67 := (ho6 14 (by rw [ed5]; decide +kernel)).trans hq5_14
  refine lv_aload_n hx hb dX9_init_91 rfl (lv_at hl 0 rfl) ?_
  refine va_new (ci := 7) (fs := [.null, .null, .null, .null, .null, .int 0, .int 0, .long 0]) (C := RX7) (T := TX7) (N := 8) hx hb hts ti_X7 tyX7 tyX7_ok hown (hts _ th41) (hts _ th42) (hts _ th43) hK hP hD hS hA rfl (fun j hj => by match j, hj with | 0, _ => rfl | 1, _ => rfl | 2, _ => rfl | 3, _ => rfl | 4, _ => rfl | 5, _ => rfl | 6, _ => rfl | 7, _ => rfl) (Nat.le_of_ble_eq_true rfl) (Nat.le_of_ble_eq_true rfl) dX9_init_92 (fun n92 H hP hD hS => ?_)
  refine lv_dup hx hb dX9_init_95 rfl ?_
  refine fz_cal (ws := ([(a0, .inr (9, [.ref q1, .ref q2, .ref n21, .ref n32, .ref n43, .ref n54, .ref n67, .ref n81, .null, .null, .null, .null, .int 0, .int 0])), (q1, .inl (T 6, 3, .inr (.inr (.inr (.inr (fun _ => none)))))), (q2, .inl (T 6, 3, .inr (.inr (.inr (.inr (fun _ => none))))))] ++ fy_ls dm6 ad6 (fy_c T ad6 X_lay X_S0))) hP hD hS hA (by decide) (fz_runN (np := 0) (As := []) (rest := [.ref n92, .ref a0]) hx hb hml hown hts hK hN hO (fz_last hP) (cc_X7_20 l D T n92 H.size) ⟨tn58, th44, th43, th45, rfl, (by decide +kernel), (by decide +kernel), (by decide +kernel)⟩ ⟨(Nat.le_of_ble_eq_true rfl), (Nat.le_of_ble_eq_true rfl)⟩ rfl hl.1 rfl (Nat.le_of_ble_eq_true rfl) ⟨(Nat.le_of_ble_eq_true rfl), (Nat.le_of_ble_eq_true rfl)⟩ dX9_init_96) (fun apn92 H locs hapn92 hP hD hS => ?_)
  refine va_putF (D := D) (ci := 9) (v := .ref n92) (ty := .object "AlternatingAutomata$ReverseAutomaton") (C := RX9) (T := TX9) (N := 14) hx hb hts ti_X9 tyX9 tyX9_ok nmX9 hown hK hP hD hS 0 rfl rfl 8 (by decide) (hts _ th47) (fun _ h9 => h9) rfl hin rfl rfl rfl rfl (Nat.le_of_ble_eq_true rfl) dX9_init_99 (fun H locs hP hD hS => ?_)
  have hP : va_P D vwCl (([(a0, .inr (9, [.ref q1, .ref q2, .ref n21, .ref n32, .ref n43, .ref n54, .ref n67, .ref n81, .ref n92, .null, .null, .null, .int 0, .int 0])), (q1, .inl (T 6, 3, .inr (.inr (.inr (.inr (fun _ => none)))))), (q2, .inl (T 6, 3, .inr (.inr (.inr (.inr (fun _ => none))))))] ++ fy_ls dm6 ad6 (fy_c T ad6 X_lay X_S0)) ++ fy_ls [20, 21, 22, 23, 24, 25] apn92 (fy_c T apn92 X_lay X_S0)) H := hP
  have hD : va_D (fz_A a0 s.heap.size) (([(a0, .inr (9, [.ref q1, .ref q2, .ref n21, .ref n32, .ref n43, .ref n54, .ref n67, .ref n81, .ref n92, .null, .null, .null, .int 0, .int 0])), (q1, .inl (T 6, 3, .inr (.inr (.inr (.inr (fun _ => none)))))), (q2, .inl (T 6, 3, .inr (.inr (.inr (.inr (fun _ => none))))))] ++ fy_ls dm6 ad6 (fy_c T ad6 X_lay X_S0)) ++ fy_ls [20, 21, 22, 23, 24, 25] apn92 (fy_c T apn92 X_lay X_S0)) := hD
  have hkk91 : fz_ok [20, 21, 22, 23, 24, 25] := ⟨by decide +kernel, by decide +kernel⟩
  obtain ⟨ad7, ho7, hn7, hP, hD⟩ := fz_mrgI hP hD hok6 hkk91 (by rw [ed6]; decide +kernel)
  have hok7 : fz_ok (dm6 ++ [20, 21, 22, 23, 24, 25]) := (hok6.app hkk91)
  generalize hdm7 : dm6 ++ [20, 21, 22, 23, 24, 25] = dm7 at hP hD hok7
  have ed7 : dm7 = ((((((([] ++ (List.range' 38 41).map (fun i => i + 41 * 6)) ++ [3, 4, 5, 6, 7]) ++ [8, 9, 10, 11]) ++ [12, 13]) ++ [14, 15]) ++ [16, 17, 18, 19]) ++ [20, 21, 22, 23, 24, 25]) := by rw [← hdm7, ed6]
  have hq7_20 : ad7 20 = n92 := (hn7 20 (by decide)).trans hapn92
  have hq7_284 : ad7 284 = n21 := (ho7 284 (by rw [ed6]; decide +kernel)).trans hq6_284
  have hq7_3 : ad7 3 = n32 := (ho7 3 (by rw [ed6]; decide +kernel)).trans hq6_3
  have hq7_8 : ad7 8 = n43 := (ho7 8 (by rw [ed6]; decide +kernel)).trans hq6_8
  have hq7_12 : ad7 12 = n54 := (ho7 12 (by rw [ed6]; decide +kernel)).trans hq6_12
  have hq7_14 : ad7 14 = n67 := (ho7 14 (by rw [ed6]; decide +kernel)).trans hq6_14
  have hq7_16 : ad7 16 = n81 := (ho7 16 (by rw [ed6]; decide +kernel)).trans hq6_16
  refine lv_aload_n hx hb dX9_init_102 rfl (lv_at hl 0 rfl) ?_
  refine va_new (ci := 7) (fs := [.null, .null, .null, .null, .null, .int 0, .int 0, .long 0]) (C := RX7) (T := TX7) (N := 8) hx hb hts ti_X7 tyX7 tyX7_ok hown (hts _ th41) (hts _ th42) (hts _ th43) hK hP hD hS hA rfl (fun j hj => by match j, hj with | 0, _ => rfl | 1, _ => rfl | 2, _ => rfl | 3, _ => rfl | 4, _ => rfl | 5, _ => rfl | 6, _ => rfl | 7, _ => rfl) (Nat.le_of_ble_eq_true rfl) (Nat.le_of_ble_eq_true rfl) dX9_init_103 (fun n103 H hP hD hS => ?_)
  refine lv_dup hx hb dX9_init_106 rfl ?_
  refine fz_cal (ws := ([(a0, .inr (9, [.ref q1, .ref q2, .ref n21, .ref n32, .ref n43, .ref n54, .ref n67, .ref n81, .ref n92, .null, .null, .null, .int 0, .int 0])), (q1, .inl (T 6, 3, .inr (.inr (.inr (.inr (fun _ => none)))))), (q2, .inl (T 6, 3, .inr (.inr (.inr (.inr (fun _ => none))))))] ++ fy_ls dm7 ad7 (fy_c T ad7 X_lay X_S0))) hP hD hS hA (by decide) (fz_runN (np := 0) (As := []) (rest := [.ref n103, .ref a0]) hx hb hml hown hts hK hN hO (fz_last hP) (cc_X7_26 l D T n103 H.size) ⟨tn58, th44, th43, th45, rfl, (by decide +kernel), (by decide +kernel), (by decide +kernel)⟩ ⟨(Nat.le_of_ble_eq_true rfl), (Nat.le_of_ble_eq_true rfl)⟩ rfl hl.1 rfl (Nat.le_of_ble_eq_true rfl) ⟨(Nat.le_of_ble_eq_true rfl), (Nat.le_of_ble_eq_true rfl)⟩ dX9_init_107) (fun apn103 H locs hapn103 hP hD hS => ?_)
  refine va_putF (D := D) (ci := 9) (v := .ref n103) (ty := .object "AlternatingAutomata$ReverseAutomaton") (C := RX9) (T := TX9) (N := 14) hx hb hts ti_X9 tyX9 tyX9_ok nmX9 hown hK hP hD hS 0 rfl rfl 9 (by decide) (hts _ th48) (fun _ h9 => h9) rfl hin rfl rfl rfl rfl (Nat.le_of_ble_eq_true rfl) dX9_init_110 (fun H locs hP hD hS => ?_)
  have hP : va_P D vwCl (([(a0, .inr (9, [.ref q1, .ref q2, .ref n21, .ref n32, .ref n43, .ref n54, .ref n67, .ref n81, .ref n92, .ref n103, .null, .null, .int 0, .int 0])), (q1, .inl (T 6, 3, .inr (.inr (.inr (.inr (fun _ => none)))))), (q2, .inl (T 6, 3, .inr (.inr (.inr (.inr (fun _ => none))))))] ++ fy_ls dm7 ad7 (fy_c T ad7 X_lay X_S0)) ++ fy_ls [26, 27, 28, 29, 30, 31] apn103 (fy_c T apn103 X_lay X_S0)) H := hP
  have hD : va_D (fz_A a0 s.heap.size) (([(a0, .inr (9, [.ref q1, .ref q2, .ref n21, .ref n32, .ref n43, .ref n54, .ref n67, .ref n81, .ref n92, .ref n103, .null, .null, .int 0, .int 0])), (q1, .inl (T 6, 3, .inr (.inr (.inr (.inr (fun _ => none)))))), (q2, .inl (T 6, 3, .inr (.inr (.inr (.inr (fun _ => none))))))] ++ fy_ls dm7 ad7 (fy_c T ad7 X_lay X_S0)) ++ fy_ls [26, 27, 28, 29, 30, 31] apn103 (fy_c T apn103 X_lay X_S0)) := hD
  have hkk102 : fz_ok [26, 27, 28, 29, 30, 31] := ⟨by decide +kernel, by decide +kernel⟩
  obtain ⟨ad8, ho8, hn8, hP, hD⟩ := fz_mrgI hP hD hok7 hkk102 (by rw [ed7]; decide +kernel)
  have hok8 : fz_ok (dm7 ++ [26, 27, 28, 29, 30, 31]) := (hok7.app hkk102)
  generalize hdm8 : dm7 ++ [26, 27, 28, 29, 30, 31] = dm8 at hP hD hok8
  have ed8 : dm8 = (((((((([] ++ (List.range' 38 41).map (fun i => i + 41 * 6)) ++ [3, 4, 5, 6, 7]) ++ [8, 9, 10, 11]) ++ [12, 13]) ++ [14, 15]) ++ [16, 17, 18, 19]) ++ [20, 21, 22, 23, 24, 25]) ++ [26, 27, 28, 29, 30, 31]) := by rw [← hdm8, ed7]
  have hq8_26 : ad8 26 = n103 := (hn8 26 (by decide)).trans hapn103
  have hq8_284 : ad8 284 = n21 := (ho8 284 (by rw [ed7]; decide +kernel)).trans hq7_284
  have hq8_3 : ad8 3 = n32 := (ho8 3 (by rw [ed7]; decide +kernel)).trans hq7_3
  have hq8_8 : ad8 8 = n43 := (ho8 8 (by rw [ed7]; decide +kernel)).trans hq7_8
  have hq8_12 : ad8 12 = n54 := (ho8 12 (by rw [ed7]; decide +kernel)).trans hq7_12
  have hq8_14 : ad8 14 = n67 := (ho8 14 (by rw [ed7]; decide +kernel)).trans hq7_14
  have hq8_16 : ad8 16 = n81 := (ho8 16 (by rw [ed7]; decide +kernel)).trans hq7_16
  have hq8_20 : ad8 20 = n92 := (ho8 20 (by rw [ed7]; decide +kernel)).trans hq7_20
  refine lv_aload_n hx hb dX9_init_113 rfl (lv_at hl 0 rfl) ?_
  refine va_new (ci := 1) (fs := [.null, .int 0]) (C := RX1) (T := TX1) (N := 2) hx hb hts ti_X1 tyX1 tyX1_ok hown (hts _ th49) (hts _ th50) (hts _ th51) hK hP hD hS hA rfl (fun j hj => by match j, hj with | 0, _ => rfl | 1, _ => rfl) (Nat.le_of_ble_eq_true rfl) (Nat.le_of_ble_eq_true rfl) dX9_init_114 (fun n114 H hP hD hS => ?_)
  refine lv_dup hx hb dX9_init_117 rfl ?_
  refine fz_cal (ws := ([(a0, .inr (9, [.ref q1, .ref q2, .ref n21, .ref n32, .ref n43, .ref n54, .ref n67, .ref n81, .ref n92, .ref n103, .null, .null, .int 0, .int 0])), (q1, .inl (T 6, 3, .inr (.inr (.inr (.inr (fun _ => none)))))), (q2, .inl (T 6, 3, .inr (.inr (.inr (.inr (fun _ => none))))))] ++ fy_ls dm8 ad8 (fy_c T ad8 X_lay X_S0))) hP hD hS hA (by decide) (fz_runN (np := 0) (As := []) (rest := [.ref n114, .ref a0]) hx hb hml hown hts hK hN hO (fz_last hP) (cc_X1 l D T n114 H.size) ⟨tn68, th52, th51, th53, rfl, (by decide +kernel), (by decide +kernel), (by decide +kernel)⟩ ⟨(Nat.le_of_ble_eq_true rfl), (Nat.le_of_ble_eq_true rfl)⟩ rfl hl.1 rfl (Nat.le_of_ble_eq_true rfl) ⟨(Nat.le_of_ble_eq_true rfl), (Nat.le_of_ble_eq_true rfl)⟩ dX9_init_118) (fun apn114 H locs hapn114 hP hD hS => ?_)
  refine va_putF (D := D) (ci := 9) (v := .ref n114) (ty := .object "AlternatingAutomata$CheapestSearch") (C := RX9) (T := TX9) (N := 14) hx hb hts ti_X9 tyX9 tyX9_ok nmX9 hown hK hP hD hS 0 rfl rfl 10 (by decide) (hts _ th55) (fun _ h9 => h9) rfl hin rfl rfl rfl rfl (Nat.le_of_ble_eq_true rfl) dX9_init_121 (fun H locs hP hD hS => ?_)
  have hP : va_P D vwCl (([(a0, .inr (9, [.ref q1, .ref q2, .ref n21, .ref n32, .ref n43, .ref n54, .ref n67, .ref n81, .ref n92, .ref n103, .ref n114, .null, .int 0, .int 0])), (q1, .inl (T 6, 3, .inr (.inr (.inr (.inr (fun _ => none)))))), (q2, .inl (T 6, 3, .inr (.inr (.inr (.inr (fun _ => none))))))] ++ fy_ls dm8 ad8 (fy_c T ad8 X_lay X_S0)) ++ fy_ls [32, 33] apn114 (fy_c T apn114 X_lay X_S0)) H := hP
  have hD : va_D (fz_A a0 s.heap.size) (([(a0, .inr (9, [.ref q1, .ref q2, .ref n21, .ref n32, .ref n43, .ref n54, .ref n67, .ref n81, .ref n92, .ref n103, .ref n114, .null, .int 0, .int 0])), (q1, .inl (T 6, 3, .inr (.inr (.inr (.inr (fun _ => none)))))), (q2, .inl (T 6, 3, .inr (.inr (.inr (.inr (fun _ => none))))))] ++ fy_ls dm8 ad8 (fy_c T ad8 X_lay X_S0)) ++ fy_ls [32, 33] apn114 (fy_c T apn114 X_lay X_S0)) := hD
  have hkk113 : fz_ok [32, 33] := ⟨by decide +kernel, by decide +kernel⟩
  obtain ⟨ad9, ho9, hn9, hP, hD⟩ := fz_mrgI hP hD hok8 hkk113 (by rw [ed8]; decide +kernel)
  have hok9 : fz_ok (dm8 ++ [32, 33]) := (hok8.app hkk113)
  generalize hdm9 : dm8 ++ [32, 33] = dm9 at hP hD hok9
  have ed9 : dm9 = ((((((((([] ++ (List.range' 38 41).map (fun i => i + 41 * 6)) ++ [3, 4, 5, 6, 7]) ++ [8, 9, 10, 11]) ++ [12, 13]) ++ [14, 15]) ++ [16, 17, 18, 19]) ++ [20, 21, 22, 23, 24, 25]) ++ [26, 27, 28, 29, 30, 31]) ++ [32, 33]) := by rw [← hdm9, ed8]
  have hq9_32 : ad9 32 = n114 := (hn9 32 (by decide)).trans hapn114
  have hq9_284 : ad9 284 = n21 := (ho9 284 (by rw [ed8]; decide +kernel)).trans hq8_284
  have hq9_3 : ad9 3 = n32 := (ho9 3 (by rw [ed8]; decide +kernel)).trans hq8_3
  have hq9_8 : ad9 8 = n43 := (ho9 8 (by rw [ed8]; decide +kernel)).trans hq8_8
  have hq9_12 : ad9 12 = n54 := (ho9 12 (by rw [ed8]; decide +kernel)).trans hq8_12
  have hq9_14 : ad9 14 = n67 := (ho9 14 (by rw [ed8]; decide +kernel)).trans hq8_14
  have hq9_16 : ad9 16 = n81 := (ho9 16 (by rw [ed8]; decide +kernel)).trans hq8_16
  have hq9_20 : ad9 20 = n92 := (ho9 20 (by rw [ed8]; decide +kernel)).trans hq8_20
  have hq9_26 : ad9 26 = n103 := (ho9 26 (by rw [ed8]; decide +kernel)).trans hq8_26
  refine lv_aload_n hx hb dX9_init_124 rfl (lv_at hl 0 rfl) ?_
  refine va_new (ci := 6) (fs := [.null, .null, .null, .int 0, .int 0]) (C := RX6) (T := TX6) (N := 5) hx hb hts ti_X6 tyX6 tyX6_ok hown (hts _ th56) (hts _ th57) (hts _ th58) hK hP hD hS hA rfl (fun j hj => by match j, hj with | 0, _ => rfl | 1, _ => rfl | 2, _ => rfl | 3, _ => rfl | 4, _ => rfl) (Nat.le_of_ble_eq_true rfl) (Nat.le_of_ble_eq_true rfl) dX9_init_125 (fun n125 H hP hD hS => ?_)
  refine lv_dup hx hb dX9_init_128 rfl ?_
  refine fz_cal (ws := ([(a0, .inr (9, [.ref q1, .ref q2, .ref n21, .ref n32, .ref n43, .ref n54, .ref n67, .ref n81, .ref n92, .ref n103, .ref n114, .null, .int 0, .int 0])), (q1, .inl (T 6, 3, .inr (.inr (.inr (.inr (fun _ => none)))))), (q2, .inl (T 6, 3, .inr (.inr (.inr (.inr (fun _ => none))))))] ++ fy_ls dm9 ad9 (fy_c T ad9 X_lay X_S0))) hP hD hS hA (by decide) (fz_run (np := 0) (As := []) (rest := [.ref n125, .ref a0]) hx hb hml hown hts hK hN hO (fz_last hP) (cc_X6 l D T n125 H.size) ⟨th61, th59, th58, th60, rfl, (by decide +kernel), (by decide +kernel), (by decide +kernel)⟩ ⟨(Nat.le_of_ble_eq_true rfl), (Nat.le_of_ble_eq_true rfl)⟩ rfl hl.1 rfl (Nat.le_of_ble_eq_true rfl) ⟨(Nat.le_of_ble_eq_true rfl), (Nat.le_of_ble_eq_true rfl)⟩ dX9_init_129) (fun apn125 H locs hapn125 hP hD hS => ?_)
  refine va_putF (D := D) (ci := 9) (v := .ref n125) (ty := .object "AlternatingAutomata$PairSearch") (C := RX9) (T := TX9) (N := 14) hx hb hts ti_X9 tyX9 tyX9_ok nmX9 hown hK hP hD hS 0 rfl rfl 11 (by decide) (hts _ th62) (fun _ h9 => h9) rfl hin rfl rfl rfl rfl (Nat.le_of_ble_eq_true rfl) dX9_init_132 (fun H locs hP hD hS => ?_)
  have hP : va_P D vwCl (([(a0, .inr (9, [.ref q1, .ref q2, .ref n21, .ref n32, .ref n43, .ref n54, .ref n67, .ref n81, .ref n92, .ref n103, .ref n114, .ref n125, .int 0, .int 0])), (q1, .inl (T 6, 3, .inr (.inr (.inr (.inr (fun _ => none)))))), (q2, .inl (T 6, 3, .inr (.inr (.inr (.inr (fun _ => none))))))] ++ fy_ls dm9 ad9 (fy_c T ad9 X_lay X_S0)) ++ fy_ls [34, 35, 36, 37] apn125 (fy_c T apn125 X_lay X_S0)) H := hP
  have hD : va_D (fz_A a0 s.heap.size) (([(a0, .inr (9, [.ref q1, .ref q2, .ref n21, .ref n32, .ref n43, .ref n54, .ref n67, .ref n81, .ref n92, .ref n103, .ref n114, .ref n125, .int 0, .int 0])), (q1, .inl (T 6, 3, .inr (.inr (.inr (.inr (fun _ => none)))))), (q2, .inl (T 6, 3, .inr (.inr (.inr (.inr (fun _ => none))))))] ++ fy_ls dm9 ad9 (fy_c T ad9 X_lay X_S0)) ++ fy_ls [34, 35, 36, 37] apn125 (fy_c T apn125 X_lay X_S0)) := hD
  have hkk124 : fz_ok [34, 35, 36, 37] := ⟨by decide +kernel, by decide +kernel⟩
  obtain ⟨ad10, ho10, hn10, hP, hD⟩ := fz_mrgI hP hD hok9 hkk124 (by rw [ed9]; decide +kernel)
  have hok10 : fz_ok (dm9 ++ [34, 35, 36, 37]) := (hok9.app hkk124)
  generalize hdm10 : dm9 ++ [34, 35, 36, 37] = dm10 at hP hD hok10
  have ed10 : dm10 = (((((((((([] ++ (List.range' 38 41).map (fun i => i + 41 * 6)) ++ [3, 4, 5, 6, 7]) ++ [8, 9, 10, 11]) ++ [12, 13]) ++ [14, 15]) ++ [16, 17, 18, 19]) ++ [20, 21, 22, 23, 24, 25]) ++ [26, 27, 28, 29, 30, 31]) ++ [32, 33]) ++ [34, 35, 36, 37]) := by rw [← hdm10, ed9]
  have hq10_34 : ad10 34 = n125 := (hn10 34 (by decide)).trans hapn125
  have hq10_284 : ad10 284 = n21 := (ho10 284 (by rw [ed9]; decide +kernel)).trans hq9_284
  have hq10_3 : ad10 3 = n32 := (ho10 3 (by rw [ed9]; decide +kernel)).trans hq9_3
  have hq10_8 : ad10 8 = n43 := (ho10 8 (by rw [ed9]; decide +kernel)).trans hq9_8
  have hq10_12 : ad10 12 = n54 := (ho10 12 (by rw [ed9]; decide +kernel)).trans hq9_12
  have hq10_14 : ad10 14 = n67 := (ho10 14 (by rw [ed9]; decide +kernel)).trans hq9_14
  have hq10_16 : ad10 16 = n81 := (ho10 16 (by rw [ed9]; decide +kernel)).trans hq9_16
  have hq10_20 : ad10 20 = n92 := (ho10 20 (by rw [ed9]; decide +kernel)).trans hq9_20
  have hq10_26 : ad10 26 = n103 := (ho10 26 (by rw [ed9]; decide +kernel)).trans hq9_26
  have hq10_32 : ad10 32 = n114 := (ho10 32 (by rw [ed9]; decide +kernel)).trans hq9_32
  refine lv_aload_n hx hb dX9_init_135 rfl (lv_at hl 0 rfl) ?_
  refine lv_iconst (v := (0 : Int32)) hx hb dX9_init_136 (by decide) ?_
  refine va_put (D := D) (ci := 9) (v := .int (0 : Int32)) (ty := .boolean) (C := RX9) (T := TX9) (N := 14) hx hb hts ti_X9 tyX9 tyX9_ok nmX9 hown hK hP hD hS 0 rfl rfl 12 (by decide) (hts _ th63) (fun _ h9 => h9) rfl rfl (by decide +kernel) rfl (Nat.le_of_ble_eq_true rfl) dX9_init_137 (fun H locs hP hD hS => ?_)
  have hP : va_P D vwCl ([(a0, .inr (9, [.ref q1, .ref q2, .ref n21, .ref n32, .ref n43, .ref n54, .ref n67, .ref n81, .ref n92, .ref n103, .ref n114, .ref n125, .int (0 : Int32), .int 0])), (q1, .inl (T 6, 3, .inr (.inr (.inr (.inr (fun _ => none)))))), (q2, .inl (T 6, 3, .inr (.inr (.inr (.inr (fun _ => none))))))] ++ fy_ls dm10 ad10 (fy_c T ad10 X_lay X_S0)) H := hP
  have hD : va_D (fz_A a0 s.heap.size) ([(a0, .inr (9, [.ref q1, .ref q2, .ref n21, .ref n32, .ref n43, .ref n54, .ref n67, .ref n81, .ref n92, .ref n103, .ref n114, .ref n125, .int (0 : Int32), .int 0])), (q1, .inl (T 6, 3, .inr (.inr (.inr (.inr (fun _ => none)))))), (q2, .inl (T 6, 3, .inr (.inr (.inr (.inr (fun _ => none))))))] ++ fy_ls dm10 ad10 (fy_c T ad10 X_lay X_S0)) := hD
  refine lv_aload_n hx hb dX9_init_140 rfl (lv_at hl 0 rfl) ?_
  refine lv_iconst (v := (0 : Int32)) hx hb dX9_init_141 (by decide) ?_
  refine va_put (D := D) (ci := 9) (v := .int (0 : Int32)) (ty := .int) (C := RX9) (T := TX9) (N := 14) hx hb hts ti_X9 tyX9 tyX9_ok nmX9 hown hK hP hD hS 0 rfl rfl 13 (by decide) (hts _ th64) (fun _ h9 => h9) rfl rfl (by decide +kernel) rfl (Nat.le_of_ble_eq_true rfl) dX9_init_142 (fun H locs hP hD hS => ?_)
  have hP : va_P D vwCl ([(a0, .inr (9, [.ref q1, .ref q2, .ref n21, .ref n32, .ref n43, .ref n54, .ref n67, .ref n81, .ref n92, .ref n103, .ref n114, .ref n125, .int (0 : Int32), .int (0 : Int32)])), (q1, .inl (T 6, 3, .inr (.inr (.inr (.inr (fun _ => none)))))), (q2, .inl (T 6, 3, .inr (.inr (.inr (.inr (fun _ => none))))))] ++ fy_ls dm10 ad10 (fy_c T ad10 X_lay X_S0)) H := hP
  have hD : va_D (fz_A a0 s.heap.size) ([(a0, .inr (9, [.ref q1, .ref q2, .ref n21, .ref n32, .ref n43, .ref n54, .ref n67, .ref n81, .ref n92, .ref n103, .ref n114, .ref n125, .int (0 : Int32), .int (0 : Int32)])), (q1, .inl (T 6, 3, .inr (.inr (.inr (.inr (fun _ => none)))))), (q2, .inl (T 6, 3, .inr (.inr (.inr (.inr (fun _ => none))))))] ++ fy_ls dm10 ad10 (fy_c T ad10 X_lay X_S0)) := hD
  refine lv_iconst (v := (0 : Int32)) hx hb dX9_init_145 (by decide) ?_
  refine lv_istore_n (lv' := [(1, .int (0 : Int32)), (0, .ref a0)]) hx hb dX9_init_146 rfl hl (by decide) rfl (fun ls hl => ?_)
  refine lv_iload_n hx hb dX9_init_147 rfl (lv_at hl 0 rfl) ?_
  refine lv_iconst (v := (3 : Int32)) hx hb dX9_init_148 (by decide) ?_
  refine lv_icmp_ge (tgt := 184) hx hb dX9_init_149 (by decide) (fun hc => absurd hc (by decide)) (fun hc => ?_)
  refine lv_aload_n hx hb dX9_init_152 rfl (lv_at hl 1 rfl) ?_
  refine va_get (D := D) (ci := 9) (v := .ref q1) (C := RX9) (T := TX9) (N := 14) hx hb hts ti_X9 hown hK hP 0 rfl rfl 0 (by decide) (hts _ th4) (fun _ h9 => h9) rfl dX9_init_153 ?_
  refine lv_iload_n hx hb dX9_init_156 rfl (lv_at hl 0 rfl) ?_
  refine va_new (ci := 0) (fs := [.null, .null, .null, .int 0, .int 0, .int 0]) (C := RX0) (T := TX0) (N := 6) hx hb hts ti_X0 tyX0 tyX0_ok hown (hts _ th3) (hts _ th6) (hts _ th7) hK hP hD hS hA rfl (fun j hj => by match j, hj with | 0, _ => rfl | 1, _ => rfl | 2, _ => rfl | 3, _ => rfl | 4, _ => rfl | 5, _ => rfl) (Nat.le_of_ble_eq_true rfl) (Nat.le_of_ble_eq_true rfl) dX9_init_157 (fun n157_0 H hP hD hS => ?_)
  refine lv_dup hx hb dX9_init_160 rfl ?_
  refine fz_cal (ws := ([(a0, .inr (9, [.ref q1, .ref q2, .ref n21, .ref n32, .ref n43, .ref n54, .ref n67, .ref n81, .ref n92, .ref n103, .ref n114, .ref n125, .int (0 : Int32), .int (0 : Int32)])), (q1, .inl (T 6, 3, .inr (.inr (.inr (.inr (fun _ => none)))))), (q2, .inl (T 6, 3, .inr (.inr (.inr (.inr (fun _ => none))))))] ++ fy_ls dm10 ad10 (fy_c T ad10 X_lay X_S0))) hP hD hS hA (by decide) (fz_run (np := 0) (As := []) (rest := [.ref n157_0, .int (0 : Int32), .ref q1]) hx hb hml hown hts hK hN hO (fz_last hP) (cc_X0 l D T n157_0 H.size) ⟨th10, th8, th7, th9, rfl, (by decide +kernel), (by decide +kernel), (by decide +kernel)⟩ ⟨(Nat.le_of_ble_eq_true rfl), (Nat.le_of_ble_eq_true rfl)⟩ rfl hl.1 rfl (Nat.le_of_ble_eq_true rfl) ⟨(Nat.le_of_ble_eq_true rfl), (Nat.le_of_ble_eq_true rfl)⟩ dX9_init_161) (fun apn157_0 H locs hapn157_0 hP hD hS => ?_)
  have hmem : (n157_0, fy_c T apn157_0 X_lay X_S0 38) ∈ (([(a0, .inr (9, [.ref q1, .ref q2, .ref n21, .ref n32, .ref n43, .ref n54, .ref n67, .ref n81, .ref n92, .ref n103, .ref n114, .ref n125, .int (0 : Int32), .int (0 : Int32)])), (q1, .inl (T 6, 3, .inr (.inr (.inr (.inr (fun _ => none)))))), (q2, .inl (T 6, 3, .inr (.inr (.inr (.inr (fun _ => none))))))] ++ fy_ls dm10 ad10 (fy_c T ad10 X_lay X_S0)) ++ fy_ls (List.range' 38 41) apn157_0 (fy_c T apn157_0 X_lay X_S0)) := List.mem_append_right _ (by rw [← hapn157_0]; exact List.mem_map.mpr ⟨38, by decide, rfl⟩)
  obtain ⟨kq, hkq⟩ := List.getElem?_of_mem hmem
  have e38 : fy_c T apn157_0 X_lay X_S0 38 = .inr (0, [.ref (apn157_0 39), .ref (apn157_0 41), .ref (apn157_0 40), .int 1, .int 1, .int 0]) := rfl
  rw [e38] at hkq
  refine va_astq (r := (RX0, TX0, 6)) hx hb hK hP hD hS 1 6 kq 0 rfl rfl hkq rfl (fy_ix_in (by decide +kernel)) dX9_init_164 (fun H locs hP hD hS => ?_)
  have hP : va_P D vwCl (([(a0, .inr (9, [.ref q1, .ref q2, .ref n21, .ref n32, .ref n43, .ref n54, .ref n67, .ref n81, .ref n92, .ref n103, .ref n114, .ref n125, .int (0 : Int32), .int (0 : Int32)])), (q1, .inl (T 6, 3, .inr (.inr (.inr (.inr (va_up (fun _ => none) (0 : Int32).toNatClampNeg (some n157_0))))))), (q2, .inl (T 6, 3, .inr (.inr (.inr (.inr (fun _ => none))))))] ++ fy_ls dm10 ad10 (fy_c T ad10 X_lay X_S0)) ++ fy_ls (List.range' 38 41) apn157_0 (fy_c T apn157_0 X_lay X_S0)) H := hP
  have hD : va_D (fz_A a0 s.heap.size) (([(a0, .inr (9, [.ref q1, .ref q2, .ref n21, .ref n32, .ref n43, .ref n54, .ref n67, .ref n81, .ref n92, .ref n103, .ref n114, .ref n125, .int (0 : Int32), .int (0 : Int32)])), (q1, .inl (T 6, 3, .inr (.inr (.inr (.inr (va_up (fun _ => none) (0 : Int32).toNatClampNeg (some n157_0))))))), (q2, .inl (T 6, 3, .inr (.inr (.inr (.inr (fun _ => none))))))] ++ fy_ls dm10 ad10 (fy_c T ad10 X_lay X_S0)) ++ fy_ls (List.range' 38 41) apn157_0 (fy_c T apn157_0 X_lay X_S0)) := hD
  obtain ⟨ad11, ho11, hn11, hP, hD⟩ := fz_mrgS 0 (by decide) hP hD hok10 (by rw [ed10]; decide +kernel)
  have hok11 : fz_ok (dm10 ++ (List.range' 38 41).map (fun i => i + 41 * 0)) := (hok10.app (fz_okA 0 (by decide)))
  generalize hdm11 : dm10 ++ (List.range' 38 41).map (fun i => i + 41 * 0) = dm11 at hP hD hok11
  have ed11 : dm11 = ((((((((((([] ++ (List.range' 38 41).map (fun i => i + 41 * 6)) ++ [3, 4, 5, 6, 7]) ++ [8, 9, 10, 11]) ++ [12, 13]) ++ [14, 15]) ++ [16, 17, 18, 19]) ++ [20, 21, 22, 23, 24, 25]) ++ [26, 27, 28, 29, 30, 31]) ++ [32, 33]) ++ [34, 35, 36, 37]) ++ (List.range' 38 41).map (fun i => i + 41 * 0)) := by rw [← hdm11, ed10]
  have hq11_38 : ad11 38 = n157_0 := hn11.trans hapn157_0
  have hq11_284 : ad11 284 = n21 := (ho11 284 (by rw [ed10]; decide +kernel)).trans hq10_284
  have hq11_3 : ad11 3 = n32 := (ho11 3 (by rw [ed10]; decide +kernel)).trans hq10_3
  have hq11_8 : ad11 8 = n43 := (ho11 8 (by rw [ed10]; decide +kernel)).trans hq10_8
  have hq11_12 : ad11 12 = n54 := (ho11 12 (by rw [ed10]; decide +kernel)).trans hq10_12
  have hq11_14 : ad11 14 = n67 := (ho11 14 (by rw [ed10]; decide +kernel)).trans hq10_14
  have hq11_16 : ad11 16 = n81 := (ho11 16 (by rw [ed10]; decide +kernel)).trans hq10_16
  have hq11_20 : ad11 20 = n92 := (ho11 20 (by rw [ed10]; decide +kernel)).trans hq10_20
  have hq11_26 : ad11 26 = n103 := (ho11 26 (by rw [ed10]; decide +kernel)).trans hq10_26
  have hq11_32 : ad11 32 = n114 := (ho11 32 (by rw [ed10]; decide +kernel)).trans hq10_32
  have hq11_34 : ad11 34 = n125 := (ho11 34 (by rw [ed10]; decide +kernel)).trans hq10_34
  refine lv_aload_n hx hb dX9_init_165 rfl (lv_at hl 1 rfl) ?_
  refine va_get (D := D) (ci := 9) (v := .ref q2) (C := RX9) (T := TX9) (N := 14) hx hb hts ti_X9 hown hK hP 0 rfl rfl 1 (by decide) (hts _ th5) (fun _ h9 => h9) rfl dX9_init_166 ?_
  refine lv_iload_n hx hb dX9_init_169 rfl (lv_at hl 0 rfl) ?_
  refine va_new (ci := 0) (fs := [.null, .null, .null, .int 0, .int 0, .int 0]) (C := RX0) (T := TX0) (N := 6) hx hb hts ti_X0 tyX0 tyX0_ok hown (hts _ th3) (hts _ th6) (hts _ th7) hK hP hD hS hA rfl (fun j hj => by match j, hj with | 0, _ => rfl | 1, _ => rfl | 2, _ => rfl | 3, _ => rfl | 4, _ => rfl | 5, _ => rfl) (Nat.le_of_ble_eq_true rfl) (Nat.le_of_ble_eq_true rfl) dX9_init_170 (fun n170_3 H hP hD hS => ?_)
  refine lv_dup hx hb dX9_init_173 rfl ?_
  refine fz_cal (ws := ([(a0, .inr (9, [.ref q1, .ref q2, .ref n21, .ref n32, .ref n43, .ref n54, .ref n67, .ref n81, .ref n92, .ref n103, .ref n114, .ref n125, .int (0 : Int32), .int (0 : Int32)])), (q1, .inl (T 6, 3, .inr (.inr (.inr (.inr (va_up (fun _ => none) (0 : Int32).toNatClampNeg (some n157_0))))))), (q2, .inl (T 6, 3, .inr (.inr (.inr (.inr (fun _ => none))))))] ++ fy_ls dm11 ad11 (fy_c T ad11 X_lay X_S0))) hP hD hS hA (by decide) (fz_run (np := 0) (As := []) (rest := [.ref n170_3, .int (0 : Int32), .ref q2]) hx hb hml hown hts hK hN hO (fz_last hP) (cc_X0 l D T n170_3 H.size) ⟨th10, th8, th7, th9, rfl, (by decide +kernel), (by decide +kernel), (by decide +kernel)⟩ ⟨(Nat.le_of_ble_eq_true rfl), (Nat.le_of_ble_eq_true rfl)⟩ rfl hl.1 rfl (Nat.le_of_ble_eq_true rfl) ⟨(Nat.le_of_ble_eq_true rfl), (Nat.le_of_ble_eq_true rfl)⟩ dX9_init_174) (fun apn170_3 H locs hapn170_3 hP hD hS => ?_)
  have hmem : (n170_3, fy_c T apn170_3 X_lay X_S0 38) ∈ (([(a0, .inr (9, [.ref q1, .ref q2, .ref n21, .ref n32, .ref n43, .ref n54, .ref n67, .ref n81, .ref n92, .ref n103, .ref n114, .ref n125, .int (0 : Int32), .int (0 : Int32)])), (q1, .inl (T 6, 3, .inr (.inr (.inr (.inr (va_up (fun _ => none) (0 : Int32).toNatClampNeg (some n157_0))))))), (q2, .inl (T 6, 3, .inr (.inr (.inr (.inr (fun _ => none))))))] ++ fy_ls dm11 ad11 (fy_c T ad11 X_lay X_S0)) ++ fy_ls (List.range' 38 41) apn170_3 (fy_c T apn170_3 X_lay X_S0)) := List.mem_append_right _ (by rw [← hapn170_3]; exact List.mem_map.mpr ⟨38, by decide, rfl⟩)
  obtain ⟨kq, hkq⟩ := List.getElem?_of_mem hmem
  have e38 : fy_c T apn170_3 X_lay X_S0 38 = .inr (0, [.ref (apn170_3 39), .ref (apn170_3 41), .ref (apn170_3 40), .int 1, .int 1, .int 0]) := rfl
  rw [e38] at hkq
  refine va_astq (r := (RX0, TX0, 6)) hx hb hK hP hD hS 2 6 kq 0 rfl rfl hkq rfl (fy_ix_in (by decide +kernel)) dX9_init_177 (fun H locs hP hD hS => ?_)
  have hP : va_P D vwCl (([(a0, .inr (9, [.ref q1, .ref q2, .ref n21, .ref n32, .ref n43, .ref n54, .ref n67, .ref n81, .ref n92, .ref n103, .ref n114, .ref n125, .int (0 : Int32), .int (0 : Int32)])), (q1, .inl (T 6, 3, .inr (.inr (.inr (.inr (va_up (fun _ => none) (0 : Int32).toNatClampNeg (some n157_0))))))), (q2, .inl (T 6, 3, .inr (.inr (.inr (.inr (va_up (fun _ => none) (0 : Int32).toNatClampNeg (some n170_3)))))))] ++ fy_ls dm11 ad11 (fy_c T ad11 X_lay X_S0)) ++ fy_ls (List.range' 38 41) apn170_3 (fy_c T apn170_3 X_lay X_S0)) H := hP
  have hD : va_D (fz_A a0 s.heap.size) (([(a0, .inr (9, [.ref q1, .ref q2, .ref n21, .ref n32, .ref n43, .ref n54, .ref n67, .ref n81, .ref n92, .ref n103, .ref n114, .ref n125, .int (0 : Int32), .int (0 : Int32)])), (q1, .inl (T 6, 3, .inr (.inr (.inr (.inr (va_up (fun _ => none) (0 : Int32).toNatClampNeg (some n157_0))))))), (q2, .inl (T 6, 3, .inr (.inr (.inr (.inr (va_up (fun _ => none) (0 : Int32).toNatClampNeg (some n170_3)))))))] ++ fy_ls dm11 ad11 (fy_c T ad11 X_lay X_S0)) ++ fy_ls (List.range' 38 41) apn170_3 (fy_c T apn170_3 X_lay X_S0)) := hD
  obtain ⟨ad12, ho12, hn12, hP, hD⟩ := fz_mrgS 3 (by decide) hP hD hok11 (by rw [ed11]; decide +kernel)
  have hok12 : fz_ok (dm11 ++ (List.range' 38 41).map (fun i => i + 41 * 3)) := (hok11.app (fz_okA 3 (by decide)))
  generalize hdm12 : dm11 ++ (List.range' 38 41).map (fun i => i + 41 * 3) = dm12 at hP hD hok12
  have ed12 : dm12 = (((((((((((([] ++ (List.range' 38 41).map (fun i => i + 41 * 6)) ++ [3, 4, 5, 6, 7]) ++ [8, 9, 10, 11]) ++ [12, 13]) ++ [14, 15]) ++ [16, 17, 18, 19]) ++ [20, 21, 22, 23, 24, 25]) ++ [26, 27, 28, 29, 30, 31]) ++ [32, 33]) ++ [34, 35, 36, 37]) ++ (List.range' 38 41).map (fun i => i + 41 * 0)) ++ (List.range' 38 41).map (fun i => i + 41 * 3)) := by rw [← hdm12, ed11]
  have hq12_161 : ad12 161 = n170_3 := hn12.trans hapn170_3
  have hq12_284 : ad12 284 = n21 := (ho12 284 (by rw [ed11]; decide +kernel)).trans hq11_284
  have hq12_3 : ad12 3 = n32 := (ho12 3 (by rw [ed11]; decide +kernel)).trans hq11_3
  have hq12_8 : ad12 8 = n43 := (ho12 8 (by rw [ed11]; decide +kernel)).trans hq11_8
  have hq12_12 : ad12 12 = n54 := (ho12 12 (by rw [ed11]; decide +kernel)).trans hq11_12
  have hq12_14 : ad12 14 = n67 := (ho12 14 (by rw [ed11]; decide +kernel)).trans hq11_14
  have hq12_16 : ad12 16 = n81 := (ho12 16 (by rw [ed11]; decide +kernel)).trans hq11_16
  have hq12_20 : ad12 20 = n92 := (ho12 20 (by rw [ed11]; decide +kernel)).trans hq11_20
  have hq12_26 : ad12 26 = n103 := (ho12 26 (by rw [ed11]; decide +kernel)).trans hq11_26
  have hq12_32 : ad12 32 = n114 := (ho12 32 (by rw [ed11]; decide +kernel)).trans hq11_32
  have hq12_34 : ad12 34 = n125 := (ho12 34 (by rw [ed11]; decide +kernel)).trans hq11_34
  have hq12_38 : ad12 38 = n157_0 := (ho12 38 (by rw [ed11]; decide +kernel)).trans hq11_38
  refine lv_iinc (k := 0) (v := (1 : Int32)) (lv' := [(1, .int (1 : Int32)), (0, .ref a0)]) hx hb dX9_init_178 hl rfl (by decide) (by decide) rfl (fun ls hl => ?_)
  refine lv_goto (tgt := 147) hx hb dX9_init_181 (by decide) ?_
  refine lv_iload_n hx hb dX9_init_147 rfl (lv_at hl 0 rfl) ?_
  refine lv_iconst (v := (3 : Int32)) hx hb dX9_init_148 (by decide) ?_
  refine lv_icmp_ge (tgt := 184) hx hb dX9_init_149 (by decide) (fun hc => absurd hc (by decide)) (fun hc => ?_)
  refine lv_aload_n hx hb dX9_init_152 rfl (lv_at hl 1 rfl) ?_
  refine va_get (D := D) (ci := 9) (v := .ref q1) (C := RX9) (T := TX9) (N := 14) hx hb hts ti_X9 hown hK hP 0 rfl rfl 0 (by decide) (hts _ th4) (fun _ h9 => h9) rfl dX9_init_153 ?_
  refine lv_iload_n hx hb dX9_init_156 rfl (lv_at hl 0 rfl) ?_
  refine va_new (ci := 0) (fs := [.null, .null, .null, .int 0, .int 0, .int 0]) (C := RX0) (T := TX0) (N := 6) hx hb hts ti_X0 tyX0 tyX0_ok hown (hts _ th3) (hts _ th6) (hts _ th7) hK hP hD hS hA rfl (fun j hj => by match j, hj with | 0, _ => rfl | 1, _ => rfl | 2, _ => rfl | 3, _ => rfl | 4, _ => rfl | 5, _ => rfl) (Nat.le_of_ble_eq_true rfl) (Nat.le_of_ble_eq_true rfl) dX9_init_157 (fun n157_1 H hP hD hS => ?_)
  refine lv_dup hx hb dX9_init_160 rfl ?_
  refine fz_cal (ws := ([(a0, .inr (9, [.ref q1, .ref q2, .ref n21, .ref n32, .ref n43, .ref n54, .ref n67, .ref n81, .ref n92, .ref n103, .ref n114, .ref n125, .int (0 : Int32), .int (0 : Int32)])), (q1, .inl (T 6, 3, .inr (.inr (.inr (.inr (va_up (fun _ => none) (0 : Int32).toNatClampNeg (some n157_0))))))), (q2, .inl (T 6, 3, .inr (.inr (.inr (.inr (va_up (fun _ => none) (0 : Int32).toNatClampNeg (some n170_3)))))))] ++ fy_ls dm12 ad12 (fy_c T ad12 X_lay X_S0))) hP hD hS hA (by decide) (fz_run (np := 0) (As := []) (rest := [.ref n157_1, .int (1 : Int32), .ref q1]) hx hb hml hown hts hK hN hO (fz_last hP) (cc_X0 l D T n157_1 H.size) ⟨th10, th8, th7, th9, rfl, (by decide +kernel), (by decide +kernel), (by decide +kernel)⟩ ⟨(Nat.le_of_ble_eq_true rfl), (Nat.le_of_ble_eq_true rfl)⟩ rfl hl.1 rfl (Nat.le_of_ble_eq_true rfl) ⟨(Nat.le_of_ble_eq_true rfl), (Nat.le_of_ble_eq_true rfl)⟩ dX9_init_161) (fun apn157_1 H locs hapn157_1 hP hD hS => ?_)
  have hmem : (n157_1, fy_c T apn157_1 X_lay X_S0 38) ∈ (([(a0, .inr (9, [.ref q1, .ref q2, .ref n21, .ref n32, .ref n43, .ref n54, .ref n67, .ref n81, .ref n92, .ref n103, .ref n114, .ref n125, .int (0 : Int32), .int (0 : Int32)])), (q1, .inl (T 6, 3, .inr (.inr (.inr (.inr (va_up (fun _ => none) (0 : Int32).toNatClampNeg (some n157_0))))))), (q2, .inl (T 6, 3, .inr (.inr (.inr (.inr (va_up (fun _ => none) (0 : Int32).toNatClampNeg (some n170_3)))))))] ++ fy_ls dm12 ad12 (fy_c T ad12 X_lay X_S0)) ++ fy_ls (List.range' 38 41) apn157_1 (fy_c T apn157_1 X_lay X_S0)) := List.mem_append_right _ (by rw [← hapn157_1]; exact List.mem_map.mpr ⟨38, by decide, rfl⟩)
  obtain ⟨kq, hkq⟩ := List.getElem?_of_mem hmem
  have e38 : fy_c T apn157_1 X_lay X_S0 38 = .inr (0, [.ref (apn157_1 39), .ref (apn157_1 41), .ref (apn157_1 40), .int 1, .int 1, .int 0]) := rfl
  rw [e38] at hkq
  refine va_astq (r := (RX0, TX0, 6)) hx hb hK hP hD hS 1 6 kq 0 rfl rfl hkq rfl (fy_ix_in (by decide +kernel)) dX9_init_164 (fun H locs hP hD hS => ?_)
  have hP : va_P D vwCl (([(a0, .inr (9, [.ref q1, .ref q2, .ref n21, .ref n32, .ref n43, .ref n54, .ref n67, .ref n81, .ref n92, .ref n103, .ref n114, .ref n125, .int (0 : Int32), .int (0 : Int32)])), (q1, .inl (T 6, 3, .inr (.inr (.inr (.inr (va_up (va_up (fun _ => none) (0 : Int32).toNatClampNeg (some n157_0)) (1 : Int32).toNatClampNeg (some n157_1))))))), (q2, .inl (T 6, 3, .inr (.inr (.inr (.inr (va_up (fun _ => none) (0 : Int32).toNatClampNeg (some n170_3)))))))] ++ fy_ls dm12 ad12 (fy_c T ad12 X_lay X_S0)) ++ fy_ls (List.range' 38 41) apn157_1 (fy_c T apn157_1 X_lay X_S0)) H := hP
  have hD : va_D (fz_A a0 s.heap.size) (([(a0, .inr (9, [.ref q1, .ref q2, .ref n21, .ref n32, .ref n43, .ref n54, .ref n67, .ref n81, .ref n92, .ref n103, .ref n114, .ref n125, .int (0 : Int32), .int (0 : Int32)])), (q1, .inl (T 6, 3, .inr (.inr (.inr (.inr (va_up (va_up (fun _ => none) (0 : Int32).toNatClampNeg (some n157_0)) (1 : Int32).toNatClampNeg (some n157_1))))))), (q2, .inl (T 6, 3, .inr (.inr (.inr (.inr (va_up (fun _ => none) (0 : Int32).toNatClampNeg (some n170_3)))))))] ++ fy_ls dm12 ad12 (fy_c T ad12 X_lay X_S0)) ++ fy_ls (List.range' 38 41) apn157_1 (fy_c T apn157_1 X_lay X_S0)) := hD
  obtain ⟨ad13, ho13, hn13, hP, hD⟩ := fz_mrgS 1 (by decide) hP hD hok12 (by rw [ed12]; decide +kernel)
  have hok13 : fz_ok (dm12 ++ (List.range' 38 41).map (fun i => i + 41 * 1)) := (hok12.app (fz_okA 1 (by decide)))
  generalize hdm13 : dm12 ++ (List.range' 38 41).map (fun i => i + 41 * 1) = dm13 at hP hD hok13
  have ed13 : dm13 = ((((((((((((([] ++ (List.range' 38 41).map (fun i => i + 41 * 6)) ++ [3, 4, 5, 6, 7]) ++ [8, 9, 10, 11]) ++ [12, 13]) ++ [14, 15]) ++ [16, 17, 18, 19]) ++ [20, 21, 22, 23, 24, 25]) ++ [26, 27, 28, 29, 30, 31]) ++ [32, 33]) ++ [34, 35, 36, 37]) ++ (List.range' 38 41).map (fun i => i + 41 * 0)) ++ (List.range' 38 41).map (fun i => i + 41 * 3)) ++ (List.range' 38 41).map (fun i => i + 41 * 1)) := by rw [← hdm13, ed12]
  have hq13_79 : ad13 79 = n157_1 := hn13.trans hapn157_1
  have hq13_284 : ad13 284 = n21 := (ho13 284 (by rw [ed12]; decide +kernel)).trans hq12_284
  have hq13_3 : ad13 3 = n32 := (ho13 3 (by rw [ed12]; decide +kernel)).trans hq12_3
  have hq13_8 : ad13 8 = n43 := (ho13 8 (by rw [ed12]; decide +kernel)).trans hq12_8
  have hq13_12 : ad13 12 = n54 := (ho13 12 (by rw [ed12]; decide +kernel)).trans hq12_12
  have hq13_14 : ad13 14 = n67 := (ho13 14 (by rw [ed12]; decide +kernel)).trans hq12_14
  have hq13_16 : ad13 16 = n81 := (ho13 16 (by rw [ed12]; decide +kernel)).trans hq12_16
  have hq13_20 : ad13 20 = n92 := (ho13 20 (by rw [ed12]; decide +kernel)).trans hq12_20
  have hq13_26 : ad13 26 = n103 := (ho13 26 (by rw [ed12]; decide +kernel)).trans hq12_26
  have hq13_32 : ad13 32 = n114 := (ho13 32 (by rw [ed12]; decide +kernel)).trans hq12_32
  have hq13_34 : ad13 34 = n125 := (ho13 34 (by rw [ed12]; decide +kernel)).trans hq12_34
  have hq13_38 : ad13 38 = n157_0 := (ho13 38 (by rw [ed12]; decide +kernel)).trans hq12_38
  have hq13_161 : ad13 161 = n170_3 := (ho13 161 (by rw [ed12]; decide +kernel)).trans hq12_161
  refine lv_aload_n hx hb dX9_init_165 rfl (lv_at hl 1 rfl) ?_
  refine va_get (D := D) (ci := 9) (v := .ref q2) (C := RX9) (T := TX9) (N := 14) hx hb hts ti_X9 hown hK hP 0 rfl rfl 1 (by decide) (hts _ th5) (fun _ h9 => h9) rfl dX9_init_166 ?_
  refine lv_iload_n hx hb dX9_init_169 rfl (lv_at hl 0 rfl) ?_
  refine va_new (ci := 0) (fs := [.null, .null, .null, .int 0, .int 0, .int 0]) (C := RX0) (T := TX0) (N := 6) hx hb hts ti_X0 tyX0 tyX0_ok hown (hts _ th3) (hts _ th6) (hts _ th7) hK hP hD hS hA rfl (fun j hj => by match j, hj with | 0, _ => rfl | 1, _ => rfl | 2, _ => rfl | 3, _ => rfl | 4, _ => rfl | 5, _ => rfl) (Nat.le_of_ble_eq_true rfl) (Nat.le_of_ble_eq_true rfl) dX9_init_170 (fun n170_4 H hP hD hS => ?_)
  refine lv_dup hx hb dX9_init_173 rfl ?_
  refine fz_cal (ws := ([(a0, .inr (9, [.ref q1, .ref q2, .ref n21, .ref n32, .ref n43, .ref n54, .ref n67, .ref n81, .ref n92, .ref n103, .ref n114, .ref n125, .int (0 : Int32), .int (0 : Int32)])), (q1, .inl (T 6, 3, .inr (.inr (.inr (.inr (va_up (va_up (fun _ => none) (0 : Int32).toNatClampNeg (some n157_0)) (1 : Int32).toNatClampNeg (some n157_1))))))), (q2, .inl (T 6, 3, .inr (.inr (.inr (.inr (va_up (fun _ => none) (0 : Int32).toNatClampNeg (some n170_3)))))))] ++ fy_ls dm13 ad13 (fy_c T ad13 X_lay X_S0))) hP hD hS hA (by decide) (fz_run (np := 0) (As := []) (rest := [.ref n170_4, .int (1 : Int32), .ref q2]) hx hb hml hown hts hK hN hO (fz_last hP) (cc_X0 l D T n170_4 H.size) ⟨th10, th8, th7, th9, rfl, (by decide +kernel), (by decide +kernel), (by decide +kernel)⟩ ⟨(Nat.le_of_ble_eq_true rfl), (Nat.le_of_ble_eq_true rfl)⟩ rfl hl.1 rfl (Nat.le_of_ble_eq_true rfl) ⟨(Nat.le_of_ble_eq_true rfl), (Nat.le_of_ble_eq_true rfl)⟩ dX9_init_174) (fun apn170_4 H locs hapn170_4 hP hD hS => ?_)
  have hmem : (n170_4, fy_c T apn170_4 X_lay X_S0 38) ∈ (([(a0, .inr (9, [.ref q1, .ref q2, .ref n21, .ref n32, .ref n43, .ref n54, .ref n67, .ref n81, .ref n92, .ref n103, .ref n114, .ref n125, .int (0 : Int32), .int (0 : Int32)])), (q1, .inl (T 6, 3, .inr (.inr (.inr (.inr (va_up (va_up (fun _ => none) (0 : Int32).toNatClampNeg (some n157_0)) (1 : Int32).toNatClampNeg (some n157_1))))))), (q2, .inl (T 6, 3, .inr (.inr (.inr (.inr (va_up (fun _ => none) (0 : Int32).toNatClampNeg (some n170_3)))))))] ++ fy_ls dm13 ad13 (fy_c T ad13 X_lay X_S0)) ++ fy_ls (List.range' 38 41) apn170_4 (fy_c T apn170_4 X_lay X_S0)) := List.mem_append_right _ (by rw [← hapn170_4]; exact List.mem_map.mpr ⟨38, by decide, rfl⟩)
  obtain ⟨kq, hkq⟩ := List.getElem?_of_mem hmem
  have e38 : fy_c T apn170_4 X_lay X_S0 38 = .inr (0, [.ref (apn170_4 39), .ref (apn170_4 41), .ref (apn170_4 40), .int 1, .int 1, .int 0]) := rfl
  rw [e38] at hkq
  refine va_astq (r := (RX0, TX0, 6)) hx hb hK hP hD hS 2 6 kq 0 rfl rfl hkq rfl (fy_ix_in (by decide +kernel)) dX9_init_177 (fun H locs hP hD hS => ?_)
  have hP : va_P D vwCl (([(a0, .inr (9, [.ref q1, .ref q2, .ref n21, .ref n32, .ref n43, .ref n54, .ref n67, .ref n81, .ref n92, .ref n103, .ref n114, .ref n125, .int (0 : Int32), .int (0 : Int32)])), (q1, .inl (T 6, 3, .inr (.inr (.inr (.inr (va_up (va_up (fun _ => none) (0 : Int32).toNatClampNeg (some n157_0)) (1 : Int32).toNatClampNeg (some n157_1))))))), (q2, .inl (T 6, 3, .inr (.inr (.inr (.inr (va_up (va_up (fun _ => none) (0 : Int32).toNatClampNeg (some n170_3)) (1 : Int32).toNatClampNeg (some n170_4)))))))] ++ fy_ls dm13 ad13 (fy_c T ad13 X_lay X_S0)) ++ fy_ls (List.range' 38 41) apn170_4 (fy_c T apn170_4 X_lay X_S0)) H := hP
  have hD : va_D (fz_A a0 s.heap.size) (([(a0, .inr (9, [.ref q1, .ref q2, .ref n21, .ref n32, .ref n43, .ref n54, .ref n67, .ref n81, .ref n92, .ref n103, .ref n114, .ref n125, .int (0 : Int32), .int (0 : Int32)])), (q1, .inl (T 6, 3, .inr (.inr (.inr (.inr (va_up (va_up (fun _ => none) (0 : Int32).toNatClampNeg (some n157_0)) (1 : Int32).toNatClampNeg (some n157_1))))))), (q2, .inl (T 6, 3, .inr (.inr (.inr (.inr (va_up (va_up (fun _ => none) (0 : Int32).toNatClampNeg (some n170_3)) (1 : Int32).toNatClampNeg (some n170_4)))))))] ++ fy_ls dm13 ad13 (fy_c T ad13 X_lay X_S0)) ++ fy_ls (List.range' 38 41) apn170_4 (fy_c T apn170_4 X_lay X_S0)) := hD
  obtain ⟨ad14, ho14, hn14, hP, hD⟩ := fz_mrgS 4 (by decide) hP hD hok13 (by rw [ed13]; decide +kernel)
  have hok14 : fz_ok (dm13 ++ (List.range' 38 41).map (fun i => i + 41 * 4)) := (hok13.app (fz_okA 4 (by decide)))
  generalize hdm14 : dm13 ++ (List.range' 38 41).map (fun i => i + 41 * 4) = dm14 at hP hD hok14
  have ed14 : dm14 = (((((((((((((([] ++ (List.range' 38 41).map (fun i => i + 41 * 6)) ++ [3, 4, 5, 6, 7]) ++ [8, 9, 10, 11]) ++ [12, 13]) ++ [14, 15]) ++ [16, 17, 18, 19]) ++ [20, 21, 22, 23, 24, 25]) ++ [26, 27, 28, 29, 30, 31]) ++ [32, 33]) ++ [34, 35, 36, 37]) ++ (List.range' 38 41).map (fun i => i + 41 * 0)) ++ (List.range' 38 41).map (fun i => i + 41 * 3)) ++ (List.range' 38 41).map (fun i => i + 41 * 1)) ++ (List.range' 38 41).map (fun i => i + 41 * 4)) := by rw [← hdm14, ed13]
  have hq14_202 : ad14 202 = n170_4 := hn14.trans hapn170_4
  have hq14_284 : ad14 284 = n21 := (ho14 284 (by rw [ed13]; decide +kernel)).trans hq13_284
  have hq14_3 : ad14 3 = n32 := (ho14 3 (by rw [ed13]; decide +kernel)).trans hq13_3
  have hq14_8 : ad14 8 = n43 := (ho14 8 (by rw [ed13]; decide +kernel)).trans hq13_8
  have hq14_12 : ad14 12 = n54 := (ho14 12 (by rw [ed13]; decide +kernel)).trans hq13_12
  have hq14_14 : ad14 14 = n67 := (ho14 14 (by rw [ed13]; decide +kernel)).trans hq13_14
  have hq14_16 : ad14 16 = n81 := (ho14 16 (by rw [ed13]; decide +kernel)).trans hq13_16
  have hq14_20 : ad14 20 = n92 := (ho14 20 (by rw [ed13]; decide +kernel)).trans hq13_20
  have hq14_26 : ad14 26 = n103 := (ho14 26 (by rw [ed13]; decide +kernel)).trans hq13_26
  have hq14_32 : ad14 32 = n114 := (ho14 32 (by rw [ed13]; decide +kernel)).trans hq13_32
  have hq14_34 : ad14 34 = n125 := (ho14 34 (by rw [ed13]; decide +kernel)).trans hq13_34
  have hq14_38 : ad14 38 = n157_0 := (ho14 38 (by rw [ed13]; decide +kernel)).trans hq13_38
  have hq14_161 : ad14 161 = n170_3 := (ho14 161 (by rw [ed13]; decide +kernel)).trans hq13_161
  have hq14_79 : ad14 79 = n157_1 := (ho14 79 (by rw [ed13]; decide +kernel)).trans hq13_79
  refine lv_iinc (k := 0) (v := (2 : Int32)) (lv' := [(1, .int (2 : Int32)), (0, .ref a0)]) hx hb dX9_init_178 hl rfl (by decide) (by decide) rfl (fun ls hl => ?_)
  refine lv_goto (tgt := 147) hx hb dX9_init_181 (by decide) ?_
  refine lv_iload_n hx hb dX9_init_147 rfl (lv_at hl 0 rfl) ?_
  refine lv_iconst (v := (3 : Int32)) hx hb dX9_init_148 (by decide) ?_
  refine lv_icmp_ge (tgt := 184) hx hb dX9_init_149 (by decide) (fun hc => absurd hc (by decide)) (fun hc => ?_)
  refine lv_aload_n hx hb dX9_init_152 rfl (lv_at hl 1 rfl) ?_
  refine va_get (D := D) (ci := 9) (v := .ref q1) (C := RX9) (T := TX9) (N := 14) hx hb hts ti_X9 hown hK hP 0 rfl rfl 0 (by decide) (hts _ th4) (fun _ h9 => h9) rfl dX9_init_153 ?_
  refine lv_iload_n hx hb dX9_init_156 rfl (lv_at hl 0 rfl) ?_
  refine va_new (ci := 0) (fs := [.null, .null, .null, .int 0, .int 0, .int 0]) (C := RX0) (T := TX0) (N := 6) hx hb hts ti_X0 tyX0 tyX0_ok hown (hts _ th3) (hts _ th6) (hts _ th7) hK hP hD hS hA rfl (fun j hj => by match j, hj with | 0, _ => rfl | 1, _ => rfl | 2, _ => rfl | 3, _ => rfl | 4, _ => rfl | 5, _ => rfl) (Nat.le_of_ble_eq_true rfl) (Nat.le_of_ble_eq_true rfl) dX9_init_157 (fun n157_2 H hP hD hS => ?_)
  refine lv_dup hx hb dX9_init_160 rfl ?_
  refine fz_cal (ws := ([(a0, .inr (9, [.ref q1, .ref q2, .ref n21, .ref n32, .ref n43, .ref n54, .ref n67, .ref n81, .ref n92, .ref n103, .ref n114, .ref n125, .int (0 : Int32), .int (0 : Int32)])), (q1, .inl (T 6, 3, .inr (.inr (.inr (.inr (va_up (va_up (fun _ => none) (0 : Int32).toNatClampNeg (some n157_0)) (1 : Int32).toNatClampNeg (some n157_1))))))), (q2, .inl (T 6, 3, .inr (.inr (.inr (.inr (va_up (va_up (fun _ => none) (0 : Int32).toNatClampNeg (some n170_3)) (1 : Int32).toNatClampNeg (some n170_4)))))))] ++ fy_ls dm14 ad14 (fy_c T ad14 X_lay X_S0))) hP hD hS hA (by decide) (fz_run (np := 0) (As := []) (rest := [.ref n157_2, .int (2 : Int32), .ref q1]) hx hb hml hown hts hK hN hO (fz_last hP) (cc_X0 l D T n157_2 H.size) ⟨th10, th8, th7, th9, rfl, (by decide +kernel), (by decide +kernel), (by decide +kernel)⟩ ⟨(Nat.le_of_ble_eq_true rfl), (Nat.le_of_ble_eq_true rfl)⟩ rfl hl.1 rfl (Nat.le_of_ble_eq_true rfl) ⟨(Nat.le_of_ble_eq_true rfl), (Nat.le_of_ble_eq_true rfl)⟩ dX9_init_161) (fun apn157_2 H locs hapn157_2 hP hD hS => ?_)
  have hmem : (n157_2, fy_c T apn157_2 X_lay X_S0 38) ∈ (([(a0, .inr (9, [.ref q1, .ref q2, .ref n21, .ref n32, .ref n43, .ref n54, .ref n67, .ref n81, .ref n92, .ref n103, .ref n114, .ref n125, .int (0 : Int32), .int (0 : Int32)])), (q1, .inl (T 6, 3, .inr (.inr (.inr (.inr (va_up (va_up (fun _ => none) (0 : Int32).toNatClampNeg (some n157_0)) (1 : Int32).toNatClampNeg (some n157_1))))))), (q2, .inl (T 6, 3, .inr (.inr (.inr (.inr (va_up (va_up (fun _ => none) (0 : Int32).toNatClampNeg (some n170_3)) (1 : Int32).toNatClampNeg (some n170_4)))))))] ++ fy_ls dm14 ad14 (fy_c T ad14 X_lay X_S0)) ++ fy_ls (List.range' 38 41) apn157_2 (fy_c T apn157_2 X_lay X_S0)) := List.mem_append_right _ (by rw [← hapn157_2]; exact List.mem_map.mpr ⟨38, by decide, rfl⟩)
  obtain ⟨kq, hkq⟩ := List.getElem?_of_mem hmem
  have e38 : fy_c T apn157_2 X_lay X_S0 38 = .inr (0, [.ref (apn157_2 39), .ref (apn157_2 41), .ref (apn157_2 40), .int 1, .int 1, .int 0]) := rfl
  rw [e38] at hkq
  refine va_astq (r := (RX0, TX0, 6)) hx hb hK hP hD hS 1 6 kq 0 rfl rfl hkq rfl (fy_ix_in (by decide +kernel)) dX9_init_164 (fun H locs hP hD hS => ?_)
  have hP : va_P D vwCl (([(a0, .inr (9, [.ref q1, .ref q2, .ref n21, .ref n32, .ref n43, .ref n54, .ref n67, .ref n81, .ref n92, .ref n103, .ref n114, .ref n125, .int (0 : Int32), .int (0 : Int32)])), (q1, .inl (T 6, 3, .inr (.inr (.inr (.inr (va_up (va_up (va_up (fun _ => none) (0 : Int32).toNatClampNeg (some n157_0)) (1 : Int32).toNatClampNeg (some n157_1)) (2 : Int32).toNatClampNeg (some n157_2))))))), (q2, .inl (T 6, 3, .inr (.inr (.inr (.inr (va_up (va_up (fun _ => none) (0 : Int32).toNatClampNeg (some n170_3)) (1 : Int32).toNatClampNeg (some n170_4)))))))] ++ fy_ls dm14 ad14 (fy_c T ad14 X_lay X_S0)) ++ fy_ls (List.range' 38 41) apn157_2 (fy_c T apn157_2 X_lay X_S0)) H := hP
  have hD : va_D (fz_A a0 s.heap.size) (([(a0, .inr (9, [.ref q1, .ref q2, .ref n21, .ref n32, .ref n43, .ref n54, .ref n67, .ref n81, .ref n92, .ref n103, .ref n114, .ref n125, .int (0 : Int32), .int (0 : Int32)])), (q1, .inl (T 6, 3, .inr (.inr (.inr (.inr (va_up (va_up (va_up (fun _ => none) (0 : Int32).toNatClampNeg (some n157_0)) (1 : Int32).toNatClampNeg (some n157_1)) (2 : Int32).toNatClampNeg (some n157_2))))))), (q2, .inl (T 6, 3, .inr (.inr (.inr (.inr (va_up (va_up (fun _ => none) (0 : Int32).toNatClampNeg (some n170_3)) (1 : Int32).toNatClampNeg (some n170_4)))))))] ++ fy_ls dm14 ad14 (fy_c T ad14 X_lay X_S0)) ++ fy_ls (List.range' 38 41) apn157_2 (fy_c T apn157_2 X_lay X_S0)) := hD
  obtain ⟨ad15, ho15, hn15, hP, hD⟩ := fz_mrgS 2 (by decide) hP hD hok14 (by rw [ed14]; decide +kernel)
  have hok15 : fz_ok (dm14 ++ (List.range' 38 41).map (fun i => i + 41 * 2)) := (hok14.app (fz_okA 2 (by decide)))
  generalize hdm15 : dm14 ++ (List.range' 38 41).map (fun i => i + 41 * 2) = dm15 at hP hD hok15
  have ed15 : dm15 = ((((((((((((((([] ++ (List.range' 38 41).map (fun i => i + 41 * 6)) ++ [3, 4, 5, 6, 7]) ++ [8, 9, 10, 11]) ++ [12, 13]) ++ [14, 15]) ++ [16, 17, 18, 19]) ++ [20, 21, 22, 23, 24, 25]) ++ [26, 27, 28, 29, 30, 31]) ++ [32, 33]) ++ [34, 35, 36, 37]) ++ (List.range' 38 41).map (fun i => i + 41 * 0)) ++ (List.range' 38 41).map (fun i => i + 41 * 3)) ++ (List.range' 38 41).map (fun i => i + 41 * 1)) ++ (List.range' 38 41).map (fun i => i + 41 * 4)) ++ (List.range' 38 41).map (fun i => i + 41 * 2)) := by rw [← hdm15, ed14]
  have hq15_120 : ad15 120 = n157_2 := hn15.trans hapn157_2
  have hq15_284 : ad15 284 = n21 := (ho15 284 (by rw [ed14]; decide +kernel)).trans hq14_284
  have hq15_3 : ad15 3 = n32 := (ho15 3 (by rw [ed14]; decide +kernel)).trans hq14_3
  have hq15_8 : ad15 8 = n43 := (ho15 8 (by rw [ed14]; decide +kernel)).trans hq14_8
  have hq15_12 : ad15 12 = n54 := (ho15 12 (by rw [ed14]; decide +kernel)).trans hq14_12
  have hq15_14 : ad15 14 = n67 := (ho15 14 (by rw [ed14]; decide +kernel)).trans hq14_14
  have hq15_16 : ad15 16 = n81 := (ho15 16 (by rw [ed14]; decide +kernel)).trans hq14_16
  have hq15_20 : ad15 20 = n92 := (ho15 20 (by rw [ed14]; decide +kernel)).trans hq14_20
  have hq15_26 : ad15 26 = n103 := (ho15 26 (by rw [ed14]; decide +kernel)).trans hq14_26
  have hq15_32 : ad15 32 = n114 := (ho15 32 (by rw [ed14]; decide +kernel)).trans hq14_32
  have hq15_34 : ad15 34 = n125 := (ho15 34 (by rw [ed14]; decide +kernel)).trans hq14_34
  have hq15_38 : ad15 38 = n157_0 := (ho15 38 (by rw [ed14]; decide +kernel)).trans hq14_38
  have hq15_161 : ad15 161 = n170_3 := (ho15 161 (by rw [ed14]; decide +kernel)).trans hq14_161
  have hq15_79 : ad15 79 = n157_1 := (ho15 79 (by rw [ed14]; decide +kernel)).trans hq14_79
  have hq15_202 : ad15 202 = n170_4 := (ho15 202 (by rw [ed14]; decide +kernel)).trans hq14_202
  refine lv_aload_n hx hb dX9_init_165 rfl (lv_at hl 1 rfl) ?_
  refine va_get (D := D) (ci := 9) (v := .ref q2) (C := RX9) (T := TX9) (N := 14) hx hb hts ti_X9 hown hK hP 0 rfl rfl 1 (by decide) (hts _ th5) (fun _ h9 => h9) rfl dX9_init_166 ?_
  refine lv_iload_n hx hb dX9_init_169 rfl (lv_at hl 0 rfl) ?_
  refine va_new (ci := 0) (fs := [.null, .null, .null, .int 0, .int 0, .int 0]) (C := RX0) (T := TX0) (N := 6) hx hb hts ti_X0 tyX0 tyX0_ok hown (hts _ th3) (hts _ th6) (hts _ th7) hK hP hD hS hA rfl (fun j hj => by match j, hj with | 0, _ => rfl | 1, _ => rfl | 2, _ => rfl | 3, _ => rfl | 4, _ => rfl | 5, _ => rfl) (Nat.le_of_ble_eq_true rfl) (Nat.le_of_ble_eq_true rfl) dX9_init_170 (fun n170_5 H hP hD hS => ?_)
  refine lv_dup hx hb dX9_init_173 rfl ?_
  refine fz_cal (ws := ([(a0, .inr (9, [.ref q1, .ref q2, .ref n21, .ref n32, .ref n43, .ref n54, .ref n67, .ref n81, .ref n92, .ref n103, .ref n114, .ref n125, .int (0 : Int32), .int (0 : Int32)])), (q1, .inl (T 6, 3, .inr (.inr (.inr (.inr (va_up (va_up (va_up (fun _ => none) (0 : Int32).toNatClampNeg (some n157_0)) (1 : Int32).toNatClampNeg (some n157_1)) (2 : Int32).toNatClampNeg (some n157_2))))))), (q2, .inl (T 6, 3, .inr (.inr (.inr (.inr (va_up (va_up (fun _ => none) (0 : Int32).toNatClampNeg (some n170_3)) (1 : Int32).toNatClampNeg (some n170_4)))))))] ++ fy_ls dm15 ad15 (fy_c T ad15 X_lay X_S0))) hP hD hS hA (by decide) (fz_run (np := 0) (As := []) (rest := [.ref n170_5, .int (2 : Int32), .ref q2]) hx hb hml hown hts hK hN hO (fz_last hP) (cc_X0 l D T n170_5 H.size) ⟨th10, th8, th7, th9, rfl, (by decide +kernel), (by decide +kernel), (by decide +kernel)⟩ ⟨(Nat.le_of_ble_eq_true rfl), (Nat.le_of_ble_eq_true rfl)⟩ rfl hl.1 rfl (Nat.le_of_ble_eq_true rfl) ⟨(Nat.le_of_ble_eq_true rfl), (Nat.le_of_ble_eq_true rfl)⟩ dX9_init_174) (fun apn170_5 H locs hapn170_5 hP hD hS => ?_)
  have hmem : (n170_5, fy_c T apn170_5 X_lay X_S0 38) ∈ (([(a0, .inr (9, [.ref q1, .ref q2, .ref n21, .ref n32, .ref n43, .ref n54, .ref n67, .ref n81, .ref n92, .ref n103, .ref n114, .ref n125, .int (0 : Int32), .int (0 : Int32)])), (q1, .inl (T 6, 3, .inr (.inr (.inr (.inr (va_up (va_up (va_up (fun _ => none) (0 : Int32).toNatClampNeg (some n157_0)) (1 : Int32).toNatClampNeg (some n157_1)) (2 : Int32).toNatClampNeg (some n157_2))))))), (q2, .inl (T 6, 3, .inr (.inr (.inr (.inr (va_up (va_up (fun _ => none) (0 : Int32).toNatClampNeg (some n170_3)) (1 : Int32).toNatClampNeg (some n170_4)))))))] ++ fy_ls dm15 ad15 (fy_c T ad15 X_lay X_S0)) ++ fy_ls (List.range' 38 41) apn170_5 (fy_c T apn170_5 X_lay X_S0)) := List.mem_append_right _ (by rw [← hapn170_5]; exact List.mem_map.mpr ⟨38, by decide, rfl⟩)
  obtain ⟨kq, hkq⟩ := List.getElem?_of_mem hmem
  have e38 : fy_c T apn170_5 X_lay X_S0 38 = .inr (0, [.ref (apn170_5 39), .ref (apn170_5 41), .ref (apn170_5 40), .int 1, .int 1, .int 0]) := rfl
  rw [e38] at hkq
  refine va_astq (r := (RX0, TX0, 6)) hx hb hK hP hD hS 2 6 kq 0 rfl rfl hkq rfl (fy_ix_in (by decide +kernel)) dX9_init_177 (fun H locs hP hD hS => ?_)
  have hP : va_P D vwCl (([(a0, .inr (9, [.ref q1, .ref q2, .ref n21, .ref n32, .ref n43, .ref n54, .ref n67, .ref n81, .ref n92, .ref n103, .ref n114, .ref n125, .int (0 : Int32), .int (0 : Int32)])), (q1, .inl (T 6, 3, .inr (.inr (.inr (.inr (va_up (va_up (va_up (fun _ => none) (0 : Int32).toNatClampNeg (some n157_0)) (1 : Int32).toNatClampNeg (some n157_1)) (2 : Int32).toNatClampNeg (some n157_2))))))), (q2, .inl (T 6, 3, .inr (.inr (.inr (.inr (va_up (va_up (va_up (fun _ => none) (0 : Int32).toNatClampNeg (some n170_3)) (1 : Int32).toNatClampNeg (some n170_4)) (2 : Int32).toNatClampNeg (some n170_5)))))))] ++ fy_ls dm15 ad15 (fy_c T ad15 X_lay X_S0)) ++ fy_ls (List.range' 38 41) apn170_5 (fy_c T apn170_5 X_lay X_S0)) H := hP
  have hD : va_D (fz_A a0 s.heap.size) (([(a0, .inr (9, [.ref q1, .ref q2, .ref n21, .ref n32, .ref n43, .ref n54, .ref n67, .ref n81, .ref n92, .ref n103, .ref n114, .ref n125, .int (0 : Int32), .int (0 : Int32)])), (q1, .inl (T 6, 3, .inr (.inr (.inr (.inr (va_up (va_up (va_up (fun _ => none) (0 : Int32).toNatClampNeg (some n157_0)) (1 : Int32).toNatClampNeg (some n157_1)) (2 : Int32).toNatClampNeg (some n157_2))))))), (q2, .inl (T 6, 3, .inr (.inr (.inr (.inr (va_up (va_up (va_up (fun _ => none) (0 : Int32).toNatClampNeg (some n170_3)) (1 : Int32).toNatClampNeg (some n170_4)) (2 : Int32).toNatClampNeg (some n170_5)))))))] ++ fy_ls dm15 ad15 (fy_c T ad15 X_lay X_S0)) ++ fy_ls (List.range' 38 41) apn170_5 (fy_c T apn170_5 X_lay X_S0)) := hD
  obtain ⟨ad16, ho16, hn16, hP, hD⟩ := fz_mrgS 5 (by decide) hP hD hok15 (by rw [ed15]; decide +kernel)
  have hok16 : fz_ok (dm15 ++ (List.range' 38 41).map (fun i => i + 41 * 5)) := (hok15.app (fz_okA 5 (by decide)))
  generalize hdm16 : dm15 ++ (List.range' 38 41).map (fun i => i + 41 * 5) = dm16 at hP hD hok16
  have ed16 : dm16 = (((((((((((((((([] ++ (List.range' 38 41).map (fun i => i + 41 * 6)) ++ [3, 4, 5, 6, 7]) ++ [8, 9, 10, 11]) ++ [12, 13]) ++ [14, 15]) ++ [16, 17, 18, 19]) ++ [20, 21, 22, 23, 24, 25]) ++ [26, 27, 28, 29, 30, 31]) ++ [32, 33]) ++ [34, 35, 36, 37]) ++ (List.range' 38 41).map (fun i => i + 41 * 0)) ++ (List.range' 38 41).map (fun i => i + 41 * 3)) ++ (List.range' 38 41).map (fun i => i + 41 * 1)) ++ (List.range' 38 41).map (fun i => i + 41 * 4)) ++ (List.range' 38 41).map (fun i => i + 41 * 2)) ++ (List.range' 38 41).map (fun i => i + 41 * 5)) := by rw [← hdm16, ed15]
  have hq16_243 : ad16 243 = n170_5 := hn16.trans hapn170_5
  have hq16_284 : ad16 284 = n21 := (ho16 284 (by rw [ed15]; decide +kernel)).trans hq15_284
  have hq16_3 : ad16 3 = n32 := (ho16 3 (by rw [ed15]; decide +kernel)).trans hq15_3
  have hq16_8 : ad16 8 = n43 := (ho16 8 (by rw [ed15]; decide +kernel)).trans hq15_8
  have hq16_12 : ad16 12 = n54 := (ho16 12 (by rw [ed15]; decide +kernel)).trans hq15_12
  have hq16_14 : ad16 14 = n67 := (ho16 14 (by rw [ed15]; decide +kernel)).trans hq15_14
  have hq16_16 : ad16 16 = n81 := (ho16 16 (by rw [ed15]; decide +kernel)).trans hq15_16
  have hq16_20 : ad16 20 = n92 := (ho16 20 (by rw [ed15]; decide +kernel)).trans hq15_20
  have hq16_26 : ad16 26 = n103 := (ho16 26 (by rw [ed15]; decide +kernel)).trans hq15_26
  have hq16_32 : ad16 32 = n114 := (ho16 32 (by rw [ed15]; decide +kernel)).trans hq15_32
  have hq16_34 : ad16 34 = n125 := (ho16 34 (by rw [ed15]; decide +kernel)).trans hq15_34
  have hq16_38 : ad16 38 = n157_0 := (ho16 38 (by rw [ed15]; decide +kernel)).trans hq15_38
  have hq16_161 : ad16 161 = n170_3 := (ho16 161 (by rw [ed15]; decide +kernel)).trans hq15_161
  have hq16_79 : ad16 79 = n157_1 := (ho16 79 (by rw [ed15]; decide +kernel)).trans hq15_79
  have hq16_202 : ad16 202 = n170_4 := (ho16 202 (by rw [ed15]; decide +kernel)).trans hq15_202
  have hq16_120 : ad16 120 = n157_2 := (ho16 120 (by rw [ed15]; decide +kernel)).trans hq15_120
  refine lv_iinc (k := 0) (v := (3 : Int32)) (lv' := [(1, .int (3 : Int32)), (0, .ref a0)]) hx hb dX9_init_178 hl rfl (by decide) (by decide) rfl (fun ls hl => ?_)
  refine lv_goto (tgt := 147) hx hb dX9_init_181 (by decide) ?_
  refine lv_iload_n hx hb dX9_init_147 rfl (lv_at hl 0 rfl) ?_
  refine lv_iconst (v := (3 : Int32)) hx hb dX9_init_148 (by decide) ?_
  refine lv_icmp_ge (tgt := 184) hx hb dX9_init_149 (by decide) (fun hc => ?_) (fun hc => absurd (by decide) hc)
  obtain ⟨as, has⟩ : ∃ z : Nat → Nat, z = fun i => if i = 0 then a0 else if i = 1 then q1 else if i = 2 then q2 else ad16 i := ⟨_, rfl⟩
  have as0 : as 0 = a0 := by rw [has]; rfl
  have as1 : as 1 = q1 := by rw [has]; rfl
  have as2 : as 2 = q2 := by rw [has]; rfl
  have asF : ∀ i, 3 ≤ i → as i = ad16 i := fun i h => by rw [has]; simp only []; rw [if_neg (by omega), if_neg (by omega), if_neg (by omega)]
  have h3 : ∀ i ∈ dm16, 3 ≤ i := (by rw [ed16]; decide +kernel)
  have hP2 : va_P D vwCl (fy_ls ([0, 1, 2] ++ dm16) as (fy_c T as X_lay X_S0)) H := by
    refine fz_mem.mpr (fun id hid => ?_)
    rcases List.mem_append.mp hid with h | h
    · simp only [List.mem_cons, List.not_mem_nil, or_false] at h
      rcases h with rfl | rfl | rfl
      · have e : fy_c T as X_lay X_S0 0 = .inr (9, [.ref (as 1), .ref (as 2), .ref (as 284), .ref (as 3), .ref (as 8), .ref (as 12), .ref (as 14), .ref (as 16), .ref (as 20), .ref (as 26), .ref (as 32), .ref (as 34), .int 0, .int 0]) := rfl
        rw [e, as0, as1, as2, asF 284 (by decide), hq16_284, asF 3 (by decide), hq16_3, asF 8 (by decide), hq16_8, asF 12 (by decide), hq16_12, asF 14 (by decide), hq16_14, asF 16 (by decide), hq16_16, asF 20 (by decide), hq16_20, asF 26 (by decide), hq16_26, asF 32 (by decide), hq16_32, asF 34 (by decide), hq16_34]
        exact hP 0 _ rfl
      · have h0 : H[q1]? = some (vp_cell (T 6) (3, .inr (.inr (.inr (.inr (va_up (va_up (va_up (fun _ => none) (0 : Int32).toNatClampNeg (some n157_0)) (1 : Int32).toNatClampNeg (some n157_1)) (2 : Int32).toNatClampNeg (some n157_2))))))) := hP 1 _ rfl
        rw [as1]
        show H[q1]? = some (vp_cell (T 6) (3, .inr (.inr (.inr (.inr (fun j => some (as (X_ar 1 j))))))))
        rw [h0]
        congr 1
        refine fz_arr (fun j hj => ?_)
        match j, hj with
        | 0, _ => show some n157_0 = some (as 38); rw [asF 38 (by decide), hq16_38]
        | 1, _ => show some n157_1 = some (as 79); rw [asF 79 (by decide), hq16_79]
        | 2, _ => show some n157_2 = some (as 120); rw [asF 120 (by decide), hq16_120]
        | j + 3, h => exact absurd h (by omega)
      · have h0 : H[q2]? = some (vp_cell (T 6) (3, .inr (.inr (.inr (.inr (va_up (va_up (va_up (fun _ => none) (0 : Int32).toNatClampNeg (some n170_3)) (1 : Int32).toNatClampNeg (some n170_4)) (2 : Int32).toNatClampNeg (some n170_5))))))) := hP 2 _ rfl
        rw [as2]
        show H[q2]? = some (vp_cell (T 6) (3, .inr (.inr (.inr (.inr (fun j => some (as (X_ar 2 j))))))))
        rw [h0]
        congr 1
        refine fz_arr (fun j hj => ?_)
        match j, hj with
        | 0, _ => show some n170_3 = some (as 161); rw [asF 161 (by decide), hq16_161]
        | 1, _ => show some n170_4 = some (as 202); rw [asF 202 (by decide), hq16_202]
        | 2, _ => show some n170_5 = some (as 243); rw [asF 243 (by decide), hq16_243]
        | j + 3, h => exact absurd h (by omega)
    · rw [asF id (h3 id h)]
      exact fz_tr_id (hok16.1 id h) (fun r hr => (asF r (h3 r (hok16.2 id h r hr))).symm) _ (fz_mem.mp (fz_right hP) id h)
  have hD2 : va_D (fz_A a0 s.heap.size) (fy_ls ([0, 1, 2] ++ dm16) as (fy_c T as X_lay X_S0)) := by
    refine fz_D_addr ?_ hD
    simp only [fy_ls, List.map_append, List.map_map]
    congr 1
    · show [a0, q1, q2] = [as 0, as 1, as 2]
      rw [as0, as1, as2]
    · exact List.map_congr_left (fun i hi => (asF i (h3 i hi)).symm)
  have edX : [0, 1, 2] ++ dm16 = X_dom := by rw [ed16]; rfl
  rw [edX] at hP2 hD2
  exact fz_ret (ad := as) hx hb hr hlk rfl X_dom_nd hP2 hD2 hS X_dom_0 as0 dX9_init_184
