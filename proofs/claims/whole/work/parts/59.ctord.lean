theorem te0 : Cond.fieldLink RX0 22 RX0 "moves" "[LAlternatingAutomata$Formula;" ∈ fy_tb := fy_inR (i := 75) (by decide +kernel) rfl
theorem te1 : Cond.fieldLink RX0 18 RX0 "initial" "LAlternatingAutomata$Formula;" ∈ fy_tb := fy_inR (i := 72) (by decide +kernel) rfl
theorem te2 : Cond.methodLink RX0 26 yX0_clear ∈ fy_tb := fy_inR (i := 61) (by decide +kernel) rfl
theorem te3 : Cond.instanceMethod yX0_clear ∈ fy_tb := fy_inR (i := 62) (by decide +kernel) rfl
theorem te4 : Cond.selects RX0 yX0_clear yX0_clear ∈ fy_tb := fy_inR (i := 63) (by decide +kernel) rfl
theorem te5 : Cond.initialized RX0 ∈ fy_tb := fy_inR (i := 2) (by decide +kernel) rfl
theorem te6 : Cond.code yX0_clear cX0_clear 4 none ∈ fy_tb := fy_inR (i := 64) (by decide +kernel) rfl
theorem te7 : Cond.classLink RX0 15 RX2 ∈ fy_tb := fy_inR (i := 32) (by decide +kernel) rfl
theorem te8 : Cond.instantiable RX2 3 ∈ fy_tb := fy_inR (i := 33) (by decide +kernel) rfl
theorem te9 : Cond.initialized RX2 ∈ fy_tb := fy_inR (i := 3) (by decide +kernel) rfl
theorem te10 : Cond.methodLink RX0 17 yX2_init ∈ fy_tb := fy_inR (i := 34) (by decide +kernel) rfl
theorem te11 : Cond.instanceMethod yX2_init ∈ fy_tb := fy_inR (i := 35) (by decide +kernel) rfl
theorem te12 : Cond.code yX2_init cX2_init 1 none ∈ fy_tb := fy_inR (i := 36) (by decide +kernel) rfl
theorem te13 : Cond.methodLink RX0 3 objectInit ∈ fy_tb := fy_inR (i := 31) (by decide +kernel) rfl
theorem te14 : Cond.instanceMethod objectInit ∈ fy_tb := fy_inR (i := 23) (by decide +kernel) rfl
theorem te15 : Cond.code objectInit ⟨#[0xb1]⟩ 1 none ∈ fy_tb := fy_inR (i := 24) (by decide +kernel) rfl
theorem te16 : Cond.arrayClass .int ∈ fy_tb := fy_inR (i := 58) (by decide +kernel) rfl
theorem te17 : Cond.fieldLink RX0 9 RX0 "weights" "[I" ∈ fy_tb := fy_inR (i := 69) (by decide +kernel) rfl
/-! THE AUTOMATON'S CONSTRUCTOR -/
def fz_dA (i : Nat) : List Nat := List.range' 41 (2 * i + 2)
abbrev fz_wA (T : Nat → ClassId) (a0 q1 q2 qi : Nat) (f : Nat → Option Nat) : va_W := [(a0, .inr (0, [.ref q1, .ref qi, .ref q2, .int 0, .int 0, .int 0])), (q1, .inl (T 0, 3, .inl (fun _ => 0))), (q2, .inl (T 7, 18, .inr (.inr (.inr (.inr f)))))]
def fz_ad (i : Nat) (ad ad' : Nat → Nat) : Nat → Nat := fun id => if id = 43 + 2 * i then ad' 41 else if id = 44 + 2 * i then ad' 42 else ad id
def fz_Sp : fy_S := (fun id k => if X_kd id = 2 then (if k = 1 then 1 else 0) else if X_kd id = 12 then (if k = 0 then 7 else 0) else 0, fun _ _ => 0)
theorem fz_kF : ∀ id, id < 79 → 41 ≤ id → X_kd id = if id % 2 = 1 then 2 else 12 := by decide +kernel
theorem fz_c2 {T : Nat → ClassId} {ad ad' : Nat → Nat} {S S' : fy_S} {id id' : Nat} (h1 : X_kd id = 2) (h2 : X_kd id' = 2) (h3 : ad (id + 1) = ad' (id' + 1)) (h4 : S.1 id 1 = S'.1 id' 1) (h5 : S.2 id 2 = S'.2 id' 2) : fy_c T ad X_lay S id = fy_c T ad' X_lay S' id' := by
  unfold fy_c X_lay
  rw [h1, h2]
  simp only [if_pos (show 2 < 10 by decide), X_sh, fy_fs, fy_v, h3, h4, h5]
theorem fz_c12 {T : Nat → ClassId} {ad ad' : Nat → Nat} {S S' : fy_S} {id id' : Nat} (h1 : X_kd id = 12) (h2 : X_kd id' = 12) (h4 : S.1 id = S'.1 id') : fy_c T ad X_lay S id = fy_c T ad' X_lay S' id' := by
  unfold fy_c X_lay X_al
  rw [h1, h2]
  simp only [if_neg (show ¬ 12 < 10 by decide), fy_a, h4, show X_at 12 = 1 by decide, if_pos (show 1 < 5 by decide)]
theorem fz_S0F {id k : Nat} (h : X_kd id = 2) : X_S0.1 id k = if k = 1 then 1 else 0 := by simp [X_S0, h]
theorem fz_S0N {id : Nat} (h : X_kd id = 12) : X_S0.1 id = fun k => if k = 0 then 7 else 0 := by funext k; simp [X_S0, h]
theorem fz_SpF {id k : Nat} (h : X_kd id = 2) : fz_Sp.1 id k = if k = 1 then 1 else 0 := by simp [fz_Sp, h]
theorem fz_SpN {id : Nat} (h : X_kd id = 12) : fz_Sp.1 id = fun k => if k = 0 then 7 else 0 := by funext k; simp [fz_Sp, h]
theorem fz_dA_s {i : Nat} : fz_dA (i + 1) = fz_dA i ++ [43 + 2 * i, 44 + 2 * i] := by
  unfold fz_dA
  rw [show 2 * (i + 1) + 2 = (2 * i + 2) + 2 by omega, ← List.range'_append_1]
  congr 1
  rw [show 41 + (2 * i + 2) = 43 + 2 * i by omega]
  simp only [List.range'_succ, List.range'_zero]
  rw [show 43 + 2 * i + 1 = 44 + 2 * i by omega]
theorem fz_dA_m {i id : Nat} : id ∈ fz_dA i ↔ 41 ≤ id ∧ id < 43 + 2 * i := by
  unfold fz_dA
  rw [List.mem_range'_1]
  omega
theorem fz_mrg {T : Nat → ClassId} {ad ad' : Nat → Nat} {i : Nat} (hi : i < 18) : fy_ls (fz_dA i) ad (fy_c T ad X_lay X_S0) ++ fy_ls [41, 42] ad' (fy_c T ad' X_lay X_S0) = fy_ls (fz_dA (i + 1)) (fz_ad i ad ad') (fy_c T (fz_ad i ad ad') X_lay X_S0) := by
  rw [fz_dA_s]
  have e : ∀ (a b : List Nat) (f : Nat → Nat) (c : Nat → va_E), fy_ls (a ++ b) f c = fy_ls a f c ++ fy_ls b f c := fun a b f c => by unfold fy_ls; exact List.map_append
  rw [e]
  congr 1
  · refine fy_ls_congr (fun id hid => ?_)
    rw [fz_dA_m] at hid
    have hk := fz_kF id (by omega) hid.1
    have h1 : fz_ad i ad ad' id = ad id := by unfold fz_ad; rw [if_neg (by omega), if_neg (by omega)]
    refine ⟨h1.symm, ?_⟩
    by_cases ho : id % 2 = 1
    · rw [if_pos ho] at hk
      exact fz_c2 hk hk (by unfold fz_ad; rw [if_neg (by omega), if_neg (by omega)]) rfl rfl
    · rw [if_neg ho] at hk
      exact fz_c12 hk hk rfl
  · have k1 : X_kd (43 + 2 * i) = 2 := by rw [fz_kF _ (by omega) (by omega), if_pos (by omega)]
    have k2 : X_kd (44 + 2 * i) = 12 := by rw [fz_kF _ (by omega) (by omega), if_neg (by omega)]
    have k3 : X_kd 41 = 2 := by decide
    have k4 : X_kd 42 = 12 := by decide
    have a1 : fz_ad i ad ad' (43 + 2 * i) = ad' 41 := by unfold fz_ad; rw [if_pos rfl]
    have a2 : fz_ad i ad ad' (44 + 2 * i) = ad' 42 := by unfold fz_ad; rw [if_neg (by omega), if_pos rfl]
    have c1 : fy_c T ad' X_lay X_S0 41 = fy_c T (fz_ad i ad ad') X_lay X_S0 (43 + 2 * i) := fz_c2 k3 k1 (by rw [show 43 + 2 * i + 1 = 44 + 2 * i by omega, a2]) (by rw [fz_S0F k3, fz_S0F k1]) rfl
    have c2 : fy_c T ad' X_lay X_S0 42 = fy_c T (fz_ad i ad ad') X_lay X_S0 (44 + 2 * i) := fz_c12 k4 k2 (by rw [fz_S0N k4, fz_S0N k2])
    show [(ad' 41, fy_c T ad' X_lay X_S0 41), (ad' 42, fy_c T ad' X_lay X_S0 42)] = [(fz_ad i ad ad' (43 + 2 * i), _), (fz_ad i ad ad' (44 + 2 * i), _)]
    rw [a1, a2, c1, c2]
theorem fz_arr {cA : ClassId} {n : Nat} {f f' : Nat → Option Nat} (h : ∀ j, j < n → f j = f' j) : vp_cell cA (n, .inr (.inr (.inr (.inr f)))) = vp_cell cA (n, .inr (.inr (.inr (.inr f')))) := by
  show arrV cA n (fun j => va_rf (f j)) = arrV cA n (fun j => va_rf (f' j))
  unfold arrV
  congr 2
  funext j
  show va_rf (f j.val) = va_rf (f' j.val)
  rw [h j.val j.isLt]
def fz_S12 : fy_S := fy_sI (fy_sI (fy_sI fz_Sp 38 3 1) 38 4 1) 38 5 0
def fz_SA : fy_S := fy_sA fz_S12 39 (fun k => if k < 3 then 1 else fz_S12.1 39 k)
theorem fz_S12_ne {id : Nat} (h : id ≠ 38) : fz_S12.1 id = fz_Sp.1 id := by simp [fz_S12, fy_sI, va_up, h]
theorem fz_bfA {j : Nat} (h1 : 41 ≤ j) (h2 : j < 78) (h3 : j % 2 = 1) : X2_becomeFalse fz_S12 j = some fz_S12 := by
  have k1 : X_kd j = 2 := by rw [fz_kF _ (by omega) h1, if_pos h3]
  have k2 : X_kd (j + 1) = 12 := by rw [fz_kF _ (by omega) (by omega), if_neg (by omega)]
  exact fz_false_id (by rw [fz_S12_ne (by omega), fz_SpN k2]; rfl) (by rw [fz_S12_ne (by omega), fz_SpF k1]; rfl) rfl
theorem fz_clrL : ∀ (d i fu : Nat), i + d = 18 → d < fu → X0_clear_24 fu fz_S12 38 (nI i) = some fz_SA := by
  intro d
  induction d with
  | zero =>
    intro i fu hi hfu
    obtain ⟨fu, rfl⟩ : ∃ z, fu = z + 1 := ⟨fu - 1, by omega⟩
    have : i = 18 := by omega
    subst this
    have e18 : Int32.ofNat 18 = nI 18 := rfl
    rw [X0_clear_24, e18, if_pos (nI_le (a := 18) (b := 18) (Nat.le_refl _) (by decide)), fz_fillI_all (n := 3) (by decide) (by decide)]
    rfl
  | succ d ih =>
    intro i fu hi hfu
    obtain ⟨fu, rfl⟩ : ∃ z, fu = z + 1 := ⟨fu - 1, by omega⟩
    have hin : i < 18 := by omega
    have ha : X_ar (38 + 2) i = 43 + 2 * i := by
      have : X_kd 40 = 11 := by decide
      unfold X_ar
      rw [if_pos this]
    have e18 : Int32.ofNat 18 = nI 18 := rfl
    rw [X0_clear_24, e18, if_neg (nI_ge (b := 18) hin (by decide)), fy_ix_nI hin (by decide), nI_clamp (by omega), ha, fz_bfA (by omega) (by omega) (by omega)]
    simp only [fy_gd, if_true, fy_bl, fy_bd, nI_1]
    exact ih (i + 1) fu (by omega) (by omega)
theorem fz_clr_eq (S : fy_S) (v0 : Nat) (v1 v2 : Int32) : X0_clear S v0 v1 v2 = fy_bd (X2_becomeFalse (fy_sI (fy_sI (fy_sI S v0 3 v1) v0 4 v2) v0 5 0) (v0 + 3)) (fun S19 => X0_clear_24 fy_fu S19 v0 0) := rfl
theorem fz_clr_g {S : fy_S} {fu : Nat} (hfu : 18 < fu) (e : S = fz_S12) : fy_bd (X2_becomeFalse S (38 + 3)) (fun S19 => X0_clear_24 fu S19 38 0) = some fz_SA := by
  have h := fz_clrL 18 0 fu rfl hfu
  rw [nI_0] at h
  rw [e, fz_bfA (j := 38 + 3) (by decide) (by decide) (by decide), fy_bd_s]
  exact h
theorem fz_clr : X0_clear fz_Sp 38 1 1 = some fz_SA := by
  rw [fz_clr_eq]
  exact fz_clr_g (fz_fu (by decide)) rfl
theorem fz_SA_ok : ∀ id ∈ List.range' 38 41, fz_SA.1 id = X_S0.1 id ∧ fz_SA.2 id = X_S0.2 id := by
  intro id hid
  rw [List.mem_range'_1] at hid
  refine ⟨?_, rfl⟩
  by_cases h0 : id = 38
  · subst h0
    have : X_kd 38 = 0 := by decide
    funext k
    by_cases h3 : k = 3
    · subst h3; simp [fz_SA, fz_S12, fy_sA, fy_sI, va_up, X_S0, this]
    · by_cases h4 : k = 4
      · subst h4; simp [fz_SA, fz_S12, fy_sA, fy_sI, va_up, X_S0, this]
      · by_cases h5 : k = 5
        · subst h5; simp [fz_SA, fz_S12, fy_sA, fy_sI, va_up, X_S0, this]
        · simp [fz_SA, fz_S12, fy_sA, fy_sI, va_up, X_S0, this, h3, h4, h5, fz_Sp]
  · by_cases h1 : id = 39
    · subst h1
      have : X_kd 39 = 10 := by decide
      funext k
      have e : fz_S12.1 39 k = 0 := by rw [fz_S12_ne (by decide)]; simp [fz_Sp, this]
      simp [fz_SA, fy_sA, va_up, X_S0, this, e]
    · have e : fz_SA.1 id = fz_Sp.1 id := by
        have : fz_SA.1 id = fz_S12.1 id := by simp [fz_SA, fy_sA, va_up, h1]
        rw [this, fz_S12_ne h0]
      rw [e]
      by_cases h2 : id = 40
      · subst h2
        have : X_kd 40 = 11 := by decide
        funext k
        simp [fz_Sp, X_S0, this]
      · have hk := fz_kF id (by omega) (by omega)
        by_cases ho : id % 2 = 1
        · rw [if_pos ho] at hk
          funext k
          rw [fz_SpF hk, fz_S0F hk]
        · rw [if_neg ho] at hk
          rw [fz_SpN hk, fz_S0N hk]
set_option maxHeartbeats 4000000 in
set_option maxRecDepth 100000 in
theorem fz_A_end {p : Program} {l : Launch} {e : Env} {s : State} {m : MethodId} {args : Array Value} {below : List Frame} {meth : Method} {c : Code} {D : va_G} {T : Nat → ClassId} {a0 q1 q2 qi : Nat} (hx : p.tables.exec = Jvm.exec) (hb : c.code = cX0_init) (hr : meth.sig.returnType = none) (hts : ∀ w ∈ fy_tb, w.before args s = true) (hown : s.vm.findClass RX0 = some m.cls) (hlk : meth.locks = false) (hml : c.maxLocals = 2) (hK : va_K D vwCl (fy_ty T) s) (hN : fy_N s) (hO : fz_O s) {ad : Nat → Nat} {f : Nat → Option Nat} {H : Heap} {locs : List Loc} {ls : Array Slot} (had : ad 41 = qi) (hf : ∀ j, j < 18 → f j = some (ad (43 + 2 * j))) (hP : va_P D vwCl (fz_wA T a0 q1 q2 qi f ++ fy_ls (fz_dA 18) ad (fy_c T ad X_lay X_S0)) H) (hD : va_D (fz_A a0 s.heap.size) (fz_wA T a0 q1 q2 qi f ++ fy_ls (fz_dA 18) ad (fy_c T ad X_lay X_S0))) (hS : va_S (fz_A a0 s.heap.size) s.heap H locs) {iv : Value} (hl : lv_has ls 2 [(1, iv), (0, .ref a0)]) : W p l e (fz_rm 2 40 838) s m args below meth c H locs (40) (838) (MQ below (fz_QV D T X_lay X_S0 (List.range' 38 41) 38 a0 s.heap.size) args s 40 838 (fz_A a0 s.heap.size)) (F0 m 61 ls []) := by
  obtain ⟨as, has⟩ : ∃ z : Nat → Nat, z = fun id => if id = 38 then a0 else if id = 39 then q1 else if id = 40 then q2 else ad id := ⟨_, rfl⟩
  have as0 : as 38 = a0 := by rw [has]; rfl
  have as1 : as 39 = q1 := by rw [has]; rfl
  have as2 : as 40 = q2 := by rw [has]; rfl
  have asF : ∀ id, 41 ≤ id → as id = ad id := fun id h => by rw [has]; simp only []; rw [if_neg (by omega), if_neg (by omega), if_neg (by omega)]
  let g : fy_G := (D, T, as, none)
  let y : fy_Y := (X_lay, List.range' 38 41)
  have hcl : X_clo y := ⟨rfl, by decide +kernel, by decide +kernel, by decide +kernel, by decide +kernel, by decide +kernel, by decide +kernel, by decide +kernel⟩
  have hat : ∀ id ∈ List.range' 38 41, ∃ e : va_E, (fz_wA T a0 q1 q2 qi f ++ fy_ls (fz_dA 18) ad (fy_c T ad X_lay X_S0))[id - 38]? = some (as id, e) ∧ (va_at D vwCl (as id, e) H → va_at D vwCl (as id, fy_c T as X_lay fz_Sp id) H) := by
    intro id hid
    rw [List.mem_range'_1] at hid
    by_cases h0 : id = 38
    · subst h0
      refine ⟨_, by rw [as0]; rfl, fun h => ?_⟩
      have e : fy_c T as X_lay fz_Sp 38 = .inr (0, [.ref (as 39), .ref (as 41), .ref (as 40), .int 0, .int 0, .int 0]) := rfl
      rw [e, as1, as2, asF 41 (by decide), had]
      exact h
    · by_cases h1 : id = 39
      · subst h1
        refine ⟨_, by rw [as1]; rfl, fun h => ?_⟩
        exact h
      · by_cases h2 : id = 40
        · subst h2
          refine ⟨_, by rw [as2]; rfl, fun h => ?_⟩
          have h : H[as 40]? = some (vp_cell (T 7) (18, .inr (.inr (.inr (.inr f))))) := h
          show H[as 40]? = some (vp_cell (T 7) (18, .inr (.inr (.inr (.inr (fun j => some (as (X_ar 40 j))))))))
          rw [h]
          congr 1
          refine fz_arr (fun j hj => ?_)
          have ha : X_ar 40 j = 43 + 2 * j := by
            have : X_kd 40 = 11 := by decide
            unfold X_ar
            rw [if_pos this]
          rw [ha, asF _ (by omega)]
          exact hf j hj
        · have hk := fz_kF id (by omega) (by omega)
          have hg : (fz_dA 18)[id - 41]? = some id := by
            unfold fz_dA
            rw [List.getElem?_range' (by omega)]
            congr 1
            omega
          refine ⟨fy_c T ad X_lay X_S0 id, ?_, fun h => ?_⟩
          · rw [show id - 38 = (id - 41) + 3 by omega]
            show (fy_ls (fz_dA 18) ad (fy_c T ad X_lay X_S0))[id - 41]? = _
            unfold fy_ls
            rw [List.getElem?_map, hg, asF id (by omega)]
            rfl
          · have e : fy_c T as X_lay fz_Sp id = fy_c T ad X_lay X_S0 id := by
              by_cases ho : id % 2 = 1
              · rw [if_pos ho] at hk
                exact fz_c2 hk hk (asF _ (by omega)) (by rw [fz_SpF hk, fz_S0F hk]) rfl
              · rw [if_neg ho] at hk
                exact fz_c12 hk hk (by rw [fz_SpN hk, fz_S0N hk])
            rw [e]; exact h
  have hPy : fy_P g y fz_Sp H := by
    intro k q hk
    obtain ⟨id, hid, rfl⟩ := fy_ls_inv hk
    obtain ⟨e0, g1, g2⟩ := hat id (List.mem_of_getElem? hid)
    exact g2 (hP _ _ g1)
  have hDy : fy_D g y := by
    refine ⟨List.nodup_range', fun i j hi hj hij => ?_⟩
    obtain ⟨e0, g1, -⟩ := hat i hi
    obtain ⟨e1, g2, -⟩ := hat j hj
    have h := hD.1 _ _ _ _ g1 g2 hij
    have hi := List.mem_range'_1.mp hi
    have hj := List.mem_range'_1.mp hj
    omega
  have hsub : ∀ q, fy_A g y q → fz_A a0 s.heap.size q := by
    rintro q ⟨i, hi, rfl⟩
    obtain ⟨e0, g1, -⟩ := hat i hi
    exact hD.2 _ _ g1
  have hE : fy_E g y s H := fun t h => by cases h
  have hDl : ∀ c1 : Nat → va_E, va_D (fz_A a0 s.heap.size) (fy_ls (List.range' 38 41) as c1) := by
    intro c1
    refine ⟨fun i j x z hx hz hxz => ?_, fun k x hx => ?_⟩
    · obtain ⟨a, ha, rfl⟩ := fy_ls_inv hx
      obtain ⟨b, hb, rfl⟩ := fy_ls_inv hz
      have := hDy.2 a b (List.mem_of_getElem? ha) (List.mem_of_getElem? hb) hxz
      subst this
      exact fy_nd_inj hDy.1 ha hb
    · obtain ⟨a, ha, rfl⟩ := fy_ls_inv hx
      exact hsub _ ⟨a, List.mem_of_getElem? ha, rfl⟩
  have his : X_is y 0 38 := ⟨by decide, by decide⟩
  refine lv_aload_n hx hb dX0_init_61 rfl (lv_at hl 1 rfl) ?_
  refine lv_iconst (v := (1 : Int32)) hx hb dX0_init_62 (by decide) ?_
  refine lv_iconst (v := (1 : Int32)) hx hb dX0_init_63 (by decide) ?_
  refine fz_calV (g := g) (y := y) hS hsub (fz_runV (id := 38) (np := 2) (As := [.int (1 : Int32), .int (1 : Int32)]) (rest := []) hx hb hml hown hts hK hDy hE hN hPy (c_X0_clear l g hcl his fz_clr) (X_o0 hcl his) ⟨te2, te3, te4, te5, te6, (by decide +kernel), (by decide +kernel), (by decide +kernel)⟩ rfl ⟨(Nat.le_of_ble_eq_true rfl), (Nat.le_of_ble_eq_true rfl)⟩ rfl hl.1 (by show _ = [Value.int 1, Value.int 1] ++ .ref (as 38) :: []; rw [as0]; rfl) (Nat.le_of_ble_eq_true rfl) ⟨(Nat.le_of_ble_eq_true rfl), (Nat.le_of_ble_eq_true rfl)⟩ dX0_init_64) (fun H locs hP _ hS => ?_)
  have hP : va_P D vwCl (fy_ls (List.range' 38 41) as (fy_c T as X_lay fz_SA)) H := hP
  exact fz_ret (ad := as) hx hb hr hlk (fy_ls_congr (fun id hid => ⟨rfl, fy_c_eq (fz_SA_ok id hid).1 (fz_SA_ok id hid).2⟩)) List.nodup_range' hP (hDl _) hS (by decide) as0 dX0_init_67
set_option maxHeartbeats 4000000 in
set_option maxRecDepth 100000 in
theorem fz_A_loop {p : Program} {l : Launch} {e : Env} {s : State} {m : MethodId} {args : Array Value} {below : List Frame} {meth : Method} {c : Code} {D : va_G} {T : Nat → ClassId} {a0 q1 q2 qi : Nat} (hx : p.tables.exec = Jvm.exec) (hb : c.code = cX0_init) (hr : meth.sig.returnType = none) (hts : ∀ w ∈ fy_tb, w.before args s = true) (hown : s.vm.findClass RX0 = some m.cls) (hlk : meth.locks = false) (hml : c.maxLocals = 2) (hK : va_K D vwCl (fy_ty T) s) (hN : fy_N s) (hO : fz_O s) : ∀ (d i : Nat), i + d = 18 → ∀ (ad : Nat → Nat) (f : Nat → Option Nat) (H : Heap) (locs : List Loc) (ls : Array Slot), ad 41 = qi → (∀ j, j < i → f j = some (ad (43 + 2 * j))) → va_P D vwCl (fz_wA T a0 q1 q2 qi f ++ fy_ls (fz_dA i) ad (fy_c T ad X_lay X_S0)) H → va_D (fz_A a0 s.heap.size) (fz_wA T a0 q1 q2 qi f ++ fy_ls (fz_dA i) ad (fy_c T ad X_lay X_S0)) → va_S (fz_A a0 s.heap.size) s.heap H locs → lv_has ls 2 [(1, .int (nI i)), (0, .ref a0)] → W p l e (fz_rm 2 40 838) s m args below meth c H locs (4 + 2 * i) (64 + 43 * i) (MQ below (fz_QV D T X_lay X_S0 (List.range' 38 41) 38 a0 s.heap.size) args s 40 838 (fz_A a0 s.heap.size)) (F0 m 33 ls []) := by
  have hA : ∀ q : Nat, s.heap.size ≤ q → fz_A a0 s.heap.size q := fun q h => Or.inr h
  intro d
  induction d with
  | zero =>
    intro i hi ad f H locs ls had hf hP hD hS hl
    have h18 : i = 18 := by omega
    subst h18
    refine lv_iload_n hx hb dX0_init_33 rfl (lv_at hl 0 rfl) ?_
    refine lv_aload_n hx hb dX0_init_34 rfl (lv_at hl 1 rfl) ?_
    refine va_get (D := D) (ci := 0) (v := .ref q2) (C := RX0) (T := TX0) (N := 6) hx hb hts ti_X0 hown hK hP 0 rfl rfl 2 (by decide) (hts _ te0) (fun _ h9 => h9) rfl dX0_init_35 ?_
    refine va_alen hx hb hK hP 2 7 rfl rfl (v := nI 18) rfl dX0_init_38 ?_
    refine lv_icmp_ge (tgt := 61) hx hb dX0_init_39 (by decide) (fun hc => ?_) (fun hc => absurd (nI_le (Nat.le_refl _) (by decide)) hc)
    exact fz_A_end hx hb hr hts hown hlk hml hK hN hO had hf hP hD hS hl
  | succ d ih =>
    intro i hi ad f H locs ls had hf hP hD hS hl
    have hin : i < 18 := by omega
    refine lv_iload_n hx hb dX0_init_33 rfl (lv_at hl 0 rfl) ?_
    refine lv_aload_n hx hb dX0_init_34 rfl (lv_at hl 1 rfl) ?_
    refine va_get (D := D) (ci := 0) (v := .ref q2) (C := RX0) (T := TX0) (N := 6) hx hb hts ti_X0 hown hK hP 0 rfl rfl 2 (by decide) (hts _ te0) (fun _ h9 => h9) rfl dX0_init_35 ?_
    refine va_alen hx hb hK hP 2 7 rfl rfl (v := nI 18) rfl dX0_init_38 ?_
    refine lv_icmp_ge (tgt := 61) hx hb dX0_init_39 (by decide) (fun hc => absurd hc (nI_ge hin (by decide))) (fun hc => ?_)
    refine lv_aload_n hx hb dX0_init_42 rfl (lv_at hl 1 rfl) ?_
    refine va_get (D := D) (ci := 0) (v := .ref q2) (C := RX0) (T := TX0) (N := 6) hx hb hts ti_X0 hown hK hP 0 rfl rfl 2 (by decide) (hts _ te0) (fun _ h9 => h9) rfl dX0_init_43 ?_
    refine lv_iload_n hx hb dX0_init_46 rfl (lv_at hl 0 rfl) ?_
    refine va_new (ci := 2) (fs := [.null, .int 0, .long 0]) (C := RX2) (T := TX2) (N := 3) hx hb hts ti_X2 tyX2 tyX2_ok hown (hts _ te7) (hts _ te8) (hts _ te9) hK hP hD hS hA rfl (fun j hj => by match j, hj with | 0, _ => rfl | 1, _ => rfl | 2, _ => rfl) (by show 4 + 2 * i + 1 ≤ 40; omega) (by show 64 + 43 * i + 3 ≤ 838; omega) dX0_init_47 (fun qf H hP hD hS => ?_)
    refine lv_dup hx hb dX0_init_50 rfl ?_
    refine fz_cal (ws := fz_wA T a0 q1 q2 qi f ++ fy_ls (fz_dA i) ad (fy_c T ad X_lay X_S0)) hP hD hS hA (by decide) (fz_run (As := []) (rest := [.ref qf, .int (nI i), .ref q2]) hx hb hml hown hts hK hN hO (fz_last hP) (cc_X2 l D T qf H.size) ⟨te10, te11, te9, te12, rfl, (by decide +kernel), (by decide +kernel), (by decide +kernel)⟩ ⟨(Nat.le_of_ble_eq_true rfl), (Nat.le_of_ble_eq_true rfl)⟩ rfl hl.1 rfl (Nat.le_of_ble_eq_true rfl) ⟨(by show 4 + 2 * i + 1 + 1 ≤ 40; omega), (by show 64 + 43 * i + 3 + 40 ≤ 838; omega)⟩ dX0_init_51) (fun ad' H locs had' hP hD hS => ?_)
    have e41 : fy_c T ad' X_lay X_S0 41 = .inr (2, [.ref (ad' 42), .int 1, .long 0]) := rfl
    have hmem : (qf, fy_c T ad' X_lay X_S0 41) ∈ (fz_wA T a0 q1 q2 qi f ++ fy_ls (fz_dA i) ad (fy_c T ad X_lay X_S0)) ++ fy_ls [41, 42] ad' (fy_c T ad' X_lay X_S0) := List.mem_append_right _ (by rw [← had']; exact List.mem_cons_self)
    obtain ⟨kq, hkq⟩ := List.getElem?_of_mem hmem
    rw [e41] at hkq
    refine va_astq (r := (RX2, TX2, 3)) hx hb hK hP hD hS 2 7 kq 2 rfl rfl hkq rfl (vp_in_nI hin (by decide)) dX0_init_54 (fun H locs hP hD hS => ?_)
    rw [nI_clamp (by omega)] at hP hD
    have hP : va_P D vwCl ((fz_wA T a0 q1 q2 qi (va_up f i (some qf)) ++ fy_ls (fz_dA i) ad (fy_c T ad X_lay X_S0)) ++ fy_ls [41, 42] ad' (fy_c T ad' X_lay X_S0)) H := hP
    have hD : va_D (fz_A a0 s.heap.size) ((fz_wA T a0 q1 q2 qi (va_up f i (some qf)) ++ fy_ls (fz_dA i) ad (fy_c T ad X_lay X_S0)) ++ fy_ls [41, 42] ad' (fy_c T ad' X_lay X_S0)) := hD
    rw [List.append_assoc, fz_mrg hin] at hP hD
    refine lv_iinc (k := 0) (v := nI (i + 1)) (lv' := [(1, .int (nI (i + 1))), (0, .ref a0)]) hx hb dX0_init_55 hl rfl (by rw [← nI_1]; rfl) (by decide) rfl (fun ls hl => ?_)
    refine lv_goto (tgt := 33) hx hb dX0_init_58 (by decide) ?_
    refine W.cs (cells' := 4 + 2 * (i + 1)) (slots' := 64 + 43 * (i + 1)) (by omega) (by omega) ?_
    refine ih (i + 1) (by omega) (fz_ad i ad ad') (va_up f i (some qf)) _ _ _ ?_ ?_ hP hD hS hl
    · unfold fz_ad; rw [if_neg (by omega), if_neg (by omega)]; exact had
    · intro j hj
      by_cases hji : j = i
      · subst hji
        simp only [va_up, if_true]
        unfold fz_ad
        rw [if_pos rfl, had']
      · simp only [va_up, if_neg hji]
        unfold fz_ad
        rw [if_neg (by omega), if_neg (by omega)]
        exact hf j (by omega)
set_option maxHeartbeats 4000000 in
set_option maxRecDepth 100000 in
theorem cc_X0 (l : Launch) (D : va_G) (T : Nat → ClassId) (a0 sz : Nat) : fz_M l yX0_init cX0_init 2 (fz_rm 2 40 838) D T X_lay X_S0 [] a0 sz 0 [.null, .null, .null, .int 0, .int 0, .int 0] (List.range' 38 41) 38 40 838 := by
  refine fz_entry (by decide +kernel) rfl (Nat.le_of_ble_eq_true rfl) ?_
  intro p e s m args below meth c ls hx hb hr hts hown hlk hml hin hK hN hO hP hD hS hl
  have hA : ∀ q : Nat, s.heap.size ≤ q → fz_A a0 s.heap.size q := fun q h => Or.inr h
  refine lv_aload_n hx hb dX0_init_0 rfl (lv_at hl 0 rfl) ?_
  refine W.objInit hx hb hown (hts _ te13) (hts _ te14) (hts _ te15) rfl (by rw [hml]; exact hl.1) rfl dX0_init_1 (Nat.le_of_ble_eq_true rfl) (Nat.le_of_ble_eq_true rfl) ?_
  refine W.eq (g2 := F0 m 4 ls []) rfl ?_
  refine lv_aload_n hx hb dX0_init_4 rfl (lv_at hl 0 rfl) ?_
  refine lv_iconst (v := (3 : Int32)) hx hb dX0_init_5 (by decide) ?_
  refine fz_newa (atype := .int) (ty := .int) (t := 0) (N' := 3) (x0 := (3, .inl (fun _ => 0))) hx hb hts te16 rfl (fun C h => by cases h) hK rfl hP hD hS hA (fun _ => rfl) (by decide) (by decide) (Nat.le_of_ble_eq_true rfl) (Nat.le_of_ble_eq_true rfl) (Nat.le_of_ble_eq_true rfl) dX0_init_6 (fun q1 H hP hD hS => ?_)
  have hP : va_P D vwCl [(a0, .inr (0, [.null, .null, .null, .int 0, .int 0, .int 0])), (q1, .inl (T 0, 3, .inl (fun _ => 0)))] H := hP
  have hD : va_D (fz_A a0 s.heap.size) [(a0, .inr (0, [.null, .null, .null, .int 0, .int 0, .int 0])), (q1, .inl (T 0, 3, .inl (fun _ => 0)))] := hD
  refine va_putF (D := D) (ci := 0) (v := .ref q1) (ty := .array .int) (C := RX0) (T := TX0) (N := 6) hx hb hts ti_X0 tyX0 tyX0_ok nmX0 hown hK hP hD hS 0 rfl rfl 0 (by decide) (hts _ te17) (fun _ h9 => h9) rfl hin rfl rfl rfl rfl (Nat.le_of_ble_eq_true rfl) dX0_init_8 (fun H locs hP hD hS => ?_)
  have hP : va_P D vwCl [(a0, .inr (0, [.ref q1, .null, .null, .int 0, .int 0, .int 0])), (q1, .inl (T 0, 3, .inl (fun _ => 0)))] H := hP
  have hD : va_D (fz_A a0 s.heap.size) [(a0, .inr (0, [.ref q1, .null, .null, .int 0, .int 0, .int 0])), (q1, .inl (T 0, 3, .inl (fun _ => 0)))] := hD
  refine lv_aload_n hx hb dX0_init_11 rfl (lv_at hl 0 rfl) ?_
  refine va_new (ci := 2) (fs := [.null, .int 0, .long 0]) (C := RX2) (T := TX2) (N := 3) hx hb hts ti_X2 tyX2 tyX2_ok hown (hts _ te7) (hts _ te8) (hts _ te9) hK hP hD hS hA rfl (fun j hj => by match j, hj with | 0, _ => rfl | 1, _ => rfl | 2, _ => rfl) (Nat.le_of_ble_eq_true rfl) (Nat.le_of_ble_eq_true rfl) dX0_init_12 (fun qf H hP hD hS => ?_)
  refine lv_dup hx hb dX0_init_15 rfl ?_
  refine fz_cal (ws := [(a0, .inr (0, [.ref q1, .null, .null, .int 0, .int 0, .int 0])), (q1, .inl (T 0, 3, .inl (fun _ => 0)))]) hP hD hS hA (by decide) (fz_run (As := []) (rest := [.ref qf, .ref a0]) hx hb hml hown hts hK hN hO (fz_last hP) (cc_X2 l D T qf H.size) ⟨te10, te11, te9, te12, rfl, (by decide +kernel), (by decide +kernel), (by decide +kernel)⟩ ⟨(Nat.le_of_ble_eq_true rfl), (Nat.le_of_ble_eq_true rfl)⟩ rfl hl.1 rfl (Nat.le_of_ble_eq_true rfl) ⟨(Nat.le_of_ble_eq_true rfl), (Nat.le_of_ble_eq_true rfl)⟩ dX0_init_16) (fun ad H locs had hP hD hS => ?_)
  refine va_putF (D := D) (ci := 0) (v := .ref qf) (ty := .object "AlternatingAutomata$Formula") (C := RX0) (T := TX0) (N := 6) hx hb hts ti_X0 tyX0 tyX0_ok nmX0 hown hK hP hD hS 0 rfl rfl 1 (by decide) (hts _ te1) (fun _ h9 => h9) rfl hin rfl rfl rfl rfl (Nat.le_of_ble_eq_true rfl) dX0_init_19 (fun H locs hP hD hS => ?_)
  have hP : va_P D vwCl ([(a0, .inr (0, [.ref q1, .ref qf, .null, .int 0, .int 0, .int 0])), (q1, .inl (T 0, 3, .inl (fun _ => 0)))] ++ fy_ls [41, 42] ad (fy_c T ad X_lay X_S0)) H := hP
  have hD : va_D (fz_A a0 s.heap.size) ([(a0, .inr (0, [.ref q1, .ref qf, .null, .int 0, .int 0, .int 0])), (q1, .inl (T 0, 3, .inl (fun _ => 0)))] ++ fy_ls [41, 42] ad (fy_c T ad X_lay X_S0)) := hD
  refine lv_aload_n hx hb dX0_init_22 rfl (lv_at hl 0 rfl) ?_
  refine lv_bipush (v := (18 : Int32)) hx hb dX0_init_23 (by decide) ?_
  refine fz_newq (C := RX2) (t := 7) (N' := 18) hx hb hts hown te7 hO.2 hK rfl hP hD hS hA (by decide) (by decide) (Nat.le_of_ble_eq_true rfl) (Nat.le_of_ble_eq_true rfl) (Nat.le_of_ble_eq_true rfl) dX0_init_25 (fun q2 H hP hD hS => ?_)
  refine va_putF (D := D) (ci := 0) (v := .ref q2) (ty := .array (.object "AlternatingAutomata$Formula")) (C := RX0) (T := TX0) (N := 6) hx hb hts ti_X0 tyX0 tyX0_ok nmX0 hown hK hP hD hS 0 rfl rfl 2 (by decide) (hts _ te0) (fun _ h9 => h9) rfl hin rfl rfl rfl rfl (Nat.le_of_ble_eq_true rfl) dX0_init_28 (fun H locs hP hD hS => ?_)
  have hP : va_P D vwCl (([(a0, .inr (0, [.ref q1, .ref qf, .ref q2, .int 0, .int 0, .int 0])), (q1, .inl (T 0, 3, .inl (fun _ => 0)))] ++ fy_ls [41, 42] ad (fy_c T ad X_lay X_S0)) ++ [(q2, .inl (T 7, 18, .inr (.inr (.inr (.inr (fun _ => none))))))]) H := hP
  have hD : va_D (fz_A a0 s.heap.size) (([(a0, .inr (0, [.ref q1, .ref qf, .ref q2, .int 0, .int 0, .int 0])), (q1, .inl (T 0, 3, .inl (fun _ => 0)))] ++ fy_ls [41, 42] ad (fy_c T ad X_lay X_S0)) ++ [(q2, .inl (T 7, 18, .inr (.inr (.inr (.inr (fun _ => none))))))]) := hD
  have hP : va_P D vwCl (fz_wA T a0 q1 q2 qf (fun _ => none) ++ fy_ls (fz_dA 0) ad (fy_c T ad X_lay X_S0)) H := hP.swap
  have hD : va_D (fz_A a0 s.heap.size) (fz_wA T a0 q1 q2 qf (fun _ => none) ++ fy_ls (fz_dA 0) ad (fy_c T ad X_lay X_S0)) := hD.swap
  refine lv_iconst (v := nI 0) hx hb dX0_init_31 (by decide) ?_
  refine lv_istore_n (lv' := [(1, .int (nI 0)), (0, .ref a0)]) hx hb dX0_init_32 rfl hl (by decide) rfl (fun ls hl => ?_)
  exact fz_A_loop hx hb hr hts hown hlk hml hK hN hO 18 0 (by decide) ad _ _ _ _ had (fun j hj => absurd hj (by omega)) hP hD hS hl
