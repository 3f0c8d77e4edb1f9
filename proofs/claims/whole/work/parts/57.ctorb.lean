/-! calls over a whole part that a constructor has made; small facts of states -/
def fz_Z : fy_S := (fun _ _ => 0, fun _ _ => 0)
theorem fy_ix_nI {i n : Nat} (h : i < n) (hn : n < 2 ^ 31) : fy_ix (nI i) n = true := by
  unfold fy_ix
  rw [nI_clamp (by omega)]
  exact decide_eq_true ⟨nI_pos (by omega), h⟩
theorem fy_up_id {α : Type} {f : Nat → α} {k : Nat} {v : α} (h : f k = v) : va_up f k v = f := by
  funext j
  by_cases hj : j = k
  · subst hj; simp [va_up, h]
  · simp [va_up, hj]
theorem fy_sI_id {S : fy_S} {i k : Nat} {v : Int32} (h : S.1 i k = v) : fy_sI S i k v = S := by
  unfold fy_sI
  rw [fy_up_id h, fy_up_id rfl]
theorem fy_sL_id {S : fy_S} {i k : Nat} {v : Int64} (h : S.2 i k = v) : fy_sL S i k v = S := by
  unfold fy_sL
  rw [fy_up_id h, fy_up_id rfl]
theorem fy_sA_id {S : fy_S} {i : Nat} {f : Nat → Int32} (h : S.1 i = f) : fy_sA S i f = S := by
  unfold fy_sA
  rw [fy_up_id h]
theorem fy_sA_sI {S : fy_S} {i k : Nat} {v : Int32} {f : Nat → Int32} : fy_sA (fy_sI S i k v) i f = fy_sA S i f := by
  unfold fy_sA fy_sI
  congr 1
  funext j
  by_cases hj : j = i <;> simp [va_up, hj]
theorem fz_fillS {n v0 : Nat} {v1 : Int32} (hn : n < 2 ^ 31) (hl : X_al v0 = n) : ∀ (d i fu : Nat) (S : fy_S), i + d = n → d < fu → J7_fill_fb410_5 fu S v0 v1 (nI i) (nI n) = some (fy_sA S v0 (fun k => if i ≤ k ∧ k < n then vp_nar .short v1 else S.1 v0 k)) := by
  intro d
  induction d with
  | zero =>
    intro i fu S hi hfu
    obtain ⟨fu, rfl⟩ : ∃ z, fu = z + 1 := ⟨fu - 1, by omega⟩
    have : i = n := by omega
    subst this
    rw [J7_fill_fb410_5, if_pos (nI_le (Nat.le_refl _) hn)]
    rw [fy_sA_id]
    funext k
    rw [if_neg (by omega)]
  | succ d ih =>
    intro i fu S hi hfu
    obtain ⟨fu, rfl⟩ : ∃ z, fu = z + 1 := ⟨fu - 1, by omega⟩
    have hin : i < n := by omega
    rw [J7_fill_fb410_5, if_neg (nI_ge hin hn), hl, fy_ix_nI hin hn]
    simp only [fy_gd, if_true, fy_bl, nI_1, nI_clamp (show i < 2 ^ 31 by omega)]
    rw [ih (i + 1) fu _ (by omega) (by omega), fy_sA_sI]
    congr 2
    funext k
    by_cases hk : k = i
    · subst hk
      rw [if_neg (by omega), if_pos (by omega)]
      simp [fy_sI, va_up]
    · by_cases h2 : i + 1 ≤ k ∧ k < n
      · rw [if_pos h2, if_pos (by omega)]
      · rw [if_neg h2, if_neg (by omega)]
        simp [fy_sI, va_up, hk]
theorem fz_fillI {n v0 : Nat} {v1 : Int32} (hn : n < 2 ^ 31) (hl : X_al v0 = n) : ∀ (d i fu : Nat) (S : fy_S), i + d = n → d < fu → J7_fill_53178_5 fu S v0 v1 (nI i) (nI n) = some (fy_sA S v0 (fun k => if i ≤ k ∧ k < n then v1 else S.1 v0 k)) := by
  intro d
  induction d with
  | zero =>
    intro i fu S hi hfu
    obtain ⟨fu, rfl⟩ : ∃ z, fu = z + 1 := ⟨fu - 1, by omega⟩
    have : i = n := by omega
    subst this
    rw [J7_fill_53178_5, if_pos (nI_le (Nat.le_refl _) hn)]
    rw [fy_sA_id]
    funext k
    rw [if_neg (by omega)]
  | succ d ih =>
    intro i fu S hi hfu
    obtain ⟨fu, rfl⟩ : ∃ z, fu = z + 1 := ⟨fu - 1, by omega⟩
    have hin : i < n := by omega
    rw [J7_fill_53178_5, if_neg (nI_ge hin hn), hl, fy_ix_nI hin hn]
    simp only [fy_gd, if_true, fy_bl, nI_1, nI_clamp (show i < 2 ^ 31 by omega)]
    rw [ih (i + 1) fu _ (by omega) (by omega), fy_sA_sI]
    congr 2
    funext k
    by_cases hk : k = i
    · subst hk
      rw [if_neg (by omega), if_pos (by omega)]
      simp [fy_sI, va_up]
    · by_cases h2 : i + 1 ≤ k ∧ k < n
      · rw [if_pos h2, if_pos (by omega)]
      · rw [if_neg h2, if_neg (by omega)]
        simp [fy_sI, va_up, hk]
theorem fz_fillI_all {S : fy_S} {n v0 : Nat} {v1 : Int32} (hl : X_al v0 = n) (hn : n < 1000000) : J7_fill_53178 S v0 v1 = some (fy_sA S v0 (fun k => if k < n then v1 else S.1 v0 k)) := by
  unfold J7_fill_53178
  simp only [fy_bl]
  rw [hl]
  have h := fz_fillI (v1 := v1) (show n < 2 ^ 31 by omega) hl n 0 fy_fu S (by omega) (fz_fu hn)
  rw [nI_0] at h
  simp only [Nat.zero_le, true_and] at h
  exact h
theorem fz_fillS_all {S : fy_S} {n v0 : Nat} {v1 : Int32} (hl : X_al v0 = n) (hn : n < 1000000) : J7_fill_fb410 S v0 v1 = some (fy_sA S v0 (fun k => if k < n then vp_nar .short v1 else S.1 v0 k)) := by
  unfold J7_fill_fb410
  simp only [fy_bl]
  rw [hl]
  have h := fz_fillS (v1 := v1) (show n < 2 ^ 31 by omega) hl n 0 fy_fu S (by omega) (fz_fu hn)
  rw [nI_0] at h
  simp only [Nat.zero_le, true_and] at h
  exact h
/-- a formula that is false already stays as it is -/
theorem fz_false_id {S : fy_S} {v0 : Nat} (h1 : S.1 (v0 + 1) 0 = 7) (h2 : S.1 v0 1 = 1) (h3 : S.2 v0 2 = 0) : X2_becomeFalse S v0 = some S := by
  have e0 : (vp_nar .byte (7 : Int32)) = 7 := by decide +kernel
  have e1 : fy_ix (0 : Int32) 40 = true := by decide +kernel
  have e2 : (0 : Int32).toNatClampNeg = 0 := by decide +kernel
  unfold X2_becomeFalse
  rw [e0, e1, e2]
  simp only [fy_gd, if_true, fy_bl]
  rw [fy_sI_id h1, fy_sI_id h2, fy_sL_id h3]
section FZ2
variable {p : Program} {l : Launch} {e : Env} {R : Room} {s : State} {m : MethodId} {args : Array Value} {below : List Frame} {meth : Method} {c : Code} {H : Heap} {locs : List Loc} {cells slots : Nat} {Q : State → Prop}
variable {g : fy_G} {y : fy_Y} {S : fy_S} {own : String} {cc : ByteArray} {nL : Nat} {pc : Nat} {ls : Array Slot} {rest : List Value} {id : Nat}
theorem fz_pre (hK : va_K g.1 vwCl (fy_ty g.2.1) s) (hD : fy_D g y) (hE : fy_E g y s H) (hN : fy_N s) (hP : fy_P g y S H) {av : List Value} (U : State) (hU : U.heap = H) (hW : s.WarmedH U.vm) : va_Pc av (fy_U g y S) av.toArray U :=
  ⟨rfl, by rw [hU]; exact hP, va_K.moved hW.alike hK, hD, by rw [hU]; exact fy_E.moved hW.alike hE, hN.warm hW⟩
theorem fz_runV {ym : MethodName} {bytes : ByteArray} {maxL index np ci d : Nat} {ret : Option FieldType} {ks : List fy_K} {Tf : u_T} {Nf : Nat} {As st : List Value} {Qc : Array Value → State → Outcome → State → Prop} (hx : p.tables.exec = Jvm.exec) (hb : c.code = cc) (hml : c.maxLocals = nL) (hown : s.vm.findClass own = some m.cls) (hts : ∀ w ∈ fy_tb, w.before args s = true) (hK : va_K g.1 vwCl (fy_ty g.2.1) s) (hD : fy_D g y) (hE : fy_E g y s H) (hN : fy_N s) (hP : fy_P g y S H) (hM : fy_M g y l ym bytes maxL ret (fy_rm d) (.ref (g.2.2.1 id) :: As) S Qc) (hI : id ∈ y.2 ∧ y.1 id = .inr (ci, ks)) (k : fy_kV own index ym bytes maxL ret np) (hc : vwCl[ci]? = some (ym.cls, Tf, Nf)) (hR : d + 1 ≤ R.frames ∧ 8 + (maxL + 11) + 45 * d ≤ R.locals) (hn : As.length = np) (hsize : ls.size = nL) (hst : st = As.reverse ++ .ref (g.2.2.1 id) :: rest) (hW : (rest.map fun v => v.category).sum ≤ 8) (hf : cells ≤ R.cells ∧ slots ≤ R.slots) (hdg : decode cc pc = .ok (.invokevirtual index, 3)) : va_Run p l e R s m args below meth c H locs cells slots 0 0 (F0 m pc ls st) rest (Qc (Value.ref (g.2.2.1 id) :: As).toArray) (fy_A g y) := by
  obtain ⟨k1, k2, k3, k4, k5, k6, k7, k8⟩ := k
  have cw : CallW R s args own ym.cls index ym bytes maxL ret (Cond.code ym bytes maxL ret :: fy_tb) (fy_rm d) 0 0 np := ⟨callB_of np hts (fy_gdI k5) rfl rfl rfl (hts _ k4) (hts _ k1) ⟨k6, k7, k8⟩ hR, hts _ k2, hts _ k3⟩
  obtain ⟨k0, hk0, -⟩ := fy_cell_o (g := g) (S := S) hI
  exact va_runV ⟨hx, hb, hml, hown, hts⟩ hM cw ⟨fy_blind, va_recv hK hP hc hk0, fun U hU hW => fz_pre hK hD hE hN hP U hU hW⟩ rfl hn hsize hst (lv_room (rest := st) hW) hdg hf
theorem fz_runS {ym : MethodName} {bytes : ByteArray} {maxL index np d : Nat} {ret : Option FieldType} {As st : List Value} {Qc : Array Value → State → Outcome → State → Prop} (hx : p.tables.exec = Jvm.exec) (hb : c.code = cc) (hml : c.maxLocals = nL) (hown : s.vm.findClass own = some m.cls) (hts : ∀ w ∈ fy_tb, w.before args s = true) (hK : va_K g.1 vwCl (fy_ty g.2.1) s) (hD : fy_D g y) (hE : fy_E g y s H) (hN : fy_N s) (hP : fy_P g y S H) (hM : fy_M g y l ym bytes maxL ret (fy_rm d) As S Qc) (k : fy_kS own index ym bytes maxL ret np) (hR : d + 1 ≤ R.frames ∧ 8 + (maxL + 11) + 45 * d ≤ R.locals) (hn : As.length = np) (hsize : ls.size = nL) (hst : st = As.reverse ++ rest) (hW : (rest.map fun v => v.category).sum ≤ 8) (hf : cells ≤ R.cells ∧ slots ≤ R.slots) (hdg : decode cc pc = .ok (.invokestatic index, 3)) : va_Run p l e R s m args below meth c H locs cells slots 0 0 (F0 m pc ls st) rest (Qc As.toArray) (fy_A g y) := by
  obtain ⟨k1, k2, k4, k5, k6, k7, k8⟩ := k
  have cw : CallB R s args own index ym bytes maxL ret (Cond.code ym bytes maxL ret :: fy_tb) (fy_rm d) 0 0 np ∧ (Cond.static ym).before args s = true := ⟨callB_of np hts (fy_gdI k5) rfl rfl rfl (hts _ k4) (hts _ k1) ⟨k6, k7, k8⟩ hR, hts _ k2⟩
  exact va_runS ⟨hx, hb, hml, hown, hts⟩ hM cw ⟨fy_blind, fun U hU hW => fz_pre hK hD hE hN hP U hU hW⟩ rfl hn hsize hst (lv_room (rest := st) hW) hdg hf
/-- a call that answers nothing: its world in its new state, all else of the caller's list as it was -/
theorem fz_calV {S' : fy_S} {a : Array Value} {st : List Value} {A : Nat → Prop} {H0 : Heap} (hS : va_S A H0 H locs) (hsub : ∀ q, fy_A g y q → A q) (hr : va_Run p l e R s m args below meth c H locs cells slots 0 0 (F0 m pc ls st) rest (fy_QV g y S' a) (fy_A g y)) (kk : ∀ (H1 : Heap) (locs1 : List Loc), fy_P g y S' H1 → (∀ q : Nat, q < H.size → ¬ fy_A g y q → H1[q]? = H[q]?) → va_S A H0 H1 locs1 → W p l e R s m args below meth c H1 locs1 cells slots Q (F0 m (pc + 3) ls rest)) : W p l e R s m args below meth c H locs cells slots Q (F0 m pc ls st) := by
  refine va_callv hr hS (fun q _ h => hsub q h) hsub (fun u t H1 locs1 ht _ hp hB _ hk hS => ?_)
  subst hp
  exact kk H1 locs1 (by rw [← ht]; exact hB) hk hS
theorem fz_inj {A : Nat → Prop} {dom : List Nat} {ad : Nat → Nat} {cells : Nat → va_E} (hD : va_D A (fy_ls dom ad cells)) : ∀ i j, i ∈ dom → j ∈ dom → ad i = ad j → i = j := by
  intro i j hi hj hij
  obtain ⟨k1, g1, g2⟩ := fy_ls_at (ad := ad) (cells := cells) hi
  obtain ⟨k2, g3, g4⟩ := fy_ls_at (ad := ad) (cells := cells) hj
  have := hD.1 k1 k2 _ _ g1 g3 hij
  subst this
  exact Option.some.inj (g2.symm.trans g4)
theorem fz_inA {A : Nat → Prop} {dom : List Nat} {ad : Nat → Nat} {cells : Nat → va_E} (hD : va_D A (fy_ls dom ad cells)) : ∀ i, i ∈ dom → A (ad i) := by
  intro i hi
  obtain ⟨k1, g1, g2⟩ := fy_ls_at (ad := ad) (cells := cells) hi
  exact hD.2 k1 _ g1
theorem fz_D2 {A : Nat → Prop} {dom : List Nat} {ad : Nat → Nat} {c1 c2 : Nat → va_E} (hn : dom.Nodup) (hD : va_D A (fy_ls dom ad c1)) : va_D A (fy_ls dom ad c2) := by
  refine ⟨fun i j x z hx hz hxz => ?_, fun k x hx => ?_⟩
  · obtain ⟨a, ha, rfl⟩ := fy_ls_inv hx
    obtain ⟨b, hb, rfl⟩ := fy_ls_inv hz
    have := fz_inj hD a b (List.mem_of_getElem? ha) (List.mem_of_getElem? hb) hxz
    subst this
    exact fy_nd_inj hn ha hb
  · obtain ⟨a, ha, rfl⟩ := fy_ls_inv hx
    exact fz_inA hD a (List.mem_of_getElem? ha)
end FZ2
def fz_S2 : fy_S := fy_sL (fy_sI (fy_sI fz_Z 42 0 7) 41 1 1) 41 2 0
theorem fz_F1 : X2_becomeFalse fz_Z 41 = some fz_S2 := by
  have e0 : (vp_nar .byte (7 : Int32)) = 7 := by decide +kernel
  have e1 : fy_ix (0 : Int32) 40 = true := by decide +kernel
  have e2 : (0 : Int32).toNatClampNeg = 0 := by decide +kernel
  unfold X2_becomeFalse
  rw [e0, e1, e2]
  rfl
theorem fz_F2 : ∀ id ∈ [41, 42], fz_S2.1 id = X_S0.1 id ∧ fz_S2.2 id = X_S0.2 id := by
  have k1 : X_kd 41 = 2 := by decide
  have k2 : X_kd 42 = 12 := by decide
  intro id hid
  simp only [List.mem_cons, List.not_mem_nil, or_false] at hid
  rcases hid with rfl | rfl
  · refine ⟨?_, ?_⟩
    · funext k
      simp only [X_S0, k1, fz_S2, fy_sL, fy_sI, va_up, fz_Z]
      by_cases hk : k = 1 <;> simp [hk, va_up]
    · funext k
      simp [X_S0, fz_S2, fy_sL, fy_sI, va_up, fz_Z]
  · refine ⟨?_, ?_⟩
    · funext k
      simp only [X_S0, k2, fz_S2, fy_sL, fy_sI, va_up, fz_Z]
      by_cases hk : k = 0 <;> simp [hk, va_up]
    · funext k
      simp [X_S0, fz_S2, fy_sL, fy_sI, va_up, fz_Z]
