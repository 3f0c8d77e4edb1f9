theorem ts0 : Cond.arrayClass .int ∈ fy_tb := fy_inR (i := 58) (by decide +kernel) rfl
theorem ts1 : Cond.arrayClass .byte ∈ fy_tb := fy_inR (i := 59) (by decide +kernel) rfl
theorem ts2 : Cond.arrayClass .char ∈ fy_tb := fy_inR (i := 136) (by decide +kernel) rfl
theorem ts3 : Cond.arrayClass .short ∈ fy_tb := fy_inR (i := 272) (by decide +kernel) rfl
theorem ts4 : Cond.arrayClass .boolean ∈ fy_tb := fy_inR (i := 273) (by decide +kernel) rfl
theorem ts5 : Cond.arrayClass .long ∈ fy_tb := fy_inR (i := 137) (by decide +kernel) rfl
theorem ts6 : Cond.instantiable RX0 6 ∈ fy_tb := fy_inR (i := 27) (by decide +kernel) rfl
theorem ts7 : Cond.instantiable RX1 2 ∈ fy_tb := fy_inR (i := 234) (by decide +kernel) rfl
theorem ts8 : Cond.instantiable RX2 3 ∈ fy_tb := fy_inR (i := 33) (by decide +kernel) rfl
theorem ts9 : Cond.instantiable RX3 5 ∈ fy_tb := fy_inR (i := 139) (by decide +kernel) rfl
theorem ts10 : Cond.instantiable RX4 9 ∈ fy_tb := fy_inR (i := 102) (by decide +kernel) rfl
theorem ts11 : Cond.instantiable RX5 3 ∈ fy_tb := fy_inR (i := 183) (by decide +kernel) rfl
theorem ts12 : Cond.instantiable RX6 5 ∈ fy_tb := fy_inR (i := 248) (by decide +kernel) rfl
theorem ts13 : Cond.instantiable RX7 8 ∈ fy_tb := fy_inR (i := 199) (by decide +kernel) rfl
theorem ts14 : Cond.instantiable RX8 2 ∈ fy_tb := fy_inR (i := 163) (by decide +kernel) rfl
theorem ts15 : Cond.instantiable RX9 14 ∈ fy_tb := fy_inR (i := 18) (by decide +kernel) rfl
theorem ts16 : Cond.instantiable RX10 49 ∈ fy_tb := fy_inR (i := 869) (by decide +kernel) rfl
theorem ts17 : Cond.initialized RX9 ∈ fy_tb := fy_inR (i := 1) (by decide +kernel) rfl
theorem ts18 : Cond.classLink RL 7 RX9 ∈ fy_tb := fy_inR (i := 17) (by decide +kernel) rfl
theorem ts19 : Cond.methodLink RL 9 yX9_init ∈ fy_tb := fy_inR (i := 19) (by decide +kernel) rfl
theorem ts20 : Cond.instanceMethod yX9_init ∈ fy_tb := fy_inR (i := 20) (by decide +kernel) rfl
theorem ts21 : Cond.code yX9_init cX9_init 2 none ∈ fy_tb := fy_inR (i := 21) (by decide +kernel) rfl
theorem ts22 : Cond.classLink RL 10 RX10 ∈ fy_tb := fy_inR (i := 868) (by decide +kernel) rfl
theorem ts23 : Cond.initialized RX10 ∈ fy_tb := fy_inR (i := 13) (by decide +kernel) rfl
theorem ts24 : Cond.methodLink RL 12 yX10_init ∈ fy_tb := fy_inR (i := 870) (by decide +kernel) rfl
theorem ts25 : Cond.instanceMethod yX10_init ∈ fy_tb := fy_inR (i := 871) (by decide +kernel) rfl
theorem ts26 : Cond.code yX10_init cX10_init 2 none ∈ fy_tb := fy_inR (i := 872) (by decide +kernel) rfl
/-! THE CLAIM OUT OF ONE WALK OF THE LAW'S BODY. Your part is whole_start (and what it stands on); all else here is the same for every law, but numbers. -/
def R_law : String := "AlternatingAutomataLaw"
def lw_P (b : Addr) (xs : List Int32) (args : Array Value) (s : State) : Prop := args = #[.ref b] ∧ s.IntsAt b xs ∧ xs.length ≤ 2560 ∧ (Jvm.Cond.and given_1 narrow_1).before args s = true
def lw_Q (_ : Array Value) (s : State) (o : Outcome) (t : State) : Prop := o = .returned (some (.int 1)) ∧ Framed s o t [] 600000 7302250
def lw_Z (below : List Frame) (a : Array Value) (s : State) : State → Prop := fun t => ∃ o, t.status = .running ∧ Ended t below o ∧ lw_Q a s o t
/-- the law's own end, with 1 on the stack, nothing written that was there before, its room as the claim has it -/
theorem lw_ret {p : Program} {l : Launch} {e : Env} {s : State} {m : MethodId} {below : List Frame} {meth : Method} {c : Code} {b : Nat} (hx : p.tables.exec = Jvm.exec) (hb : c.code = code) (hr : meth.sig.returnType = ret) (hlocks : meth.locks = false) {pc : Nat} {H : Heap} {ls : Array Slot} (hdg : decode code pc = .ok (.ireturn, 1)) : W p l e room_1 s m #[Value.ref b] below meth c H [] 600000 7302250 (lw_Z below #[Value.ref b] s) (F0 m pc ls [.int 1]) := by
  intro T hT X
  obtain ⟨fs, hret, hrun, hended, hW, hframe⟩ := X.leave (v := some (.int 1)) (hlocks := hlocks) (fun h => by rw [hr] at h; cases h)
  have hmeth' : T.vm.method? m = some meth := X.method'
  refine ⟨T.setFrames fs, ?_, .returned (some (.int 1)), hrun, hended, rfl, ⟨_, rfl⟩, hW, hframe⟩
  jvm_step X.here [X.here.top, hx, hb, hdg, hmeth', hr, ret, narrow_b1]
  (try refine ⟨rfl, ?_⟩); (try refine ⟨rfl, ?_⟩)
  first | (intro acts; rw [hret _ acts rfl rfl rfl]) | rw [hret _ _ rfl rfl rfl]
  exact Steps.refl _
/-- what holds at the law's entry: the machine, the code, the tables' words (any of lw_tbl by 'hts w (by decide +kernel)'), the script of L ints xs at the cell b, what the Statement gives of the start (any of its parts by flat_of_before) -/
def lw_At (p : Program) (s : State) (m : MethodId) (meth : Method) (c : Code) (b L : Nat) (xs : Nat → Int32) : Prop :=
  p.tables.exec = Jvm.exec ∧ c.code = code ∧ meth.sig.returnType = ret ∧ c.maxLocals = 4 ∧ s.vm.findClass R_law = some m.cls ∧ (∀ w ∈ lw_tbl, w.before #[Value.ref b] s = true) ∧ va_X b L xs s s.heap ∧ b < s.heap.size ∧ meth.locks = false ∧ (Jvm.Cond.and given_1 narrow_1).before #[Value.ref b] s = true
theorem lw_D_inv {A : Nat → Prop} {a b : va_W} (h : va_D A (a ++ b)) : va_D A a ∧ va_D A b ∧ ∀ (i j : Nat) (p q : Nat × va_E), a[i]? = some p → b[j]? = some q → p.1 ≠ q.1 := by
  have l : ∀ (k : Nat) (x : Nat × va_E), a[k]? = some x → (a ++ b)[k]? = some x := fun k x hx => by
    rw [List.getElem?_append_left (List.getElem?_eq_some_iff.mp hx).1]; exact hx
  have r : ∀ (k : Nat) (x : Nat × va_E), b[k]? = some x → (a ++ b)[a.length + k]? = some x := fun k x hx => by
    rw [List.getElem?_append_right (by omega)]; simpa using hx
  refine ⟨⟨fun i j x z hx hz hxz => h.1 i j x z (l i x hx) (l j z hz) hxz, fun k x hx => h.2 k x (l k x hx)⟩, ⟨fun i j x z hx hz hxz => ?_, fun k x hx => h.2 _ x (r k x hx)⟩, fun i j x z hx hz hxz => ?_⟩
  · have := h.1 _ _ x z (r i x hx) (r j z hz) hxz
    omega
  · have := h.1 _ _ x z (l i x hx) (r j z hz) hxz
    have h2 := (List.getElem?_eq_some_iff.mp hx).1
    omega
theorem X_dom_all : ∀ i, i < 325 → i ∈ X_dom := by decide +kernel
set_option maxHeartbeats 4000000 in
set_option maxRecDepth 100000 in
theorem whole_start_of {p : Program} {e : Env} {s : State} {m : MethodId} {below : List Frame} {meth : Method} {c : Code} (l : Launch) {b L : Nat} {xs : Nat → Int32} (hL : L ≤ 2560) (C0 : lw_At p s m meth c b L xs) (Inv : fy_S → fy_S → Prop) {S1 S2 S3 : fy_S} (h1 : M_empties fz_Z 0 1 1 = some S1) (h2 : M_empties S1 1 1 1 = some S2) (h3 : M_empties S2 2 1 1 = some S3) (h0 : Inv X_S0 S3) (hstep : ∀ (SX SM : fy_S) (o a1 a2 a3 a4 : Int32), Inv SX SM → ∃ SX' SM', lw_step SX SM (o &&& 63) a1 a2 a3 a4 SX' SM' ∧ Inv SX' SM') : W p l e room_1 s m #[Value.ref b] below meth c s.heap [] 0 0 (lw_Z below #[Value.ref b] s) (entryFrame m ([Value.ref b] : List Value).toArray 4) := by
  obtain ⟨hx, hb, hr, hml, hown, hts0, hX, hbl, hlk, hgv⟩ := C0
  have hts : ∀ w ∈ fy_tb, w.before #[Value.ref b] s = true := fun w hw => hts0 w (List.mem_filter.mp hw).1
  have hN : fy_N s := by
    intro w hw hi
    have h := hts0 w hw
    cases w with
    | methodLinkNest a i x b => exact va_Nw.of rfl h
    | fieldLinkNest a i b n d h2 => exact va_Nw.of rfl h
    | _ => cases hi
  obtain ⟨y0, z0, w0, f0, g0, k0⟩ := Cond.arrayClass_spec (hts (.arrayClass .int) ts0)
  obtain ⟨y1, z1, w1, f1, g1, k1⟩ := Cond.arrayClass_spec (hts (.arrayClass .byte) ts1)
  obtain ⟨y2, z2, w2, f2, g2, k2⟩ := Cond.arrayClass_spec (hts (.arrayClass .char) ts2)
  obtain ⟨y3, z3, w3, f3, g3, k3⟩ := Cond.arrayClass_spec (hts (.arrayClass .short) ts3)
  obtain ⟨y4, z4, w4, f4, g4, k4⟩ := Cond.arrayClass_spec (hts (.arrayClass .boolean) ts4)
  obtain ⟨y5, z5, w5, f5, g5, k5⟩ := Cond.arrayClass_spec (hts (.arrayClass .long) ts5)
  have ho6 : (Cond.arrayOver (.object RX0)).before #[Value.ref b] s = true := hts0 _ (List.mem_append_right _ (List.mem_of_getElem? (i := 26) (by decide +kernel)))
  obtain ⟨w6, y6, z6, f6, -, g6, k6, m6⟩ := Cond.arrayOver_spec ho6
  have ho7 : (Cond.arrayOver (.object RX2)).before #[Value.ref b] s = true := hts0 _ (List.mem_append_right _ (List.mem_of_getElem? (i := 60) (by decide +kernel)))
  obtain ⟨w7, y7, z7, f7, -, g7, k7, m7⟩ := Cond.arrayOver_spec ho7
  have hO : fz_O s := ⟨va_AO.of ho6, va_AO.of ho7⟩
  obtain ⟨T, hT⟩ : ∃ z : Nat → ClassId, z = (fun t => if t = 0 then y0 else if t = 1 then y1 else if t = 2 then y2 else if t = 3 then y3 else if t = 4 then y4 else if t = 5 then y5 else if t = 6 then y6 else y7) := ⟨_, rfl⟩
  have hT0 : T 0 = y0 := by rw [hT]; rfl
  have hT1 : T 1 = y1 := by rw [hT]; rfl
  have hT2 : T 2 = y2 := by rw [hT]; rfl
  have hT3 : T 3 = y3 := by rw [hT]; rfl
  have hT4 : T 4 = y4 := by rw [hT]; rfl
  have hT5 : T 5 = y5 := by rw [hT]; rfl
  have hT6 : T 6 = y6 := by rw [hT]; rfl
  have hT7 : T 7 = y7 := by rw [hT]; rfl
  obtain ⟨c0, iS0, hKn0⟩ := u_known (C := RX0) (T := TX0) (N := 6) (n := 6) hts ti_X0 (hts (.instantiable RX0 6) ts6)
  obtain ⟨c1, iS1, hKn1⟩ := u_known (C := RX1) (T := TX1) (N := 2) (n := 2) hts ti_X1 (hts (.instantiable RX1 2) ts7)
  obtain ⟨c2, iS2, hKn2⟩ := u_known (C := RX2) (T := TX2) (N := 3) (n := 3) hts ti_X2 (hts (.instantiable RX2 3) ts8)
  obtain ⟨c3, iS3, hKn3⟩ := u_known (C := RX3) (T := TX3) (N := 5) (n := 5) hts ti_X3 (hts (.instantiable RX3 5) ts9)
  obtain ⟨c4, iS4, hKn4⟩ := u_known (C := RX4) (T := TX4) (N := 9) (n := 9) hts ti_X4 (hts (.instantiable RX4 9) ts10)
  obtain ⟨c5, iS5, hKn5⟩ := u_known (C := RX5) (T := TX5) (N := 3) (n := 3) hts ti_X5 (hts (.instantiable RX5 3) ts11)
  obtain ⟨c6, iS6, hKn6⟩ := u_known (C := RX6) (T := TX6) (N := 5) (n := 5) hts ti_X6 (hts (.instantiable RX6 5) ts12)
  obtain ⟨c7, iS7, hKn7⟩ := u_known (C := RX7) (T := TX7) (N := 8) (n := 8) hts ti_X7 (hts (.instantiable RX7 8) ts13)
  obtain ⟨c8, iS8, hKn8⟩ := u_known (C := RX8) (T := TX8) (N := 2) (n := 2) hts ti_X8 (hts (.instantiable RX8 2) ts14)
  obtain ⟨c9, iS9, hKn9⟩ := u_known (C := RX9) (T := TX9) (N := 14) (n := 14) hts ti_X9 (hts (.instantiable RX9 14) ts15)
  obtain ⟨c10, iS10, hKn10⟩ := u_known (C := RX10) (T := TX10) (N := 49) (n := 49) hts ti_X10 (hts (.instantiable RX10 49) ts16)
  obtain ⟨D, hDd⟩ : ∃ z : va_G, z = (fun k => if k = 0 then c0 else if k = 1 then c1 else if k = 2 then c2 else if k = 3 then c3 else if k = 4 then c4 else if k = 5 then c5 else if k = 6 then c6 else if k = 7 then c7 else if k = 8 then c8 else if k = 9 then c9 else c10, fun k => if k = 0 then iS0 else if k = 1 then iS1 else if k = 2 then iS2 else if k = 3 then iS3 else if k = 4 then iS4 else if k = 5 then iS5 else if k = 6 then iS6 else if k = 7 then iS7 else if k = 8 then iS8 else if k = 9 then iS9 else iS10) := ⟨_, rfl⟩
  have hK : va_K D vwCl (fy_ty T) s := by
    refine ⟨fun k q hq => ?_, fun k q hq => ?_⟩
    · rw [hDd]
      match k, hq with
      | 0, hq => cases hq; exact hKn0
      | 1, hq => cases hq; exact hKn1
      | 2, hq => cases hq; exact hKn2
      | 3, hq => cases hq; exact hKn3
      | 4, hq => cases hq; exact hKn4
      | 5, hq => cases hq; exact hKn5
      | 6, hq => cases hq; exact hKn6
      | 7, hq => cases hq; exact hKn7
      | 8, hq => cases hq; exact hKn8
      | 9, hq => cases hq; exact hKn9
      | 10, hq => cases hq; exact hKn10
      | k + 11, hq => simp [vwCl] at hq
    · match k, hq with
      | 0, hq => cases hq; rw [hT0]; exact ⟨fun n z => ⟨fun k h => (by cases h), z0, g0, w0, k0⟩, f0⟩
      | 1, hq => cases hq; rw [hT1]; exact ⟨fun n z => ⟨fun k h => (by cases h), z1, g1, w1, k1⟩, f1⟩
      | 2, hq => cases hq; rw [hT2]; exact ⟨fun n z => ⟨fun k h => (by cases h), z2, g2, w2, k2⟩, f2⟩
      | 3, hq => cases hq; rw [hT3]; exact ⟨fun n z => ⟨fun k h => (by cases h), z3, g3, w3, k3⟩, f3⟩
      | 4, hq => cases hq; rw [hT4]; exact ⟨fun n z => ⟨fun k h => (by cases h), z4, g4, w4, k4⟩, f4⟩
      | 5, hq => cases hq; rw [hT5]; exact ⟨fun n z => ⟨fun k h => (by cases h), z5, g5, w5, k5⟩, f5⟩
      | 6, hq => cases hq; rw [hT6]; exact ⟨fun n z => ⟨fun k h => (by cases h), z6, g6, w6, k6⟩, z6, w6, g6, k6, f6, m6⟩
      | 7, hq => cases hq; rw [hT7]; exact ⟨fun n z => ⟨fun k h => (by cases h), z7, g7, w7, k7⟩, z7, w7, g7, k7, f7, m7⟩
      | k + 8, hq => simp [fy_ty] at hq
  have hfl := flat_of_before _ hgv
  have hel : ∀ j : Nat, j < 6 → (Term.elem (Jvm.Term.static "AlternatingAutomata" "CONTAINING" "[J") (.int (Int32.ofNat j))).eval #[Value.ref b] s none [] s = some (.long (fy_cont j)) := by
    intro j hj
    match j, hj with
    | 0, _ => exact va_eqtl (hfl (Cond.eq (.elem (Jvm.Term.static "AlternatingAutomata" "CONTAINING" "[J") (.int 0)) (.long (-6148914691236517206))) (by decide +kernel))
    | 1, _ => exact va_eqtl (hfl (Cond.eq (.elem (Jvm.Term.static "AlternatingAutomata" "CONTAINING" "[J") (.int 1)) (.long (-3689348814741910324))) (by decide +kernel))
    | 2, _ => exact va_eqtl (hfl (Cond.eq (.elem (Jvm.Term.static "AlternatingAutomata" "CONTAINING" "[J") (.int 2)) (.long (-1085102592571150096))) (by decide +kernel))
    | 3, _ => exact va_eqtl (hfl (Cond.eq (.elem (Jvm.Term.static "AlternatingAutomata" "CONTAINING" "[J") (.int 3)) (.long (-71777214294589696))) (by decide +kernel))
    | 4, _ => exact va_eqtl (hfl (Cond.eq (.elem (Jvm.Term.static "AlternatingAutomata" "CONTAINING" "[J") (.int 4)) (.long (-281470681808896))) (by decide +kernel))
    | 5, _ => exact va_eqtl (hfl (Cond.eq (.elem (Jvm.Term.static "AlternatingAutomata" "CONTAINING" "[J") (.int 5)) (.long (-4294967296))) (by decide +kernel))
    | j + 6, h => exact absurd h (by omega)
  obtain ⟨t, ht, hTt⟩ := va_Tof (tm := (Jvm.Term.static "AlternatingAutomata" "CONTAINING" "[J")) (ty := .long) (N := 6) (f := fun j => .long (fy_cont j)) (A := fun q => s.heap.size ≤ q) (by decide) (hfl (Cond.arrayOf (Jvm.Term.static "AlternatingAutomata" "CONTAINING" "[J") .long) (by decide +kernel)) (va_eqt (hfl (Cond.eq (.length (Jvm.Term.static "AlternatingAutomata" "CONTAINING" "[J")) (.int 6)) (by decide +kernel))) hel (fun a h1 h2 => by omega)
  have hZ : va_Z RX9 "CONTAINING" "[J" (.ref t) (fun q => s.heap.size ≤ q) s s.heap := va_Zof (hts0 _ (List.mem_append_right _ (List.mem_of_getElem? (i := 406) (by decide +kernel)))) (hts _ ts17) ht (fun a h1 h2 => by omega)
  have hS : va_S (fun q : Nat => s.heap.size ≤ q) s.heap s.heap [] := va_S.rf
  have hP : va_P D vwCl [] s.heap := fun k q h => by simp at h
  have hD : va_D (fun q : Nat => s.heap.size ≤ q) [] := ⟨fun i j p q h => by simp at h, fun k q h => by simp at h⟩
  have hA : ∀ q : Nat, s.heap.size ≤ q → (fun q : Nat => s.heap.size ≤ q) q := fun q h => h
  have hl := lv_entry ([.ref b]) (n := 4) (Nat.le_of_ble_eq_true rfl)
  rw [lg_entry_eq]
  generalize (lg_sl ([.ref b]) ++ List.replicate (4 - (lg_sl ([.ref b])).length) Slot.unset).toArray = ls at hl ⊢
  have hl : lv_has ls 4 [(0, .ref b)] := hl
  refine va_new (ci := 9) (fs := [.null, .null, .null, .null, .null, .null, .null, .null, .null, .null, .null, .null, .int 0, .int 0]) (C := RX9) (T := TX9) (N := 14) hx hb hts ti_X9 tyX9 tyX9_ok hown (hts _ ts18) (hts _ ts15) (hts _ ts17) hK hP hD hS hA rfl (fun j hj => by match j, hj with | 0, _ => rfl | 1, _ => rfl | 2, _ => rfl | 3, _ => rfl | 4, _ => rfl | 5, _ => rfl | 6, _ => rfl | 7, _ => rfl | 8, _ => rfl | 9, _ => rfl | 10, _ => rfl | 11, _ => rfl | 12, _ => rfl | 13, _ => rfl | j + 14, h => exact absurd h (by omega)) (Nat.le_of_ble_eq_true rfl) (Nat.le_of_ble_eq_true rfl) dL_law_0 (fun qx H hP hD hS => ?_)
  refine lv_dup hx hb dL_law_3 rfl ?_
  refine fz_cal (ws := []) hP hD hS hA X_dom_nd (fz_run (As := []) (rest := [.ref qx]) hx hb hml hown hts hK hN hO (fz_last (ws := []) hP) (cc_X9 l D T qx H.size) ⟨ts19, ts20, ts17, ts21, rfl, (by decide +kernel), (by decide +kernel), (by decide +kernel)⟩ ⟨(Nat.le_of_ble_eq_true rfl), (Nat.le_of_ble_eq_true rfl)⟩ rfl hl.1 rfl (Nat.le_of_ble_eq_true rfl) ⟨(Nat.le_of_ble_eq_true rfl), (Nat.le_of_ble_eq_true rfl)⟩ dL_law_4) (fun aX H locs haX hP hD hS => ?_)
  refine lv_astore_n (lv' := [(1, .ref qx), (0, .ref b)]) hx hb dL_law_7 rfl hl (by decide) rfl (fun ls hl => ?_)
  refine va_new (ci := 10) (fs := [.null, .null, .null, .null, .null, .null, .null, .null, .null, .int 0, .int 0, .int 0, .int 0, .int 0, .null, .null, .null, .null, .int 0, .int 0, .int 0, .int 0, .int 0, .int 0, .null, .int 0, .null, .null, .null, .null, .null, .null, .null, .null, .int 0, .null, .null, .null, .null, .null, .null, .null, .null, .null, .int 0, .int 0, .null, .null, .int 0]) (C := RX10) (T := TX10) (N := 49) hx hb hts ti_X10 tyX10 tyX10_ok hown (hts _ ts22) (hts _ ts16) (hts _ ts23) hK hP hD hS hA rfl (fun j hj => by match j, hj with | 0, _ => rfl | 1, _ => rfl | 2, _ => rfl | 3, _ => rfl | 4, _ => rfl | 5, _ => rfl | 6, _ => rfl | 7, _ => rfl | 8, _ => rfl | 9, _ => rfl | 10, _ => rfl | 11, _ => rfl | 12, _ => rfl | 13, _ => rfl | 14, _ => rfl | 15, _ => rfl | 16, _ => rfl | 17, _ => rfl | 18, _ => rfl | 19, _ => rfl | 20, _ => rfl | 21, _ => rfl | 22, _ => rfl | 23, _ => rfl | 24, _ => rfl | 25, _ => rfl | 26, _ => rfl | 27, _ => rfl | 28, _ => rfl | 29, _ => rfl | 30, _ => rfl | 31, _ => rfl | 32, _ => rfl | 33, _ => rfl | 34, _ => rfl | 35, _ => rfl | 36, _ => rfl | 37, _ => rfl | 38, _ => rfl | 39, _ => rfl | 40, _ => rfl | 41, _ => rfl | 42, _ => rfl | 43, _ => rfl | 44, _ => rfl | 45, _ => rfl | 46, _ => rfl | 47, _ => rfl | 48, _ => rfl | j + 49, h => exact absurd h (by omega)) (Nat.le_of_ble_eq_true rfl) (Nat.le_of_ble_eq_true rfl) dL_law_8 (fun qm H hP hD hS => ?_)
  refine lv_dup hx hb dL_law_11 rfl ?_
  refine fz_cal (ws := [] ++ fy_ls X_dom aX (fy_c T aX X_lay X_S0)) hP hD hS hA List.nodup_range (fz_run (As := []) (rest := [.ref qm]) hx hb hml hown hts hK hN hO (fz_last hP) (cc_M l D T qm H.size h1 h2 h3) ⟨ts24, ts25, ts23, ts26, rfl, (by decide +kernel), (by decide +kernel), (by decide +kernel)⟩ ⟨(Nat.le_of_ble_eq_true rfl), (Nat.le_of_ble_eq_true rfl)⟩ rfl hl.1 rfl (Nat.le_of_ble_eq_true rfl) ⟨(Nat.le_of_ble_eq_true rfl), (Nat.le_of_ble_eq_true rfl)⟩ dL_law_12) (fun aM H locs haM hP hD hS => ?_)
  refine lv_astore_n (lv' := [(2, .ref qm), (1, .ref qx), (0, .ref b)]) hx hb dL_law_15 rfl hl (by decide) rfl (fun ls hl => ?_)
  refine lv_iconst (v := nI 0) hx hb dL_law_16 (by decide) ?_
  refine lv_istore_n (lv' := [(3, .int (nI 0)), (2, .ref qm), (1, .ref qx), (0, .ref b)]) hx hb dL_law_17 rfl hl (by decide) rfl (fun ls hl => ?_)
  rw [← haM, ← haX] at hl
  have hP : va_P D vwCl (fy_ls X_dom aX (fy_c T aX X_lay X_S0) ++ fy_ls (List.range 34) aM (fy_c T aM M_lay S3)) H := hP
  have hD : va_D (fun q : Nat => s.heap.size ≤ q) (fy_ls X_dom aX (fy_c T aX X_lay X_S0) ++ fy_ls (List.range 34) aM (fy_c T aM M_lay S3)) := hD
  obtain ⟨hDX, hDM, hcr⟩ := lw_D_inv hD
  have hmX : ∀ i, i ∈ X_Y.2 → i ∈ X_dom := fun i hi => X_dom_all i (by simpa only [X_Y, List.mem_range] using hi)
  have C : lw_C D T aX aM t p s m c b L xs := by
    refine ⟨hx, hb, hml, hown, hts, hK, hN, ⟨?_, ?_⟩, ⟨List.nodup_range, fz_inj hDM⟩, ?_, ?_, fun j hj => fz_inA hDM j hj, hZ, hTt, hX, hbl, hL⟩
    · simp only [X_Y]; exact List.nodup_range
    · exact fun i j hi hj h => fz_inj hDX i j (hmX i hi) (hmX j hj) h
    · intro i j hi hj
      obtain ⟨k1, g1, -⟩ := fy_ls_at (ad := aX) (cells := fy_c T aX X_lay X_S0) (hmX i hi)
      obtain ⟨k2, g2, -⟩ := fy_ls_at (ad := aM) (cells := fy_c T aM M_lay S3) (show j ∈ List.range 34 from hj)
      exact hcr k1 k2 _ _ g1 g2
    · exact fun i hi => fz_inA hDX i (hmX i hi)
  have I : lw_I D T aX aM t s X_S0 S3 H locs := ⟨fz_mem.mpr (fun i hi => fz_mem.mp (fz_left hP) i (hmX i hi)), fz_right hP, hS⟩
  refine lw_loop C Inv hstep (fun H locs ls hS => ?_) (L + 1) 0 X_S0 S3 H locs ls (by omega) (by omega) h0 I hl
  refine va_forget (fun q hq => hS.2.2 q hq) ?_
  refine W.widen (k := 600000) (n := 7302250) (Nat.le_of_ble_eq_true rfl) (Nat.le_of_ble_eq_true rfl) ?_
  refine lv_iconst (v := (1 : Int32)) hx hb dL_law_1236 (by decide) ?_
  exact lw_ret hx hb hr hlk dL_law_1237
