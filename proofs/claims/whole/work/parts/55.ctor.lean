/-! CONSTRUCTORS: a world that grows; a part of a layout is made, with the contents of the state S0 -/
def fz_A (a0 sz : Nat) : Nat → Prop := fun q => q = a0 ∨ sz ≤ q
def fz_QV (D : va_G) (T : Nat → ClassId) (lay : Nat → fy_L) (S0 : fy_S) (dom : List Nat) (i0 a0 sz : Nat) : Array Value → State → Outcome → State → Prop :=
  va_Qv (fun ad : Nat → Nat => ad i0 = a0 ∧ (∀ id ∈ dom, id ≠ i0 → sz ≤ ad id) ∧ ∀ i ∈ dom, ∀ j ∈ dom, ad i = ad j → i = j) (fun ad t => va_P D vwCl (fy_ls dom ad (fy_c T ad lay S0)) t.heap) (fz_A a0 sz)
/-- the tables know the two rows of references -/
def fz_O (U : State) : Prop := va_AO RX0 U ∧ va_AO RX2 U
theorem fz_O.moved {u U : State} (hvm : u.vm.Alike U.vm) (h : fz_O u) : fz_O U := ⟨h.1.moved hvm, h.2.moved hvm⟩
def fz_U (D : va_G) (T : Nat → ClassId) (a0 sz ci : Nat) (fs0 : List Value) (U : State) : Prop := U.heap.size = sz ∧ va_P D vwCl [(a0, .inr (ci, fs0))] U.heap ∧ va_K D vwCl (fy_ty T) U ∧ fy_N U ∧ fz_O U
abbrev fz_M (l : Launch) (ym : MethodName) (cc : ByteArray) (nL : Nat) (rm : Room) (D : va_G) (T : Nat → ClassId) (lay : Nat → fy_L) (S0 : fy_S) (av : List Value) (a0 sz ci : Nat) (fs0 : List Value) (dom : List Nat) (i0 mc ms : Nat) : Prop :=
  Met l ym (Cond.code ym cc nL none :: fy_tb) rm (va_Pc (.ref a0 :: av) (fz_U D T a0 sz ci fs0)) (fz_QV D T lay S0 dom i0 a0 sz) mc ms (fz_A a0 sz)
abbrev fz_rm (d mc ms : Nat) : Room := { frames := d, cells := mc, slots := ms, locals := 45 * d }
section FZ
variable {p : Program} {l : Launch} {e : Env} {R : Room} {s : State} {m : MethodId} {args : Array Value} {below : List Frame} {meth : Method} {c : Code} {H : Heap} {locs : List Loc} {cells slots : Nat} {Q : State → Prop}
variable {D : va_G} {T : Nat → ClassId} {lay : Nat → fy_L} {S0 : fy_S} {own : String} {cc : ByteArray} {nL : Nat} {pc : Nat} {ls : Array Slot} {rest : List Value} {a0 i0 : Nat} {dom : List Nat} {ws : va_W} {A : Nat → Prop} {H0 : Heap}
theorem fz_entry {ym : MethodName} {av : List Value} {rm : Room} {sz ci mc ms : Nat} {fs0 : List Value} (hy : plainName ym.cls = true) (hn : ym.name = "<init>") (hlen : (lg_sl (.ref a0 :: av)).length ≤ nL)
    (body : ∀ (p : Program) (e : Env) (s : State) (m : MethodId) (args : Array Value) (below : List Frame) (meth : Method) (c : Code) (ls : Array Slot), p.tables.exec = Jvm.exec → c.code = cc → meth.sig.returnType = none → (∀ w ∈ fy_tb, w.before args s = true) → s.vm.findClass ym.cls = some m.cls → meth.locks = false → c.maxLocals = nL → meth.name = "<init>" → va_K D vwCl (fy_ty T) s → fy_N s → fz_O s → va_P D vwCl [(a0, .inr (ci, fs0))] s.heap → va_D (fz_A a0 s.heap.size) [(a0, .inr (ci, fs0))] → va_S (fz_A a0 s.heap.size) s.heap s.heap [] → lv_has ls nL (lv_args 0 (.ref a0 :: av)) →
      W p l e rm s m args below meth c s.heap [] 0 0 (MQ below (fz_QV D T lay S0 dom i0 a0 s.heap.size) args s mc ms (fz_A a0 s.heap.size)) (F0 m 0 ls [])) : fz_M l ym cc nL rm D T lay S0 av a0 sz ci fs0 dom i0 mc ms := by
  refine Met.ofW (cc := cc) (maxL := nL) (ret := none) hy rfl ?_
  intro p e s m args below meth c s₁ B hml hv
  obtain ⟨h0, hsz, hP, hK, hN, hO⟩ := hv
  have hts := atoms_spec (ws := Cond.code ym cc nL none :: fy_tb) B.pre
  have hl := lv_entry (.ref a0 :: av) (n := nL) hlen
  subst hsz
  subst h0
  rw [lg_entry_eq]
  have hD : va_D (fz_A a0 s.heap.size) [(a0, .inr (ci, fs0))] := by
    refine ⟨fun i j x z hx hz _ => ?_, fun k q hk => ?_⟩
    · have h1 := (List.getElem?_eq_some_iff.mp hx).1
      have h2 := (List.getElem?_eq_some_iff.mp hz).1
      simp at h1 h2
      omega
    · have h1 := (List.getElem?_eq_some_iff.mp hk).1
      simp at h1
      subst h1
      cases hk
      exact Or.inl rfl
  exact body p e s m _ below meth c _ B.exec B.bytes B.returns (fun w hw => hts w (List.mem_cons_of_mem _ hw)) (findClass_of_methodNamed B.named) B.notSynchronized hml ((name_of_methodNamed B.named B.method).1.trans hn) hK hN hO hP hD va_S.rf hl
/-- the end of a constructor: the list of cells is the part of the layout -/
theorem fz_ret {ad : Nat → Nat} (hx : p.tables.exec = Jvm.exec) (hb : c.code = cc) (hr : meth.sig.returnType = none) (hlk : meth.locks = false) (he : ws = fy_ls dom ad (fy_c T ad lay S0)) (hnd : dom.Nodup) (hP : va_P D vwCl ws H) (hD : va_D (fz_A a0 s.heap.size) ws) (hS : va_S (fz_A a0 s.heap.size) s.heap H locs) (h0 : i0 ∈ dom) (ha : ad i0 = a0) (hdg : decode cc pc = .ok (.return_, 1)) : W p l e R s m args below meth c H locs cells slots (MQ below (fz_QV D T lay S0 dom i0 a0 s.heap.size) args s cells slots (fz_A a0 s.heap.size)) (F0 m pc ls []) := by
  subst he
  have hinj : ∀ i ∈ dom, ∀ j ∈ dom, ad i = ad j → i = j := by
    intro i hi j hj hij
    obtain ⟨k1, g1, g2⟩ := fy_ls_at (ad := ad) (cells := fy_c T ad lay S0) hi
    obtain ⟨k2, g3, g4⟩ := fy_ls_at (ad := ad) (cells := fy_c T ad lay S0) hj
    have := hD.1 k1 k2 _ _ g1 g3 hij
    subst this
    exact Option.some.inj (g2.symm.trans g4)
  have hbig : ∀ id ∈ dom, id ≠ i0 → s.heap.size ≤ ad id := by
    intro id hid hne
    obtain ⟨k1, g1, g2⟩ := fy_ls_at (ad := ad) (cells := fy_c T ad lay S0) hid
    rcases hD.2 k1 _ g1 with h | h
    · exact absurd (hinj id hid i0 h0 (h.trans ha.symm)) hne
    · exact h
  exact W.vret hx hb hr (fun t ht _ => ⟨⟨ad, rfl, ⟨ha, hbig, hinj⟩, by show va_P D vwCl _ t.heap; rw [ht]; exact hP⟩, hS.F ht⟩) hS.2.2 hdg hlk
theorem fz_ra {ty : FieldType} {t : Nat} {cA : ClassId} (hr : ∀ C, ty ≠ .object C) (hK : va_K D vwCl (fy_ty T) s) (ht : (fy_ty T)[t]? = some (T t, ty)) (hK1 : va_K D vwCl (fy_ty T ++ [(cA, ty)]) s) : cA = T t := by
  have h1 := (hK.2 t _ ht).2
  have h2 := (hK1.2 8 (cA, ty) rfl).2
  cases ty with
  | object C => exact absurd rfl (hr C)
  | _ => exact Option.some.inj (h2.symm.trans h1)
theorem fz_rq {C : String} {t : Nat} {cA : ClassId} (hK : va_K D vwCl (fy_ty T) s) (ht : (fy_ty T)[t]? = some (T t, .object C)) (hK1 : va_K D vwCl (fy_ty T ++ [(cA, .object C)]) s) : cA = T t := by
  have h1 := (hK.2 t _ ht).2
  have h2 := (hK1.2 8 (cA, .object C) rfl).2
  obtain ⟨_, _, _, _, _, h3⟩ := h1
  obtain ⟨_, _, _, _, _, h4⟩ := h2
  exact Option.some.inj (h4.symm.trans h3)
theorem fz_newa (hx : p.tables.exec = Jvm.exec) (hb : c.code = cc) (hts : ∀ w ∈ fy_tb, w.before args s = true) {atype : ArrayType} {ty : FieldType} {t : Nat} (harr : Cond.arrayClass ty ∈ fy_tb) (hty : newarray.typeOf atype = ty) (hr : ∀ C, ty ≠ .object C) (hK : va_K D vwCl (fy_ty T) s) (ht : (fy_ty T)[t]? = some (T t, ty)) (hP : va_P D vwCl ws H) (hD : va_D A ws) (hS : va_S A H0 H locs) (hA : ∀ q, H0.size ≤ q → A q) {n : Int32} {N' : Nat} {x0 : vp_A} (ha : ∀ cA : ClassId, vp_cell cA x0 = arrV cA N' (fun _ => defaultValue ty)) (hn : ¬ n < 0) (hN : n.toNatClampNeg = N') (hbytes : N' * componentBytes ty ≤ 536870912) (hcells : cells + 1 ≤ R.cells) (hslots : slots + N' ≤ R.slots) (hdg : decode cc pc = .ok (.newarray atype, 2))
    (kk : ∀ (q : Nat) (H1 : Heap), va_P D vwCl (ws ++ [(q, .inl (T t, x0))]) H1 → va_D A (ws ++ [(q, .inl (T t, x0))]) → va_S A H0 H1 locs → W p l e R s m args below meth c H1 locs (cells + 1) (slots + N') Q (F0 m (pc + 2) ls (.ref q :: rest))) : W p l e R s m args below meth c H locs cells slots Q (F0 m pc ls (.int n :: rest)) := by
  subst hty
  refine va_newa hx hb (hts _ harr) rfl hK hP hD hS hA ha hn hN hbytes hcells hslots hdg (fun q cA H1 hK1 hP1 hD1 hS1 => ?_)
  have hc := fz_ra hr hK ht hK1
  subst hc
  exact kk q H1 hP1 hD1 hS1
theorem fz_newq (hx : p.tables.exec = Jvm.exec) (hb : c.code = cc) (hts : ∀ w ∈ fy_tb, w.before args s = true) (hown : s.vm.findClass own = some m.cls) {C : String} {index t : Nat} (hlink : Cond.classLink own index C ∈ fy_tb) (hover : va_AO C s) (hK : va_K D vwCl (fy_ty T) s) (ht : (fy_ty T)[t]? = some (T t, .object C)) (hP : va_P D vwCl ws H) (hD : va_D A ws) (hS : va_S A H0 H locs) (hA : ∀ q, H0.size ≤ q → A q) {n : Int32} {N' : Nat} (hn : ¬ n < 0) (hN : n.toNatClampNeg = N') (hbytes : N' * 4 ≤ 536870912) (hcells : cells + 1 ≤ R.cells) (hslots : slots + N' ≤ R.slots) (hdg : decode cc pc = .ok (.anewarray index, 3))
    (kk : ∀ (q : Nat) (H1 : Heap), va_P D vwCl (ws ++ [(q, .inl (T t, N', .inr (.inr (.inr (.inr (fun _ => none))))))]) H1 → va_D A (ws ++ [(q, .inl (T t, N', .inr (.inr (.inr (.inr (fun _ => none))))))]) → va_S A H0 H1 locs → W p l e R s m args below meth c H1 locs (cells + 1) (slots + N') Q (F0 m (pc + 3) ls (.ref q :: rest))) : W p l e R s m args below meth c H locs cells slots Q (F0 m pc ls (.int n :: rest)) := by
  refine va_newq hx hb hown (hts _ hlink) hover hK hP hD hS hA hn hN hbytes hcells hslots hdg (fun q cA H1 hK1 hP1 hD1 hS1 => ?_)
  have hc := fz_rq hK ht hK1
  subst hc
  exact kk q H1 hP1 hD1 hS1
/-- behind a constructor that was called: what stood stands, the part is there -/
theorem fz_after {q : Nat} {e0 : va_E} {H1 : Heap} {ad : Nat → Nat} (hP : va_P D vwCl (ws ++ [(q, e0)]) H) (hD : va_D A (ws ++ [(q, e0)])) (hA : ∀ x, H.size ≤ x → A x) (hk : ∀ x : Nat, x < H.size → ¬ fz_A q H.size x → H1[x]? = H[x]?) (h0 : ad i0 = q) (hbig : ∀ id ∈ dom, id ≠ i0 → H.size ≤ ad id) (hinj : ∀ i ∈ dom, ∀ j ∈ dom, ad i = ad j → i = j) (hnd : dom.Nodup) (hP1 : va_P D vwCl (fy_ls dom ad (fy_c T ad lay S0)) H1) : va_P D vwCl (ws ++ fy_ls dom ad (fy_c T ad lay S0)) H1 ∧ va_D A (ws ++ fy_ls dom ad (fy_c T ad lay S0)) := by
  have hq : (ws ++ [(q, e0)])[ws.length]? = some (q, e0) := by simp
  have hin : ∀ (k : Nat) (x : Nat × va_E), ws[k]? = some x → (ws ++ [(q, e0)])[k]? = some x := by
    intro k x hx
    rw [List.getElem?_append_left (List.getElem?_eq_some_iff.mp hx).1]; exact hx
  have hap : ∀ (k : Nat) (x : Nat × va_E), ws[k]? = some x → x.1 < H.size ∧ x.1 ≠ q := by
    intro k x hx
    refine ⟨(hP k x (hin k x hx)).lt, fun h => ?_⟩
    have := hD.1 k ws.length x (q, e0) (hin k x hx) hq h
    have h2 := (List.getElem?_eq_some_iff.mp hx).1
    omega
  have hdomA : ∀ id ∈ dom, ad id = q ∨ H.size ≤ ad id := by
    intro id hid
    by_cases h : id = i0
    · subst h; exact Or.inl h0
    · exact Or.inr (hbig id hid h)
  refine ⟨va_P.app (fun k x hx => ?_) hP1, va_D.app ⟨fun i j x z hx hz hxz => hD.1 i j x z (hin i x hx) (hin j z hz) hxz, fun k x hx => hD.2 k x (hin k x hx)⟩ ⟨fun i j x z hx hz hxz => ?_, fun k x hx => ?_⟩ (fun i j x z hx hz => ?_)⟩
  · exact (hP k x (hin k x hx)).kept (hk x.1 (hap k x hx).1 (fun h => h.elim (hap k x hx).2 (fun h => by have := (hap k x hx).1; omega)))
  · obtain ⟨a, ha, rfl⟩ := fy_ls_inv hx
    obtain ⟨b, hb, rfl⟩ := fy_ls_inv hz
    have := hinj a (List.mem_of_getElem? ha) b (List.mem_of_getElem? hb) hxz
    subst this
    exact fy_nd_inj hnd ha hb
  · obtain ⟨a, ha, rfl⟩ := fy_ls_inv hx
    rcases hdomA a (List.mem_of_getElem? ha) with h | h
    · show A (ad a); rw [h]; exact hD.2 _ _ hq
    · exact hA _ h
  · obtain ⟨a, ha, rfl⟩ := fy_ls_inv hz
    obtain ⟨g1, g2⟩ := hap i x hx
    rcases hdomA a (List.mem_of_getElem? ha) with h | h
    · show x.1 ≠ ad a; rw [h]; exact g2
    · intro hh
      have hh : x.1 = ad a := hh
      omega
def fz_kI (own : String) (index : Nat) (ym : MethodName) (b : ByteArray) (n : Nat) (np : Nat) : Prop := Cond.methodLink own index ym ∈ fy_tb ∧ Cond.instanceMethod ym ∈ fy_tb ∧ Cond.initialized ym.cls ∈ fy_tb ∧ Cond.code ym b n none ∈ fy_tb ∧ ym.name = "<init>" ∧ ym.cls ≠ "java/lang/invoke/MethodHandle" ∧ ym.cls ≠ "java/lang/invoke/VarHandle" ∧ (parseMethodDescriptor ym.desc).map (fun d => d.parameters.length) = some np
def fz_kIN (own : String) (index : Nat) (ym : MethodName) (host : String) (b : ByteArray) (n : Nat) (np : Nat) : Prop := Cond.methodLinkNest own index ym host ∈ lw_tbl ∧ Cond.instanceMethod ym ∈ fy_tb ∧ Cond.initialized ym.cls ∈ fy_tb ∧ Cond.code ym b n none ∈ fy_tb ∧ ym.name = "<init>" ∧ ym.cls ≠ "java/lang/invoke/MethodHandle" ∧ ym.cls ≠ "java/lang/invoke/VarHandle" ∧ (parseMethodDescriptor ym.desc).map (fun d => d.parameters.length) = some np
theorem fz_blind {a0 sz ci : Nat} {fs0 av : List Value} : FrameBlind (va_Pc (.ref a0 :: av) (fz_U D T a0 sz ci fs0)) := by
  intro a U f mk h
  obtain ⟨h0, hsz, hP, hK, hN, hO⟩ := h
  exact ⟨h0, hsz, hP, va_K.moved (u := U) (U := U.calling f mk a) (Vm.Alike.refl U.vm) hK, fy_N.same (s := U) (U := U.calling f mk a) rfl hN, fz_O.moved (u := U) (U := U.calling f mk a) (Vm.Alike.refl U.vm) hO⟩
theorem fz_run {ym : MethodName} {bytes : ByteArray} {maxL index np q ci d mc ms : Nat} {fs0 As st : List Value} (hx : p.tables.exec = Jvm.exec) (hb : c.code = cc) (hml : c.maxLocals = nL) (hown : s.vm.findClass own = some m.cls) (hts : ∀ w ∈ fy_tb, w.before args s = true) (hK : va_K D vwCl (fy_ty T) s) (hN : fy_N s) (hO : fz_O s) (hP1 : va_P D vwCl [(q, .inr (ci, fs0))] H) (hM : fz_M l ym bytes maxL (fz_rm d mc ms) D T lay S0 As q H.size ci fs0 dom i0 mc ms) (k : fz_kI own index ym bytes maxL np) (hR : d + 1 ≤ R.frames ∧ 8 + (maxL + 11) + 45 * d ≤ R.locals) (hn : As.length = np) (hsize : ls.size = nL) (hst : st = As.reverse ++ .ref q :: rest) (hW : (rest.map fun v => v.category).sum ≤ 8) (hf : cells + mc ≤ R.cells ∧ slots + ms ≤ R.slots) (hdg : decode cc pc = .ok (.invokespecial index, 3)) : va_Run p l e R s m args below meth c H locs cells slots mc ms (F0 m pc ls st) rest (fz_QV D T lay S0 dom i0 q H.size (Value.ref q :: As).toArray) (fz_A q H.size) := by
  obtain ⟨k1, k2, k4, k5, k6, k7, k8, k9⟩ := k
  have cw : CallB R s args own index ym bytes maxL none (Cond.code ym bytes maxL none :: fy_tb) (fz_rm d mc ms) mc ms np ∧ ym.name = "<init>" ∧ (Cond.instanceMethod ym).before args s = true := ⟨callB_of np hts (fy_gdI k5) rfl rfl rfl (hts _ k4) (hts _ k1) ⟨k7, k8, k9⟩ hR, k6, hts _ k2⟩
  exact va_runI ⟨hx, hb, hml, hown, hts⟩ hM cw ⟨fz_blind, fun U hU hW => ⟨rfl, by rw [hU], by rw [hU]; exact hP1, va_K.moved hW.alike hK, hN.warm hW, hO.moved hW.alike⟩⟩ rfl hn hsize hst (lv_room (rest := st) hW) hdg hf
theorem fz_runN {ym : MethodName} {host : String} {bytes : ByteArray} {maxL index np q ci d mc ms : Nat} {fs0 As st : List Value} (hx : p.tables.exec = Jvm.exec) (hb : c.code = cc) (hml : c.maxLocals = nL) (hown : s.vm.findClass own = some m.cls) (hts : ∀ w ∈ fy_tb, w.before args s = true) (hK : va_K D vwCl (fy_ty T) s) (hN : fy_N s) (hO : fz_O s) (hP1 : va_P D vwCl [(q, .inr (ci, fs0))] H) (hM : fz_M l ym bytes maxL (fz_rm d mc ms) D T lay S0 As q H.size ci fs0 dom i0 mc ms) (k : fz_kIN own index ym host bytes maxL np) (hR : d + 1 ≤ R.frames ∧ 8 + (maxL + 11) + 45 * d ≤ R.locals) (hn : As.length = np) (hsize : ls.size = nL) (hst : st = As.reverse ++ .ref q :: rest) (hW : (rest.map fun v => v.category).sum ≤ 8) (hf : cells + mc ≤ R.cells ∧ slots + ms ≤ R.slots) (hdg : decode cc pc = .ok (.invokespecial index, 3)) : va_Run p l e R s m args below meth c H locs cells slots mc ms (F0 m pc ls st) rest (fz_QV D T lay S0 dom i0 q H.size (Value.ref q :: As).toArray) (fz_A q H.size) := by
  obtain ⟨k1, k2, k4, k5, k6, k7, k8, k9⟩ := k
  have cw : va_CN R s args own index ym host bytes maxL none (Cond.code ym bytes maxL none :: fy_tb) (fz_rm d mc ms) mc ms np ∧ ym.name = "<init>" ∧ (Cond.instanceMethod ym).before args s = true := ⟨va_cnB np hts (fy_gdI k5) rfl rfl rfl (hN _ k1 rfl) (hts _ k4) ⟨k7, k8, k9⟩ hR, k6, hts _ k2⟩
  exact va_runIN ⟨hx, hb, hml, hown, hts⟩ hM cw ⟨fz_blind, fun U hU hW => ⟨rfl, by rw [hU], by rw [hU]; exact hP1, va_K.moved hW.alike hK, hN.warm hW, hO.moved hW.alike⟩⟩ rfl hn hsize hst (lv_room (rest := st) hW) hdg hf
theorem fz_last {q : Nat} {e0 : va_E} (hP : va_P D vwCl (ws ++ [(q, e0)]) H) : va_P D vwCl [(q, e0)] H := by
  intro k x hk
  have h1 := (List.getElem?_eq_some_iff.mp hk).1
  simp at h1
  subst h1
  cases hk
  exact hP ws.length _ (by simp)
theorem fz_cal {q mc ms ci : Nat} {fs0 : List Value} {a : Array Value} {st : List Value} (hP : va_P D vwCl (ws ++ [(q, .inr (ci, fs0))]) H) (hD : va_D A (ws ++ [(q, .inr (ci, fs0))])) (hS : va_S A H0 H locs) (hA : ∀ x, H0.size ≤ x → A x) (hnd : dom.Nodup) (hr : va_Run p l e R s m args below meth c H locs cells slots mc ms (F0 m pc ls st) rest (fz_QV D T lay S0 dom i0 q H.size a) (fz_A q H.size))
    (kk : ∀ (ad : Nat → Nat) (H1 : Heap) (locs1 : List Loc), ad i0 = q → va_P D vwCl (ws ++ fy_ls dom ad (fy_c T ad lay S0)) H1 → va_D A (ws ++ fy_ls dom ad (fy_c T ad lay S0)) → va_S A H0 H1 locs1 → W p l e R s m args below meth c H1 locs1 (cells + mc) (slots + ms) Q (F0 m (pc + 3) ls rest)) : W p l e R s m args below meth c H locs cells slots Q (F0 m pc ls st) := by
  have hq : (ws ++ [(q, Sum.inr (ci, fs0))])[ws.length]? = some (q, (.inr (ci, fs0) : va_E)) := by simp
  have hAq : ∀ x, fz_A q H.size x → A x := by
    rintro x (rfl | h)
    · exact hD.2 _ _ hq
    · exact hA x (Nat.le_trans hS.1 h)
  refine va_callv hr hS (fun x _ h => hAq x h) hAq (fun ad t H1 locs1 ht _ hp hB _ hk hS1 => ?_)
  obtain ⟨h0, hbig, hinj⟩ := hp
  have hB : va_P D vwCl (fy_ls dom ad (fy_c T ad lay S0)) t.heap := hB
  rw [ht] at hB
  obtain ⟨g1, g2⟩ := fz_after hP hD (fun x h => hA x (Nat.le_trans hS.1 h)) hk h0 hbig hinj hnd hB
  exact kk ad H1 locs1 h0 g1 g2 hS1
end FZ
