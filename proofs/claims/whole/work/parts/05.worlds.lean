/-! WORLDS OF A FIXED LAYOUT: cells are numbered; what they hold is one function of ints and one of longs; references never change -/
def fy_tb : List Cond := lw_tbl.filter goodWord
theorem fy_in {w : Cond} (h : w ∈ lw_tbl) (hg : goodWord w = true) : w ∈ fy_tb := List.mem_filter.mpr ⟨h, hg⟩
theorem fy_inR {w : Cond} {i : Nat} (h : tables_1[i]? = some w) (hg : goodWord w = true) : w ∈ fy_tb := fy_in (List.mem_append_right _ (List.mem_of_getElem? h)) hg
theorem fy_inL {w : Cond} {i : Nat} (h : (k2_sels lw_privs)[i]? = some w) (hg : goodWord w = true) : w ∈ fy_tb := fy_in (List.mem_append_left _ (List.mem_of_getElem? h)) hg
theorem fy_gdI {y : MethodName} {b : ByteArray} {n : Nat} {r : Option FieldType} (h : Cond.code y b n r ∈ fy_tb) : GoodIn fy_tb (Cond.code y b n r :: fy_tb) := by
  intro w hw
  rcases List.mem_cons.mp hw with rfl | hw
  · exact ⟨h, good_of_word (List.mem_filter.mp h).2⟩
  · exact ⟨hw, good_of_word (List.mem_filter.mp hw).2⟩
def fy_isn (w : Cond) : Bool := match w with
  | .methodLinkNest .. => true
  | .fieldLinkNest .. => true
  | _ => false
def fy_N (U : State) : Prop := ∀ w ∈ lw_tbl, fy_isn w = true → va_Nw w U
theorem fy_N.warm {s U : State} (hW : s.WarmedH U.vm) (h : fy_N s) : fy_N U := by
  intro w hw hi
  have h1 := h w hw hi
  cases w with
  | methodLinkNest a i x b => exact va_Nw.warmM hW h1
  | fieldLinkNest a i b n d h => exact va_Nw.warmF hW h1
  | _ => cases hi
theorem fy_N.same {s U : State} (hv : s.vm = U.vm) (h : fy_N s) : fy_N U := by
  intro w hw hi
  have h1 := h w hw hi
  cases w with
  | methodLinkNest a i x b => exact va_Nw.same rfl hv h1
  | fieldLinkNest a i b n d h => exact va_Nw.same rfl hv h1
  | _ => cases hi
abbrev fy_K : Type := Option (Option Nat)
abbrev fy_L : Type := (Nat × Nat × (Nat → Nat)) ⊕ (Nat × List fy_K)
abbrev fy_S : Type := (Nat → Nat → Int32) × (Nat → Nat → Int64)
def fy_v (ad : Nat → Nat) (S : fy_S) (id k : Nat) (x : fy_K) : Value := match x with
  | none => .int (S.1 id k)
  | some none => .long (S.2 id k)
  | some (some j) => .ref (ad j)
def fy_fs (ad : Nat → Nat) (S : fy_S) (id : Nat) : Nat → List fy_K → List Value
  | _, [] => []
  | k, x :: xs => fy_v ad S id k x :: fy_fs ad S id (k + 1) xs
theorem fy_fs_get (ad : Nat → Nat) (S : fy_S) (id : Nat) : ∀ (xs : List fy_K) (k j : Nat), (fy_fs ad S id k xs)[j]? = (xs[j]?).map (fun x => fy_v ad S id (k + j) x)
  | [], k, j => by simp [fy_fs]
  | x :: xs, k, 0 => by simp [fy_fs]
  | x :: xs, k, j + 1 => by
    simp only [fy_fs, List.getElem?_cons_succ]
    rw [fy_fs_get ad S id xs (k + 1) j, show k + 1 + j = k + (j + 1) by omega]
theorem fy_fs_len (ad : Nat → Nat) (S : fy_S) (id : Nat) : ∀ (xs : List fy_K) (k : Nat), (fy_fs ad S id k xs).length = xs.length
  | [], k => rfl
  | x :: xs, k => by simp only [fy_fs, List.length_cons, fy_fs_len ad S id xs (k + 1)]
def fy_a (ad : Nat → Nat) (S : fy_S) (id t : Nat) (r : Nat → Nat) : (Nat → Int32) ⊕ (Nat → Int64) ⊕ (Nat → UInt32) ⊕ (Nat → UInt64) ⊕ (Nat → Option Nat) :=
  if t < 5 then .inl (S.1 id) else if t = 5 then .inr (.inl (S.2 id)) else .inr (.inr (.inr (.inr (fun j => some (ad (r j))))))
def fy_c (T : Nat → ClassId) (ad : Nat → Nat) (lay : Nat → fy_L) (S : fy_S) (id : Nat) : va_E := match lay id with
  | .inl q => .inl (T q.1, q.2.1, fy_a ad S id q.1 q.2.2)
  | .inr q => .inr (q.1, fy_fs ad S id 0 q.2)
def fy_ls (dom : List Nat) (ad : Nat → Nat) (cells : Nat → va_E) : va_W := dom.map (fun id => (ad id, cells id))
theorem fy_ls_at {dom : List Nat} {ad : Nat → Nat} {cells : Nat → va_E} {id : Nat} (h : id ∈ dom) : ∃ k : Nat, (fy_ls dom ad cells)[k]? = some (ad id, cells id) ∧ dom[k]? = some id := by
  obtain ⟨k, hk⟩ := List.getElem?_of_mem h
  exact ⟨k, by simp [fy_ls, hk], hk⟩
theorem fy_ls_inv {dom : List Nat} {ad : Nat → Nat} {cells : Nat → va_E} {k : Nat} {q : Nat × va_E} (h : (fy_ls dom ad cells)[k]? = some q) : ∃ id, dom[k]? = some id ∧ q = (ad id, cells id) := by
  unfold fy_ls at h
  rw [List.getElem?_map] at h
  cases hd : dom[k]? with
  | none => rw [hd] at h; cases h
  | some id => rw [hd] at h; exact ⟨id, rfl, (Option.some.inj h).symm⟩
theorem fy_nd_inj {dom : List Nat} (hn : dom.Nodup) {i j id : Nat} (hi : dom[i]? = some id) (hj : dom[j]? = some id) : i = j :=
  (List.getElem?_inj (List.getElem?_eq_some_iff.mp hi).1 hn).mp (hi.trans hj.symm)
theorem fy_ls_congr {dom : List Nat} {ad ad' : Nat → Nat} {cells cells' : Nat → va_E} (h : ∀ id ∈ dom, ad id = ad' id ∧ cells id = cells' id) : fy_ls dom ad cells = fy_ls dom ad' cells' := by
  unfold fy_ls
  exact List.map_congr_left (fun id hid => by rw [(h id hid).1, (h id hid).2])
theorem fy_ls_set {dom : List Nat} {ad : Nat → Nat} {cells : Nat → va_E} {k id : Nat} {e : va_E} (hn : dom.Nodup) (hk : dom[k]? = some id) : (fy_ls dom ad cells).set k (ad id, e) = fy_ls dom ad (va_up cells id e) := by
  apply List.ext_getElem?
  intro j
  rw [List.getElem?_set]
  by_cases hj : k = j
  · subst hj
    obtain ⟨hlt, hk1⟩ := List.getElem?_eq_some_iff.mp hk
    simp [fy_ls, hlt, hk1, va_up]
  · rw [if_neg hj]
    unfold fy_ls
    rw [List.getElem?_map, List.getElem?_map]
    cases hd : dom[j]? with
    | none => rfl
    | some i =>
      have hne : i ≠ id := fun h => hj (fy_nd_inj hn (h ▸ hk) hd)
      simp [va_up, hne]
def fy_ws (T : Nat → ClassId) (ad : Nat → Nat) (lay : Nat → fy_L) (dom : List Nat) (S : fy_S) : va_W := fy_ls dom ad (fy_c T ad lay S)
theorem fy_ws_set {T : Nat → ClassId} {ad : Nat → Nat} {lay : Nat → fy_L} {dom : List Nat} {S S' : fy_S} {k id : Nat} {e : va_E} (hn : dom.Nodup) (hk : dom[k]? = some id) (he : e = fy_c T ad lay S' id) (ho : ∀ j, j ≠ id → fy_c T ad lay S' j = fy_c T ad lay S j) : (fy_ws T ad lay dom S).set k (ad id, e) = fy_ws T ad lay dom S' := by
  unfold fy_ws
  rw [fy_ls_set hn hk]
  refine fy_ls_congr (fun j _ => ⟨rfl, ?_⟩)
  by_cases hj : j = id
  · subst hj; simp only [va_up, if_pos]; exact he
  · rw [ho j hj]; simp only [va_up, if_neg hj]
abbrev fy_G : Type := va_G × (Nat → ClassId) × (Nat → Nat) × Option Nat
abbrev fy_Y : Type := (Nat → fy_L) × List Nat
def fy_ty (T : Nat → ClassId) : List (ClassId × FieldType) := [(T 0, .int), (T 1, .byte), (T 2, .char), (T 3, .short), (T 4, .boolean), (T 5, .long), (T 6, .object RX0), (T 7, .object RX2)]
def fy_A (g : fy_G) (y : fy_Y) : Nat → Prop := fun q => ∃ id, id ∈ y.2 ∧ q = g.2.2.1 id
def fy_D (g : fy_G) (y : fy_Y) : Prop := y.2.Nodup ∧ ∀ i j, i ∈ y.2 → j ∈ y.2 → g.2.2.1 i = g.2.2.1 j → i = j
def fy_cont (j : Nat) : Int64 := if j = 0 then 0xAAAAAAAAAAAAAAAA else if j = 1 then 0xCCCCCCCCCCCCCCCC else if j = 2 then 0xF0F0F0F0F0F0F0F0 else if j = 3 then 0xFF00FF00FF00FF00 else if j = 4 then 0xFFFF0000FFFF0000 else 0xFFFFFFFF00000000
def fy_E (g : fy_G) (y : fy_Y) (U : State) (H : Heap) : Prop := ∀ t, g.2.2.2 = some t → va_Z RX9 "CONTAINING" "[J" (.ref t) (fy_A g y) U H ∧ va_T .long t 6 (fun j => .long (fy_cont j)) (fy_A g y) U H
def fy_P (g : fy_G) (y : fy_Y) (S : fy_S) (H : Heap) : Prop := va_P g.1 vwCl (fy_ws g.2.1 g.2.2.1 y.1 y.2 S) H
theorem fy_dis {g : fy_G} {y : fy_Y} (S : fy_S) (h : fy_D g y) : va_D (fy_A g y) (fy_ws g.2.1 g.2.2.1 y.1 y.2 S) := by
  refine ⟨fun i j p q hp hq he => ?_, fun k q hk => ?_⟩
  · obtain ⟨a, ha, rfl⟩ := fy_ls_inv hp
    obtain ⟨b, hb, rfl⟩ := fy_ls_inv hq
    have hab := h.2 a b (List.mem_of_getElem? ha) (List.mem_of_getElem? hb) he
    subst hab
    exact fy_nd_inj h.1 ha hb
  · obtain ⟨a, ha, rfl⟩ := fy_ls_inv hk
    exact ⟨a, List.mem_of_getElem? ha, rfl⟩
def fy_U (g : fy_G) (y : fy_Y) (S : fy_S) (U : State) : Prop := fy_P g y S U.heap ∧ va_K g.1 vwCl (fy_ty g.2.1) U ∧ fy_D g y ∧ fy_E g y U U.heap ∧ fy_N U
def fy_C (g : fy_G) (y : fy_Y) (p : Program) (s : State) (m : MethodId) (args : Array Value) (meth : Method) (c : Code) (own : String) (cc : ByteArray) (nL : Nat) (rt : Option FieldType) : Prop :=
  p.tables.exec = Jvm.exec ∧ c.code = cc ∧ meth.sig.returnType = rt ∧ (∀ w ∈ fy_tb, w.before args s = true) ∧ s.vm.findClass own = some m.cls ∧ meth.locks = false ∧ c.maxLocals = nL ∧ va_K g.1 vwCl (fy_ty g.2.1) s ∧ fy_D g y ∧ fy_E g y s s.heap ∧ fy_N s
def fy_W (g : fy_G) (y : fy_Y) (S : fy_S) (s : State) (H : Heap) (locs : List Loc) : Prop := fy_P g y S H ∧ va_S (fy_A g y) s.heap H locs
def fy_QI (g : fy_G) (y : fy_Y) (r : Int32) (S : fy_S) : Array Value → State → Outcome → State → Prop := va_Qi (fun (r' : Int32) (u : fy_S) => r' = r ∧ u = S) (fun u t => fy_P g y u t.heap) (fy_A g y)
def fy_QL (g : fy_G) (y : fy_Y) (r : Int64) (S : fy_S) : Array Value → State → Outcome → State → Prop := va_Ql (fun (r' : Int64) (u : fy_S) => r' = r ∧ u = S) (fun u t => fy_P g y u t.heap) (fy_A g y)
def fy_QV (g : fy_G) (y : fy_Y) (S : fy_S) : Array Value → State → Outcome → State → Prop := va_Qv (fun (u : fy_S) => u = S) (fun u t => fy_P g y u t.heap) (fy_A g y)
def fy_QE (g : fy_G) (y : fy_Y) (r : Option Nat) (S : fy_S) : Array Value → State → Outcome → State → Prop := va_Qe g.2.2.1 (fun (r' : Option Nat) (u : fy_S) => r' = r ∧ u = S) (fun u t => fy_P g y u t.heap) (fy_A g y)
/-- a method's contract at a layout -/
abbrev fy_M (g : fy_G) (y : fy_Y) (l : Launch) (ym : MethodName) (cc : ByteArray) (nL : Nat) (rt : Option FieldType) (rm : Room) (av : List Value) (S : fy_S) (Qc : Array Value → State → Outcome → State → Prop) : Prop := Met l ym (Cond.code ym cc nL rt :: fy_tb) rm (va_Pc av (fy_U g y S)) Qc 0 0 (fy_A g y)
abbrev fy_rm (d : Nat) : Room := { frames := d, cells := 0, slots := 0, locals := 45 * d }
/-- an index that lies in its row -/
def fy_ix (i : Int32) (n : Nat) : Bool := decide (¬ i < 0 ∧ i.toNatClampNeg < n)
theorem fy_ix_in {i : Int32} {n : Nat} (h : fy_ix i n = true) : vp_in i n := by
  have h := of_decide_eq_true h
  rintro (h1 | h1)
  · exact h.1 h1
  · omega
def fy_gd {α : Type} (b : Bool) (k : Option α) : Option α := if b = true then k else none
theorem fy_gd_some {α : Type} {b : Bool} {k : Option α} {r : α} (h : fy_gd b k = some r) : b = true ∧ k = some r := by
  unfold fy_gd at h
  split at h
  · rename_i hb; exact ⟨hb, h⟩
  · cases h
def fy_bl {α β : Type} (x : α) (f : α → Option β) : Option β := f x
theorem fy_bl_some {α β : Type} {x v : α} {f : α → Option β} {r : β} (e : v = x) (h : fy_bl x f = some r) : f v = some r := by subst e; exact h
def fy_bd {α β : Type} (x : Option α) (f : α → Option β) : Option β := match x with
  | none => none
  | some v => f v
theorem fy_bd_some {α β : Type} {x : Option α} {f : α → Option β} {r : β} (h : fy_bd x f = some r) : ∃ v, x = some v ∧ f v = some r := by
  cases x with
  | none => cases h
  | some v => exact ⟨v, rfl, h⟩
def fy_bp {α β γ : Type} (x : Option (α × β)) (f : α → β → Option γ) : Option γ := match x with
  | none => none
  | some q => f q.1 q.2
theorem fy_bp_some {α β γ : Type} {x : Option (α × β)} {f : α → β → Option γ} {r : γ} (h : fy_bp x f = some r) : ∃ a b, x = some (a, b) ∧ f a b = some r := by
  cases x with
  | none => cases h
  | some v => exact ⟨v.1, v.2, rfl, h⟩
theorem fy_if_t {α : Type} {c : Prop} [Decidable c] {a b : Option α} {r : α} (h : (if c then a else b) = some r) (hc : c) : a = some r := by rw [if_pos hc] at h; exact h
theorem fy_if_f {α : Type} {c : Prop} [Decidable c] {a b : Option α} {r : α} (h : (if c then a else b) = some r) (hc : ¬ c) : b = some r := by rw [if_neg hc] at h; exact h
/-- a loop's fuel: a number that nothing can count down by itself -/
noncomputable def fy_fu : Nat := Classical.choose (show ∃ n : Nat, n = 1000000 from ⟨_, rfl⟩)
theorem fy_fu_eq : fy_fu = 1000000 := Classical.choose_spec (show ∃ n : Nat, n = 1000000 from ⟨_, rfl⟩)
theorem fz_fu {n : Nat} (h : n < 1000000) : n < fy_fu := by rw [fy_fu_eq]; exact h
theorem fy_bd_s {α β : Type} (v : α) (f : α → Option β) : fy_bd (some v) f = f v := rfl
theorem fy_bp_s {α β γ : Type} (a : α) (b : β) (f : α → β → Option γ) : fy_bp (some (a, b)) f = f a b := rfl
/-- what a return of a narrow type asks -/
def fy_nr (ty : FieldType) (v : Int32) : Bool := decide (narrow ty (.int v) = .int v)
theorem fy_nr_ok {ty : FieldType} {v : Int32} (h : fy_nr ty v = true) : narrow ty (.int v) = .int v := of_decide_eq_true h
def fy_lus (x : Int64) (y : Int32) : Int64 := (x.toUInt64 >>> (y.toInt64.toUInt64 &&& Int64.toUInt64 63)).toInt64
def fy_ius (x y : Int32) : Int32 := (x.toUInt32 >>> (y.toUInt32 &&& Int32.toUInt32 31)).toInt32
def fy_sI (S : fy_S) (i k : Nat) (v : Int32) : fy_S := (va_up S.1 i (va_up (S.1 i) k v), S.2)
def fy_sL (S : fy_S) (i k : Nat) (v : Int64) : fy_S := (S.1, va_up S.2 i (va_up (S.2 i) k v))
def fy_sA (S : fy_S) (i : Nat) (f : Nat → Int32) : fy_S := (va_up S.1 i f, S.2)
def fy_sB (S : fy_S) (i : Nat) (f : Nat → Int64) : fy_S := (S.1, va_up S.2 i f)
theorem fy_v_eq {ad : Nat → Nat} {S S' : fy_S} {id k : Nat} (h1 : S'.1 id k = S.1 id k) (h2 : S'.2 id k = S.2 id k) (x : fy_K) : fy_v ad S' id k x = fy_v ad S id k x := by
  rcases x with _ | _ | j
  · simp [fy_v, h1]
  · simp [fy_v, h2]
  · rfl
theorem fy_fs_eq {ad : Nat → Nat} {S S' : fy_S} {id : Nat} (h1 : S'.1 id = S.1 id) (h2 : S'.2 id = S.2 id) : ∀ (xs : List fy_K) (k : Nat), fy_fs ad S' id k xs = fy_fs ad S id k xs
  | [], k => rfl
  | x :: xs, k => by
    simp only [fy_fs]
    rw [fy_fs_eq h1 h2 xs (k + 1)]
    congr 1
    exact fy_v_eq (by rw [h1]) (by rw [h2]) x
theorem fy_c_eq {T : Nat → ClassId} {ad : Nat → Nat} {lay : Nat → fy_L} {S S' : fy_S} {id : Nat} (h1 : S'.1 id = S.1 id) (h2 : S'.2 id = S.2 id) : fy_c T ad lay S' id = fy_c T ad lay S id := by
  unfold fy_c
  cases lay id with
  | inl q => simp only [fy_a, h1, h2]
  | inr q => simp only [fy_fs_eq h1 h2]
theorem fy_fs_set {ad : Nat → Nat} {S S' : fy_S} {id k : Nat} {xs : List fy_K} {x : fy_K} (hx : xs[k]? = some x) (h1 : ∀ j, j ≠ k → S'.1 id j = S.1 id j) (h2 : ∀ j, j ≠ k → S'.2 id j = S.2 id j) : (fy_fs ad S id 0 xs).set k (fy_v ad S' id k x) = fy_fs ad S' id 0 xs := by
  apply List.ext_getElem?
  intro j
  rw [List.getElem?_set, fy_fs_get, fy_fs_get, fy_fs_len]
  obtain ⟨hk, hx2⟩ := List.getElem?_eq_some_iff.mp hx
  by_cases hj : k = j
  · subst hj
    simp [hk, hx2]
  · rw [if_neg hj]
    congr 1
    funext z
    rw [Nat.zero_add]
    exact (fy_v_eq (h1 j (fun h => hj h.symm)) (h2 j (fun h => hj h.symm)) z).symm
theorem fy_up_ne {α : Type} {f : Nat → α} {k j : Nat} {v : α} (h : j ≠ k) : va_up f k v j = f j := if_neg h
theorem fy_up_eq {α : Type} {f : Nat → α} {k : Nat} {v : α} : va_up f k v k = v := if_pos rfl
section FY
variable {p : Program} {l : Launch} {e : Env} {R : Room} {s : State} {m : MethodId} {args : Array Value} {below : List Frame} {meth : Method} {c : Code} {H : Heap} {locs : List Loc} {cells slots : Nat} {Q : State → Prop}
variable {g : fy_G} {y : fy_Y} {S : fy_S} {own : String} {cc : ByteArray} {nL : Nat} {rt : Option FieldType} {pc : Nat} {ls : Array Slot} {rest : List Value} {id : Nat}
theorem fy_cell_o {ci : Nat} {ks : List fy_K} (hI : id ∈ y.2 ∧ y.1 id = .inr (ci, ks)) : ∃ k : Nat, (fy_ws g.2.1 g.2.2.1 y.1 y.2 S)[k]? = some (g.2.2.1 id, .inr (ci, fy_fs g.2.2.1 S id 0 ks)) ∧ y.2[k]? = some id := by
  obtain ⟨k, h1, h2⟩ := fy_ls_at (ad := g.2.2.1) (cells := fy_c g.2.1 g.2.2.1 y.1 S) hI.1
  refine ⟨k, h1.trans ?_, h2⟩
  unfold fy_c; rw [hI.2]
theorem fy_cell_i {t n : Nat} {r : Nat → Nat} (hI : id ∈ y.2 ∧ y.1 id = .inl (t, n, r)) (ht : t < 5) : ∃ k : Nat, (fy_ws g.2.1 g.2.2.1 y.1 y.2 S)[k]? = some (g.2.2.1 id, .inl (g.2.1 t, n, .inl (S.1 id))) ∧ y.2[k]? = some id := by
  obtain ⟨k, h1, h2⟩ := fy_ls_at (ad := g.2.2.1) (cells := fy_c g.2.1 g.2.2.1 y.1 S) hI.1
  refine ⟨k, h1.trans ?_, h2⟩
  unfold fy_c; rw [hI.2]; simp only [fy_a, if_pos ht]
theorem fy_cell_l {n : Nat} {r : Nat → Nat} (hI : id ∈ y.2 ∧ y.1 id = .inl (5, n, r)) : ∃ k : Nat, (fy_ws g.2.1 g.2.2.1 y.1 y.2 S)[k]? = some (g.2.2.1 id, .inl (g.2.1 5, n, .inr (.inl (S.2 id)))) ∧ y.2[k]? = some id := by
  obtain ⟨k, h1, h2⟩ := fy_ls_at (ad := g.2.2.1) (cells := fy_c g.2.1 g.2.2.1 y.1 S) hI.1
  refine ⟨k, h1.trans ?_, h2⟩
  unfold fy_c; rw [hI.2]; simp [fy_a]
theorem fy_cell_r {t n : Nat} {r : Nat → Nat} (hI : id ∈ y.2 ∧ y.1 id = .inl (t, n, r)) (ht : 5 < t) : ∃ k : Nat, (fy_ws g.2.1 g.2.2.1 y.1 y.2 S)[k]? = some (g.2.2.1 id, .inl (g.2.1 t, n, .inr (.inr (.inr (.inr (fun j => some (g.2.2.1 (r j)))))))) ∧ y.2[k]? = some id := by
  obtain ⟨k, h1, h2⟩ := fy_ls_at (ad := g.2.2.1) (cells := fy_c g.2.1 g.2.2.1 y.1 S) hI.1
  refine ⟨k, h1.trans ?_, h2⟩
  unfold fy_c; rw [hI.2]; simp only [fy_a, if_neg (show ¬ t < 5 by omega), if_neg (show ¬ t = 5 by omega)]
/-- a cell's ints change: the list with the new cell is the new state's list -/
theorem fy_wI {t n k : Nat} {r : Nat → Nat} {f : Nat → Int32} (hD : fy_D g y) (hk : y.2[k]? = some id) (hI : y.1 id = .inl (t, n, r)) (ht : t < 5) : (fy_ws g.2.1 g.2.2.1 y.1 y.2 S).set k (g.2.2.1 id, .inl (g.2.1 t, n, .inl f)) = fy_ws g.2.1 g.2.2.1 y.1 y.2 (fy_sA S id f) := by
  refine fy_ws_set hD.1 hk ?_ (fun j hj => fy_c_eq (by simp only [fy_sA]; exact fy_up_ne hj) rfl)
  unfold fy_c; rw [hI]; simp only [fy_a, if_pos ht, fy_sA, fy_up_eq]
theorem fy_wL {n k : Nat} {r : Nat → Nat} {f : Nat → Int64} (hD : fy_D g y) (hk : y.2[k]? = some id) (hI : y.1 id = .inl (5, n, r)) : (fy_ws g.2.1 g.2.2.1 y.1 y.2 S).set k (g.2.2.1 id, .inl (g.2.1 5, n, .inr (.inl f))) = fy_ws g.2.1 g.2.2.1 y.1 y.2 (fy_sB S id f) := by
  refine fy_ws_set hD.1 hk ?_ (fun j hj => fy_c_eq rfl (by simp only [fy_sB]; exact fy_up_ne hj))
  unfold fy_c; rw [hI]; simp [fy_a, fy_sB, fy_up_eq]
theorem fy_iald (C : fy_C g y p s m args meth c own cc nL rt) (w : fy_W g y S s H locs) {n : Nat} {r : Nat → Nat} (hI : id ∈ y.2 ∧ y.1 id = .inl (0, n, r)) {i : Int32} (hin : fy_ix i n = true) (hdg : decode cc pc = .ok (.iaload, 1)) (kk : W p l e R s m args below meth c H locs cells slots Q (F0 m (pc + 1) ls (.int (S.1 id i.toNatClampNeg) :: rest))) : W p l e R s m args below meth c H locs cells slots Q (F0 m pc ls (.int i :: .ref (g.2.2.1 id) :: rest)) := by
  obtain ⟨hx, hb, -, -, -, -, -, hK, -⟩ := C
  obtain ⟨k, hk, -⟩ := fy_cell_i (g := g) (S := S) hI (by decide)
  exact va_iald hx hb hK w.1 k 0 hk rfl (fy_ix_in hin) hdg kk
theorem fy_bald (C : fy_C g y p s m args meth c own cc nL rt) (w : fy_W g y S s H locs) {n : Nat} {r : Nat → Nat} (hI : id ∈ y.2 ∧ y.1 id = .inl (1, n, r)) {i : Int32} (hin : fy_ix i n = true) (hdg : decode cc pc = .ok (.baload, 1)) (kk : W p l e R s m args below meth c H locs cells slots Q (F0 m (pc + 1) ls (.int (S.1 id i.toNatClampNeg) :: rest))) : W p l e R s m args below meth c H locs cells slots Q (F0 m pc ls (.int i :: .ref (g.2.2.1 id) :: rest)) := by
  obtain ⟨hx, hb, -, -, -, -, -, hK, -⟩ := C
  obtain ⟨k, hk, -⟩ := fy_cell_i (g := g) (S := S) hI (by decide)
  exact va_bald hx hb hK w.1 k 1 hk rfl (fy_ix_in hin) hdg kk
theorem fy_cald (C : fy_C g y p s m args meth c own cc nL rt) (w : fy_W g y S s H locs) {n : Nat} {r : Nat → Nat} (hI : id ∈ y.2 ∧ y.1 id = .inl (2, n, r)) {i : Int32} (hin : fy_ix i n = true) (hdg : decode cc pc = .ok (.caload, 1)) (kk : W p l e R s m args below meth c H locs cells slots Q (F0 m (pc + 1) ls (.int (S.1 id i.toNatClampNeg) :: rest))) : W p l e R s m args below meth c H locs cells slots Q (F0 m pc ls (.int i :: .ref (g.2.2.1 id) :: rest)) := by
  obtain ⟨hx, hb, -, -, -, -, -, hK, -⟩ := C
  obtain ⟨k, hk, -⟩ := fy_cell_i (g := g) (S := S) hI (by decide)
  exact va_cald hx hb hK w.1 k 2 hk rfl (fy_ix_in hin) hdg kk
theorem fy_sald (C : fy_C g y p s m args meth c own cc nL rt) (w : fy_W g y S s H locs) {n : Nat} {r : Nat → Nat} (hI : id ∈ y.2 ∧ y.1 id = .inl (3, n, r)) {i : Int32} (hin : fy_ix i n = true) (hdg : decode cc pc = .ok (.saload, 1)) (kk : W p l e R s m args below meth c H locs cells slots Q (F0 m (pc + 1) ls (.int (S.1 id i.toNatClampNeg) :: rest))) : W p l e R s m args below meth c H locs cells slots Q (F0 m pc ls (.int i :: .ref (g.2.2.1 id) :: rest)) := by
  obtain ⟨hx, hb, -, -, -, -, -, hK, -⟩ := C
  obtain ⟨k, hk, -⟩ := fy_cell_i (g := g) (S := S) hI (by decide)
  exact va_sald hx hb hK w.1 k 3 hk rfl (fy_ix_in hin) hdg kk
theorem fy_zald (C : fy_C g y p s m args meth c own cc nL rt) (w : fy_W g y S s H locs) {n : Nat} {r : Nat → Nat} (hI : id ∈ y.2 ∧ y.1 id = .inl (4, n, r)) {i : Int32} (hin : fy_ix i n = true) (hdg : decode cc pc = .ok (.baload, 1)) (kk : W p l e R s m args below meth c H locs cells slots Q (F0 m (pc + 1) ls (.int (S.1 id i.toNatClampNeg) :: rest))) : W p l e R s m args below meth c H locs cells slots Q (F0 m pc ls (.int i :: .ref (g.2.2.1 id) :: rest)) := by
  obtain ⟨hx, hb, -, -, -, -, -, hK, -⟩ := C
  obtain ⟨k, hk, -⟩ := fy_cell_i (g := g) (S := S) hI (by decide)
  exact va_zald hx hb hK w.1 k 4 hk rfl (fy_ix_in hin) hdg kk
theorem fy_lald (C : fy_C g y p s m args meth c own cc nL rt) (w : fy_W g y S s H locs) {n : Nat} {r : Nat → Nat} (hI : id ∈ y.2 ∧ y.1 id = .inl (5, n, r)) {i : Int32} (hin : fy_ix i n = true) (hdg : decode cc pc = .ok (.laload, 1)) (kk : W p l e R s m args below meth c H locs cells slots Q (F0 m (pc + 1) ls (.long (S.2 id i.toNatClampNeg) :: rest))) : W p l e R s m args below meth c H locs cells slots Q (F0 m pc ls (.int i :: .ref (g.2.2.1 id) :: rest)) := by
  obtain ⟨hx, hb, -, -, -, -, -, hK, -⟩ := C
  obtain ⟨k, hk, -⟩ := fy_cell_l (g := g) (S := S) hI
  exact va_lald hx hb hK w.1 k 5 hk rfl (fy_ix_in hin) hdg kk
theorem fy_aald6 (C : fy_C g y p s m args meth c own cc nL rt) (w : fy_W g y S s H locs) {n : Nat} {r : Nat → Nat} (hI : id ∈ y.2 ∧ y.1 id = .inl (6, n, r)) {i : Int32} (hin : fy_ix i n = true) (hdg : decode cc pc = .ok (.aaload, 1)) (kk : W p l e R s m args below meth c H locs cells slots Q (F0 m (pc + 1) ls (.ref (g.2.2.1 (r i.toNatClampNeg)) :: rest))) : W p l e R s m args below meth c H locs cells slots Q (F0 m pc ls (.int i :: .ref (g.2.2.1 id) :: rest)) := by
  obtain ⟨hx, hb, -, -, -, -, -, hK, -⟩ := C
  obtain ⟨k, hk, -⟩ := fy_cell_r (g := g) (S := S) hI (by decide)
  exact va_aldq hx hb hK w.1 k 6 hk rfl (fy_ix_in hin) hdg kk
theorem fy_aald7 (C : fy_C g y p s m args meth c own cc nL rt) (w : fy_W g y S s H locs) {n : Nat} {r : Nat → Nat} (hI : id ∈ y.2 ∧ y.1 id = .inl (7, n, r)) {i : Int32} (hin : fy_ix i n = true) (hdg : decode cc pc = .ok (.aaload, 1)) (kk : W p l e R s m args below meth c H locs cells slots Q (F0 m (pc + 1) ls (.ref (g.2.2.1 (r i.toNatClampNeg)) :: rest))) : W p l e R s m args below meth c H locs cells slots Q (F0 m pc ls (.int i :: .ref (g.2.2.1 id) :: rest)) := by
  obtain ⟨hx, hb, -, -, -, -, -, hK, -⟩ := C
  obtain ⟨k, hk, -⟩ := fy_cell_r (g := g) (S := S) hI (by decide)
  exact va_aldq hx hb hK w.1 k 7 hk rfl (fy_ix_in hin) hdg kk
theorem fy_iast (C : fy_C g y p s m args meth c own cc nL rt) (w : fy_W g y S s H locs) {n : Nat} {r : Nat → Nat} (hI : id ∈ y.2 ∧ y.1 id = .inl (0, n, r)) {i x : Int32} (hin : fy_ix i n = true) (hdg : decode cc pc = .ok (.iastore, 1)) (kk : ∀ (H1 : Heap) (locs1 : List Loc), fy_W g y (fy_sI S id i.toNatClampNeg x) s H1 locs1 → W p l e R s m args below meth c H1 locs1 cells slots Q (F0 m (pc + 1) ls rest)) : W p l e R s m args below meth c H locs cells slots Q (F0 m pc ls (.int x :: .int i :: .ref (g.2.2.1 id) :: rest)) := by
  obtain ⟨hx, hb, -, -, -, -, -, hK, hD, -⟩ := C
  obtain ⟨k, hk, hk2⟩ := fy_cell_i (g := g) (S := S) hI (by decide)
  refine va_iast hx hb hK w.1 (fy_dis S hD) w.2 k 0 hk rfl (fy_ix_in hin) hdg (fun H1 locs1 hP _ hS => kk H1 locs1 ⟨?_, hS⟩)
  rw [fy_wI hD hk2 hI.2 (by decide)] at hP
  exact hP
theorem fy_bast (C : fy_C g y p s m args meth c own cc nL rt) (w : fy_W g y S s H locs) {n : Nat} {r : Nat → Nat} (hI : id ∈ y.2 ∧ y.1 id = .inl (1, n, r)) {i x : Int32} (hin : fy_ix i n = true) (hdg : decode cc pc = .ok (.bastore, 1)) (kk : ∀ (H1 : Heap) (locs1 : List Loc), fy_W g y (fy_sI S id i.toNatClampNeg (vp_nar .byte x)) s H1 locs1 → W p l e R s m args below meth c H1 locs1 cells slots Q (F0 m (pc + 1) ls rest)) : W p l e R s m args below meth c H locs cells slots Q (F0 m pc ls (.int x :: .int i :: .ref (g.2.2.1 id) :: rest)) := by
  obtain ⟨hx, hb, -, -, -, -, -, hK, hD, -⟩ := C
  obtain ⟨k, hk, hk2⟩ := fy_cell_i (g := g) (S := S) hI (by decide)
  refine va_bast hx hb hK w.1 (fy_dis S hD) w.2 k 1 hk rfl (fy_ix_in hin) hdg (fun H1 locs1 hP _ hS => kk H1 locs1 ⟨?_, hS⟩)
  rw [fy_wI hD hk2 hI.2 (by decide)] at hP
  exact hP
theorem fy_cast (C : fy_C g y p s m args meth c own cc nL rt) (w : fy_W g y S s H locs) {n : Nat} {r : Nat → Nat} (hI : id ∈ y.2 ∧ y.1 id = .inl (2, n, r)) {i x : Int32} (hin : fy_ix i n = true) (hdg : decode cc pc = .ok (.castore, 1)) (kk : ∀ (H1 : Heap) (locs1 : List Loc), fy_W g y (fy_sI S id i.toNatClampNeg (vp_nar .char x)) s H1 locs1 → W p l e R s m args below meth c H1 locs1 cells slots Q (F0 m (pc + 1) ls rest)) : W p l e R s m args below meth c H locs cells slots Q (F0 m pc ls (.int x :: .int i :: .ref (g.2.2.1 id) :: rest)) := by
  obtain ⟨hx, hb, -, -, -, -, -, hK, hD, -⟩ := C
  obtain ⟨k, hk, hk2⟩ := fy_cell_i (g := g) (S := S) hI (by decide)
  refine va_cast hx hb hK w.1 (fy_dis S hD) w.2 k 2 hk rfl (fy_ix_in hin) hdg (fun H1 locs1 hP _ hS => kk H1 locs1 ⟨?_, hS⟩)
  rw [fy_wI hD hk2 hI.2 (by decide)] at hP
  exact hP
theorem fy_sast (C : fy_C g y p s m args meth c own cc nL rt) (w : fy_W g y S s H locs) {n : Nat} {r : Nat → Nat} (hI : id ∈ y.2 ∧ y.1 id = .inl (3, n, r)) {i x : Int32} (hin : fy_ix i n = true) (hdg : decode cc pc = .ok (.sastore, 1)) (kk : ∀ (H1 : Heap) (locs1 : List Loc), fy_W g y (fy_sI S id i.toNatClampNeg (vp_nar .short x)) s H1 locs1 → W p l e R s m args below meth c H1 locs1 cells slots Q (F0 m (pc + 1) ls rest)) : W p l e R s m args below meth c H locs cells slots Q (F0 m pc ls (.int x :: .int i :: .ref (g.2.2.1 id) :: rest)) := by
  obtain ⟨hx, hb, -, -, -, -, -, hK, hD, -⟩ := C
  obtain ⟨k, hk, hk2⟩ := fy_cell_i (g := g) (S := S) hI (by decide)
  refine va_sast hx hb hK w.1 (fy_dis S hD) w.2 k 3 hk rfl (fy_ix_in hin) hdg (fun H1 locs1 hP _ hS => kk H1 locs1 ⟨?_, hS⟩)
  rw [fy_wI hD hk2 hI.2 (by decide)] at hP
  exact hP
theorem fy_zast (C : fy_C g y p s m args meth c own cc nL rt) (w : fy_W g y S s H locs) {n : Nat} {r : Nat → Nat} (hI : id ∈ y.2 ∧ y.1 id = .inl (4, n, r)) {i x : Int32} (hin : fy_ix i n = true) (hdg : decode cc pc = .ok (.bastore, 1)) (kk : ∀ (H1 : Heap) (locs1 : List Loc), fy_W g y (fy_sI S id i.toNatClampNeg (vp_nar .boolean x)) s H1 locs1 → W p l e R s m args below meth c H1 locs1 cells slots Q (F0 m (pc + 1) ls rest)) : W p l e R s m args below meth c H locs cells slots Q (F0 m pc ls (.int x :: .int i :: .ref (g.2.2.1 id) :: rest)) := by
  obtain ⟨hx, hb, -, -, -, -, -, hK, hD, -⟩ := C
  obtain ⟨k, hk, hk2⟩ := fy_cell_i (g := g) (S := S) hI (by decide)
  refine va_zast hx hb hK w.1 (fy_dis S hD) w.2 k 4 hk rfl (fy_ix_in hin) hdg (fun H1 locs1 hP _ hS => kk H1 locs1 ⟨?_, hS⟩)
  rw [fy_wI hD hk2 hI.2 (by decide)] at hP
  exact hP
theorem fy_last (C : fy_C g y p s m args meth c own cc nL rt) (w : fy_W g y S s H locs) {n : Nat} {r : Nat → Nat} (hI : id ∈ y.2 ∧ y.1 id = .inl (5, n, r)) {i : Int32} {x : Int64} (hin : fy_ix i n = true) (hdg : decode cc pc = .ok (.lastore, 1)) (kk : ∀ (H1 : Heap) (locs1 : List Loc), fy_W g y (fy_sL S id i.toNatClampNeg x) s H1 locs1 → W p l e R s m args below meth c H1 locs1 cells slots Q (F0 m (pc + 1) ls rest)) : W p l e R s m args below meth c H locs cells slots Q (F0 m pc ls (.long x :: .int i :: .ref (g.2.2.1 id) :: rest)) := by
  obtain ⟨hx, hb, -, -, -, -, -, hK, hD, -⟩ := C
  obtain ⟨k, hk, hk2⟩ := fy_cell_l (g := g) (S := S) hI
  refine va_last hx hb hK w.1 (fy_dis S hD) w.2 k 5 hk rfl (fy_ix_in hin) hdg (fun H1 locs1 hP _ hS => kk H1 locs1 ⟨?_, hS⟩)
  rw [fy_wL hD hk2 hI.2] at hP
  exact hP
theorem fy_alen (C : fy_C g y p s m args meth c own cc nL rt) (w : fy_W g y S s H locs) {t n : Nat} {r : Nat → Nat} (hI : id ∈ y.2 ∧ y.1 id = .inl (t, n, r)) (ht : t < 8) (hdg : decode cc pc = .ok (.arraylength, 1)) (kk : W p l e R s m args below meth c H locs cells slots Q (F0 m (pc + 1) ls (.int (Int32.ofNat n) :: rest))) : W p l e R s m args below meth c H locs cells slots Q (F0 m pc ls (.ref (g.2.2.1 id) :: rest)) := by
  obtain ⟨hx, hb, -, -, -, -, -, hK, -⟩ := C
  have hc : ∃ k : Nat, (fy_ws g.2.1 g.2.2.1 y.1 y.2 S)[k]? = some (g.2.2.1 id, .inl (g.2.1 t, n, fy_a g.2.2.1 S id t r)) := by
    obtain ⟨k, h1, -⟩ := fy_ls_at (ad := g.2.2.1) (cells := fy_c g.2.1 g.2.2.1 y.1 S) hI.1
    refine ⟨k, h1.trans ?_⟩
    unfold fy_c; rw [hI.2]
  obtain ⟨k, hc⟩ := hc
  have ht2 : ∃ ty, (fy_ty g.2.1)[t]? = some (g.2.1 t, ty) := by
    match t, ht with
    | 0, _ => exact ⟨_, rfl⟩
    | 1, _ => exact ⟨_, rfl⟩
    | 2, _ => exact ⟨_, rfl⟩
    | 3, _ => exact ⟨_, rfl⟩
    | 4, _ => exact ⟨_, rfl⟩
    | 5, _ => exact ⟨_, rfl⟩
    | 6, _ => exact ⟨_, rfl⟩
    | 7, _ => exact ⟨_, rfl⟩
  obtain ⟨ty, hty⟩ := ht2
  exact va_alen hx hb hK w.1 k t hc hty rfl hdg kk
/-- a field is read -/
theorem fy_get (C : fy_C g y p s m args meth c own cc nL rt) (w : fy_W g y S s H locs) {ci k index : Nat} {ks : List fy_K} {Cn : String} {Tf : u_T} {Nf : Nat} (hI : id ∈ y.2 ∧ y.1 id = .inr (ci, ks)) {x : fy_K} (hk : ks[k]? = some x) (hc : vwCl[ci]? = some (Cn, Tf, Nf)) (hin : ∀ w ∈ u_ws Cn Tf Nf, w ∈ fy_tb) (hkN : k < Nf) (hlink : Cond.fieldLink own index (Tf k).1 (Tf k).2.1 (Tf k).2.2.1 ∈ fy_tb) (hdg : decode cc pc = .ok (.getfield index, 3)) {v : Value} (hv : fy_v g.2.2.1 S id k x = v) (kk : W p l e R s m args below meth c H locs cells slots Q (F0 m (pc + 3) ls (v :: rest))) : W p l e R s m args below meth c H locs cells slots Q (F0 m pc ls (.ref (g.2.2.1 id) :: rest)) := by
  obtain ⟨hx, hb, -, hts, hown, -, -, hK, -⟩ := C
  obtain ⟨k0, hk0, -⟩ := fy_cell_o (g := g) (S := S) hI
  exact va_get hx hb hts hin hown hK w.1 k0 hk0 hc k hkN (hts _ hlink) (fun _ h => h) (by rw [fy_fs_get, hk, ← hv]; simp) hdg kk
theorem fy_putI (C : fy_C g y p s m args meth c own cc nL rt) (w : fy_W g y S s H locs) {ci k index : Nat} {ks : List fy_K} {Cn : String} {Tf : u_T} {Nf : Nat} (hI : id ∈ y.2 ∧ y.1 id = .inr (ci, ks)) (hk : ks[k]? = some (none)) (hc : vwCl[ci]? = some (Cn, Tf, Nf)) (hin : ∀ w ∈ u_ws Cn Tf Nf, w ∈ fy_tb) (ty0 : Nat → FieldType) (hty0 : ∀ k, k < Nf → parseFieldDescriptor (Tf k).2.2.1 = some (ty0 k)) (hnm : ∀ a, a < Nf → ∀ b, b < Nf → a ≠ b → (Tf a).2.1 ≠ (Tf b).2.1) (hkN : k < Nf) (hlink : Cond.fieldLink own index (Tf k).1 (Tf k).2.1 (Tf k).2.2.1 ∈ fy_tb) (hfin : (Tf k).2.2.2 = false) {v : Int32} {ty : FieldType} (hd : parseFieldDescriptor (Tf k).2.2.1 = some ty) (hty : narrow ty (.int v) = .int v) (hfit : fits ty (.int v) = true) (hdg : decode cc pc = .ok (.putfield index, 3)) (kk : ∀ (H1 : Heap) (locs1 : List Loc), fy_W g y (fy_sI S id k v) s H1 locs1 → W p l e R s m args below meth c H1 locs1 cells slots Q (F0 m (pc + 3) ls rest)) : W p l e R s m args below meth c H locs cells slots Q (F0 m pc ls (.int v :: .ref (g.2.2.1 id) :: rest)) := by
  obtain ⟨hx, hb, -, hts, hown, -, -, hK, hD, -⟩ := C
  obtain ⟨k0, hk0, hk2⟩ := fy_cell_o (g := g) (S := S) hI
  refine va_put hx hb hts hin ty0 hty0 hnm hown hK w.1 (fy_dis S hD) w.2 k0 hk0 hc k hkN (hts _ hlink) (fun _ h => h) hfin hd hty hfit (by rw [fy_fs_len]; exact (List.getElem?_eq_some_iff.mp hk).1) hdg (fun H1 locs1 hP _ hS => kk H1 locs1 ⟨?_, hS⟩)
  have e1 : (.int v : Value) = fy_v g.2.2.1 (fy_sI S id k v) id k (none) := by simp [fy_v, fy_sI, va_up]
  rw [e1, fy_fs_set hk (S' := fy_sI S id k v) (fun j hj => by simp [fy_sI, va_up, hj]) (fun j hj => by simp [fy_sI, va_up, hj])] at hP
  rw [fy_ws_set hD.1 hk2 (S' := fy_sI S id k v) (by unfold fy_c; rw [hI.2]) (fun j hj => fy_c_eq (by simp [fy_sI, va_up, hj]) (by simp [fy_sI, va_up, hj]))] at hP
  exact hP
theorem fy_putL (C : fy_C g y p s m args meth c own cc nL rt) (w : fy_W g y S s H locs) {ci k index : Nat} {ks : List fy_K} {Cn : String} {Tf : u_T} {Nf : Nat} (hI : id ∈ y.2 ∧ y.1 id = .inr (ci, ks)) (hk : ks[k]? = some (some none)) (hc : vwCl[ci]? = some (Cn, Tf, Nf)) (hin : ∀ w ∈ u_ws Cn Tf Nf, w ∈ fy_tb) (ty0 : Nat → FieldType) (hty0 : ∀ k, k < Nf → parseFieldDescriptor (Tf k).2.2.1 = some (ty0 k)) (hnm : ∀ a, a < Nf → ∀ b, b < Nf → a ≠ b → (Tf a).2.1 ≠ (Tf b).2.1) (hkN : k < Nf) (hlink : Cond.fieldLink own index (Tf k).1 (Tf k).2.1 (Tf k).2.2.1 ∈ fy_tb) (hfin : (Tf k).2.2.2 = false) {v : Int64} {ty : FieldType} (hd : parseFieldDescriptor (Tf k).2.2.1 = some ty) (hty : narrow ty (.long v) = .long v) (hfit : fits ty (.long v) = true) (hdg : decode cc pc = .ok (.putfield index, 3)) (kk : ∀ (H1 : Heap) (locs1 : List Loc), fy_W g y (fy_sL S id k v) s H1 locs1 → W p l e R s m args below meth c H1 locs1 cells slots Q (F0 m (pc + 3) ls rest)) : W p l e R s m args below meth c H locs cells slots Q (F0 m pc ls (.long v :: .ref (g.2.2.1 id) :: rest)) := by
  obtain ⟨hx, hb, -, hts, hown, -, -, hK, hD, -⟩ := C
  obtain ⟨k0, hk0, hk2⟩ := fy_cell_o (g := g) (S := S) hI
  refine va_put hx hb hts hin ty0 hty0 hnm hown hK w.1 (fy_dis S hD) w.2 k0 hk0 hc k hkN (hts _ hlink) (fun _ h => h) hfin hd hty hfit (by rw [fy_fs_len]; exact (List.getElem?_eq_some_iff.mp hk).1) hdg (fun H1 locs1 hP _ hS => kk H1 locs1 ⟨?_, hS⟩)
  have e1 : (.long v : Value) = fy_v g.2.2.1 (fy_sL S id k v) id k (some none) := by simp [fy_v, fy_sL, va_up]
  rw [e1, fy_fs_set hk (S' := fy_sL S id k v) (fun j hj => by simp [fy_sL, va_up, hj]) (fun j hj => by simp [fy_sL, va_up, hj])] at hP
  rw [fy_ws_set hD.1 hk2 (S' := fy_sL S id k v) (by unfold fy_c; rw [hI.2]) (fun j hj => fy_c_eq (by simp [fy_sL, va_up, hj]) (by simp [fy_sL, va_up, hj]))] at hP
  exact hP
theorem fy_retI (C : fy_C g y p s m args meth c own cc nL (some .int)) (w : fy_W g y S s H locs) {r : Int32} (hdg : decode cc pc = .ok (.ireturn, 1)) : W p l e R s m args below meth c H locs 0 0 (MQ below (fy_QI g y r S) args s 0 0 (fy_A g y)) (F0 m pc ls [.int r]) := by
  obtain ⟨hx, hb, hr, -, -, hlk, -⟩ := C
  exact W.iret hx hb hr (fun t ht _ => ⟨⟨r, S, rfl, ⟨rfl, rfl⟩, by show fy_P g y S t.heap; rw [ht]; exact w.1⟩, w.2.F ht⟩) w.2.2.2 hdg hlk
theorem fy_retZ {ty : FieldType} (C : fy_C g y p s m args meth c own cc nL (some ty)) (w : fy_W g y S s H locs) {r : Int32} (hn : narrow ty (.int r) = .int r) (hdg : decode cc pc = .ok (.ireturn, 1)) : W p l e R s m args below meth c H locs 0 0 (MQ below (fy_QI g y r S) args s 0 0 (fy_A g y)) (F0 m pc ls [.int r]) := by
  obtain ⟨hx, hb, hr, -, -, hlk, -⟩ := C
  exact W.zret hx hb hr hn (fun t ht _ => ⟨⟨r, S, rfl, ⟨rfl, rfl⟩, by show fy_P g y S t.heap; rw [ht]; exact w.1⟩, w.2.F ht⟩) w.2.2.2 hdg hlk
theorem fy_retL (C : fy_C g y p s m args meth c own cc nL (some .long)) (w : fy_W g y S s H locs) {r : Int64} (hdg : decode cc pc = .ok (.lreturn, 1)) : W p l e R s m args below meth c H locs 0 0 (MQ below (fy_QL g y r S) args s 0 0 (fy_A g y)) (F0 m pc ls [.long r]) := by
  obtain ⟨hx, hb, hr, -, -, hlk, -⟩ := C
  exact W.lret hx hb hr (fun t ht _ => ⟨⟨r, S, rfl, ⟨rfl, rfl⟩, by show fy_P g y S t.heap; rw [ht]; exact w.1⟩, w.2.F ht⟩) w.2.2.2 hdg hlk
theorem fy_retV (C : fy_C g y p s m args meth c own cc nL none) (w : fy_W g y S s H locs) (hdg : decode cc pc = .ok (.return_, 1)) : W p l e R s m args below meth c H locs 0 0 (MQ below (fy_QV g y S) args s 0 0 (fy_A g y)) (F0 m pc ls []) := by
  obtain ⟨hx, hb, hr, -, -, hlk, -⟩ := C
  exact W.vret hx hb hr (fun t ht _ => ⟨⟨S, rfl, rfl, by show fy_P g y S t.heap; rw [ht]; exact w.1⟩, w.2.F ht⟩) w.2.2.2 hdg hlk
theorem fy_retE {n : String} (C : fy_C g y p s m args meth c own cc nL (some (.object n))) (w : fy_W g y S s H locs) {r : Option Nat} {v : Value} (hv : v = va_re g.2.2.1 r) (hdg : decode cc pc = .ok (.areturn, 1)) : W p l e R s m args below meth c H locs 0 0 (MQ below (fy_QE g y r S) args s 0 0 (fy_A g y)) (F0 m pc ls [v]) := by
  obtain ⟨hx, hb, hr, -, -, hlk, -⟩ := C
  subst hv
  exact W.aret hx hb hr (Or.inl ⟨n, rfl⟩) (by cases r with | none => exact Or.inl rfl | some a => exact Or.inr ⟨_, rfl⟩) (fun t ht _ => ⟨⟨r, S, rfl, ⟨rfl, rfl⟩, by show fy_P g y S t.heap; rw [ht]; exact w.1⟩, w.2.F ht⟩) w.2.2.2 hdg hlk
theorem fy_E.kept {H1 : Heap} {U : State} (h : fy_E g y U H) (hq : ∀ a : Nat, a < H.size → ¬ fy_A g y a → H1[a]? = H[a]?) : fy_E g y U H1 := fun t ht => ⟨(h t ht).1.kept hq, (h t ht).2.kept hq⟩
theorem fy_E.moved {u U : State} (hvm : u.vm.Alike U.vm) (h : fy_E g y u H) : fy_E g y U H := fun t ht => ⟨(h t ht).1.moved hvm, (h t ht).2.moved hvm⟩
theorem fy_blind {av : List Value} : FrameBlind (va_Pc av (fy_U g y S)) := by
  intro a U f mk h
  obtain ⟨h0, hP, hK, hD, hE, hN⟩ := h
  exact ⟨h0, hP, va_K.moved (u := U) (U := U.calling f mk a) (Vm.Alike.refl U.vm) hK, hD, fy_E.moved (u := U) (U := U.calling f mk a) (Vm.Alike.refl U.vm) hE, fy_N.same (s := U) (U := U.calling f mk a) rfl hN⟩
theorem fy_pre (C : fy_C g y p s m args meth c own cc nL rt) (w : fy_W g y S s H locs) {av : List Value} (U : State) (hU : U.heap = H) (hW : s.WarmedH U.vm) : va_Pc av (fy_U g y S) av.toArray U := by
  obtain ⟨-, -, -, -, -, -, -, hK, hD, hE, hN⟩ := C
  refine ⟨rfl, by rw [hU]; exact w.1, va_K.moved hW.alike hK, hD, ?_, hN.warm hW⟩
  rw [hU]
  exact fy_E.moved hW.alike (hE.kept (fun a h1 h2 => w.2.2.1 a h1 h2))
/-- a method's body out of its walk -/
theorem fy_entry {ym : MethodName} {av : List Value} {rm : Room} {Qc : Array Value → State → Outcome → State → Prop} (hy : plainName ym.cls = true) (hlen : (lg_sl av).length ≤ nL)
    (body : ∀ (p : Program) (e : Env) (s : State) (m : MethodId) (args : Array Value) (below : List Frame) (meth : Method) (c : Code) (ls : Array Slot), fy_C g y p s m args meth c ym.cls cc nL rt → fy_W g y S s s.heap [] → lv_has ls nL (lv_args 0 av) → W p l e rm s m args below meth c s.heap [] 0 0 (MQ below Qc args s 0 0 (fy_A g y)) (F0 m 0 ls [])) : fy_M g y l ym cc nL rt rm av S Qc := by
  refine Met.ofW (cc := cc) (maxL := nL) (ret := rt) hy rfl ?_
  intro p e s m args below meth c s₁ B hml hv
  obtain ⟨h0, hP, hK, hD, hE, hN⟩ := hv
  have hts := atoms_spec (ws := Cond.code ym cc nL rt :: fy_tb) B.pre
  have hl := lv_entry av (n := nL) hlen
  subst h0
  rw [lg_entry_eq]
  exact body p e s m _ below meth c _ ⟨B.exec, B.bytes, B.returns, fun w hw => hts w (List.mem_cons_of_mem _ hw), findClass_of_methodNamed B.named, B.notSynchronized, hml, hK, hD, hE, hN⟩ ⟨hP, va_S.rf⟩ hl
/-- what a call site's words say: an instance method, a static one, one of a nest mate -/
def fy_kV (own : String) (index : Nat) (ym : MethodName) (b : ByteArray) (n : Nat) (r : Option FieldType) (np : Nat) : Prop := Cond.methodLink own index ym ∈ fy_tb ∧ Cond.instanceMethod ym ∈ fy_tb ∧ Cond.selects ym.cls ym ym ∈ fy_tb ∧ Cond.initialized ym.cls ∈ fy_tb ∧ Cond.code ym b n r ∈ fy_tb ∧ ym.cls ≠ "java/lang/invoke/MethodHandle" ∧ ym.cls ≠ "java/lang/invoke/VarHandle" ∧ (parseMethodDescriptor ym.desc).map (fun d => d.parameters.length) = some np
def fy_kS (own : String) (index : Nat) (ym : MethodName) (b : ByteArray) (n : Nat) (r : Option FieldType) (np : Nat) : Prop := Cond.methodLink own index ym ∈ fy_tb ∧ Cond.static ym ∈ fy_tb ∧ Cond.initialized ym.cls ∈ fy_tb ∧ Cond.code ym b n r ∈ fy_tb ∧ ym.cls ≠ "java/lang/invoke/MethodHandle" ∧ ym.cls ≠ "java/lang/invoke/VarHandle" ∧ (parseMethodDescriptor ym.desc).map (fun d => d.parameters.length) = some np
def fy_kN (own : String) (index : Nat) (ym : MethodName) (host : String) (b : ByteArray) (n : Nat) (r : Option FieldType) (np : Nat) : Prop := Cond.methodLinkNest own index ym host ∈ lw_tbl ∧ Cond.static ym ∈ fy_tb ∧ Cond.initialized ym.cls ∈ fy_tb ∧ Cond.code ym b n r ∈ fy_tb ∧ ym.cls ≠ "java/lang/invoke/MethodHandle" ∧ ym.cls ≠ "java/lang/invoke/VarHandle" ∧ (parseMethodDescriptor ym.desc).map (fun d => d.parameters.length) = some np
theorem fy_runV {ym : MethodName} {bytes : ByteArray} {maxL index np ci d : Nat} {ret : Option FieldType} {ks : List fy_K} {Tf : u_T} {Nf : Nat} {As st : List Value} {Qc : Array Value → State → Outcome → State → Prop} (C : fy_C g y p s m args meth c own cc nL rt) (w : fy_W g y S s H locs) (hM : fy_M g y l ym bytes maxL ret (fy_rm d) (.ref (g.2.2.1 id) :: As) S Qc) (hI : id ∈ y.2 ∧ y.1 id = .inr (ci, ks)) (k : fy_kV own index ym bytes maxL ret np) (hc : vwCl[ci]? = some (ym.cls, Tf, Nf)) (hR : d + 1 ≤ R.frames ∧ 8 + (maxL + 11) + 45 * d ≤ R.locals) (hn : As.length = np) (hsize : ls.size = nL) (hst : st = As.reverse ++ .ref (g.2.2.1 id) :: rest) (hW : (rest.map fun v => v.category).sum ≤ 8) (hf : cells ≤ R.cells ∧ slots ≤ R.slots) (hdg : decode cc pc = .ok (.invokevirtual index, 3)) : va_Run p l e R s m args below meth c H locs cells slots 0 0 (F0 m pc ls st) rest (Qc (Value.ref (g.2.2.1 id) :: As).toArray) (fy_A g y) := by
  obtain ⟨k1, k2, k3, k4, k5, k6, k7, k8⟩ := k
  have C' := C
  obtain ⟨hx, hb, -, hts, hown, -, hml, hK, hD, hE, hN⟩ := C
  have cw : CallW R s args own ym.cls index ym bytes maxL ret (Cond.code ym bytes maxL ret :: fy_tb) (fy_rm d) 0 0 np := ⟨callB_of np hts (fy_gdI k5) rfl rfl rfl (hts _ k4) (hts _ k1) ⟨k6, k7, k8⟩ hR, hts _ k2, hts _ k3⟩
  obtain ⟨k0, hk0, -⟩ := fy_cell_o (g := g) (S := S) hI
  exact va_runV ⟨hx, hb, hml, hown, hts⟩ hM cw ⟨fy_blind, va_recv hK w.1 hc hk0, fun U hU hW => fy_pre C' w U hU hW⟩ rfl hn hsize hst (lv_room (rest := st) hW) hdg hf
theorem fy_runS {ym : MethodName} {bytes : ByteArray} {maxL index np d : Nat} {ret : Option FieldType} {As st : List Value} {Qc : Array Value → State → Outcome → State → Prop} (C : fy_C g y p s m args meth c own cc nL rt) (w : fy_W g y S s H locs) (hM : fy_M g y l ym bytes maxL ret (fy_rm d) As S Qc) (k : fy_kS own index ym bytes maxL ret np) (hR : d + 1 ≤ R.frames ∧ 8 + (maxL + 11) + 45 * d ≤ R.locals) (hn : As.length = np) (hsize : ls.size = nL) (hst : st = As.reverse ++ rest) (hW : (rest.map fun v => v.category).sum ≤ 8) (hf : cells ≤ R.cells ∧ slots ≤ R.slots) (hdg : decode cc pc = .ok (.invokestatic index, 3)) : va_Run p l e R s m args below meth c H locs cells slots 0 0 (F0 m pc ls st) rest (Qc As.toArray) (fy_A g y) := by
  obtain ⟨k1, k2, k4, k5, k6, k7, k8⟩ := k
  have C' := C
  obtain ⟨hx, hb, -, hts, hown, -, hml, hK, hD, hE, hN⟩ := C
  have cw : CallB R s args own index ym bytes maxL ret (Cond.code ym bytes maxL ret :: fy_tb) (fy_rm d) 0 0 np ∧ (Cond.static ym).before args s = true := ⟨callB_of np hts (fy_gdI k5) rfl rfl rfl (hts _ k4) (hts _ k1) ⟨k6, k7, k8⟩ hR, hts _ k2⟩
  exact va_runS ⟨hx, hb, hml, hown, hts⟩ hM cw ⟨fy_blind, fun U hU hW => fy_pre C' w U hU hW⟩ rfl hn hsize hst (lv_room (rest := st) hW) hdg hf
theorem fy_runN {ym : MethodName} {host : String} {bytes : ByteArray} {maxL index np d : Nat} {ret : Option FieldType} {As st : List Value} {Qc : Array Value → State → Outcome → State → Prop} (C : fy_C g y p s m args meth c own cc nL rt) (w : fy_W g y S s H locs) (hM : fy_M g y l ym bytes maxL ret (fy_rm d) As S Qc) (k : fy_kN own index ym host bytes maxL ret np) (hR : d + 1 ≤ R.frames ∧ 8 + (maxL + 11) + 45 * d ≤ R.locals) (hn : As.length = np) (hsize : ls.size = nL) (hst : st = As.reverse ++ rest) (hW : (rest.map fun v => v.category).sum ≤ 8) (hf : cells ≤ R.cells ∧ slots ≤ R.slots) (hdg : decode cc pc = .ok (.invokestatic index, 3)) : va_Run p l e R s m args below meth c H locs cells slots 0 0 (F0 m pc ls st) rest (Qc As.toArray) (fy_A g y) := by
  obtain ⟨k1, k2, k4, k5, k6, k7, k8⟩ := k
  have C' := C
  obtain ⟨hx, hb, -, hts, hown, -, hml, hK, hD, hE, hN⟩ := C
  have cw : va_CN R s args own index ym host bytes maxL ret (Cond.code ym bytes maxL ret :: fy_tb) (fy_rm d) 0 0 np ∧ (Cond.static ym).before args s = true ∧ True := ⟨va_cnB np hts (fy_gdI k5) rfl rfl rfl (hN _ k1 rfl) (hts _ k4) ⟨k6, k7, k8⟩ hR, hts _ k2, trivial⟩
  exact va_runSN ⟨hx, hb, hml, hown, hts⟩ hM cw ⟨fy_blind, fun U hU hW => fy_pre C' w U hU hW⟩ rfl hn hsize hst (lv_room (rest := st) hW) hdg hf
theorem fy_calI {r : Int32} {S' : fy_S} {a : Array Value} {st : List Value} (w : fy_W g y S s H locs) (hr : va_Run p l e R s m args below meth c H locs cells slots 0 0 (F0 m pc ls st) rest (fy_QI g y r S' a) (fy_A g y)) (kk : ∀ (H1 : Heap) (locs1 : List Loc), fy_W g y S' s H1 locs1 → W p l e R s m args below meth c H1 locs1 cells slots Q (F0 m (pc + 3) ls (.int r :: rest))) : W p l e R s m args below meth c H locs cells slots Q (F0 m pc ls st) := by
  refine va_calli hr w.2 (fun q _ h => h) (fun q h => h) (fun r' u t H1 locs1 ht _ hp hB _ _ hS => ?_)
  obtain ⟨rfl, rfl⟩ := hp
  exact kk H1 locs1 ⟨by rw [← ht]; exact hB, hS⟩
theorem fy_calL {r : Int64} {S' : fy_S} {a : Array Value} {st : List Value} (w : fy_W g y S s H locs) (hr : va_Run p l e R s m args below meth c H locs cells slots 0 0 (F0 m pc ls st) rest (fy_QL g y r S' a) (fy_A g y)) (kk : ∀ (H1 : Heap) (locs1 : List Loc), fy_W g y S' s H1 locs1 → W p l e R s m args below meth c H1 locs1 cells slots Q (F0 m (pc + 3) ls (.long r :: rest))) : W p l e R s m args below meth c H locs cells slots Q (F0 m pc ls st) := by
  refine va_calll hr w.2 (fun q _ h => h) (fun q h => h) (fun r' u t H1 locs1 ht _ hp hB _ _ hS => ?_)
  obtain ⟨rfl, rfl⟩ := hp
  exact kk H1 locs1 ⟨by rw [← ht]; exact hB, hS⟩
theorem fy_calE {r : Option Nat} {S' : fy_S} {a : Array Value} {st : List Value} (w : fy_W g y S s H locs) (hr : va_Run p l e R s m args below meth c H locs cells slots 0 0 (F0 m pc ls st) rest (fy_QE g y r S' a) (fy_A g y)) (kk : ∀ (H1 : Heap) (locs1 : List Loc), fy_W g y S' s H1 locs1 → W p l e R s m args below meth c H1 locs1 cells slots Q (F0 m (pc + 3) ls (va_re g.2.2.1 r :: rest))) : W p l e R s m args below meth c H locs cells slots Q (F0 m pc ls st) := by
  refine va_calle hr w.2 (fun q _ h => h) (fun q h => h) (fun r' u t H1 locs1 ht _ hp hB _ _ hS => ?_)
  obtain ⟨rfl, rfl⟩ := hp
  exact kk H1 locs1 ⟨by rw [← ht]; exact hB, hS⟩
theorem fy_calV {S' : fy_S} {a : Array Value} {st : List Value} (w : fy_W g y S s H locs) (hr : va_Run p l e R s m args below meth c H locs cells slots 0 0 (F0 m pc ls st) rest (fy_QV g y S' a) (fy_A g y)) (kk : ∀ (H1 : Heap) (locs1 : List Loc), fy_W g y S' s H1 locs1 → W p l e R s m args below meth c H1 locs1 cells slots Q (F0 m (pc + 3) ls rest)) : W p l e R s m args below meth c H locs cells slots Q (F0 m pc ls st) := by
  refine va_callv hr w.2 (fun q _ h => h) (fun q h => h) (fun u t H1 locs1 ht _ hp hB _ _ hS => ?_)
  subst hp
  exact kk H1 locs1 ⟨by rw [← ht]; exact hB, hS⟩
end FY
