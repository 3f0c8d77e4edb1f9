/-! how many bits a long has -/
theorem lb_N {n s : Nat} (hs : s < 64) : lb (lN n) s = n.testBit s := by
  unfold lb
  rw [lN_bv, BitVec.getLsbD_ofNat]
  simp [hs]
theorem bc_and {x u y v : Nat} (hy : y < 256) (hv : v < 256) : (256 * x + y) &&& (256 * u + v) = 256 * (x &&& u) + (y &&& v) := by
  have hyv : (y &&& v) < 2 ^ 8 := Nat.and_lt_two_pow y (n := 8) hv
  apply Nat.eq_of_testBit_eq
  intro i
  have e1 := Nat.testBit_two_pow_mul_add x (b := y) (i := 8) hy i
  have e2 := Nat.testBit_two_pow_mul_add u (b := v) (i := 8) hv i
  have e3 := Nat.testBit_two_pow_mul_add (x &&& u) (b := y &&& v) (i := 8) hyv i
  have e1 : (256 * x + y).testBit i = if i < 8 then y.testBit i else x.testBit (i - 8) := e1
  have e2 : (256 * u + v).testBit i = if i < 8 then v.testBit i else u.testBit (i - 8) := e2
  have e3 : (256 * (x &&& u) + (y &&& v)).testBit i = if i < 8 then (y &&& v).testBit i else (x &&& u).testBit (i - 8) := e3
  rw [Nat.testBit_and, e1, e2, e3]
  by_cases h : i < 8
  · rw [if_pos h, if_pos h, if_pos h, Nat.testBit_and]
  · rw [if_neg h, if_neg h, if_neg h, Nat.testBit_and]
def bc_m (c : Nat) : Nat → Nat
  | 0 => 0
  | k + 1 => 256 * bc_m c k + c
def bc_1 (k n : Nat) : Nat := n - ((n / 2) &&& bc_m 85 k)
def bc_2 (k n : Nat) : Nat := (n &&& bc_m 51 k) + ((n / 4) &&& bc_m 51 k)
def bc_3 (k n : Nat) : Nat := (n + n / 16) &&& bc_m 15 k
theorem bc_d1 : ∀ r, r < 2 → ∀ b, b < 256 → (128 * r + b / 2) &&& 85 = (b / 2) &&& 85 := by decide +kernel
theorem bc_d2 : ∀ r, r < 4 → ∀ b, b < 256 → (64 * r + b / 4) &&& 51 = (b / 4) &&& 51 := by decide +kernel
theorem bc_d3 : ∀ r, r < 5 → ∀ b, b < 69 → (16 * r + b + b / 16) &&& 15 = (b + b / 16) &&& 15 := by decide +kernel
theorem bc_s1 {k h b : Nat} (hb : b < 256) : bc_1 (k + 1) (256 * h + b) = 256 * bc_1 k h + (b - ((b / 2) &&& 85)) := by
  unfold bc_1
  have e : (256 * h + b) / 2 = 256 * (h / 2) + (128 * (h % 2) + b / 2) := by omega
  rw [e, bc_m, bc_and (by omega) (by decide), bc_d1 (h % 2) (by omega) b hb]
  have h1 : (h / 2) &&& bc_m 85 k ≤ h / 2 := Nat.and_le_left
  have h2 : (b / 2) &&& 85 ≤ b / 2 := Nat.and_le_left
  omega
theorem bc_s2 {k h b : Nat} (hb : b < 256) : bc_2 (k + 1) (256 * h + b) = 256 * bc_2 k h + ((b &&& 51) + ((b / 4) &&& 51)) := by
  unfold bc_2
  have e : (256 * h + b) / 4 = 256 * (h / 4) + (64 * (h % 4) + b / 4) := by omega
  rw [e, bc_m, bc_and (by omega) (by decide), bc_and (by omega) (by decide), bc_d2 (h % 4) (by omega) b hb]
  omega
theorem bc_s3 {k h b : Nat} (hh : h % 16 < 5) (hb : b < 69) : bc_3 (k + 1) (256 * h + b) = 256 * bc_3 k h + ((b + b / 16) &&& 15) := by
  unfold bc_3
  have e : 256 * h + b + (256 * h + b) / 16 = 256 * (h + h / 16) + (16 * (h % 16) + b + b / 16) := by omega
  rw [e, bc_m, bc_and (by omega) (by decide), bc_d3 (h % 16) hh b hb]
def bc_g (b : Nat) : Nat := ((b - ((b / 2) &&& 85)) &&& 51) + (((b - ((b / 2) &&& 85)) / 4) &&& 51)
theorem bc_gb : ∀ b, b < 256 → bc_g b < 69 ∧ bc_g b % 16 < 5 ∧ (bc_g b + bc_g b / 16) &&& 15 = fb_ct (fun i => b.testBit i) 8 := by decide +kernel
theorem bc_gs {k n : Nat} : bc_2 (k + 1) (bc_1 (k + 1) n) = 256 * bc_2 k (bc_1 k (n / 256)) + bc_g (n % 256) := by
  have e : n = 256 * (n / 256) + n % 256 := by omega
  have h1 := bc_s1 (k := k) (h := n / 256) (b := n % 256) (by omega)
  rw [← e] at h1
  rw [h1, bc_s2 (by omega)]
  rfl
theorem bc_g16 : ∀ k n, bc_2 k (bc_1 k n) % 16 < 5 := by
  intro k
  cases k with
  | zero =>
    intro n
    show ((_ &&& 0) + (_ &&& 0)) % 16 < 5
    rw [Nat.and_zero, Nat.and_zero]
    decide
  | succ k =>
    intro n
    rw [bc_gs]
    have := (bc_gb (n % 256) (by omega)).2.1
    omega
def bc_p : Nat → Nat → Nat
  | 0, _ => 0
  | k + 1, n => 256 * bc_p k (n / 256) + fb_ct (fun i => (n % 256).testBit i) 8
theorem bc_all : ∀ k n, bc_3 k (bc_2 k (bc_1 k n)) = bc_p k n := by
  intro k
  induction k with
  | zero => intro n; show _ &&& 0 = 0; exact Nat.and_zero _
  | succ k ih =>
    intro n
    have h := bc_gb (n % 256) (by omega)
    rw [bc_gs, bc_s3 (bc_g16 k _) h.1, h.2.2, ih, bc_p]
def bc_q : Nat → Nat → Nat
  | 0, _ => 0
  | k + 1, n => bc_q k (n / 256) + fb_ct (fun i => (n % 256).testBit i) 8
theorem bc_qc : ∀ k n, bc_q k n = fb_ct (fun i => n.testBit i) (8 * k) := by
  intro k
  induction k with
  | zero => intro n; rfl
  | succ k ih =>
    intro n
    rw [bc_q, ih, show 8 * (k + 1) = 8 + 8 * k by omega, fb_ct_split (fun i => n.testBit i) 8 (8 * k), Nat.add_comm]
    congr 1
    · refine fb_ct_cong (fun i hi => ?_)
      show (n % 2 ^ 8).testBit i = n.testBit i
      rw [Nat.testBit_mod_two_pow, decide_eq_true hi, Bool.true_and]
    · refine fb_ct_cong (fun i hi => ?_)
      show (n / 2 ^ 8).testBit i = n.testBit (8 + i)
      rw [Nat.testBit_div_two_pow, Nat.add_comm]
theorem bc_end {n : Nat} : (let a := bc_p 8 n; let b := a + a / 256; let c := b + b / 65536; let d := c + c / 4294967296; d % 128 = bc_q 8 n ∧ a < 2 ^ 63) := by
  simp only [bc_p, bc_q]
  generalize e0 : fb_ct (fun i => (n % 256).testBit i) 8 = c0
  generalize e1 : fb_ct (fun i => (n / 256 % 256).testBit i) 8 = c1
  generalize e2 : fb_ct (fun i => (n / 256 / 256 % 256).testBit i) 8 = c2
  generalize e3 : fb_ct (fun i => (n / 256 / 256 / 256 % 256).testBit i) 8 = c3
  generalize e4 : fb_ct (fun i => (n / 256 / 256 / 256 / 256 % 256).testBit i) 8 = c4
  generalize e5 : fb_ct (fun i => (n / 256 / 256 / 256 / 256 / 256 % 256).testBit i) 8 = c5
  generalize e6 : fb_ct (fun i => (n / 256 / 256 / 256 / 256 / 256 / 256 % 256).testBit i) 8 = c6
  generalize e7 : fb_ct (fun i => (n / 256 / 256 / 256 / 256 / 256 / 256 / 256 % 256).testBit i) 8 = c7
  have b0 : c0 ≤ 8 := e0 ▸ fb_ct_le _ 8
  have b1 : c1 ≤ 8 := e1 ▸ fb_ct_le _ 8
  have b2 : c2 ≤ 8 := e2 ▸ fb_ct_le _ 8
  have b3 : c3 ≤ 8 := e3 ▸ fb_ct_le _ 8
  have b4 : c4 ≤ 8 := e4 ▸ fb_ct_le _ 8
  have b5 : c5 ≤ 8 := e5 ▸ fb_ct_le _ 8
  have b6 : c6 ≤ 8 := e6 ▸ fb_ct_le _ 8
  have b7 : c7 ≤ 8 := e7 ▸ fb_ct_le _ 8
  clear e0 e1 e2 e3 e4 e5 e6 e7
  generalize ha : 256 * (256 * (256 * (256 * (256 * (256 * (256 * (256 * 0 + c7) + c6) + c5) + c4) + c3) + c2) + c1) + c0 = a
  have ha2 : a = c0 + 256 * c1 + 65536 * c2 + 16777216 * c3 + 4294967296 * c4 + 1099511627776 * c5 + 281474976710656 * c6 + 72057594037927936 * c7 := by omega
  clear ha
  have h1 : a / 256 = c1 + 256 * c2 + 65536 * c3 + 16777216 * c4 + 4294967296 * c5 + 1099511627776 * c6 + 281474976710656 * c7 := by omega
  rw [h1]
  generalize hb : a + (c1 + 256 * c2 + 65536 * c3 + 16777216 * c4 + 4294967296 * c5 + 1099511627776 * c6 + 281474976710656 * c7) = b
  have h2 : b / 65536 = (c2 + c3) + 256 * (c3 + c4) + 65536 * (c4 + c5) + 16777216 * (c5 + c6) + 4294967296 * (c6 + c7) + 1099511627776 * c7 := by omega
  rw [h2]
  generalize hc : b + ((c2 + c3) + 256 * (c3 + c4) + 65536 * (c4 + c5) + 16777216 * (c5 + c6) + 4294967296 * (c6 + c7) + 1099511627776 * c7) = c
  have hc2 : c = (c0 + c1 + c2 + c3) + 256 * (c1 + c2 + c3 + c4) + 65536 * (c2 + c3 + c4 + c5) + 16777216 * (c3 + c4 + c5 + c6) + 4294967296 * (c4 + c5 + c6 + c7) + 1099511627776 * (c5 + c6 + c7) + 281474976710656 * (c6 + c7) + 72057594037927936 * c7 := by omega
  clear hb hc h1 h2
  have h3 : c / 4294967296 = (c4 + c5 + c6 + c7) + 256 * (c5 + c6 + c7) + 65536 * (c6 + c7) + 16777216 * c7 := by omega
  rw [h3]
  constructor <;> omega
theorem X_bc {S : fy_S} (t : Int64) : J13_bitCount_95d88 S t = some (nI (fb_ct (lb t) 64)) := by
  obtain ⟨n, hn, rfl⟩ := wb_of t
  have hcn : fb_ct (lb (lN n)) 64 = bc_q 8 n := by
    rw [bc_qc]
    exact fb_ct_cong (fun i hi => lb_N hi)
  rw [hcn]
  have hm5 : bc_m 85 8 = 6148914691236517205 := by decide +kernel
  have hm3 : bc_m 51 8 = 3689348814741910323 := by decide +kernel
  have hmf : bc_m 15 8 = 1085102592571150095 := by decide +kernel
  have sh : ∀ (k : Nat) (a : Nat), k < 64 → a < 2 ^ 64 → fy_lus (lN a) (nI k) = lN (a / 2 ^ k) := fun k a hk ha => wb_shr ha hk
  have a1 : bc_1 8 n ≤ n := by unfold bc_1; omega
  have a2 : bc_2 8 (bc_1 8 n) ≤ 2 * 3689348814741910323 := by
    unfold bc_2
    rw [hm3]
    have h1 : bc_1 8 n &&& 3689348814741910323 ≤ 3689348814741910323 := Nat.and_le_right
    have h2 : bc_1 8 n / 4 &&& 3689348814741910323 ≤ 3689348814741910323 := Nat.and_le_right
    omega
  obtain ⟨hend, h63⟩ := bc_end (n := n)
  have hall := bc_all 8 n
  have x9 : lN n - ((fy_lus (lN n) (1 : Int32)) &&& (6148914691236517205 : Int64)) = lN (bc_1 8 n) := by
    rw [show fy_lus (lN n) (1 : Int32) = lN (n / 2 ^ 1) from sh 1 n (by decide) hn, show (6148914691236517205 : Int64) = lN 6148914691236517205 from rfl, wb_and (by omega) (by decide)]
    have : n / 2 ^ 1 &&& 6148914691236517205 ≤ n / 2 ^ 1 := Nat.and_le_left
    rw [lN_sub (by omega)]
    unfold bc_1
    rw [hm5]
  have x23 : (lN (bc_1 8 n) &&& (3689348814741910323 : Int64)) + ((fy_lus (lN (bc_1 8 n)) (2 : Int32)) &&& (3689348814741910323 : Int64)) = lN (bc_2 8 (bc_1 8 n)) := by
    rw [show fy_lus (lN (bc_1 8 n)) (2 : Int32) = lN (bc_1 8 n / 2 ^ 2) from sh 2 _ (by decide) (by omega), show (3689348814741910323 : Int64) = lN 3689348814741910323 from rfl, wb_and (by omega) (by decide), wb_and (by omega) (by decide), lN_add]
    unfold bc_2
    rw [hm3]
  generalize bc_2 8 (bc_1 8 n) = y at a2 hall x23
  have x33 : (lN y + fy_lus (lN y) (4 : Int32)) &&& (1085102592571150095 : Int64) = lN (bc_p 8 n) := by
    rw [show fy_lus (lN y) (4 : Int32) = lN (y / 2 ^ 4) from sh 4 _ (by decide) (by omega), lN_add, show (1085102592571150095 : Int64) = lN 1085102592571150095 from rfl, wb_and (by omega) (by decide), ← hall]
    unfold bc_3
    rw [hmf]
  generalize bc_p 8 n = z at hend h63 hall x33
  rw [J13_bitCount_95d88]
  refine pw_eq (pw_bl (pw_bl (pw_bl (pw_bl (pw_bl (pw_bl (pw_s ?_)))))))
  rw [x9, x23, x33]
  have e40 : lN z + fy_lus (lN z) (8 : Int32) = lN (z + z / 256) := by
    rw [show fy_lus (lN z) (8 : Int32) = lN (z / 2 ^ 8) from sh 8 _ (by decide) (by omega), lN_add]
  rw [e40]
  have e47 : lN (z + z / 256) + fy_lus (lN (z + z / 256)) (16 : Int32) = lN (z + z / 256 + (z + z / 256) / 65536) := by
    rw [show fy_lus (lN (z + z / 256)) (16 : Int32) = lN ((z + z / 256) / 2 ^ 16) from sh 16 _ (by decide) (by omega), lN_add]
  rw [e47]
  generalize hc : z + z / 256 + (z + z / 256) / 65536 = c at hend
  have hc64 : c < 2 ^ 64 := by omega
  have e54 : lN c + fy_lus (lN c) (32 : Int32) = lN (c + c / 4294967296) := by
    rw [show fy_lus (lN c) (32 : Int32) = lN (c / 2 ^ 32) from sh 32 _ (by decide) (by omega), lN_add]
  rw [e54, lN_i, show (127 : Int32) = nI (2 ^ 7 - 1) from rfl, fa_mask]
  exact congrArg nI hend
theorem X_bc32 {S : fy_S} {s : Nat} (hs : s < 64) : J6_bitCount_0f7a4 S (nI s) = some (nI (pu_pc s)) := by
  have key : ∀ s, s < 64 → (let v0 := nI s; let x9 := v0 - ((fy_ius v0 (1 : Int32)) &&& (1431655765 : Int32)); let x23 := (x9 &&& (858993459 : Int32)) + ((fy_ius x9 (2 : Int32)) &&& (858993459 : Int32)); let x33 := (x23 + (fy_ius x23 (4 : Int32))) &&& (252645135 : Int32); let x40 := x33 + (fy_ius x33 (8 : Int32)); let x47 := x40 + (fy_ius x40 (16 : Int32)); (x47 &&& (63 : Int32)) = nI (pu_pc s)) := by decide +kernel
  rw [J6_bitCount_0f7a4]
  exact pw_eq (pw_bl (pw_bl (pw_bl (pw_bl (pw_bl (pw_s (key s hs)))))))
theorem M_bits_e {S : fy_S} {s : Nat} (hs : s < 64) : M_bits S (nI s) = some (nI (pu_pc s)) := by
  have hb : ∀ c, c < 6 → ((nI s >>> (nI c &&& 31)) &&& 1) = nI (s.testBit c).toNat := fun c hc => by
    rw [pu_sb s hs c hc]
    cases s.testBit c <;> rfl
  have L : ∀ d c fu v, c + d = 6 → d < fu → nI (v + fb_sm (fun i => (s.testBit (c + i)).toNat) d) = nI (pu_pc s) → pw (M_bits_4 S fu (nI s) (nI v) (nI c)) (fun r => r = nI (pu_pc s)) := by
    intro d
    induction d with
    | zero =>
      intro c fu v hc hfu h
      obtain ⟨fu, rfl⟩ : ∃ z, fu = z + 1 := ⟨fu - 1, by omega⟩
      have : c = 6 := by omega
      subst this
      rw [M_bits_4]
      exact pw_t (by decide) (pw_s h)
    | succ d ih =>
      intro c fu v hc hfu h
      obtain ⟨fu, rfl⟩ : ∃ z, fu = z + 1 := ⟨fu - 1, by omega⟩
      rw [M_bits_4]
      refine pw_f (nI_ge (b := 6) (by omega) (by decide)) (pw_bl (pw_bl ?_))
      rw [hb c (by omega), nI_add, nI_1]
      refine ih (c + 1) fu _ (by omega) (by omega) ?_
      rw [← h]
      congr 1
      have := fb_sm_split (fun i => (s.testBit (c + i)).toNat) 1 d
      rw [show d + 1 = 1 + d by omega, this]
      have e : fb_sm (fun i => (s.testBit (c + i)).toNat) 1 = (s.testBit c).toNat := by
        rw [fb_sm_succ]; show 0 + _ = _; rw [Nat.zero_add]; rfl
      rw [e]
      have e2 : fb_sm (fun k => (s.testBit (c + (1 + k))).toNat) d = fb_sm (fun i => (s.testBit (c + 1 + i)).toNat) d := fb_sm_cong (fun k _ => by rw [Nat.add_assoc])
      rw [e2]
      omega
  rw [M_bits]
  refine pw_eq (L 6 0 fy_fu 0 (by omega) (fz_fu (by omega)) ?_)
  congr 1
  simp only [fb_sm, pu_pc, Nat.zero_add]
