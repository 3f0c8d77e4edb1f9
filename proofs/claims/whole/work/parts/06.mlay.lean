def M_ks : List fy_K := [some (some 1), some (some 2), some (some 3), some (some 4), some (some 5), some (some 6), some (some 7), some (some 8), some (some 9), none, none, none, none, none, some (some 10), some (some 11), some (some 12), some (some 13), none, none, none, none, none, none, some (some 14), none, some (some 15), some (some 16), some (some 17), some (some 18), some (some 19), some (some 20), some (some 21), some (some 22), none, some (some 23), some (some 24), some (some 25), some (some 26), some (some 27), some (some 28), some (some 29), some (some 30), some (some 31), none, none, some (some 32), some (some 33), none]
def M_lay (id : Nat) : fy_L := match id with
  | 0 => .inr (10, M_ks)
  | 1 => .inl (0, 7, fun _ => 0)
  | 2 => .inl (0, 7, fun _ => 0)
  | 3 => .inl (0, 7, fun _ => 0)
  | 4 => .inl (0, 21, fun _ => 0)
  | 5 => .inl (0, 133, fun _ => 0)
  | 6 => .inl (0, 5320, fun _ => 0)
  | 7 => .inl (0, 60, fun _ => 0)
  | 8 => .inl (0, 64, fun _ => 0)
  | 9 => .inl (0, 64, fun _ => 0)
  | 10 => .inl (0, 40, fun _ => 0)
  | 11 => .inl (0, 40, fun _ => 0)
  | 12 => .inl (0, 200, fun _ => 0)
  | 13 => .inl (0, 200, fun _ => 0)
  | 14 => .inl (0, 12, fun _ => 0)
  | 15 => .inl (0, 8, fun _ => 0)
  | 16 => .inl (0, 8, fun _ => 0)
  | 17 => .inl (0, 40, fun _ => 0)
  | 18 => .inl (0, 40, fun _ => 0)
  | 19 => .inl (0, 64, fun _ => 0)
  | 20 => .inl (0, 64, fun _ => 0)
  | 21 => .inl (0, 64, fun _ => 0)
  | 22 => .inl (0, 64, fun _ => 0)
  | 23 => .inl (0, 192, fun _ => 0)
  | 24 => .inl (0, 4096, fun _ => 0)
  | 25 => .inl (0, 4096, fun _ => 0)
  | 26 => .inl (0, 4096, fun _ => 0)
  | 27 => .inl (0, 64, fun _ => 0)
  | 28 => .inl (0, 64, fun _ => 0)
  | 29 => .inl (0, 64, fun _ => 0)
  | 30 => .inl (0, 64, fun _ => 0)
  | 31 => .inl (4, 64, fun _ => 0)
  | 32 => .inl (5, 64, fun _ => 0)
  | 33 => .inl (5, 64, fun _ => 0)
  | _ => .inl (0, 0, fun _ => 0)
def M_Y : fy_Y := (M_lay, List.range 34)
theorem M_o : 0 ∈ M_Y.2 ∧ M_Y.1 0 = .inr (10, M_ks) := ⟨by decide, rfl⟩
theorem M_a1 : 1 ∈ M_Y.2 ∧ M_Y.1 1 = .inl (0, 7, fun _ => 0) := ⟨by decide, rfl⟩
theorem M_a2 : 2 ∈ M_Y.2 ∧ M_Y.1 2 = .inl (0, 7, fun _ => 0) := ⟨by decide, rfl⟩
theorem M_a3 : 3 ∈ M_Y.2 ∧ M_Y.1 3 = .inl (0, 7, fun _ => 0) := ⟨by decide, rfl⟩
theorem M_a4 : 4 ∈ M_Y.2 ∧ M_Y.1 4 = .inl (0, 21, fun _ => 0) := ⟨by decide, rfl⟩
theorem M_a5 : 5 ∈ M_Y.2 ∧ M_Y.1 5 = .inl (0, 133, fun _ => 0) := ⟨by decide, rfl⟩
theorem M_a6 : 6 ∈ M_Y.2 ∧ M_Y.1 6 = .inl (0, 5320, fun _ => 0) := ⟨by decide, rfl⟩
theorem M_a7 : 7 ∈ M_Y.2 ∧ M_Y.1 7 = .inl (0, 60, fun _ => 0) := ⟨by decide, rfl⟩
theorem M_a8 : 8 ∈ M_Y.2 ∧ M_Y.1 8 = .inl (0, 64, fun _ => 0) := ⟨by decide, rfl⟩
theorem M_a9 : 9 ∈ M_Y.2 ∧ M_Y.1 9 = .inl (0, 64, fun _ => 0) := ⟨by decide, rfl⟩
theorem M_a10 : 10 ∈ M_Y.2 ∧ M_Y.1 10 = .inl (0, 40, fun _ => 0) := ⟨by decide, rfl⟩
theorem M_a11 : 11 ∈ M_Y.2 ∧ M_Y.1 11 = .inl (0, 40, fun _ => 0) := ⟨by decide, rfl⟩
theorem M_a12 : 12 ∈ M_Y.2 ∧ M_Y.1 12 = .inl (0, 200, fun _ => 0) := ⟨by decide, rfl⟩
theorem M_a13 : 13 ∈ M_Y.2 ∧ M_Y.1 13 = .inl (0, 200, fun _ => 0) := ⟨by decide, rfl⟩
theorem M_a14 : 14 ∈ M_Y.2 ∧ M_Y.1 14 = .inl (0, 12, fun _ => 0) := ⟨by decide, rfl⟩
theorem M_a15 : 15 ∈ M_Y.2 ∧ M_Y.1 15 = .inl (0, 8, fun _ => 0) := ⟨by decide, rfl⟩
theorem M_a16 : 16 ∈ M_Y.2 ∧ M_Y.1 16 = .inl (0, 8, fun _ => 0) := ⟨by decide, rfl⟩
theorem M_a17 : 17 ∈ M_Y.2 ∧ M_Y.1 17 = .inl (0, 40, fun _ => 0) := ⟨by decide, rfl⟩
theorem M_a18 : 18 ∈ M_Y.2 ∧ M_Y.1 18 = .inl (0, 40, fun _ => 0) := ⟨by decide, rfl⟩
theorem M_a19 : 19 ∈ M_Y.2 ∧ M_Y.1 19 = .inl (0, 64, fun _ => 0) := ⟨by decide, rfl⟩
theorem M_a20 : 20 ∈ M_Y.2 ∧ M_Y.1 20 = .inl (0, 64, fun _ => 0) := ⟨by decide, rfl⟩
theorem M_a21 : 21 ∈ M_Y.2 ∧ M_Y.1 21 = .inl (0, 64, fun _ => 0) := ⟨by decide, rfl⟩
theorem M_a22 : 22 ∈ M_Y.2 ∧ M_Y.1 22 = .inl (0, 64, fun _ => 0) := ⟨by decide, rfl⟩
theorem M_a23 : 23 ∈ M_Y.2 ∧ M_Y.1 23 = .inl (0, 192, fun _ => 0) := ⟨by decide, rfl⟩
theorem M_a24 : 24 ∈ M_Y.2 ∧ M_Y.1 24 = .inl (0, 4096, fun _ => 0) := ⟨by decide, rfl⟩
theorem M_a25 : 25 ∈ M_Y.2 ∧ M_Y.1 25 = .inl (0, 4096, fun _ => 0) := ⟨by decide, rfl⟩
theorem M_a26 : 26 ∈ M_Y.2 ∧ M_Y.1 26 = .inl (0, 4096, fun _ => 0) := ⟨by decide, rfl⟩
theorem M_a27 : 27 ∈ M_Y.2 ∧ M_Y.1 27 = .inl (0, 64, fun _ => 0) := ⟨by decide, rfl⟩
theorem M_a28 : 28 ∈ M_Y.2 ∧ M_Y.1 28 = .inl (0, 64, fun _ => 0) := ⟨by decide, rfl⟩
theorem M_a29 : 29 ∈ M_Y.2 ∧ M_Y.1 29 = .inl (0, 64, fun _ => 0) := ⟨by decide, rfl⟩
theorem M_a30 : 30 ∈ M_Y.2 ∧ M_Y.1 30 = .inl (0, 64, fun _ => 0) := ⟨by decide, rfl⟩
theorem M_a31 : 31 ∈ M_Y.2 ∧ M_Y.1 31 = .inl (4, 64, fun _ => 0) := ⟨by decide, rfl⟩
theorem M_a32 : 32 ∈ M_Y.2 ∧ M_Y.1 32 = .inl (5, 64, fun _ => 0) := ⟨by decide, rfl⟩
theorem M_a33 : 33 ∈ M_Y.2 ∧ M_Y.1 33 = .inl (5, 64, fun _ => 0) := ⟨by decide, rfl⟩
theorem ti_X10 : ∀ w ∈ u_ws RX10 TX10 49, w ∈ fy_tb := by
  intro w hw
  obtain ⟨k, hk, rfl⟩ := List.mem_map.mp hw
  have hk := List.mem_range.mp hk
  match k, hk with
  | 0, _ => exact fy_inR (i := 931) (by decide +kernel) rfl
  | 1, _ => exact fy_inR (i := 933) (by decide +kernel) rfl
  | 2, _ => exact fy_inR (i := 935) (by decide +kernel) rfl
  | 3, _ => exact fy_inR (i := 937) (by decide +kernel) rfl
  | 4, _ => exact fy_inR (i := 939) (by decide +kernel) rfl
  | 5, _ => exact fy_inR (i := 941) (by decide +kernel) rfl
  | 6, _ => exact fy_inR (i := 943) (by decide +kernel) rfl
  | 7, _ => exact fy_inR (i := 945) (by decide +kernel) rfl
  | 8, _ => exact fy_inR (i := 947) (by decide +kernel) rfl
  | 9, _ => exact fy_inR (i := 949) (by decide +kernel) rfl
  | 10, _ => exact fy_inR (i := 951) (by decide +kernel) rfl
  | 11, _ => exact fy_inR (i := 953) (by decide +kernel) rfl
  | 12, _ => exact fy_inR (i := 955) (by decide +kernel) rfl
  | 13, _ => exact fy_inR (i := 957) (by decide +kernel) rfl
  | 14, _ => exact fy_inR (i := 959) (by decide +kernel) rfl
  | 15, _ => exact fy_inR (i := 961) (by decide +kernel) rfl
  | 16, _ => exact fy_inR (i := 963) (by decide +kernel) rfl
  | 17, _ => exact fy_inR (i := 965) (by decide +kernel) rfl
  | 18, _ => exact fy_inR (i := 967) (by decide +kernel) rfl
  | 19, _ => exact fy_inR (i := 969) (by decide +kernel) rfl
  | 20, _ => exact fy_inR (i := 971) (by decide +kernel) rfl
  | 21, _ => exact fy_inR (i := 973) (by decide +kernel) rfl
  | 22, _ => exact fy_inR (i := 975) (by decide +kernel) rfl
  | 23, _ => exact fy_inR (i := 977) (by decide +kernel) rfl
  | 24, _ => exact fy_inR (i := 979) (by decide +kernel) rfl
  | 25, _ => exact fy_inR (i := 981) (by decide +kernel) rfl
  | 26, _ => exact fy_inR (i := 983) (by decide +kernel) rfl
  | 27, _ => exact fy_inR (i := 985) (by decide +kernel) rfl
  | 28, _ => exact fy_inR (i := 987) (by decide +kernel) rfl
  | 29, _ => exact fy_inR (i := 989) (by decide +kernel) rfl
  | 30, _ => exact fy_inR (i := 991) (by decide +kernel) rfl
  | 31, _ => exact fy_inR (i := 993) (by decide +kernel) rfl
  | 32, _ => exact fy_inR (i := 995) (by decide +kernel) rfl
  | 33, _ => exact fy_inR (i := 997) (by decide +kernel) rfl
  | 34, _ => exact fy_inR (i := 999) (by decide +kernel) rfl
  | 35, _ => exact fy_inR (i := 1001) (by decide +kernel) rfl
  | 36, _ => exact fy_inR (i := 1003) (by decide +kernel) rfl
  | 37, _ => exact fy_inR (i := 1005) (by decide +kernel) rfl
  | 38, _ => exact fy_inR (i := 1007) (by decide +kernel) rfl
  | 39, _ => exact fy_inR (i := 1009) (by decide +kernel) rfl
  | 40, _ => exact fy_inR (i := 1011) (by decide +kernel) rfl
  | 41, _ => exact fy_inR (i := 1013) (by decide +kernel) rfl
  | 42, _ => exact fy_inR (i := 1015) (by decide +kernel) rfl
  | 43, _ => exact fy_inR (i := 1017) (by decide +kernel) rfl
  | 44, _ => exact fy_inR (i := 1019) (by decide +kernel) rfl
  | 45, _ => exact fy_inR (i := 1021) (by decide +kernel) rfl
  | 46, _ => exact fy_inR (i := 1023) (by decide +kernel) rfl
  | 47, _ => exact fy_inR (i := 1025) (by decide +kernel) rfl
  | 48, _ => exact fy_inR (i := 1027) (by decide +kernel) rfl
  | k + 49, h => exact absurd h (by omega)
