/-! the two objects are made -/
def I0 (xs : Nat → Int32) : mjI := mj_I0 xs
abbrev J0 : mjJ := fun _ _ => 0
abbrev TK (L k : Nat) : mjM := (FM L []).take k
theorem FM0_len (L : Nat) : (FM L []).length = 65 := rfl
theorem TK_len {L k : Nat} (h : k ≤ 65) : (TK L k).length = k := by
  rw [List.length_take, FM0_len]
  omega
theorem I0_row {xs : Nat → Int32} {k : Nat} (h : 0 < k) : mj_row (mj_I0 xs) k (fun _ => 0) = mj_I0 xs := by
  funext b
  unfold mj_row mj_I0
  by_cases g : b = k
  · rw [if_pos g, if_neg (by omega)]
  · rw [if_neg g]
theorem I0_rows {xs : Nat → Int32} {k n : Nat} (h : 0 < k) : mj_rows (mj_I0 xs) k n = mj_I0 xs := by
  funext b
  unfold mj_rows mj_I0
  by_cases g : k ≤ b ∧ b < k + n
  · rw [if_pos g, if_neg (by omega)]
  · rw [if_neg g]
theorem J0_row {k : Nat} : mj_rowJ J0 k (fun _ => 0) = J0 := by
  funext b
  unfold mj_rowJ
  by_cases g : b = k
  · rw [if_pos g]
  · rw [if_neg g]
section NW
variable {K : mjK} {cd : List (Option mjE)} {rt : Nat} {v : Option Value} {h : mjH} {pc ix n k t q N M L : Nat} {ls : List (Option Value)} {st : List Value} {xs : Nat → Int32} {R : mjR} {d' : List Nat}
theorem nw_i (he : mj_at pc cd = some (.newarray .int, n, d')) (hN : N ≤ 1000000) (h0 : 0 < k) (h65 : k ≤ 65) (hk : TK L k ++ [(0, N)] = TK L (k + 1)) (kk : mj_Rd K cd rt (n, ls, .ref k :: st, TK L (k + 1), mj_I0 xs, R, J0) v h) : mj_Rd K cd rt (pc, ls, .int (nI N) :: st, TK L k, mj_I0 xs, R, J0) v h := by
  refine mj_one (o := some (¬ (nI N) < 0 ∧ (nI N).toNatClampNeg ≤ 1000000)) (e := (.newarray .int, n, d')) he rfl ⟨i_nn (by omega), by rw [nI_nc (by omega)]; exact hN⟩ ?_
  rw [nI_nc (by omega), TK_len h65, hk, I0_row h0]
  exact kk
theorem nw_b (he : mj_at pc cd = some (.newarray .byte, n, d')) (hN : N ≤ 1000000) (h0 : 0 < k) (h65 : k ≤ 65) (hk : TK L k ++ [(1, N)] = TK L (k + 1)) (kk : mj_Rd K cd rt (n, ls, .ref k :: st, TK L (k + 1), mj_I0 xs, R, J0) v h) : mj_Rd K cd rt (pc, ls, .int (nI N) :: st, TK L k, mj_I0 xs, R, J0) v h := by
  refine mj_one (o := some (¬ (nI N) < 0 ∧ (nI N).toNatClampNeg ≤ 1000000)) (e := (.newarray .byte, n, d')) he rfl ⟨i_nn (by omega), by rw [nI_nc (by omega)]; exact hN⟩ ?_
  rw [nI_nc (by omega), TK_len h65, hk, I0_row h0]
  exact kk
theorem nw_o (he : mj_at pc cd = some (.new ix, n, [t, q])) (h0 : 0 < k) (h65 : k ≤ 65) (hk : TK L k ++ [(t, q)] = TK L (k + 1)) (kk : mj_Rd K cd rt (n, ls, .ref k :: st, TK L (k + 1), mj_I0 xs, mj_rowR R k (fun _ => none), J0) v h) : mj_Rd K cd rt (pc, ls, st, TK L k, mj_I0 xs, R, J0) v h := by
  refine mj_one (o := none) (e := (.new ix, n, [t, q])) he rfl trivial ?_
  rw [TK_len h65, hk, I0_row h0, J0_row]
  exact kk
theorem nw_m {i2 : Nat} (he : mj_at pc cd = some (.multianewarray ix i2, n, d')) (hN : N ≤ 1000) (hM : M ≤ 1000) (h65 : k ≤ 65) (hk : TK L k ++ (2, N) :: List.replicate N (0, M) = TK L (k + 1 + N)) (kk : mj_Rd K cd rt (n, ls, .ref k :: st, TK L (k + 1 + N), mj_I0 xs, mj_rowR R k (fun j => if j < N then some (k + 1 + j) else none), J0) v h) : mj_Rd K cd rt (pc, ls, .int (nI M) :: .int (nI N) :: st, TK L k, mj_I0 xs, R, J0) v h := by
  refine mj_one (o := some (¬ (nI N) < 0 ∧ ¬ (nI M) < 0 ∧ (nI N).toNatClampNeg ≤ 1000 ∧ (nI M).toNatClampNeg ≤ 1000)) (e := (.multianewarray ix i2, n, d')) he rfl ⟨i_nn (by omega), i_nn (by omega), by rw [nI_nc (by omega)]; exact hN, by rw [nI_nc (by omega)]; exact hM⟩ ?_
  rw [nI_nc (show N < 2147483648 by omega), nI_nc (show M < 2147483648 by omega), TK_len h65, hk, I0_rows (by omega)]
  exact kk
end NW
section IN
variable {d L : Nat} {xs : Nat → Int32} {R : mjR}

def in_Pg_R (R : mjR) : mjR := mj_ur R 2 0 (some 3)
theorem in_Pg : mj_call mj_P (d + 1) kn_Pg_init [.ref 2] (TK L 3, mj_I0 xs, R, J0) none (TK L 4, mj_I0 xs, in_Pg_R R, J0) := by
  refine mj_ci rfl (Nat.le_of_ble_eq_true rfl) ?_
  refine mj_run 2 rfl trivial ?_
  refine mj_run 2 rfl trivial ?_
  refine nw_i rfl (by decide) (by decide) (by decide) rfl ?_
  refine mj_run 1 rfl trivial ?_
  exact mj_end rfl rfl trivial
def in_Sa_R (R : mjR) : mjR := mj_ur (mj_ur R 4 0 (some 5)) 4 1 (some 6)
theorem in_Sa : mj_call mj_P (d + 1) kn_Sc_init [.ref 4] (TK L 5, mj_I0 xs, R, J0) none (TK L 7, mj_I0 xs, in_Sa_R R, J0) := by
  refine mj_ci rfl (Nat.le_of_ble_eq_true rfl) ?_
  refine mj_run 2 rfl trivial ?_
  refine mj_run 2 rfl trivial ?_
  refine nw_i rfl (by decide) (by decide) (by decide) rfl ?_
  refine mj_run 1 rfl trivial ?_
  refine mj_run 2 rfl trivial ?_
  refine nw_i rfl (by decide) (by decide) (by decide) rfl ?_
  refine mj_run 1 rfl trivial ?_
  exact mj_end rfl rfl trivial
def in_Sb_R (R : mjR) : mjR := mj_ur (mj_ur R 7 0 (some 8)) 7 1 (some 9)
theorem in_Sb : mj_call mj_P (d + 1) kn_Sc_init [.ref 7] (TK L 8, mj_I0 xs, R, J0) none (TK L 10, mj_I0 xs, in_Sb_R R, J0) := by
  refine mj_ci rfl (Nat.le_of_ble_eq_true rfl) ?_
  refine mj_run 2 rfl trivial ?_
  refine mj_run 2 rfl trivial ?_
  refine nw_i rfl (by decide) (by decide) (by decide) rfl ?_
  refine mj_run 1 rfl trivial ?_
  refine mj_run 2 rfl trivial ?_
  refine nw_i rfl (by decide) (by decide) (by decide) rfl ?_
  refine mj_run 1 rfl trivial ?_
  exact mj_end rfl rfl trivial
def in_Ro_R (R : mjR) : mjR := mj_ur R 10 0 (some 11)
theorem in_Ro : mj_call mj_P (d + 1) kn_Ro_init [.ref 10] (TK L 11, mj_I0 xs, R, J0) none (TK L 12, mj_I0 xs, in_Ro_R R, J0) := by
  refine mj_ci rfl (Nat.le_of_ble_eq_true rfl) ?_
  refine mj_run 2 rfl trivial ?_
  refine mj_run 2 rfl trivial ?_
  refine nw_i rfl (by decide) (by decide) (by decide) rfl ?_
  refine mj_run 1 rfl trivial ?_
  exact mj_end rfl rfl trivial
def in_Be_R (R : mjR) : mjR := mj_ur (mj_ur (mj_ur (mj_rowR R 13 (fun j => if j < 7 then some (13 + 1 + j) else none)) 12 0 (some 13)) 12 1 (some 21)) 12 2 (some 22)
theorem in_Be : mj_call mj_P (d + 1) kn_Be_init [.ref 12] (TK L 13, mj_I0 xs, R, J0) none (TK L 23, mj_I0 xs, in_Be_R R, J0) := by
  refine mj_ci rfl (Nat.le_of_ble_eq_true rfl) ?_
  refine mj_run 2 rfl trivial ?_
  refine mj_run 3 rfl trivial ?_
  refine nw_m rfl (by decide) (by decide) (by decide) rfl ?_
  refine mj_run 1 rfl trivial ?_
  refine mj_run 2 rfl trivial ?_
  refine nw_i rfl (by decide) (by decide) (by decide) rfl ?_
  refine mj_run 1 rfl trivial ?_
  refine mj_run 2 rfl trivial ?_
  refine nw_i rfl (by decide) (by decide) (by decide) rfl ?_
  refine mj_run 1 rfl trivial ?_
  exact mj_end rfl rfl trivial
def in_Th_R (R : mjR) : mjR := mj_ur (mj_ur (mj_ur R 23 0 (some 24)) 23 1 (some 25)) 23 2 (some 26)
theorem in_Th : mj_call mj_P (d + 1) kn_Th_init [.ref 23] (TK L 24, mj_I0 xs, R, J0) none (TK L 27, mj_I0 xs, in_Th_R R, J0) := by
  refine mj_ci rfl (Nat.le_of_ble_eq_true rfl) ?_
  refine mj_run 2 rfl trivial ?_
  refine mj_run 2 rfl trivial ?_
  refine nw_b rfl (by decide) (by decide) (by decide) rfl ?_
  refine mj_run 1 rfl trivial ?_
  refine mj_run 2 rfl trivial ?_
  refine nw_i rfl (by decide) (by decide) (by decide) rfl ?_
  refine mj_run 1 rfl trivial ?_
  refine mj_run 2 rfl trivial ?_
  refine nw_i rfl (by decide) (by decide) (by decide) rfl ?_
  refine mj_run 1 rfl trivial ?_
  exact mj_end rfl rfl trivial
def in_Su_R (R : mjR) : mjR := mj_ur (mj_ur (mj_ur (mj_ur (mj_rowR R 28 (fun j => if j < 11 then some (28 + 1 + j) else none)) 27 1 (some 28)) 27 2 (some 40)) 27 3 (some 41)) 27 0 (some 10)
theorem in_Su : mj_call mj_P (d + 1) kn_Su_init [.ref 27, .ref 10] (TK L 28, mj_I0 xs, R, J0) none (TK L 42, mj_I0 xs, in_Su_R R, J0) := by
  refine mj_ci rfl (Nat.le_of_ble_eq_true rfl) ?_
  refine mj_run 2 rfl trivial ?_
  refine mj_run 3 rfl trivial ?_
  refine nw_m rfl (by decide) (by decide) (by decide) rfl ?_
  refine mj_run 1 rfl trivial ?_
  refine mj_run 2 rfl trivial ?_
  refine nw_i rfl (by decide) (by decide) (by decide) rfl ?_
  refine mj_run 1 rfl trivial ?_
  refine mj_run 2 rfl trivial ?_
  refine nw_i rfl (by decide) (by decide) (by decide) rfl ?_
  refine mj_run 1 rfl trivial ?_
  refine mj_run 3 rfl trivial ?_
  exact mj_end rfl rfl trivial
def in_M_R (R : mjR) : mjR := mj_ur (mj_ur (mj_ur (mj_ur (mj_ur (mj_ur (mj_ur (mj_ur (mj_ur (mj_ur (mj_ur (mj_ur (mj_ur (mj_ur (mj_ur (mj_ur (mj_ur (mj_ur (mj_ur R 45 0 (some 46)) 45 6 (some 47)) 45 7 (some 48)) 45 8 (some 49)) 45 11 (some 50)) 45 12 (some 51)) 45 13 (some 52)) 45 14 (some 53)) 45 16 (some 54)) 45 17 (some 55)) 45 18 (some 56)) 45 21 (some 57)) 45 23 (some 58)) 45 25 (some 59)) 45 26 (some 60)) 45 27 (some 61)) 45 28 (some 62)) 45 31 (some 63)) 45 32 (some 64)
theorem in_M : mj_call mj_P (d + 1) kn_M_init [.ref 45] (TK L 46, mj_I0 xs, R, J0) none (TK L 65, mj_ui (mj_I0 xs) 45 29 (Int32.ofInt (-1)), in_M_R R, J0) := by
  refine mj_ci rfl (Nat.le_of_ble_eq_true rfl) ?_
  refine mj_run 2 rfl trivial ?_
  refine mj_run 2 rfl trivial ?_
  refine nw_i rfl (by decide) (by decide) (by decide) rfl ?_
  refine mj_run 1 rfl trivial ?_
  refine mj_run 2 rfl trivial ?_
  refine nw_i rfl (by decide) (by decide) (by decide) rfl ?_
  refine mj_run 1 rfl trivial ?_
  refine mj_run 2 rfl trivial ?_
  refine nw_i rfl (by decide) (by decide) (by decide) rfl ?_
  refine mj_run 1 rfl trivial ?_
  refine mj_run 2 rfl trivial ?_
  refine nw_i rfl (by decide) (by decide) (by decide) rfl ?_
  refine mj_run 1 rfl trivial ?_
  refine mj_run 2 rfl trivial ?_
  refine nw_i rfl (by decide) (by decide) (by decide) rfl ?_
  refine mj_run 1 rfl trivial ?_
  refine mj_run 2 rfl trivial ?_
  refine nw_i rfl (by decide) (by decide) (by decide) rfl ?_
  refine mj_run 1 rfl trivial ?_
  refine mj_run 2 rfl trivial ?_
  refine nw_i rfl (by decide) (by decide) (by decide) rfl ?_
  refine mj_run 1 rfl trivial ?_
  refine mj_run 2 rfl trivial ?_
  refine nw_i rfl (by decide) (by decide) (by decide) rfl ?_
  refine mj_run 1 rfl trivial ?_
  refine mj_run 2 rfl trivial ?_
  refine nw_i rfl (by decide) (by decide) (by decide) rfl ?_
  refine mj_run 1 rfl trivial ?_
  refine mj_run 2 rfl trivial ?_
  refine nw_i rfl (by decide) (by decide) (by decide) rfl ?_
  refine mj_run 1 rfl trivial ?_
  refine mj_run 2 rfl trivial ?_
  refine nw_i rfl (by decide) (by decide) (by decide) rfl ?_
  refine mj_run 1 rfl trivial ?_
  refine mj_run 2 rfl trivial ?_
  refine nw_i rfl (by decide) (by decide) (by decide) rfl ?_
  refine mj_run 1 rfl trivial ?_
  refine mj_run 2 rfl trivial ?_
  refine nw_i rfl (by decide) (by decide) (by decide) rfl ?_
  refine mj_run 1 rfl trivial ?_
  refine mj_run 2 rfl trivial ?_
  refine nw_i rfl (by decide) (by decide) (by decide) rfl ?_
  refine mj_run 1 rfl trivial ?_
  refine mj_run 2 rfl trivial ?_
  refine nw_i rfl (by decide) (by decide) (by decide) rfl ?_
  refine mj_run 1 rfl trivial ?_
  refine mj_run 2 rfl trivial ?_
  refine nw_i rfl (by decide) (by decide) (by decide) rfl ?_
  refine mj_run 1 rfl trivial ?_
  refine mj_run 2 rfl trivial ?_
  refine nw_i rfl (by decide) (by decide) (by decide) rfl ?_
  refine mj_run 1 rfl trivial ?_
  refine mj_run 2 rfl trivial ?_
  refine nw_i rfl (by decide) (by decide) (by decide) rfl ?_
  refine mj_run 1 rfl trivial ?_
  refine mj_run 2 rfl trivial ?_
  refine nw_i rfl (by decide) (by decide) (by decide) rfl ?_
  refine mj_run 1 rfl trivial ?_
  refine mj_run 3 rfl trivial ?_
  exact mj_end rfl rfl trivial
def in_T_R (R : mjR) : mjR := mj_ur (mj_ur (mj_ur (mj_ur (in_Su_R (mj_rowR (mj_ur (in_Th_R (mj_rowR (mj_ur (in_Be_R (mj_rowR (mj_ur (in_Ro_R (mj_rowR (mj_ur (in_Sb_R (mj_rowR (mj_ur (in_Sa_R (mj_rowR (mj_ur (in_Pg_R (mj_rowR R 2 (fun _ => none))) 1 0 (some 2)) 4 (fun _ => none))) 1 1 (some 4)) 7 (fun _ => none))) 1 2 (some 7)) 10 (fun _ => none))) 1 3 (some 10)) 12 (fun _ => none))) 1 4 (some 12)) 23 (fun _ => none))) 1 5 (some 23)) 27 (fun _ => none))) 1 6 (some 27)) 1 7 (some 42)) 1 8 (some 43)) 1 9 (some 44)
theorem in_T : mj_call mj_P (d + 2) kn_T_init [.ref 1] (TK L 2, mj_I0 xs, R, J0) none (TK L 45, mj_I0 xs, in_T_R R, J0) := by
  refine mj_ci rfl (Nat.le_of_ble_eq_true rfl) ?_
  refine mj_run 2 rfl trivial ?_
  refine mj_run 1 rfl trivial ?_
  refine nw_o rfl (by decide) (by decide) rfl ?_
  refine mj_run 1 rfl trivial ?_
  refine mj_cal rfl rfl in_Pg ?_
  refine mj_run 1 rfl trivial ?_
  refine mj_run 1 rfl trivial ?_
  refine nw_o rfl (by decide) (by decide) rfl ?_
  refine mj_run 1 rfl trivial ?_
  refine mj_cal rfl rfl in_Sa ?_
  refine mj_run 1 rfl trivial ?_
  refine mj_run 1 rfl trivial ?_
  refine nw_o rfl (by decide) (by decide) rfl ?_
  refine mj_run 1 rfl trivial ?_
  refine mj_cal rfl rfl in_Sb ?_
  refine mj_run 1 rfl trivial ?_
  refine mj_run 1 rfl trivial ?_
  refine nw_o rfl (by decide) (by decide) rfl ?_
  refine mj_run 1 rfl trivial ?_
  refine mj_cal rfl rfl in_Ro ?_
  refine mj_run 1 rfl trivial ?_
  refine mj_run 1 rfl trivial ?_
  refine nw_o rfl (by decide) (by decide) rfl ?_
  refine mj_run 1 rfl trivial ?_
  refine mj_cal rfl rfl in_Be ?_
  refine mj_run 1 rfl trivial ?_
  refine mj_run 1 rfl trivial ?_
  refine nw_o rfl (by decide) (by decide) rfl ?_
  refine mj_run 1 rfl trivial ?_
  refine mj_cal rfl rfl in_Th ?_
  refine mj_run 1 rfl trivial ?_
  refine mj_run 1 rfl trivial ?_
  refine nw_o rfl (by decide) (by decide) rfl ?_
  refine mj_run 2 rfl trivial ?_
  refine sx_gr rfl rfl rfl rfl ?_
  refine mj_cal rfl rfl in_Su ?_
  refine mj_run 1 rfl trivial ?_
  refine mj_run 2 rfl trivial ?_
  refine nw_i rfl (by decide) (by decide) (by decide) rfl ?_
  refine mj_run 1 rfl trivial ?_
  refine mj_run 2 rfl trivial ?_
  refine nw_i rfl (by decide) (by decide) (by decide) rfl ?_
  refine mj_run 1 rfl trivial ?_
  refine mj_run 2 rfl trivial ?_
  refine nw_i rfl (by decide) (by decide) (by decide) rfl ?_
  refine mj_run 1 rfl trivial ?_
  exact mj_end rfl rfl trivial
end IN
def R9 : mjR := in_M_R (mj_rowR (in_T_R (mj_rowR (fun _ _ => none) 1 (fun _ => none))) 45 (fun _ => none))
def I9 (xs : Nat → Int32) : mjI := mj_ui (mj_I0 xs) 45 29 (Int32.ofInt (-1))
abbrev F9 (R : mjR) : mjR := FR none none none none (some 24) none R

theorem R9_0 : R9 0 = F9 (fun _ _ => none) 0 := by
  funext k
  cases k <;> rfl
theorem R9_1 : R9 1 = F9 (fun _ _ => none) 1 := by
  funext k
  match k with
  | 0 => rfl
  | 1 => rfl
  | 2 => rfl
  | 3 => rfl
  | 4 => rfl
  | 5 => rfl
  | 6 => rfl
  | 7 => rfl
  | 8 => rfl
  | 9 => rfl
  | 10 => rfl
  | k + 11 => cases k <;> rfl
theorem R9_2 : R9 2 = F9 (fun _ _ => none) 2 := by
  funext k
  match k with
  | 0 => rfl
  | k + 1 => cases k <;> rfl
theorem R9_3 : R9 3 = F9 (fun _ _ => none) 3 := by
  funext k
  cases k <;> rfl
theorem R9_4 : R9 4 = F9 (fun _ _ => none) 4 := by
  funext k
  match k with
  | 0 => rfl
  | 1 => rfl
  | k + 2 => cases k <;> rfl
theorem R9_5 : R9 5 = F9 (fun _ _ => none) 5 := by
  funext k
  cases k <;> rfl
theorem R9_6 : R9 6 = F9 (fun _ _ => none) 6 := by
  funext k
  cases k <;> rfl
theorem R9_7 : R9 7 = F9 (fun _ _ => none) 7 := by
  funext k
  match k with
  | 0 => rfl
  | 1 => rfl
  | k + 2 => cases k <;> rfl
theorem R9_8 : R9 8 = F9 (fun _ _ => none) 8 := by
  funext k
  cases k <;> rfl
theorem R9_9 : R9 9 = F9 (fun _ _ => none) 9 := by
  funext k
  cases k <;> rfl
theorem R9_10 : R9 10 = F9 (fun _ _ => none) 10 := by
  funext k
  match k with
  | 0 => rfl
  | k + 1 => cases k <;> rfl
theorem R9_11 : R9 11 = F9 (fun _ _ => none) 11 := by
  funext k
  cases k <;> rfl
theorem R9_12 : R9 12 = F9 (fun _ _ => none) 12 := by
  funext k
  match k with
  | 0 => rfl
  | 1 => rfl
  | 2 => rfl
  | 3 => rfl
  | 4 => rfl
  | 5 => rfl
  | 6 => rfl
  | k + 7 => cases k <;> rfl
theorem R9_13 : R9 13 = F9 (fun _ _ => none) 13 := by
  funext k
  match k with
  | 0 => rfl
  | 1 => rfl
  | 2 => rfl
  | 3 => rfl
  | 4 => rfl
  | 5 => rfl
  | 6 => rfl
  | 7 => rfl
  | 8 => rfl
  | 9 => rfl
  | 10 => rfl
  | 11 => rfl
  | k + 12 => cases k <;> rfl
theorem R9_14 : R9 14 = F9 (fun _ _ => none) 14 := by
  funext k
  cases k <;> rfl
theorem R9_15 : R9 15 = F9 (fun _ _ => none) 15 := by
  funext k
  cases k <;> rfl
theorem R9_16 : R9 16 = F9 (fun _ _ => none) 16 := by
  funext k
  cases k <;> rfl
theorem R9_17 : R9 17 = F9 (fun _ _ => none) 17 := by
  funext k
  cases k <;> rfl
theorem R9_18 : R9 18 = F9 (fun _ _ => none) 18 := by
  funext k
  cases k <;> rfl
theorem R9_19 : R9 19 = F9 (fun _ _ => none) 19 := by
  funext k
  cases k <;> rfl
theorem R9_20 : R9 20 = F9 (fun _ _ => none) 20 := by
  funext k
  cases k <;> rfl
theorem R9_21 : R9 21 = F9 (fun _ _ => none) 21 := by
  funext k
  cases k <;> rfl
theorem R9_22 : R9 22 = F9 (fun _ _ => none) 22 := by
  funext k
  cases k <;> rfl
theorem R9_23 : R9 23 = F9 (fun _ _ => none) 23 := by
  funext k
  match k with
  | 0 => rfl
  | 1 => rfl
  | 2 => rfl
  | 3 => rfl
  | k + 4 => cases k <;> rfl
theorem R9_24 : R9 24 = F9 (fun _ _ => none) 24 := by
  funext k
  cases k <;> rfl
theorem R9_25 : R9 25 = F9 (fun _ _ => none) 25 := by
  funext k
  cases k <;> rfl
theorem R9_26 : R9 26 = F9 (fun _ _ => none) 26 := by
  funext k
  cases k <;> rfl
theorem R9_27 : R9 27 = F9 (fun _ _ => none) 27 := by
  funext k
  match k with
  | 0 => rfl
  | 1 => rfl
  | 2 => rfl
  | 3 => rfl
  | k + 4 => cases k <;> rfl
theorem R9_28 : R9 28 = F9 (fun _ _ => none) 28 := by
  funext k
  match k with
  | 0 => rfl
  | 1 => rfl
  | 2 => rfl
  | 3 => rfl
  | 4 => rfl
  | 5 => rfl
  | 6 => rfl
  | 7 => rfl
  | 8 => rfl
  | 9 => rfl
  | 10 => rfl
  | 11 => rfl
  | k + 12 => cases k <;> rfl
theorem R9_29 : R9 29 = F9 (fun _ _ => none) 29 := by
  funext k
  cases k <;> rfl
theorem R9_30 : R9 30 = F9 (fun _ _ => none) 30 := by
  funext k
  cases k <;> rfl
theorem R9_31 : R9 31 = F9 (fun _ _ => none) 31 := by
  funext k
  cases k <;> rfl
theorem R9_32 : R9 32 = F9 (fun _ _ => none) 32 := by
  funext k
  cases k <;> rfl
theorem R9_33 : R9 33 = F9 (fun _ _ => none) 33 := by
  funext k
  cases k <;> rfl
theorem R9_34 : R9 34 = F9 (fun _ _ => none) 34 := by
  funext k
  cases k <;> rfl
theorem R9_35 : R9 35 = F9 (fun _ _ => none) 35 := by
  funext k
  cases k <;> rfl
theorem R9_36 : R9 36 = F9 (fun _ _ => none) 36 := by
  funext k
  cases k <;> rfl
theorem R9_37 : R9 37 = F9 (fun _ _ => none) 37 := by
  funext k
  cases k <;> rfl
theorem R9_38 : R9 38 = F9 (fun _ _ => none) 38 := by
  funext k
  cases k <;> rfl
theorem R9_39 : R9 39 = F9 (fun _ _ => none) 39 := by
  funext k
  cases k <;> rfl
theorem R9_40 : R9 40 = F9 (fun _ _ => none) 40 := by
  funext k
  cases k <;> rfl
theorem R9_41 : R9 41 = F9 (fun _ _ => none) 41 := by
  funext k
  cases k <;> rfl
theorem R9_42 : R9 42 = F9 (fun _ _ => none) 42 := by
  funext k
  cases k <;> rfl
theorem R9_43 : R9 43 = F9 (fun _ _ => none) 43 := by
  funext k
  cases k <;> rfl
theorem R9_44 : R9 44 = F9 (fun _ _ => none) 44 := by
  funext k
  cases k <;> rfl
theorem R9_45 : R9 45 = F9 (fun _ _ => none) 45 := by
  funext k
  match k with
  | 0 => rfl
  | 1 => rfl
  | 2 => rfl
  | 3 => rfl
  | 4 => rfl
  | 5 => rfl
  | 6 => rfl
  | 7 => rfl
  | 8 => rfl
  | 9 => rfl
  | 10 => rfl
  | 11 => rfl
  | 12 => rfl
  | 13 => rfl
  | 14 => rfl
  | 15 => rfl
  | 16 => rfl
  | 17 => rfl
  | 18 => rfl
  | 19 => rfl
  | 20 => rfl
  | 21 => rfl
  | 22 => rfl
  | 23 => rfl
  | 24 => rfl
  | 25 => rfl
  | 26 => rfl
  | 27 => rfl
  | 28 => rfl
  | 29 => rfl
  | 30 => rfl
  | 31 => rfl
  | 32 => rfl
  | k + 33 => cases k <;> rfl
theorem R9_46 : R9 46 = F9 (fun _ _ => none) 46 := by
  funext k
  cases k <;> rfl
theorem R9_47 : R9 47 = F9 (fun _ _ => none) 47 := by
  funext k
  cases k <;> rfl
theorem R9_48 : R9 48 = F9 (fun _ _ => none) 48 := by
  funext k
  cases k <;> rfl
theorem R9_49 : R9 49 = F9 (fun _ _ => none) 49 := by
  funext k
  cases k <;> rfl
theorem R9_50 : R9 50 = F9 (fun _ _ => none) 50 := by
  funext k
  cases k <;> rfl
theorem R9_51 : R9 51 = F9 (fun _ _ => none) 51 := by
  funext k
  cases k <;> rfl
theorem R9_52 : R9 52 = F9 (fun _ _ => none) 52 := by
  funext k
  cases k <;> rfl
theorem R9_53 : R9 53 = F9 (fun _ _ => none) 53 := by
  funext k
  cases k <;> rfl
theorem R9_54 : R9 54 = F9 (fun _ _ => none) 54 := by
  funext k
  cases k <;> rfl
theorem R9_55 : R9 55 = F9 (fun _ _ => none) 55 := by
  funext k
  cases k <;> rfl
theorem R9_56 : R9 56 = F9 (fun _ _ => none) 56 := by
  funext k
  cases k <;> rfl
theorem R9_57 : R9 57 = F9 (fun _ _ => none) 57 := by
  funext k
  cases k <;> rfl
theorem R9_58 : R9 58 = F9 (fun _ _ => none) 58 := by
  funext k
  cases k <;> rfl
theorem R9_59 : R9 59 = F9 (fun _ _ => none) 59 := by
  funext k
  cases k <;> rfl
theorem R9_60 : R9 60 = F9 (fun _ _ => none) 60 := by
  funext k
  cases k <;> rfl
theorem R9_61 : R9 61 = F9 (fun _ _ => none) 61 := by
  funext k
  cases k <;> rfl
theorem R9_62 : R9 62 = F9 (fun _ _ => none) 62 := by
  funext k
  cases k <;> rfl
theorem R9_63 : R9 63 = F9 (fun _ _ => none) 63 := by
  funext k
  cases k <;> rfl
theorem R9_64 : R9 64 = F9 (fun _ _ => none) 64 := by
  funext k
  cases k <;> rfl
theorem R9_self : R9 = F9 R9 := FR_self (R := fun _ _ => none) (fun a ha => by
  match a, ha with
  | 0, _ => exact R9_0
  | 1, _ => exact R9_1
  | 2, _ => exact R9_2
  | 3, _ => exact R9_3
  | 4, _ => exact R9_4
  | 5, _ => exact R9_5
  | 6, _ => exact R9_6
  | 7, _ => exact R9_7
  | 8, _ => exact R9_8
  | 9, _ => exact R9_9
  | 10, _ => exact R9_10
  | 11, _ => exact R9_11
  | 12, _ => exact R9_12
  | 13, _ => exact R9_13
  | 14, _ => exact R9_14
  | 15, _ => exact R9_15
  | 16, _ => exact R9_16
  | 17, _ => exact R9_17
  | 18, _ => exact R9_18
  | 19, _ => exact R9_19
  | 20, _ => exact R9_20
  | 21, _ => exact R9_21
  | 22, _ => exact R9_22
  | 23, _ => exact R9_23
  | 24, _ => exact R9_24
  | 25, _ => exact R9_25
  | 26, _ => exact R9_26
  | 27, _ => exact R9_27
  | 28, _ => exact R9_28
  | 29, _ => exact R9_29
  | 30, _ => exact R9_30
  | 31, _ => exact R9_31
  | 32, _ => exact R9_32
  | 33, _ => exact R9_33
  | 34, _ => exact R9_34
  | 35, _ => exact R9_35
  | 36, _ => exact R9_36
  | 37, _ => exact R9_37
  | 38, _ => exact R9_38
  | 39, _ => exact R9_39
  | 40, _ => exact R9_40
  | 41, _ => exact R9_41
  | 42, _ => exact R9_42
  | 43, _ => exact R9_43
  | 44, _ => exact R9_44
  | 45, _ => exact R9_45
  | 46, _ => exact R9_46
  | 47, _ => exact R9_47
  | 48, _ => exact R9_48
  | 49, _ => exact R9_49
  | 50, _ => exact R9_50
  | 51, _ => exact R9_51
  | 52, _ => exact R9_52
  | 53, _ => exact R9_53
  | 54, _ => exact R9_54
  | 55, _ => exact R9_55
  | 56, _ => exact R9_56
  | 57, _ => exact R9_57
  | 58, _ => exact R9_58
  | 59, _ => exact R9_59
  | 60, _ => exact R9_60
  | 61, _ => exact R9_61
  | 62, _ => exact R9_62
  | 63, _ => exact R9_63
  | 64, _ => exact R9_64
  | a + 65, h => exact absurd h (by omega))
theorem law_open {L : Nat} {xs : Nat → Int32} {v : Option Value} {h : mjH} (kk : mj_Rd (mj_call mj_P 30) kc_L_law 2 (18, [some (.ref 0), some (.ref 1), some (.ref 45), some (.int (nI 0))], [], HP L [] (I9 xs) none none none none (some 24) none R9 J0) v h) : mj_Rd (mj_call mj_P 30) kc_L_law 2 (0, mj_pad 4 (mj_ent [.ref 0]), [], mj_s0 L xs) v h := by
  replace kk : mj_Rd (mj_call mj_P 30) kc_L_law 2 (18, [some (.ref 0), some (.ref 1), some (.ref 45), some (.int (nI 0))], [], FM L [], I9 xs, F9 R9, J0) v h := kk
  rw [← R9_self] at kk
  show mj_Rd (mj_call mj_P 30) kc_L_law 2 (0, [some (.ref 0), none, none, none], [], TK L 1, mj_I0 xs, fun _ _ => none, J0) v h
  refine nw_o rfl (by decide) (by decide) rfl ?_
  refine mj_run 1 rfl trivial ?_
  refine mj_cal rfl rfl (in_T (d := 28)) ?_
  refine mj_run 1 rfl trivial ?_
  refine nw_o rfl (by decide) (by decide) rfl ?_
  refine mj_run 1 rfl trivial ?_
  refine mj_cal rfl rfl (in_M (d := 29)) ?_
  refine mj_run 3 rfl trivial ?_
  exact kk
theorem I9_0 {xs : Nat → Int32} : I9 xs 0 = xs := rfl
theorem I9_z {xs : Nat → Int32} {a k : Nat} (h0 : 0 < a) (h : a ≠ 45 ∨ k ≠ 29) : I9 xs a k = nI 0 := by
  unfold I9 mj_ui
  by_cases g : a = 45
  · rw [if_pos g]
    unfold upd
    rw [if_neg (by omega)]
    unfold mj_I0
    rw [if_neg (by decide)]
    rfl
  · rw [if_neg g]
    unfold mj_I0
    rw [if_neg (by omega)]
    rfl
abbrev Y0 : Yd := (fun _ => 0, fun _ => 0, fun _ _ => 0)
abbrev z0 : Nat → Nat := fun _ => 0
theorem MI9 (xs : Nat → Int32) : MI (I9 xs) 0 z0 0 Y0 z0 0 z0 none 0 z0 0 0 := by
  have z := @I9_z xs
  refine ⟨⟨z (by decide) (by decide), by omega, fun i hi => by omega⟩, ⟨z (by decide) (by decide), ⟨by omega, fun p hp => by omega⟩, fun p hp => by omega⟩, ⟨fun i hi => by omega, fun p hp => by omega⟩, ⟨z (by decide) (by decide), by omega, fun i hi => by omega⟩, Or.inl rfl, ⟨z (by decide) (by decide), by omega, fun i hi => by omega⟩, ⟨z (by decide) (by decide), by omega, z (by decide) (by decide), by omega⟩⟩
theorem CI9 (xs : Nat → Int32) {m : mjM} {R : mjR} : CI m (I9 xs) R none 0 z0 0 Y0 z0 0 z0 none 0 z0 0 0 := by
  have z := @I9_z xs
  refine ⟨⟨z (by decide) (by decide), fun i hi => by omega⟩, Or.inl ⟨rfl, rfl⟩, fun i hi => by omega, ⟨z (by decide) (by decide), fun i hi => by omega⟩, z (by decide) (by decide), ⟨z (by decide) (by decide), fun i hi => by omega⟩, ⟨z (by decide) (by decide), z (by decide) (by decide)⟩⟩
