/-! ===== THE CLASS: rules for cells whose numbers aren't known ===== -/
section SX
variable {K : mjK} {cd : List (Option mjE)} {rt : Nat} {v : Option Value} {h : mjH} {pc ix n a k t q : Nat} {cs : List Nat} {ls : List (Option Value)} {st : List Value} {m : mjM} {I : mjI} {R : mjR} {J : mjJ}
theorem sx_gi (he : mj_at pc cd = some (.getfield ix, n, k :: 0 :: cs)) (hm : mj_mt a m = some (t, q)) (ha : mj_any t cs = true) (kk : mj_Rd K cd rt (n, ls, .int (I a k) :: st, m, I, R, J) v h) : mj_Rd K cd rt (pc, ls, .ref a :: st, m, I, R, J) v h :=
  mj_one (o := none) (e := (.getfield ix, n, k :: 0 :: cs)) he (by simp only [mj_step, mj_gf, hm, ha]) trivial kk
theorem sx_gz (he : mj_at pc cd = some (.getfield ix, n, k :: 1 :: cs)) (hm : mj_mt a m = some (t, q)) (ha : mj_any t cs = true) (kk : mj_Rd K cd rt (n, ls, .int (I a k) :: st, m, I, R, J) v h) : mj_Rd K cd rt (pc, ls, .ref a :: st, m, I, R, J) v h :=
  mj_one (o := none) (e := (.getfield ix, n, k :: 1 :: cs)) he (by simp only [mj_step, mj_gf, hm, ha]) trivial kk
theorem sx_gr {b : Nat} (he : mj_at pc cd = some (.getfield ix, n, k :: 2 :: cs)) (hm : mj_mt a m = some (t, q)) (ha : mj_any t cs = true) (hr : R a k = some b) (kk : mj_Rd K cd rt (n, ls, .ref b :: st, m, I, R, J) v h) : mj_Rd K cd rt (pc, ls, .ref a :: st, m, I, R, J) v h :=
  mj_one (o := none) (e := (.getfield ix, n, k :: 2 :: cs)) he (by simp only [mj_step, mj_gf, hm, ha, hr]) trivial kk
theorem sx_pi {x : Int32} (he : mj_at pc cd = some (.putfield ix, n, k :: 0 :: cs)) (hm : mj_mt a m = some (t, q)) (ha : mj_any t cs = true) (kk : mj_Rd K cd rt (n, ls, st, m, mj_ui I a k x, R, J) v h) : mj_Rd K cd rt (pc, ls, .int x :: .ref a :: st, m, I, R, J) v h :=
  mj_one (o := none) (e := (.putfield ix, n, k :: 0 :: cs)) he (by simp only [mj_step, mj_pf, hm, ha]) trivial kk
theorem sx_pz {x : Int32} (he : mj_at pc cd = some (.putfield ix, n, k :: 1 :: cs)) (hm : mj_mt a m = some (t, q)) (ha : mj_any t cs = true) (hx : x = 0 ∨ x = 1) (kk : mj_Rd K cd rt (n, ls, st, m, mj_ui I a k x, R, J) v h) : mj_Rd K cd rt (pc, ls, .int x :: .ref a :: st, m, I, R, J) v h :=
  mj_one (o := some (x = 0 ∨ x = 1)) (e := (.putfield ix, n, k :: 1 :: cs)) he (by simp only [mj_step, mj_pf, hm, ha]) hx kk
theorem sx_pr {b : Nat} (he : mj_at pc cd = some (.putfield ix, n, k :: 2 :: cs)) (hm : mj_mt a m = some (t, q)) (ha : mj_any t cs = true) (kk : mj_Rd K cd rt (n, ls, st, m, I, mj_ur R a k (some b), J) v h) : mj_Rd K cd rt (pc, ls, .ref b :: .ref a :: st, m, I, R, J) v h :=
  mj_one (o := none) (e := (.putfield ix, n, k :: 2 :: cs)) he (by simp only [mj_step, mj_pf, hm, ha]) trivial kk
theorem sx_ld {i : Int32} {d : List Nat} (he : mj_at pc cd = some (.iaload, n, d)) (hm : mj_mt a m = some (0, q)) (hi : vp_in i q) (kk : mj_Rd K cd rt (n, ls, .int (I a i.toNatClampNeg) :: st, m, I, R, J) v h) : mj_Rd K cd rt (pc, ls, .int i :: .ref a :: st, m, I, R, J) v h :=
  mj_one (o := some (vp_in i q)) (e := (.iaload, n, d)) he (by simp only [mj_step, mj_xld, hm]) hi kk
theorem sx_st {i x : Int32} {d : List Nat} (he : mj_at pc cd = some (.iastore, n, d)) (hm : mj_mt a m = some (0, q)) (hi : vp_in i q) (h0 : 0 < a) (kk : mj_Rd K cd rt (n, ls, st, m, mj_ui I a i.toNatClampNeg x, R, J) v h) : mj_Rd K cd rt (pc, ls, .int x :: .int i :: .ref a :: st, m, I, R, J) v h :=
  mj_one (o := some (vp_in i q ∧ 0 < a)) (e := (.iastore, n, d)) he (by simp only [mj_step, mj_xst, hm]) (show vp_in i q ∧ 0 < a from ⟨hi, h0⟩) kk
theorem sx_bld {i : Int32} {d : List Nat} (he : mj_at pc cd = some (.baload, n, d)) (hm : mj_mt a m = some (1, q)) (hi : vp_in i q) (kk : mj_Rd K cd rt (n, ls, .int (I a i.toNatClampNeg) :: st, m, I, R, J) v h) : mj_Rd K cd rt (pc, ls, .int i :: .ref a :: st, m, I, R, J) v h :=
  mj_one (o := some (vp_in i q)) (e := (.baload, n, d)) he (by simp only [mj_step, mj_xld, hm]) hi kk
theorem sx_bst {i x : Int32} {d : List Nat} (he : mj_at pc cd = some (.bastore, n, d)) (hm : mj_mt a m = some (1, q)) (hi : vp_in i q) (h0 : 0 < a) (kk : mj_Rd K cd rt (n, ls, st, m, mj_ui I a i.toNatClampNeg x.toInt8.toInt32, R, J) v h) : mj_Rd K cd rt (pc, ls, .int x :: .int i :: .ref a :: st, m, I, R, J) v h :=
  mj_one (o := some (vp_in i q ∧ 0 < a)) (e := (.bastore, n, d)) he (by simp only [mj_step, mj_xst, hm]) (show vp_in i q ∧ 0 < a from ⟨hi, h0⟩) kk
theorem sx_ln {d : List Nat} (he : mj_at pc cd = some (.arraylength, n, d)) (hm : mj_mt a m = some (t, q)) (ht : Nat.ble t 3 = true) (kk : mj_Rd K cd rt (n, ls, .int (nI q) :: st, m, I, R, J) v h) : mj_Rd K cd rt (pc, ls, .ref a :: st, m, I, R, J) v h :=
  mj_one (o := none) (e := (.arraylength, n, d)) he (by simp only [mj_step, mj_aln, hm, ht]) trivial kk
theorem sx_al {i : Int32} {b : Nat} {d : List Nat} (he : mj_at pc cd = some (.aaload, n, d)) (hm : mj_mt a m = some (t, q)) (ht : (Nat.beq t 2 || Nat.beq t 3) = true) (hi : vp_in i q) (hr : R a i.toNatClampNeg = some b) (kk : mj_Rd K cd rt (n, ls, .ref b :: st, m, I, R, J) v h) : mj_Rd K cd rt (pc, ls, .int i :: .ref a :: st, m, I, R, J) v h :=
  mj_one (o := some (vp_in i q)) (e := (.aaload, n, d)) he (by simp only [mj_step, mj_aald, hm, ht, hr]) hi kk
theorem sx_as {i : Int32} {b tv qv : Nat} {d : List Nat} (he : mj_at pc cd = some (.aastore, n, d)) (hm : mj_mt a m = some (3, q)) (hb : mj_mt b m = some (tv, qv)) (ht : mj_any tv d = true) (hi : vp_in i q) (kk : mj_Rd K cd rt (n, ls, st, m, I, mj_ur R a i.toNatClampNeg (some b), J) v h) : mj_Rd K cd rt (pc, ls, .ref b :: .int i :: .ref a :: st, m, I, R, J) v h :=
  mj_one (o := some (vp_in i q)) (e := (.aastore, n, d)) he (by simp only [mj_step, mj_aast, hm, hb, ht]; rfl) hi kk
theorem sx_cp {b q0 : Nat} {x sp dp : Int32} (he : mj_at pc cd = some (.invokestatic ix, n, [6])) (hm : mj_mt a m = some (0, q)) (hb : mj_mt b m = some (0, q0)) (hs : Nat.ble (mj_sum st) 8 = true) (hi : ¬ sp < 0 ∧ ¬ dp < 0 ∧ ¬ x < 0 ∧ sp.toNatClampNeg + x.toNatClampNeg ≤ q0 ∧ dp.toNatClampNeg + x.toNatClampNeg ≤ q ∧ 0 < a ∧ 0 < b) (kk : mj_Rd K cd rt (n, ls, st, m, mj_row I a (va_cpy (I b) (I a) sp.toNatClampNeg dp.toNatClampNeg x.toNatClampNeg), R, J) v h) : mj_Rd K cd rt (pc, ls, .int x :: .int dp :: .ref a :: .int sp :: .ref b :: st, m, I, R, J) v h :=
  mj_one (o := some (¬ sp < 0 ∧ ¬ dp < 0 ∧ ¬ x < 0 ∧ sp.toNatClampNeg + x.toNatClampNeg ≤ q0 ∧ dp.toNatClampNeg + x.toNatClampNeg ≤ q ∧ 0 < a ∧ 0 < b)) (e := (.invokestatic ix, n, [6])) he (by simp only [mj_step, mj_copy, hm, hb, hs]) hi kk
theorem sx_v0 {f : Nat} {ts : List Nat} {u : Option Value} {h1 : mjH} (he : mj_at pc cd = some (.invokevirtual ix, n, 1 :: 0 :: ts)) (hm : mj_mt a m = some (t, q)) (hs : mj_sel t ts = some f) (hb : Nat.ble (mj_sum st) 8 = true) (hk : K f [.ref a] (m, I, R, J) u h1) (kk : mj_Rd K cd rt (n, ls, mj_psh u st, h1) v h) : mj_Rd K cd rt (pc, ls, .ref a :: st, m, I, R, J) v h :=
  mj_cal (ins := .invokevirtual ix) (d := 1 :: 0 :: ts) he (by simp only [mj_inv, mj_pop, hm, hs, hb]) hk kk
theorem sx_v1 {f : Nat} {ts : List Nat} {u : Option Value} {h1 : mjH} {z1 : Value} (he : mj_at pc cd = some (.invokevirtual ix, n, 1 :: 1 :: ts)) (hm : mj_mt a m = some (t, q)) (hs : mj_sel t ts = some f) (hb : Nat.ble (mj_sum st) 8 = true) (hk : K f [.ref a, z1] (m, I, R, J) u h1) (kk : mj_Rd K cd rt (n, ls, mj_psh u st, h1) v h) : mj_Rd K cd rt (pc, ls, z1 :: .ref a :: st, m, I, R, J) v h :=
  mj_cal (ins := .invokevirtual ix) (d := 1 :: 1 :: ts) he (by simp only [mj_inv, mj_pop, hm, hs, hb]) hk kk
theorem sx_v2 {f : Nat} {ts : List Nat} {u : Option Value} {h1 : mjH} {z1 z2 : Value} (he : mj_at pc cd = some (.invokevirtual ix, n, 1 :: 2 :: ts)) (hm : mj_mt a m = some (t, q)) (hs : mj_sel t ts = some f) (hb : Nat.ble (mj_sum st) 8 = true) (hk : K f [.ref a, z1, z2] (m, I, R, J) u h1) (kk : mj_Rd K cd rt (n, ls, mj_psh u st, h1) v h) : mj_Rd K cd rt (pc, ls, z2 :: z1 :: .ref a :: st, m, I, R, J) v h :=
  mj_cal (ins := .invokevirtual ix) (d := 1 :: 2 :: ts) he (by simp only [mj_inv, mj_pop, hm, hs, hb]) hk kk
theorem sx_v3 {f : Nat} {ts : List Nat} {u : Option Value} {h1 : mjH} {z1 z2 z3 : Value} (he : mj_at pc cd = some (.invokevirtual ix, n, 1 :: 3 :: ts)) (hm : mj_mt a m = some (t, q)) (hs : mj_sel t ts = some f) (hb : Nat.ble (mj_sum st) 8 = true) (hk : K f [.ref a, z1, z2, z3] (m, I, R, J) u h1) (kk : mj_Rd K cd rt (n, ls, mj_psh u st, h1) v h) : mj_Rd K cd rt (pc, ls, z3 :: z2 :: z1 :: .ref a :: st, m, I, R, J) v h :=
  mj_cal (ins := .invokevirtual ix) (d := 1 :: 3 :: ts) he (by simp only [mj_inv, mj_pop, hm, hs, hb]) hk kk
end SX
/-! numbers that may be below 0 -/
theorem c_max (d : Nat) (h : mjH) {a b : Nat} (ha : a < 2147483648) (hb : b < 2147483648) : mj_call mj_P (d + 1) kn_Ma_max [.int (nI a), .int (nI b)] h (some (.int (nI (max a b)))) h := by
  refine mj_ci rfl (Nat.le_of_ble_eq_true rfl) ?_
  refine mj_run 2 rfl trivial ?_
  refine mj_bra rfl rfl (fun g => ?_) (fun g => ?_)
  · rw [nI_ltI ha hb] at g
    rw [show max a b = b by omega]
    refine mj_run 1 rfl trivial ?_
    exact mj_end rfl rfl trivial
  · rw [nI_ltI ha hb] at g
    rw [show max a b = a by omega]
    refine mj_run 2 rfl trivial ?_
    exact mj_end rfl rfl trivial
theorem c_min (d : Nat) (h : mjH) {a b : Nat} (ha : a < 2147483648) (hb : b < 2147483648) : mj_call mj_P (d + 1) kn_Ma_min [.int (nI a), .int (nI b)] h (some (.int (nI (min a b)))) h := by
  refine mj_ci rfl (Nat.le_of_ble_eq_true rfl) ?_
  refine mj_run 2 rfl trivial ?_
  refine mj_bra rfl rfl (fun g => ?_) (fun g => ?_)
  · rw [nI_ltI hb ha] at g
    rw [show min a b = b by omega]
    refine mj_run 1 rfl trivial ?_
    exact mj_end rfl rfl trivial
  · rw [nI_ltI hb ha] at g
    rw [show min a b = a by omega]
    refine mj_run 2 rfl trivial ?_
    exact mj_end rfl rfl trivial
theorem bc_tab : ∀ k, k < 1024 → (let x := nI k; let x := x - ((x.toUInt32 >>> ((nI 1).toUInt32 &&& Int32.toUInt32 31)).toInt32 &&& nI 1431655765); let x := (x &&& nI 858993459) + ((x.toUInt32 >>> ((nI 2).toUInt32 &&& Int32.toUInt32 31)).toInt32 &&& nI 858993459); let x := (x + (x.toUInt32 >>> ((nI 4).toUInt32 &&& Int32.toUInt32 31)).toInt32) &&& nI 252645135; let x := x + (x.toUInt32 >>> ((nI 8).toUInt32 &&& Int32.toUInt32 31)).toInt32; let x := x + (x.toUInt32 >>> ((nI 16).toUInt32 &&& Int32.toUInt32 31)).toInt32; x &&& nI 63) = nI (ct k 10) := by decide +kernel
theorem c_bitCount (d : Nat) (h : mjH) {k : Nat} (hk : k < 1024) : mj_call mj_P (d + 1) kn_In_bitCount [.int (nI k)] h (some (.int (nI (ct k 10)))) h := by
  refine mj_ci rfl (Nat.le_of_ble_eq_true rfl) ?_
  rw [← bc_tab k hk]
  refine mj_run 41 rfl trivial ?_
  exact mj_end rfl rfl trivial
