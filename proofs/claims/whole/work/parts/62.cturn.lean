/-! turning by counts -/
theorem i_msb {x : Int32} : 0 ≤ x ↔ x.toBitVec.msb = false := by
  rw [ii_le, show (0 : Int32).toInt = 0 from rfl, BitVec.msb_eq_toInt, decide_eq_false_iff_not]
  show 0 ≤ x.toBitVec.toInt ↔ _
  omega
theorem i_xor {x : Int32} {b : Nat} (hb : b < 2147483648) : 0 ≤ x ^^^ nI b ↔ 0 ≤ x := by
  have h : (nI b).toBitVec.msb = false := i_msb.mp (by rw [ii_le, nI_toInt hb]; show (0 : Int) ≤ _; omega)
  rw [i_msb, i_msb]
  show (x.toBitVec ^^^ (nI b).toBitVec).msb = false ↔ _
  rw [BitVec.msb_xor, h, Bool.xor_false]
theorem i_ng {t : Nat} (h : t < 2147483648) : (-(nI t)).toInt = -(t : Int) := by
  rw [Int32.toInt_neg, nI_toInt h, Int.bmod_eq_of_le (by omega) (by omega)]
theorem i_ndiv {t b : Nat} (ht : t < 2147483648) (hb : b < 2147483648) (h0 : 0 < b) : -(nI t) / nI b = -(nI (t / b)) := by
  have hq : t / b ≤ t := Nat.div_le_self _ _
  rw [← Int32.toInt_inj, Int32.toInt_div, i_ng ht, nI_toInt hb, i_ng (by omega), Int.neg_tdiv, Int.tdiv_eq_ediv_of_nonneg (by omega)]
  rw [← Int.natCast_ediv]
  generalize t / b = z at hq
  rw [Int.bmod_eq_of_le (by omega) (by omega)]
theorem i_nrem {t b : Nat} (ht : t < 2147483648) (hb : b < 2147483648) (h0 : 0 < b) : -(nI t) - -(nI t) / nI b * nI b = -(nI (t % b)) := by
  have hm := Nat.div_add_mod t b
  have e : nI t = nI (t / b * b) + nI (t % b) := by rw [nI_add, Nat.mul_comm, hm]
  rw [i_ndiv ht hb h0, e, Int32.neg_mul, pk_mul, Int32.neg_add]
  rw [Int32.sub_eq_add_neg, Int32.neg_neg, Int32.sub_eq_add_neg, Int32.add_comm (-(nI (t / b * b))), Int32.add_assoc, Int32.add_left_neg, Int32.add_zero]
section CC
variable {m : mjM} {I : mjI} {R : mjR} {J : mjJ} {n : Nat} {Y : Yd} {d : Nat}
theorem c_fmN (h : mjH) {a b : Nat} (ha : a < 2147483648) (hb : b < 2147483648) (h0 : 0 < b) : mj_call mj_P (d + 1) kn_Ma_floorMod [.int (nI a), .int (nI b)] h (some (.int (nI (a % b)))) h := by
  refine mj_ci rfl (Nat.le_of_ble_eq_true rfl) ?_
  refine mj_run 7 rfl (by show ¬ nI b = 0; rw [nI_z hb]; omega) ?_
  rw [pk_rem ha h0 hb]
  refine mj_brt rfl rfl ((i_xor hb).mpr (by rw [ii_le, nI_toInt ha]; show (0 : Int) ≤ _; omega)) ?_
  refine mj_run 1 rfl trivial ?_
  exact mj_end rfl rfl trivial
theorem c_fmG (h : mjH) {t b : Nat} (ht : t < 2147483648) (h1 : 1 ≤ t) (hb : b < 2147483648) (h0 : 0 < b) : mj_call mj_P (d + 1) kn_Ma_floorMod [.int (-(nI t)), .int (nI b)] h (some (.int (nI ((b - t % b) % b)))) h := by
  have hm := Nat.mod_lt t h0
  refine mj_ci rfl (Nat.le_of_ble_eq_true rfl) ?_
  refine mj_run 7 rfl (by show ¬ nI b = 0; rw [nI_z hb]; omega) ?_
  rw [i_nrem ht hb h0]
  refine mj_brf rfl rfl (fun q => ?_) ?_
  · have := (i_xor hb).mp q
    rw [ii_le, i_ng ht, show (0 : Int32).toInt = 0 from rfl] at this
    omega
  · refine mj_run 1 rfl trivial ?_
    by_cases g : t % b = 0
    · rw [g]
      refine mj_brt rfl rfl (by decide) ?_
      refine mj_run 1 rfl trivial ?_
      rw [Nat.sub_zero, Nat.mod_self]
      exact mj_end rfl rfl trivial
    · refine mj_brf rfl rfl (fun q => ?_) ?_
      · have := congrArg Int32.toInt q
        rw [i_ng (by omega), show (0 : Int32).toInt = 0 from rfl] at this
        omega
      · refine mj_run 3 rfl trivial ?_
        have e : -(nI (t % b)) + nI b = nI ((b - t % b) % b) := by
          rw [Nat.mod_eq_of_lt (show b - t % b < b by omega), Int32.add_comm, ← Int32.sub_eq_add_neg, pk_sub (by omega)]
        rw [e]
        exact mj_end rfl rfl trivial
theorem P_turned {p b c s t : Nat} (hY : YOK n Y) (hp : p < n) (hP : PT m R b c (Y.1 p) (Y.2.1 p)) (hs : s < sm Y p) (ht : t ≤ 2000000) : mj_call mj_P (d + 4) kn_Pt_turned [.ref b, .int (nI s), .int (nI t)] (m, I, R, J) (some (.int (nI (if per Y p < 2 then s else (s + t) % per Y p)))) (m, I, R, J) := by
  have hp6 := per_in hY hp
  have hs6 := (sm_in hY hp).2
  obtain ⟨f, hf, hc⟩ := P_period (d := d) (I := I) (J := J) hY hp hP
  obtain ⟨⟨q, h1⟩, h2, h3⟩ := hP
  refine mj_ci rfl (Nat.le_of_ble_eq_true rfl) ?_
  refine mj_run 1 rfl trivial ?_
  refine sx_v0 rfl h1 hf rfl hc ?_
  refine mj_run 3 rfl trivial ?_
  refine mj_bra rfl rfl (fun g => ?_) (fun g => ?_)
  · rw [nI_leI (by omega) (by omega)] at g
    rw [if_neg (by omega)]
    refine mj_run 4 rfl trivial ?_
    rw [nI_add]
    refine mj_cal rfl rfl (c_fmN _ (by omega) (by omega) (by omega)) ?_
    exact mj_end rfl rfl trivial
  · rw [nI_leI (by omega) (by omega)] at g
    rw [if_pos (by omega)]
    refine mj_run 2 rfl trivial ?_
    exact mj_end rfl rfl trivial
theorem md_back {b s t : Nat} (hb : 2 ≤ b) (h6 : b ≤ 6) : (if t ≤ s then (s - t) % b else (b - (t - s) % b) % b) = (s + b - t % b) % b := by
  have : b = 2 ∨ b = 3 ∨ b = 4 ∨ b = 5 ∨ b = 6 := by omega
  rcases this with e | e | e | e | e <;> subst e <;> split <;> omega
theorem P_turnedB {p b c s t : Nat} (hY : YOK n Y) (hp : p < n) (hP : PT m R b c (Y.1 p) (Y.2.1 p)) (hs : s < sm Y p) (ht : t ≤ 2000000) : mj_call mj_P (d + 4) kn_Pt_turned [.ref b, .int (nI s), .int (-(nI t))] (m, I, R, J) (some (.int (nI (if per Y p < 2 then s else (s + per Y p - t % per Y p) % per Y p)))) (m, I, R, J) := by
  have hp6 := per_in hY hp
  have hs6 := (sm_in hY hp).2
  obtain ⟨f, hf, hc⟩ := P_period (d := d) (I := I) (J := J) hY hp hP
  obtain ⟨⟨q, h1⟩, h2, h3⟩ := hP
  refine mj_ci rfl (Nat.le_of_ble_eq_true rfl) ?_
  refine mj_run 1 rfl trivial ?_
  refine sx_v0 rfl h1 hf rfl hc ?_
  refine mj_run 3 rfl trivial ?_
  refine mj_bra rfl rfl (fun g => ?_) (fun g => ?_)
  · rw [nI_leI (by omega) (by omega)] at g
    rw [if_neg (by omega), ← md_back (by omega) hp6.2]
    refine mj_run 4 rfl trivial ?_
    rw [← Int32.sub_eq_add_neg]
    by_cases hle : t ≤ s
    · rw [if_pos hle, pk_sub hle]
      refine mj_cal rfl rfl (c_fmN _ (by omega) (by omega) (by omega)) ?_
      exact mj_end rfl rfl trivial
    · rw [if_neg hle]
      have e : nI s - nI t = -(nI (t - s)) := by
        have : nI t = nI s + nI (t - s) := by rw [nI_add]; congr 1; omega
        rw [this, Int32.sub_eq_add_neg, Int32.neg_add, Int32.sub_eq_add_neg, ← Int32.add_assoc, Int32.add_right_neg, Int32.zero_add]
      rw [e]
      refine mj_cal rfl rfl (c_fmG _ (by omega) (by omega) (by omega) (by omega)) ?_
      exact mj_end rfl rfl trivial
  · rw [nI_leI (by omega) (by omega)] at g
    rw [if_pos (by omega)]
    refine mj_run 2 rfl trivial ?_
    exact mj_end rfl rfl trivial
theorem tn_per {p s : Nat} (hY : YOK n Y) (hp : p < n) (hs : s < sm Y p) : (if per Y p < 2 then s else (s + 1) % per Y p) = tn Y p s := by
  unfold tn per
  by_cases e : Y.1 p = 1
  · rw [if_pos e, if_pos e, if_pos (by omega)]
  · rw [if_neg e, if_neg e]
    split
    · have : sm Y p = 1 := by omega
      rw [this]
      omega
    · rfl
theorem P_canTurn {p b c : Nat} (hY : YOK n Y) (hp : p < n) (hP : PT m R b c (Y.1 p) (Y.2.1 p)) : mj_call mj_P (d + 4) kn_Pt_canTurn [.ref b] (m, I, R, J) (some (.int (nI (if 1 < per Y p then 1 else 0)))) (m, I, R, J) := by
  have hp6 := per_in hY hp
  obtain ⟨f, hf, hc⟩ := P_period (d := d) (I := I) (J := J) hY hp hP
  obtain ⟨⟨q, h1⟩, h2, h3⟩ := hP
  refine mj_ci rfl (Nat.le_of_ble_eq_true rfl) ?_
  refine mj_run 1 rfl trivial ?_
  refine sx_v0 rfl h1 hf rfl hc ?_
  refine mj_run 1 rfl trivial ?_
  refine mj_bra rfl rfl (fun g => ?_) (fun g => ?_)
  · rw [nI_leI (by omega) (by decide)] at g
    rw [if_neg (by omega)]
    refine mj_run 1 rfl trivial ?_
    exact mj_end rfl rfl (Or.inl rfl)
  · rw [nI_leI (by omega) (by decide)] at g
    rw [if_pos (by omega)]
    refine mj_run 2 rfl trivial ?_
    exact mj_end rfl rfl (Or.inr rfl)
end CC
