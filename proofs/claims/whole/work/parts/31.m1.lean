theorem ii_lt {a b : Int32} : a < b ↔ a.toInt < b.toInt := Int32.lt_iff_toInt_lt
theorem ii_le {a b : Int32} : a ≤ b ↔ a.toInt ≤ b.toInt := Int32.le_iff_toInt_le
theorem ii_nlt {a b : Int32} : ¬ a < b ↔ b ≤ a := Int32.not_lt
theorem ii_nle {a b : Int32} : ¬ a ≤ b ↔ b < a := Int32.not_le
theorem c_M_in (d : Nat) (h : mjH) (a b c : Int64) : mj_call mj_P (d + 1) kn_M_in [.long a, .long b, .long c] h (some (.int (nI (if b ≤ a ∧ a ≤ c then 1 else 0)))) h := by
  refine mj_ci rfl (Nat.le_of_ble_eq_true rfl) ?_
  refine mj_run 3 rfl trivial ?_
  refine mj_bra rfl rfl (fun g => ?_) (fun g => ?_)
  · rw [if_neg (fun q => absurd ((lg_cmp_ge a b).mpr q.1) (ii_nle.mpr g))]
    refine mj_run 1 rfl trivial ?_
    exact mj_end rfl rfl (Or.inl rfl)
  · refine mj_run 3 rfl trivial ?_
    refine mj_bra rfl rfl (fun g2 => ?_) (fun g2 => ?_)
    · rw [if_neg (fun q => absurd ((lg_cmp_le a c).mpr q.2) (ii_nle.mpr g2))]
      refine mj_run 1 rfl trivial ?_
      exact mj_end rfl rfl (Or.inl rfl)
    · rw [if_pos ⟨(lg_cmp_ge a b).mp (ii_nlt.mp g), (lg_cmp_le a c).mp (ii_nlt.mp g2)⟩]
      refine mj_run 2 rfl trivial ?_
      exact mj_end rfl rfl (Or.inr rfl)
section MM
variable (d : Nat) (L : Nat) (dy : mjM) (I : mjI) (y y1 n1 w1 c y2 : Option Nat) (R : mjR) (J : mjJ)
theorem c_M_lacks : mj_call mj_P (d + 1) kn_M_lacks [.ref 45] (HP L dy I y y1 n1 w1 c y2 R J) (some (.int (nI (if I 45 9 = 0 then 1 else 0)))) (HP L dy I y y1 n1 w1 c y2 R J) := by
  refine mj_ci rfl (Nat.le_of_ble_eq_true rfl) ?_
  refine mj_run 2 rfl trivial ?_
  refine mj_bra rfl rfl (fun g => ?_) (fun g => ?_)
  · rw [if_neg g]
    refine mj_run 1 rfl trivial ?_
    exact mj_end rfl rfl (Or.inl rfl)
  · rw [if_pos (Classical.not_not.mp g)]
    refine mj_run 2 rfl trivial ?_
    exact mj_end rfl rfl (Or.inr rfl)
theorem c_M_standMany {p : Int32} (hp : vp_in p 10) : mj_call mj_P (d + 1) kn_M_standMany [.ref 45, .int p] (HP L dy I y y1 n1 w1 c y2 R J) (some (.int (if I 50 p.toNatClampNeg = nI 2 then (if I 51 p.toNatClampNeg = nI 1 then nI 1 else nI 2 * I 51 p.toNatClampNeg - nI 2) else if I 50 p.toNatClampNeg = nI 3 then nI 2 * I 51 p.toNatClampNeg else I 51 p.toNatClampNeg))) (HP L dy I y y1 n1 w1 c y2 R J) := by
  refine mj_ci rfl (Nat.le_of_ble_eq_true rfl) ?_
  refine mj_run 10 rfl ⟨hp, hp⟩ ?_
  refine mj_bra rfl rfl (fun g => ?_) (fun g => ?_)
  · rw [if_neg g]
    refine mj_run 5 rfl hp ?_
    refine mj_bra rfl rfl (fun g2 => ?_) (fun g2 => ?_)
    · rw [if_neg g2]
      refine mj_run 1 rfl trivial ?_
      exact mj_end rfl rfl trivial
    · rw [if_pos (Classical.not_not.mp g2)]
      refine mj_run 4 rfl trivial ?_
      exact mj_end rfl rfl trivial
  · rw [if_pos (Classical.not_not.mp g)]
    refine mj_run 2 rfl trivial ?_
    refine mj_bra rfl rfl (fun g2 => ?_) (fun g2 => ?_)
    · rw [if_neg g2]
      refine mj_run 6 rfl trivial ?_
      exact mj_end rfl rfl trivial
    · rw [if_pos (Classical.not_not.mp g2)]
      refine mj_run 2 rfl trivial ?_
      exact mj_end rfl rfl trivial
end MM
