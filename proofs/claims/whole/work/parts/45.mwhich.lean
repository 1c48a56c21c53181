section MM
variable {d L : Nat} {dy : mjM} {I : mjI} {y y1 n1 w1 c y2 : Option Nat} {R : mjR} {J : mjJ} {pn : Nat} {pg : Nat → Nat} {n : Nat} {Y : Yd} {T : Nat → Nat} {t : Nat} {tr : Nat → Nat} {kp : Kp} {wn : Nat} {wt : Nat → Nat} {yr dn : Nat}
theorem MO_which (h : MI I pn pg n Y T t tr kp wn wt yr dn) : ∃ I', mj_call mj_P (d + 6) kn_M_which [.ref 45] (HP L dy I y y1 n1 w1 c y2 R J) (some (.int (if n = 0 ∨ wn = 0 then Int32.ofInt (-103) else whA n Y T wt wn))) (HP L dy I' y y1 n1 w1 c y2 R J) ∧ MI I' pn pg n Y T t tr kp wn wt yr dn ∧ Fr wk wa' I I' := by
  have h0 := h
  obtain ⟨h1, h2, h3, h4, h5, h6, h7⟩ := h
  have hn10 : n ≤ 10 := h2.2.1.1
  have hw8 := h6.2.1
  by_cases hz : n = 0 ∨ wn = 0
  · rw [if_pos hz]
    refine ⟨I, ?_, h0, (Fr.rf I).w (by simp) (by simp)⟩
    refine mj_ci rfl (Nat.le_of_ble_eq_true rfl) ?_
    refine mj_run 1 rfl trivial ?_
    refine mj_cal rfl rfl (M_lacks h2) ?_
    have fin : mj_Rd (mj_call mj_P (d + 5)) kc_M_which 1 (14, [some (.ref 45), none, none], [], HP L dy I y y1 n1 w1 c y2 R J) (some (.int (Int32.ofInt (-103)))) (HP L dy I y y1 n1 w1 c y2 R J) := by
      refine mj_run 1 rfl trivial ?_
      exact mj_end rfl rfl trivial
    by_cases hn : n = 0
    · rw [if_pos hn]
      exact mj_brt rfl rfl (by decide) fin
    · rw [if_neg hn]
      refine mj_brf rfl rfl (by decide) ?_
      refine mj_run 2 rfl trivial ?_
      rw [h6.1]
      refine mj_brf rfl rfl (fun q => q ?_) fin
      rw [nI_z (by omega)]
      omega
  · rw [if_neg hz]
    have hn : ¬ n = 0 := fun q => hz (Or.inl q)
    have hwn : ¬ wn = 0 := fun q => hz (Or.inr q)
    -- what is told of p
    have one : ∀ (p : Nat) (X : mjI) (b : Int32), p < n ∨ p = 10 → MI X pn pg n Y T t tr kp wn wt yr dn → ∃ I', Fr [19, 20] [55, 56] X I' ∧ ∀ (v : Option Value) (h' : mjH), mj_Rd (mj_call mj_P (d + 5)) kc_M_which 1 (73, [some (.ref 45), some (.int (b ||| (if itF Y (gq p) T wt wn 0 then nI 1 <<< (nI p &&& 31) else nI 0))), some (.int (nI p))], [], HP L dy I' y y1 n1 w1 c y2 R J) v h' → mj_Rd (mj_call mj_P (d + 5)) kc_M_which 1 (41, [some (.ref 45), some (.int b), some (.int (nI p))], [], HP L dy X y y1 n1 w1 c y2 R J) v h' := by
      intro p X b hp hX
      obtain ⟨x1, x2, x3, x4, x5, x6, x7⟩ := hX
      have fc := Fr.c X (dst := 55) (by decide) 53 10
      have hsq : sq (gq p) (if p = 10 then Int32.ofInt (-1) else nI p) := by
        by_cases e : p = 10
        · rw [if_pos e]
          unfold gq
          rw [if_pos e]
          exact sq_none
        · rw [if_neg e]
          exact sq_gq (by omega)
      obtain ⟨I1, hc1, hf1⟩ := M_isTrue (d := d) (L := L) (dy := dy) (y := y) (y1 := y1) (n1 := n1) (w1 := w1) (c := c) (y2 := y2) (R := R) (J := J) hsq (x2.fr fc (by decide)) (x6.fr fc (by decide)) (by omega) (fun i hi => by rw [cpI_at (by omega)]; exact x3.1 i hi) x3.2
      refine ⟨I1, (fc.tr hf1).w (by decide) (by decide), fun v h' hx => ?_⟩
      refine mj_run 1 rfl trivial ?_
      refine mj_cal rfl rfl M_layTried ?_
      refine mj_run 4 rfl trivial ?_
      have tail : ∀ z : Int32, z = (if p = 10 then Int32.ofInt (-1) else nI p) → mj_Rd (mj_call mj_P (d + 5)) kc_M_which 1 (58, [some (.ref 45), some (.int b), some (.int (nI p))], [.int z, .ref 45, .int b], HP L dy (cpI X 55 53 10) y y1 n1 w1 c y2 R J) v h' := by
        intro z hz
        subst hz
        refine mj_cal rfl rfl hc1 ?_
        cases hi : itF Y (gq p) T wt wn 0 with
        | false =>
          rw [hi] at hx
          refine mj_brt rfl rfl (by decide) ?_
          refine mj_run 1 rfl trivial ?_
          refine mj_run 2 rfl trivial ?_
          exact hx
        | true =>
          rw [hi] at hx
          refine mj_brf rfl rfl (by decide) ?_
          refine mj_run 4 rfl trivial ?_
          refine mj_run 2 rfl trivial ?_
          exact hx
      refine mj_bra rfl rfl (fun g => ?_) (fun g => ?_)
      · rw [nI_e (by omega) (by decide)] at g
        refine mj_run 1 rfl trivial ?_
        exact tail _ (by rw [if_neg g])
      · rw [nI_e (by omega) (by decide)] at g
        refine mj_run 2 rfl trivial ?_
        exact tail _ (by rw [if_pos (Classical.not_not.mp g)])
    have key : ∀ (f p : Nat) (X : mjI), p + f = 10 → MI X pn pg n Y T t tr kp wn wt yr dn → ∃ I', (Fr [19, 20] [55, 56] X I') ∧ mj_Rd (mj_call mj_P (d + 5)) kc_M_which 1 (21, [some (.ref 45), some (.int (whF Y T wt wn (min p n))), some (.int (nI p))], [], HP L dy X y y1 n1 w1 c y2 R J) (some (.int (whA n Y T wt wn))) (HP L dy I' y y1 n1 w1 c y2 R J) := by
      intro f
      induction f with
      | zero =>
        intro p X hp hX
        have hp : p = 10 := by omega
        subst hp
        obtain ⟨I1, hf1, hx1⟩ := one 10 X (whF Y T wt wn (min 10 n)) (Or.inr rfl) hX
        refine ⟨I1, hf1, ?_⟩
        have go41 : mj_Rd (mj_call mj_P (d + 5)) kc_M_which 1 (41, [some (.ref 45), some (.int (whF Y T wt wn (min 10 n))), some (.int (nI 10))], [], HP L dy X y y1 n1 w1 c y2 R J) (some (.int (whA n Y T wt wn))) (HP L dy I1 y y1 n1 w1 c y2 R J) := by
          refine hx1 _ _ ?_
          refine mj_run 2 rfl trivial ?_
          refine mj_run 2 rfl trivial ?_
          refine mj_brt rfl rfl (by decide) ?_
          refine mj_run 1 rfl trivial ?_
          rw [show min 10 n = n by omega]
          exact mj_end rfl rfl trivial
        refine mj_run 2 rfl trivial ?_
        refine mj_brf rfl rfl (by decide) ?_
        refine mj_run 3 rfl trivial ?_
        refine mj_bra rfl rfl (fun _ => go41) (fun _ => ?_)
        refine mj_run 2 rfl trivial ?_
        exact mj_brf rfl rfl (fun q => q rfl) go41
      | succ f ih =>
        intro p X hp hX
        by_cases hpn : p < n
        · obtain ⟨I1, hf1, hx1⟩ := one p X (whF Y T wt wn (min p n)) (Or.inl hpn) hX
          obtain ⟨I2, hf2, hx2⟩ := ih (p + 1) I1 (by omega) (hX.work (hf1.w (by decide) (by decide)))
          refine ⟨I2, (hf1.tr hf2).w (by decide) (by decide), ?_⟩
          refine mj_run 2 rfl trivial ?_
          refine mj_brf rfl rfl (by rw [nI_ltI (by decide) (by omega)]; omega) ?_
          refine mj_run 3 rfl trivial ?_
          rw [hX.2.1.1]
          refine mj_brt rfl rfl (by rw [nI_ltI (by omega) (by omega)]; exact hpn) ?_
          refine hx1 _ _ ?_
          refine mj_run 2 rfl trivial ?_
          rw [nI_add]
          rw [show min (p + 1) n = p + 1 by omega] at hx2
          rw [show min p n = p by omega]
          have eg : gq p = some p := by unfold gq; rw [if_neg (by omega)]
          rw [eg]
          exact hx2
        · obtain ⟨I2, hf2, hx2⟩ := ih (p + 1) X (by omega) hX
          refine ⟨I2, hf2, ?_⟩
          refine mj_run 2 rfl trivial ?_
          refine mj_brf rfl rfl (by rw [nI_ltI (by decide) (by omega)]; omega) ?_
          refine mj_run 3 rfl trivial ?_
          rw [hX.2.1.1]
          refine mj_brf rfl rfl (by rw [nI_ltI (by omega) (by omega)]; exact hpn) ?_
          refine mj_run 2 rfl trivial ?_
          refine mj_brt rfl rfl (by rw [nI_e (by omega) (by decide)]; omega) ?_
          refine mj_run 2 rfl trivial ?_
          rw [nI_add]
          rw [show min (p + 1) n = min p n by omega] at hx2
          exact hx2
    obtain ⟨I', hf, hx⟩ := key 10 0 I rfl h0
    refine ⟨I', ?_, h0.work (hf.w (by decide) (by decide)), hf.w (by decide) (by decide)⟩
    refine mj_ci rfl (Nat.le_of_ble_eq_true rfl) ?_
    refine mj_run 1 rfl trivial ?_
    refine mj_cal rfl rfl (M_lacks h2) ?_
    rw [if_neg hn]
    refine mj_brf rfl rfl (by decide) ?_
    refine mj_run 2 rfl trivial ?_
    rw [h6.1]
    refine mj_brt rfl rfl (by rw [nI_z (by omega)]; exact hwn) ?_
    refine mj_run 4 rfl trivial ?_
    rw [show min 0 n = 0 by omega] at hx
    exact hx
end MM
