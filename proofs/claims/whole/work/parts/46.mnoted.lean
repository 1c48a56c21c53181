section MM
variable {d L : Nat} {dy : mjM} {I : mjI} {y y1 n1 w1 c y2 : Option Nat} {R : mjR} {J : mjJ} {pn : Nat} {pg : Nat → Nat} {n : Nat} {Y : Yd} {T : Nat → Nat} {t : Nat} {tr : Nat → Nat} {kp : Kp} {wn : Nat} {wt : Nat → Nat} {yr dn : Nat}
theorem M_max {v m : Nat} (hv : v ≤ 1000000) (hm : m ≤ 1000000) : (nI v ≤ nI m ↔ v ≤ m) := nI_leI (by omega) (by omega)
theorem M_noticedOf (h2 : MY I n Y) (h3 : Mst I n Y T) (hn : 1 ≤ n) (ap : Bool) : ∃ I', mj_call mj_P (d + 6) kn_M_noticedOf [.ref 45, .int (nI (if ap then 1 else 0))] (HP L dy I y y1 n1 w1 c y2 R J) (some (.int (noA Y n T ap))) (HP L dy I' y y1 n1 w1 c y2 R J) ∧ Fr [19, 20] [55, 56, 62] I I' := by
  have hn10 : n ≤ 10 := h2.2.1.1
  obtain ⟨I1, hc1, hf1, hG1⟩ := M_layGoes (d := d) (L := L) (dy := dy) (y := y) (y1 := y1) (n1 := n1) (w1 := w1) (c := c) (y2 := y2) (R := R) (J := J) h2 h3 hn
  have hY1 : MY I1 n Y := h2.fr hf1 (by decide)
  refine ⟨I1, ?_, hf1⟩
  refine mj_ci rfl (Nat.le_of_ble_eq_true rfl) ?_
  refine mj_run 1 rfl trivial ?_
  refine mj_cal rfl rfl hc1 ?_
  refine mj_run 4 rfl trivial ?_
  have key := dn_ind n (fun p => ∀ (l4 l5 l6 : Option Value), mj_lg l4 = true → mj_lg l5 = true → mj_Rd (mj_call mj_P (d + 5)) kc_M_noticedOf 1 (8, [some (.ref 45), some (.int (nI (if ap then 1 else 0))), some (.int (nI (mo Y n T ap p))), some (.int (nI p)), l4, l5, l6], [], HP L dy I1 y y1 n1 w1 c y2 R J) (some (.int (noA Y n T ap))) (HP L dy I1 y y1 n1 w1 c y2 R J)) ?_ ?_ 0 (by omega)
  · exact key none none none rfl rfl
  · intro l4 l5 l6 _ _
    have hle := mo_le Y n T ap n
    refine mj_run 3 rfl trivial ?_
    rw [hY1.1]
    refine mj_brt rfl rfl (by rw [nI_leI (by omega) (by omega)]; omega) ?_
    refine mj_run 2 rfl trivial ?_
    unfold noA
    refine mj_bra rfl rfl (fun g => ?_) (fun g => ?_)
    · rw [nI_e (by omega) (by decide)] at g
      rw [if_neg g]
      refine mj_run 1 rfl trivial ?_
      exact mj_end rfl rfl trivial
    · rw [nI_e (by omega) (by decide)] at g
      rw [if_pos (Classical.not_not.mp g)]
      refine mj_run 2 rfl trivial ?_
      exact mj_end rfl rfl trivial
  · intro p hp ih l4 l5 l6 g4 g5
    have hle := mo_le Y n T ap p
    have hul := ul_le Y T p 10
    have nxt : ∀ (m : Nat) (l4 l5 l6 : Option Value), mj_lg l4 = true → mj_lg l5 = true → m = mo Y n T ap (p + 1) → mj_Rd (mj_call mj_P (d + 5)) kc_M_noticedOf 1 (100, [some (.ref 45), some (.int (nI (if ap then 1 else 0))), some (.int (nI m)), some (.int (nI p)), l4, l5, l6], [], HP L dy I1 y y1 n1 w1 c y2 R J) (some (.int (noA Y n T ap))) (HP L dy I1 y y1 n1 w1 c y2 R J) := by
      intro m l4 l5 l6 g4 g5 hm
      subst hm
      refine mj_run 2 rfl trivial ?_
      rw [nI_add]
      exact ih l4 l5 l6 g4 g5
    refine mj_run 3 rfl trivial ?_
    rw [hY1.1]
    refine mj_brf rfl rfl (by rw [nI_leI (by omega) (by omega)]; omega) ?_
    refine mj_run 2 rfl trivial ?_
    refine mj_cal rfl rfl (M_doesTurn hp hY1) ?_
    cases hd : dtb Y n p with
    | false =>
      refine mj_brt rfl rfl (by decide) ?_
      exact nxt _ _ _ _ g4 g5 (by simp [mo, hd])
    | true =>
      refine mj_brf rfl rfl (by decide) ?_
      refine mj_run 3 rfl trivial ?_
      refine mj_cal rfl rfl (M_unlike h2.2.1 hn h3.2 (by omega) (by omega) (hG1 p (Or.inl hp)) (hG1 10 (Or.inr rfl))) ?_
      -- the inner loop, from its head
      have inner : ∀ (m l4 : Nat) (l5 l6 : Option Value), m = max (mo Y n T ap p) (ul Y T p 10) → mj_lg l5 = true → mj_Rd (mj_call mj_P (d + 5)) kc_M_noticedOf 1 (45, [some (.ref 45), some (.int (nI (if ap then 1 else 0))), some (.int (nI (mo Y n T ap p))), some (.int (nI p)), some (.int (nI l4)), l5, l6], [.int (nI m)], HP L dy I1 y y1 n1 w1 c y2 R J) (some (.int (noA Y n T ap))) (HP L dy I1 y y1 n1 w1 c y2 R J) := by
        intro m l4 l5 l6 hm g5
        refine mj_run 3 rfl trivial ?_
        cases ap with
        | false =>
          refine mj_run 2 rfl trivial ?_
          have out := nxt m (some (.int (nI l4))) (some (.int (nI 0))) l6 rfl rfl (by rw [hm]; simp [mo, hd])
          refine mj_bra rfl rfl (fun _ => out) (fun _ => ?_)
          refine mj_run 1 rfl trivial ?_
          exact mj_brt rfl rfl (by decide) out
        | true =>
          have hmle : m ≤ 1000000 := by omega
          have lp := dn_ind p (fun q => ∀ l6 : Option Value, mj_Rd (mj_call mj_P (d + 5)) kc_M_noticedOf 1 (49, [some (.ref 45), some (.int (nI 1)), some (.int (nI (mq Y n T p q m))), some (.int (nI p)), some (.int (nI l4)), some (.int (nI q)), l6], [], HP L dy I1 y y1 n1 w1 c y2 R J) (some (.int (noA Y n T true))) (HP L dy I1 y y1 n1 w1 c y2 R J)) ?_ ?_ 0 (by omega)
          · exact lp l6
          · intro l6
            refine mj_run 2 rfl trivial ?_
            refine mj_brt rfl rfl (by rw [nI_leI (by omega) (by omega)]; omega) ?_
            exact nxt _ _ _ _ rfl rfl (by rw [hm]; simp [mo, hd])
          · intro q hq ihq l6
            have hmq := mq_le Y n T p q m hmle
            have huq := ul_le Y T p q
            refine mj_run 2 rfl trivial ?_
            refine mj_brf rfl rfl (by rw [nI_leI (by omega) (by omega)]; omega) ?_
            refine mj_run 1 rfl trivial ?_
            refine mj_brf rfl rfl (by decide) ?_
            refine mj_run 2 rfl trivial ?_
            refine mj_cal rfl rfl (M_doesTurn (by omega) hY1) ?_
            have tail : ∀ u : Nat, u ≤ 1000000 → u = (if dtb Y n q then ul Y T p q else 1) → mj_Rd (mj_call mj_P (d + 5)) kc_M_noticedOf 1 (79, [some (.ref 45), some (.int (nI 1)), some (.int (nI (mq Y n T p q m))), some (.int (nI p)), some (.int (nI l4)), some (.int (nI q)), l6], [.int (nI u)], HP L dy I1 y y1 n1 w1 c y2 R J) (some (.int (noA Y n T true))) (HP L dy I1 y y1 n1 w1 c y2 R J) := by
              intro u hu hue
              have e : mq Y n T p (q + 1) m = max (mq Y n T p q m) u := by rw [hue]; rfl
              rw [e] at ihq
              refine mj_run 3 rfl trivial ?_
              refine mj_bra rfl rfl (fun g => ?_) (fun g => ?_)
              · rw [nI_leI (by omega) (by omega)] at g
                rw [show max (mq Y n T p q m) u = mq Y n T p q m by omega] at ihq
                refine mj_run 1 rfl trivial ?_
                refine mj_run 3 rfl trivial ?_
                rw [nI_add]
                exact ihq _
              · rw [nI_leI (by omega) (by omega)] at g
                rw [show max (mq Y n T p q m) u = u by omega] at ihq
                refine mj_run 2 rfl trivial ?_
                refine mj_run 3 rfl trivial ?_
                rw [nI_add]
                exact ihq _
            cases hdq : dtb Y n q with
            | false =>
              refine mj_brt rfl rfl (by decide) ?_
              refine mj_run 1 rfl trivial ?_
              exact tail 1 (by omega) (by rw [hdq]; exact (if_neg (by decide)).symm)
            | true =>
              refine mj_brf rfl rfl (by decide) ?_
              refine mj_run 3 rfl trivial ?_
              refine mj_cal rfl rfl (M_unlike h2.2.1 hn h3.2 (by omega) (by omega) (hG1 p (Or.inl hp)) (hG1 q (Or.inl (by omega)))) ?_
              refine mj_run 1 rfl trivial ?_
              exact tail _ huq (by rw [hdq]; exact (if_pos rfl).symm)
      refine mj_run 3 rfl trivial ?_
      refine mj_bra rfl rfl (fun g => ?_) (fun g => ?_)
      · rw [nI_leI (by omega) (by omega)] at g
        refine mj_run 1 rfl trivial ?_
        exact inner _ _ _ _ (by omega) g5
      · rw [nI_leI (by omega) (by omega)] at g
        refine mj_run 2 rfl trivial ?_
        exact inner _ _ _ _ (by omega) g5
theorem MO_noticed (h : MI I pn pg n Y T t tr kp wn wt yr dn) : ∃ I', mj_call mj_P (d + 7) kn_M_noticed [.ref 45] (HP L dy I y y1 n1 w1 c y2 R J) (some (.int (if n = 0 then Int32.ofInt (-103) else noA Y n T false))) (HP L dy I' y y1 n1 w1 c y2 R J) ∧ MI I' pn pg n Y T t tr kp wn wt yr dn ∧ Fr wk wa' I I' := by
  by_cases hn : n = 0
  · rw [if_pos hn]
    refine ⟨I, ?_, h, (Fr.rf I).w (by simp) (by simp)⟩
    refine mj_ci rfl (Nat.le_of_ble_eq_true rfl) ?_
    refine mj_run 1 rfl trivial ?_
    refine mj_cal rfl rfl (M_lacks h.2.1) ?_
    rw [if_pos hn]
    refine mj_brf rfl rfl (by decide) ?_
    refine mj_run 2 rfl trivial ?_
    exact mj_end rfl rfl trivial
  · rw [if_neg hn]
    obtain ⟨I1, hc, hf⟩ := M_noticedOf (d := d) (L := L) (dy := dy) (y := y) (y1 := y1) (n1 := n1) (w1 := w1) (c := c) (y2 := y2) (R := R) (J := J) h.2.1 h.2.2.1 (by omega) false
    have hf2 := hf.w (ks' := wk) (as' := wa') (by decide) (by decide)
    refine ⟨I1, ?_, h.work hf2, hf2⟩
    refine mj_ci rfl (Nat.le_of_ble_eq_true rfl) ?_
    refine mj_run 1 rfl trivial ?_
    refine mj_cal rfl rfl (M_lacks h.2.1) ?_
    rw [if_neg hn]
    refine mj_brt rfl rfl (by decide) ?_
    refine mj_run 2 rfl trivial ?_
    refine mj_cal rfl rfl hc ?_
    exact mj_end rfl rfl trivial
theorem MO_apart (h : MI I pn pg n Y T t tr kp wn wt yr dn) : ∃ I', mj_call mj_P (d + 7) kn_M_apart [.ref 45] (HP L dy I y y1 n1 w1 c y2 R J) (some (.int (if n = 0 then Int32.ofInt (-103) else noA Y n T true))) (HP L dy I' y y1 n1 w1 c y2 R J) ∧ MI I' pn pg n Y T t tr kp wn wt yr dn ∧ Fr wk wa' I I' := by
  by_cases hn : n = 0
  · rw [if_pos hn]
    refine ⟨I, ?_, h, (Fr.rf I).w (by simp) (by simp)⟩
    refine mj_ci rfl (Nat.le_of_ble_eq_true rfl) ?_
    refine mj_run 1 rfl trivial ?_
    refine mj_cal rfl rfl (M_lacks h.2.1) ?_
    rw [if_pos hn]
    refine mj_brf rfl rfl (by decide) ?_
    refine mj_run 2 rfl trivial ?_
    exact mj_end rfl rfl trivial
  · rw [if_neg hn]
    obtain ⟨I1, hc, hf⟩ := M_noticedOf (d := d) (L := L) (dy := dy) (y := y) (y1 := y1) (n1 := n1) (w1 := w1) (c := c) (y2 := y2) (R := R) (J := J) h.2.1 h.2.2.1 (by omega) true
    have hf2 := hf.w (ks' := wk) (as' := wa') (by decide) (by decide)
    refine ⟨I1, ?_, h.work hf2, hf2⟩
    refine mj_ci rfl (Nat.le_of_ble_eq_true rfl) ?_
    refine mj_run 1 rfl trivial ?_
    refine mj_cal rfl rfl (M_lacks h.2.1) ?_
    rw [if_neg hn]
    refine mj_brt rfl rfl (by decide) ?_
    refine mj_run 2 rfl trivial ?_
    refine mj_cal rfl rfl hc ?_
    exact mj_end rfl rfl trivial
end MM
