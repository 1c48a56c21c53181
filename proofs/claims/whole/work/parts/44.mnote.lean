section MM
variable {d L : Nat} {dy : mjM} {I : mjI} {y y1 n1 w1 c y2 : Option Nat} {R : mjR} {J : mjJ} {pn : Nat} {pg : Nat → Nat} {n : Nat} {Y : Yd} {T : Nat → Nat} {t : Nat} {tr : Nat → Nat} {kp : Kp} {wn : Nat} {wt : Nat → Nat} {yr dn : Nat}
theorem M_layGoes (h2 : MY I n Y) (h3 : Mst I n Y T) (hn : 1 ≤ n) : ∃ I', mj_call mj_P (d + 5) kn_M_layGoes [.ref 45] (HP L dy I y y1 n1 w1 c y2 R J) none (HP L dy I' y y1 n1 w1 c y2 R J) ∧ Fr [19, 20] [55, 56, 62] I I' ∧ ∀ p, p < n ∨ p = 10 → RG I' Y T p 40 := by
  have hn10 : n ≤ 10 := h2.2.1.1
  have key : ∀ (f p : Nat) (X : mjI) (l2 : Option Value), p + f = 11 → MY X n Y → Mst X n Y T → (∀ q, q < p → q < n ∨ q = 10 → RG X Y T q 40) → ∃ I', (Fr [19, 20] [55, 56, 62] X I' ∧ ∀ q, q < n ∨ q = 10 → RG I' Y T q 40) ∧ mj_Rd (mj_call mj_P (d + 4)) kc_M_layGoes 0 (2, [some (.ref 45), some (.int (nI p)), l2], [], HP L dy X y y1 n1 w1 c y2 R J) none (HP L dy I' y y1 n1 w1 c y2 R J) := by
    intro f
    induction f with
    | zero =>
      intro p X l2 hp hX hS hG
      refine ⟨X, ⟨(Fr.rf X).w (by simp) (by simp), fun q hq => hG q (by omega) hq⟩, ?_⟩
      refine mj_run 2 rfl trivial ?_
      refine mj_brt rfl rfl (by rw [nI_ltI (by decide) (by omega)]; omega) ?_
      exact mj_end rfl rfl trivial
    | succ f ih =>
      intro p X l2 hp hX hS hG
      have fc := Fr.c X (dst := 55) (by decide) 53 10
      have hYc : MY (cpI X 55 53 10) n Y := hX.fr fc (by decide)
      have hTc : RI (cpI X 55 53 10) 55 n T := fun i hi => by rw [cpI_at (by omega)]; exact hS.1 i hi
      by_cases hpn : p < n ∨ p = 10
      · obtain ⟨I1, ⟨hf1, hG1, hO1⟩, hx1⟩ := M_goesRow (d := d) (L := L) (dy := dy) (y := y) (y1 := y1) (n1 := n1) (w1 := w1) (c := c) (y2 := y2) (R := R) (J := J) hpn hn10 hn hS.2 40 0 (cpI X 55 53 10) rfl hYc hTc (fun j hj => by omega)
        have f1 := fc.tr hf1
        have e62 : cpI X 55 53 10 62 = X 62 := by simp [cpI]
        obtain ⟨I2, ⟨hf2, hG2⟩, hx2⟩ := ih (p + 1) I1 (some (.int (nI 40))) (by omega) (hX.fr f1 (by decide)) (hS.fr f1 (by decide)) (fun q hq hqn j hj => by
          by_cases e : q = p
          · subst e
            exact hG1 j hj
          · rw [hO1 _ (by omega), e62]
            exact hG q (by omega) hqn j hj)
        refine ⟨I2, ⟨(f1.tr hf2).w (by decide) (by decide), hG2⟩, ?_⟩
        refine mj_run 2 rfl trivial ?_
        refine mj_brf rfl rfl (by rw [nI_ltI (by decide) (by omega)]; omega) ?_
        refine mj_run 1 rfl trivial ?_
        refine mj_cal rfl rfl M_layTried ?_
        refine mj_run 2 rfl trivial ?_
        refine hx1 _ _ ?_
        refine mj_run 2 rfl trivial ?_
        rw [nI_add]
        exact hx2
      · obtain ⟨I2, ⟨hf2, hG2⟩, hx2⟩ := ih (p + 1) (cpI X 55 53 10) (some (.int (nI 0))) (by omega) hYc (hS.fr fc (by decide)) (fun q hq hqn => (hG q (by omega) hqn).fr (by simp [cpI]))
        refine ⟨I2, ⟨(fc.tr hf2).w (by decide) (by decide), hG2⟩, ?_⟩
        refine mj_run 2 rfl trivial ?_
        refine mj_brf rfl rfl (by rw [nI_ltI (by decide) (by omega)]; omega) ?_
        refine mj_run 1 rfl trivial ?_
        refine mj_cal rfl rfl M_layTried ?_
        refine mj_run 2 rfl trivial ?_
        refine mj_run 2 rfl trivial ?_
        refine mj_brf rfl rfl (by decide) ?_
        refine mj_run 3 rfl trivial ?_
        rw [hYc.1]
        refine mj_brf rfl rfl (by rw [nI_ltI (by omega) (by omega)]; omega) ?_
        refine mj_run 2 rfl trivial ?_
        refine mj_brt rfl rfl (by rw [nI_e (by omega) (by decide)]; omega) ?_
        refine mj_run 2 rfl trivial ?_
        rw [nI_add]
        exact hx2
  obtain ⟨I', ⟨hf, hG⟩, hx⟩ := key 11 0 I none rfl h2 h3 (fun q hq => by omega)
  refine ⟨I', ?_, hf, hG⟩
  refine mj_ci rfl (Nat.le_of_ble_eq_true rfl) ?_
  refine mj_run 2 rfl trivial ?_
  exact hx
end MM
