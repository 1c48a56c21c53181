section MM
variable {d L : Nat} {dy : mjM} {I : mjI} {y y1 n1 w1 c y2 : Option Nat} {R : mjR} {J : mjJ} {pn : Nat} {pg : Nat → Nat} {n : Nat} {Y : Yd} {T : Nat → Nat} {t : Nat} {tr : Nat → Nat} {kp : Kp} {wn : Nat} {wt : Nat → Nat} {yr dn : Nat}
theorem RG.fr {I I' : mjI} {p k : Nat} (h : RG I Y T p k) (e : I' 62 = I 62) : RG I' Y T p k := fun j hj => by rw [e]; exact h j hj
/-- one row of goes -/
theorem M_goesRow {p : Nat} (hp : p < n ∨ p = 10) (hn10 : n ≤ 10) (hn : 1 ≤ n) (h3 : TOK n Y T) : ∀ (f k : Nat) (X : mjI), k + f = 40 → MY X n Y → RI X 55 n (tk Y (gq p) T k) → RG X Y T p k → ∃ I', (Fr [19, 20] [55, 56, 62] X I' ∧ RG I' Y T p 40 ∧ ∀ j, j < 40 * p ∨ 40 * p + 40 ≤ j → I' 62 j = X 62 j) ∧ ∀ (v : Option Value) (h' : mjH), mj_Rd (mj_call mj_P (d + 4)) kc_M_layGoes 0 (66, [some (.ref 45), some (.int (nI p)), some (.int (nI 40))], [], HP L dy I' y y1 n1 w1 c y2 R J) v h' → mj_Rd (mj_call mj_P (d + 4)) kc_M_layGoes 0 (14, [some (.ref 45), some (.int (nI p)), some (.int (nI k))], [], HP L dy X y y1 n1 w1 c y2 R J) v h' := by
  intro f
  induction f with
  | zero =>
    intro k X hk hX hT hG
    have hk : k = 40 := by omega
    subst hk
    refine ⟨X, ⟨(Fr.rf X).w (by simp) (by simp), hG, fun _ _ => rfl⟩, fun v h' hx => ?_⟩
    refine mj_run 2 rfl trivial ?_
    refine mj_brt rfl rfl (by decide) ?_
    exact hx
  | succ f ih =>
    intro k X hk hX hT hG
    have hTK := tk_ok (q := gq p) hX.2.1 hn h3 k
    have hsq : sq (gq p) (if p = 10 then Int32.ofInt (-1) else nI p) := by
      by_cases e : p = 10
      · rw [if_pos e]
        unfold gq
        rw [if_pos e]
        exact sq_none
      · rw [if_neg e]
        exact sq_gq (by omega)
    obtain ⟨I1, hc1, hg1, hr1, hm1⟩ := M_goTruck (d := d) (L := L) (dy := dy) (y := y) (y1 := y1) (n1 := n1) (w1 := w1) (c := c) (y2 := y2) (R := R) (J := J) hX hn hT hTK hsq
    have e62 : I1 62 = X 62 := hg1.1 62 (by decide) (by decide) (by decide)
    have f2 := hg1.fr.tr (Fr.a I1 (a := 62) (by decide) (40 * p + k) (gv (sd Y (gq p) T k)))
    obtain ⟨I2, ⟨hf2, hG2, hO2⟩, hx2⟩ := ih (k + 1) (mj_ui I1 62 (40 * p + k) (gv (sd Y (gq p) T k))) (by omega) (hX.fr f2 (by decide)) (fun i hi => by simp [mj_ui]; exact hr1 i hi) (fun j hj => by
      by_cases e : j = k
      · subst e
        simp [mj_ui, upd]
      · have h9 := hG j (by omega)
        simp [mj_ui, upd, e, e62, h9])
    refine ⟨I2, ⟨(f2.tr hf2).w (by decide) (by decide), hG2, fun j hj => ?_⟩, fun v h' hx => ?_⟩
    · rw [hO2 j hj]
      have : j ≠ 40 * p + k := by omega
      simp [mj_ui, upd, this, e62]
    · have e5 : nI 40 * nI p + nI k = nI (40 * p + k) := by rw [pk_mul, nI_add]
      have tail : ∀ z : Int32, z = (if p = 10 then Int32.ofInt (-1) else nI p) → mj_Rd (mj_call mj_P (d + 4)) kc_M_layGoes 0 (56, [some (.ref 45), some (.int (nI p)), some (.int (nI k))], [.int z, .ref 45, .int (nI 40 * nI p + nI k), .ref 62], HP L dy X y y1 n1 w1 c y2 R J) v h' := by
        intro z hz
        subst hz
        refine mj_cal rfl rfl hc1 ?_
        refine mj_run 3 rfl ⟨by rw [e5]; exact nI_vi (by omega) (by decide), by decide⟩ ?_
        rw [e5, nI_nc (by omega), nI_add]
        exact hx2 v h' hx
      have mid : mj_Rd (mj_call mj_P (d + 4)) kc_M_layGoes 0 (34, [some (.ref 45), some (.int (nI p)), some (.int (nI k))], [], HP L dy X y y1 n1 w1 c y2 R J) v h' := by
        refine mj_run 10 rfl trivial ?_
        refine mj_bra rfl rfl (fun g => ?_) (fun g => ?_)
        · rw [nI_e (by omega) (by decide)] at g
          refine mj_run 1 rfl trivial ?_
          exact tail (nI p) (by rw [if_neg g])
        · rw [nI_e (by omega) (by decide)] at g
          refine mj_run 2 rfl trivial ?_
          exact tail _ (by rw [if_pos (Classical.not_not.mp g)])
      refine mj_run 2 rfl trivial ?_
      refine mj_brf rfl rfl (by rw [nI_leI (by decide) (by omega)]; omega) ?_
      refine mj_run 3 rfl trivial ?_
      rw [hX.1]
      refine mj_bra rfl rfl (fun g => ?_) (fun g => ?_)
      · exact mid
      · rw [nI_ltI (by omega) (by omega)] at g
        refine mj_run 2 rfl trivial ?_
        refine mj_brf rfl rfl (fun q => q ?_) mid
        rw [nI_e (by omega) (by decide)]
        omega
end MM
