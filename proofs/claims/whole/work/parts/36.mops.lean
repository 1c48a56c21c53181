section MM
variable {d L : Nat} {dy : mjM} {I : mjI} {y y1 n1 w1 c y2 : Option Nat} {R : mjR} {J : mjJ} {pn : Nat} {pg : Nat → Nat} {n : Nat} {Y : Yd} {T : Nat → Nat} {t : Nat} {tr : Nat → Nat} {kp : Kp} {wn : Nat} {wt : Nat → Nat} {yr dn : Nat}
theorem MO_truck (h : MI I pn pg n Y T t tr kp wn wt yr dn) (x i : Int32) : mj_call mj_P (d + 2) kn_M_truck [.ref 45, .int x, .int i] (HP L dy I y y1 n1 w1 c y2 R J) (some (.int (if 0 ≤ x.toInt ∧ x.toInt < 10 then (if 0 ≤ i.toInt ∧ i.toInt < 60 then nx tr x.toNatClampNeg i.toNatClampNeg t 0 0 else Int32.ofInt (-102)) else Int32.ofInt (-101)))) (HP L dy I y y1 n1 w1 c y2 R J) := by
  obtain ⟨h1, h2, h3⟩ := h.2.2.2.1
  refine mj_ci rfl (Nat.le_of_ble_eq_true rfl) ?_
  refine mj_run 4 rfl trivial ?_
  by_cases g : 0 ≤ x.toInt ∧ x.toInt < 10
  · rw [if_pos g]
    refine mj_cal rfl rfl (M_in_t ((lN9 x).mpr g)) ?_
    refine mj_brt rfl rfl (by decide) ?_
    refine mj_run 4 rfl trivial ?_
    have e59 : (lN 0 ≤ i.toInt64 ∧ i.toInt64 ≤ lN 59) ↔ (0 ≤ i.toInt ∧ i.toInt < 60) := by
      rw [Int64.le_iff_toInt_le, Int64.le_iff_toInt_le, Int32.toInt_toInt64]
      have e1 : (lN 0).toInt = 0 := rfl
      have e2 : (lN 59).toInt = 59 := rfl
      rw [e1, e2]
      omega
    by_cases g2 : 0 ≤ i.toInt ∧ i.toInt < 60
    · rw [if_pos g2]
      refine mj_cal rfl rfl (M_in_t (e59.mpr g2)) ?_
      refine mj_brt rfl rfl (by decide) ?_
      refine mj_run 4 rfl trivial ?_
      obtain ⟨s, hs, rfl⟩ := i_nI (N := 10) g
      obtain ⟨j, hj, rfl⟩ := i_nI (N := 60) g2
      rw [nI_nc (show s < 2147483648 by omega), nI_nc (show j < 2147483648 by omega)]
      have key : ∀ (f k e : Nat), k + f = t → e ≤ k → mj_Rd (mj_call mj_P (d + 1)) kc_M_truck 1 (35, [some (.ref 45), some (.int (nI s)), some (.int (nI j)), some (.int (nI e)), some (.int (nI k))], [], HP L dy I y y1 n1 w1 c y2 R J) (some (.int (nx tr s j f k e))) (HP L dy I y y1 n1 w1 c y2 R J) := by
        intro f
        induction f with
        | zero =>
          intro k e hk he
          refine mj_run 3 rfl trivial ?_
          rw [h1]
          refine mj_brt rfl rfl (by rw [nI_leI (by omega) (by omega)]; omega) ?_
          refine mj_run 1 rfl trivial ?_
          exact mj_end rfl rfl trivial
        | succ f ih =>
          intro k e hk he
          obtain ⟨q1, q2⟩ := h3 k (by omega)
          refine mj_run 3 rfl trivial ?_
          rw [h1]
          refine mj_brf rfl rfl (by rw [nI_leI (by omega) (by omega)]; omega) ?_
          refine mj_run 5 rfl (nI_vi (by omega) (by decide)) ?_
          rw [nI_nc (by omega), q1]
          unfold nx
          refine mj_bra rfl rfl (fun g => ?_) (fun g => ?_)
          · rw [nI_e (by omega) (by omega)] at g
            rw [if_neg g]
            refine mj_run 2 rfl trivial ?_
            rw [nI_add]
            exact ih (k + 1) e (by omega) (by omega)
          · rw [nI_e (by omega) (by omega)] at g
            rw [if_pos (Classical.not_not.mp g)]
            refine mj_run 2 rfl trivial ?_
            refine mj_bra rfl rfl (fun g3 => ?_) (fun g3 => ?_)
            · rw [nI_e (by omega) (by omega)] at g3
              rw [if_neg g3]
              refine mj_run 1 rfl trivial ?_
              refine mj_run 2 rfl trivial ?_
              rw [nI_add, nI_add]
              exact ih (k + 1) (e + 1) (by omega) (by omega)
            · rw [nI_e (by omega) (by omega)] at g3
              rw [if_pos (Classical.not_not.mp g3)]
              refine mj_run 1 rfl trivial ?_
              exact mj_end rfl rfl trivial
      exact key t 0 0 (by omega) (by omega)
    · rw [if_neg g2]
      refine mj_cal rfl rfl (M_in_f (fun q => g2 (e59.mp q))) ?_
      refine mj_brf rfl rfl (by decide) ?_
      refine mj_run 1 rfl trivial ?_
      exact mj_end rfl rfl trivial
  · rw [if_neg g]
    refine mj_cal rfl rfl (M_in_f (fun q => g ((lN9 x).mp q))) ?_
    refine mj_brf rfl rfl (by decide) ?_
    refine mj_run 1 rfl trivial ?_
    exact mj_end rfl rfl trivial
theorem MO_want (h : MI I pn pg n Y T t tr kp wn wt yr dn) (x : Int32) : ∃ I', mj_call mj_P (d + 2) kn_M_want [.ref 45, .int x] (HP L dy I y y1 n1 w1 c y2 R J) (some (.int (if 0 ≤ x.toInt ∧ x.toInt < 10 then (if wn = 8 then Int32.ofInt (-104) else nI (wn + 1)) else Int32.ofInt (-101)))) (HP L dy I' y y1 n1 w1 c y2 R J) ∧ (if (0 ≤ x.toInt ∧ x.toInt < 10) ∧ ¬ wn = 8 then MI I' pn pg n Y T t tr kp (wn + 1) (fu wt wn x.toNatClampNeg) yr dn else MI I' pn pg n Y T t tr kp wn wt yr dn) ∧ Fr [22] [58] I I' := by
  have h0 := h
  obtain ⟨h1, h2, h3, h4, h5, h6, h7⟩ := h
  obtain ⟨k1, k2, k3⟩ := h6
  by_cases g : 0 ≤ x.toInt ∧ x.toInt < 10
  · rw [if_pos g]
    by_cases g2 : wn = 8
    · rw [if_pos g2]
      have hA : ¬ ((0 ≤ x.toInt ∧ x.toInt < 10) ∧ ¬ wn = 8) := fun q => q.2 g2
      simp only [hA, if_false]
      refine ⟨I, ?_, h0, (Fr.rf I).w (by simp) (by simp)⟩
      refine mj_ci rfl (Nat.le_of_ble_eq_true rfl) ?_
      refine mj_run 4 rfl trivial ?_
      refine mj_cal rfl rfl (M_in_t ((lN9 x).mpr g)) ?_
      refine mj_brt rfl rfl (by decide) ?_
      refine mj_run 3 rfl trivial ?_
      rw [k1, g2]
      refine mj_brf rfl rfl (by decide) ?_
      refine mj_run 1 rfl trivial ?_
      exact mj_end rfl rfl trivial
    · rw [if_neg g2]
      have hA : (0 ≤ x.toInt ∧ x.toInt < 10) ∧ ¬ wn = 8 := ⟨g, g2⟩
      simp only [if_pos hA]
      obtain ⟨s, hs, rfl⟩ := i_nI (N := 10) g
      have f := (Fr.a I (a := 58) (by decide) wn (nI s)).tr (Fr.u (mj_ui I 58 wn (nI s)) 22 (nI (wn + 1)))
      refine ⟨mj_ui (mj_ui I 58 wn (nI s)) 45 22 (nI (wn + 1)), ?_, ⟨h1.fr f (by decide), h2.fr f (by decide), h3.fr f (by decide), h4.fr f (by decide), h5.fr f (by decide), ⟨by simp [mj_ui, upd], by omega, fun i hi => ?_⟩, h7.fr f (by decide)⟩, f⟩
      · refine mj_ci rfl (Nat.le_of_ble_eq_true rfl) ?_
        refine mj_run 4 rfl trivial ?_
        refine mj_cal rfl rfl (M_in_t ((lN9 _).mpr g)) ?_
        refine mj_brt rfl rfl (by decide) ?_
        refine mj_run 3 rfl trivial ?_
        rw [k1]
        refine mj_brt rfl rfl (by rw [nI_e (by omega) (by decide)]; exact g2) ?_
        refine mj_run 14 rfl ⟨by rw [k1]; exact nI_vi (by omega) (by decide), by decide⟩ ?_
        have e1 : mj_ui I 58 (I 45 22).toNatClampNeg (nI s) = mj_ui I 58 wn (nI s) := by rw [k1, nI_nc (by omega)]
        have e2 : mj_ui I 58 wn (nI s) 45 22 = nI wn := by simp [mj_ui, k1]
        rw [e1, e2, nI_add]
        refine mj_endI rfl rfl trivial ?_ rfl
        simp [mj_ui, upd]
      · rw [nI_nc (show s < 2147483648 by omega)]
        by_cases hi2 : i = wn
        · subst hi2
          simp [mj_ui, upd, fu, hs]
        · have := k3 i (by omega)
          simp [mj_ui, upd, fu, hi2, this]
  · rw [if_neg g]
    have hA : ¬ ((0 ≤ x.toInt ∧ x.toInt < 10) ∧ ¬ wn = 8) := fun q => g q.1
    simp only [hA, if_false]
    refine ⟨I, ?_, h0, (Fr.rf I).w (by simp) (by simp)⟩
    refine mj_ci rfl (Nat.le_of_ble_eq_true rfl) ?_
    refine mj_run 4 rfl trivial ?_
    refine mj_cal rfl rfl (M_in_f (fun q => g ((lN9 x).mp q))) ?_
    refine mj_brf rfl rfl (by decide) ?_
    refine mj_run 1 rfl trivial ?_
    exact mj_end rfl rfl trivial
theorem cp_loop {cd : List (Option mjE)} {rt : Nat} {v : Option Value} {h' : mjH} {K : mjK} {dst src N pc : Nat} {a : mjI} (hne : src ≠ dst) (P : Nat → mjI → Prop) (hx : P N (cpI a dst src N)) (hs : ∀ p, p < N → P (p + 1) (mj_ui (cpI a dst src p) dst p (cpI a dst src p src p)) → P p (cpI a dst src p)) : P 0 a := by
  have := dn_ind N (fun p => P p (cpI a dst src p)) hx (fun p hp ih => hs p hp (by rw [cpI_s hne]; exact ih)) 0 (by omega)
  rwa [cpI_0] at this
theorem MO_down (h : MI I pn pg n Y T t tr kp wn wt yr dn) : ∃ I', mj_call mj_P (d + 5) kn_M_down [.ref 45] (HP L dy I y y1 n1 w1 c y2 R J) (some (.int (if n = 0 then Int32.ofInt (-103) else if t = 60 then Int32.ofInt (-104) else gv (gt Y none T).1))) (HP L dy I' y y1 n1 w1 c y2 R J) ∧ (match (if n = 0 ∨ t = 60 then none else (gt Y none T).1) with
    | none => MI I' pn pg n Y T t tr kp wn wt yr dn
    | some s => MI I' pn pg n Y (gt Y none T).2.1 (t + 1) (fu tr t s) kp wn wt yr dn) ∧ Fr [15, 19, 20] [53, 54, 55, 56] I I' := by
  have h0 := h
  obtain ⟨h1, h2, h3, h4, h5, h6, h7⟩ := h
  have hn10 : n ≤ 10 := h2.2.1.1
  by_cases hn : n = 0
  · rw [if_pos hn, if_pos (Or.inl hn)]
    refine ⟨I, ?_, h0, (Fr.rf I).w (by simp) (by simp)⟩
    refine mj_ci rfl (Nat.le_of_ble_eq_true rfl) ?_
    refine mj_run 1 rfl trivial ?_
    refine mj_cal rfl rfl (M_lacks h2) ?_
    rw [if_pos hn]
    refine mj_brf rfl rfl (by decide) ?_
    refine mj_run 1 rfl trivial ?_
    exact mj_end rfl rfl trivial
  · rw [if_neg hn]
    obtain ⟨k1, k2, k3⟩ := id h4
    by_cases ht : t = 60
    · rw [if_pos ht, if_pos (Or.inr ht)]
      refine ⟨I, ?_, h0, (Fr.rf I).w (by simp) (by simp)⟩
      refine mj_ci rfl (Nat.le_of_ble_eq_true rfl) ?_
      refine mj_run 1 rfl trivial ?_
      refine mj_cal rfl rfl (M_lacks h2) ?_
      rw [if_neg hn]
      refine mj_brt rfl rfl (by decide) ?_
      refine mj_run 3 rfl trivial ?_
      rw [k1, ht]
      refine mj_brf rfl rfl (by decide) ?_
      refine mj_run 1 rfl trivial ?_
      exact mj_end rfl rfl trivial
    · rw [if_neg ht, if_neg (by omega)]
      have fc := Fr.c I (dst := 55) (by decide) 53 10
      have hYc : MY (cpI I 55 53 10) n Y := h2.fr fc (by decide)
      have hTc : RI (cpI I 55 53 10) 55 n T := fun i hi => by rw [cpI_at (by omega)]; exact h3.1 i hi
      obtain ⟨I1, hc1, hg1, hr1, hm1⟩ := M_goTruck (d := d) (L := L) (dy := dy) (y := y) (y1 := y1) (n1 := n1) (w1 := w1) (c := c) (y2 := y2) (R := R) (J := J) hYc (by omega) hTc h3.2 sq_none
      have f1 := fc.tr hg1.fr
      obtain ⟨q1, q2, q3⟩ := gt_ok (q := none) h2.2.1 (by omega) h3.2
      have pre : ∀ (v : Option Value) (h' : mjH), mj_Rd (mj_call mj_P (d + 4)) kc_M_down 1 (31, [some (.ref 45), none, none], [.int (gv (gt Y none T).1)], HP L dy I1 y y1 n1 w1 c y2 R J) v h' → mj_call mj_P (d + 5) kn_M_down [.ref 45] (HP L dy I y y1 n1 w1 c y2 R J) v h' := by
        intro v h' hx
        refine mj_ci rfl (Nat.le_of_ble_eq_true rfl) ?_
        refine mj_run 1 rfl trivial ?_
        refine mj_cal rfl rfl (M_lacks h2) ?_
        rw [if_neg hn]
        refine mj_brt rfl rfl (by decide) ?_
        refine mj_run 3 rfl trivial ?_
        rw [k1]
        refine mj_brt rfl rfl (by rw [nI_e (by omega) (by decide)]; exact ht) ?_
        refine mj_run 1 rfl trivial ?_
        refine mj_cal rfl rfl M_layTried ?_
        refine mj_run 2 rfl trivial ?_
        exact mj_cal rfl rfl hc1 hx
      cases hg : (gt Y none T).1 with
      | none =>
        rw [hg] at pre
        refine ⟨I1, pre _ _ ?_, h0.work (f1.w (by decide) (by decide)), f1.w (by decide) (by decide)⟩
        refine mj_run 3 rfl trivial ?_
        refine mj_brf rfl rfl (fun q => q rfl) ?_
        refine mj_run 1 rfl trivial ?_
        exact mj_end rfl rfl trivial
      | some s =>
        have hs := q1 s hg
        rw [hg] at pre
        have e15 : I1 45 15 = nI t := (f1.2 15 (by decide)).trans k1
        have f2 := (f1.tr (Fr.c I1 (dst := 53) (by decide) 55 10)).tr ((Fr.a (cpI I1 53 55 10) (a := 54) (by decide) t (nI s)).tr (Fr.u (mj_ui (cpI I1 53 55 10) 54 t (nI s)) 15 (nI (t + 1))))
        refine ⟨mj_ui (mj_ui (cpI I1 53 55 10) 54 t (nI s)) 45 15 (nI (t + 1)), pre _ _ ?_, ⟨h1.fr f2 (by decide), h2.fr f2 (by decide), ⟨fun i hi => ?_, q2⟩, ⟨by simp [mj_ui, upd], by omega, fun i hi => ?_⟩, h5.fr f2 (by decide), h6.fr f2 (by decide), h7.fr f2 (by decide)⟩, f2.w (by decide) (by decide)⟩
        · refine mj_run 3 rfl trivial ?_
          refine mj_brt rfl rfl (fun q => ?_) ?_
          · exact absurd ((sq_none s hs).mp q) (by simp)
          refine mj_run 2 rfl trivial ?_
          refine cp_loop (cd := kc_M_down) (rt := 1) (v := none) (h' := HP L dy I y y1 n1 w1 c y2 R J) (K := mj_call mj_P d) (pc := 0) (dst := 53) (src := 55) (N := 10) (a := I1) (by decide) (fun p X => mj_Rd (mj_call mj_P (d + 4)) kc_M_down 1 (41, [some (.ref 45), some (.int (gv (some s))), some (.int (nI p))], [], HP L dy X y y1 n1 w1 c y2 R J) (some (.int (gv (some s)))) (HP L dy (mj_ui (mj_ui (cpI I1 53 55 10) 54 t (nI s)) 45 15 (nI (t + 1))) y y1 n1 w1 c y2 R J)) ?_ ?_
          · refine mj_run 2 rfl trivial ?_
            refine mj_brt rfl rfl (by decide) ?_
            have e15c : cpI I1 53 55 10 45 15 = nI t := by rw [cpI_ne (by decide)]; exact e15
            refine mj_run 13 rfl ⟨by rw [e15c]; exact nI_vi (by omega) (by decide), by decide⟩ ?_
            rw [e15c, nI_nc (by omega)]
            have e2 : mj_ui (cpI I1 53 55 10) 54 t (gv (some s)) 45 15 = nI t := by simp [mj_ui, e15c]
            rw [e2, nI_add]
            exact mj_end rfl rfl trivial
          · intro p hp ih
            refine mj_run 2 rfl trivial ?_
            refine mj_brf rfl rfl (by rw [nI_leI (by decide) (by omega)]; omega) ?_
            refine mj_run 10 rfl ⟨nI_vi (by omega) (by decide), nI_vi (by omega) (by decide), by decide⟩ ?_
            rw [nI_nc (by omega), nI_add]
            exact ih
        · have := hr1 i hi
          simp [mj_ui, upd, cpI, show i < 10 by omega, this]
        · have e54 : I1 54 = I 54 := f1.1 54 (by decide) (by decide)
          by_cases hi2 : i = t
          · subst hi2
            simp [mj_ui, upd, fu, hs]
          · have := k3 i (by omega)
            simp [mj_ui, upd, fu, hi2, cpI, e54, this]
end MM
