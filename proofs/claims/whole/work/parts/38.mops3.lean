section MM
variable {d L : Nat} {dy : mjM} {I : mjI} {y y1 n1 w1 c y2 : Option Nat} {R : mjR} {J : mjJ} {pn : Nat} {pg : Nat → Nat} {n : Nat} {Y : Yd} {T : Nat → Nat} {t : Nat} {tr : Nat → Nat} {kp : Kp} {wn : Nat} {wt : Nat → Nat} {yr dn : Nat}
/-- whether a kind may be taken as k -/
def asF (Y : Yd) (p k : Nat) : Int32 := if k = 0 ∨ k = Y.1 p ∨ (k = 1 ∧ Y.1 p = 3) then nI p else Int32.ofInt (-1)
theorem MO_as (h : MI I pn pg n Y T t tr kp wn wt yr dn) (x z : Int32) : mj_call mj_P (d + 3) kn_M_as [.ref 45, .int x, .int z] (HP L dy I y y1 n1 w1 c y2 R J) (some (.int (if 0 ≤ x.toInt ∧ x.toInt < n then (if 0 ≤ z.toInt ∧ z.toInt < 4 then asF Y x.toNatClampNeg z.toNatClampNeg else Int32.ofInt (-102)) else Int32.ofInt (-101)))) (HP L dy I y y1 n1 w1 c y2 R J) := by
  have h2 := h.2.1
  have hn : n ≤ 10 := h2.2.1.1
  refine mj_ci rfl (Nat.le_of_ble_eq_true rfl) ?_
  refine mj_run 2 rfl trivial ?_
  refine mj_cal rfl rfl (M_isPoint h2 x) ?_
  by_cases g : 0 ≤ x.toInt ∧ x.toInt < n
  · rw [if_pos g, if_pos g]
    refine mj_brt rfl rfl (by decide) ?_
    refine mj_run 4 rfl trivial ?_
    obtain ⟨p, hp, rfl⟩ := i_nI g
    have hc : (nI p).toNatClampNeg = p := nI_nc (by omega)
    rw [hc]
    obtain ⟨k1, k2, k3, -⟩ := h2.2.1.2 p hp
    obtain ⟨e1, e2, e3⟩ := h2.2.2 p hp
    have vi : vp_in (nI p) 10 := nI_vi (by omega) (by decide)
    have ez : (lN 0 ≤ z.toInt64 ∧ z.toInt64 ≤ lN 3) ↔ (0 ≤ z.toInt ∧ z.toInt < 4) := by
      rw [Int64.le_iff_toInt_le, Int64.le_iff_toInt_le, Int32.toInt_toInt64]
      have q1 : (lN 0).toInt = 0 := rfl
      have q2 : (lN 3).toInt = 3 := rfl
      rw [q1, q2]
      omega
    by_cases g2 : 0 ≤ z.toInt ∧ z.toInt < 4
    · rw [if_pos g2]
      refine mj_cal rfl rfl (M_in_t (ez.mpr g2)) ?_
      refine mj_brt rfl rfl (by decide) ?_
      obtain ⟨k, hk, rfl⟩ := i_nI (N := 4) g2
      rw [nI_nc (show k < 2147483648 by omega)]
      have yes : ∀ (A : k = 0 ∨ k = Y.1 p ∨ (k = 1 ∧ Y.1 p = 3)) (l3 : Option Value), mj_Rd (mj_call mj_P (d + 2)) kc_M_as 1 (55, [some (.ref 45), some (.int (nI p)), some (.int (nI k)), none], [], HP L dy I y y1 n1 w1 c y2 R J) (some (.int (asF Y p k))) (HP L dy I y y1 n1 w1 c y2 R J) := by
        intro A l3
        unfold asF
        rw [if_pos A]
        refine mj_run 2 rfl trivial ?_
        refine mj_run 2 rfl trivial ?_
        refine mj_brf rfl rfl (by decide) ?_
        refine mj_run 2 rfl trivial ?_
        exact mj_end rfl rfl trivial
      have no : ∀ (A : ¬ (k = 0 ∨ k = Y.1 p ∨ (k = 1 ∧ Y.1 p = 3))), mj_Rd (mj_call mj_P (d + 2)) kc_M_as 1 (59, [some (.ref 45), some (.int (nI p)), some (.int (nI k)), none], [], HP L dy I y y1 n1 w1 c y2 R J) (some (.int (asF Y p k))) (HP L dy I y y1 n1 w1 c y2 R J) := by
        intro A
        unfold asF
        rw [if_neg A]
        refine mj_run 1 rfl trivial ?_
        refine mj_run 2 rfl trivial ?_
        refine mj_brt rfl rfl (by decide) ?_
        refine mj_run 1 rfl trivial ?_
        exact mj_end rfl rfl trivial
      refine mj_run 1 rfl trivial ?_
      refine mj_bra rfl rfl (fun a1 => ?_) (fun a1 => ?_)
      · rw [nI_z (by omega)] at a1
        exact yes (Or.inl a1) none
      · rw [nI_z (by omega)] at a1
        refine mj_run 5 rfl vi ?_
        rw [hc, e1]
        refine mj_bra rfl rfl (fun a2 => ?_) (fun a2 => ?_)
        · rw [nI_e (by omega) (by omega)] at a2
          exact yes (Or.inr (Or.inl a2)) none
        · rw [nI_e (by omega) (by omega)] at a2
          refine mj_run 2 rfl trivial ?_
          refine mj_bra rfl rfl (fun a3 => ?_) (fun a3 => ?_)
          · rw [nI_e (by omega) (by decide)] at a3
            exact no (by omega)
          · rw [nI_e (by omega) (by decide)] at a3
            refine mj_run 5 rfl vi ?_
            rw [hc, e1]
            refine mj_bra rfl rfl (fun a4 => ?_) (fun a4 => ?_)
            · rw [nI_e (by omega) (by decide)] at a4
              exact no (by omega)
            · rw [nI_e (by omega) (by decide)] at a4
              exact yes (by omega) none
    · rw [if_neg g2]
      refine mj_cal rfl rfl (M_in_f (fun q => g2 (ez.mp q))) ?_
      refine mj_brf rfl rfl (by decide) ?_
      refine mj_run 1 rfl trivial ?_
      exact mj_end rfl rfl trivial
  · rw [if_neg g, if_neg g]
    refine mj_brf rfl rfl (by decide) ?_
    refine mj_run 1 rfl trivial ?_
    exact mj_end rfl rfl trivial
theorem M_countOf (h : MI I pn pg n Y T t tr kp wn wt yr dn) (x : Int32) : mj_call mj_P (d + 1) kn_M_countOf [.ref 45, .int x] (HP L dy I y y1 n1 w1 c y2 R J) (some (.int (tb (ctF n t wn pn yr dn) 6 (Int32.ofInt (-102)) x))) (HP L dy I y y1 n1 w1 c y2 R J) := by
  obtain ⟨h1, h2, h3, h4, h5, h6, h7⟩ := h
  refine mj_ci rfl (Nat.le_of_ble_eq_true rfl) ?_
  refine mj_run 2 rfl trivial ?_
  rcases i_cases x 6 with hx | ⟨k, hk, rfl⟩
  · rw [tb_out hx, mj_sw_out hx]
    refine mj_run 1 rfl trivial ?_
    exact mj_end rfl rfl trivial
  · rw [tb_in hk (by decide)]
    match k, hk with
    | 0, _ =>
      rw [mj_sw_nI (q := 40) (by decide) rfl]
      refine mj_run 2 rfl trivial ?_
      rw [h2.1]
      exact mj_end rfl rfl trivial
    | 1, _ =>
      rw [mj_sw_nI (q := 45) (by decide) rfl]
      refine mj_run 2 rfl trivial ?_
      rw [h4.1]
      exact mj_end rfl rfl trivial
    | 2, _ =>
      rw [mj_sw_nI (q := 50) (by decide) rfl]
      refine mj_run 2 rfl trivial ?_
      rw [h6.1]
      exact mj_end rfl rfl trivial
    | 3, _ =>
      rw [mj_sw_nI (q := 55) (by decide) rfl]
      refine mj_run 2 rfl trivial ?_
      rw [h1.1]
      exact mj_end rfl rfl trivial
    | 4, _ =>
      rw [mj_sw_nI (q := 60) (by decide) rfl]
      refine mj_run 2 rfl trivial ?_
      rw [h7.1]
      exact mj_end rfl rfl trivial
    | 5, _ =>
      rw [mj_sw_nI (q := 65) (by decide) rfl]
      refine mj_run 2 rfl trivial ?_
      rw [h7.2.2.1]
      exact mj_end rfl rfl trivial
    | q + 6, hq => omega
theorem MO_count (h : MI I pn pg n Y T t tr kp wn wt yr dn) (x : Int32) : mj_call mj_P (d + 2) kn_M_count [.ref 45, .int x] (HP L dy I y y1 n1 w1 c y2 R J) (some (.int (tb (ctF n t wn pn yr dn) 6 (Int32.ofInt (-102)) x))) (HP L dy I y y1 n1 w1 c y2 R J) := by
  refine mj_ci rfl (Nat.le_of_ble_eq_true rfl) ?_
  refine mj_run 2 rfl trivial ?_
  refine mj_cal rfl rfl (M_countOf h x) ?_
  exact mj_end rfl rfl trivial
theorem M_movesOf (h2 : MY I n Y) (h3 : Mst I n Y T) (hn : 1 ≤ n) : ∃ I', mj_call mj_P (d + 5) kn_M_movesOf [.ref 45] (HP L dy I y y1 n1 w1 c y2 R J) (some (.int (nI (gt Y none T).2.2))) (HP L dy I' y y1 n1 w1 c y2 R J) ∧ Fr [19, 20] [55, 56] I I' := by
  have hn10 : n ≤ 10 := h2.2.1.1
  have fc := Fr.c I (dst := 55) (by decide) 53 10
  have hYc : MY (cpI I 55 53 10) n Y := h2.fr fc (by decide)
  have hTc : RI (cpI I 55 53 10) 55 n T := fun i hi => by rw [cpI_at (by omega)]; exact h3.1 i hi
  obtain ⟨I1, hc1, hg1, hr1, hm1⟩ := M_goTruck (d := d) (L := L) (dy := dy) (y := y) (y1 := y1) (n1 := n1) (w1 := w1) (c := c) (y2 := y2) (R := R) (J := J) hYc hn hTc h3.2 sq_none
  have f1 := fc.tr hg1.fr
  refine ⟨I1, ?_, f1.w (by decide) (by decide)⟩
  refine mj_ci rfl (Nat.le_of_ble_eq_true rfl) ?_
  refine mj_run 1 rfl trivial ?_
  refine mj_cal rfl rfl M_layTried ?_
  refine mj_run 2 rfl trivial ?_
  refine mj_cal rfl rfl hc1 ?_
  refine mj_run 3 rfl trivial ?_
  rw [hm1]
  exact mj_end rfl rfl trivial
theorem MO_moves (h : MI I pn pg n Y T t tr kp wn wt yr dn) : ∃ I', mj_call mj_P (d + 6) kn_M_moves [.ref 45] (HP L dy I y y1 n1 w1 c y2 R J) (some (.int (if n = 0 then Int32.ofInt (-103) else nI (gt Y none T).2.2))) (HP L dy I' y y1 n1 w1 c y2 R J) ∧ MI I' pn pg n Y T t tr kp wn wt yr dn ∧ Fr wk wa' I I' := by
  by_cases hn : n = 0
  · rw [if_pos hn]
    refine ⟨I, ?_, h, (Fr.rf I).w (by simp) (by simp)⟩
    refine mj_ci rfl (Nat.le_of_ble_eq_true rfl) ?_
    refine mj_run 1 rfl trivial ?_
    refine mj_cal rfl rfl (M_lacks h.2.1) ?_
    rw [if_pos hn]
    refine mj_brf rfl rfl (by decide) ?_
    refine mj_run 2 rfl trivial ?_
    exact mj_end rfl rfl trivial
  · rw [if_neg hn]
    obtain ⟨I1, hc, hf⟩ := M_movesOf (d := d) (L := L) (dy := dy) (y := y) (y1 := y1) (n1 := n1) (w1 := w1) (c := c) (y2 := y2) (R := R) (J := J) h.2.1 h.2.2.1 (by omega)
    have hf2 := hf.w (ks' := wk) (as' := wa') (by decide) (by decide)
    refine ⟨I1, ?_, h.work hf2, hf2⟩
    refine mj_ci rfl (Nat.le_of_ble_eq_true rfl) ?_
    refine mj_run 1 rfl trivial ?_
    refine mj_cal rfl rfl (M_lacks h.2.1) ?_
    rw [if_neg hn]
    refine mj_brt rfl rfl (by decide) ?_
    refine mj_run 1 rfl trivial ?_
    refine mj_cal rfl rfl hc ?_
    exact mj_end rfl rfl trivial
theorem MO_image (h : MI I pn pg n Y T t tr kp wn wt yr dn) : ∃ I', mj_call mj_P (d + 2) kn_M_image [.ref 45] (HP L dy I y y1 n1 w1 c y2 R J) (some (.int (if n = 0 then Int32.ofInt (-103) else nI t))) (HP L dy I' y y1 n1 w1 c y2 R J) ∧ MI I' pn pg n Y T t tr (if n = 0 then kp else some (t, tr, T)) wn wt yr dn ∧ Fr [29, 30] [63, 64] I I' := by
  have h0 := h
  obtain ⟨h1, h2, h3, h4, h5, h6, h7⟩ := h
  by_cases hn : n = 0
  · rw [if_pos hn, if_pos hn]
    refine ⟨I, ?_, h0, (Fr.rf I).w (by simp) (by simp)⟩
    refine mj_ci rfl (Nat.le_of_ble_eq_true rfl) ?_
    refine mj_run 1 rfl trivial ?_
    refine mj_cal rfl rfl (M_lacks h2) ?_
    rw [if_pos hn]
    refine mj_brf rfl rfl (by decide) ?_
    refine mj_run 1 rfl trivial ?_
    exact mj_end rfl rfl trivial
  · rw [if_neg hn, if_neg hn]
    have hn10 : n ≤ 10 := h2.2.1.1
    obtain ⟨t1, t2, t3⟩ := id h4
    have fa := Fr.c I (dst := 63) (by decide) 53 10
    have fb := fa.tr (Fr.c (cpI I 63 53 10) (dst := 64) (by decide) 54 60)
    have f := (fb.tr (Fr.u _ 29 (nI t))).tr (Fr.u _ 30 (nI yr))
    have e15 : cpI (cpI I 63 53 10) 64 54 60 45 15 = nI t := (fb.2 15 (by decide)).trans t1
    have e10 : cpI (cpI I 63 53 10) 64 54 60 45 10 = nI yr := (fb.2 10 (by decide)).trans h7.1
    refine ⟨_, ?_, ⟨h1.fr f (by decide), h2.fr f (by decide), h3.fr f (by decide), h4.fr f (by decide), ⟨by simp [mj_ui, upd], t2, by simp [mj_ui, upd], fun i hi => ?_, fun i hi => ?_, h3.2⟩, h6.fr f (by decide), h7.fr f (by decide)⟩, f⟩
    · refine mj_ci rfl (Nat.le_of_ble_eq_true rfl) ?_
      refine mj_run 1 rfl trivial ?_
      refine mj_cal rfl rfl (M_lacks h2) ?_
      rw [if_neg hn]
      refine mj_brt rfl rfl (by decide) ?_
      refine mj_run 2 rfl trivial ?_
      refine cp_loop (cd := kc_M_image) (rt := 1) (v := none) (h' := HP L dy I y y1 n1 w1 c y2 R J) (K := mj_call mj_P d) (pc := 0) (dst := 63) (src := 53) (N := 10) (a := I) (by decide) (fun p X => mj_Rd (mj_call mj_P (d + 1)) kc_M_image 1 (12, [some (.ref 45), some (.int (nI p))], [], HP L dy X y y1 n1 w1 c y2 R J) (some (.int (nI t))) (HP L dy (mj_ui (mj_ui (cpI (cpI I 63 53 10) 64 54 60) 45 29 (nI t)) 45 30 (nI yr)) y y1 n1 w1 c y2 R J)) ?_ ?_
      · refine mj_run 2 rfl trivial ?_
        refine mj_brt rfl rfl (by decide) ?_
        refine mj_run 2 rfl trivial ?_
        refine cp_loop (cd := kc_M_image) (rt := 1) (v := none) (h' := HP L dy I y y1 n1 w1 c y2 R J) (K := mj_call mj_P d) (pc := 0) (dst := 64) (src := 54) (N := 60) (a := cpI I 63 53 10) (by decide) (fun p X => mj_Rd (mj_call mj_P (d + 1)) kc_M_image 1 (38, [some (.ref 45), some (.int (nI p))], [], HP L dy X y y1 n1 w1 c y2 R J) (some (.int (nI t))) (HP L dy (mj_ui (mj_ui (cpI (cpI I 63 53 10) 64 54 60) 45 29 (nI t)) 45 30 (nI yr)) y y1 n1 w1 c y2 R J)) ?_ ?_
        · refine mj_run 2 rfl trivial ?_
          refine mj_brt rfl rfl (by decide) ?_
          refine mj_run 10 rfl trivial ?_
          refine mj_endI rfl rfl trivial ?_ ?_
          · simp [mj_ui, upd, e15]
          · simp [mj_ui, upd, e15, e10]
        · intro p hp ih
          refine mj_run 2 rfl trivial ?_
          refine mj_brf rfl rfl (by rw [nI_leI (by decide) (by omega)]; omega) ?_
          refine mj_run 10 rfl ⟨nI_vi (by omega) (by decide), nI_vi (by omega) (by decide), by decide⟩ ?_
          rw [nI_nc (by omega), nI_add]
          exact ih
      · intro p hp ih
        refine mj_run 2 rfl trivial ?_
        refine mj_brf rfl rfl (by rw [nI_leI (by decide) (by omega)]; omega) ?_
        refine mj_run 10 rfl ⟨nI_vi (by omega) (by decide), nI_vi (by omega) (by decide), by decide⟩ ?_
        rw [nI_nc (by omega), nI_add]
        exact ih
    · have := t3 i hi
      simp [mj_ui, cpI, show i < 60 by omega, this]
    · have := h3.1 i hi
      simp [mj_ui, cpI, show i < 10 by omega, this]
theorem MO_restore (h : MI I pn pg n Y T t tr kp wn wt yr dn) : ∃ I', mj_call mj_P (d + 1) kn_M_restore [.ref 45] (HP L dy I y y1 n1 w1 c y2 R J) (some (.int (match kp with | none => Int32.ofInt (-103) | some q => nI q.1))) (HP L dy I' y y1 n1 w1 c y2 R J) ∧ MI I' pn pg n Y (match kp with | none => T | some q => q.2.2) (match kp with | none => t | some q => q.1) (match kp with | none => tr | some q => q.2.1) kp wn wt yr dn ∧ Fr [15] [53, 54] I I' := by
  have h0 := h
  obtain ⟨h1, h2, h3, h4, h5, h6, h7⟩ := h
  cases kp with
  | none =>
    refine ⟨I, ?_, h0, (Fr.rf I).w (by simp) (by simp)⟩
    refine mj_ci rfl (Nat.le_of_ble_eq_true rfl) ?_
    refine mj_run 3 rfl trivial ?_
    have fin : mj_Rd (mj_call mj_P d) kc_M_restore 1 (19, [some (.ref 45), none], [], HP L dy I y y1 n1 w1 c y2 R J) (some (.int (Int32.ofInt (-103)))) (HP L dy I y y1 n1 w1 c y2 R J) := by
      refine mj_run 1 rfl trivial ?_
      exact mj_end rfl rfl trivial
    rcases h5 with h5 | ⟨ky, h5, hk⟩
    · exact mj_brt rfl rfl h5 fin
    · refine mj_bra rfl rfl (fun _ => fin) (fun _ => ?_)
      refine mj_run 4 rfl trivial ?_
      rw [h5, h7.1]
      have hy := h7.2.1
      refine mj_brf rfl rfl (by rw [nI_e (by omega) (by omega)]; omega) ?_
      exact fin
  | some q =>
    obtain ⟨kt, ktr, kT⟩ := q
    obtain ⟨k1, k2, k3, k4, k5, k6⟩ := id h5
    have hn10 : n ≤ 10 := h2.2.1.1
    have fa := Fr.c I (dst := 53) (by decide) 63 10
    have fb := fa.tr (Fr.c (cpI I 53 63 10) (dst := 54) (by decide) 64 60)
    have f := fb.tr (Fr.u _ 15 (nI kt))
    have e29 : cpI (cpI I 53 63 10) 54 64 60 45 29 = nI kt := (fb.2 29 (by decide)).trans k1
    refine ⟨_, ?_, ⟨h1.fr f (by decide), h2.fr f (by decide), ⟨fun i hi => ?_, k6⟩, ⟨by simp [mj_ui, upd], k2, fun i hi => ?_⟩, h5.fr f (by decide), h6.fr f (by decide), h7.fr f (by decide)⟩, f⟩
    · refine mj_ci rfl (Nat.le_of_ble_eq_true rfl) ?_
      refine mj_run 3 rfl trivial ?_
      rw [k1]
      refine mj_brf rfl rfl (fun q => absurd q (by
        intro q
        have := congrArg Int32.toInt q
        rw [nI_toInt (by omega)] at this
        have e : (Int32.ofInt (-1)).toInt = -1 := rfl
        rw [e] at this
        omega)) ?_
      refine mj_run 4 rfl trivial ?_
      rw [k3, h7.1]
      refine mj_brt rfl rfl rfl ?_
      refine mj_run 2 rfl trivial ?_
      refine cp_loop (cd := kc_M_restore) (rt := 1) (v := none) (h' := HP L dy I y y1 n1 w1 c y2 R J) (K := mj_call mj_P d) (pc := 0) (dst := 53) (src := 63) (N := 10) (a := I) (by decide) (fun p X => mj_Rd (mj_call mj_P d) kc_M_restore 1 (24, [some (.ref 45), some (.int (nI p))], [], HP L dy X y y1 n1 w1 c y2 R J) (some (.int (nI kt))) (HP L dy (mj_ui (cpI (cpI I 53 63 10) 54 64 60) 45 15 (nI kt)) y y1 n1 w1 c y2 R J)) ?_ ?_
      · refine mj_run 2 rfl trivial ?_
        refine mj_brt rfl rfl (by decide) ?_
        refine mj_run 2 rfl trivial ?_
        refine cp_loop (cd := kc_M_restore) (rt := 1) (v := none) (h' := HP L dy I y y1 n1 w1 c y2 R J) (K := mj_call mj_P d) (pc := 0) (dst := 54) (src := 64) (N := 60) (a := cpI I 53 63 10) (by decide) (fun p X => mj_Rd (mj_call mj_P d) kc_M_restore 1 (50, [some (.ref 45), some (.int (nI p))], [], HP L dy X y y1 n1 w1 c y2 R J) (some (.int (nI kt))) (HP L dy (mj_ui (cpI (cpI I 53 63 10) 54 64 60) 45 15 (nI kt)) y y1 n1 w1 c y2 R J)) ?_ ?_
        · refine mj_run 2 rfl trivial ?_
          refine mj_brt rfl rfl (by decide) ?_
          refine mj_run 6 rfl trivial ?_
          refine mj_endI rfl rfl trivial ?_ ?_
          · simp [mj_ui, upd, e29]
          · rw [e29]
        · intro p hp ih
          refine mj_run 2 rfl trivial ?_
          refine mj_brf rfl rfl (by rw [nI_leI (by decide) (by omega)]; omega) ?_
          refine mj_run 10 rfl ⟨nI_vi (by omega) (by decide), nI_vi (by omega) (by decide), by decide⟩ ?_
          rw [nI_nc (by omega), nI_add]
          exact ih
      · intro p hp ih
        refine mj_run 2 rfl trivial ?_
        refine mj_brf rfl rfl (by rw [nI_leI (by decide) (by omega)]; omega) ?_
        refine mj_run 10 rfl ⟨nI_vi (by omega) (by decide), nI_vi (by omega) (by decide), by decide⟩ ?_
        rw [nI_nc (by omega), nI_add]
        exact ih
    · have := k5 i hi
      simp [mj_ui, cpI, show i < 10 by omega, this]
    · have hi : i < kt := hi
      have := k4 i hi
      simp [mj_ui, cpI, show i < 60 by omega, this]
end MM
