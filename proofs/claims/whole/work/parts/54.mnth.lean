theorem bh_ok {n : Nat} {Y : Yd} (h : YOK n Y) {T : Nat → Nat} (hT : TOK n Y T) {ng : Bool} {N W : Nat} : TOK n Y (bh Y n T ng N W) := fun p hp => by
  unfold bh
  split
  · exact thn_in h hp
  · exact hT p hp
theorem sb_strt {n : Nat} {Y : Yd} (h : YOK n Y) (hn : 1 ≤ n) : sb Y n n = true ↔ strt Y n := sb_iff h hn n (Nat.le_refl n)
theorem lN_rng {x : Int32} {lo hi : Nat} (hl : lo < 2147483648) (hh : hi < 2147483648) : (lN lo ≤ x.toInt64 ∧ x.toInt64 ≤ lN hi) ↔ ((lo : Int) ≤ x.toInt ∧ x.toInt ≤ hi) := by
  rw [Int64.le_iff_toInt_le, Int64.le_iff_toInt_le, Int32.toInt_toInt64, lN_toInt hl, lN_toInt hh]
def nthA (n : Nat) (Y : Yd) (T : Nat → Nat) (x : Int32) : Int32 := if n = 0 then Int32.ofInt (-103) else if sb Y n n then (if 1 ≤ x.toInt ∧ x.toInt ≤ 1000000 then gv (gt Y none (bh Y n T false (x.toNatClampNeg - 1) 0)).1 else Int32.ofInt (-102)) else Int32.ofInt (-103)
def behA (n : Nat) (Y : Yd) (T : Nat → Nat) (x z : Int32) : Int32 := if 0 ≤ z.toInt ∧ z.toInt < n then (if sb Y n n then (if 1 ≤ x.toInt ∧ x.toInt ≤ 1000000 then nI (bh Y n T false x.toNatClampNeg 0 z.toNatClampNeg) else Int32.ofInt (-102)) else Int32.ofInt (-103)) else Int32.ofInt (-101)
def agoA (n : Nat) (Y : Yd) (T : Nat → Nat) (x z : Int32) : Int32 := if 0 ≤ z.toInt ∧ z.toInt < n then (if sb Y n n then (if 0 ≤ x.toInt ∧ x.toInt ≤ 1000000 then nI (bh Y n T (decide (0 < x.toNatClampNeg)) x.toNatClampNeg 0 z.toNatClampNeg) else Int32.ofInt (-102)) else Int32.ofInt (-103)) else Int32.ofInt (-101)
section MM
variable {d L : Nat} {dy : mjM} {I : mjI} {y y1 n1 w1 c y2 : Option Nat} {R : mjR} {J : mjJ} {pn : Nat} {pg : Nat → Nat} {n : Nat} {Y : Yd} {T : Nat → Nat} {t : Nat} {tr : Nat → Nat} {kp : Kp} {wn : Nat} {wt : Nat → Nat} {yr dn : Nat}
theorem MO_nth (h : MI I pn pg n Y T t tr kp wn wt yr dn) (x : Int32) : ∃ I', mj_call mj_P (d + 5) kn_M_nth [.ref 45, .int x] (HP L dy I y y1 n1 w1 c y2 R J) (some (.int (nthA n Y T x))) (HP L dy I' y y1 n1 w1 c y2 R J) ∧ MI I' pn pg n Y T t tr kp wn wt yr dn ∧ Fr wk wa' I I' := by
  have h0 := h
  obtain ⟨h1, h2, h3, h4, h5, h6, h7⟩ := h
  have fin : mj_Rd (mj_call mj_P (d + 4)) kc_M_nth 1 (14, [some (.ref 45), some (.int x)], [], HP L dy I y y1 n1 w1 c y2 R J) (some (.int (Int32.ofInt (-103)))) (HP L dy I y y1 n1 w1 c y2 R J) := by
    refine mj_run 1 rfl trivial ?_
    exact mj_end rfl rfl trivial
  unfold nthA
  by_cases hn : n = 0
  · rw [if_pos hn]
    refine ⟨I, ?_, h0, (Fr.rf I).w (by simp) (by simp)⟩
    refine mj_ci rfl (Nat.le_of_ble_eq_true rfl) ?_
    refine mj_run 1 rfl trivial ?_
    refine mj_cal rfl rfl (M_lacks h2) ?_
    rw [if_pos hn]
    exact mj_brt rfl rfl (by decide) fin
  · rw [if_neg hn]
    have hn1 : 1 ≤ n := by omega
    cases hs : sb Y n n with
    | false =>
      rw [if_neg (by decide)]
      refine ⟨I, ?_, h0, (Fr.rf I).w (by simp) (by simp)⟩
      refine mj_ci rfl (Nat.le_of_ble_eq_true rfl) ?_
      refine mj_run 1 rfl trivial ?_
      refine mj_cal rfl rfl (M_lacks h2) ?_
      rw [if_neg hn]
      refine mj_brf rfl rfl (by decide) ?_
      refine mj_run 1 rfl trivial ?_
      refine mj_cal rfl rfl (M_isStraight h2 hn1) ?_
      rw [hs]
      exact mj_brf rfl rfl (by decide) fin
    | true =>
      rw [if_pos rfl]
      have hst := (sb_strt h2.2.1 hn1).mp hs
      by_cases hr : 1 ≤ x.toInt ∧ x.toInt ≤ 1000000
      · rw [if_pos hr]
        obtain ⟨N, hN, rfl⟩ := i_nI (x := x) (N := 1000001) (by omega)
        rw [nI_toInt (by omega)] at hr
        obtain ⟨I1, hc1, hf1, hR1⟩ := M_layBehind (d := d) (L := L) (dy := dy) (y := y) (y1 := y1) (n1 := n1) (w1 := w1) (c := c) (y2 := y2) (R := R) (J := J) (x := nI (N - 1)) (ng := false) (N := N - 1) (Or.inl ⟨rfl, rfl⟩) (by omega) h2 h3 hn1 hst
        obtain ⟨I2, hc2, hg2, -⟩ := M_goTruck (d := d) (L := L) (dy := dy) (y := y) (y1 := y1) (n1 := n1) (w1 := w1) (c := c) (y2 := y2) (R := R) (J := J) (q := none) (h2.fr hf1 (by decide)) hn1 hR1 (bh_ok h2.2.1 h3.2) sq_none
        have ff := (hf1.tr hg2.fr).w (ks' := wk) (as' := wa') (by decide) (by decide)
        refine ⟨I2, ?_, h0.work ff, ff⟩
        refine mj_ci rfl (Nat.le_of_ble_eq_true rfl) ?_
        refine mj_run 1 rfl trivial ?_
        refine mj_cal rfl rfl (M_lacks h2) ?_
        rw [if_neg hn]
        refine mj_brf rfl rfl (by decide) ?_
        refine mj_run 1 rfl trivial ?_
        refine mj_cal rfl rfl (M_isStraight h2 hn1) ?_
        rw [hs]
        refine mj_brt rfl rfl (by decide) ?_
        refine mj_run 4 rfl trivial ?_
        refine mj_cal rfl rfl (M_in_t ((lN_in (by omega) (by decide) (by decide)).mpr (by omega))) ?_
        refine mj_brt rfl rfl (by decide) ?_
        refine mj_run 4 rfl trivial ?_
        rw [pk_sub (by omega)]
        refine mj_cal rfl rfl hc1 ?_
        refine mj_run 2 rfl trivial ?_
        rw [nI_nc (show N < 2147483648 by omega)]
        refine mj_cal rfl rfl hc2 ?_
        exact mj_end rfl rfl trivial
      · rw [if_neg hr]
        refine ⟨I, ?_, h0, (Fr.rf I).w (by simp) (by simp)⟩
        refine mj_ci rfl (Nat.le_of_ble_eq_true rfl) ?_
        refine mj_run 1 rfl trivial ?_
        refine mj_cal rfl rfl (M_lacks h2) ?_
        rw [if_neg hn]
        refine mj_brf rfl rfl (by decide) ?_
        refine mj_run 1 rfl trivial ?_
        refine mj_cal rfl rfl (M_isStraight h2 hn1) ?_
        rw [hs]
        refine mj_brt rfl rfl (by decide) ?_
        refine mj_run 4 rfl trivial ?_
        refine mj_cal rfl rfl (M_in_f (fun q => hr ((lN_rng (by decide) (by decide)).mp q))) ?_
        refine mj_brf rfl rfl (by decide) ?_
        refine mj_run 1 rfl trivial ?_
        exact mj_end rfl rfl trivial
theorem MO_behind (h : MI I pn pg n Y T t tr kp wn wt yr dn) (x z : Int32) : ∃ I', mj_call mj_P (d + 5) kn_M_behind [.ref 45, .int x, .int z] (HP L dy I y y1 n1 w1 c y2 R J) (some (.int (behA n Y T x z))) (HP L dy I' y y1 n1 w1 c y2 R J) ∧ MI I' pn pg n Y T t tr kp wn wt yr dn ∧ Fr wk wa' I I' := by
  have h0 := h
  obtain ⟨h1, h2, h3, h4, h5, h6, h7⟩ := h
  have hn10 : n ≤ 10 := h2.2.1.1
  unfold behA
  by_cases hz : 0 ≤ z.toInt ∧ z.toInt < n
  · rw [if_pos hz]
    have hn1 : 1 ≤ n := by omega
    obtain ⟨p, hp, rfl⟩ := i_nI (x := z) (N := n) hz
    cases hs : sb Y n n with
    | false =>
      rw [if_neg (by decide)]
      refine ⟨I, ?_, h0, (Fr.rf I).w (by simp) (by simp)⟩
      refine mj_ci rfl (Nat.le_of_ble_eq_true rfl) ?_
      refine mj_run 2 rfl trivial ?_
      refine mj_cal rfl rfl (M_isPoint h2 _) ?_
      rw [if_pos hz]
      refine mj_brt rfl rfl (by decide) ?_
      refine mj_run 1 rfl trivial ?_
      refine mj_cal rfl rfl (M_isStraight h2 hn1) ?_
      rw [hs]
      refine mj_brf rfl rfl (by decide) ?_
      refine mj_run 1 rfl trivial ?_
      exact mj_end rfl rfl trivial
    | true =>
      rw [if_pos rfl]
      have hst := (sb_strt h2.2.1 hn1).mp hs
      by_cases hr : 1 ≤ x.toInt ∧ x.toInt ≤ 1000000
      · rw [if_pos hr]
        obtain ⟨N, hN, rfl⟩ := i_nI (x := x) (N := 1000001) (by omega)
        rw [nI_toInt (by omega)] at hr
        obtain ⟨I1, hc1, hf1, hR1⟩ := M_layBehind (d := d) (L := L) (dy := dy) (y := y) (y1 := y1) (n1 := n1) (w1 := w1) (c := c) (y2 := y2) (R := R) (J := J) (x := nI N) (ng := false) (N := N) (Or.inl ⟨rfl, rfl⟩) (by omega) h2 h3 hn1 hst
        have ff := hf1.w (ks' := wk) (as' := wa') (by decide) (by decide)
        refine ⟨I1, ?_, h0.work ff, ff⟩
        refine mj_ci rfl (Nat.le_of_ble_eq_true rfl) ?_
        refine mj_run 2 rfl trivial ?_
        refine mj_cal rfl rfl (M_isPoint h2 _) ?_
        rw [if_pos hz]
        refine mj_brt rfl rfl (by decide) ?_
        refine mj_run 1 rfl trivial ?_
        refine mj_cal rfl rfl (M_isStraight h2 hn1) ?_
        rw [hs]
        refine mj_brt rfl rfl (by decide) ?_
        refine mj_run 4 rfl trivial ?_
        refine mj_cal rfl rfl (M_in_t ((lN_in (by omega) (by decide) (by decide)).mpr (by omega))) ?_
        refine mj_brt rfl rfl (by decide) ?_
        refine mj_run 2 rfl trivial ?_
        refine mj_cal rfl rfl hc1 ?_
        refine mj_run 4 rfl (nI_vi (by omega) (by decide)) ?_
        rw [nI_nc (show N < 2147483648 by omega), nI_nc (show p < 2147483648 by omega), hR1 p hp]
        exact mj_end rfl rfl trivial
      · rw [if_neg hr]
        refine ⟨I, ?_, h0, (Fr.rf I).w (by simp) (by simp)⟩
        refine mj_ci rfl (Nat.le_of_ble_eq_true rfl) ?_
        refine mj_run 2 rfl trivial ?_
        refine mj_cal rfl rfl (M_isPoint h2 _) ?_
        rw [if_pos hz]
        refine mj_brt rfl rfl (by decide) ?_
        refine mj_run 1 rfl trivial ?_
        refine mj_cal rfl rfl (M_isStraight h2 hn1) ?_
        rw [hs]
        refine mj_brt rfl rfl (by decide) ?_
        refine mj_run 4 rfl trivial ?_
        refine mj_cal rfl rfl (M_in_f (fun q => hr ((lN_rng (by decide) (by decide)).mp q))) ?_
        refine mj_brf rfl rfl (by decide) ?_
        refine mj_run 1 rfl trivial ?_
        exact mj_end rfl rfl trivial
  · rw [if_neg hz]
    refine ⟨I, ?_, h0, (Fr.rf I).w (by simp) (by simp)⟩
    refine mj_ci rfl (Nat.le_of_ble_eq_true rfl) ?_
    refine mj_run 2 rfl trivial ?_
    refine mj_cal rfl rfl (M_isPoint h2 _) ?_
    rw [if_neg hz]
    refine mj_brf rfl rfl (by decide) ?_
    refine mj_run 1 rfl trivial ?_
    exact mj_end rfl rfl trivial
theorem MO_ago (h : MI I pn pg n Y T t tr kp wn wt yr dn) (x z : Int32) : ∃ I', mj_call mj_P (d + 5) kn_M_ago [.ref 45, .int x, .int z] (HP L dy I y y1 n1 w1 c y2 R J) (some (.int (agoA n Y T x z))) (HP L dy I' y y1 n1 w1 c y2 R J) ∧ MI I' pn pg n Y T t tr kp wn wt yr dn ∧ Fr wk wa' I I' := by
  have h0 := h
  obtain ⟨h1, h2, h3, h4, h5, h6, h7⟩ := h
  have hn10 : n ≤ 10 := h2.2.1.1
  unfold agoA
  by_cases hz : 0 ≤ z.toInt ∧ z.toInt < n
  · rw [if_pos hz]
    have hn1 : 1 ≤ n := by omega
    obtain ⟨p, hp, rfl⟩ := i_nI (x := z) (N := n) hz
    cases hs : sb Y n n with
    | false =>
      rw [if_neg (by decide)]
      refine ⟨I, ?_, h0, (Fr.rf I).w (by simp) (by simp)⟩
      refine mj_ci rfl (Nat.le_of_ble_eq_true rfl) ?_
      refine mj_run 2 rfl trivial ?_
      refine mj_cal rfl rfl (M_isPoint h2 _) ?_
      rw [if_pos hz]
      refine mj_brt rfl rfl (by decide) ?_
      refine mj_run 1 rfl trivial ?_
      refine mj_cal rfl rfl (M_isStraight h2 hn1) ?_
      rw [hs]
      refine mj_brf rfl rfl (by decide) ?_
      refine mj_run 1 rfl trivial ?_
      exact mj_end rfl rfl trivial
    | true =>
      rw [if_pos rfl]
      have hst := (sb_strt h2.2.1 hn1).mp hs
      by_cases hr : 0 ≤ x.toInt ∧ x.toInt ≤ 1000000
      · rw [if_pos hr]
        obtain ⟨N, hN, rfl⟩ := i_nI (x := x) (N := 1000001) (by omega)
        have hxx : (decide (0 < N) = false ∧ -(nI N) = nI N) ∨ (decide (0 < N) = true ∧ -(nI N) = -(nI N) ∧ 1 ≤ N) := by
          by_cases e : N = 0
          · subst e; exact Or.inl ⟨by decide, by decide⟩
          · exact Or.inr ⟨decide_eq_true (by omega), rfl, by omega⟩
        obtain ⟨I1, hc1, hf1, hR1⟩ := M_layBehind (d := d) (L := L) (dy := dy) (y := y) (y1 := y1) (n1 := n1) (w1 := w1) (c := c) (y2 := y2) (R := R) (J := J) (x := -(nI N)) (ng := decide (0 < N)) (N := N) hxx (by omega) h2 h3 hn1 hst
        have ff := hf1.w (ks' := wk) (as' := wa') (by decide) (by decide)
        refine ⟨I1, ?_, h0.work ff, ff⟩
        refine mj_ci rfl (Nat.le_of_ble_eq_true rfl) ?_
        refine mj_run 2 rfl trivial ?_
        refine mj_cal rfl rfl (M_isPoint h2 _) ?_
        rw [if_pos hz]
        refine mj_brt rfl rfl (by decide) ?_
        refine mj_run 1 rfl trivial ?_
        refine mj_cal rfl rfl (M_isStraight h2 hn1) ?_
        rw [hs]
        refine mj_brt rfl rfl (by decide) ?_
        refine mj_run 4 rfl trivial ?_
        refine mj_cal rfl rfl (M_in_t ((lN_in (by omega) (by decide) (by decide)).mpr (by omega))) ?_
        refine mj_brt rfl rfl (by decide) ?_
        refine mj_run 3 rfl trivial ?_
        refine mj_cal rfl rfl hc1 ?_
        refine mj_run 4 rfl (nI_vi (by omega) (by decide)) ?_
        rw [nI_nc (show N < 2147483648 by omega), nI_nc (show p < 2147483648 by omega), hR1 p hp]
        exact mj_end rfl rfl trivial
      · rw [if_neg hr]
        refine ⟨I, ?_, h0, (Fr.rf I).w (by simp) (by simp)⟩
        refine mj_ci rfl (Nat.le_of_ble_eq_true rfl) ?_
        refine mj_run 2 rfl trivial ?_
        refine mj_cal rfl rfl (M_isPoint h2 _) ?_
        rw [if_pos hz]
        refine mj_brt rfl rfl (by decide) ?_
        refine mj_run 1 rfl trivial ?_
        refine mj_cal rfl rfl (M_isStraight h2 hn1) ?_
        rw [hs]
        refine mj_brt rfl rfl (by decide) ?_
        refine mj_run 4 rfl trivial ?_
        refine mj_cal rfl rfl (M_in_f (fun q => hr ((lN_rng (by decide) (by decide)).mp q))) ?_
        refine mj_brf rfl rfl (by decide) ?_
        refine mj_run 1 rfl trivial ?_
        exact mj_end rfl rfl trivial
  · rw [if_neg hz]
    refine ⟨I, ?_, h0, (Fr.rf I).w (by simp) (by simp)⟩
    refine mj_ci rfl (Nat.le_of_ble_eq_true rfl) ?_
    refine mj_run 2 rfl trivial ?_
    refine mj_cal rfl rfl (M_isPoint h2 _) ?_
    rw [if_neg hz]
    refine mj_brf rfl rfl (by decide) ?_
    refine mj_run 1 rfl trivial ?_
    exact mj_end rfl rfl trivial
end MM
