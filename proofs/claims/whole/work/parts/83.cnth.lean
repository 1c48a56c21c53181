theorem ctK_m0 {Y : Yd} {p s q : Nat} : ∀ k, ctK Y p s 0 q k = 0
  | 0 => rfl
  | k + 1 => by
    unfold ctK
    rw [ctK_m0 k]
    unfold sh
    simp
theorem cs_N0 {Y : Yd} {n : Nat} {T : Nat → Nat} {ng : Bool} : ∀ f q, cs Y n T ng 0 f q = 0
  | 0, _ => rfl
  | f + 1, q => by
    show (if q = 0 then 0 else 0) + sumT _ n = 0
    rw [sumT_0 n (fun p _ => by
      rw [cs_N0 f p]
      unfold Gp
      rw [ctK_m0]
      split <;> rfl)]
    split <;> rfl
theorem bh_N0 {n : Nat} {Y : Yd} (h : YOK n Y) {T : Nat → Nat} (hT : TOK n Y T) {ng : Bool} {p : Nat} (hp : p < n) : bh Y n T ng 0 0 p = T p := by
  have h6 := sm_in h hp
  have ht := hT p hp
  unfold bh
  split
  · unfold cst
    rw [cs_N0]
    unfold thn onn
    have e : (if Y.1 p = 1 then 0 else 0 % sm Y p) = 0 := by split <;> simp
    rw [e]
    split
    · rw [Nat.sub_zero, Nat.add_mod_right, Nat.mod_eq_of_lt ht]
    · rw [Nat.add_zero, Nat.mod_eq_of_lt ht]
  · rfl
section CC
variable {d L : Nat} {dy : mjM} {I I' : mjI} {y y1 n1 w1 c y2 : Option Nat} {R : mjR} {J : mjJ} {pn : Nat} {pg : Nat → Nat} {n : Nat} {Y : Yd} {T : Nat → Nat} {t : Nat} {tr : Nat → Nat} {kp : Kp} {wn : Nat} {wt : Nat → Nat} {yr dn : Nat} {ya ol : Nat} {A B C od : Nat → Nat} {as : List Nat} {m : mjM}
theorem CI.fr7 (h : CI m I R (some ya) pn pg n Y T t tr kp wn wt yr dn) (hY : CY m I R ya A B C n ol od Y) (f : Cf (A 7 :: as) I I') (ha : ∀ a, a ∈ as → 10 ≤ a ∧ a ≠ 42 ∧ a < 65) : CI m I' R (some ya) pn pg n Y T t tr kp wn wt yr dn := by
  obtain ⟨h1, h2, h3, h4, h5, h6, h7⟩ := h
  have h65 := hY.2.2.2.1.1.2.2.2.2.2.2.1
  have no : ∀ a, a < 10 ∨ a = 42 → a ∉ A 7 :: as := fun a q r => by
    simp at r
    rcases r with r | r
    · omega
    · have := ha a r; omega
  exact ⟨h1.fr f ⟨no _ (by omega), no _ (by omega)⟩, Or.inr ⟨ya, A, B, C, ol, od, rfl, hY.fr (fun a q1 q2 => f a (fun r => by
    simp at r
    rcases r with r | r
    · exact q2 r
    · have := ha a r; omega))⟩, h3.cf f (no _ (by omega)), h4.fr f ⟨no _ (by omega), no _ (by omega)⟩, h5.fr f ⟨no _ (by omega), no _ (by omega), no _ (by omega), no _ (by omega)⟩, h6.fr f ⟨no _ (by omega), no _ (by omega)⟩, h7.fr f (no _ (by omega))⟩
theorem CO_nth (ab : AB pn pg n Y T t tr kp wn wt yr dn) (h : CI (FM L dy) I (FR y y1 n1 w1 c y2 R) y pn pg n Y T t tr kp wn wt yr dn) (x : Int32) : ∃ I', mj_call mj_P (d + 7) kn_T_nth [.ref 1, .int x] (HP L dy I y y1 n1 w1 c y2 R J) (some (.int (nthA n Y T x))) (HP L dy I' y y1 n1 w1 c y2 R J) ∧ CI (FM L dy) I' (FR y y1 n1 w1 c y2 R) y pn pg n Y T t tr kp wn wt yr dn ∧ KM I I' := by
  have h0 := h
  obtain ⟨h1, h2, h3, h4, h5, h6, h7⟩ := h
  have noYard : (!decide (n = 0) && sb Y n n) = false → mj_call mj_P (d + 7) kn_T_nth [.ref 1, .int x] (HP L dy I y y1 n1 w1 c y2 R J) (some (.int (Int32.ofInt (-103)))) (HP L dy I y y1 n1 w1 c y2 R J) := by
    intro q
    refine mj_ci rfl (Nat.le_of_ble_eq_true rfl) ?_
    refine mj_run 1 rfl trivial ?_
    refine mj_cal rfl rfl (T_isStraight h2) ?_
    rw [q]
    refine mj_brf rfl rfl (by decide) ?_
    refine mj_run 1 rfl trivial ?_
    exact mj_end rfl rfl trivial
  unfold nthA
  by_cases hn : n = 0
  · rw [if_pos hn]
    exact ⟨I, noYard (by rw [decide_eq_true hn]; rfl), h0, KM.rf I⟩
  · rw [if_neg hn]
    cases hsb : sb Y n n with
    | false =>
      rw [if_neg (by decide)]
      exact ⟨I, noYard (by rw [hsb, Bool.and_false]), h0, KM.rf I⟩
    | true =>
      rw [if_pos rfl]
      obtain ⟨ya, A, B, C, ol, od, rfl, hY⟩ := h2.non hn
      have hn10 := hY.1.1.1
      have hst := (sb_strt hY.1.1 hY.1.2.1).mp hsb
      have yes : (!decide (n = 0) && sb Y n n) = true := by rw [hsb, decide_eq_false hn]; rfl
      have bad : mj_Rd (mj_call mj_P (d + 6)) kc_T_nth 1 (21, [some (.ref 1), some (.int x), none], [], HP L dy I (some ya) y1 n1 w1 c y2 R J) (some (.int (Int32.ofInt (-102)))) (HP L dy I (some ya) y1 n1 w1 c y2 R J) := by
        refine mj_run 1 rfl trivial ?_
        exact mj_end rfl rfl trivial
      have start : ∀ (v : Option Value) (h' : mjH), mj_Rd (mj_call mj_P (d + 6)) kc_T_nth 1 (12, [some (.ref 1), some (.int x), none], [.int (nI 1), .int x], HP L dy I (some ya) y1 n1 w1 c y2 R J) v h' → mj_call mj_P (d + 7) kn_T_nth [.ref 1, .int x] (HP L dy I (some ya) y1 n1 w1 c y2 R J) v h' := by
        intro v h' hx
        refine mj_ci rfl (Nat.le_of_ble_eq_true rfl) ?_
        refine mj_run 1 rfl trivial ?_
        refine mj_cal rfl rfl (T_isStraight h2) ?_
        rw [yes]
        refine mj_brt rfl rfl (by decide) ?_
        refine mj_run 2 rfl trivial ?_
        exact hx
      by_cases g : 1 ≤ x.toInt ∧ x.toInt ≤ 1000000
      · rw [if_pos g]
        obtain ⟨N, hN, rfl⟩ := i_nI (x := x) (N := 1000001) (by omega)
        rw [nI_toInt (by omega)] at g
        rw [nI_nc (by omega)]
        have fs := spI_f I
        have hYs := hY.fr (I' := spI I) (fun a h65 _ => fs a (by simp; omega))
        have hA7 := hY.2.2.2.1.1.2.2.2.2.2.2.1
        obtain ⟨I1, hc1, f1, t1⟩ := Y_on (d := d) (J := J) hYs hst (sA := 43) rfl (by decide) (by decide) (N := N - 1) (by omega) (spI_T h3 hn10) ab.2.2.1
        have hY1 := hYs.fr (I' := I1) (fun a h65 h7 => f1 a (by omega) h7)
        obtain ⟨I2, hc2, f2, -, -, -⟩ := R_send (d := d + 3) (J := J) (sA := 43) hY1 rfl (by decide) (by decide) (by decide) (by decide) t1 (bh_ok hY.1.1 ab.2.2.1) sq_none
        have ff : Cf (A 7 :: [43, 11, 10]) I I2 := fun a ha => by
          simp at ha
          rw [f2 a (by simp [ha]), f1 a (by simp [ha]) (by simp [ha]), fs a (by simp [ha])]
        refine ⟨I2, start _ _ ?_, h0.fr7 hY ff (by decide), ff.km (fun a ha => by simp at ha; omega)⟩
        refine mj_brf rfl rfl (by rw [nI_ltI (by omega) (by decide)]; omega) ?_
        refine mj_run 2 rfl trivial ?_
        refine mj_brt rfl rfl (by rw [nI_leI (by omega) (by decide)]; omega) ?_
        refine mj_run 1 rfl trivial ?_
        refine mj_cal rfl rfl T_spare ?_
        refine mj_run 7 rfl trivial ?_
        rw [pk_sub (by omega)]
        refine sx_v2 rfl hY.2.2.1.1 rfl rfl hc1 ?_
        refine mj_run 6 rfl trivial ?_
        refine mj_cal rfl rfl hc2 ?_
        exact mj_end rfl rfl trivial
      · rw [if_neg g]
        refine ⟨I, start _ _ ?_, h0, KM.rf I⟩
        refine mj_bra rfl rfl (fun _ => bad) (fun g1 => ?_)
        rw [ii_lt, show (nI 1).toInt = 1 from rfl] at g1
        refine mj_run 2 rfl trivial ?_
        refine mj_brf rfl rfl (by rw [ii_le, show (nI 1000000).toInt = 1000000 from rfl]; omega) bad
theorem CO_behind (ab : AB pn pg n Y T t tr kp wn wt yr dn) (h : CI (FM L dy) I (FR y y1 n1 w1 c y2 R) y pn pg n Y T t tr kp wn wt yr dn) (x z : Int32) : ∃ I', mj_call mj_P (d + 7) kn_T_behind [.ref 1, .int x, .int z] (HP L dy I y y1 n1 w1 c y2 R J) (some (.int (behA n Y T x z))) (HP L dy I' y y1 n1 w1 c y2 R J) ∧ CI (FM L dy) I' (FR y y1 n1 w1 c y2 R) y pn pg n Y T t tr kp wn wt yr dn ∧ KM I I' := by
  have h0 := h
  obtain ⟨h1, h2, h3, h4, h5, h6, h7⟩ := h
  unfold behA
  by_cases gz : 0 ≤ z.toInt ∧ z.toInt < n
  · rw [if_pos gz]
    obtain ⟨ya, A, B, C, ol, od, rfl, hY⟩ := h2.ya gz
    have hn10 := hY.1.1.1
    have hn : ¬ n = 0 := by have := hY.1.2.1; omega
    have start : ∀ (v : Option Value) (h' : mjH), mj_Rd (mj_call mj_P (d + 6)) kc_T_behind 1 (15, [some (.ref 1), some (.int x), some (.int z), none], [.int (nI (if sb Y n n then 1 else 0))], HP L dy I (some ya) y1 n1 w1 c y2 R J) v h' → mj_call mj_P (d + 7) kn_T_behind [.ref 1, .int x, .int z] (HP L dy I (some ya) y1 n1 w1 c y2 R J) v h' := by
      intro v h' hx
      refine mj_ci rfl (Nat.le_of_ble_eq_true rfl) ?_
      refine mj_run 2 rfl trivial ?_
      refine mj_cal rfl rfl (T_isPoint h2 z) ?_
      rw [if_pos gz]
      refine mj_brt rfl rfl (by decide) ?_
      refine mj_run 1 rfl trivial ?_
      refine mj_cal rfl rfl (T_isStraight h2) ?_
      rw [decide_eq_false hn, Bool.not_false, Bool.true_and]
      exact hx
    cases hsb : sb Y n n with
    | false =>
      rw [hsb] at start
      rw [if_neg (by decide)]
      refine ⟨I, start _ _ ?_, h0, KM.rf I⟩
      refine mj_brf rfl rfl (by decide) ?_
      refine mj_run 1 rfl trivial ?_
      exact mj_end rfl rfl trivial
    | true =>
      rw [hsb] at start
      rw [if_pos rfl]
      have hst := (sb_strt hY.1.1 hY.1.2.1).mp hsb
      have bad : mj_Rd (mj_call mj_P (d + 6)) kc_T_behind 1 (32, [some (.ref 1), some (.int x), some (.int z), none], [], HP L dy I (some ya) y1 n1 w1 c y2 R J) (some (.int (Int32.ofInt (-102)))) (HP L dy I (some ya) y1 n1 w1 c y2 R J) := by
        refine mj_run 1 rfl trivial ?_
        exact mj_end rfl rfl trivial
      by_cases g : 1 ≤ x.toInt ∧ x.toInt ≤ 1000000
      · rw [if_pos g]
        obtain ⟨N, hN, rfl⟩ := i_nI (x := x) (N := 1000001) (by omega)
        obtain ⟨p, hp, rfl⟩ := i_nI gz
        rw [nI_toInt (by omega)] at g
        rw [nI_nc (show N < 2147483648 by omega), nI_nc (show p < 2147483648 by omega)]
        have fs := spI_f I
        have hYs := hY.fr (I' := spI I) (fun a h65 _ => fs a (by simp; omega))
        have hA7 := hY.2.2.2.1.1.2.2.2.2.2.2.1
        obtain ⟨I1, hc1, f1, t1⟩ := Y_on (d := d) (J := J) hYs hst (sA := 43) rfl (by decide) (by decide) (N := N) (by omega) (spI_T h3 hn10) ab.2.2.1
        have ff : Cf (A 7 :: [43]) I I1 := fun a ha => by
          simp at ha
          rw [f1 a (by simp [ha]) (by simp [ha]), fs a (by simp [ha])]
        refine ⟨I1, start _ _ ?_, h0.fr7 hY ff (by decide), ff.km (fun a ha => by simp at ha; omega)⟩
        refine mj_brt rfl rfl (by decide) ?_
        refine mj_run 2 rfl trivial ?_
        refine mj_brf rfl rfl (by rw [nI_ltI (by omega) (by decide)]; omega) ?_
        refine mj_run 2 rfl trivial ?_
        refine mj_brt rfl rfl (by rw [nI_leI (by omega) (by decide)]; omega) ?_
        refine mj_run 1 rfl trivial ?_
        refine mj_cal rfl rfl T_spare ?_
        refine mj_run 5 rfl trivial ?_
        refine sx_v2 rfl hY.2.2.1.1 rfl rfl hc1 ?_
        refine mj_run 3 rfl (nI_vi (by omega) (by decide)) ?_
        rw [nI_nc (by omega), t1 p hp]
        exact mj_end rfl rfl trivial
      · rw [if_neg g]
        refine ⟨I, start _ _ ?_, h0, KM.rf I⟩
        refine mj_brt rfl rfl (by decide) ?_
        refine mj_run 2 rfl trivial ?_
        refine mj_bra rfl rfl (fun _ => bad) (fun g1 => ?_)
        rw [ii_lt, show (nI 1).toInt = 1 from rfl] at g1
        refine mj_run 2 rfl trivial ?_
        refine mj_brf rfl rfl (by rw [ii_le, show (nI 1000000).toInt = 1000000 from rfl]; omega) bad
  · rw [if_neg gz]
    refine ⟨I, ?_, h0, KM.rf I⟩
    refine mj_ci rfl (Nat.le_of_ble_eq_true rfl) ?_
    refine mj_run 2 rfl trivial ?_
    refine mj_cal rfl rfl (T_isPoint h2 z) ?_
    rw [if_neg gz]
    refine mj_brf rfl rfl (by decide) ?_
    refine mj_run 1 rfl trivial ?_
    exact mj_end rfl rfl trivial
theorem CO_ago (ab : AB pn pg n Y T t tr kp wn wt yr dn) (h : CI (FM L dy) I (FR y y1 n1 w1 c y2 R) y pn pg n Y T t tr kp wn wt yr dn) (x z : Int32) : ∃ I', mj_call mj_P (d + 7) kn_T_ago [.ref 1, .int x, .int z] (HP L dy I y y1 n1 w1 c y2 R J) (some (.int (agoA n Y T x z))) (HP L dy I' y y1 n1 w1 c y2 R J) ∧ CI (FM L dy) I' (FR y y1 n1 w1 c y2 R) y pn pg n Y T t tr kp wn wt yr dn ∧ KM I I' := by
  have h0 := h
  obtain ⟨h1, h2, h3, h4, h5, h6, h7⟩ := h
  unfold agoA
  by_cases gz : 0 ≤ z.toInt ∧ z.toInt < n
  · rw [if_pos gz]
    obtain ⟨ya, A, B, C, ol, od, rfl, hY⟩ := h2.ya gz
    have hn10 := hY.1.1.1
    have hn : ¬ n = 0 := by have := hY.1.2.1; omega
    have start : ∀ (v : Option Value) (h' : mjH), mj_Rd (mj_call mj_P (d + 6)) kc_T_ago 1 (15, [some (.ref 1), some (.int x), some (.int z), none], [.int (nI (if sb Y n n then 1 else 0))], HP L dy I (some ya) y1 n1 w1 c y2 R J) v h' → mj_call mj_P (d + 7) kn_T_ago [.ref 1, .int x, .int z] (HP L dy I (some ya) y1 n1 w1 c y2 R J) v h' := by
      intro v h' hx
      refine mj_ci rfl (Nat.le_of_ble_eq_true rfl) ?_
      refine mj_run 2 rfl trivial ?_
      refine mj_cal rfl rfl (T_isPoint h2 z) ?_
      rw [if_pos gz]
      refine mj_brt rfl rfl (by decide) ?_
      refine mj_run 1 rfl trivial ?_
      refine mj_cal rfl rfl (T_isStraight h2) ?_
      rw [decide_eq_false hn, Bool.not_false, Bool.true_and]
      exact hx
    cases hsb : sb Y n n with
    | false =>
      rw [hsb] at start
      rw [if_neg (by decide)]
      refine ⟨I, start _ _ ?_, h0, KM.rf I⟩
      refine mj_brf rfl rfl (by decide) ?_
      refine mj_run 1 rfl trivial ?_
      exact mj_end rfl rfl trivial
    | true =>
      rw [hsb] at start
      rw [if_pos rfl]
      have hst := (sb_strt hY.1.1 hY.1.2.1).mp hsb
      have bad : mj_Rd (mj_call mj_P (d + 6)) kc_T_ago 1 (31, [some (.ref 1), some (.int x), some (.int z), none], [], HP L dy I (some ya) y1 n1 w1 c y2 R J) (some (.int (Int32.ofInt (-102)))) (HP L dy I (some ya) y1 n1 w1 c y2 R J) := by
        refine mj_run 1 rfl trivial ?_
        exact mj_end rfl rfl trivial
      by_cases g : 0 ≤ x.toInt ∧ x.toInt ≤ 1000000
      · rw [if_pos g]
        obtain ⟨N, hN, rfl⟩ := i_nI (x := x) (N := 1000001) (by omega)
        obtain ⟨p, hp, rfl⟩ := i_nI gz
        rw [nI_toInt (by omega)] at g
        rw [nI_nc (show N < 2147483648 by omega), nI_nc (show p < 2147483648 by omega)]
        have fs := spI_f I
        have hYs := hY.fr (I' := spI I) (fun a h65 _ => fs a (by simp; omega))
        have hA7 := hY.2.2.2.1.1.2.2.2.2.2.2.1
        obtain ⟨I1, hc1, f1, t1⟩ := Y_back (d := d) (J := J) hYs hst (sA := 43) rfl (by decide) (by decide) (N := N) (by omega) (spI_T h3 hn10) ab.2.2.1
        have ff : Cf (A 7 :: [43]) I I1 := fun a ha => by
          simp at ha
          rw [f1 a (by simp [ha]) (by simp [ha]), fs a (by simp [ha])]
        have e9 : bh Y n T true N 0 p = bh Y n T (decide (0 < N)) N 0 p := by
          by_cases e : 0 < N
          · rw [decide_eq_true e]
          · have : N = 0 := by omega
            subst this
            rw [bh_N0 hY.1.1 ab.2.2.1 hp, bh_N0 hY.1.1 ab.2.2.1 hp]
        refine ⟨I1, start _ _ ?_, h0.fr7 hY ff (by decide), ff.km (fun a ha => by simp at ha; omega)⟩
        refine mj_brt rfl rfl (by decide) ?_
        refine mj_run 1 rfl trivial ?_
        refine mj_brf rfl rfl (i_nn (by omega)) ?_
        refine mj_run 2 rfl trivial ?_
        refine mj_brt rfl rfl (by rw [nI_leI (by omega) (by decide)]; omega) ?_
        refine mj_run 1 rfl trivial ?_
        refine mj_cal rfl rfl T_spare ?_
        refine mj_run 5 rfl trivial ?_
        refine sx_v2 rfl hY.2.2.1.1 rfl rfl hc1 ?_
        refine mj_run 3 rfl (nI_vi (by omega) (by decide)) ?_
        rw [nI_nc (by omega), t1 p hp, e9]
        exact mj_end rfl rfl trivial
      · rw [if_neg g]
        refine ⟨I, start _ _ ?_, h0, KM.rf I⟩
        refine mj_brt rfl rfl (by decide) ?_
        refine mj_run 1 rfl trivial ?_
        refine mj_bra rfl rfl (fun _ => bad) (fun g1 => ?_)
        rw [ii_lt, show (0 : Int32).toInt = 0 from rfl] at g1
        refine mj_run 2 rfl trivial ?_
        refine mj_brf rfl rfl (by rw [ii_le, show (nI 1000000).toInt = 1000000 from rfl]; omega) bad
  · rw [if_neg gz]
    refine ⟨I, ?_, h0, KM.rf I⟩
    refine mj_ci rfl (Nat.le_of_ble_eq_true rfl) ?_
    refine mj_run 2 rfl trivial ?_
    refine mj_cal rfl rfl (T_isPoint h2 z) ?_
    rw [if_neg gz]
    refine mj_brf rfl rfl (by decide) ?_
    refine mj_run 1 rfl trivial ?_
    exact mj_end rfl rfl trivial
end CC
