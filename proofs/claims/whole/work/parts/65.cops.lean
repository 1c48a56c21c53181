section CC
variable {d L : Nat} {dy : mjM} {I : mjI} {y y1 n1 w1 c y2 : Option Nat} {R : mjR} {J : mjJ} {pn : Nat} {pg : Nat → Nat} {n : Nat} {Y : Yd} {T : Nat → Nat} {t : Nat} {tr : Nat → Nat} {kp : Kp} {wn : Nat} {wt : Nat → Nat} {yr dn : Nat}
theorem c_wipe (h : Cpg I pn pg) : mj_call mj_P (d + 1) kn_Pg_wipe [.ref 2] (HP L dy I y y1 n1 w1 c y2 R J) (some (.int (nI pn))) (HP L dy (mj_ui I 2 1 (nI 0)) y y1 n1 w1 c y2 R J) := by
  refine mj_ci rfl (Nat.le_of_ble_eq_true rfl) ?_
  refine mj_run 7 rfl trivial ?_
  rw [h.1]
  exact mj_end rfl rfl trivial
theorem CO_blank (h : CI (FM L dy) I (FR y y1 n1 w1 c y2 R) y pn pg n Y T t tr kp wn wt yr dn) : ∃ I', mj_call mj_P (d + 2) kn_T_blank [.ref 1] (HP L dy I y y1 n1 w1 c y2 R J) (some (.int (nI pn))) (HP L dy I' y y1 n1 w1 c y2 R J) ∧ CI (FM L dy) I' (FR y y1 n1 w1 c y2 R) y 0 pg n Y T t tr kp wn wt yr dn ∧ KM I I' := by
  obtain ⟨h1, h2, h3, h4, h5, h6, h7⟩ := h
  have f := Cf.u I 2 1 (nI 0)
  refine ⟨mj_ui I 2 1 (nI 0), ?_, ⟨⟨by simp [mj_ui, upd], fun i hi => by omega⟩, h2.fr f (by decide), h3.cf f (by decide), h4.fr f (by decide), h5.fr f (by decide), h6.fr f (by decide), h7.fr f (by decide)⟩, f.km (by decide)⟩
  refine mj_ci rfl (Nat.le_of_ble_eq_true rfl) ?_
  refine mj_run 2 rfl trivial ?_
  refine mj_cal rfl rfl (c_wipe h1) ?_
  exact mj_end rfl rfl trivial
theorem CO_clear (h : CI (FM L dy) I (FR y y1 n1 w1 c y2 R) y pn pg n Y T t tr kp wn wt yr dn) : ∃ I', mj_call mj_P (d + 1) kn_T_clear [.ref 1] (HP L dy I y y1 n1 w1 c y2 R J) (some (.int (nI wn))) (HP L dy I' y y1 n1 w1 c y2 R J) ∧ CI (FM L dy) I' (FR y y1 n1 w1 c y2 R) y pn pg n Y T t tr kp 0 wt yr dn ∧ KM I I' := by
  obtain ⟨h1, h2, h3, h4, h5, h6, h7⟩ := h
  have f := Cf.u I 1 12 (nI 0)
  refine ⟨mj_ui I 1 12 (nI 0), ?_, ⟨h1.fr f (by decide), h2.fr f (by decide), h3.cf f (by decide), h4.fr f (by decide), ?_, ⟨by simp [mj_ui, upd], fun i hi => by omega⟩, ?_⟩, f.km (by decide)⟩
  · refine mj_ci rfl (Nat.le_of_ble_eq_true rfl) ?_
    refine mj_run 7 rfl trivial ?_
    rw [h6.1]
    exact mj_end rfl rfl trivial
  · cases kp with
    | none =>
      have : I 1 11 = nI 0 := h5
      show mj_ui I 1 12 (nI 0) 1 11 = nI 0
      simp [mj_ui, upd, this]
    | some q =>
      obtain ⟨a, b, e⟩ := q
      obtain ⟨k1, k2, k3, k4⟩ := h5
      exact ⟨by simp [mj_ui, upd, k1], by simp [mj_ui, k2], fun i hi => by simp [mj_ui]; exact k3 i hi, fun i hi => by simp [mj_ui]; exact k4 i hi⟩
  · obtain ⟨k1, k2⟩ := h7
    exact ⟨by simp [mj_ui, upd, k1], by simp [mj_ui, upd, k2]⟩
theorem c_trucksIn {s : Nat} (hs : s < 10) (hb : t ≤ 60 ∧ ∀ i, i < t → tr i < 10) (h : Ctr I t tr) : mj_call mj_P (d + 1) kn_Sc_trucksIn [.ref 4, .int (nI s)] (HP L dy I y y1 n1 w1 c y2 R J) (some (.int (nI (cn tr s t)))) (HP L dy I y y1 n1 w1 c y2 R J) := by
  obtain ⟨h1, h3⟩ := h
  obtain ⟨h2, h4⟩ := hb
  refine mj_ci rfl (Nat.le_of_ble_eq_true rfl) ?_
  refine mj_run 4 rfl trivial ?_
  refine dn_ind t (fun p => mj_Rd (mj_call mj_P d) kc_Sc_trucksIn 1 (4, [some (.ref 4), some (.int (nI s)), some (.int (nI (cn tr s p))), some (.int (nI p))], [], HP L dy I y y1 n1 w1 c y2 R J) (some (.int (nI (cn tr s t)))) (HP L dy I y y1 n1 w1 c y2 R J)) ?_ ?_ 0 (by omega)
  · refine mj_run 3 rfl trivial ?_
    rw [h1]
    refine mj_brt rfl rfl (by rw [nI_leI (by omega) (by omega)]; omega) ?_
    refine mj_run 1 rfl trivial ?_
    exact mj_end rfl rfl trivial
  · intro p hp ih
    have g1 := h3 p hp
    have g2 := h4 p hp
    refine mj_run 3 rfl trivial ?_
    rw [h1]
    refine mj_brf rfl rfl (by rw [nI_leI (by omega) (by omega)]; omega) ?_
    refine mj_run 5 rfl (nI_vi (by omega) (by decide)) ?_
    rw [nI_nc (by omega), g1]
    refine mj_bra rfl rfl (fun g => ?_) (fun g => ?_)
    · rw [nI_e (by omega) (by omega)] at g
      rw [show cn tr s (p + 1) = cn tr s p by simp [cn, g]] at ih
      refine mj_run 2 rfl trivial ?_
      rw [nI_add]
      exact ih
    · rw [nI_e (by omega) (by omega)] at g
      rw [show cn tr s (p + 1) = cn tr s p + 1 by simp [cn, Classical.not_not.mp g]] at ih
      refine mj_run 3 rfl trivial ?_
      rw [nI_add, nI_add]
      exact ih
theorem CO_many (ab : AB pn pg n Y T t tr kp wn wt yr dn) (h : CI (FM L dy) I (FR y y1 n1 w1 c y2 R) y pn pg n Y T t tr kp wn wt yr dn) (x : Int32) : mj_call mj_P (d + 2) kn_T_many [.ref 1, .int x] (HP L dy I y y1 n1 w1 c y2 R J) (some (.int (if 0 ≤ x.toInt ∧ x.toInt < 10 then nI (cn tr x.toNatClampNeg t) else Int32.ofInt (-101)))) (HP L dy I y y1 n1 w1 c y2 R J) := by
  refine mj_ci rfl (Nat.le_of_ble_eq_true rfl) ?_
  refine mj_run 1 rfl trivial ?_
  refine mj_cal rfl rfl (T_isSiding _ x) ?_
  by_cases g : 0 ≤ x.toInt ∧ x.toInt < 10
  · rw [if_pos g, if_pos g]
    refine mj_brf rfl rfl (by decide) ?_
    refine mj_run 3 rfl trivial ?_
    obtain ⟨s, hs, rfl⟩ := i_nI (N := 10) g
    refine mj_cal rfl rfl (c_trucksIn hs ab.2.2.2.1 h.2.2.2.1) ?_
    rw [nI_nc (show s < 2147483648 by omega)]
    refine mj_run 1 rfl trivial ?_
    exact mj_end rfl rfl trivial
  · rw [if_neg g, if_neg g]
    refine mj_brt rfl rfl (by decide) ?_
    refine mj_run 1 rfl trivial ?_
    exact mj_end rfl rfl trivial
theorem c_truckIn {s j : Nat} (hs : s < 10) (hj : j < 100) (hb : t ≤ 60 ∧ ∀ i, i < t → tr i < 10) (h : Ctr I t tr) : mj_call mj_P (d + 1) kn_Sc_truckIn [.ref 4, .int (nI s), .int (nI j)] (HP L dy I y y1 n1 w1 c y2 R J) (some (.int (nx tr s j t 0 0))) (HP L dy I y y1 n1 w1 c y2 R J) := by
  obtain ⟨h1, h3⟩ := h
  obtain ⟨h2, h4⟩ := hb
  refine mj_ci rfl (Nat.le_of_ble_eq_true rfl) ?_
  refine mj_run 4 rfl trivial ?_
  have key : ∀ (f k e : Nat), k + f = t → e ≤ k → mj_Rd (mj_call mj_P d) kc_Sc_truckIn 1 (5, [some (.ref 4), some (.int (nI s)), some (.int (nI j)), some (.int (nI e)), some (.int (nI k))], [], HP L dy I y y1 n1 w1 c y2 R J) (some (.int (nx tr s j f k e))) (HP L dy I y y1 n1 w1 c y2 R J) := by
    intro f
    induction f with
    | zero =>
      intro k e hk he
      refine mj_run 3 rfl trivial ?_
      rw [h1]
      refine mj_brt rfl rfl (by rw [nI_leI (by omega) (by omega)]; omega) ?_
      refine mj_run 1 rfl trivial ?_
      exact mj_end rfl rfl trivial
    | succ f ih =>
      intro k e hk he
      have q1 := h3 k (by omega)
      have q2 := h4 k (by omega)
      refine mj_run 3 rfl trivial ?_
      rw [h1]
      refine mj_brf rfl rfl (by rw [nI_leI (by omega) (by omega)]; omega) ?_
      refine mj_run 5 rfl (nI_vi (by omega) (by decide)) ?_
      rw [nI_nc (by omega), q1]
      unfold nx
      refine mj_bra rfl rfl (fun g => ?_) (fun g => ?_)
      · rw [nI_e (by omega) (by omega)] at g
        rw [if_neg g]
        refine mj_run 2 rfl trivial ?_
        rw [nI_add]
        exact ih (k + 1) e (by omega) (by omega)
      · rw [nI_e (by omega) (by omega)] at g
        rw [if_pos (Classical.not_not.mp g)]
        refine mj_run 2 rfl trivial ?_
        refine mj_bra rfl rfl (fun g3 => ?_) (fun g3 => ?_)
        · rw [nI_e (by omega) (by omega)] at g3
          rw [if_neg g3]
          refine mj_run 3 rfl trivial ?_
          rw [nI_add, nI_add]
          exact ih (k + 1) (e + 1) (by omega) (by omega)
        · rw [nI_e (by omega) (by omega)] at g3
          rw [if_pos (Classical.not_not.mp g3)]
          refine mj_run 1 rfl trivial ?_
          exact mj_end rfl rfl trivial
  exact key t 0 0 (by omega) (by omega)
theorem CO_truck (ab : AB pn pg n Y T t tr kp wn wt yr dn) (h : CI (FM L dy) I (FR y y1 n1 w1 c y2 R) y pn pg n Y T t tr kp wn wt yr dn) (x i : Int32) : mj_call mj_P (d + 2) kn_T_truck [.ref 1, .int x, .int i] (HP L dy I y y1 n1 w1 c y2 R J) (some (.int (if 0 ≤ x.toInt ∧ x.toInt < 10 then (if 0 ≤ i.toInt ∧ i.toInt < 60 then nx tr x.toNatClampNeg i.toNatClampNeg t 0 0 else Int32.ofInt (-102)) else Int32.ofInt (-101)))) (HP L dy I y y1 n1 w1 c y2 R J) := by
  refine mj_ci rfl (Nat.le_of_ble_eq_true rfl) ?_
  refine mj_run 1 rfl trivial ?_
  refine mj_cal rfl rfl (T_isSiding _ x) ?_
  by_cases g : 0 ≤ x.toInt ∧ x.toInt < 10
  · rw [if_pos g, if_pos g]
    refine mj_brt rfl rfl (by decide) ?_
    refine mj_run 1 rfl trivial ?_
    have bad : mj_Rd (mj_call mj_P (d + 1)) kc_T_truck 1 (20, [some (.ref 1), some (.int x), some (.int i)], [], HP L dy I y y1 n1 w1 c y2 R J) (some (.int (Int32.ofInt (-102)))) (HP L dy I y y1 n1 w1 c y2 R J) := by
      refine mj_run 1 rfl trivial ?_
      exact mj_end rfl rfl trivial
    refine mj_bra rfl rfl (fun g2 => ?_) (fun g2 => ?_)
    · rw [ii_lt, show (0 : Int32).toInt = 0 from rfl] at g2
      rw [if_neg (by omega)]
      exact bad
    · rw [ii_lt, show (0 : Int32).toInt = 0 from rfl] at g2
      refine mj_run 2 rfl trivial ?_
      refine mj_bra rfl rfl (fun g3 => ?_) (fun g3 => ?_)
      · rw [ii_lt, show (nI 60).toInt = 60 from rfl] at g3
        rw [if_pos (by omega)]
        refine mj_run 4 rfl trivial ?_
        obtain ⟨s, hs, rfl⟩ := i_nI (N := 10) g
        obtain ⟨j, hj, rfl⟩ := i_nI (x := i) (N := 60) (by omega)
        rw [nI_nc (show s < 2147483648 by omega), nI_nc (show j < 2147483648 by omega)]
        refine mj_cal rfl rfl (c_truckIn hs (by omega) ab.2.2.2.1 h.2.2.2.1) ?_
        exact mj_end rfl rfl trivial
      · rw [ii_lt, show (nI 60).toInt = 60 from rfl] at g3
        rw [if_neg (by omega)]
        exact bad
  · rw [if_neg g, if_neg g]
    refine mj_brf rfl rfl (by decide) ?_
    refine mj_run 1 rfl trivial ?_
    exact mj_end rfl rfl trivial
theorem CO_want (ab : AB pn pg n Y T t tr kp wn wt yr dn) (h : CI (FM L dy) I (FR y y1 n1 w1 c y2 R) y pn pg n Y T t tr kp wn wt yr dn) (x : Int32) : ∃ I', mj_call mj_P (d + 2) kn_T_want [.ref 1, .int x] (HP L dy I y y1 n1 w1 c y2 R J) (some (.int (if 0 ≤ x.toInt ∧ x.toInt < 10 then (if wn = 8 then Int32.ofInt (-104) else nI (wn + 1)) else Int32.ofInt (-101)))) (HP L dy I' y y1 n1 w1 c y2 R J) ∧ (if (0 ≤ x.toInt ∧ x.toInt < 10) ∧ ¬ wn = 8 then CI (FM L dy) I' (FR y y1 n1 w1 c y2 R) y pn pg n Y T t tr kp (wn + 1) (fu wt wn x.toNatClampNeg) yr dn else CI (FM L dy) I' (FR y y1 n1 w1 c y2 R) y pn pg n Y T t tr kp wn wt yr dn) ∧ KM I I' := by
  have h0 := h
  obtain ⟨h1, h2, h3, h4, h5, h6, h7⟩ := h
  have hw8 := ab.2.2.2.2.2.1.1
  by_cases g : 0 ≤ x.toInt ∧ x.toInt < 10
  · rw [if_pos g]
    by_cases g2 : wn = 8
    · rw [if_pos g2]
      refine ⟨I, ?_, by rw [if_neg (fun q => q.2 g2)]; exact h0, KM.rf I⟩
      refine mj_ci rfl (Nat.le_of_ble_eq_true rfl) ?_
      refine mj_run 1 rfl trivial ?_
      refine mj_cal rfl rfl (T_isSiding _ x) ?_
      rw [if_pos g]
      refine mj_brt rfl rfl (by decide) ?_
      refine mj_run 3 rfl trivial ?_
      rw [h6.1]
      refine mj_brf rfl rfl (by rw [nI_ltI (by omega) (by decide)]; omega) ?_
      refine mj_run 1 rfl trivial ?_
      exact mj_end rfl rfl trivial
    · rw [if_neg g2]
      obtain ⟨s, hs, rfl⟩ := i_nI (N := 10) g
      rw [nI_nc (show s < 2147483648 by omega)]
      have f := (Cf.u I 42 wn (nI s)).tr (Cf.u _ 1 12 (nI (wn + 1)))
      refine ⟨mj_ui (mj_ui I 42 wn (nI s)) 1 12 (nI (wn + 1)), ?_, ?_, f.km (by decide)⟩
      rotate_left
      rw [if_pos ⟨g, g2⟩]
      refine ⟨h1.fr f (by decide), h2.fr f (by decide), h3.cf f (by decide), h4.fr f (by decide), ?_, ⟨by simp [mj_ui, upd], fun i hi => ?_⟩, ?_⟩
      rotate_right
      · refine mj_ci rfl (Nat.le_of_ble_eq_true rfl) ?_
        refine mj_run 1 rfl trivial ?_
        refine mj_cal rfl rfl (T_isSiding _ _) ?_
        rw [if_pos g]
        refine mj_brt rfl rfl (by decide) ?_
        refine mj_run 3 rfl trivial ?_
        rw [h6.1]
        refine mj_brt rfl rfl (by rw [nI_ltI (by omega) (by decide)]; omega) ?_
        have e1 : mj_ui I 42 wn (nI s) 1 12 = nI wn := by simp [mj_ui, h6.1]
        refine mj_run 14 rfl ⟨by rw [h6.1]; exact nI_vi (by omega) (by decide), by decide⟩ ?_
        rw [h6.1, nI_nc (by omega), e1, nI_add]
        refine mj_endI rfl rfl trivial ?_ rfl
        simp [mj_ui, upd]
      · cases kp with
        | none =>
          have : I 1 11 = nI 0 := h5
          show mj_ui (mj_ui I 42 wn (nI s)) 1 12 (nI (wn + 1)) 1 11 = nI 0
          simp [mj_ui, upd, this]
        | some q =>
          obtain ⟨a, b, e⟩ := q
          obtain ⟨k1, k2, k3, k4⟩ := h5
          exact ⟨by simp [mj_ui, upd, k1], by simp [mj_ui, k2], fun i hi => by simp [mj_ui]; exact k3 i hi, fun i hi => by simp [mj_ui]; exact k4 i hi⟩
      · by_cases e : i = wn
        · subst e; simp [mj_ui, upd, fu]
        · have := h6.2 i (by omega)
          simp [mj_ui, upd, fu, e, this]
      · obtain ⟨k1, k2⟩ := h7
        exact ⟨by simp [mj_ui, upd, k1], by simp [mj_ui, upd, k2]⟩
  · rw [if_neg g]
    refine ⟨I, ?_, by rw [if_neg (fun q => g q.1)]; exact h0, KM.rf I⟩
    refine mj_ci rfl (Nat.le_of_ble_eq_true rfl) ?_
    refine mj_run 1 rfl trivial ?_
    refine mj_cal rfl rfl (T_isSiding _ x) ?_
    rw [if_neg g]
    refine mj_brf rfl rfl (by decide) ?_
    refine mj_run 1 rfl trivial ?_
    exact mj_end rfl rfl trivial
end CC
