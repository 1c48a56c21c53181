section CC
variable {d L : Nat} {dy : mjM} {I : mjI} {y y1 n1 w1 c y2 : Option Nat} {R : mjR} {J : mjJ} {pn : Nat} {pg : Nat → Nat} {n : Nat} {Y : Yd} {T : Nat → Nat} {t : Nat} {tr : Nat → Nat} {kp : Kp} {wn : Nat} {wt : Nat → Nat} {yr dn : Nat}
theorem Cyd.non {m : mjM} {I : mjI} {R : mjR} {y : Option Nat} {n : Nat} {Y : Yd} (h : Cyd m I R y n Y) (g : ¬ n = 0) : ∃ (ya : Nat) (A B C : Nat → Nat) (ol : Nat) (od : Nat → Nat), y = some ya ∧ CY m I R ya A B C n ol od Y := by
  rcases h with ⟨hn, -⟩ | h
  · exact absurd hn g
  · exact h
theorem Cyd.nul {m : mjM} {I : mjI} {R : mjR} {y : Option Nat} {n : Nat} {Y : Yd} (h : Cyd m I R y n Y) (g : n = 0) : y = none := by
  rcases h with ⟨-, hn⟩ | ⟨ya, A, B, C, ol, od, -, hY⟩
  · exact hn
  · have := hY.1.2.1
    omega
theorem c_reset : mj_call mj_P (d + 2) kn_Sc_reset [.ref 4] (HP L dy I y y1 n1 w1 c y2 R J) none (HP L dy (mj_ui (mj_row I 5 (fun i => if i < 10 then nI 0 else I 5 i)) 4 2 (nI 0)) y y1 n1 w1 c y2 R J) := by
  refine mj_ci rfl (Nat.le_of_ble_eq_true rfl) ?_
  refine mj_run 3 rfl trivial ?_
  refine mj_cal rfl rfl (c_fill (N := 10) rfl (by decide) (by decide)) ?_
  refine mj_run 3 rfl trivial ?_
  exact mj_end rfl rfl trivial
theorem CO_anew (h : CI (FM L dy) I (FR y y1 n1 w1 c y2 R) y pn pg n Y T t tr kp wn wt yr dn) : ∃ I', mj_call mj_P (d + 3) kn_T_anew [.ref 1] (HP L dy I y y1 n1 w1 c y2 R J) (some (.int (if n = 0 then Int32.ofInt (-103) else nI t))) (HP L dy I' y y1 n1 w1 c y2 R J) ∧ CI (FM L dy) I' (FR y y1 n1 w1 c y2 R) y pn pg n Y (if n = 0 then T else fun _ => 0) (if n = 0 then t else 0) tr kp wn wt yr dn ∧ KM I I' := by
  have h0 := h
  obtain ⟨h1, h2, h3, h4, h5, h6, h7⟩ := h
  by_cases hn : n = 0
  · rw [if_pos hn, if_pos hn, if_pos hn]
    obtain rfl := h2.nul hn
    refine ⟨I, ?_, h0, KM.rf I⟩
    refine mj_ci rfl (Nat.le_of_ble_eq_true rfl) ?_
    refine mj_run 4 rfl trivial ?_
    exact mj_end rfl rfl trivial
  · rw [if_neg hn, if_neg hn, if_neg hn]
    obtain ⟨ya, A, B, C, ol, od, rfl, hY⟩ := h2.non hn
    have hn10 := hY.1.1.1
    have f := (Cf.row I 5 (fun i => if i < 10 then nI 0 else I 5 i)).tr (Cf.u _ 4 2 (nI 0))
    refine ⟨_, ?_, ⟨h1.fr f (by decide), h2.fr f (by decide), fun i hi => ?_, ⟨by simp [mj_ui, upd], fun i hi => by omega⟩, h5.fr f (by decide), h6.fr f (by decide), h7.fr f (by decide)⟩, f.km (by decide)⟩
    · refine mj_ci rfl (Nat.le_of_ble_eq_true rfl) ?_
      refine mj_run 9 rfl trivial ?_
      rw [h4.1]
      refine mj_cal rfl rfl c_reset ?_
      refine mj_run 1 rfl trivial ?_
      exact mj_end rfl rfl trivial
    · have : i < 10 := by omega
      simp [mj_ui, mj_row, this]
theorem CO_straight (h : CI (FM L dy) I (FR y y1 n1 w1 c y2 R) y pn pg n Y T t tr kp wn wt yr dn) : mj_call mj_P (d + 1) kn_T_straight [.ref 1] (HP L dy I y y1 n1 w1 c y2 R J) (some (.int (if n = 0 then Int32.ofInt (-103) else nI (if sb Y n n then 1 else 0)))) (HP L dy I y y1 n1 w1 c y2 R J) := by
  obtain ⟨h1, h2, h3, h4, h5, h6, h7⟩ := h
  by_cases hn : n = 0
  · rw [if_pos hn]
    obtain rfl := h2.nul hn
    refine mj_ci rfl (Nat.le_of_ble_eq_true rfl) ?_
    refine mj_run 4 rfl trivial ?_
    exact mj_end rfl rfl trivial
  · rw [if_neg hn]
    obtain ⟨ya, A, B, C, ol, od, rfl, hY⟩ := h2.non hn
    refine mj_ci rfl (Nat.le_of_ble_eq_true rfl) ?_
    refine mj_run 5 rfl trivial ?_
    refine sx_gz rfl hY.2.2.1.1 rfl ?_
    rw [hY.2.2.2.2.2.2.1]
    cases sb Y n n with
    | false =>
      refine mj_brt rfl rfl (by decide) ?_
      refine mj_run 1 rfl trivial ?_
      exact mj_end rfl rfl trivial
    | true =>
      refine mj_brf rfl rfl (by decide) ?_
      refine mj_run 2 rfl trivial ?_
      exact mj_end rfl rfl trivial
theorem T_isStraight (h2 : Cyd (FM L dy) I (FR y y1 n1 w1 c y2 R) y n Y) : mj_call mj_P (d + 1) kn_T_isStraightYard [.ref 1] (HP L dy I y y1 n1 w1 c y2 R J) (some (.int (nI (if (!decide (n = 0) && sb Y n n) then 1 else 0)))) (HP L dy I y y1 n1 w1 c y2 R J) := by
  by_cases hn : n = 0
  · obtain rfl := h2.nul hn
    rw [decide_eq_true hn]
    refine mj_ci rfl (Nat.le_of_ble_eq_true rfl) ?_
    refine mj_run 4 rfl trivial ?_
    exact mj_end rfl rfl (Or.inl rfl)
  · rw [decide_eq_false hn]
    obtain ⟨ya, A, B, C, ol, od, rfl, hY⟩ := h2.non hn
    refine mj_ci rfl (Nat.le_of_ble_eq_true rfl) ?_
    refine mj_run 5 rfl trivial ?_
    refine sx_gz rfl hY.2.2.1.1 rfl ?_
    rw [hY.2.2.2.2.2.2.1]
    cases sb Y n n with
    | false =>
      refine mj_brt rfl rfl (by decide) ?_
      refine mj_run 1 rfl trivial ?_
      exact mj_end rfl rfl (Or.inl rfl)
    | true =>
      refine mj_brf rfl rfl (by decide) ?_
      refine mj_run 2 rfl trivial ?_
      exact mj_end rfl rfl (Or.inr rfl)
/-- the stands of now in the spare row -/
def spI (I : mjI) : mjI := mj_row I 43 (va_cpy (I 5) (I 43) 0 0 10)
theorem spI_f (I : mjI) : Cf [43] I (spI I) := Cf.row I 43 _
theorem spI_T {n : Nat} {T : Nat → Nat} (h : RI I 5 n T) (hn : n ≤ 10) : RI (spI I) 43 n T := fun i hi => by
  have : i < 10 := by omega
  simp [spI, mj_row, va_cpy, this, h i hi]
theorem T_spare : mj_call mj_P (d + 1) kn_T_spareStands [.ref 1] (HP L dy I y y1 n1 w1 c y2 R J) (some (.ref 43)) (HP L dy (spI I) y y1 n1 w1 c y2 R J) := by
  refine mj_ci rfl (Nat.le_of_ble_eq_true rfl) ?_
  refine mj_run 8 rfl trivial ?_
  refine sx_cp (a := 43) (b := 5) rfl rfl rfl rfl (by decide) ?_
  refine mj_run 2 rfl trivial ?_
  exact mj_end rfl rfl trivial
theorem CO_moves (ab : AB pn pg n Y T t tr kp wn wt yr dn) (h : CI (FM L dy) I (FR y y1 n1 w1 c y2 R) y pn pg n Y T t tr kp wn wt yr dn) : ∃ I', mj_call mj_P (d + 4) kn_T_moves [.ref 1] (HP L dy I y y1 n1 w1 c y2 R J) (some (.int (if n = 0 then Int32.ofInt (-103) else nI (gt Y none T).2.2))) (HP L dy I' y y1 n1 w1 c y2 R J) ∧ CI (FM L dy) I' (FR y y1 n1 w1 c y2 R) y pn pg n Y T t tr kp wn wt yr dn ∧ KM I I' := by
  have h0 := h
  obtain ⟨h1, h2, h3, h4, h5, h6, h7⟩ := h
  by_cases hn : n = 0
  · rw [if_pos hn]
    obtain rfl := h2.nul hn
    refine ⟨I, ?_, h0, KM.rf I⟩
    refine mj_ci rfl (Nat.le_of_ble_eq_true rfl) ?_
    refine mj_run 4 rfl trivial ?_
    exact mj_end rfl rfl trivial
  · rw [if_neg hn]
    obtain ⟨ya, A, B, C, ol, od, rfl, hY⟩ := h2.non hn
    have hn10 := hY.1.1.1
    have fs := spI_f I
    obtain ⟨I1, hc1, hf1, hT1, -, hm1⟩ := R_send (d := d) (J := J) (sA := 43) (hY.fr (fun a h65 _ => fs a (by simp; omega))) rfl (by decide) (by decide) (by decide) (by decide) (spI_T h3 hn10) ab.2.2.1 sq_none
    have f := fs.tr hf1
    refine ⟨I1, ?_, h0.fr f (by decide), f.km (by decide)⟩
    refine mj_ci rfl (Nat.le_of_ble_eq_true rfl) ?_
    refine mj_run 8 rfl trivial ?_
    refine mj_cal rfl rfl T_spare ?_
    refine mj_run 1 rfl trivial ?_
    refine mj_cal rfl rfl hc1 ?_
    refine mj_run 4 rfl trivial ?_
    rw [hm1]
    exact mj_end rfl rfl trivial
theorem c_copyTo : mj_call mj_P (d + 1) kn_Sc_copyFrom [.ref 7, .ref 4] (HP L dy I y y1 n1 w1 c y2 R J) none (HP L dy (mj_ui (mj_row (mj_row I 8 (va_cpy (I 5) (I 8) 0 0 10)) 9 (va_cpy (I 6) (I 9) 0 0 60)) 7 2 (I 4 2)) y y1 n1 w1 c y2 R J) := by
  refine mj_ci rfl (Nat.le_of_ble_eq_true rfl) ?_
  refine mj_run 9 rfl trivial ?_
  refine sx_cp (a := 8) (b := 5) rfl rfl rfl rfl (by decide) ?_
  refine mj_run 9 rfl trivial ?_
  refine sx_cp (a := 9) (b := 6) rfl rfl rfl rfl (by decide) ?_
  refine mj_run 4 rfl trivial ?_
  exact mj_end rfl rfl trivial
theorem c_copyBack : mj_call mj_P (d + 1) kn_Sc_copyFrom [.ref 4, .ref 7] (HP L dy I y y1 n1 w1 c y2 R J) none (HP L dy (mj_ui (mj_row (mj_row I 5 (va_cpy (I 8) (I 5) 0 0 10)) 6 (va_cpy (I 9) (I 6) 0 0 60)) 4 2 (I 7 2)) y y1 n1 w1 c y2 R J) := by
  refine mj_ci rfl (Nat.le_of_ble_eq_true rfl) ?_
  refine mj_run 9 rfl trivial ?_
  refine sx_cp (a := 5) (b := 8) rfl rfl rfl rfl (by decide) ?_
  refine mj_run 9 rfl trivial ?_
  refine sx_cp (a := 6) (b := 9) rfl rfl rfl rfl (by decide) ?_
  refine mj_run 4 rfl trivial ?_
  exact mj_end rfl rfl trivial
theorem CO_image (ab : AB pn pg n Y T t tr kp wn wt yr dn) (h : CI (FM L dy) I (FR y y1 n1 w1 c y2 R) y pn pg n Y T t tr kp wn wt yr dn) : ∃ I', mj_call mj_P (d + 2) kn_T_image [.ref 1] (HP L dy I y y1 n1 w1 c y2 R J) (some (.int (if n = 0 then Int32.ofInt (-103) else nI t))) (HP L dy I' y y1 n1 w1 c y2 R J) ∧ CI (FM L dy) I' (FR y y1 n1 w1 c y2 R) y pn pg n Y T t tr (if n = 0 then kp else some (t, tr, T)) wn wt yr dn ∧ KM I I' := by
  have h0 := h
  obtain ⟨h1, h2, h3, h4, h5, h6, h7⟩ := h
  by_cases hn : n = 0
  · rw [if_pos hn, if_pos hn]
    obtain rfl := h2.nul hn
    refine ⟨I, ?_, h0, KM.rf I⟩
    refine mj_ci rfl (Nat.le_of_ble_eq_true rfl) ?_
    refine mj_run 4 rfl trivial ?_
    exact mj_end rfl rfl trivial
  · rw [if_neg hn, if_neg hn]
    obtain ⟨ya, A, B, C, ol, od, rfl, hY⟩ := h2.non hn
    have hn10 := hY.1.1.1
    have ht := ab.2.2.2.1.1
    have f := (((Cf.row I 8 (va_cpy (I 5) (I 8) 0 0 10)).tr (Cf.row _ 9 (va_cpy (I 6) (I 9) 0 0 60))).tr (Cf.u _ 7 2 (I 4 2))).tr (Cf.u _ 1 11 (nI 1))
    refine ⟨_, ?_, ⟨h1.fr f (by decide), h2.fr f (by decide), h3.cf f (by decide), h4.fr f (by decide), ⟨by simp [mj_ui, upd], by simp [mj_ui, upd, h4.1], fun i hi => ?_, fun i hi => ?_⟩, ?_, ?_⟩, f.km (by decide)⟩
    · refine mj_ci rfl (Nat.le_of_ble_eq_true rfl) ?_
      refine mj_run 7 rfl trivial ?_
      refine mj_cal rfl rfl c_copyTo ?_
      refine mj_run 6 rfl (Or.inr rfl) ?_
      refine mj_endI rfl rfl trivial ?_ rfl
      simp [mj_ui, upd, h4.1]
    · have : i < 60 := by omega
      simp [mj_ui, mj_row, va_cpy, this, h4.2 i hi]
    · have : i < 10 := by omega
      simp [mj_ui, mj_row, va_cpy, this, h3 i hi]
    · obtain ⟨k1, k2⟩ := h6
      exact ⟨by simp [mj_ui, mj_row, upd, k1], fun i hi => by simp [mj_ui, mj_row]; exact k2 i hi⟩
    · obtain ⟨k1, k2⟩ := h7
      exact ⟨by simp [mj_ui, mj_row, upd, k1], by simp [mj_ui, mj_row, upd, k2]⟩
theorem CO_restore (ab : AB pn pg n Y T t tr kp wn wt yr dn) (h : CI (FM L dy) I (FR y y1 n1 w1 c y2 R) y pn pg n Y T t tr kp wn wt yr dn) : ∃ I', mj_call mj_P (d + 2) kn_T_restore [.ref 1] (HP L dy I y y1 n1 w1 c y2 R J) (some (.int (match kp with | none => Int32.ofInt (-103) | some q => nI q.1))) (HP L dy I' y y1 n1 w1 c y2 R J) ∧ CI (FM L dy) I' (FR y y1 n1 w1 c y2 R) y pn pg n Y (match kp with | none => T | some q => q.2.2) (match kp with | none => t | some q => q.1) (match kp with | none => tr | some q => q.2.1) kp wn wt yr dn ∧ KM I I' := by
  have h0 := h
  obtain ⟨h1, h2, h3, h4, h5, h6, h7⟩ := h
  have hn10 := ab.2.1.1
  cases kp with
  | none =>
    refine ⟨I, ?_, h0, KM.rf I⟩
    refine mj_ci rfl (Nat.le_of_ble_eq_true rfl) ?_
    refine mj_run 2 rfl trivial ?_
    rw [show I 1 11 = nI 0 from h5]
    refine mj_brf rfl rfl (by decide) ?_
    refine mj_run 1 rfl trivial ?_
    exact mj_end rfl rfl trivial
  | some q =>
    obtain ⟨kt, ktr, kT⟩ := q
    obtain ⟨k1, k2, k3, k4⟩ := id h5
    obtain ⟨q1, -, -⟩ := ab.2.2.2.2.1 _ rfl
    dsimp only at q1 ⊢
    have f := ((Cf.row I 5 (va_cpy (I 8) (I 5) 0 0 10)).tr (Cf.row _ 6 (va_cpy (I 9) (I 6) 0 0 60))).tr (Cf.u _ 4 2 (I 7 2))
    refine ⟨_, ?_, ⟨h1.fr f (by decide), h2.fr f (by decide), fun i hi => ?_, ⟨by simp [mj_ui, upd, k2], fun i hi => ?_⟩, h5.fr f (by decide), h6.fr f (by decide), h7.fr f (by decide)⟩, f.km (by decide)⟩
    · refine mj_ci rfl (Nat.le_of_ble_eq_true rfl) ?_
      refine mj_run 2 rfl trivial ?_
      rw [k1]
      refine mj_brt rfl rfl (by decide) ?_
      refine mj_run 4 rfl trivial ?_
      refine mj_cal rfl rfl c_copyBack ?_
      refine mj_run 3 rfl trivial ?_
      refine mj_endI rfl rfl trivial ?_ rfl
      simp [mj_ui, upd, k2]
    · have : i < 10 := by omega
      simp [mj_ui, mj_row, va_cpy, this, k4 i hi]
    · have : i < 60 := by omega
      simp [mj_ui, mj_row, va_cpy, this, k3 i hi]
theorem T_count (ab : AB pn pg n Y T t tr kp wn wt yr dn) (h : CI (FM L dy) I (FR y y1 n1 w1 c y2 R) y pn pg n Y T t tr kp wn wt yr dn) (x : Int32) : mj_call mj_P (d + 1) kn_T_count [.ref 1, .int x] (HP L dy I y y1 n1 w1 c y2 R J) (some (.int (tb (ctF n t wn pn yr dn) 6 (Int32.ofInt (-102)) x))) (HP L dy I y y1 n1 w1 c y2 R J) := by
  obtain ⟨h1, h2, h3, h4, h5, h6, h7⟩ := h
  refine mj_ci rfl (Nat.le_of_ble_eq_true rfl) ?_
  refine mj_run 2 rfl trivial ?_
  rcases i_cases x 6 with hx | ⟨k, hk, rfl⟩
  · rw [tb_out hx, mj_sw_out hx]
    refine mj_run 1 rfl trivial ?_
    exact mj_end rfl rfl trivial
  · rw [tb_in hk (by decide)]
    match k, hk with
    | 0, _ =>
      rw [mj_sw_nI (q := 40) (by decide) rfl]
      by_cases hn : n = 0
      · obtain rfl := h2.nul hn
        subst hn
        refine mj_run 5 rfl trivial ?_
        exact mj_end rfl rfl trivial
      · obtain ⟨ya, A, B, C, ol, od, rfl, hY⟩ := h2.non hn
        refine mj_run 5 rfl trivial ?_
        refine sx_gi rfl hY.2.2.1.1 rfl ?_
        rw [hY.2.2.2.2.2.1]
        exact mj_end rfl rfl trivial
    | 1, _ =>
      rw [mj_sw_nI (q := 59) (by decide) rfl]
      refine mj_run 3 rfl trivial ?_
      rw [h4.1]
      exact mj_end rfl rfl trivial
    | 2, _ =>
      rw [mj_sw_nI (q := 67) (by decide) rfl]
      refine mj_run 2 rfl trivial ?_
      rw [h6.1]
      exact mj_end rfl rfl trivial
    | 3, _ =>
      rw [mj_sw_nI (q := 72) (by decide) rfl]
      refine mj_run 3 rfl trivial ?_
      rw [h1.1]
      exact mj_end rfl rfl trivial
    | 4, _ =>
      rw [mj_sw_nI (q := 80) (by decide) rfl]
      refine mj_run 2 rfl trivial ?_
      rw [h7.1]
      exact mj_end rfl rfl trivial
    | 5, _ =>
      rw [mj_sw_nI (q := 85) (by decide) rfl]
      refine mj_run 2 rfl trivial ?_
      rw [h7.2]
      exact mj_end rfl rfl trivial
    | q + 6, hq => omega
theorem CO_down (ab : AB pn pg n Y T t tr kp wn wt yr dn) (h : CI (FM L dy) I (FR y y1 n1 w1 c y2 R) y pn pg n Y T t tr kp wn wt yr dn) : ∃ I', mj_call mj_P (d + 4) kn_T_down [.ref 1] (HP L dy I y y1 n1 w1 c y2 R J) (some (.int (if n = 0 then Int32.ofInt (-103) else if t = 60 then Int32.ofInt (-104) else gv (gt Y none T).1))) (HP L dy I' y y1 n1 w1 c y2 R J) ∧ (match (if n = 0 ∨ t = 60 then none else (gt Y none T).1) with
    | none => CI (FM L dy) I' (FR y y1 n1 w1 c y2 R) y pn pg n Y T t tr kp wn wt yr dn
    | some s => CI (FM L dy) I' (FR y y1 n1 w1 c y2 R) y pn pg n Y (gt Y none T).2.1 (t + 1) (fu tr t s) kp wn wt yr dn) ∧ KM I I' := by
  have h0 := h
  obtain ⟨h1, h2, h3, h4, h5, h6, h7⟩ := h
  have ht := ab.2.2.2.1.1
  by_cases hn : n = 0
  · rw [if_pos hn, if_pos (Or.inl hn)]
    obtain rfl := h2.nul hn
    refine ⟨I, ?_, h0, KM.rf I⟩
    refine mj_ci rfl (Nat.le_of_ble_eq_true rfl) ?_
    refine mj_run 4 rfl trivial ?_
    exact mj_end rfl rfl trivial
  · rw [if_neg hn]
    obtain ⟨ya, A, B, C, ol, od, rfl, hY⟩ := h2.non hn
    have hn10 := hY.1.1.1
    by_cases ht6 : t = 60
    · rw [if_pos ht6, if_pos (Or.inr ht6)]
      refine ⟨I, ?_, h0, KM.rf I⟩
      refine mj_ci rfl (Nat.le_of_ble_eq_true rfl) ?_
      refine mj_run 7 rfl trivial ?_
      rw [h4.1]
      refine mj_brf rfl rfl (by rw [nI_ltI (by omega) (by decide)]; omega) ?_
      refine mj_run 1 rfl trivial ?_
      exact mj_end rfl rfl trivial
    · rw [if_neg ht6, if_neg (by omega)]
      obtain ⟨I1, hc1, hf1, hT1, -, hm1⟩ := R_send (d := d) (J := J) (sA := 5) hY rfl (by decide) (by decide) (by decide) (by decide) h3 ab.2.2.1 sq_none
      obtain ⟨s10, hTK, -⟩ := gt_ok (q := none) hY.1.1 hY.1.2.1 ab.2.2.1
      have start : ∀ (v : Option Value) (h' : mjH), mj_Rd (mj_call mj_P (d + 3)) kc_T_down 1 (45, [some (.ref 1), some (.int (gv (gt Y none T).1))], [], HP L dy I1 (some ya) y1 n1 w1 c y2 R J) v h' → mj_call mj_P (d + 4) kn_T_down [.ref 1] (HP L dy I (some ya) y1 n1 w1 c y2 R J) v h' := by
        intro v h' hx
        refine mj_ci rfl (Nat.le_of_ble_eq_true rfl) ?_
        refine mj_run 7 rfl trivial ?_
        rw [h4.1]
        refine mj_brt rfl rfl (by rw [nI_ltI (by omega) (by decide)]; omega) ?_
        refine mj_run 8 rfl trivial ?_
        refine mj_cal rfl rfl hc1 ?_
        refine mj_run 1 rfl trivial ?_
        exact hx
      cases hs : (gt Y none T).1 with
      | none =>
        rw [hs] at start
        have hg : (gt Y none T).2.1 = T := by
          unfold gt at hs ⊢
          split at hs
          · cases hs
          · rename_i q; rw [if_neg q]
        rw [hg] at hT1
        refine ⟨I1, start _ _ ?_, ⟨h1.fr hf1 (by decide), h2.fr hf1 (by decide), hT1, h4.fr hf1 (by decide), h5.fr hf1 (by decide), h6.fr hf1 (by decide), h7.fr hf1 (by decide)⟩, hf1.km (by decide)⟩
        refine mj_run 2 rfl trivial ?_
        refine mj_brt rfl rfl rfl ?_
        refine mj_run 1 rfl trivial ?_
        exact mj_end rfl rfl trivial
      | some s =>
        rw [hs] at start
        have hs10 := s10 s hs
        have f := (hf1.tr (Cf.u I1 6 t (nI s))).tr (Cf.u _ 4 2 (nI (t + 1)))
        have e4 : I1 4 2 = nI t := by rw [hf1 4 (by decide)]; exact h4.1
        refine ⟨mj_ui (mj_ui I1 6 t (nI s)) 4 2 (nI (t + 1)), start _ _ ?_, ⟨h1.fr f (by decide), h2.fr f (by decide), fun i hi => by simp [mj_ui]; exact hT1 i hi, ⟨by simp [mj_ui, upd], fun i hi => ?_⟩, h5.fr f (by decide), h6.fr f (by decide), h7.fr f (by decide)⟩, f.km (by decide)⟩
        · have put : mj_call mj_P (d + 3) kn_Sc_put [.ref 4, .int (nI s)] (HP L dy I1 (some ya) y1 n1 w1 c y2 R J) none (HP L dy (mj_ui (mj_ui I1 6 t (nI s)) 4 2 (nI (t + 1))) (some ya) y1 n1 w1 c y2 R J) := by
            refine mj_ci rfl (Nat.le_of_ble_eq_true rfl) ?_
            refine mj_run 5 rfl trivial ?_
            rw [e4]
            refine mj_brf rfl rfl (by rw [nI_leI (by decide) (by omega)]; omega) ?_
            have e5 : mj_ui I1 6 t (nI s) 4 2 = nI t := by simp [mj_ui, e4]
            refine mj_run 12 rfl ⟨by rw [e4]; exact nI_vi (by omega) (by decide), by decide⟩ ?_
            rw [e4, nI_nc (by omega), e5, nI_add]
            exact mj_end rfl rfl trivial
          refine mj_run 2 rfl trivial ?_
          refine mj_brf rfl rfl (nI_m1 (by omega)) ?_
          refine mj_run 3 rfl trivial ?_
          refine mj_cal rfl rfl put ?_
          refine mj_run 1 rfl trivial ?_
          exact mj_end rfl rfl trivial
        · by_cases e : i = t
          · subst e; simp [mj_ui, upd, fu]
          · have := h4.2 i (by omega)
            have e6 : I1 6 = I 6 := hf1 6 (by decide)
            simp [mj_ui, upd, fu, e, e6, this]
end CC
