theorem ct_0 : ∀ n, ct 0 n = 0
  | 0 => rfl
  | n + 1 => by
    unfold ct
    rw [ct_0 n]
    simp
section CC
variable {d L : Nat} {dy : mjM} {I : mjI} {y y1 n1 w1 c y2 y1' n1' w1' c' y2' : Option Nat} {R : mjR} {J : mjJ} {pn : Nat} {pg : Nat → Nat} {n : Nat} {Y : Yd} {T : Nat → Nat} {t : Nat} {tr : Nat → Nat} {kp : Kp} {wn : Nat} {wt : Nat → Nat} {yr dn : Nat} {ya ol : Nat} {A B C od : Nat → Nat} {m : mjM}
theorem CY.refs (h : CY m I (FR y y1 n1 w1 c y2 R) ya A B C n ol od Y) : CY m I (FR y y1' n1' w1' c' y2' R) ya A B C n ol od Y := h.mr (fun _ _ g => g) (fun a k b x h65 _ g => by rw [FRd h65] at g ⊢; exact g)
theorem Cyd.refs {z : Option Nat} (h : Cyd m I (FR y y1 n1 w1 c y2 R) z n Y) : Cyd m I (FR y y1' n1' w1' c' y2' R) z n Y := by
  rcases h with h | ⟨ya, A, B, C, ol, od, h1, h2⟩
  · exact Or.inl h
  · exact Or.inr ⟨ya, A, B, C, ol, od, h1, h2.refs⟩
theorem CI.refs (h : CI m I (FR y y1 n1 w1 c y2 R) y pn pg n Y T t tr kp wn wt yr dn) : CI m I (FR y y1' n1' w1' c' y2' R) y pn pg n Y T t tr kp wn wt yr dn := ⟨h.1, h.2.1.refs, h.2.2⟩
theorem CI.plan {R : mjR} (h : CI m I R y pn pg n Y T t tr kp wn wt yr dn) : CI m (mj_ui I 1 14 (nI (dn + 1))) R y pn pg n Y T t tr kp wn wt yr (dn + 1) := by
  obtain ⟨h1, h2, h3, h4, h5, h6, h7⟩ := h
  have f := Cf.u I 1 14 (nI (dn + 1))
  refine ⟨h1.fr f (by decide), h2.fr f (by decide), h3.cf f (by decide), h4.fr f (by decide), ?_, ⟨by simp [mj_ui, upd, h6.1], fun i hi => by simp [mj_ui]; exact h6.2 i hi⟩, by simp [mj_ui, upd, h7.1], by simp [mj_ui, upd]⟩
  cases kp with
  | none =>
    have : I 1 11 = nI 0 := h5
    show mj_ui I 1 14 (nI (dn + 1)) 1 11 = nI 0
    simp [mj_ui, upd, this]
  | some q =>
    obtain ⟨a, b, e⟩ := q
    obtain ⟨k1, k2, k3, k4⟩ := h5
    exact ⟨by simp [mj_ui, upd, k1], by simp [mj_ui, k2], fun i hi => by simp [mj_ui]; exact k3 i hi, fun i hi => by simp [mj_ui]; exact k4 i hi⟩
theorem B_search (hn6 : n ≤ 6) (hwb : wn ≤ 8 ∧ ∀ i, i < wn → wt i < 10) (hw1 : 1 ≤ wn) (hTK : TOK n Y T) (hY : CY (FM L dy) I (FR (some ya) y1 n1 w1 c y2 R) ya A B C n ol od Y) (h3 : RI I 5 n T) (h6 : ∀ i, i < wn → I 42 i = nI (wt i)) : ∃ (X' : mjI) (F' : Nat) (b b' : Nat → Nat), mj_call mj_P (d + 2 * n + 6) kn_Be_search [.ref 12, .ref ya, .ref 5, .ref 42, .int (nI wn)] (HP L dy I (some ya) y1 n1 w1 c y2 R J) (some (.int (nI (if F' ≤ 10 then 1 else 0)))) (HP L dy X' (some ya) (some ya) (some 5) (some 42) c y2 R J) ∧ Cf [12, 14, 15, 16, 17, 18, 19, 20, 21, 22] I X' ∧ X' 12 3 = nI F' ∧ F' ≤ 11 ∧ (F' ≤ 10 → RI X' 22 n b') ∧ BP T n (fun U => TOK n Y U ∧ okR Y wt wn 0 U) 11 b F' b' := by
  obtain ⟨hK, hn1, hO⟩ := hY.1
  have hn := hK.1
  generalize hI3 : mj_row (mj_ui (mj_ui I 12 7 (nI wn)) 12 3 (nI 11)) 21 (va_cpy (mj_ui (mj_ui I 12 7 (nI wn)) 12 3 (nI 11) 5) (mj_ui (mj_ui I 12 7 (nI wn)) 12 3 (nI 11) 21) 0 0 10) = I3
  have f3 : Cf [12, 21] I I3 := by
    rw [← hI3]
    exact ((Cf.u I 12 7 (nI wn)).tr ((Cf.u _ 12 3 (nI 11)).tr (Cf.row _ 21 _))).w (by decide)
  have r21 : ∀ i, i < 10 → I3 21 i = I 5 i := fun i hi => by rw [← hI3]; simp [mj_row, mj_ui, va_cpy, hi]
  have hBG : BG I3 Y n T wt wn 11 T T (fun i => I 5 i) := by
    refine ⟨by rw [← hI3]; simp [mj_row, mj_ui, upd], by rw [← hI3]; simp [mj_row, mj_ui, upd], ⟨fun i hi => by rw [r21 i (by omega)]; exact h3 i hi, hTK, fun i q1 q2 => r21 i q2⟩, by omega, fun q => by omega, fun i hi => by rw [f3 5 (by decide)]; exact h3 i hi, fun i hi => by rw [f3 42 (by decide)]; exact h6 i hi⟩
  have hY3 : CY (FM L dy) I3 (FR (some ya) (some ya) (some 5) (some 42) c y2 R) ya A B C n ol od Y := (hY.fr (fun a h65 _ => f3 a (by simp; omega))).refs
  obtain ⟨X', F', b', hcall, hfr, hB', hP⟩ := B_follow (d := d) (L := L) (dy := dy) (c := c) (y2 := y2) (R := R) (J := J) (A := A) (B := B) (C := C) (od := od) (ol := ol) (ya := ya) (Z := fun i => I 5 i) hn6 hwb.1 hwb.2 hTK n 0 T T 0 10 0 I3 11 T (by rw [ct_0, Nat.zero_add]) (Nat.two_pow_pos n) (fun p _ _ => rfl) (fun p _ hb => by simp at hb) (by omega) (by omega) (by omega) hBG hY3
  rw [ct_0, un_self n (fun p _ => rfl)] at hcall
  rw [ct_0] at hfr
  obtain ⟨g1, g2, g3, g4, g5, g6, g7⟩ := hB'
  refine ⟨X', F', T, b', ?_, fun a ha => ?_, g1, g4, fun q => (g5 q).1, BP_sub hP (fun U => ?_)⟩
  · refine mj_ci rfl (Nat.le_of_ble_eq_true rfl) ?_
    refine mj_run 3 rfl trivial ?_
    rw [FR_y1]
    refine mj_run 3 rfl trivial ?_
    rw [FR_n1]
    refine mj_run 3 rfl trivial ?_
    rw [FR_w1]
    refine mj_run 12 rfl trivial ?_
    refine sx_cp (a := 21) (b := 5) rfl rfl rfl rfl (by decide) ?_
    rw [show (nI 0).toNatClampNeg = 0 from rfl, show (nI 10).toNatClampNeg = 10 from rfl, hI3]
    refine mj_run 7 rfl trivial ?_
    refine mj_cal rfl rfl hcall ?_
    refine mj_run 3 rfl trivial ?_
    rw [g1]
    refine mj_bra rfl rfl (fun g => ?_) (fun g => ?_)
    · rw [nI_ltI (by decide) (by omega)] at g
      rw [if_neg (by omega)]
      refine mj_run 1 rfl trivial ?_
      exact mj_end rfl rfl (Or.inl rfl)
    · rw [nI_ltI (by decide) (by omega)] at g
      rw [if_pos (by omega)]
      refine mj_run 2 rfl trivial ?_
      exact mj_end rfl rfl (Or.inr rfl)
  · simp at ha
    rw [hfr a (by omega) (by omega) (by omega) (by omega), f3 a (by simp; omega)]
  · unfold EB
    have e : mixs 0 T U = U := by
      funext p
      simp [mixs]
    rw [e]
    rw [show wn - 1 - 0 = wn - 1 by omega]
    have : okM Y wt (wn - 1) 0 (10, U, 0) ↔ okR Y wt wn 0 U := by
      rw [← okR_M, show wn - 1 + 1 = wn by omega]
    rw [this]
    exact ⟨fun q => ⟨q.1, q.2.2⟩, fun q => ⟨q.1, fun p _ hb => by simp at hb, q.2⟩⟩
theorem T_mayPlan (ab : AB pn pg n Y T t tr kp wn wt yr dn) (h : CI (FM L dy) I (FR y y1 n1 w1 c y2 R) y pn pg n Y T t tr kp wn wt yr dn) : mj_call mj_P (d + 1) kn_T_mayPlan [.ref 1] (HP L dy I y y1 n1 w1 c y2 R J) (some (.int (nI (if n = 0 ∨ 6 < n ∨ wn = 0 ∨ dn = 20 then 0 else 1)))) (HP L dy I y y1 n1 w1 c y2 R J) := by
  obtain ⟨h1, h2, h3, h4, h5, h6, h7⟩ := h
  have hw := ab.2.2.2.2.2.1.1
  have hd := ab.2.2.2.2.2.2.2
  have bad : mj_Rd (mj_call mj_P d) kc_T_mayPlan 2 (39, [some (.ref 1)], [], HP L dy I y y1 n1 w1 c y2 R J) (some (.int (nI 0))) (HP L dy I y y1 n1 w1 c y2 R J) := by
    refine mj_run 1 rfl trivial ?_
    exact mj_end rfl rfl (Or.inl rfl)
  by_cases hn : n = 0
  · rw [if_pos (Or.inl hn)]
    obtain rfl := h2.nul hn
    refine mj_ci rfl (Nat.le_of_ble_eq_true rfl) ?_
    refine mj_run 3 rfl trivial ?_
    exact bad
  · obtain ⟨ya, A, B, C, ol, od, rfl, hY⟩ := h2.non hn
    have hn10 := hY.1.1.1
    refine mj_ci rfl (Nat.le_of_ble_eq_true rfl) ?_
    refine mj_run 5 rfl trivial ?_
    refine sx_gi rfl hY.2.2.1.1 rfl ?_
    rw [hY.2.2.2.2.2.1]
    refine mj_run 1 rfl trivial ?_
    refine mj_bra rfl rfl (fun g => ?_) (fun g => ?_)
    · rw [nI_ltI (by decide) (by omega)] at g
      rw [if_pos (by omega)]
      exact bad
    · rw [nI_ltI (by decide) (by omega)] at g
      refine mj_run 2 rfl trivial ?_
      rw [h6.1]
      refine mj_bra rfl rfl (fun g2 => ?_) (fun g2 => ?_)
      · rw [show (0 : Int32) = nI 0 from rfl, nI_leI (by omega) (by decide)] at g2
        rw [if_pos (by omega)]
        exact bad
      · rw [show (0 : Int32) = nI 0 from rfl, nI_leI (by omega) (by decide)] at g2
        refine mj_run 3 rfl trivial ?_
        rw [h7.2]
        refine mj_bra rfl rfl (fun g3 => ?_) (fun g3 => ?_)
        · rw [nI_leI (by decide) (by omega)] at g3
          rw [if_pos (by omega)]
          exact bad
        · rw [nI_leI (by decide) (by omega)] at g3
          rw [if_neg (by omega)]
          refine mj_run 2 rfl trivial ?_
          exact mj_end rfl rfl (Or.inr rfl)
theorem CO_begin {DD : Nat} (hDD : 20 ≤ DD) (ab : AB pn pg n Y T t tr kp wn wt yr dn) (h : CI (FM L dy) I (FR y y1 n1 w1 c y2 R) y pn pg n Y T t tr kp wn wt yr dn) (x : Int32) : ∃ (I' : mjI) (y1' n1' w1' : Option Nat), mj_call mj_P DD kn_T_begin [.ref 1, .int x] (HP L dy I y y1 n1 w1 c y2 R J) (some (.int (bgnA n Y T wt wn dn x))) (HP L dy I' y y1' n1' w1' c y2 R J) ∧ CI (FM L dy) I' (FR y y1' n1' w1' c y2 R) y pn pg n Y T t tr kp wn wt yr (bgnD n wn dn x) ∧ KM I I' := by
  have h0 := h
  obtain ⟨h1, h2, h3, h4, h5, h6, h7⟩ := h
  unfold bgnA bgnD
  by_cases hn : n = 0
  · rw [if_pos hn, if_pos hn]
    obtain rfl := h2.nul hn
    refine ⟨I, y1, n1, w1, ?_, h0, KM.rf I⟩
    obtain ⟨d, rfl⟩ : ∃ d, DD = d + 1 := ⟨DD - 1, by omega⟩
    refine mj_ci rfl (Nat.le_of_ble_eq_true rfl) ?_
    refine mj_run 4 rfl trivial ?_
    exact mj_end rfl rfl trivial
  · rw [if_neg hn, if_neg hn]
    obtain ⟨ya, A, B, C, ol, od, rfl, hY⟩ := h2.non hn
    have hn10 := hY.1.1.1
    have hn1 := hY.1.2.1
    by_cases gx : x = 0 ∨ (10 ≤ x.toInt ∧ x.toInt ≤ 15)
    · rw [if_pos gx, if_pos gx]
      obtain ⟨e, rfl⟩ : ∃ e, DD = e + 2 := ⟨DD - 2, by omega⟩
      have start : ∀ (v : Option Value) (h' : mjH), mj_Rd (mj_call mj_P (e + 1)) kc_T_begin 1 (33, [some (.ref 1), some (.int x)], [.int (nI (if n = 0 ∨ 6 < n ∨ wn = 0 ∨ dn = 20 then 0 else 1))], HP L dy I (some ya) y1 n1 w1 c y2 R J) v h' → mj_call mj_P (e + 2) kn_T_begin [.ref 1, .int x] (HP L dy I (some ya) y1 n1 w1 c y2 R J) v h' := by
        intro v h' hx
        have at29 : mj_Rd (mj_call mj_P (e + 1)) kc_T_begin 1 (29, [some (.ref 1), some (.int x)], [], HP L dy I (some ya) y1 n1 w1 c y2 R J) v h' := by
          refine mj_run 1 rfl trivial ?_
          refine mj_cal rfl rfl (T_mayPlan ab h0) ?_
          exact hx
        refine mj_ci rfl (Nat.le_of_ble_eq_true rfl) ?_
        refine mj_run 4 rfl trivial ?_
        refine mj_bra rfl rfl (fun _ => at29) (fun g => ?_)
        have gx2 : 10 ≤ x.toInt ∧ x.toInt ≤ 15 := by
          rcases gx with q | q
          · exact absurd q g
          · exact q
        refine mj_run 2 rfl trivial ?_
        refine mj_brf rfl rfl (by rw [ii_lt, show (nI 10).toInt = 10 from rfl]; omega) ?_
        refine mj_run 2 rfl trivial ?_
        exact mj_brt rfl rfl (by rw [ii_lt, show (nI 16).toInt = 16 from rfl]; omega) at29
      by_cases hp : 6 < n ∨ wn = 0 ∨ dn = 20
      · rw [if_pos hp, if_pos hp]
        rw [if_pos (Or.inr hp)] at start
        refine ⟨I, y1, n1, w1, start _ _ ?_, h0, KM.rf I⟩
        refine mj_brf rfl rfl (by decide) ?_
        refine mj_run 1 rfl trivial ?_
        exact mj_end rfl rfl trivial
      · rw [if_neg hp, if_neg hp]
        rw [if_neg (by omega)] at start
        have hI1 := h0.plan
        have f1 := Cf.u I 1 14 (nI (dn + 1))
        obtain ⟨q1, q2, q3, q4, q5, q6, q7⟩ := id hI1
        have hY1 := hY.fr (I' := mj_ui I 1 14 (nI (dn + 1))) (fun a h65 _ => f1 a (by simp; omega))
        obtain ⟨d, rfl⟩ : ∃ d, e = d + 2 * n + 5 := ⟨e - (2 * n + 5), by omega⟩
        obtain ⟨X', F', b, b', hc, hf, g1, g4, g5, hP⟩ := B_search (d := d) (J := J) (by omega) ab.2.2.2.2.2.1 (by omega) ab.2.2.1 hY1 q3 q6.2
        have hone := begin_one hY.1.1 hn1 (by omega) hP
        have ff := f1.tr hf
        refine ⟨X', some ya, some 5, some 42, start _ _ ?_, (hI1.fr hf (by decide)).refs, ff.km (by decide)⟩
        refine mj_brt rfl rfl (by decide) ?_
        have e14 : I 1 14 + nI 1 = nI (dn + 1) := by rw [h7.2, nI_add]
        have e12 : mj_ui I 1 14 (nI (dn + 1)) 1 12 = nI wn := q6.1
        refine mj_run 17 rfl trivial ?_
        rw [e14, e12]
        refine mj_cal rfl rfl hc ?_
        unfold bgR
        cases hb : (bgF Y n T wt wn (pd Y n)).1 with
        | none =>
          rw [hb] at hone
          have hone : F' = 11 := hone
          rw [if_neg (by omega)]
          refine mj_brf rfl rfl (by decide) ?_
          refine mj_run 1 rfl trivial ?_
          exact mj_end rfl rfl trivial
        | some cd =>
          rw [hb] at hone
          obtain ⟨o1, o2, o3⟩ := hone
          rw [if_pos (by omega)]
          refine mj_brt rfl rfl (by decide) ?_
          refine mj_run 1 rfl trivial ?_
          dsimp only
          refine mj_bra rfl rfl (fun g => ?_) (fun g => ?_)
          · have gx2 : 10 ≤ x.toInt ∧ x.toInt ≤ 15 := by
              rcases gx with q | q
              · exact absurd q g
              · exact q
            obtain ⟨k, hk, rfl⟩ := i_nI (x := x) (N := 16) (by omega)
            rw [nI_toInt (by omega)] at gx2
            rw [nI_nc (by omega), if_neg (by omega)]
            refine mj_run 5 rfl trivial ?_
            refine sx_gi rfl hY.2.2.1.1 rfl ?_
            rw [pk_sub (by omega), hf ya (by have := hY.2.2.2.1.1.1; simp; omega), hY1.2.2.2.2.2.1]
            refine mj_bra rfl rfl (fun g2 => ?_) (fun g2 => ?_)
            · rw [nI_leI (by omega) (by omega)] at g2
              rw [if_neg (by omega)]
              refine mj_run 1 rfl trivial ?_
              exact mj_end rfl rfl trivial
            · rw [nI_leI (by omega) (by omega)] at g2
              rw [if_pos (by omega)]
              refine mj_run 7 rfl (by rw [pk_sub (by omega)]; exact nI_vi (by omega) (by decide)) ?_
              rw [pk_sub (by omega), nI_nc (by omega), g5 (by omega) (k - 10) (by omega), o3 (k - 10) (by omega)]
              refine mj_run 1 rfl trivial ?_
              exact mj_end rfl rfl trivial
          · have g := Classical.not_not.mp g
            subst g
            rw [show (0 : Int32).toNatClampNeg = 0 from rfl, if_pos rfl]
            refine mj_run 3 rfl trivial ?_
            rw [g1, o1]
            exact mj_end rfl rfl trivial
    · rw [if_neg gx, if_neg gx]
      refine ⟨I, y1, n1, w1, ?_, h0, KM.rf I⟩
      obtain ⟨d, rfl⟩ : ∃ d, DD = d + 1 := ⟨DD - 1, by omega⟩
      have bad : mj_Rd (mj_call mj_P d) kc_T_begin 1 (26, [some (.ref 1), some (.int x)], [], HP L dy I (some ya) y1 n1 w1 c y2 R J) (some (.int (Int32.ofInt (-102)))) (HP L dy I (some ya) y1 n1 w1 c y2 R J) := by
        refine mj_run 1 rfl trivial ?_
        exact mj_end rfl rfl trivial
      refine mj_ci rfl (Nat.le_of_ble_eq_true rfl) ?_
      refine mj_run 4 rfl trivial ?_
      refine mj_brf rfl rfl (fun q => gx (Or.inl q)) ?_
      refine mj_run 2 rfl trivial ?_
      refine mj_bra rfl rfl (fun _ => bad) (fun g => ?_)
      rw [ii_lt, show (nI 10).toInt = 10 from rfl] at g
      refine mj_run 2 rfl trivial ?_
      exact mj_brf rfl rfl (by rw [ii_lt, show (nI 16).toInt = 16 from rfl]; omega) bad
end CC
