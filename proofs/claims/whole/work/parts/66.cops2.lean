section CC
variable {d L : Nat} {dy : mjM} {I : mjI} {y y1 n1 w1 c y2 : Option Nat} {R : mjR} {J : mjJ} {pn : Nat} {pg : Nat → Nat} {n : Nat} {Y : Yd} {T : Nat → Nat} {t : Nat} {tr : Nat → Nat} {kp : Kp} {wn : Nat} {wt : Nat → Nat} {yr dn : Nat}
theorem Cyd.ya {m : mjM} {I : mjI} {R : mjR} {y : Option Nat} {n : Nat} {Y : Yd} {x : Int} (h : Cyd m I R y n Y) (g : 0 ≤ x ∧ x < n) : ∃ (ya : Nat) (A B C : Nat → Nat) (ol : Nat) (od : Nat → Nat), y = some ya ∧ CY m I R ya A B C n ol od Y := by
  rcases h with ⟨hn, -⟩ | h
  · omega
  · exact h
theorem C_about {ya ol : Nat} {A B C od : Nat → Nat} (hTK : TOK n Y T) (hY : CY (FM L dy) I (FR (some ya) y1 n1 w1 c y2 R) ya A B C n ol od Y) (h3 : RI I 5 n T) {p : Nat} (hp : p < n) (z : Int32) : mj_Rd (mj_call mj_P (d + 2)) kc_T_about 1 (11, [some (.ref 1), some (.int (nI p)), some (.int z), none, none], [], HP L dy I (some ya) y1 n1 w1 c y2 R J) (some (.int (tb (abF Y T p) 13 (Int32.ofInt (-102)) z))) (HP L dy I (some ya) y1 n1 w1 c y2 R J) := by
  obtain ⟨⟨hK, hn1, -⟩, ⟨r0, r3, r4, r5, r6, r7⟩, ⟨m0, m1, m2, m3, m4, m5, m6⟩, -, hp5, i1, i2, i3, i4, i5, i6⟩ := hY
  have hn := hK.1
  obtain ⟨k1, k2, k3, -⟩ := hK.2 p hp
  have hs := hTK p hp
  obtain ⟨b1, b2⟩ := hp5 p hp
  obtain ⟨⟨q, hm⟩, hr, hc⟩ := id b2
  have vi : vp_in (nI p) 10 := nI_vi (by omega) (by decide)
  have hcl : (nI p).toNatClampNeg = p := nI_nc (by omega)
  refine mj_run 2 rfl trivial ?_
  refine sx_gr rfl m0 rfl r0 ?_
  refine mj_run 1 rfl trivial ?_
  refine sx_al rfl m1 rfl (nI_vi hp (by omega)) (by rw [hcl]; exact b1) ?_
  refine mj_run 9 rfl vi ?_
  rw [hcl, h3 p hp]
  rcases i_cases z 13 with hx | ⟨k, hk, rfl⟩
  · rw [tb_out hx, mj_sw_out hx]
    refine mj_run 1 rfl trivial ?_
    exact mj_end rfl rfl trivial
  · rw [tb_in hk (by decide)]
    have way : ∀ w, w < 3 → mj_Rd (mj_call mj_P (d + 2)) kc_T_about 1 (126, [some (.ref 1), some (.int (nI p)), some (.int (nI (10 + w))), some (.ref (B p)), some (.int (nI (T p)))], [], HP L dy I (some ya) y1 n1 w1 c y2 R J) (some (.int (if w < Y.2.1 p then nI (Y.2.2 p w) else Int32.ofInt (-1)))) (HP L dy I (some ya) y1 n1 w1 c y2 R J) := by
      intro w hw
      refine mj_run 4 rfl trivial ?_
      rw [pk_sub (by omega), show 10 + w - 10 = w by omega]
      refine sx_v1 rfl hm (ptg_sel k1) rfl (P_placeBy hK hp b2 (by omega) (i3 p hp)) ?_
      exact mj_end rfl rfl trivial
    have dflt : mj_Rd (mj_call mj_P (d + 2)) kc_T_about 1 (135, [some (.ref 1), some (.int (nI p)), some (.int (nI k)), some (.ref (B p)), some (.int (nI (T p)))], [], HP L dy I (some ya) y1 n1 w1 c y2 R J) (some (.int (Int32.ofInt (-102)))) (HP L dy I (some ya) y1 n1 w1 c y2 R J) := by
      refine mj_run 1 rfl trivial ?_
      exact mj_end rfl rfl trivial
    match k, hk with
    | 0, _ =>
      rw [mj_sw_nI (q := 100) (by decide) rfl]
      obtain ⟨f, hs, hk⟩ := P_kind (d := d + 1) (I := I) (J := J) hK hp b2
      refine mj_run 1 rfl trivial ?_
      refine sx_v0 rfl hm hs rfl hk ?_
      exact mj_end rfl rfl trivial
    | 1, _ =>
      rw [mj_sw_nI (q := 105) (by decide) rfl]
      refine mj_run 1 rfl trivial ?_
      refine sx_gr rfl hm (ptg_any k1) hr ?_
      refine sx_ln rfl hc rfl ?_
      exact mj_end rfl rfl trivial
    | 2, _ =>
      rw [mj_sw_nI (q := 111) (by decide) rfl]
      refine mj_run 1 rfl trivial ?_
      exact mj_end rfl rfl trivial
    | 3, _ =>
      rw [mj_sw_nI (q := 114) (by decide) rfl]
      obtain ⟨f, hs, hk⟩ := P_sc (d := d) (I := I) (J := J) hK hp b2
      refine mj_run 1 rfl trivial ?_
      refine sx_v0 rfl hm hs rfl hk ?_
      exact mj_end rfl rfl trivial
    | 4, _ =>
      rw [mj_sw_nI (q := 119) (by decide) rfl]
      obtain ⟨f, hs2, hk⟩ := P_wayAt (d := d + 1) (I := I) (J := J) hK hp b2 hs
      refine mj_run 2 rfl trivial ?_
      refine sx_v1 rfl hm hs2 rfl hk ?_
      exact mj_end rfl rfl trivial
    | 5, _ => rw [mj_sw_nI (q := 135) (by decide) rfl]; exact dflt
    | 6, _ => rw [mj_sw_nI (q := 135) (by decide) rfl]; exact dflt
    | 7, _ => rw [mj_sw_nI (q := 135) (by decide) rfl]; exact dflt
    | 8, _ => rw [mj_sw_nI (q := 135) (by decide) rfl]; exact dflt
    | 9, _ => rw [mj_sw_nI (q := 135) (by decide) rfl]; exact dflt
    | 10, _ => rw [mj_sw_nI (q := 126) (by decide) rfl]; exact way 0 (by decide)
    | 11, _ => rw [mj_sw_nI (q := 126) (by decide) rfl]; exact way 1 (by decide)
    | 12, _ => rw [mj_sw_nI (q := 126) (by decide) rfl]; exact way 2 (by decide)
    | q + 13, hq => omega
theorem CO_about (ab : AB pn pg n Y T t tr kp wn wt yr dn) (h : CI (FM L dy) I (FR y y1 n1 w1 c y2 R) y pn pg n Y T t tr kp wn wt yr dn) (x z : Int32) : mj_call mj_P (d + 3) kn_T_about [.ref 1, .int x, .int z] (HP L dy I y y1 n1 w1 c y2 R J) (some (.int (if 0 ≤ x.toInt ∧ x.toInt < n then tb (abF Y T x.toNatClampNeg) 13 (Int32.ofInt (-102)) z else Int32.ofInt (-101)))) (HP L dy I y y1 n1 w1 c y2 R J) := by
  refine mj_ci rfl (Nat.le_of_ble_eq_true rfl) ?_
  refine mj_run 2 rfl trivial ?_
  refine mj_cal rfl rfl (T_isPoint h.2.1 x) ?_
  by_cases g : 0 ≤ x.toInt ∧ x.toInt < n
  · obtain ⟨ya, A, B, C, ol, od, rfl, hY⟩ := h.2.1.ya g
    have hn := hY.1.1.1
    rw [if_pos g, if_pos g]
    refine mj_brt rfl rfl (by decide) ?_
    obtain ⟨p, hp, rfl⟩ := i_nI g
    rw [nI_nc (by omega)]
    exact C_about ab.2.2.1 hY h.2.2.1 hp z
  · rw [if_neg g, if_neg g]
    refine mj_brf rfl rfl (by decide) ?_
    refine mj_run 1 rfl trivial ?_
    exact mj_end rfl rfl trivial
theorem c_cast {m : mjM} {R : mjR} {b q kd k : Nat} (hm : mj_mt b m = some (ptg kd, q)) (hd : kd < 4) (hk : k < 4) : mj_call mj_P (d + 1) kn_T_canBeTakenAs [.ref b, .int (nI k)] (m, I, R, J) (some (.int (nI (if k = 0 ∨ k = kd ∨ (k = 1 ∧ kd = 3) then 1 else 0)))) (m, I, R, J) := by
  refine mj_ci rfl (Nat.le_of_ble_eq_true rfl) ?_
  refine mj_run 2 rfl trivial ?_
  match k, hk with
  | 0, _ =>
    rw [show mj_sw 1 43 [28, 33, 38] (nI 0) = 43 by decide, if_pos (Or.inl rfl)]
    refine mj_run 1 rfl trivial ?_
    exact mj_end rfl rfl (Or.inr rfl)
  | 1, _ =>
    rw [show mj_sw 1 43 [28, 33, 38] (nI 1) = 28 by decide]
    refine mj_run 1 rfl trivial ?_
    match kd, hd with
    | 0, _ => exact sx_in0 rfl hm rfl (mj_end rfl rfl (Or.inl rfl))
    | 1, _ => exact sx_in1 rfl hm rfl (mj_end rfl rfl (Or.inr rfl))
    | 2, _ => exact sx_in0 rfl hm rfl (mj_end rfl rfl (Or.inl rfl))
    | 3, _ => exact sx_in1 rfl hm rfl (mj_end rfl rfl (Or.inr rfl))
    | j + 4, hj => omega
  | 2, _ =>
    rw [show mj_sw 1 43 [28, 33, 38] (nI 2) = 33 by decide]
    refine mj_run 1 rfl trivial ?_
    match kd, hd with
    | 0, _ => exact sx_in0 rfl hm rfl (mj_end rfl rfl (Or.inl rfl))
    | 1, _ => exact sx_in0 rfl hm rfl (mj_end rfl rfl (Or.inl rfl))
    | 2, _ => exact sx_in1 rfl hm rfl (mj_end rfl rfl (Or.inr rfl))
    | 3, _ => exact sx_in0 rfl hm rfl (mj_end rfl rfl (Or.inl rfl))
    | j + 4, hj => omega
  | 3, _ =>
    rw [show mj_sw 1 43 [28, 33, 38] (nI 3) = 38 by decide]
    refine mj_run 1 rfl trivial ?_
    match kd, hd with
    | 0, _ => exact sx_in0 rfl hm rfl (mj_end rfl rfl (Or.inl rfl))
    | 1, _ => exact sx_in0 rfl hm rfl (mj_end rfl rfl (Or.inl rfl))
    | 2, _ => exact sx_in0 rfl hm rfl (mj_end rfl rfl (Or.inl rfl))
    | 3, _ => exact sx_in1 rfl hm rfl (mj_end rfl rfl (Or.inr rfl))
    | j + 4, hj => omega
  | j + 4, hj => omega
theorem CO_as (h : CI (FM L dy) I (FR y y1 n1 w1 c y2 R) y pn pg n Y T t tr kp wn wt yr dn) (x z : Int32) : mj_call mj_P (d + 2) kn_T_as [.ref 1, .int x, .int z] (HP L dy I y y1 n1 w1 c y2 R J) (some (.int (if 0 ≤ x.toInt ∧ x.toInt < n then (if 0 ≤ z.toInt ∧ z.toInt < 4 then asF Y x.toNatClampNeg z.toNatClampNeg else Int32.ofInt (-102)) else Int32.ofInt (-101)))) (HP L dy I y y1 n1 w1 c y2 R J) := by
  refine mj_ci rfl (Nat.le_of_ble_eq_true rfl) ?_
  refine mj_run 2 rfl trivial ?_
  refine mj_cal rfl rfl (T_isPoint h.2.1 x) ?_
  by_cases g : 0 ≤ x.toInt ∧ x.toInt < n
  · obtain ⟨ya, A, B, C, ol, od, rfl, hY⟩ := h.2.1.ya g
    obtain ⟨⟨hK, hn1, -⟩, ⟨r0, -⟩, ⟨m0, m1, -⟩, -, hp5, -⟩ := hY
    have hn := hK.1
    rw [if_pos g, if_pos g]
    refine mj_brt rfl rfl (by decide) ?_
    obtain ⟨p, hp, rfl⟩ := i_nI g
    have hcl : (nI p).toNatClampNeg = p := nI_nc (by omega)
    rw [hcl]
    obtain ⟨b1, ⟨q, hm⟩, -⟩ := hp5 p hp
    refine mj_run 1 rfl trivial ?_
    have bad : mj_Rd (mj_call mj_P (d + 1)) kc_T_as 1 (20, [some (.ref 1), some (.int (nI p)), some (.int z)], [], HP L dy I (some ya) y1 n1 w1 c y2 R J) (some (.int (Int32.ofInt (-102)))) (HP L dy I (some ya) y1 n1 w1 c y2 R J) := by
      refine mj_run 1 rfl trivial ?_
      exact mj_end rfl rfl trivial
    refine mj_bra rfl rfl (fun g2 => ?_) (fun g2 => ?_)
    · rw [ii_lt, show (0 : Int32).toInt = 0 from rfl] at g2
      rw [if_neg (by omega)]
      exact bad
    · rw [ii_lt, show (0 : Int32).toInt = 0 from rfl] at g2
      refine mj_run 2 rfl trivial ?_
      refine mj_bra rfl rfl (fun g3 => ?_) (fun g3 => ?_)
      · rw [ii_le, show (nI 3).toInt = 3 from rfl] at g3
        rw [if_pos (by omega)]
        obtain ⟨k, hk, rfl⟩ := i_nI (x := z) (N := 4) (by omega)
        rw [nI_nc (by omega)]
        refine mj_run 2 rfl trivial ?_
        refine sx_gr rfl m0 rfl r0 ?_
        refine mj_run 1 rfl trivial ?_
        refine sx_al rfl m1 rfl (nI_vi hp (by omega)) (by rw [hcl]; exact b1) ?_
        refine mj_run 1 rfl trivial ?_
        refine mj_cal rfl rfl (c_cast hm (hK.2 p hp).1 hk) ?_
        unfold asF
        by_cases a : k = 0 ∨ k = Y.1 p ∨ (k = 1 ∧ Y.1 p = 3)
        · rw [if_pos a, if_pos a]
          refine mj_brf rfl rfl (by decide) ?_
          refine mj_run 2 rfl trivial ?_
          exact mj_end rfl rfl trivial
        · rw [if_neg a, if_neg a]
          refine mj_brt rfl rfl (by decide) ?_
          refine mj_run 1 rfl trivial ?_
          exact mj_end rfl rfl trivial
      · rw [ii_le, show (nI 3).toInt = 3 from rfl] at g3
        rw [if_neg (by omega)]
        exact bad
  · rw [if_neg g, if_neg g]
    refine mj_brf rfl rfl (by decide) ?_
    refine mj_run 1 rfl trivial ?_
    exact mj_end rfl rfl trivial
theorem CO_lever (h : CI (FM L dy) I (FR y y1 n1 w1 c y2 R) y pn pg n Y T t tr kp wn wt yr dn) (x z : Int32) : ∃ I', mj_call mj_P (d + 2) kn_T_lever [.ref 1, .int x, .int z] (HP L dy I y y1 n1 w1 c y2 R J) (some (.int (if 0 ≤ x.toInt ∧ x.toInt < n then (if 0 ≤ z.toInt ∧ z.toInt < Y.2.1 x.toNatClampNeg then nI (T x.toNatClampNeg) else Int32.ofInt (-102)) else Int32.ofInt (-101)))) (HP L dy I' y y1 n1 w1 c y2 R J) ∧ CI (FM L dy) I' (FR y y1 n1 w1 c y2 R) y pn pg n Y (if (0 ≤ x.toInt ∧ x.toInt < n) ∧ 0 ≤ z.toInt ∧ z.toInt < Y.2.1 x.toNatClampNeg then fu T x.toNatClampNeg (lsd Y x.toNatClampNeg z.toNatClampNeg) else T) t tr kp wn wt yr dn ∧ KM I I' := by
  have h0 := h
  obtain ⟨h1, h2, h3, h4, h5, h6, h7⟩ := h
  by_cases g : 0 ≤ x.toInt ∧ x.toInt < n
  · obtain ⟨ya, A, B, C, ol, od, rfl, hY⟩ := h2.ya g
    obtain ⟨⟨hK, hn1, -⟩, ⟨r0, -⟩, ⟨m0, m1, -⟩, -, hp5, -⟩ := hY
    have hn := hK.1
    rw [if_pos g]
    obtain ⟨p, hp, rfl⟩ := i_nI g
    have hcl : (nI p).toNatClampNeg = p := nI_nc (by omega)
    rw [hcl]
    obtain ⟨k1, k2, k3, -⟩ := hK.2 p hp
    obtain ⟨b1, b2⟩ := hp5 p hp
    obtain ⟨⟨q, hm⟩, hr, hc⟩ := id b2
    have vi : vp_in (nI p) 10 := nI_vi (by omega) (by decide)
    have start : ∀ (v : Option Value) (h' : mjH), mj_Rd (mj_call mj_P (d + 1)) kc_T_lever 1 (21, [some (.ref 1), some (.int (nI p)), some (.int z), some (.ref (B p)), none], [], HP L dy I (some ya) y1 n1 w1 c y2 R J) v h' → mj_call mj_P (d + 2) kn_T_lever [.ref 1, .int (nI p), .int z] (HP L dy I (some ya) y1 n1 w1 c y2 R J) v h' := by
      intro v h' hx
      refine mj_ci rfl (Nat.le_of_ble_eq_true rfl) ?_
      refine mj_run 2 rfl trivial ?_
      refine mj_cal rfl rfl (T_isPoint h2 _) ?_
      rw [if_pos g]
      refine mj_brt rfl rfl (by decide) ?_
      refine mj_run 2 rfl trivial ?_
      refine sx_gr rfl m0 rfl r0 ?_
      refine mj_run 1 rfl trivial ?_
      refine sx_al rfl m1 rfl (nI_vi hp (by omega)) (by rw [hcl]; exact b1) ?_
      refine mj_run 1 rfl trivial ?_
      exact hx
    by_cases g2 : 0 ≤ z.toInt ∧ z.toInt < Y.2.1 p
    · rw [if_pos g2, if_pos ⟨g, g2⟩]
      obtain ⟨w, hw, rfl⟩ := i_nI g2
      rw [nI_nc (show w < 2147483648 by omega)]
      obtain ⟨f, hs, hk⟩ := P_first (d := d) (I := I) (J := J) (w := w) hK hp b2
      have fr := Cf.u I 5 p (nI (lsd Y p w))
      refine ⟨mj_ui I 5 p (nI (lsd Y p w)), start _ _ ?_, ⟨h1.fr fr (by decide), h2.fr fr (by decide), fun i hi => ?_, h4.fr fr (by decide), h5.fr fr (by decide), h6.fr fr (by decide), h7.fr fr (by decide)⟩, fr.km (by decide)⟩
      · refine mj_run 1 rfl trivial ?_
        refine mj_brf rfl rfl (i_nn (by omega)) ?_
        refine mj_run 2 rfl trivial ?_
        refine sx_gr rfl hm (ptg_any k1) hr ?_
        refine sx_ln rfl hc rfl ?_
        refine mj_brt rfl rfl (by rw [nI_ltI (by omega) (by omega)]; exact hw) ?_
        refine mj_run 12 rfl vi ?_
        rw [hcl, h3 p hp]
        refine sx_v1 rfl hm hs rfl hk ?_
        refine mj_run 2 rfl ⟨vi, by decide⟩ ?_
        rw [hcl]
        exact mj_end rfl rfl trivial
      · by_cases e : i = p
        · subst e; simp [mj_ui, upd, fu]
        · have := h3 i hi
          simp [mj_ui, upd, fu, e, this]
    · rw [if_neg g2, if_neg (fun q => g2 q.2)]
      refine ⟨I, start _ _ ?_, h0, KM.rf I⟩
      have bad : mj_Rd (mj_call mj_P (d + 1)) kc_T_lever 1 (34, [some (.ref 1), some (.int (nI p)), some (.int z), some (.ref (B p)), none], [], HP L dy I (some ya) y1 n1 w1 c y2 R J) (some (.int (Int32.ofInt (-102)))) (HP L dy I (some ya) y1 n1 w1 c y2 R J) := by
        refine mj_run 1 rfl trivial ?_
        exact mj_end rfl rfl trivial
      refine mj_run 1 rfl trivial ?_
      refine mj_bra rfl rfl (fun _ => bad) (fun g3 => ?_)
      rw [ii_lt, show (0 : Int32).toInt = 0 from rfl] at g3
      refine mj_run 2 rfl trivial ?_
      refine sx_gr rfl hm (ptg_any k1) hr ?_
      refine sx_ln rfl hc rfl ?_
      refine mj_brf rfl rfl (by rw [ii_lt, nI_toInt (by omega)]; omega) bad
  · rw [if_neg g, if_neg (fun q => g q.1)]
    refine ⟨I, ?_, h0, KM.rf I⟩
    refine mj_ci rfl (Nat.le_of_ble_eq_true rfl) ?_
    refine mj_run 2 rfl trivial ?_
    refine mj_cal rfl rfl (T_isPoint h2 _) ?_
    rw [if_neg g]
    refine mj_brf rfl rfl (by decide) ?_
    refine mj_run 1 rfl trivial ?_
    exact mj_end rfl rfl trivial
end CC
