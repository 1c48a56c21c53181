section MM
variable {d L : Nat} {dy : mjM} {I : mjI} {y y1 n1 w1 c y2 : Option Nat} {R : mjR} {J : mjJ} {pn : Nat} {pg : Nat → Nat} {n : Nat} {Y : Yd} {T : Nat → Nat} {t : Nat} {tr : Nat → Nat} {kp : Kp} {wn : Nat} {wt : Nat → Nat} {yr dn : Nat}
theorem M_faultOf (h : Mpg I pn pg) : ∃ I', mj_call mj_P (d + 3) kn_M_faultOf [.ref 45] (HP L dy I y y1 n1 w1 c y2 R J) (some (.int (nI (scF pg pn 0 ps0).1))) (HP L dy I' y y1 n1 w1 c y2 R J) ∧ Fr [2, 3, 4, 5] [47, 48, 49] I I' ∧ ∀ s', (scF pg pn 0 ps0).2 = some s' → MPs I' s' := by
  have hp50 := h.2.1
  have key : ∀ (f k : Nat) (X : mjI) (s : Ps), k + f = pn → Mpg X pn pg → MPs X s → PsOK s → ∃ I', (Fr [2, 3, 4, 5] [47, 48, 49] X I' ∧ ∀ s', (scF pg f k s).2 = some s' → MPs I' s') ∧ mj_Rd (mj_call mj_P (d + 2)) kc_M_faultOf 1 (29, [some (.ref 45), some (.int (nI k))], [], HP L dy X y y1 n1 w1 c y2 R J) (some (.int (nI (scF pg f k s).1))) (HP L dy I' y y1 n1 w1 c y2 R J) := by
    intro f
    induction f with
    | zero =>
      intro k X s hk hX hM hs
      refine ⟨X, ⟨(Fr.rf X).w (by simp) (by simp), fun s' e => by cases e; exact hM⟩, ?_⟩
      refine mj_run 3 rfl trivial ?_
      rw [hX.1]
      refine mj_brt rfl rfl (by rw [nI_leI (by omega) (by omega)]; omega) ?_
      refine mj_run 1 rfl trivial ?_
      exact mj_end rfl rfl trivial
    | succ f ih =>
      intro k X s hk hX hM hs
      obtain ⟨a1, a2, a3⟩ := hX.2.2 k (by omega)
      obtain ⟨I1, hc1, hf1, hm1⟩ := M_go (d := d) (L := L) (dy := dy) (y := y) (y1 := y1) (n1 := n1) (w1 := w1) (c := c) (y2 := y2) (R := R) (J := J) a3 hs hM
      cases hg : goS (pg k) s with
      | none =>
        rw [show scF pg (f + 1) k s = (k, none) by simp [scF, hg]]
        rw [hg] at hc1
        refine ⟨I1, ⟨hf1, fun s' e => (by cases e)⟩, ?_⟩
        refine mj_run 3 rfl trivial ?_
        rw [hX.1]
        refine mj_brf rfl rfl (by rw [nI_leI (by omega) (by omega)]; omega) ?_
        refine mj_run 5 rfl (nI_vi (by omega) (by decide)) ?_
        rw [nI_nc (by omega), a1]
        refine mj_cal rfl rfl hc1 ?_
        refine mj_brt rfl rfl (by decide) ?_
        refine mj_run 1 rfl trivial ?_
        exact mj_end rfl rfl trivial
      | some s' =>
        rw [show scF pg (f + 1) k s = scF pg f (k + 1) s' by simp [scF, hg]]
        rw [hg] at hc1
        obtain ⟨I2, ⟨hf2, hm2⟩, hx2⟩ := ih (k + 1) I1 s' (by omega) (hX.fr hf1 (by decide)) (hm1 s' hg) (goS_ok hs hg)
        refine ⟨I2, ⟨(hf1.tr hf2).w (by decide) (by decide), hm2⟩, ?_⟩
        refine mj_run 3 rfl trivial ?_
        rw [hX.1]
        refine mj_brf rfl rfl (by rw [nI_leI (by omega) (by omega)]; omega) ?_
        refine mj_run 5 rfl (nI_vi (by omega) (by decide)) ?_
        rw [nI_nc (by omega), a1]
        refine mj_cal rfl rfl hc1 ?_
        refine mj_brf rfl rfl (show ¬ nI 1 = 0 by decide) ?_
        refine mj_run 2 rfl trivial ?_
        rw [nI_add]
        exact hx2
  have fr := ((((Fr.u I 2 (nI 0)).tr (Fr.u _ 3 (nI 0))).tr (Fr.u _ 4 (nI 0))).tr (Fr.u _ 5 (nI 0))).tr (Fr.a _ (a := 47) (by decide) 0 (nI 0))
  obtain ⟨I', ⟨hf, hm⟩, hx⟩ := key pn 0 (mj_ui (mj_ui (mj_ui (mj_ui (mj_ui I 45 2 (nI 0)) 45 3 (nI 0)) 45 4 (nI 0)) 45 5 (nI 0)) 47 0 (nI 0)) ps0 (by omega) (h.fr fr (by decide)) (by
    refine ⟨by simp [mj_ui, upd, ps0], by simp [mj_ui, upd, ps0], by simp [mj_ui, upd, ps0], by simp [mj_ui, upd, ps0], fun p hp => ?_⟩
    have : p = 0 := by have : p ≤ 0 := hp; omega
    subst this
    exact ⟨by simp [mj_ui, upd, ps0], fun hc => absurd hc (Nat.lt_irrefl 0), fun w hw => absurd hw (Nat.not_lt_zero w)⟩) ps0_ok
  refine ⟨I', ?_, (fr.tr hf).w (by decide) (by decide), hm⟩
  refine mj_ci rfl (Nat.le_of_ble_eq_true rfl) ?_
  refine mj_run 19 rfl ⟨Or.inl rfl, nI_vi (by decide) (by decide), by decide⟩ ?_
  exact hx
theorem MO_fault (h : MI I pn pg n Y T t tr kp wn wt yr dn) : ∃ I', mj_call mj_P (d + 4) kn_M_fault [.ref 45] (HP L dy I y y1 n1 w1 c y2 R J) (some (.int (nI (scF pg pn 0 ps0).1))) (HP L dy I' y y1 n1 w1 c y2 R J) ∧ MI I' pn pg n Y T t tr kp wn wt yr dn ∧ Fr wk wa' I I' := by
  obtain ⟨I', hc, hf, -⟩ := M_faultOf (d := d) (L := L) (dy := dy) (y := y) (y1 := y1) (n1 := n1) (w1 := w1) (c := c) (y2 := y2) (R := R) (J := J) h.1
  have ff := hf.w (ks' := wk) (as' := wa') (by decide) (by decide)
  refine ⟨I', ?_, h.work ff, ff⟩
  refine mj_ci rfl (Nat.le_of_ble_eq_true rfl) ?_
  refine mj_run 1 rfl trivial ?_
  refine mj_cal rfl rfl hc ?_
  exact mj_end rfl rfl trivial
def YR (X : mjI) (Y : Yd) (q : Nat) : Prop := X 50 q = nI (Y.1 q) ∧ X 51 q = nI (Y.2.1 q) ∧ X 53 q = nI 0 ∧ ∀ w, w < 3 → X 52 (3 * q + w) = if w < Y.2.1 q then nI (Y.2.2 q w) else Int32.ofInt (-1)
theorem MO_yard (h : MI I pn pg n Y T t tr kp wn wt yr dn) (hyr : yr < 1000) : ∃ I', mj_call mj_P (d + 4) kn_M_yard [.ref 45] (HP L dy I y y1 n1 w1 c y2 R J) (some (.int (match ydS pg pn with | none => Int32.ofInt (-103) | some q => nI q.1))) (HP L dy I' y y1 n1 w1 c y2 R J) ∧ (match ydS pg pn with | none => MI I' pn pg n Y T t tr kp wn wt yr dn | some q => MI I' 0 pg q.1 q.2 (fun _ => 0) 0 tr none wn wt (yr + 1) dn) ∧ Fr [1, 2, 3, 4, 5, 9, 10, 15] [47, 48, 49, 50, 51, 52, 53] I I' := by
  have h0 := h
  obtain ⟨h1, h2, h3, h4, h5, h6, h7⟩ := h
  obtain ⟨I1, hc1, hf1, hm1⟩ := M_faultOf (d := d) (L := L) (dy := dy) (y := y) (y1 := y1) (n1 := n1) (w1 := w1) (c := c) (y2 := y2) (R := R) (J := J) h1
  have hscan := scF_ok (pg := pg) pn 0 ps0 ps0_ok
  have hp50 := h1.2.1
  have hpm : I1 45 1 = nI pn := (hf1.2 1 (by decide)).trans h1.1
  have hle : (scF pg pn 0 ps0).1 ≤ pn := by have := hscan.1; omega
  have fail : ydS pg pn = none → (mj_Rd (mj_call mj_P (d + 3)) kc_M_yard 1 (4, [some (.ref 45), none, none], [.int (nI (scF pg pn 0 ps0).1)], HP L dy I1 y y1 n1 w1 c y2 R J) (some (.int (Int32.ofInt (-103)))) (HP L dy I1 y y1 n1 w1 c y2 R J)) := by
    intro hn
    have bad : mj_Rd (mj_call mj_P (d + 3)) kc_M_yard 1 (29, [some (.ref 45), none, none], [], HP L dy I1 y y1 n1 w1 c y2 R J) (some (.int (Int32.ofInt (-103)))) (HP L dy I1 y y1 n1 w1 c y2 R J) := by
      refine mj_run 1 rfl trivial ?_
      exact mj_end rfl rfl trivial
    refine mj_run 2 rfl trivial ?_
    rw [hpm]
    refine mj_bra rfl rfl (fun _ => bad) (fun g => ?_)
    rw [nI_ltI (by omega) (by omega)] at g
    unfold ydS at hn
    cases hq : (scF pg pn 0 ps0).2 with
    | none => have := hscan.2.2 hq; omega
    | some s =>
      obtain ⟨e2, e3, e4, e5, eR⟩ := hm1 s hq
      obtain ⟨hs, -⟩ := hscan.2.1 s hq
      obtain ⟨s1, s2, s3, s4, s5, s6, s7, s8⟩ := hs
      rw [hq] at hn
      dsimp only at hn
      split at hn
      · cases hn
      · rename_i hbad
        refine mj_run 2 rfl trivial ?_
        rw [e3]
        refine mj_bra rfl rfl (fun _ => bad) (fun g2 => ?_)
        rw [nI_z (by omega)] at g2
        refine mj_run 4 rfl trivial ?_
        rw [e5, e2]
        exact mj_brf rfl rfl (by rw [nI_leI (by omega) (by omega)]; omega) bad
  cases hy : ydS pg pn with
  | none =>
    have ff := hf1.w (ks' := wk) (as' := wa') (by decide) (by decide)
    refine ⟨I1, ?_, h0.work ff, hf1.w (by decide) (by decide)⟩
    refine mj_ci rfl (Nat.le_of_ble_eq_true rfl) ?_
    refine mj_run 1 rfl trivial ?_
    refine mj_cal rfl rfl hc1 ?_
    exact fail hy
  | some q =>
    obtain ⟨n', Y'⟩ := q
    obtain ⟨hok, hn1'⟩ := ydS_ok hy
    have hn10 : n' ≤ 10 := hok.1
    dsimp only
    unfold ydS at hy
    cases hq : (scF pg pn 0 ps0).2 with
    | none => rw [hq] at hy; cases hy
    | some s =>
      rw [hq] at hy
      dsimp only at hy
      split at hy
      · rename_i hgood
        cases hy
        obtain ⟨e2, e3, e4, e5, eR⟩ := hm1 s hq
        obtain ⟨⟨s1, s2, s3, s4, s5, s6, s7, s8⟩, hend⟩ := hscan.2.1 s hq
        -- the loop over switches
        have e10 : I1 45 10 = nI yr := (hf1.2 10 (by decide)).trans h7.1
        have key := dn_ind (s.1 + 1) (fun p => ∀ (X : mjI) (l2 : Option Value), Fr [9] [50, 51, 52, 53] I1 X → X 45 9 = nI (s.1 + 1) → (∀ q, q < p → YR X s.2.2.2.2 q) → ∃ Z, (Fr [9] [50, 51, 52, 53] I1 Z ∧ Z 45 9 = nI (s.1 + 1) ∧ ∀ q, q < s.1 + 1 → YR Z s.2.2.2.2 q) ∧ mj_Rd (mj_call mj_P (d + 3)) kc_M_yard 1 (44, [some (.ref 45), some (.int (nI p)), l2], [], HP L dy X y y1 n1 w1 c y2 R J) (some (.int (nI (s.1 + 1)))) (HP L dy (mj_ui (mj_ui (mj_ui Z 45 15 (nI 0)) 45 10 (nI (yr + 1))) 45 1 (nI 0)) y y1 n1 w1 c y2 R J)) ?_ ?_ 0 (by omega)
        · obtain ⟨Z, ⟨hfz, z9, hR⟩, hx⟩ := key (mj_ui I1 45 9 (nI (s.1 + 1))) none ((Fr.u I1 9 _).w (by decide) (by decide)) (by simp [mj_ui, upd]) (fun q hq => by omega)
          have fr := (hf1.tr hfz).tr (((Fr.u Z 15 (nI 0)).tr (Fr.u _ 10 (nI (yr + 1)))).tr (Fr.u _ 1 (nI 0)))
          have frz := (Fr.u Z 15 (nI 0)).tr ((Fr.u _ 10 (nI (yr + 1))).tr (Fr.u _ 1 (nI 0)))
          refine ⟨_, ?_, ⟨⟨by simp [mj_ui, upd], by omega, fun i hi => by omega⟩, ⟨by simp [mj_ui, upd, z9], hok, fun p hp => ?_⟩, ⟨fun i hi => ?_, fun p hp => (sm_in hok hp).1⟩, ⟨by simp [mj_ui, upd], by omega, fun i hi => by omega⟩, ?_, h6.fr fr (by decide), ⟨by simp [mj_ui, upd], by omega, by
            have : Z 45 24 = I 45 24 := (hfz.2 24 (by decide)).trans (hf1.2 24 (by decide))
            simp [mj_ui, upd, this, h7.2.2.1], h7.2.2.2⟩⟩, fr.w (by decide) (by decide)⟩
          · refine mj_ci rfl (Nat.le_of_ble_eq_true rfl) ?_
            refine mj_run 1 rfl trivial ?_
            refine mj_cal rfl rfl hc1 ?_
            refine mj_run 2 rfl trivial ?_
            rw [hpm]
            refine mj_brf rfl rfl (by rw [nI_ltI (by omega) (by omega)]; omega) ?_
            refine mj_run 2 rfl trivial ?_
            rw [e3]
            refine mj_brf rfl rfl (by rw [nI_z (by omega)]; omega) ?_
            refine mj_run 4 rfl trivial ?_
            rw [e5, e2]
            refine mj_brt rfl rfl (by rw [nI_leI (by omega) (by omega)]; omega) ?_
            refine mj_run 8 rfl trivial ?_
            rw [e2, nI_add]
            exact hx
          · obtain ⟨r1, r2, r3, r4⟩ := hR p hp
            refine ⟨by simp [mj_ui]; exact r1, by simp [mj_ui]; exact r2, fun w hw => by simp [mj_ui]; exact r4 w hw⟩
          · obtain ⟨r1, r2, r3, r4⟩ := hR i hi
            simp [mj_ui]; exact r3
          · show _ ∨ _
            have e29 : Z 45 29 = I 45 29 := (hfz.2 29 (by decide)).trans (hf1.2 29 (by decide))
            have e30 : Z 45 30 = I 45 30 := (hfz.2 30 (by decide)).trans (hf1.2 30 (by decide))
            cases kp with
            | none =>
              rcases h5 with g | ⟨ky, g, g2⟩
              · exact Or.inl (by simp [mj_ui, upd, e29, g])
              · exact Or.inr ⟨ky, by simp [mj_ui, upd, e30, g], by omega⟩
            | some q =>
              obtain ⟨t0, tr0, T0⟩ := q
              exact Or.inr ⟨yr, by simp [mj_ui, upd, e30, h5.2.2.1], by omega⟩
        · intro X l2 hfX x9 hX
          refine ⟨X, ⟨hfX, x9, hX⟩, ?_⟩
          refine mj_run 3 rfl trivial ?_
          rw [x9]
          refine mj_brt rfl rfl (by rw [nI_leI (by omega) (by omega)]; omega) ?_
          refine mj_run 14 rfl trivial ?_
          have q1 : mj_ui X 45 15 (nI 0) 45 10 = nI yr := by
            have : X 45 10 = I1 45 10 := hfX.2 10 (by decide)
            simp [mj_ui, upd, this, e10]
          have q2 : mj_ui (mj_ui (mj_ui X 45 15 (nI 0)) 45 10 (nI (yr + 1))) 45 1 (nI 0) 45 9 = nI (s.1 + 1) := by simp [mj_ui, upd, x9]
          rw [q1, nI_add, q2]
          exact mj_end rfl rfl trivial
        · intro p hp ih X l2 hfX x9 hX
          obtain ⟨r1, r2, r3⟩ := eR p (by omega)
          have hcp : 1 ≤ s.2.2.2.2.2.1 p ∧ s.2.2.2.2.2.1 p ≤ 3 := by
            by_cases e : p = s.1
            · subst e; rw [s4]; omega
            · exact s5 p (by omega)
          have x47 : ∀ Z : mjI, Fr [9] [50, 51, 52, 53] I1 Z → Z 47 p = nI (s.2.2.2.2.1 p) := fun Z hZ => by rw [hZ.1 47 (by decide) (by decide)]; exact r1
          have x48 : ∀ Z : mjI, Fr [9] [50, 51, 52, 53] I1 Z → Z 48 p = nI (s.2.2.2.2.2.1 p) := fun Z hZ => by rw [hZ.1 48 (by decide) (by decide)]; exact r2 (by omega)
          have x49 : ∀ Z : mjI, Fr [9] [50, 51, 52, 53] I1 Z → ∀ w, w < s.2.2.2.2.2.1 p → Z 49 (3 * p + w) = nI (s.2.2.2.2.2.2 p w) := fun Z hZ w hw => by rw [hZ.1 49 (by decide) (by decide)]; exact r3 w hw
          -- the loop over ways
          have inner := dn_ind 3 (fun w => ∀ (U : mjI), Fr [9] [50, 51, 52, 53] I1 U → U 45 9 = nI (s.1 + 1) → (∀ q, q < p → YR U s.2.2.2.2 q) → U 50 p = nI (s.2.2.2.2.1 p) → U 51 p = nI (s.2.2.2.2.2.1 p) → U 53 p = nI 0 → (∀ w', w' < w → U 52 (3 * p + w') = if w' < s.2.2.2.2.2.1 p then nI (s.2.2.2.2.2.2 p w') else Int32.ofInt (-1)) → ∃ Z, (Fr [9] [50, 51, 52, 53] I1 Z ∧ Z 45 9 = nI (s.1 + 1) ∧ ∀ q, q < s.1 + 1 → YR Z s.2.2.2.2 q) ∧ mj_Rd (mj_call mj_P (d + 3)) kc_M_yard 1 (85, [some (.ref 45), some (.int (nI p)), some (.int (nI w))], [], HP L dy U y y1 n1 w1 c y2 R J) (some (.int (nI (s.1 + 1)))) (HP L dy (mj_ui (mj_ui (mj_ui Z 45 15 (nI 0)) 45 10 (nI (yr + 1))) 45 1 (nI 0)) y y1 n1 w1 c y2 R J)) ?_ ?_ 0 (by omega)
          · have hU := hfX.tr (((Fr.a X (a := 50) (by decide) p (nI (s.2.2.2.2.1 p))).tr (Fr.a _ (a := 51) (by decide) p (nI (s.2.2.2.2.2.1 p)))).tr (Fr.a _ (a := 53) (by decide) p (nI 0)))
            obtain ⟨Z, hZ, hx⟩ := inner (mj_ui (mj_ui (mj_ui X 50 p (nI (s.2.2.2.2.1 p))) 51 p (nI (s.2.2.2.2.2.1 p))) 53 p (nI 0)) (hU.w (by decide) (by decide)) (by simp [mj_ui, x9]) (fun q hq => by
              obtain ⟨a1, a2, a3, a4⟩ := hX q hq
              have ne : q ≠ p := by omega
              exact ⟨by simp [mj_ui, upd, ne, a1], by simp [mj_ui, upd, ne, a2], by simp [mj_ui, upd, ne, a3], fun w hw => by simp [mj_ui]; exact a4 w hw⟩) (by simp [mj_ui, upd]) (by simp [mj_ui, upd]) (by simp [mj_ui, upd]) (fun w' hw' => by omega)
            refine ⟨Z, hZ, ?_⟩
            refine mj_run 3 rfl trivial ?_
            rw [x9]
            refine mj_brf rfl rfl (by rw [nI_leI (by omega) (by omega)]; omega) ?_
            have vp : vp_in (nI p) 10 := nI_vi (by omega) (by decide)
            refine mj_run 23 rfl ⟨vp, ⟨vp, by decide⟩, vp, ⟨vp, by decide⟩, vp, by decide⟩ ?_
            rw [nI_nc (by omega), x47 X hfX]
            have : mj_ui X 50 p (nI (s.2.2.2.2.1 p)) 48 p = nI (s.2.2.2.2.2.1 p) := by simp [mj_ui, x48 X hfX]
            rw [this]
            exact hx
          · intro U hfU u9 hU u50 u51 u53 u52
            obtain ⟨Z, hZ, hx⟩ := ih U (some (.int (nI 3))) hfU u9 (fun q hq => by
              by_cases e : q = p
              · subst e; exact ⟨u50, u51, u53, u52⟩
              · exact hU q (by omega))
            refine ⟨Z, hZ, ?_⟩
            refine mj_run 2 rfl trivial ?_
            refine mj_brt rfl rfl (by decide) ?_
            refine mj_run 2 rfl trivial ?_
            rw [nI_add]
            exact hx
          · intro w hw ihw U hfU u9 hU u50 u51 u53 u52
            have e9 : nI 3 * nI p + nI w = nI (3 * p + w) := by rw [pk_mul, nI_add]
            have go : ∀ z : Int32, z = (if w < s.2.2.2.2.2.1 p then nI (s.2.2.2.2.2.2 p w) else Int32.ofInt (-1)) → ∃ Z, (Fr [9] [50, 51, 52, 53] I1 Z ∧ Z 45 9 = nI (s.1 + 1) ∧ ∀ q, q < s.1 + 1 → YR Z s.2.2.2.2 q) ∧ mj_Rd (mj_call mj_P (d + 3)) kc_M_yard 1 (123, [some (.ref 45), some (.int (nI p)), some (.int (nI w))], [.int z, .int (nI (3 * p + w)), .ref 52], HP L dy U y y1 n1 w1 c y2 R J) (some (.int (nI (s.1 + 1)))) (HP L dy (mj_ui (mj_ui (mj_ui Z 45 15 (nI 0)) 45 10 (nI (yr + 1))) 45 1 (nI 0)) y y1 n1 w1 c y2 R J) := by
              intro z hz
              obtain ⟨Z, hZ, hx⟩ := ihw (mj_ui U 52 (3 * p + w) z) ((hfU.tr (Fr.a U (a := 52) (by decide) _ _)).w (by decide) (by decide)) (by simp [mj_ui, u9]) (fun q hq => by
                obtain ⟨a1, a2, a3, a4⟩ := hU q hq
                refine ⟨by simp [mj_ui, a1], by simp [mj_ui, a2], by simp [mj_ui, a3], fun w' hw' => ?_⟩
                have ne : ¬ (3 * q + w' = 3 * p + w) := by omega
                have := a4 w' hw'
                simp [mj_ui, upd, ne, this]) (by simp [mj_ui, u50]) (by simp [mj_ui, u51]) (by simp [mj_ui, u53]) (fun w' hw' => by
                by_cases e : w' = w
                · subst e; simp [mj_ui, upd, hz]
                · have := u52 w' (by omega)
                  have ne : ¬ (3 * p + w' = 3 * p + w) := by omega
                  simp [mj_ui, upd, e, this])
              refine ⟨Z, hZ, ?_⟩
              refine mj_run 3 rfl ⟨nI_vi (by omega) (by decide), by decide⟩ ?_
              rw [nI_nc (by omega), nI_add]
              exact hx
            obtain ⟨Z, hZ, hx⟩ := go _ rfl
            refine ⟨Z, hZ, ?_⟩
            refine mj_run 2 rfl trivial ?_
            refine mj_brf rfl rfl (by rw [nI_leI (by decide) (by omega)]; omega) ?_
            refine mj_run 12 rfl (nI_vi (by omega) (by decide)) ?_
            rw [nI_nc (by omega), u51, e9]
            by_cases g : w < s.2.2.2.2.2.1 p
            · rw [if_pos g] at hx
              refine mj_brf rfl rfl (by rw [nI_leI (by omega) (by omega)]; omega) ?_
              refine mj_run 9 rfl (by rw [e9]; exact nI_vi (by omega) (by decide)) ?_
              rw [e9, nI_nc (by omega), x49 U hfU w g]
              exact hx
            · rw [if_neg g] at hx
              refine mj_brt rfl rfl (by rw [nI_leI (by omega) (by omega)]; omega) ?_
              refine mj_run 1 rfl trivial ?_
              exact hx
      · cases hy
end MM
