section CC
variable {d L : Nat} {dy : mjM} {y y1 n1 w1 c y2 : Option Nat} {R : mjR} {J : mjJ} {n : Nat} {Y : Yd} {T wt : Nat → Nat} {ya ol ca cl wn : Nat} {A B C od : Nat → Nat} {X I : mjI} {V : Nat → Nat → Nat}
theorem H_room (hcm : mj_mt ca (FM L dy) = some (1, cl)) (hcl : cl ≤ 653184) {need : Nat} (hneed : need ≤ 326592) : ∃ (e : mjM) (X' : mjI) (ca' cl' : Nat), mj_call mj_P (d + 2) kn_Th_makeRoom [.ref 23, .int (nI need)] (HP L dy X y y1 n1 w1 (some ca) y2 R J) none (HP L (dy ++ e) X' y y1 n1 w1 (some ca') y2 R J) ∧ mj_mt ca' (FM L (dy ++ e)) = some (1, cl') ∧ need ≤ cl' ∧ cl' ≤ 653184 ∧ e.length ≤ 1 ∧ mj_sl e + 2 * cl ≤ 2 * cl' ∧ (∀ a, a < 65 + dy.length → X' a = X a) ∧ (ca' = ca ∨ 65 ≤ ca') := by
  by_cases g : need ≤ cl
  · refine ⟨[], X, ca, cl, ?_, by rw [List.append_nil]; exact hcm, g, hcl, by simp, by simp [mj_sl], fun _ _ => rfl, Or.inl rfl⟩
    rw [List.append_nil]
    refine mj_ci rfl (Nat.le_of_ble_eq_true rfl) ?_
    refine mj_run 2 rfl trivial ?_
    refine sx_ln rfl hcm rfl ?_
    refine mj_run 1 rfl trivial ?_
    refine mj_brt rfl rfl (by rw [nI_leI (by omega) (by omega)]; exact g) ?_
    exact mj_end rfl rfl trivial
  · have hlen := FM_len L dy
    have hmx : max need (2 * cl) ≤ 653184 := by omega
    have em : FM L dy ++ [(1, max need (2 * cl))] = FM L (dy ++ [(1, max need (2 * cl))]) := rfl
    refine ⟨[(1, max need (2 * cl))], mj_row X (FM L dy).length (fun _ => 0), (FM L dy).length, max need (2 * cl), ?_, by rw [← em]; exact mt_last _ _, by omega, hmx, by simp, by simp [mj_sl]; omega, fun a ha => by simp [mj_row, show a ≠ (FM L dy).length by omega], Or.inr (by omega)⟩
    refine mj_ci rfl (Nat.le_of_ble_eq_true rfl) ?_
    refine mj_run 2 rfl trivial ?_
    refine sx_ln rfl hcm rfl ?_
    refine mj_run 1 rfl trivial ?_
    refine mj_brf rfl rfl (by rw [nI_leI (by omega) (by omega)]; exact g) ?_
    refine mj_run 5 rfl trivial ?_
    refine sx_ln rfl hcm rfl ?_
    refine mj_run 1 rfl trivial ?_
    rw [pk_mul]
    refine mj_cal rfl rfl (c_max _ _ (by omega) (by omega)) ?_
    refine mj_run 1 rfl ⟨i_nn (by omega), by rw [nI_nc (by omega)]; omega⟩ ?_
    rw [nI_nc (show max need (2 * cl) < 2147483648 by omega), em]
    refine mj_run 1 rfl trivial ?_
    rw [FR_c]
    exact mj_end rfl rfl trivial
theorem DZ_g {P Q : Nat → (Nat → Nat) → Nat → Prop} (h : DZ Y ol od V P) (e : ∀ r u m, P r u m ↔ Q r u m) : DZ Y ol od V Q := by
  obtain ⟨h1, h2, h3⟩ := h
  refine ⟨h1, fun r x hr hx hv => ?_, fun r u m hr hp => h3 r u m hr ((e r u m).mpr hp)⟩
  obtain ⟨m, m1, m2⟩ := h2 r x hr hx hv
  exact ⟨m, m1, (e _ _ _).mp m2⟩
/-- all trucks, then the least -/
theorem H_trucks (hn6 : n ≤ 6) (hst : strt Y n) (h0 : 0 < ol) (hTK : TOK n Y T) (hwb : wn ≤ 8 ∧ ∀ i, i < wn → wt i < 10) (hY : CY (FM L dy) X (FR y y1 n1 w1 (some ca) (some ya) R) ya A B C n ol od Y) (hcm : mj_mt ca (FM L dy) = some (1, cl)) (hcl : (ol + 1) * Wt Y od ol ≤ cl ∧ cl ≤ 1000000) (hca : 0 < ca ∧ ca ≠ 23 ∧ ca ≠ 25 ∧ ca ≠ 26 ∧ ca ≠ 42) (hw : ∀ i, i < wn → X 42 i = nI (wt i)) {st : Int32} : ∀ (f k : Nat) (Z : mjI) (V : Nat → Nat → Nat) (l8 : Option Value), k + f = wn → Cf [ca] X Z → TB Z Y ol od ca V → DZ Y ol od V (PJ Y n ol od 0 (SK Y n ol od T wt k) 0) → ∃ X' V', (Cf [ca] X X' ∧ DZ Y ol od V' (PJ Y n ol od 0 (SK Y n ol od T wt wn) 0)) ∧ mj_Rd (mj_call mj_P (d + 3)) kc_Th_fewest 1 (52, [some (.ref 23), some (.ref ya), some (.ref 5), some (.ref 42), some (.int (nI wn)), some (.int st), some (.int (nI (ol + 1))), some (.int (nI k)), l8], [], HP L dy Z y y1 n1 w1 (some ca) (some ya) R J) (some (.int (gv (if mnV V' (Wt Y od ol) < 100 then some (mnV V' (Wt Y od ol)) else none)))) (HP L dy X' y y1 n1 w1 (some ca) (some ya) R J) := by
  obtain ⟨hK, hn1, hO⟩ := hY.1
  have hodn : ∀ j, j < ol → od j < n := fun j hj => rc_lt hK hn1 (hO.2.1 j hj)
  have hol := hO.1
  have hWle : Wt Y od ol ≤ 1000000 := by
    have : Wt Y od ol ≤ (ol + 1) * Wt Y od ol := Nat.le_mul_of_pos_left _ (by omega)
    omega
  have hca4 : 0 < ca ∧ ca ≠ 23 ∧ ca ≠ 25 ∧ ca ≠ 26 := ⟨hca.1, hca.2.1, hca.2.2.1, hca.2.2.2.1⟩
  intro f
  induction f with
  | zero =>
    intro k Z V l8 hk hZ hT hD
    have : k = wn := by omega
    subst this
    obtain ⟨t1, t2, t3, t4⟩ := id hT
    refine ⟨Z, V, ⟨hZ, hD⟩, ?_⟩
    refine mj_run 2 rfl trivial ?_
    refine mj_brt rfl rfl (by rw [nI_leI (by omega) (by omega)]; omega) ?_
    refine mj_run 4 rfl trivial ?_
    refine dn_ind (Wt Y od ol) (fun x => mj_Rd (mj_call mj_P (d + 3)) kc_Th_fewest 1 (108, [some (.ref 23), some (.ref ya), some (.ref 5), some (.ref 42), some (.int (nI k)), some (.int st), some (.int (nI (ol + 1))), some (.int (nI (mnV V x))), some (.int (nI x))], [], HP L dy Z y y1 n1 w1 (some ca) (some ya) R J) (some (.int (gv (if mnV V (Wt Y od ol) < 100 then some (mnV V (Wt Y od ol)) else none)))) (HP L dy Z y y1 n1 w1 (some ca) (some ya) R J)) ?_ ?_ 0 (by omega)
    · have hm := (mnV_le (V := V) (Wt Y od ol)).1
      refine mj_run 3 rfl trivial ?_
      rw [t1]
      refine mj_brt rfl rfl (by rw [nI_leI (by omega) (by omega)]; omega) ?_
      refine mj_run 2 rfl trivial ?_
      refine mj_bra rfl rfl (fun g => ?_) (fun g => ?_)
      · rw [nI_leI (by decide) (by omega)] at g
        rw [if_neg (by omega)]
        refine mj_run 1 rfl trivial ?_
        exact mj_end rfl rfl trivial
      · rw [nI_leI (by decide) (by omega)] at g
        rw [if_pos (by omega)]
        refine mj_run 2 rfl trivial ?_
        exact mj_end rfl rfl trivial
    · intro x hx ih
      have hm := (mnV_le (V := V) x).1
      have hv := t4 0 x
      have e0 : Z ca x = nI (V 0 x) := by
        have := t3 0 x (by omega) hx
        rw [Nat.zero_mul, Nat.zero_add] at this
        exact this
      have hxl : x < cl := by
        have : Wt Y od ol ≤ (ol + 1) * Wt Y od ol := Nat.le_mul_of_pos_left _ (by omega)
        omega
      refine mj_run 3 rfl trivial ?_
      rw [t1]
      refine mj_brf rfl rfl (by rw [nI_leI (by omega) (by omega)]; omega) ?_
      refine mj_run 4 rfl trivial ?_
      refine sx_bld rfl hcm (nI_vi hxl (by omega)) ?_
      rw [nI_nc (by omega), e0]
      refine mj_cal rfl rfl (c_min _ _ (by omega) (by omega)) ?_
      refine mj_run 3 rfl trivial ?_
      rw [nI_add]
      exact ih
  | succ f ih =>
    intro k Z V l8 hk hZ hT hD
    have hkw : k < wn := by omega
    have hg := hwb.2 k hkw
    -- the rows
    have rows : ∀ (e j : Nat) (Z : mjI) (V : Nat → Nat → Nat), j + e = ol → Cf [ca] X Z → TB Z Y ol od ca V → DZ Y ol od V (PJ Y n ol od (wt k) (SK Y n ol od T wt k) j) → ∃ X' V', (Cf [ca] X X' ∧ DZ Y ol od V' (PJ Y n ol od 0 (SK Y n ol od T wt wn) 0)) ∧ mj_Rd (mj_call mj_P (d + 3)) kc_Th_fewest 1 (62, [some (.ref 23), some (.ref ya), some (.ref 5), some (.ref 42), some (.int (nI wn)), some (.int st), some (.int (nI (ol + 1))), some (.int (nI k)), some (.int (nI j))], [], HP L dy Z y y1 n1 w1 (some ca) (some ya) R J) (some (.int (gv (if mnV V' (Wt Y od ol) < 100 then some (mnV V' (Wt Y od ol)) else none)))) (HP L dy X' y y1 n1 w1 (some ca) (some ya) R J) := by
      intro e
      induction e with
      | zero =>
        intro j Z V hj hZ hT hD
        have : j = ol := by omega
        subst this
        obtain ⟨Z2, hc2, hf2, hT2⟩ := H_startNext (d := d + 2) (L := L) (dy := dy) (y := y) (y1 := y1) (n1 := n1) (w1 := w1) (y2 := some ya) (R := R) (J := J) h0 hcm hcl hca4 hT
        have hD2 := DZ_next (g := 0) hK hO hst hodn hTK h0 hD (fun r y => rfl) hT2.2.2.2
        obtain ⟨X', V', hA, hx⟩ := ih (k + 1) Z2 _ (some (.int (nI j))) (by omega) ((hZ.tr hf2).w (by simp)) hT2 hD2
        refine ⟨X', V', hA, ?_⟩
        refine mj_run 4 rfl trivial ?_
        rw [pk_sub (by omega), show j + 1 - 1 = j by omega]
        refine mj_brt rfl rfl (by rw [nI_leI (by omega) (by omega)]; omega) ?_
        refine mj_run 4 rfl trivial ?_
        rw [pk_sub (by omega), show j + 1 - 1 = j by omega]
        refine mj_cal rfl rfl hc2 ?_
        refine mj_run 2 rfl trivial ?_
        rw [nI_add]
        exact hx
      | succ e ihe =>
        intro j Z V hj hZ hT hD
        have hjo : j < ol := by omega
        obtain ⟨Z2, V2, hc2, hf2, hT2, hL2⟩ := H_leave (d := d) (R := R) (J := J) hst (hY.cst hcm hZ) hcm hcl hca4 hT hjo hg
        have hD2 := LV_DZ hK hodn hjo (PJ_ok hK hodn (SK_ok hK hodn hTK k) j (by omega)) hD hL2 hT2.2.2.2
        obtain ⟨X', V', hA, hx⟩ := ihe (j + 1) Z2 V2 (by omega) ((hZ.tr hf2).w (by simp)) hT2 hD2
        refine ⟨X', V', hA, ?_⟩
        have z42 : Z 42 k = nI (wt k) := by rw [hZ 42 (by simp; omega)]; exact hw k hkw
        refine mj_run 4 rfl trivial ?_
        rw [pk_sub (by omega), show ol + 1 - 1 = ol by omega]
        refine mj_brf rfl rfl (by rw [nI_leI (by omega) (by omega)]; omega) ?_
        refine mj_run 5 rfl (nI_vi (show k < 8 by omega) (by decide)) ?_
        rw [nI_nc (by omega), z42]
        refine mj_cal rfl rfl hc2 ?_
        refine mj_run 2 rfl trivial ?_
        rw [nI_add]
        exact hx
    obtain ⟨X', V', hA, hx⟩ := rows ol 0 Z V (by omega) hZ hT (DZ_g hD (fun r u m => Iff.rfl))
    refine ⟨X', V', hA, ?_⟩
    refine mj_run 2 rfl trivial ?_
    refine mj_brf rfl rfl (by rw [nI_leI (by omega) (by omega)]; omega) ?_
    refine mj_run 2 rfl trivial ?_
    exact hx
theorem od_zero (h : YOK n Y) (hn1 : 1 ≤ n) (hst : strt Y n) (hO : OD Y n ol od) : 0 < ol ∧ od 0 = 0 := by
  obtain ⟨o1, o2, o3, o4, o5⟩ := hO
  obtain ⟨k, hk, e⟩ := o3 0 ⟨0, rfl⟩
  refine ⟨by omega, ?_⟩
  refine Classical.byContradiction (fun hne => ?_)
  obtain ⟨j, hj⟩ := o2 0 (by omega)
  cases j with
  | zero => exact hne hj.symm
  | succ j =>
    obtain ⟨x, hx, he⟩ := pth_unsnoc j 0 (od 0) hj
    obtain ⟨i, hi, e2⟩ := o3 x ⟨j, hx⟩
    subst e2
    have := o5 hst i 0 hi (by omega) he
    omega
theorem H_fewest (hn6 : n ≤ 6) (hst : strt Y n) (hTK : TOK n Y T) (hwb : wn ≤ 8 ∧ ∀ i, i < wn → wt i < 10) (hY : CY (FM L dy) I (FR y y1 n1 w1 (some ca) y2 R) ya A B C n ol od Y) (hcm : mj_mt ca (FM L dy) = some (1, cl)) (hcl : cl ≤ 653184) (hca : ca = 24 ∨ 65 ≤ ca) (h3 : RI I 5 n T) (h6 : ∀ i, i < wn → I 42 i = nI (wt i)) : ∃ (e : mjM) (X' : mjI) (ca' cl' : Nat), mj_call mj_P (d + 4) kn_Th_fewest [.ref 23, .ref ya, .ref 5, .ref 42, .int (nI wn)] (HP L dy I y y1 n1 w1 (some ca) y2 R J) (some (.int (gv (hdO Y n T wt wn)))) (HP L (dy ++ e) X' y y1 n1 w1 (some ca') (some ya) R J) ∧ mj_mt ca' (FM L (dy ++ e)) = some (1, cl') ∧ cl' ≤ 653184 ∧ (ca' = 24 ∨ 65 ≤ ca') ∧ e.length ≤ 1 ∧ mj_sl e + 2 * cl ≤ 2 * cl' ∧ (∀ a, a < 65 + dy.length → a ≠ 23 → a ≠ 25 → a ≠ 26 → a ≠ ca' → X' a = I a) := by
  obtain ⟨hK, hn1, hO⟩ := hY.1
  have hodn : ∀ j, j < ol → od j < n := fun j hj => rc_lt hK hn1 (hO.2.1 j hj)
  obtain ⟨h0, hod0⟩ := od_zero hK hn1 hst hO
  have hol := hO.1
  have hW6 : Wt Y od ol ≤ 46656 := by
    have := Wt_le hK hodn ol (Nat.le_refl ol)
    have h6 : 6 ^ ol ≤ 6 ^ 6 := Nat.pow_le_pow_right (by decide) (by omega)
    have e : (6 : Nat) ^ 6 = 46656 := rfl
    omega
  have hneed : (ol + 1) * Wt Y od ol ≤ 326592 := by
    have := Nat.mul_le_mul (show ol + 1 ≤ 7 by omega) hW6
    omega
  have hY0 : CY (FM L dy) I (FR y y1 n1 w1 (some ca) (some ya) R) ya A B C n ol od Y := hY.refs
  obtain ⟨X1, hc1, hf1, h23, hrows⟩ := H_encode (d := d) (J := J) hY0 h3
  obtain ⟨e, X2, ca', cl', hc2, hcm', q1, q2, q3, q4, q5, q6⟩ := H_room (d := d + 1) (L := L) (dy := dy) (y := y) (y1 := y1) (n1 := n1) (w1 := w1) (y2 := some ya) (R := R) (J := J) (X := X1) hcm hcl hneed
  have hca' : ca' = 24 ∨ 65 ≤ ca' := by omega
  have hca5 : 0 < ca' ∧ ca' ≠ 23 ∧ ca' ≠ 25 ∧ ca' ≠ 26 ∧ ca' ≠ 42 := by omega
  have hca4 : 0 < ca' ∧ ca' ≠ 23 ∧ ca' ≠ 25 ∧ ca' ≠ 26 := by omega
  generalize hX3 : mj_row X2 ca' (fun i => if i < cl' then nI 100 else X2 ca' i) = X3
  have f3 : Cf [ca'] X2 X3 := by rw [← hX3]; exact Cf.row X2 ca' _
  have hT3 : TB X3 Y ol od ca' (fun _ _ => 100) := by
    refine ⟨by rw [f3 23 (by simp; omega), q5 23 (by omega)]; exact h23, fun j hj => ?_, fun r x hr hx => ?_, fun _ _ => Nat.le_refl _⟩
    · rw [f3 25 (by simp; omega), f3 26 (by simp; omega), q5 25 (by omega), q5 26 (by omega)]
      exact hrows j hj
    · have := idx_lt hr hx
      rw [← hX3]
      simp [mj_row, show r * Wt Y od ol + x < cl' by omega]
  have hu : TKo Y ol od (fun j => T (od j)) := fun j hj => hTK _ (hodn j hj)
  have hstart := cdo_lt hu ol (Nat.le_refl ol)
  obtain ⟨X4, hc4, hf4, hT4⟩ := H_offer (d := d + 2) (L := L) (dy := dy ++ e) (y := y) (y1 := y1) (n1 := n1) (w1 := w1) (ya := ya) (R := R) (J := J) hcm' ⟨q1, by omega⟩ hca4 hT3 (r := 0) (x := cdo Y od (fun j => T (od j)) ol) (c := 0) (by omega) hstart (by omega)
  have hD4 : DZ Y ol od (vup (fun _ _ => 100) 0 (cdo Y od (fun j => T (od j)) ol) 0) (PJ Y n ol od 0 (SK Y n ol od T wt 0) 0) := DZ_start hK hodn hTK (fun r y => by
    unfold vup
    split <;> rfl)
  have far : ∀ a, a < 65 + dy.length → a ≠ 23 → a ≠ 25 → a ≠ 26 → a ≠ ca' → X4 a = I a := by
    intro a w1 w2 w3 w4 w5
    rw [hf4 a (by simp [w5]), f3 a (by simp [w5]), q5 a w1, hf1 a (by simp [w2, w3, w4])]
  have hlen := FM_len L dy
  have hY4 : CY (FM L (dy ++ e)) X4 (FR y y1 n1 w1 (some ca') (some ya) R) ya A B C n ol od Y := by
    have a1 : CY (FM L (dy ++ e)) I (FR y y1 n1 w1 (some ca) y2 R) ya A B C n ol od Y := hY.mr (fun a x h => by rw [← FM_app]; exact mt_old h e) (fun _ _ _ _ _ _ g => g)
    have a2 : CY (FM L dy) X4 (FR y y1 n1 w1 (some ca) y2 R) ya A B C n ol od Y := hY.frt (fun a x hx h1 h65 => by
      have hl := mt_lt hx
      refine far a (by omega) (by omega) (by omega) (by omega) (fun z => ?_)
      subst z
      have : mj_mt a (FM L (dy ++ e)) = some x := by rw [← FM_app]; exact mt_old hx e
      rw [hcm'] at this
      cases this
      exact h1 rfl)
    exact (a2.mr (fun a x h => by rw [← FM_app]; exact mt_old h e) (fun _ _ _ _ _ _ g => g)).refs
  obtain ⟨X5, V5, ⟨hf5, hD5⟩, hx5⟩ := H_trucks (d := d) (st := nI (cdo Y od (fun j => T (od j)) ol)) (R := R) (J := J) hn6 hst h0 hTK hwb hY4 hcm' ⟨q1, by omega⟩ hca5 (fun i hi => by rw [far 42 (by omega) (by decide) (by decide) (by decide) (Ne.symm hca5.2.2.2.2)]; exact h6 i hi) wn 0 X4 _ none (by omega) ((Cf.rf X4).w (by simp)) hT4 hD4
  have hHM := HM_one (hdO_HM hK hn1 hTK hwb.1) (hands_HM hK hn1 hn6 hst hO h0 hod0 hTK hwb.1 hwb.2 hD5)
  rw [← hHM] at hx5
  refine ⟨e, X5, ca', cl', ?_, hcm', q2, hca', q3, q4, fun a w1 w2 w3 w4 w5 => ?_⟩
  · refine mj_ci rfl (Nat.le_of_ble_eq_true rfl) ?_
    refine mj_run 3 rfl trivial ?_
    rw [FR_y2]
    refine mj_run 2 rfl trivial ?_
    refine mj_cal rfl rfl hc1 ?_
    refine mj_run 2 rfl trivial ?_
    refine sx_gr rfl hY.2.2.1.1 rfl hY0.2.1.2.1 ?_
    refine sx_ln rfl hY.2.2.1.2.2.1 rfl ?_
    refine mj_run 8 rfl trivial ?_
    rw [nI_add, h23, pk_mul]
    refine mj_cal rfl rfl hc2 ?_
    refine mj_run 3 rfl trivial ?_
    refine mj_cal rfl rfl (c_fillB hcm' hca4.1 (by omega)) ?_
    rw [hX3]
    refine mj_run 4 rfl trivial ?_
    refine mj_cal rfl rfl hc4 ?_
    refine mj_run 2 rfl trivial ?_
    exact hx5
  · rw [hf5 a (by simp [w5])]
    exact far a w1 w2 w3 w4 w5
end CC
section CC
variable {d L : Nat} {dy : mjM} {I : mjI} {y y1 n1 w1 y2 : Option Nat} {R : mjR} {J : mjJ} {pn : Nat} {pg : Nat → Nat} {n : Nat} {Y : Yd} {T : Nat → Nat} {t : Nat} {tr : Nat → Nat} {kp : Kp} {wn : Nat} {wt : Nat → Nat} {yr dn ca cl : Nat}
theorem CO_hands (ab : AB pn pg n Y T t tr kp wn wt yr dn) (h : CI (FM L dy) I (FR y y1 n1 w1 (some ca) y2 R) y pn pg n Y T t tr kp wn wt yr dn) (hcm : mj_mt ca (FM L dy) = some (1, cl)) (hcl : cl ≤ 653184) (hca : ca = 24 ∨ 65 ≤ ca) : ∃ (e : mjM) (I' : mjI) (y2' : Option Nat) (ca' cl' : Nat), mj_call mj_P (d + 5) kn_T_hands [.ref 1] (HP L dy I y y1 n1 w1 (some ca) y2 R J) (some (.int (hdA n Y T wt wn dn))) (HP L (dy ++ e) I' y y1 n1 w1 (some ca') y2' R J) ∧ CI (FM L (dy ++ e)) I' (FR y y1 n1 w1 (some ca') y2' R) y pn pg n Y T t tr kp wn wt yr (if hdB n Y wn dn then dn else dn + 1) ∧ KM I I' ∧ mj_mt ca' (FM L (dy ++ e)) = some (1, cl') ∧ cl' ≤ 653184 ∧ (ca' = 24 ∨ 65 ≤ ca') ∧ e.length ≤ 1 ∧ mj_sl e + 2 * cl ≤ 2 * cl' := by
  have h0 := h
  obtain ⟨h1, h2, h3, h4, h5, h6, h7⟩ := h
  have same : ∀ z : Int32, mj_call mj_P (d + 5) kn_T_hands [.ref 1] (HP L dy I y y1 n1 w1 (some ca) y2 R J) (some (.int z)) (HP L dy I y y1 n1 w1 (some ca) y2 R J) → ∃ (e : mjM) (I' : mjI) (y2' : Option Nat) (ca' cl' : Nat), mj_call mj_P (d + 5) kn_T_hands [.ref 1] (HP L dy I y y1 n1 w1 (some ca) y2 R J) (some (.int z)) (HP L (dy ++ e) I' y y1 n1 w1 (some ca') y2' R J) ∧ CI (FM L (dy ++ e)) I' (FR y y1 n1 w1 (some ca') y2' R) y pn pg n Y T t tr kp wn wt yr dn ∧ KM I I' ∧ mj_mt ca' (FM L (dy ++ e)) = some (1, cl') ∧ cl' ≤ 653184 ∧ (ca' = 24 ∨ 65 ≤ ca') ∧ e.length ≤ 1 ∧ mj_sl e + 2 * cl ≤ 2 * cl' := by
    intro z hz
    refine ⟨[], I, y2, ca, cl, ?_, ?_, KM.rf I, ?_, hcl, hca, by simp, by simp [mj_sl]⟩ <;> rw [List.append_nil]
    · exact hz
    · exact h0
    · exact hcm
  have hwb := ab.2.2.2.2.2.1
  have hB : hdB n Y wn dn = (decide (n = 0) || (!sb Y n n || (decide (6 < n) || (decide (wn = 0) || decide (dn = 20))))) := rfl
  unfold hdA
  cases hs : (!decide (n = 0) && sb Y n n) with
  | false =>
    have hb : hdB n Y wn dn = true := by
      rw [hB]
      by_cases q : n = 0
      · simp [q]
      · rw [decide_eq_false q] at hs
        have : sb Y n n = false := by simpa using hs
        simp [this]
    rw [hb, if_pos rfl, if_pos rfl]
    refine same _ ?_
    refine mj_ci rfl (Nat.le_of_ble_eq_true rfl) ?_
    refine mj_run 1 rfl trivial ?_
    refine mj_cal rfl rfl (T_isStraight h2) ?_
    rw [hs]
    refine mj_brt rfl rfl (by decide) ?_
    refine mj_run 1 rfl trivial ?_
    exact mj_end rfl rfl trivial
  | true =>
    have hn : ¬ n = 0 := by intro q; rw [decide_eq_true q] at hs; cases hs
    have hsb : sb Y n n = true := by rw [decide_eq_false hn] at hs; simpa using hs
    have start : ∀ (v : Option Value) (h' : mjH), mj_Rd (mj_call mj_P (d + 4)) kc_T_hands 1 (11, [some (.ref 1)], [.int (nI (if n = 0 ∨ 6 < n ∨ wn = 0 ∨ dn = 20 then 0 else 1))], HP L dy I y y1 n1 w1 (some ca) y2 R J) v h' → mj_call mj_P (d + 5) kn_T_hands [.ref 1] (HP L dy I y y1 n1 w1 (some ca) y2 R J) v h' := by
      intro v h' hx
      refine mj_ci rfl (Nat.le_of_ble_eq_true rfl) ?_
      refine mj_run 1 rfl trivial ?_
      refine mj_cal rfl rfl (T_isStraight h2) ?_
      rw [hs]
      refine mj_brf rfl rfl (by decide) ?_
      refine mj_run 1 rfl trivial ?_
      refine mj_cal rfl rfl (T_mayPlan ab h0) ?_
      exact hx
    by_cases hp : 6 < n ∨ wn = 0 ∨ dn = 20
    · have hb : hdB n Y wn dn = true := by
        rw [hB, hsb]
        rcases hp with q | q | q <;> simp [q]
      rw [hb, if_pos rfl, if_pos rfl]
      rw [if_pos (Or.inr hp)] at start
      refine same _ (start _ _ ?_)
      refine mj_brf rfl rfl (by decide) ?_
      refine mj_run 1 rfl trivial ?_
      exact mj_end rfl rfl trivial
    · have hb : hdB n Y wn dn = false := by
        rw [hB, hsb, decide_eq_false hn, decide_eq_false (show ¬ 6 < n by omega), decide_eq_false (show ¬ wn = 0 by omega), decide_eq_false (show ¬ dn = 20 by omega)]
        rfl
      rw [hb, if_neg (by decide), if_neg (by decide)]
      rw [if_neg (by omega)] at start
      obtain ⟨ya, A, B, C, ol, od, rfl, hY⟩ := h2.non hn
      have hst := (sb_strt hY.1.1 hY.1.2.1).mp hsb
      have hI1 := h0.plan
      have f1 := Cf.u I 1 14 (nI (dn + 1))
      obtain ⟨q1, q2, q3, q4, q5, q6, q7⟩ := id hI1
      have hY1 := hY.fr (I' := mj_ui I 1 14 (nI (dn + 1))) (fun a h65 _ => f1 a (by simp; omega))
      obtain ⟨e, X', ca', cl', hc, hcm', w2, w3, w4, w5, w6⟩ := H_fewest (d := d) (J := J) (by omega) hst ab.2.2.1 hwb hY1 hcm hcl hca q3 q6.2
      have hlen := FM_len L dy
      have e14 : I 1 14 + nI 1 = nI (dn + 1) := by rw [h7.2, nI_add]
      refine ⟨e, X', some ya, ca', cl', start _ _ ?_, ?_, fun a ha => ?_, hcm', w2, w3, w4, w5⟩
      · refine mj_brt rfl rfl (by decide) ?_
        refine mj_run 17 rfl trivial ?_
        rw [e14, q6.1]
        refine mj_cal rfl rfl hc ?_
        exact mj_end rfl rfl trivial
      · have far : ∀ a, a < 23 ∨ a = 42 → X' a = mj_ui I 1 14 (nI (dn + 1)) a := fun a ha => w6 a (by omega) (by omega) (by omega) (by omega) (by omega)
        have hY2 : CY (FM L (dy ++ e)) X' (FR (some ya) y1 n1 w1 (some ca') (some ya) R) ya A B C n ol od Y := by
          have a2 : CY (FM L dy) X' (FR (some ya) y1 n1 w1 (some ca) y2 R) ya A B C n ol od Y := hY1.frt (fun a x hx h1 h65 => by
            have hl := mt_lt hx
            refine w6 a (by omega) (by omega) (by omega) (by omega) (fun z => ?_)
            subst z
            have : mj_mt a (FM L (dy ++ e)) = some x := by rw [← FM_app]; exact mt_old hx e
            rw [hcm'] at this
            cases this
            exact h1 rfl)
          exact (a2.mr (fun a x h => by rw [← FM_app]; exact mt_old h e) (fun _ _ _ _ _ _ g => g)).refs
        refine ⟨?_, Or.inr ⟨ya, A, B, C, ol, od, rfl, hY2⟩, ?_, ?_, ?_, ?_, ?_⟩
        · unfold Cpg
          rw [far 2 (by omega), far 3 (by omega)]
          exact q1
        · unfold RI
          rw [far 5 (by omega)]
          exact q3
        · unfold Ctr
          rw [far 4 (by omega), far 6 (by omega)]
          exact q4
        · cases kp with
          | none =>
            unfold Ckp
            rw [far 1 (by omega)]
            exact q5
          | some q =>
            obtain ⟨u1, u2, u3⟩ := q
            unfold Ckp RI
            rw [far 1 (by omega), far 7 (by omega), far 9 (by omega), far 8 (by omega)]
            exact q5
        · unfold Cwt
          rw [far 1 (by omega), far 42 (by omega)]
          exact q6
        · unfold Cct
          rw [far 1 (by omega)]
          exact q7
      · rw [w6 a (by omega) (by omega) (by omega) (by omega) (by omega)]
        exact f1 a (by simp; omega)
end CC
