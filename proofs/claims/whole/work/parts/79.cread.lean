section GG
variable {d : Nat} {m : mjM} {I : mjI} {R : mjR} {J : mjJ} {pn : Nat} {pg : Nat → Nat}
theorem G_faultG (hb : pn ≤ 50 ∧ ∀ i, i < pn → 1 ≤ pg i ∧ pg i ≤ 126) {L : Nat} {dy : mjM} {y y1 n1 w1 c y2 : Option Nat} (h : Cpg I pn pg) (hm : m = FM L dy) (hR : R = FR y y1 n1 w1 c y2 R) : mj_call mj_P (d + 2) kn_Pg_faultPlace [.ref 2] (m, I, R, J) (some (.int (nI (scF pg pn 0 ps0).1))) (m, I, R, J) := by
  subst hm
  rw [hR]
  exact G_fault hb h
/-- the points, one by one -/
theorem G_points (hb : pn ≤ 50 ∧ ∀ i, i < pn → 1 ≤ pg i ∧ pg i ≤ 126) {n : Nat} {Y : Yd} {st : Nat → Nat} (hK : YOK n Y) (hn1 : 1 ≤ n) (hst : ∀ p, p < n → (∀ i, st p ≤ i → i < st p + oo Y.1 p + Y.2.1 p → pg i ≠ 59) ∧ sg (pg (st p)) = Y.1 p ∧ (∀ w, w < Y.2.1 p → po (pg (st p + oo Y.1 p + w)) = some (Y.2.2 p w)) ∧ st p + oo Y.1 p + Y.2.1 p ≤ pn ∧ (st p + oo Y.1 p + Y.2.1 p = pn ∨ pg (st p + oo Y.1 p + Y.2.1 p) = 59) ∧ (p + 1 < n → st (p + 1) = st p + oo Y.1 p + Y.2.1 p + 1)) {L0 a0 : Nat} {h0 : mjM × mjI × mjR} (hL0 : h0.1.length = L0) (ha0 : a0 = L0) (h65 : 65 ≤ L0) (hp0 : PGH h0.1 h0.2.1 h0.2.2 pn pg) :
    ∀ (f p : Nat) (m : mjM) (I : mjI) (R : mjR) (J : mjJ) (l5 : Option Value), p + f = n → m.length = L0 + 1 + 2 * p → mj_sl m ≤ mj_sl h0.1 + n + 4 * p → mj_mt a0 m = some (3, n) → Ext h0.1 h0.2.1 h0.2.2 m I R → (∀ q, q < p → R a0 q = some (L0 + 1 + 2 * q + 1) ∧ PT m R (L0 + 1 + 2 * q + 1) (L0 + 1 + 2 * q) (Y.1 q) (Y.2.1 q) ∧ ∀ w, w < Y.2.1 q → I (L0 + 1 + 2 * q) w = nI (Y.2.2 q w)) →
    ∃ (m' : mjM) (I' : mjI) (R' : mjR) (J' : mjJ) (s' : Int32) (q5 : Option Value), (m'.length = L0 + 1 + 2 * n ∧ mj_sl m' ≤ mj_sl h0.1 + n + 4 * n ∧ mj_mt a0 m' = some (3, n) ∧ Ext h0.1 h0.2.1 h0.2.2 m' I' R' ∧ (∀ q, q < n → R' a0 q = some (L0 + 1 + 2 * q + 1) ∧ PT m' R' (L0 + 1 + 2 * q + 1) (L0 + 1 + 2 * q) (Y.1 q) (Y.2.1 q) ∧ ∀ w, w < Y.2.1 q → I' (L0 + 1 + 2 * q) w = nI (Y.2.2 q w))) ∧ ∀ (v : Option Value) (h' : mjH), mj_Rd (mj_call mj_P (d + 4)) kc_Pg_read 4 (122, [some (.ref 2), some (.int (nI n)), some (.ref a0), some (.int s'), some (.int (nI n)), q5], [], m', I', R', J') v h' → mj_Rd (mj_call mj_P (d + 4)) kc_Pg_read 4 (87, [some (.ref 2), some (.int (nI n)), some (.ref a0), some (.int (if p < n then nI (st p) else nI (st (p - 1) + oo Y.1 (p - 1) + Y.2.1 (p - 1) + 1))), some (.int (nI p)), l5], [], m, I, R, J) v h' := by
  have hn := hK.1
  intro f
  induction f with
  | zero =>
    intro p m I R J l5 hp hl hs hm hE hQ
    have : p = n := by omega
    subst this
    refine ⟨m, I, R, J, (if p < p then nI (st p) else nI (st (p - 1) + oo Y.1 (p - 1) + Y.2.1 (p - 1) + 1)), l5, ⟨hl, hs, hm, hE, hQ⟩, fun v h' hx => ?_⟩
    refine mj_run 2 rfl trivial ?_
    refine mj_brt rfl rfl (by rw [nI_leI (by omega) (by omega)]; omega) ?_
    exact hx
  | succ f ih =>
    intro p m I R J l5 hp hl hs hm hE hQ
    have hpn : p < n := by omega
    obtain ⟨t1, t2, t3, t4, t5, t6⟩ := hst p hpn
    obtain ⟨k1, k2, k3, -⟩ := hK.2 p hpn
    have hpg := hp0.ext hE
    have hoo : oo Y.1 p = if Y.1 p = 0 then 0 else 1 := rfl
    obtain ⟨I1, R1, J1, hc1, hE1, hT1, hW1⟩ := G_pointIn (d := d) (J := J) hb hpg (fr := st p) (en := st p + oo Y.1 p + Y.2.1 p) (kd := Y.1 p) (k := Y.2.1 p) (W := Y.2.2 p) (by omega) t4 t2 k3 (by rw [← hoo]) (fun w hw => by rw [← hoo]; exact t3 w hw)
    have hce := G_endFrom (d := d + 3) (J := J) hb hpg (f := st p) (e := st p + oo Y.1 p + Y.2.1 p) (by omega) t4 t1 t5
    have la := mt_lt hm
    generalize hm1 : m ++ [(0, Y.2.1 p), (ptg (Y.1 p), 1)] = m1 at hc1 hE1 hT1
    have lm1 : m1.length = m.length + 2 := by rw [← hm1]; simp
    have hE2 : Ext h0.1 h0.2.1 h0.2.2 m1 I1 (mj_ur R1 a0 p (some (m.length + 1))) := by
      have := hE.th hE1
      refine ⟨this.1, fun a ha => ?_⟩
      obtain ⟨q1, q2⟩ := this.2 a ha
      refine ⟨q1, ?_⟩
      rw [← q2]
      have : a ≠ a0 := by omega
      simp [mj_ur, this]
    obtain ⟨m', I', R', J', s', q5, hA, hx⟩ := ih (p + 1) m1 I1 (mj_ur R1 a0 p (some (m.length + 1))) J1 (some (.int (nI (st p + oo Y.1 p + Y.2.1 p)))) (by omega) (by omega) (by
      rw [← hm1, mj_sl_app]
      simp [mj_sl]
      simp [mj_sl] at hs
      omega) (hE1.mt hm) hE2 (fun q hq => by
      by_cases e : q = p
      · subst e
        refine ⟨?_, ?_, ?_⟩
        · simp [mj_ur, va_up, hl]
        · rw [hl] at hT1
          exact hT1.mr (fun a x h => h) (fun g => by
            have : L0 + 1 + 2 * q + 1 ≠ a0 := by omega
            simp [mj_ur, this, g])
        · rw [hl] at hW1
          exact hW1
      · obtain ⟨q1, q2, q3⟩ := hQ q (by omega)
        have lb := mt_lt q2.1.choose_spec
        have lc := mt_lt q2.2.2
        refine ⟨?_, ?_, fun w hw => ?_⟩
        · have := (hE1.2 a0 la).2
          simp [mj_ur, va_up, e, this, q1]
        · exact (q2.ext hE1).mr (fun a x h => h) (fun g => by
            have : L0 + 1 + 2 * q + 1 ≠ a0 := by omega
            simp [mj_ur, this, g])
        · rw [(hE1.2 _ lc).1]
          exact q3 w hw)
    refine ⟨m', I', R', J', s', q5, hA, fun v h' hv => ?_⟩
    have hx2 := hx v h' hv
    rw [if_pos hpn]
    refine mj_run 2 rfl trivial ?_
    refine mj_brf rfl rfl (by rw [nI_leI (by omega) (by omega)]; omega) ?_
    refine mj_run 2 rfl trivial ?_
    refine sx_v1 rfl hpg.1 rfl rfl hce ?_
    refine mj_run 6 rfl trivial ?_
    refine sx_v2 rfl hpg.1 rfl rfl hc1 ?_
    refine sx_as rfl (hE1.mt hm) hT1.1.choose_spec (by
      have : Y.1 p = 0 ∨ Y.1 p = 1 ∨ Y.1 p = 2 ∨ Y.1 p = 3 := by omega
      rcases this with e | e | e | e <;> rw [e] <;> rfl) (nI_vi hpn (by omega)) ?_
    rw [nI_nc (by omega)]
    refine mj_run 6 rfl trivial ?_
    rw [nI_add, nI_add]
    by_cases g : p + 1 < n
    · rw [if_pos g, t6 g] at hx2
      exact hx2
    · rw [if_neg g, Nat.add_sub_cancel] at hx2
      exact hx2
theorem G_read {L : Nat} {dy : mjM} {y y1 n1 w1 c y2 : Option Nat} (hb : pn ≤ 50 ∧ ∀ i, i < pn → 1 ≤ pg i ∧ pg i ≤ 126) (h : Cpg I pn pg) (hm : m = FM L dy) (hR : R = FR y y1 n1 w1 c y2 R) (hp : PGH m I R pn pg) : match ydS pg pn with
    | none => mj_call mj_P (d + 7) kn_Pg_read [.ref 2] (m, I, R, J) (some .null) (m, I, R, J)
    | some q => ∃ (m' : mjM) (I' : mjI) (R' : mjR) (J' : mjJ) (ya : Nat) (A B C : Nat → Nat) (ol : Nat) (od : Nat → Nat), mj_call mj_P (d + 7) kn_Pg_read [.ref 2] (m, I, R, J) (some (.ref ya)) (m', I', R', J') ∧ Ext m I R m' I' R' ∧ CY m' I' R' ya A B C q.1 ol od q.2 ∧ m'.length ≤ m.length + 30 ∧ mj_sl m' ≤ mj_sl m + 300 := by
  obtain ⟨p1, p2, p3, p4, p5, p6⟩ := id hp
  obtain ⟨b1, b2⟩ := id hb
  have hscan := scF_ok (pg := pg) pn 0 ps0 ps0_ok
  have bad : mj_Rd (mj_call mj_P (d + 6)) kc_Pg_read 4 (36, [some (.ref 2), none, none, none, none, none], [], m, I, R, J) (some .null) (m, I, R, J) := by
    refine mj_run 1 rfl trivial ?_
    exact mj_end rfl rfl trivial
  -- up to the last letter
  have first : ∀ (v : Option Value) (h' : mjH), (pn = 0 ∨ (scF pg pn 0 ps0).1 < pn → mj_Rd (mj_call mj_P (d + 6)) kc_Pg_read 4 (36, [some (.ref 2), none, none, none, none, none], [], m, I, R, J) v h') → (0 < pn → (scF pg pn 0 ps0).1 = pn → mj_Rd (mj_call mj_P (d + 6)) kc_Pg_read 4 (33, [some (.ref 2), none, none, none, none, none], [.int (Int32.ofInt (-1)), .int (gv (po (pg (pn - 1))))], m, I, R, J) v h') → mj_call mj_P (d + 7) kn_Pg_read [.ref 2] (m, I, R, J) v h' := by
    intro v h' k1 k2
    refine mj_ci rfl (Nat.le_of_ble_eq_true rfl) ?_
    refine mj_run 1 rfl trivial ?_
    refine sx_gi rfl p1 rfl ?_
    rw [p4]
    refine mj_bra rfl rfl (fun g => ?_) (fun g => ?_)
    · rw [nI_z (by omega)] at g
      exact k1 (Or.inl g)
    · rw [nI_z (by omega)] at g
      refine mj_run 1 rfl trivial ?_
      refine sx_v0 rfl p1 rfl rfl (G_faultG (d := d + 4) hb h hm hR) ?_
      refine mj_run 1 rfl trivial ?_
      refine sx_gi rfl p1 rfl ?_
      rw [p4]
      have := hscan.1
      refine mj_bra rfl rfl (fun g2 => ?_) (fun g2 => ?_)
      · rw [nI_ltI (by omega) (by omega)] at g2
        exact k1 (Or.inr g2)
      · rw [nI_ltI (by omega) (by omega)] at g2
        have hc := b2 (pn - 1) (by omega)
        refine mj_run 1 rfl trivial ?_
        refine sx_gr rfl p1 rfl p3 ?_
        refine mj_run 1 rfl trivial ?_
        refine sx_gi rfl p1 rfl ?_
        rw [p4]
        refine mj_run 2 rfl trivial ?_
        rw [pk_sub (by omega)]
        refine sx_ld rfl p2 (nI_vi (by omega) (by decide)) ?_
        rw [nI_nc (by omega), p5 (pn - 1) (by omega)]
        refine mj_cal rfl rfl (G_place _ (by omega)) ?_
        refine mj_run 1 rfl trivial ?_
        exact k2 (by omega) (by omega)
  cases hq : (scF pg pn 0 ps0).2 with
  | none =>
    have hlt := hscan.2.2 hq
    have : ydS pg pn = none := by unfold ydS; rw [hq]
    rw [this]
    exact first _ _ (fun _ => bad) (fun _ g => by omega)
  | some s =>
    obtain ⟨hok, hend⟩ := hscan.2.1 s hq
    obtain ⟨hy1, hy2⟩ := yd_test hq
    obtain ⟨hSI, hSX⟩ := SI_all hq
    obtain ⟨x1, x2, x3, x4⟩ := hSX
    obtain ⟨o1, o2, o3, o4, o5, o6, o7, o8⟩ := hok
    -- the places are within
    have second : ∀ (v : Option Value) (h' : mjH), 0 < s.2.1 → 0 < pn → (s.1 < s.2.2.2.1 → ∀ l2 : Option Value, mj_Rd (mj_call mj_P (d + 6)) kc_Pg_read 4 (69, [some (.ref 2), some (.int (nI (s.1 + 1))), l2, none, none, none], [], m, I, R, J) v h') → (s.2.2.2.1 ≤ s.1 → mj_Rd (mj_call mj_P (d + 6)) kc_Pg_read 4 (77, [some (.ref 2), some (.int (nI (s.1 + 1))), some (.int (nI pn)), none, none, none], [], m, I, R, J) v h') → mj_Rd (mj_call mj_P (d + 6)) kc_Pg_read 4 (33, [some (.ref 2), none, none, none, none, none], [.int (Int32.ofInt (-1)), .int (gv (po (pg (pn - 1))))], m, I, R, J) v h' := by
      intro v h' hw0 hpn0 k1 k2
      have hpo : po (pg (pn - 1)) ≠ none := fun q => by have := (x3 hpn0).mp q; omega
      cases hpl : po (pg (pn - 1)) with
      | none => exact absurd hpl hpo
      | some to =>
        have hto := po_lt hpl
        refine mj_brt rfl rfl (nI_m1 (by omega)) ?_
        refine mj_run 1 rfl trivial ?_
        refine sx_v0 rfl p1 rfl rfl (G_switchCount hb hp) ?_
        rw [x4]
        refine mj_run 3 rfl trivial ?_
        have lp : ∀ f k, k + f = pn → (∀ i, i < k → ∀ to, po (pg i) = some to → to < 10 + (s.1 + 1)) → mj_Rd (mj_call mj_P (d + 6)) kc_Pg_read 4 (45, [some (.ref 2), some (.int (nI (s.1 + 1))), some (.int (nI k)), none, none, none], [], m, I, R, J) v h' := by
          intro f
          induction f with
          | zero =>
            intro k hk hall
            have : k = pn := by omega
            subst this
            refine mj_run 2 rfl trivial ?_
            refine sx_gi rfl p1 rfl ?_
            rw [p4]
            refine mj_brt rfl rfl (by rw [nI_leI (by omega) (by omega)]; omega) ?_
            refine k2 ?_
            rcases x2 with g | ⟨i, hi, hp⟩
            · omega
            · have := hall i hi _ hp
              omega
          | succ f ih =>
            intro k hk hall
            have hc := b2 k (by omega)
            refine mj_run 2 rfl trivial ?_
            refine sx_gi rfl p1 rfl ?_
            rw [p4]
            refine mj_brf rfl rfl (by rw [nI_leI (by omega) (by omega)]; omega) ?_
            refine mj_run 1 rfl trivial ?_
            refine sx_gr rfl p1 rfl p3 ?_
            refine mj_run 1 rfl trivial ?_
            refine sx_ld rfl p2 (nI_vi (by omega) (by decide)) ?_
            rw [nI_nc (by omega), p5 k (by omega)]
            refine mj_cal rfl rfl (G_place _ (by omega)) ?_
            refine mj_run 3 rfl trivial ?_
            rw [nI_add]
            have nxt : (∀ to, po (pg k) = some to → to < 10 + (s.1 + 1)) → mj_Rd (mj_call mj_P (d + 6)) kc_Pg_read 4 (71, [some (.ref 2), some (.int (nI (s.1 + 1))), some (.int (nI k)), none, none, none], [], m, I, R, J) v h' := by
              intro q
              refine mj_run 2 rfl trivial ?_
              rw [nI_add]
              refine ih (k + 1) (by omega) (fun i hi to ht => ?_)
              by_cases e : i = k
              · subst e; exact q to ht
              · exact hall i (by omega) to ht
            cases hpk : po (pg k) with
            | none =>
              refine mj_brt rfl rfl (by rw [ii_lt, nI_toInt (by omega)]; show (-1 : Int) < _; omega) ?_
              exact nxt (fun to q => by rw [hpk] at q; cases q)
            | some t2 =>
              have ht2 := po_lt hpk
              refine mj_bra rfl rfl (fun g => ?_) (fun g => ?_)
              · rw [show gv (some t2) = nI t2 from rfl, nI_ltI (by omega) (by omega)] at g
                exact nxt (fun to q => by rw [hpk] at q; cases q; exact g)
              · rw [show gv (some t2) = nI t2 from rfl, nI_ltI (by omega) (by omega)] at g
                refine k1 ?_ _
                have := x1 k (by omega) t2 hpk
                omega
        exact lp pn 0 (by omega) (fun i hi => by omega)
    rcases hy1 with hy | hy
    · -- it is a yard
      rw [hy]
      dsimp only
      have hgood : ¬ (s.2.1 = 0 ∨ s.1 < s.2.2.2.1) := fun q => by rw [hy2.mpr q] at hy; cases hy
      have hpn0 : 0 < pn := by
        rcases Nat.eq_zero_or_pos pn with g | g
        · subst g
          cases hq
          exact absurd (Or.inl rfl) hgood
        · exact g
      obtain ⟨hok2, hn1⟩ := ydS_ok hy
      have hn := hok2.1
      obtain ⟨st, y0, y1', y2', y3, y4⟩ := hSI
      generalize hnn : s.1 + 1 = n at *
      generalize hYY : s.2.2.2.2 = Y at *
      have hC : ∀ p, p < n → 1 ≤ Y.2.1 p := fun p hp => (hok2.2 p hp).2.1
      have hmono : ∀ j p, p + j = s.1 → st p + oo Y.1 p + Y.2.1 p ≤ pn := by
        intro j
        induction j with
        | zero =>
          intro p hp
          have : p = s.1 := by omega
          rw [this]
          omega
        | succ j ihj =>
          intro p hp
          have := ihj (p + 1) (by omega)
          have := (y2' p (by omega)).2
          omega
      have hst : ∀ p, p < n → (∀ i, st p ≤ i → i < st p + oo Y.1 p + Y.2.1 p → pg i ≠ 59) ∧ sg (pg (st p)) = Y.1 p ∧ (∀ w, w < Y.2.1 p → po (pg (st p + oo Y.1 p + w)) = some (Y.2.2 p w)) ∧ st p + oo Y.1 p + Y.2.1 p ≤ pn ∧ (st p + oo Y.1 p + Y.2.1 p = pn ∨ pg (st p + oo Y.1 p + Y.2.1 p) = 59) ∧ (p + 1 < n → st (p + 1) = st p + oo Y.1 p + Y.2.1 p + 1) := by
        intro p hp
        obtain ⟨z1, z2, z3⟩ := y1' p (by omega)
        have := hC p hp
        refine ⟨z1, z2 (Or.inr (by omega)), z3, hmono (s.1 - p) p (by omega), ?_, fun q => (y2' p (by omega)).2⟩
        by_cases e : p = s.1
        · left; rw [e]; omega
        · right; exact (y2' p (by omega)).1
      -- the row of points
      have e3n : mj_mt m.length (m ++ [(3, n)]) = some (3, n) := mt_last m _
      have hE0 : Ext m I R (m ++ [(3, n)]) I (mj_rowR R m.length (fun _ => none)) := ⟨⟨_, rfl⟩, fun a ha => ⟨rfl, by simp [mj_rowR, show a ≠ m.length by omega]⟩⟩
      obtain ⟨m', I', R', J', s', q5, ⟨c1, c2, c3, c4, c5⟩, hx⟩ := G_points (d := d + 2) hb hok2 hn1 hst (L0 := m.length) (a0 := m.length) (h0 := (m, I, R)) rfl rfl p6 hp n 0 (m ++ [(3, n)]) I (mj_rowR R m.length (fun _ => none)) J none (by omega) (by simp) (by
        rw [mj_sl_app]
        simp [mj_sl]) e3n hE0 (fun q hq => by omega)
      rw [if_pos (by omega), y0] at hx
      -- the yard
      have lya : mj_mt m'.length (m' ++ [(20, 8)]) = some (20, 8) := mt_last m' _
      obtain ⟨I2, R2, A, ol, od, hcI, hCY, hfar, hol⟩ := Q_init (d := d) (J := mj_rowJ J' m'.length (fun _ => 0)) (m := m' ++ [(20, 8)]) (I := mj_row I' m'.length (fun _ => 0)) (R := mj_rowR R' m'.length (fun _ => none)) (ya := m'.length) (a0 := m.length) (B := fun q => m.length + 1 + 2 * q + 1) (C := fun q => m.length + 1 + 2 * q) hok2 hn1 lya (mt_old c3 _) (by omega) (by omega) (fun p hp => by
        obtain ⟨w1, w2, w3⟩ := c5 p hp
        have lb := mt_lt w2.1.choose_spec
        have lc := mt_lt w2.2.2
        refine ⟨?_, w2.mr (fun a x h => mt_old h _) (fun g => ?_), fun w hw => ?_, ?_, ?_, ?_, ?_⟩
        · simp [mj_rowR, show m.length ≠ m'.length by omega, w1]
        · simp [mj_rowR, show m.length + 1 + 2 * p + 1 ≠ m'.length by omega, g]
        · simp [mj_row, show m.length + 1 + 2 * p ≠ m'.length by omega, w3 w hw]
        · show m.length + 1 + 2 * p + 1 ≠ m'.length; omega
        · show m.length + 1 + 2 * p ≠ m'.length; omega
        · show 65 ≤ m.length + 1 + 2 * p + 1; omega
        · show 65 ≤ m.length + 1 + 2 * p; omega)
      refine ⟨m' ++ [(20, 8)] ++ [(0, 60), (0, 60), (0, 10), (0, 10), (0, ol)], I2, R2, mj_rowJ J' m'.length (fun _ => 0), m'.length, A, _, _, ol, od, ?_, ?_, hCY, ?_, ?_⟩
      · refine first _ _ (fun q => by omega) (fun _ _ => ?_)
        refine second _ _ (by omega) hpn0 (fun q => by omega) (fun _ => ?_)
        refine mj_run 7 rfl ⟨i_nn (by omega), by rw [nI_nc (by omega)]; omega⟩ ?_
        rw [nI_nc (show n < 2147483648 by omega)]
        refine hx _ _ ?_
        refine mj_run 3 rfl trivial ?_
        refine mj_cal rfl rfl hcI ?_
        exact mj_end rfl rfl trivial
      · refine ⟨?_, fun a ha => ?_⟩
        · obtain ⟨⟨e, he⟩, -⟩ := c4
          have he : m' = m ++ e := he
          exact ⟨e ++ ([(20, 8)] ++ [(0, 60), (0, 60), (0, 10), (0, 10), (0, ol)]), by rw [he]; simp⟩
        · have ha : a < m.length := ha
          obtain ⟨f1, f2⟩ := hfar a (by simp; omega) (by omega)
          obtain ⟨f3, f4⟩ := c4.2 a ha
          have f3 : I' a = I a := f3
          have f4 : R' a = R a := f4
          rw [f1, f2]
          refine ⟨?_, ?_⟩
          · rw [← f3]; simp [mj_row, show a ≠ m'.length by omega]
          · rw [← f4]; simp [mj_rowR, show a ≠ m'.length by omega]
      · simp
        omega
      · simp only [mj_sl_app]
        dsimp only at c2
        have e9 : mj_sl [(20, 8)] = 8 := rfl
        have e8 : mj_sl [(0, 60), (0, 60), (0, 10), (0, 10), (0, ol)] = 140 + ol := by simp [mj_sl]; omega
        rw [e9, e8]
        omega
    · -- it is none
      rw [hy]
      have hbad := hy2.mp hy
      refine first _ _ (fun _ => bad) (fun hpn0 _ => ?_)
      by_cases hw : s.2.1 = 0
      · have : po (pg (pn - 1)) = none := (x3 hpn0).mpr hw
        rw [this]
        refine mj_brf rfl rfl (fun q => q rfl) ?_
        exact bad
      · refine second _ _ (by omega) hpn0 (fun _ l2 => ?_) (fun q => by omega)
        refine mj_run 1 rfl trivial ?_
        exact mj_end rfl rfl trivial
end GG
