/-! one switch is left -/
section LL
variable {Y : Yd} {n ol : Nat} {od : Nat → Nat} {g j : Nat} {V0 V V' V'' : Nat → Nat → Nat} {x : Nat}
def cde (Y : Yd) (ol : Nat) (od : Nat → Nat) (j x s : Nat) : Nat := cdo Y od (fu (dgo Y od x) j (tn Y (od j) s)) ol
def LV (Y : Yd) (n ol : Nat) (od : Nat → Nat) (g j : Nat) (V0 V : Nat → Nat → Nat) (x : Nat) : Prop := (∀ y, y < Wt Y od ol → V j y = if y < x then 100 else V0 j y) ∧ (∀ r y, r ≠ j → V r y = V0 r y ∨ ∃ y0 s δ, y0 < x ∧ V0 j y0 < 100 ∧ opt Y od j (dgo Y od y0) s δ ∧ dst Y n ol od g j s r ∧ y = cde Y ol od j y0 s ∧ V r y = V0 j y0 + δ) ∧ (∀ r y, r ≠ j → V r y ≤ V0 r y) ∧ ∀ y0 s δ r, y0 < x → V0 j y0 < 100 → opt Y od j (dgo Y od y0) s δ → dst Y n ol od g j s r → V r (cde Y ol od j y0 s) ≤ V0 j y0 + δ
def IV (Y : Yd) (n ol : Nat) (od : Nat → Nat) (g j x ct0 : Nat) (B : Nat → Nat → Nat) (O : Nat → Nat → Prop) (V' : Nat → Nat → Nat) : Prop := (∀ r y, V' r y = B r y ∨ ∃ s δ, O s δ ∧ dst Y n ol od g j s r ∧ y = cde Y ol od j x s ∧ V' r y = ct0 + δ) ∧ (∀ r y, V' r y ≤ B r y) ∧ ∀ s δ r, O s δ → dst Y n ol od g j s r → V' r (cde Y ol od j x s) ≤ ct0 + δ
theorem IV_add {ct0 s δ : Nat} {B : Nat → Nat → Nat} {O O' : Nat → Nat → Prop} (h : IV Y n ol od g j x ct0 B O V') (hg : GO Y n ol od g j s (cde Y ol od j x s) (ct0 + δ) V' V'') (hO : ∀ a b, O' a b ↔ (O a b ∨ (a = s ∧ b = δ))) : IV Y n ol od g j x ct0 B O' V'' := by
  obtain ⟨h1, h2, h3⟩ := h
  obtain ⟨g1, g2, g3⟩ := hg
  refine ⟨fun r y => ?_, fun r y => Nat.le_trans (g3 r y) (h2 r y), fun a b r hab hd => ?_⟩
  · rcases g1 r y with e | ⟨e1, e2, e3⟩
    · rw [e]
      rcases h1 r y with q | ⟨a, b, q1, q2⟩
      · exact Or.inl q
      · exact Or.inr ⟨a, b, (hO a b).mpr (Or.inl q1), q2⟩
    · exact Or.inr ⟨s, δ, (hO s δ).mpr (Or.inr ⟨rfl, rfl⟩), e1, e2, e3⟩
  · rcases (hO a b).mp hab with q | ⟨rfl, rfl⟩
    · exact Nat.le_trans (g3 _ _) (h3 a b r q hd)
    · exact g2 r hd
theorem LV_next (hgt : ∀ z s δ r, opt Y od j (dgo Y od z) s δ → dst Y n ol od g j s r → j < r) (hx : x < Wt Y od ol) (h : LV Y n ol od g j V0 V x) (hc : V0 j x < 100) (hI : IV Y n ol od g j x (V0 j x) (fun r y => if r = j ∧ y = x then 100 else V r y) (opt Y od j (dgo Y od x)) V') : LV Y n ol od g j V0 V' (x + 1) := by
  obtain ⟨h1, h2, h3, h4⟩ := h
  obtain ⟨i1, i2, i3⟩ := hI
  refine ⟨fun y hy => ?_, fun r y hr => ?_, fun r y hr => ?_, fun y0 s δ r hy0 hv ho hd => ?_⟩
  · rcases i1 j y with e | ⟨s, δ, o, d, -⟩
    · rw [e]
      dsimp only
      by_cases q : y = x
      · rw [if_pos ⟨rfl, q⟩, if_pos (by omega)]
      · rw [if_neg (fun z => q z.2), h1 y hy]
        by_cases z : y < x
        · rw [if_pos z, if_pos (by omega)]
        · rw [if_neg z, if_neg (by omega)]
    · exact absurd (hgt x s δ j o d) (Nat.lt_irrefl j)
  · rcases i1 r y with e | ⟨s, δ, o, d, e1, e2⟩
    · rw [e]
      dsimp only
      rw [if_neg (fun z => hr z.1)]
      rcases h2 r y hr with q | ⟨y0, s, δ, q1, q2⟩
      · exact Or.inl q
      · exact Or.inr ⟨y0, s, δ, by omega, q2⟩
    · exact Or.inr ⟨x, s, δ, by omega, hc, o, d, e1, e2⟩
  · have := i2 r y
    dsimp only at this
    rw [if_neg (fun z => hr z.1)] at this
    exact Nat.le_trans this (h3 r y hr)
  · by_cases e : y0 = x
    · subst e
      exact i3 s δ r ho hd
    · have hr : r ≠ j := by have := hgt y0 s δ r ho hd; omega
      have := i2 r (cde Y ol od j y0 s)
      dsimp only at this
      rw [if_neg (fun z => hr z.1)] at this
      exact Nat.le_trans this (h4 y0 s δ r (by omega) hv ho hd)
theorem LV_skip (h : LV Y n ol od g j V0 V x) (hx : x < Wt Y od ol) (hc : V0 j x = 100) : LV Y n ol od g j V0 V (x + 1) := by
  obtain ⟨h1, h2, h3, h4⟩ := h
  refine ⟨fun y hy => ?_, fun r y hr => ?_, h3, fun y0 s δ r hy0 hv ho hd => ?_⟩
  · rw [h1 y hy]
    by_cases q : y = x
    · subst q
      rw [if_neg (by omega), if_pos (by omega), hc]
    · by_cases z : y < x
      · rw [if_pos z, if_pos (by omega)]
      · rw [if_neg z, if_neg (by omega)]
  · rcases h2 r y hr with q | ⟨y0, s, δ, q1, q2⟩
    · exact Or.inl q
    · exact Or.inr ⟨y0, s, δ, by omega, q2⟩
  · by_cases e : y0 = x
    · subst e; omega
    · exact h4 y0 s δ r (by omega) hv ho hd
theorem LV_0 : LV Y n ol od g j V0 V0 0 := ⟨fun y hy => by simp, fun r y hr => Or.inl rfl, fun r y hr => Nat.le_refl _, fun y0 s δ r hy0 => by omega⟩
theorem LV_DZ {S : (Nat → Nat) → Nat → Prop} (h : YOK n Y) (hod : ∀ j, j < ol → od j < n) (hj : j < ol) (hok : ∀ r u c, PJ Y n ol od g S j r u c → TKo Y ol od u) (hD : DZ Y ol od V0 (PJ Y n ol od g S j)) (hL : LV Y n ol od g j V0 V (Wt Y od ol)) (hV : ∀ r y, V r y ≤ 100) : DZ Y ol od V (PJ Y n ol od g S (j + 1)) := by
  obtain ⟨d1, d2, d3⟩ := hD
  obtain ⟨l1, l2, l3, l4⟩ := hL
  have tk : ∀ (u : Nat → Nat) (s : Nat), TKo Y ol od u → s < sm Y (od j) → TKo Y ol od (fu u j (tn Y (od j) s)) := by
    intro u s hu hs i hi
    unfold fu
    split
    · rename_i e; subst e; exact tn_in h (hod _ hi) hs
    · exact hu i hi
  refine ⟨hV, fun r y hr hy hv => ?_, fun r u m hr hp hm => ?_⟩
  · by_cases e : r = j
    · subst e
      rw [l1 y hy, if_pos hy] at hv
      omega
    · rcases l2 r y e with q | ⟨y0, s, δ, q1, q2, q3, q4, q5, q6⟩
      · rw [q] at hv ⊢
        obtain ⟨m, m1, m2⟩ := d2 r y hr hy hv
        exact ⟨m, m1, e, Or.inl m2⟩
      · obtain ⟨m, m1, m2⟩ := d2 j y0 (by omega) q1 q2
        have hs := opt_in h hod hj (dgo_ok h hod y0) q3
        refine ⟨m + δ, by omega, e, Or.inr ⟨dgo Y od y0, m, m2, s, δ, q3, q4, rfl, fun j' hj' => ?_⟩⟩
        rw [q5]
        exact dgo_cdo h hod (tk _ _ (dgo_ok h hod y0) hs) hj'
  · obtain ⟨e, hp | ⟨u0, c0, h0, s, δ, ho, hd, hc, hu⟩⟩ := hp
    · exact Nat.le_trans (l3 r _ e) (d3 r u m hr hp hm)
    · have hu0 := hok j u0 c0 h0
      have hs := opt_in h hod hj hu0 ho
      have hle := d3 j u0 c0 (by omega) h0 (by omega)
      have hlt := cdo_lt hu0 ol (Nat.le_refl ol)
      have ho2 : opt Y od j (dgo Y od (cdo Y od u0 ol)) s δ := by
        rcases ho with ⟨a, b⟩ | a
        · exact Or.inl ⟨by rw [dgo_cdo h hod hu0 hj]; exact a, b⟩
        · exact Or.inr a
      have := l4 (cdo Y od u0 ol) s δ r hlt (by omega) ho2 hd
      have e2 : cdo Y od u ol = cde Y ol od j (cdo Y od u0 ol) s := by
        unfold cde
        refine cdo_cg ol (fun i hi => ?_)
        rw [hu i hi]
        unfold fu
        split
        · rfl
        · exact (dgo_cdo h hod hu0 hi).symm
      rw [e2]
      omega
end LL
section CC
variable {d L : Nat} {dy : mjM} {y y1 n1 w1 : Option Nat} {R : mjR} {J : mjJ} {n : Nat} {Y : Yd} {ya ol ca cl : Nat} {A B C od : Nat → Nat} {X : mjI} {V0 : Nat → Nat → Nat}
theorem CY.cst {X X' : mjI} {m : mjM} {R : mjR} (hY : CY m X R ya A B C n ol od Y) (hcm : mj_mt ca m = some (1, cl)) (f : Cf [ca] X X') : CY m X' R ya A B C n ol od Y := hY.frt (fun a x hx h1 _ => f a (by
  simp
  intro e
  subst e
  rw [hcm] at hx
  cases hx
  exact h1 rfl))
theorem H_leave (hst : strt Y n) (hY : CY (FM L dy) X (FR y y1 n1 w1 (some ca) (some ya) R) ya A B C n ol od Y) (hcm : mj_mt ca (FM L dy) = some (1, cl)) (hcl : (ol + 1) * Wt Y od ol ≤ cl ∧ cl ≤ 1000000) (hca : 0 < ca ∧ ca ≠ 23 ∧ ca ≠ 25 ∧ ca ≠ 26) (hT : TB X Y ol od ca V0) {j g : Nat} (hj : j < ol) (hg : g < 10) : ∃ X' V, mj_call mj_P (d + 3) kn_Th_leave [.ref 23, .int (nI j), .int (nI g)] (HP L dy X y y1 n1 w1 (some ca) (some ya) R J) none (HP L dy X' y y1 n1 w1 (some ca) (some ya) R J) ∧ Cf [ca] X X' ∧ TB X' Y ol od ca V ∧ LV Y n ol od g j V0 V (Wt Y od ol) := by
  obtain ⟨⟨hK, hn1, hO⟩, ⟨r0, r3, r4, r5, r6, r7⟩, ⟨m0, m1, m2, m3, m4, m5, m6⟩, -, hp5, i1, i2, i3, i4, -⟩ := id hY
  obtain ⟨o1, o2, o3, o4, o5⟩ := id hO
  have hn := hK.1
  have hodn : ∀ j, j < ol → od j < n := fun j hj => rc_lt hK hn1 (o2 j hj)
  have hi := hodn j hj
  obtain ⟨b1, b2⟩ := hp5 (od j) hi
  obtain ⟨⟨q, hq⟩, hr, hc⟩ := id b2
  obtain ⟨k1, k2, k3, -⟩ := hK.2 (od j) hi
  have hs6 := sm_in hK hi
  have hW1 := Wt_pos hK hodn j (by omega)
  have hWol := Wt_pos hK hodn ol (Nat.le_refl ol)
  have hWle : Wt Y od ol ≤ 1000000 := by
    have : Wt Y od ol ≤ (ol + 1) * Wt Y od ol := Nat.le_mul_of_pos_left _ (by omega)
    omega
  have hWj : Wt Y od j ≤ Wt Y od ol := Nat.le_of_dvd (by omega) (by
    have := Wt_mono hK hodn (j := j) (ol - j) (by omega)
    rw [show j + (ol - j) = ol by omega] at this
    exact this)
  have vi : vp_in (nI (od j)) 10 := nI_vi (by omega) (by decide)
  have hcli : (nI (od j)).toNatClampNeg = od j := nI_nc (by omega)
  have hgt : ∀ z s δ r, opt Y od j (dgo Y od z) s δ → dst Y n ol od g j s r → j < r := fun z s δ r ho hd => (dst_gt hK hO hst hodn hj (opt_in hK hodn hj (dgo_ok hK hodn z) ho) hd).1
  have key : ∀ (f x : Nat) (Z : mjI) (V : Nat → Nat → Nat) (l8 l9 l10 l11 : Option Value), x + f = Wt Y od ol → Cf [ca] X Z → TB Z Y ol od ca V → LV Y n ol od g j V0 V x → mj_lg l8 = true → mj_lg l9 = true → mj_lg l10 = true → ∃ X' V', (Cf [ca] X X' ∧ TB X' Y ol od ca V' ∧ LV Y n ol od g j V0 V' (Wt Y od ol)) ∧ mj_Rd (mj_call mj_P (d + 2)) kc_Th_leave 0 (52, [some (.ref 23), some (.int (nI j)), some (.int (nI g)), some (.int (nI (od j))), some (.ref (B (od j))), some (.int (nI (sm Y (od j)))), some (.int (nI (Wt Y od j))), some (.int (nI x)), l8, l9, l10, l11], [], HP L dy Z y y1 n1 w1 (some ca) (some ya) R J) none (HP L dy X' y y1 n1 w1 (some ca) (some ya) R J) := by
    intro f
    induction f with
    | zero =>
      intro x Z V l8 l9 l10 l11 hx hZ hTZ hL g8 g9 g10
      have : x = Wt Y od ol := by omega
      subst this
      refine ⟨Z, V, ⟨hZ, hTZ, hL⟩, ?_⟩
      refine mj_run 3 rfl trivial ?_
      rw [hTZ.1]
      refine mj_brt rfl rfl (by rw [nI_leI (by omega) (by omega)]; omega) ?_
      exact mj_end rfl rfl trivial
    | succ f ih =>
      intro x Z V l8 l9 l10 l11 hx hZ hTZ hL g8 g9 g10
      have hxW : x < Wt Y od ol := by omega
      obtain ⟨t1, t2, t3, t4⟩ := id hTZ
      have hvx : V j x = V0 j x := by rw [hL.1 x hxW, if_neg (by omega)]
      have hv100 : V0 j x ≤ 100 := by rw [← hvx]; exact t4 j x
      have hil := idx_lt (show j ≤ ol by omega) hxW
      have vix : vp_in (nI (j * Wt Y od ol + x)) cl := nI_vi (by omega) (by omega)
      have hclx : (nI (j * Wt Y od ol + x)).toNatClampNeg = j * Wt Y od ol + x := nI_nc (by omega)
      have head : ∀ (v : Option Value) (h' : mjH), mj_Rd (mj_call mj_P (d + 2)) kc_Th_leave 0 (81, [some (.ref 23), some (.int (nI j)), some (.int (nI g)), some (.int (nI (od j))), some (.ref (B (od j))), some (.int (nI (sm Y (od j)))), some (.int (nI (Wt Y od j))), some (.int (nI x)), some (.int (nI (V0 j x))), l9, l10, l11], [.int (nI 100), .int (nI (V0 j x))], HP L dy Z y y1 n1 w1 (some ca) (some ya) R J) v h' → mj_Rd (mj_call mj_P (d + 2)) kc_Th_leave 0 (52, [some (.ref 23), some (.int (nI j)), some (.int (nI g)), some (.int (nI (od j))), some (.ref (B (od j))), some (.int (nI (sm Y (od j)))), some (.int (nI (Wt Y od j))), some (.int (nI x)), l8, l9, l10, l11], [], HP L dy Z y y1 n1 w1 (some ca) (some ya) R J) v h' := by
        intro v h' hx2
        refine mj_run 3 rfl trivial ?_
        rw [t1]
        refine mj_brf rfl rfl (by rw [nI_leI (by omega) (by omega)]; omega) ?_
        refine mj_run 8 rfl trivial ?_
        rw [t1, pk_mul, nI_add]
        refine sx_bld rfl hcm vix ?_
        rw [hclx, t3 j x (by omega) hxW, hvx]
        refine mj_run 3 rfl trivial ?_
        exact hx2
      by_cases hfar : V0 j x = 100
      · obtain ⟨X', V', hA, hx'⟩ := ih (x + 1) Z V (some (.int (nI (V0 j x)))) l9 l10 l11 (by omega) hZ hTZ (LV_skip hL hxW hfar) rfl g9 g10
        refine ⟨X', V', hA, head _ _ ?_⟩
        refine mj_brt rfl rfl (by rw [nI_leI (by decide) (by omega)]; omega) ?_
        refine mj_run 2 rfl trivial ?_
        rw [nI_add]
        exact hx'
      · -- the truck goes on
        have hlt : V0 j x < 100 := by omega
        have hst2 := dgo_ok hK hodn x j hj
        have hoth : x - dgo Y od x j * Wt Y od j = cdo Y od (fu (dgo Y od x) j 0) ol ∧ dgo Y od x j * Wt Y od j ≤ x := by
          have e1 : cdo Y od (dgo Y od x) ol = x := by rw [cdo_dgo, Nat.mod_eq_of_lt hxW]
          have e2 := cdo_fu (Y := Y) (od := od) (u := dgo Y od x) (j := j) (s := dgo Y od x j) ol hj
          have e3 : fu (dgo Y od x) j (dgo Y od x j) = dgo Y od x := by
            funext p
            by_cases e : p = j
            · subst e; simp [fu]
            · simp [fu, e]
          rw [e3, e1] at e2
          omega
        have hcode : ∀ s, s < sm Y (od j) → cdo Y od (fu (dgo Y od x) j 0) ol + tn Y (od j) s * Wt Y od j = cde Y ol od j x s ∧ cde Y ol od j x s < Wt Y od ol := by
          intro s hs
          have e2 := cdo_fu (Y := Y) (od := od) (u := dgo Y od x) (j := j) (s := tn Y (od j) s) ol hj
          refine ⟨e2.symm, cdo_lt (fun i hi2 => ?_) ol (Nat.le_refl ol)⟩
          unfold fu
          split
          · rename_i e; subst e; exact tn_in hK hi hs
          · exact dgo_ok hK hodn x i hi2
        generalize hcost : V0 j x = cost at *
        -- cleared
        have hTB : TB (mj_ui Z ca (j * Wt Y od ol + x) (nI 100)) Y ol od ca (fun r y => if r = j ∧ y = x then 100 else V r y) := by
          refine ⟨by simp [mj_ui, Ne.symm hca.2.1, t1], fun i hi2 => by simp [mj_ui, Ne.symm hca.2.2.1, Ne.symm hca.2.2.2, t2 i hi2], fun r' x' hr' hx' => ?_, fun r' x' => ?_⟩
          · by_cases e : r' = j ∧ x' = x
            · obtain ⟨rfl, rfl⟩ := e
              simp [mj_ui, upd]
            · have : ¬ (r' * Wt Y od ol + x' = j * Wt Y od ol + x) := fun q => e ((idx_inj hxW hx').mp q)
              simp [mj_ui, upd, this, e, t3 r' x' hr' hx']
          · dsimp only
            split
            · omega
            · exact t4 r' x'
        have fZ1 := hZ.tr (Cf.u Z ca (j * Wt Y od ol + x) (nI 100))
        have fZ1' : Cf [ca] X (mj_ui Z ca (j * Wt Y od ol + x) (nI 100)) := fZ1.w (by simp)
        -- the stand itself
        obtain ⟨hc1, hc2⟩ := hcode (dgo Y od x j) hst2
        obtain ⟨Z2, V2, hcall2, hf2, hT2, hG2⟩ := H_goOn (d := d) (R := R) (J := J) (hY.cst hcm fZ1') hcm hcl hca hTB (j := j) (s := dgo Y od x j) (oth := cdo Y od (fu (dgo Y od x) j 0) ol) (c := cost) (g := g) hj hst2 (by rw [hc1]; exact hc2) (by omega) hg
        rw [hc1] at hG2
        have hIV0 : IV Y n ol od g j x cost (fun r y => if r = j ∧ y = x then 100 else V r y) (fun s δ => s = dgo Y od x j ∧ δ = 0) V2 := by
          refine IV_add (O := fun _ _ => False) (s := dgo Y od x j) (δ := 0) ⟨fun r y => Or.inl rfl, fun r y => Nat.le_refl _, fun s δ r q => q.elim⟩ hG2 (fun a b => ?_)
          exact ⟨fun q => Or.inr q, fun q => q.elim (fun z => z.elim) id⟩
        have f2 : Cf [ca] X Z2 := (fZ1'.tr hf2).w (by simp)
        -- the ways
        have ways : ∀ (e w : Nat) (Z : mjI) (V' : Nat → Nat → Nat), w + e = Y.2.1 (od j) → Cf [ca] X Z → TB Z Y ol od ca V' → IV Y n ol od g j x cost (fun r y => if r = j ∧ y = x then 100 else V r y) (fun s δ => (s = dgo Y od x j ∧ δ = 0) ∨ ∃ w', w' < w ∧ s = lsd Y (od j) w' ∧ δ = 1) V' → ∃ X' V', (Cf [ca] X X' ∧ TB X' Y ol od ca V' ∧ LV Y n ol od g j V0 V' (Wt Y od ol)) ∧ mj_Rd (mj_call mj_P (d + 2)) kc_Th_leave 0 (135, [some (.ref 23), some (.int (nI j)), some (.int (nI g)), some (.int (nI (od j))), some (.ref (B (od j))), some (.int (nI (sm Y (od j)))), some (.int (nI (Wt Y od j))), some (.int (nI x)), some (.int (nI cost)), some (.int (nI (dgo Y od x j))), some (.int (nI (cdo Y od (fu (dgo Y od x) j 0) ol))), some (.int (nI w))], [], HP L dy Z y y1 n1 w1 (some ca) (some ya) R J) none (HP L dy X' y y1 n1 w1 (some ca) (some ya) R J) := by
          intro e
          induction e with
          | zero =>
            intro w Z V' hw hZ hT' hI
            have : w = Y.2.1 (od j) := by omega
            subst this
            obtain ⟨X', V'', hA, hx'⟩ := ih (x + 1) Z V' (some (.int (nI cost))) (some (.int (nI (dgo Y od x j)))) (some (.int (nI (cdo Y od (fu (dgo Y od x) j 0) ol)))) (some (.int (nI (Y.2.1 (od j))))) (by omega) hZ hT' (LV_next hgt hxW hL (by rw [hcost]; exact hlt) (by rw [hcost]; exact hI)) rfl rfl rfl
            refine ⟨X', V'', hA, ?_⟩
            refine mj_run 2 rfl trivial ?_
            refine sx_gr rfl hq (ptg_any k1) hr ?_
            refine sx_ln rfl hc rfl ?_
            refine mj_brt rfl rfl (by rw [nI_leI (by omega) (by omega)]; omega) ?_
            refine mj_run 2 rfl trivial ?_
            rw [nI_add]
            exact hx'
          | succ e ihe =>
            intro w Z V' hw hZ hT' hI
            have hwk : w < Y.2.1 (od j) := by omega
            have hls := (lsd_in hK hi hwk).1
            obtain ⟨hd1, hd2⟩ := hcode (lsd Y (od j) w) hls
            obtain ⟨f1, fs1, fc1⟩ := P_first (d := d + 1) (I := Z) (J := J) (w := w) hK hi b2
            obtain ⟨Z3, V3, hcall3, hf3, hT3, hG3⟩ := H_goOn (d := d) (R := R) (J := J) (hY.cst hcm hZ) hcm hcl hca hT' (j := j) (s := lsd Y (od j) w) (oth := cdo Y od (fu (dgo Y od x) j 0) ol) (c := cost + 1) (g := g) hj hls (by rw [hd1]; exact hd2) (by omega) hg
            rw [hd1] at hG3
            obtain ⟨X', V'', hA, hx'⟩ := ihe (w + 1) Z3 V3 (by omega) ((hZ.tr hf3).w (by simp)) hT3 (IV_add hI hG3 (fun a b => by
              constructor
              · rintro (z | ⟨w', z1, z2, z3⟩)
                · exact Or.inl (Or.inl z)
                · by_cases e : w' = w
                  · subst e; exact Or.inr ⟨z2, z3⟩
                  · exact Or.inl (Or.inr ⟨w', by omega, z2, z3⟩)
              · rintro ((z | ⟨w', z1, z2⟩) | ⟨z1, z2⟩)
                · exact Or.inl z
                · exact Or.inr ⟨w', by omega, z2⟩
                · exact Or.inr ⟨w, by omega, z1, z2⟩))
            refine ⟨X', V'', hA, ?_⟩
            refine mj_run 2 rfl trivial ?_
            refine sx_gr rfl hq (ptg_any k1) hr ?_
            refine sx_ln rfl hc rfl ?_
            refine mj_brf rfl rfl (by rw [nI_leI (by omega) (by omega)]; omega) ?_
            refine mj_run 4 rfl trivial ?_
            refine sx_v1 rfl hq fs1 rfl fc1 ?_
            refine mj_run 5 rfl trivial ?_
            rw [nI_add]
            refine mj_cal rfl rfl hcall3 ?_
            refine mj_run 2 rfl trivial ?_
            rw [nI_add]
            exact hx'
        obtain ⟨X', V', hA, hx'⟩ := ways (Y.2.1 (od j)) 0 Z2 V2 (by omega) f2 hT2 (by
          obtain ⟨v1, v2, v3⟩ := hIV0
          refine ⟨fun r y => ?_, v2, fun s δ r ho hd => ?_⟩
          · rcases v1 r y with z | ⟨s, δ, z1, z2⟩
            · exact Or.inl z
            · exact Or.inr ⟨s, δ, Or.inl z1, z2⟩
          · rcases ho with z | ⟨w', z, -⟩
            · exact v3 s δ r z hd
            · omega)
        refine ⟨X', V', hA, head _ _ ?_⟩
        refine mj_brf rfl rfl (by rw [nI_leI (by decide) (by omega)]; omega) ?_
        refine mj_run 9 rfl trivial ?_
        rw [t1, pk_mul, nI_add]
        refine sx_bst rfl hcm vix hca.1 ?_
        rw [hclx, b8 100 (by omega)]
        refine mj_run 12 rfl ⟨show ¬ nI (Wt Y od j) = 0 by rw [nI_z (by omega)]; omega, show ¬ nI (sm Y (od j)) = 0 by rw [nI_z (by omega)]; omega⟩ ?_
        have ed : x / Wt Y od j ≤ x := Nat.div_le_self _ _
        rw [pk_div (by omega) (by omega) (by omega), pk_rem (by omega) (by omega) (by omega)]
        rw [show x / Wt Y od j % sm Y (od j) = dgo Y od x j from rfl, pk_mul, pk_sub hoth.2, hoth.1]
        refine mj_run 6 rfl trivial ?_
        refine mj_cal rfl rfl hcall2 ?_
        refine mj_run 2 rfl trivial ?_
        exact hx'
  obtain ⟨X', V', hA, hx⟩ := key (Wt Y od ol) 0 X V0 none none none none (by omega) ((Cf.rf X).w (by simp)) hT LV_0 rfl rfl rfl
  obtain ⟨f2, fs2, fc2⟩ := P_sc (d := d) (I := X) (J := J) hK hi b2
  refine ⟨X', V', ?_, hA⟩
  refine mj_ci rfl (Nat.le_of_ble_eq_true rfl) ?_
  refine mj_run 2 rfl trivial ?_
  refine sx_gr rfl m0 rfl r3 ?_
  refine mj_run 1 rfl trivial ?_
  refine sx_ld rfl m2 (nI_vi hj (by omega)) ?_
  rw [nI_nc (by omega), i4 j hj]
  refine mj_run 3 rfl trivial ?_
  refine sx_gr rfl m0 rfl r0 ?_
  refine mj_run 1 rfl trivial ?_
  refine sx_al rfl m1 rfl (nI_vi hi (by omega)) (by rw [hcli]; exact b1) ?_
  refine mj_run 2 rfl trivial ?_
  refine sx_v0 rfl hq fs2 rfl fc2 ?_
  refine mj_run 8 rfl vi ?_
  rw [hcli, (hT.2.1 j hj).2]
  refine mj_brf rfl rfl (by rw [nI_ltI (by omega) (by decide)]; omega) ?_
  refine mj_run 2 rfl trivial ?_
  refine mj_brt rfl rfl (by rw [nI_leI (by decide) (by omega)]; omega) ?_
  refine mj_run 2 rfl trivial ?_
  exact hx
end CC
