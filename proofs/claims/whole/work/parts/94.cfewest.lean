def mnV (V : Nat → Nat → Nat) : Nat → Nat
  | 0 => 100
  | k + 1 => min (mnV V k) (V 0 k)
theorem mnV_le {V : Nat → Nat → Nat} : ∀ k, mnV V k ≤ 100 ∧ (∀ x, x < k → mnV V k ≤ V 0 x) ∧ (mnV V k < 100 → ∃ x, x < k ∧ mnV V k = V 0 x)
  | 0 => ⟨Nat.le_refl _, fun x hx => by omega, fun h => by simp [mnV] at h⟩
  | k + 1 => by
    obtain ⟨h1, h2, h3⟩ := mnV_le (V := V) k
    unfold mnV
    refine ⟨by omega, fun x hx => ?_, fun h => ?_⟩
    · by_cases e : x = k
      · subst e; omega
      · have := h2 x (by omega)
        omega
    · by_cases g : mnV V k ≤ V 0 k
      · obtain ⟨x, hx, e⟩ := h3 (by omega)
        exact ⟨x, by omega, by omega⟩
      · exact ⟨k, by omega, by omega⟩
section PP
variable {Y : Yd} {n ol : Nat} {od T wt : Nat → Nat}
theorem hands_HM (h : YOK n Y) (hn1 : 1 ≤ n) (hn6 : n ≤ 6) (hst : strt Y n) (hO : OD Y n ol od) (h0 : 0 < ol) (hod0 : od 0 = 0) (hT : TOK n Y T) {wn : Nat} (hw8 : wn ≤ 8) (hw : ∀ i, i < wn → wt i < 10) {V : Nat → Nat → Nat} {g : Nat} (hD : DZ Y ol od V (PJ Y n ol od g (SK Y n ol od T wt wn) 0)) : HM Y n T wt wn (if mnV V (Wt Y od ol) < 100 then some (mnV V (Wt Y od ol)) else none) := by
  have hodn : ∀ j, j < ol → od j < n := fun j hj => rc_lt h hn1 (hO.2.1 j hj)
  obtain ⟨d1, d2, d3⟩ := hD
  obtain ⟨v1, v2, v3⟩ := mnV_le (V := V) (Wt Y od ol)
  have low : ∀ U c, Pl Y n T wt wn U c → mnV V (Wt Y od ol) ≤ c ∧ c < 100 := by
    intro U c hp
    have hc := Pl_le wn U c hp
    have : wn * n ≤ 8 * 6 := Nat.mul_le_mul hw8 hn6
    obtain ⟨u, c', s1, s2, s3⟩ := lazy_of h hn1 hst hO h0 hod0 hT hw wn (Nat.le_refl wn) U c hp
    have hu := SK_ok h hodn hT wn u c' s1
    have := d3 0 u c' (by omega) ⟨rfl, s1⟩ (by omega)
    have := v2 _ (cdo_lt hu ol (Nat.le_refl ol))
    omega
  by_cases g : mnV V (Wt Y od ol) < 100
  · rw [if_pos g]
    obtain ⟨x, hx, e⟩ := v3 g
    obtain ⟨m, m1, -, m2⟩ := d2 0 x (by omega) hx (by omega)
    obtain ⟨U, c', p1, p2, -⟩ := pl_of h hn1 hst hO h0 hod0 hT hw wn (Nat.le_refl wn) _ m m2
    exact ⟨⟨U, c', p1, by omega⟩, fun U c hp => (low U c hp).1⟩
  · rw [if_neg g]
    rintro ⟨U, c, hp⟩
    have := low U c hp
    omega
theorem PJ_row (h : YOK n Y) (hO : OD Y n ol od) (hst : strt Y n) (hod : ∀ j, j < ol → od j < n) {g : Nat} {S : (Nat → Nat) → Nat → Prop} (hS : ∀ u c, S u c → TKo Y ol od u) : ∀ J, J ≤ ol → ∀ r u c, PJ Y n ol od g S J r u c → J ≤ r
  | 0, _, r, u, c, _ => Nat.zero_le _
  | J + 1, hJ, r, u, c, hp => by
    obtain ⟨hr, hp | ⟨u0, c0, h0, s, δ, ho, hd, -⟩⟩ := hp
    · have := PJ_row h hO hst hod hS J (by omega) r u c hp
      omega
    · have hu := PJ_ok h hod hS J (by omega) J u0 c0 h0
      exact (dst_gt h hO hst hod (by omega) (opt_in h hod (by omega) hu ho) hd).1
theorem DZ_next (h : YOK n Y) (hO : OD Y n ol od) (hst : strt Y n) (hod : ∀ j, j < ol → od j < n) (hT : TOK n Y T) (h0 : 0 < ol) {k g : Nat} {V V' : Nat → Nat → Nat} (hD : DZ Y ol od V (PJ Y n ol od (wt k) (SK Y n ol od T wt k) ol)) (hV : ∀ r y, V' r y = if y < Wt Y od ol then (if r = 0 then V ol y else if r = ol then 100 else V r y) else V r y) (hb : ∀ r y, V' r y ≤ 100) : DZ Y ol od V' (PJ Y n ol od g (SK Y n ol od T wt (k + 1)) 0) := by
  obtain ⟨d1, d2, d3⟩ := hD
  refine ⟨hb, fun r x hr hx hv => ?_, fun r u m hr hp hm => ?_⟩
  · rw [hV r x, if_pos hx] at hv
    by_cases e : r = 0
    · subst e
      rw [if_pos rfl] at hv
      obtain ⟨m, m1, m2⟩ := d2 ol x (Nat.le_refl ol) hx hv
      refine ⟨m, ?_, rfl, m2⟩
      rw [hV, if_pos hx, if_pos rfl]
      exact m1
    · rw [if_neg e] at hv
      by_cases e2 : r = ol
      · rw [if_pos e2] at hv; omega
      · rw [if_neg e2] at hv
        obtain ⟨m, m1, m2⟩ := d2 r x hr hx hv
        have := PJ_row h hO hst hod (SK_ok h hod hT k) ol (Nat.le_refl ol) r _ m m2
        omega
  · obtain ⟨rfl, hs⟩ := hp
    have hu := SK_ok h hod hT (k + 1) u m hs
    rw [hV, if_pos (cdo_lt hu ol (Nat.le_refl ol)), if_pos rfl]
    exact d3 ol u m (Nat.le_refl ol) hs hm
theorem DZ_start (h : YOK n Y) (hod : ∀ j, j < ol → od j < n) (hT : TOK n Y T) {g : Nat} {V : Nat → Nat → Nat} (hV : ∀ r y, V r y = if r = 0 ∧ y = cdo Y od (fun j => T (od j)) ol then 0 else 100) : DZ Y ol od V (PJ Y n ol od g (SK Y n ol od T wt 0) 0) := by
  have hu : TKo Y ol od (fun j => T (od j)) := fun j hj => hT _ (hod j hj)
  refine ⟨fun r x => by rw [hV]; split <;> omega, fun r x hr hx hv => ?_, fun r u m hr hp hm => ?_⟩
  · rw [hV] at hv
    by_cases e : r = 0 ∧ x = cdo Y od (fun j => T (od j)) ol
    · obtain ⟨rfl, rfl⟩ := e
      exact ⟨0, Nat.zero_le _, rfl, fun j hj => dgo_cdo h hod hu hj, rfl⟩
    · rw [if_neg e] at hv
      omega
  · obtain ⟨rfl, s1, s2⟩ := hp
    rw [hV, if_pos ⟨rfl, cdo_cg ol s1⟩]
    omega
end PP
section CC
variable {d L : Nat} {dy : mjM} {y y1 n1 w1 c y2 : Option Nat} {R : mjR} {J : mjJ} {n : Nat} {Y : Yd} {T wt : Nat → Nat} {ya ol ca cl wn : Nat} {A B C od : Nat → Nat} {X I : mjI} {V : Nat → Nat → Nat}
theorem c_fillB {m : mjM} {R : mjR} {a N : Nat} (hm : mj_mt a m = some (1, N)) (h0 : 0 < a) (hN : N ≤ 1000000) : mj_call mj_P (d + 1) kn_Ar_fill2 [.ref a, .int (nI 100)] (m, I, R, J) none (m, mj_row I a (fun i => if i < N then nI 100 else I a i), R, J) := by
  refine mj_ci rfl (Nat.le_of_ble_eq_true rfl) ?_
  refine mj_run 3 rfl trivial ?_
  refine sx_ln rfl hm rfl ?_
  refine mj_run 1 rfl trivial ?_
  have key := dn_ind N (fun p => mj_Rd (mj_call mj_P d) kc_Ar_fill2 0 (5, [some (.ref a), some (.int (nI 100)), some (.int (nI p)), some (.int (nI N))], [], m, mj_row I a (fun i => if i < p then nI 100 else I a i), R, J) none (m, mj_row I a (fun i => if i < N then nI 100 else I a i), R, J)) ?_ ?_ 0 (by omega)
  · have e : mj_row I a (fun i => if i < 0 then nI 100 else I a i) = I := by
      funext b
      by_cases e : b = a
      · subst e; funext i; simp [mj_row]
      · simp [mj_row, e]
    rw [e] at key
    exact key
  · refine mj_run 2 rfl trivial ?_
    refine mj_brt rfl rfl (by rw [nI_leI (by omega) (by omega)]; omega) ?_
    exact mj_end rfl rfl trivial
  · intro p hp ih
    refine mj_run 2 rfl trivial ?_
    refine mj_brf rfl rfl (by rw [nI_leI (by omega) (by omega)]; omega) ?_
    refine mj_run 3 rfl trivial ?_
    refine sx_bst rfl hm (nI_vi hp (by omega)) h0 ?_
    refine mj_run 2 rfl trivial ?_
    rw [nI_nc (by omega), nI_add, b8 100 (by omega)]
    have e : mj_ui (mj_row I a (fun i => if i < p then nI 100 else I a i)) a p (nI 100) = mj_row I a (fun i => if i < p + 1 then nI 100 else I a i) := by
      funext b
      by_cases e : b = a
      · subst e
        funext i
        by_cases e2 : i = p
        · simp [mj_ui, mj_row, upd, e2]
        · by_cases e3 : i < p
          · simp [mj_ui, mj_row, upd, e2, e3, show i < p + 1 by omega]
          · simp [mj_ui, mj_row, upd, e2, e3, show ¬ i < p + 1 by omega]
      · simp [mj_ui, mj_row, e]
    rw [e]
    exact ih
theorem H_startNext (h0 : 0 < ol) (hcm : mj_mt ca (FM L dy) = some (1, cl)) (hcl : (ol + 1) * Wt Y od ol ≤ cl ∧ cl ≤ 1000000) (hca : 0 < ca ∧ ca ≠ 23 ∧ ca ≠ 25 ∧ ca ≠ 26) (hT : TB X Y ol od ca V) : ∃ X', mj_call mj_P (d + 1) kn_Th_startNext [.ref 23, .int (nI ol)] (HP L dy X y y1 n1 w1 (some ca) y2 R J) none (HP L dy X' y y1 n1 w1 (some ca) y2 R J) ∧ Cf [ca] X X' ∧ TB X' Y ol od ca (fun r y => if y < Wt Y od ol then (if r = 0 then V ol y else if r = ol then 100 else V r y) else V r y) := by
  have hWle : Wt Y od ol ≤ 1000000 := by
    have : Wt Y od ol ≤ (ol + 1) * Wt Y od ol := Nat.le_mul_of_pos_left _ (by omega)
    omega
  have key : ∀ (f x : Nat) (Z : mjI), x + f = Wt Y od ol → Cf [ca] X Z → TB Z Y ol od ca (fun r y => if y < x then (if r = 0 then V ol y else if r = ol then 100 else V r y) else V r y) → ∃ X', (Cf [ca] X X' ∧ TB X' Y ol od ca (fun r y => if y < Wt Y od ol then (if r = 0 then V ol y else if r = ol then 100 else V r y) else V r y)) ∧ mj_Rd (mj_call mj_P d) kc_Th_startNext 0 (2, [some (.ref 23), some (.int (nI ol)), some (.int (nI x))], [], HP L dy Z y y1 n1 w1 (some ca) y2 R J) none (HP L dy X' y y1 n1 w1 (some ca) y2 R J) := by
    intro f
    induction f with
    | zero =>
      intro x Z hx hZ hTZ
      have : x = Wt Y od ol := by omega
      subst this
      refine ⟨Z, ⟨hZ, hTZ⟩, ?_⟩
      refine mj_run 3 rfl trivial ?_
      rw [hTZ.1]
      refine mj_brt rfl rfl (by rw [nI_leI (by omega) (by omega)]; omega) ?_
      exact mj_end rfl rfl trivial
    | succ f ih =>
      intro x Z hx hZ hTZ
      have hxW : x < Wt Y od ol := by omega
      obtain ⟨t1, t2, t3, t4⟩ := id hTZ
      have hil := idx_lt (Nat.le_refl ol) hxW
      have hv := hT.2.2.2 ol x
      have vix : vp_in (nI (ol * Wt Y od ol + x)) cl := nI_vi (by omega) (by omega)
      have hclx : (nI (ol * Wt Y od ol + x)).toNatClampNeg = ol * Wt Y od ol + x := nI_nc (by omega)
      have hxl : x < cl := by
        have : Wt Y od ol ≤ (ol + 1) * Wt Y od ol := Nat.le_mul_of_pos_left _ (by omega)
        omega
      have e1 : Z ca (ol * Wt Y od ol + x) = nI (V ol x) := by
        have := t3 ol x (Nat.le_refl ol) hxW
        dsimp only at this
        rw [if_neg (by omega)] at this
        exact this
      have hne0 : ol * Wt Y od ol ≠ 0 := by
        have : 1 * Wt Y od ol ≤ ol * Wt Y od ol := Nat.mul_le_mul_right _ h0
        omega
      obtain ⟨X', hA, hx'⟩ := ih (x + 1) (mj_ui (mj_ui Z ca x (nI (V ol x))) ca (ol * Wt Y od ol + x) (nI 100)) (by omega) ((hZ.tr ((Cf.u Z ca x _).tr (Cf.u _ ca _ _))).w (by simp)) (by
        refine ⟨by simp [mj_ui, Ne.symm hca.2.1, t1], fun i hi2 => by simp [mj_ui, Ne.symm hca.2.2.1, Ne.symm hca.2.2.2, t2 i hi2], fun r' x' hr' hx' => ?_, fun r' x' => ?_⟩
        · have q0 : r' * Wt Y od ol + x' = x ↔ (r' = 0 ∧ x' = x) := by
            have := idx_inj (Cn := Wt Y od ol) (r := 0) (r' := r') hxW hx'
            rw [Nat.zero_mul, Nat.zero_add] at this
            exact this
          have q1 := idx_inj (Cn := Wt Y od ol) (r := ol) (r' := r') hxW hx'
          have old := t3 r' x' hr' hx'
          dsimp only at old ⊢
          by_cases a1 : r' = ol ∧ x' = x
          · obtain ⟨rfl, rfl⟩ := a1
            rw [if_pos (by omega), if_neg (by omega), if_pos rfl]
            simp [mj_ui, upd]
          · by_cases a0 : r' = 0 ∧ x' = x
            · obtain ⟨rfl, rfl⟩ := a0
              rw [if_pos (by omega), if_pos rfl, Nat.zero_mul, Nat.zero_add]
              simp [mj_ui, upd, hne0]
            · have b1 : ¬ (r' * Wt Y od ol + x' = ol * Wt Y od ol + x) := fun q => a1 (q1.mp q)
              have b0 : ¬ (r' * Wt Y od ol + x' = x) := fun q => a0 (q0.mp q)
              have e9 : mj_ui (mj_ui Z ca x (nI (V ol x))) ca (ol * Wt Y od ol + x) (nI 100) ca (r' * Wt Y od ol + x') = Z ca (r' * Wt Y od ol + x') := by simp [mj_ui, upd, b1, b0]
              rw [e9, old]
              by_cases z : x' = x
              · subst z
                rw [if_neg (by omega), if_pos (by omega), if_neg (fun q => a0 ⟨q, rfl⟩), if_neg (fun q => a1 ⟨q, rfl⟩)]
              · by_cases z2 : x' < x
                · rw [if_pos z2, if_pos (show x' < x + 1 by omega)]
                · rw [if_neg z2, if_neg (show ¬ x' < x + 1 by omega)]
        · have := hT.2.2.2
          have a := this ol x'
          have b := this r' x'
          dsimp only
          split
          · split
            · exact a
            · split <;> omega
          · exact b)
      refine ⟨X', hA, ?_⟩
      refine mj_run 3 rfl trivial ?_
      rw [t1]
      refine mj_brf rfl rfl (by rw [nI_leI (by omega) (by omega)]; omega) ?_
      refine mj_run 11 rfl trivial ?_
      rw [t1, pk_mul, nI_add]
      refine sx_bld rfl hcm vix ?_
      rw [hclx, e1]
      refine sx_bst rfl hcm (nI_vi hxl (by omega)) hca.1 ?_
      rw [nI_nc (by omega), b8 _ hv]
      have e23 : mj_ui Z ca x (nI (V ol x)) 23 4 = nI (Wt Y od ol) := by simp [mj_ui, Ne.symm hca.2.1, t1]
      refine mj_run 9 rfl trivial ?_
      rw [e23, pk_mul, nI_add]
      refine sx_bst rfl hcm vix hca.1 ?_
      rw [hclx, b8 100 (by omega)]
      refine mj_run 2 rfl trivial ?_
      rw [nI_add]
      exact hx'
  obtain ⟨X', hA, hx⟩ := key (Wt Y od ol) 0 X (by omega) ((Cf.rf X).w (by simp)) (by
    have e : (fun r y => if y < 0 then (if r = 0 then V ol y else if r = ol then 100 else V r y) else V r y) = V := by
      funext r y
      simp
    rw [e]
    exact hT)
  refine ⟨X', ?_, hA⟩
  refine mj_ci rfl (Nat.le_of_ble_eq_true rfl) ?_
  refine mj_run 2 rfl trivial ?_
  exact hx
theorem H_encode (hY : CY (FM L dy) X (FR y y1 n1 w1 c (some ya) R) ya A B C n ol od Y) (hT : RI X 5 n T) : ∃ X', mj_call mj_P (d + 3) kn_Th_encode [.ref 23, .ref 5] (HP L dy X y y1 n1 w1 c (some ya) R J) (some (.int (nI (cdo Y od (fun j => T (od j)) ol)))) (HP L dy X' y y1 n1 w1 c (some ya) R J) ∧ Cf [23, 25, 26] X X' ∧ X' 23 4 = nI (Wt Y od ol) ∧ ∀ j, j < ol → X' 25 (od j) = nI j ∧ X' 26 (od j) = nI (Wt Y od j) := by
  obtain ⟨⟨hK, hn1, hO⟩, ⟨r0, r3, r4, r5, r6, r7⟩, ⟨m0, m1, m2, m3, m4, m5, m6⟩, ⟨⟨a1, a2, a3, -⟩, -⟩, hp5, i1, i2, i3, i4, -⟩ := id hY
  obtain ⟨o1, o2, o3, o4, o5⟩ := id hO
  have hn := hK.1
  have hodn : ∀ j, j < ol → od j < n := fun j hj => rc_lt hK hn1 (o2 j hj)
  have key : ∀ (f j : Nat) (Z : mjI) (l4 : Option Value), j + f = ol → Cf [23, 25, 26] X Z → Z 23 4 = nI (Wt Y od j) → (∀ i, i < j → Z 25 (od i) = nI i ∧ Z 26 (od i) = nI (Wt Y od i)) → ∃ X', (Cf [23, 25, 26] X X' ∧ X' 23 4 = nI (Wt Y od ol) ∧ ∀ j, j < ol → X' 25 (od j) = nI j ∧ X' 26 (od j) = nI (Wt Y od j)) ∧ mj_Rd (mj_call mj_P (d + 2)) kc_Th_encode 1 (9, [some (.ref 23), some (.ref 5), some (.int (nI (cdo Y od (fun j => T (od j)) j))), some (.int (nI j)), l4], [], HP L dy Z y y1 n1 w1 c (some ya) R J) (some (.int (nI (cdo Y od (fun j => T (od j)) ol)))) (HP L dy X' y y1 n1 w1 c (some ya) R J) := by
    intro f
    induction f with
    | zero =>
      intro j Z l4 hj hZ h23 hR
      have : j = ol := by omega
      subst this
      refine ⟨Z, ⟨hZ, h23, hR⟩, ?_⟩
      refine mj_run 3 rfl trivial ?_
      refine sx_gr rfl m0 rfl r3 ?_
      refine sx_ln rfl m2 rfl ?_
      refine mj_brt rfl rfl (by rw [nI_leI (by omega) (by omega)]; omega) ?_
      refine mj_run 1 rfl trivial ?_
      exact mj_end rfl rfl trivial
    | succ f ih =>
      intro j Z l4 hj hZ h23 hR
      have hjo : j < ol := by omega
      have hi := hodn j hjo
      obtain ⟨b1, b2⟩ := hp5 (od j) hi
      obtain ⟨⟨q, hq⟩, hr, hc⟩ := id b2
      have vi : vp_in (nI (od j)) 10 := nI_vi (by omega) (by decide)
      have hcl : (nI (od j)).toNatClampNeg = od j := nI_nc (by omega)
      have z3 : Z (A 3) j = nI (od j) := by rw [hZ (A 3) (by simp; omega)]; exact i4 j hjo
      have z5 : Z 5 (od j) = nI (T (od j)) := by rw [hZ 5 (by decide)]; exact hT _ hi
      generalize hZ2 : mj_ui (mj_ui Z 25 (od j) (nI j)) 26 (od j) (nI (Wt Y od j)) = Z2
      have fZ2 : Cf [25, 26] Z Z2 := by rw [← hZ2]; exact (Cf.u Z 25 _ _).tr (Cf.u _ 26 _ _)
      obtain ⟨f2, fs2, fc2⟩ := P_sc (d := d) (I := Z2) (J := J) hK hi b2
      obtain ⟨X', hA, hx'⟩ := ih (j + 1) (mj_ui Z2 23 4 (nI (Wt Y od (j + 1)))) (some (.int (nI (od j)))) (by omega) ((hZ.tr (fZ2.tr (Cf.u Z2 23 4 _))).w (by simp)) (by simp [mj_ui, upd]) (fun i hij => by
        by_cases e : i = j
        · subst e
          rw [← hZ2]
          exact ⟨by simp [mj_ui, upd], by simp [mj_ui, upd]⟩
        · obtain ⟨w1', w2⟩ := hR i (by omega)
          have ne : od i ≠ od j := fun z => e (o4 i j (by omega) hjo z)
          rw [← hZ2]
          exact ⟨by simp [mj_ui, upd, ne, w1'], by simp [mj_ui, upd, ne, w2]⟩)
      refine ⟨X', hA, ?_⟩
      refine mj_run 3 rfl trivial ?_
      refine sx_gr rfl m0 rfl r3 ?_
      refine sx_ln rfl m2 rfl ?_
      refine mj_brf rfl rfl (by rw [nI_leI (by omega) (by omega)]; omega) ?_
      refine mj_run 2 rfl trivial ?_
      refine sx_gr rfl m0 rfl r3 ?_
      refine mj_run 1 rfl trivial ?_
      refine sx_ld rfl m2 (nI_vi hjo (by omega)) ?_
      rw [nI_nc (by omega), z3]
      have e23 : mj_ui Z 25 (od j) (nI j) 23 4 = nI (Wt Y od j) := by simp [mj_ui, h23]
      refine mj_run 12 rfl ⟨⟨vi, by decide⟩, vi, by decide⟩ ?_
      rw [hcl, e23, hZ2]
      have z25 : Z2 5 (od j) = nI (T (od j)) := by rw [fZ2 5 (by decide)]; exact z5
      have z223 : Z2 23 4 = nI (Wt Y od j) := by rw [fZ2 23 (by decide)]; exact h23
      refine mj_run 4 rfl vi ?_
      rw [hcl, z25]
      refine mj_run 10 rfl trivial ?_
      rw [z223, pk_mul, nI_add]
      refine sx_gr rfl m0 rfl r0 ?_
      refine mj_run 1 rfl trivial ?_
      refine sx_al rfl m1 rfl (nI_vi hi (by omega)) (by rw [hcl]; exact b1) ?_
      refine sx_v0 rfl hq fs2 rfl fc2 ?_
      refine mj_run 4 rfl trivial ?_
      rw [pk_mul, nI_add]
      exact hx'
  obtain ⟨X', hA, hx⟩ := key ol 0 (mj_ui X 23 4 (nI 1)) none (by omega) ((Cf.u X 23 4 (nI 1)).w (by decide)) (by simp [mj_ui, upd, Wt]) (fun i hi => by omega)
  refine ⟨X', ?_, hA⟩
  refine mj_ci rfl (Nat.le_of_ble_eq_true rfl) ?_
  refine mj_run 7 rfl trivial ?_
  exact hx
end CC
