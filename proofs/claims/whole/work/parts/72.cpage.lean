section CC
variable {d L : Nat} {dy : mjM} {I : mjI} {y y1 n1 w1 c y2 : Option Nat} {R : mjR} {J : mjJ} {pn : Nat} {pg : Nat → Nat} {n : Nat} {Y : Yd} {T : Nat → Nat} {t : Nat} {tr : Nat → Nat} {kp : Kp} {wn : Nat} {wt : Nat → Nat} {yr dn : Nat}
theorem G_code (h : mjH) (w : Int64) {k : Nat} (hk : k < 8) : mj_call mj_P (d + 1) kn_Pg_codeIn [.long w, .int (nI k)] h (some (.int (nI (by8 w k)))) h := by
  have hW : w.toBitVec.toNat < 2 ^ 64 := w.toBitVec.isLt
  have esh : (w.toUInt64 >>> ((nI 8 * nI k).toInt64.toUInt64 &&& Int64.toUInt64 63)).toInt64 = lN (w.toBitVec.toNat >>> (8 * k)) := by
    rw [pk_mul]
    have := l_sh (W := w.toBitVec.toNat) (k := k) hW hk
    rw [← l_self w] at this
    exact this
  refine mj_ci rfl (Nat.le_of_ble_eq_true rfl) ?_
  refine mj_run 8 rfl trivial ?_
  rw [esh, l_and2]
  exact mj_end rfl rfl trivial
theorem G_letters (h : mjH) (w : Int64) : mj_call mj_P (d + 2) kn_Pg_lettersIn [.long w] h (some (.int (if lcG w 8 = true then nI (lcM w 8) else Int32.ofInt (-102)))) h := by
  refine mj_ci rfl (Nat.le_of_ble_eq_true rfl) ?_
  refine mj_run 4 rfl trivial ?_
  refine dn_ind 8 (fun k => lcG w k = true → ∀ l4 : Option Value, mj_Rd (mj_call mj_P (d + 1)) kc_Pg_lettersIn 1 (4, [some (.long w), none, some (.int (nI (lcM w k))), some (.int (nI k)), l4], [], h) (some (.int (if lcG w 8 = true then nI (lcM w 8) else Int32.ofInt (-102)))) h) ?_ ?_ 0 (by omega) rfl none
  · intro hg l4
    rw [if_pos hg]
    refine mj_run 2 rfl trivial ?_
    refine mj_brt rfl rfl (by decide) ?_
    refine mj_run 1 rfl trivial ?_
    exact mj_end rfl rfl trivial
  · intro k hk ih hg l4
    have hle := lcM_le w k
    have hb := by8_lt w k
    have hG : lcG w (k + 1) = (lcG w k && (decide (by8 w k ≤ 126) && (decide (by8 w k = 0) || decide (lcM w k = k)))) := rfl
    rw [hg, Bool.true_and] at hG
    have bad : lcG w (k + 1) = false → mj_Rd (mj_call mj_P (d + 1)) kc_Pg_lettersIn 1 (34, [some (.long w), none, some (.int (nI (lcM w k))), some (.int (nI k)), some (.int (nI (by8 w k)))], [], h) (some (.int (if lcG w 8 = true then nI (lcM w 8) else Int32.ofInt (-102)))) h := by
      intro q
      have : ¬ lcG w 8 = true := fun z => by
        have := lcG_mono (8 - (k + 1)) (k + 1) (by rw [show k + 1 + (8 - (k + 1)) = 8 by omega]; exact z)
        rw [q] at this
        cases this
      rw [if_neg this]
      refine mj_run 1 rfl trivial ?_
      exact mj_end rfl rfl trivial
    have good : lcG w (k + 1) = true → mj_Rd (mj_call mj_P (d + 1)) kc_Pg_lettersIn 1 (37, [some (.long w), none, some (.int (nI (lcM w k))), some (.int (nI k)), some (.int (nI (by8 w k)))], [], h) (some (.int (if lcG w 8 = true then nI (lcM w 8) else Int32.ofInt (-102)))) h := by
      intro q
      have ihk := ih q (some (.int (nI (by8 w k))))
      refine mj_run 1 rfl trivial ?_
      refine mj_bra rfl rfl (fun g => ?_) (fun g => ?_)
      · rw [nI_z (by omega)] at g
        rw [show lcM w (k + 1) = lcM w k by simp [lcM]; omega] at ihk
        refine mj_run 2 rfl trivial ?_
        rw [nI_add]
        exact ihk
      · rw [nI_z (by omega)] at g
        rw [show lcM w (k + 1) = lcM w k + 1 by simp [lcM]; omega] at ihk
        refine mj_run 3 rfl trivial ?_
        rw [nI_add, nI_add]
        exact ihk
    refine mj_run 2 rfl trivial ?_
    refine mj_brf rfl rfl (by rw [nI_leI (by decide) (by omega)]; omega) ?_
    refine mj_run 2 rfl trivial ?_
    refine mj_cal rfl rfl (G_code _ w hk) ?_
    refine mj_run 3 rfl trivial ?_
    refine mj_bra rfl rfl (fun g => ?_) (fun g => ?_)
    · rw [nI_ltI (by decide) (by omega)] at g
      exact bad (by rw [hG, decide_eq_false (show ¬ by8 w k ≤ 126 by omega)]; rfl)
    · rw [nI_ltI (by decide) (by omega)] at g
      have g126 : by8 w k ≤ 126 := by omega
      rw [decide_eq_true g126, Bool.true_and] at hG
      refine mj_run 1 rfl trivial ?_
      refine mj_bra rfl rfl (fun g0 => ?_) (fun g0 => ?_)
      · rw [nI_z (by omega)] at g0
        exact good (by rw [hG, decide_eq_true g0]; rfl)
      · rw [nI_z (by omega)] at g0
        rw [decide_eq_false g0, Bool.false_or] at hG
        refine mj_run 2 rfl trivial ?_
        refine mj_bra rfl rfl (fun g2 => ?_) (fun g2 => ?_)
        · rw [nI_leI (by omega) (by omega)] at g2
          exact good (by rw [hG]; exact decide_eq_true (by omega))
        · rw [nI_leI (by omega) (by omega)] at g2
          exact bad (by rw [hG]; exact decide_eq_false (by omega))
theorem CO_letters (ab : AB pn pg n Y T t tr kp wn wt yr dn) (h : CI (FM L dy) I (FR y y1 n1 w1 c y2 R) y pn pg n Y T t tr kp wn wt yr dn) (w : Int64) : ∃ I', mj_call mj_P (d + 4) kn_T_letters [.ref 1, .long w] (HP L dy I y y1 n1 w1 c y2 R J) (some (.int (ltA w pn))) (HP L dy I' y y1 n1 w1 c y2 R J) ∧ CI (FM L dy) I' (FR y y1 n1 w1 c y2 R) y (ltN w pn) (ltP w pn pg) n Y T t tr kp wn wt yr dn ∧ KM I I' := by
  have h0 := h
  obtain ⟨h1, h2, h3, h4, h5, h6, h7⟩ := h
  have p50 := ab.1.1
  have hM8 := lcM_le w 8
  have top : ∀ (z : Int32) (I' : mjI), mj_call mj_P (d + 3) kn_Pg_append [.ref 2, .long w] (HP L dy I y y1 n1 w1 c y2 R J) (some (.int z)) (HP L dy I' y y1 n1 w1 c y2 R J) → mj_call mj_P (d + 4) kn_T_letters [.ref 1, .long w] (HP L dy I y y1 n1 w1 c y2 R J) (some (.int z)) (HP L dy I' y y1 n1 w1 c y2 R J) := by
    intro z I' hx
    refine mj_ci rfl (Nat.le_of_ble_eq_true rfl) ?_
    refine mj_run 3 rfl trivial ?_
    refine mj_cal rfl rfl hx ?_
    exact mj_end rfl rfl trivial
  have same : Cpg I pn (ltP w pn pg) := ⟨h1.1, fun i hi => by unfold ltP; rw [if_pos hi]; exact h1.2 i hi⟩
  unfold ltA ltN
  by_cases hg : lcG w 8 = true
  · rw [if_pos hg]
    by_cases hle : pn + lcM w 8 ≤ 50
    · rw [if_pos hle, if_pos ⟨hg, hle⟩]
      have lp := dn_ind (lcM w 8) (fun k => ∀ (X : mjI), Cf [3] I X → (∀ i, i < pn + k → X 3 i = nI (ltP w pn pg i)) → ∃ I', (Cf [3] I I' ∧ (∀ i, i < pn + lcM w 8 → I' 3 i = nI (ltP w pn pg i))) ∧ mj_Rd (mj_call mj_P (d + 2)) kc_Pg_append 1 (29, [some (.ref 2), some (.long w), none, some (.int (nI (lcM w 8))), some (.int (nI k))], [], HP L dy X y y1 n1 w1 c y2 R J) (some (.int (nI (pn + lcM w 8)))) (HP L dy (mj_ui I' 2 1 (nI (pn + lcM w 8))) y y1 n1 w1 c y2 R J)) ?_ ?_ 0 (by omega)
      · obtain ⟨I', ⟨hf, e3⟩, hx⟩ := lp I ((Cf.rf I).w (by simp)) (fun i hi => same.2 i hi)
        have f := hf.tr (Cf.u I' 2 1 (nI (pn + lcM w 8)))
        refine ⟨mj_ui I' 2 1 (nI (pn + lcM w 8)), top _ _ ?_, ⟨⟨by simp [mj_ui, upd], fun i hi => by simp [mj_ui]; exact e3 i hi⟩, h2.fr f (by decide), h3.cf f (by decide), h4.fr f (by decide), h5.fr f (by decide), h6.fr f (by decide), h7.fr f (by decide)⟩, f.km (by decide)⟩
        refine mj_ci rfl (Nat.le_of_ble_eq_true rfl) ?_
        refine mj_run 1 rfl trivial ?_
        refine mj_cal rfl rfl (G_letters _ w) ?_
        rw [if_pos hg]
        refine mj_run 2 rfl trivial ?_
        refine mj_brt rfl rfl (by rw [show (0 : Int32) = nI 0 from rfl, nI_leI (by decide) (by omega)]; omega) ?_
        refine mj_run 5 rfl trivial ?_
        rw [h1.1, nI_add]
        refine mj_brt rfl rfl (by rw [nI_leI (by omega) (by decide)]; exact hle) ?_
        refine mj_run 2 rfl trivial ?_
        exact hx
      · intro X hf e3
        refine ⟨X, ⟨hf, e3⟩, ?_⟩
        have e2 : X 2 1 = nI pn := by rw [hf 2 (by decide)]; exact h1.1
        refine mj_run 2 rfl trivial ?_
        refine mj_brt rfl rfl (by rw [nI_leI (by omega) (by omega)]; omega) ?_
        refine mj_run 8 rfl trivial ?_
        rw [e2, nI_add]
        refine mj_endI rfl rfl trivial ?_ rfl
        simp [mj_ui, upd]
      · intro k hk ih X hf e3
        have e2 : X 2 1 = nI pn := by rw [hf 2 (by decide)]; exact h1.1
        obtain ⟨I', hA, hx⟩ := ih (mj_ui X 3 (pn + k) (nI (by8 w k))) ((hf.tr (Cf.u X 3 _ _)).w (by decide)) (fun i hi => by
          by_cases e : i = pn + k
          · subst e
            unfold ltP
            rw [if_neg (by omega), Nat.add_sub_cancel_left]
            simp [mj_ui, upd]
          · have := e3 i (by omega)
            simp [mj_ui, upd, e, this])
        refine ⟨I', hA, ?_⟩
        refine mj_run 2 rfl trivial ?_
        refine mj_brf rfl rfl (by rw [nI_leI (by omega) (by omega)]; omega) ?_
        refine mj_run 8 rfl trivial ?_
        refine mj_cal rfl rfl (G_code _ w (by omega)) ?_
        rw [e2, nI_add]
        refine mj_run 3 rfl ⟨nI_vi (by omega) (by decide), by decide⟩ ?_
        rw [nI_nc (by omega), nI_add]
        exact hx
    · rw [if_neg hle, if_neg (fun q => hle q.2)]
      refine ⟨I, top _ _ ?_, ⟨same, h2, h3, h4, h5, h6, h7⟩, KM.rf I⟩
      refine mj_ci rfl (Nat.le_of_ble_eq_true rfl) ?_
      refine mj_run 1 rfl trivial ?_
      refine mj_cal rfl rfl (G_letters _ w) ?_
      rw [if_pos hg]
      refine mj_run 2 rfl trivial ?_
      refine mj_brt rfl rfl (by rw [show (0 : Int32) = nI 0 from rfl, nI_leI (by decide) (by omega)]; omega) ?_
      refine mj_run 5 rfl trivial ?_
      rw [h1.1, nI_add]
      refine mj_brf rfl rfl (by rw [nI_leI (by omega) (by decide)]; exact hle) ?_
      refine mj_run 1 rfl trivial ?_
      exact mj_end rfl rfl trivial
  · rw [if_neg hg, if_neg (fun q => hg q.1)]
    refine ⟨I, top _ _ ?_, ⟨same, h2, h3, h4, h5, h6, h7⟩, KM.rf I⟩
    refine mj_ci rfl (Nat.le_of_ble_eq_true rfl) ?_
    refine mj_run 1 rfl trivial ?_
    refine mj_cal rfl rfl (G_letters _ w) ?_
    rw [if_neg hg]
    refine mj_run 2 rfl trivial ?_
    refine mj_brf rfl rfl (by decide) ?_
    refine mj_run 1 rfl trivial ?_
    exact mj_end rfl rfl trivial
theorem G_kind (h : mjH) {c : Nat} (hc : c < 1000) : mj_call mj_P (d + 1) kn_Pg_kindOf [.int (nI c)] h (some (.int (nI (sg c)))) h := by
  refine mj_ci rfl (Nat.le_of_ble_eq_true rfl) ?_
  refine mj_run 2 rfl trivial ?_
  unfold sg
  have q1 : (nI c = nI 61) ↔ c = 61 := nI_e (by omega) (by decide)
  have q2 : (nI c = nI 94) ↔ c = 94 := nI_e (by omega) (by decide)
  have q3 : (nI c = nI 126) ↔ c = 126 := nI_e (by omega) (by decide)
  simp only [mj_lk, q1, q2, q3]
  by_cases g1 : c = 61
  · simp only [g1, if_true]
    refine mj_run 1 rfl trivial ?_
    exact mj_end rfl rfl trivial
  · by_cases g2 : c = 94
    · rw [if_neg g1, if_pos g2, if_neg g1, if_neg (by omega), if_pos g2]
      refine mj_run 1 rfl trivial ?_
      exact mj_end rfl rfl trivial
    · by_cases g3 : c = 126
      · rw [if_neg g1, if_neg g2, if_pos g3, if_neg g1, if_pos g3]
        refine mj_run 1 rfl trivial ?_
        exact mj_end rfl rfl trivial
      · rw [if_neg g1, if_neg g2, if_neg g3, if_neg g1, if_neg g3, if_neg g2]
        refine mj_run 1 rfl trivial ?_
        exact mj_end rfl rfl trivial
theorem G_place (h : mjH) {c : Nat} (hc : c < 1000) : mj_call mj_P (d + 1) kn_Pg_placeOf [.int (nI c)] h (some (.int (gv (po c)))) h := by
  refine mj_ci rfl (Nat.le_of_ble_eq_true rfl) ?_
  refine mj_run 2 rfl trivial ?_
  have letter : ¬ (48 ≤ c ∧ c ≤ 57) → mj_Rd (mj_call mj_P d) kc_Pg_placeOf 1 (17, [some (.int (nI c))], [], h) (some (.int (gv (po c)))) h := by
    intro g
    unfold po
    rw [if_neg g]
    have no : ¬ (97 ≤ c ∧ c ≤ 106) → mj_Rd (mj_call mj_P d) kc_Pg_placeOf 1 (39, [some (.int (nI c))], [], h) (some (.int (gv (if 97 ≤ c ∧ c ≤ 106 then some (10 + c - 97) else none)))) h := by
      intro q
      rw [if_neg q]
      refine mj_run 1 rfl trivial ?_
      exact mj_end rfl rfl trivial
    refine mj_run 2 rfl trivial ?_
    refine mj_bra rfl rfl (fun g1 => ?_) (fun g1 => ?_)
    · rw [nI_ltI (by omega) (by decide)] at g1
      exact no (by omega)
    · rw [nI_ltI (by omega) (by decide)] at g1
      refine mj_run 2 rfl trivial ?_
      refine mj_bra rfl rfl (fun g2 => ?_) (fun g2 => ?_)
      · rw [nI_ltI (by decide) (by omega)] at g2
        exact no (by omega)
      · rw [nI_ltI (by decide) (by omega)] at g2
        rw [if_pos (by omega)]
        refine mj_run 6 rfl trivial ?_
        rw [nI_add, pk_sub (by omega)]
        exact mj_end rfl rfl trivial
  refine mj_bra rfl rfl (fun g1 => ?_) (fun g1 => ?_)
  · rw [nI_ltI (by omega) (by decide)] at g1
    exact letter (by omega)
  · rw [nI_ltI (by omega) (by decide)] at g1
    refine mj_run 2 rfl trivial ?_
    refine mj_bra rfl rfl (fun g2 => ?_) (fun g2 => ?_)
    · rw [nI_ltI (by decide) (by omega)] at g2
      exact letter (by omega)
    · rw [nI_ltI (by decide) (by omega)] at g2
      unfold po
      rw [if_pos (by omega)]
      refine mj_run 3 rfl trivial ?_
      rw [pk_sub (by omega)]
      exact mj_end rfl rfl trivial
theorem po_sg {c to : Nat} (h : po c = some to) : sg c = 0 ∧ c ≠ 59 := by
  unfold po at h
  unfold sg
  by_cases g : 48 ≤ c ∧ c ≤ 57
  · rw [if_neg (by omega), if_neg (by omega), if_neg (by omega)]
    exact ⟨rfl, by omega⟩
  · rw [if_neg g] at h
    by_cases g2 : 97 ≤ c ∧ c ≤ 106
    · rw [if_neg (by omega), if_neg (by omega), if_neg (by omega)]
      exact ⟨rfl, by omega⟩
    · rw [if_neg g2] at h
      cases h
theorem G_fault (hb : pn ≤ 50 ∧ ∀ i, i < pn → 1 ≤ pg i ∧ pg i ≤ 126) (h : Cpg I pn pg) : mj_call mj_P (d + 2) kn_Pg_faultPlace [.ref 2] (HP L dy I y y1 n1 w1 c y2 R J) (some (.int (nI (scF pg pn 0 ps0).1))) (HP L dy I y y1 n1 w1 c y2 R J) := by
  obtain ⟨p1, p2⟩ := h
  obtain ⟨b1, b2⟩ := hb
  refine mj_ci rfl (Nat.le_of_ble_eq_true rfl) ?_
  refine mj_run 8 rfl trivial ?_
  have key : ∀ (f k : Nat) (s : Ps) (l5 : Option Value), k + f = pn → PsOK s → mj_Rd (mj_call mj_P (d + 1)) kc_Pg_faultPlace 1 (9, [some (.ref 2), some (.int (nI (s.1 + 1))), some (.int (nI s.2.1)), some (.int (nI (if s.2.2.1 then 1 else 0))), some (.int (nI k)), l5], [], HP L dy I y y1 n1 w1 c y2 R J) (some (.int (nI (scF pg f k s).1))) (HP L dy I y y1 n1 w1 c y2 R J) := by
    intro f
    induction f with
    | zero =>
      intro k s l5 hk hs
      refine mj_run 3 rfl trivial ?_
      rw [p1]
      refine mj_brt rfl rfl (by rw [nI_leI (by omega) (by omega)]; omega) ?_
      refine mj_run 2 rfl trivial ?_
      rw [p1, ← hk]
      exact mj_end rfl rfl trivial
    | succ f ih =>
      intro k s l5 hk hs
      have hs' := hs
      obtain ⟨m, w, b, mx, K, C, W⟩ := s
      obtain ⟨h1, h2, h3, h4, h5, h6, h7, h8⟩ := hs'
      dsimp only at h1 h2 h3 h4 h5 h6 h7 h8 ⊢
      have hc := b2 k (by omega)
      have bad : goS (pg k) (m, w, b, mx, K, C, W) = none → ∀ (l1 l2 l3 l5 : Option Value), mj_Rd (mj_call mj_P (d + 1)) kc_Pg_faultPlace 1 (44, [some (.ref 2), l1, l2, l3, some (.int (nI k)), l5], [], HP L dy I y y1 n1 w1 c y2 R J) (some (.int (nI (scF pg (f + 1) k (m, w, b, mx, K, C, W)).1))) (HP L dy I y y1 n1 w1 c y2 R J) := by
        intro q l1 l2 l3 l5
        rw [show scF pg (f + 1) k (m, w, b, mx, K, C, W) = (k, none) by simp [scF, q]]
        refine mj_run 1 rfl trivial ?_
        exact mj_end rfl rfl trivial
      have next : ∀ s', goS (pg k) (m, w, b, mx, K, C, W) = some s' → ∀ l5 : Option Value, mj_Rd (mj_call mj_P (d + 1)) kc_Pg_faultPlace 1 (98, [some (.ref 2), some (.int (nI (s'.1 + 1))), some (.int (nI s'.2.1)), some (.int (nI (if s'.2.2.1 then 1 else 0))), some (.int (nI k)), l5], [], HP L dy I y y1 n1 w1 c y2 R J) (some (.int (nI (scF pg (f + 1) k (m, w, b, mx, K, C, W)).1))) (HP L dy I y y1 n1 w1 c y2 R J) := by
        intro s' q l5
        rw [show scF pg (f + 1) k (m, w, b, mx, K, C, W) = scF pg f (k + 1) s' by simp [scF, q]]
        refine mj_run 2 rfl trivial ?_
        rw [nI_add]
        exact ih (k + 1) s' l5 (by omega) (goS_ok hs q)
      refine mj_run 3 rfl trivial ?_
      rw [p1]
      refine mj_brf rfl rfl (by rw [nI_leI (by omega) (by omega)]; omega) ?_
      refine mj_run 6 rfl (nI_vi (by omega) (by decide)) ?_
      rw [nI_nc (by omega), p2 k (by omega)]
      refine mj_cal rfl rfl (G_place _ (by omega)) ?_
      refine mj_run 1 rfl trivial ?_
      cases hpo : po (pg k) with
      | some to =>
        obtain ⟨e1, e2⟩ := po_sg hpo
        have hto := po_lt hpo
        refine mj_brf rfl rfl (nI_m1 (by omega)) ?_
        refine mj_run 3 rfl trivial ?_
        rw [nI_add]
        have hgo : goS (pg k) (m, w, b, mx, K, C, W) = if w = 3 then none else some (m, w + 1, b, max mx (to - 10), (K, fu C m (w + 1), f2 W m w to)) := by
          unfold goS
          rw [if_neg (by omega), if_neg e2, hpo]
        refine mj_bra rfl rfl (fun g => ?_) (fun g => ?_)
        · rw [nI_leI (by omega) (by decide)] at g
          rw [if_neg (by omega)] at hgo
          exact next _ hgo _
        · rw [nI_leI (by omega) (by decide)] at g
          rw [if_pos (by omega)] at hgo
          exact bad hgo _ _ _ _
      | none =>
        refine mj_brt rfl rfl rfl ?_
        refine mj_run 2 rfl trivial ?_
        refine mj_bra rfl rfl (fun g => ?_) (fun g => ?_)
        · rw [nI_e (by omega) (by decide)] at g
          refine mj_run 1 rfl trivial ?_
          refine mj_cal rfl rfl (G_kind _ (by omega)) ?_
          have hs4 := sg_lt (pg k)
          have bad2 : goS (pg k) (m, w, b, mx, K, C, W) = none → mj_Rd (mj_call mj_P (d + 1)) kc_Pg_faultPlace 1 (93, [some (.ref 2), some (.int (nI (m + 1))), some (.int (nI w)), some (.int (nI (if b then 1 else 0))), some (.int (nI k)), some (.int (nI (pg k)))], [], HP L dy I y y1 n1 w1 c y2 R J) (some (.int (nI (scF pg (f + 1) k (m, w, b, mx, K, C, W)).1))) (HP L dy I y y1 n1 w1 c y2 R J) := by
            intro q
            rw [show scF pg (f + 1) k (m, w, b, mx, K, C, W) = (k, none) by simp [scF, q]]
            refine mj_run 1 rfl trivial ?_
            exact mj_end rfl rfl trivial
          refine mj_bra rfl rfl (fun g2 => ?_) (fun g2 => ?_)
          · rw [nI_z (by omega)] at g2
            refine bad2 ?_
            unfold goS
            rw [if_neg (by omega), if_neg g, hpo]
          · rw [nI_z (by omega)] at g2
            have hgo : goS (pg k) (m, w, b, mx, K, C, W) = if w = 0 ∧ b = false then some (m, w, true, mx, (fu K m (sg (pg k)), C, W)) else none := by
              unfold goS
              rw [if_pos (by omega)]
            refine mj_run 1 rfl trivial ?_
            cases b with
            | true =>
              refine mj_brt rfl rfl (show ¬ nI 1 = 0 by decide) ?_
              exact bad2 (by rw [hgo, if_neg (fun q => by cases q.2)])
            | false =>
              refine mj_brf rfl rfl (show ¬ ¬ nI 0 = 0 by decide) ?_
              refine mj_run 1 rfl trivial ?_
              refine mj_bra rfl rfl (fun g3 => ?_) (fun g3 => ?_)
              · rw [show (0 : Int32) = nI 0 from rfl, nI_leI (by omega) (by decide)] at g3
                refine mj_run 2 rfl trivial ?_
                exact next _ (by rw [hgo, if_pos ⟨by omega, rfl⟩]) _
              · rw [show (0 : Int32) = nI 0 from rfl, nI_leI (by omega) (by decide)] at g3
                exact bad2 (by rw [hgo, if_neg (by omega)])
        · rw [nI_e (by omega) (by decide)] at g
          have g := Classical.not_not.mp g
          have hgo : goS (pg k) (m, w, b, mx, K, C, W) = if 0 < w ∧ m < 9 then some (m + 1, 0, false, mx, (K, C, W)) else none := by
            unfold goS
            rw [g, if_neg (by decide), if_pos rfl]
          have bad3 : goS (pg k) (m, w, b, mx, K, C, W) = none → mj_Rd (mj_call mj_P (d + 1)) kc_Pg_faultPlace 1 (64, [some (.ref 2), some (.int (nI (m + 1))), some (.int (nI w)), some (.int (nI (if b then 1 else 0))), some (.int (nI k)), some (.int (nI (pg k)))], [], HP L dy I y y1 n1 w1 c y2 R J) (some (.int (nI (scF pg (f + 1) k (m, w, b, mx, K, C, W)).1))) (HP L dy I y y1 n1 w1 c y2 R J) := by
            intro q
            rw [show scF pg (f + 1) k (m, w, b, mx, K, C, W) = (k, none) by simp [scF, q]]
            refine mj_run 1 rfl trivial ?_
            exact mj_end rfl rfl trivial
          refine mj_run 1 rfl trivial ?_
          refine mj_bra rfl rfl (fun g2 => ?_) (fun g2 => ?_)
          · rw [nI_z (by omega)] at g2
            exact bad3 (by rw [hgo, if_neg (by omega)])
          · rw [nI_z (by omega)] at g2
            refine mj_run 2 rfl trivial ?_
            refine mj_bra rfl rfl (fun g3 => ?_) (fun g3 => ?_)
            · rw [nI_e (by omega) (by decide)] at g3
              refine mj_run 6 rfl trivial ?_
              rw [nI_add]
              exact next _ (by rw [hgo, if_pos (by omega)]) _
            · rw [nI_e (by omega) (by decide)] at g3
              exact bad3 (by rw [hgo, if_neg (by omega)])
  exact key pn 0 ps0 none (by omega) ps0_ok
theorem CO_fault (ab : AB pn pg n Y T t tr kp wn wt yr dn) (h : CI (FM L dy) I (FR y y1 n1 w1 c y2 R) y pn pg n Y T t tr kp wn wt yr dn) : mj_call mj_P (d + 3) kn_T_fault [.ref 1] (HP L dy I y y1 n1 w1 c y2 R J) (some (.int (nI (scF pg pn 0 ps0).1))) (HP L dy I y y1 n1 w1 c y2 R J) := by
  refine mj_ci rfl (Nat.le_of_ble_eq_true rfl) ?_
  refine mj_run 2 rfl trivial ?_
  refine mj_cal rfl rfl (G_fault ab.1 h.1) ?_
  exact mj_end rfl rfl trivial
end CC
