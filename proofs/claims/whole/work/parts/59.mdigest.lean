/-! the digest -/
def sy (h : Int64) (v : Int32) : Int64 := lN 31 * h + v.toInt64
def dgA (Y : Yd) (T : Nat → Nat) (p : Nat) : Nat → Int64 → Int64
  | 0, h => h
  | k + 1, h => if k < 5 ∨ 9 < k then sy (dgA Y T p k h) (abF Y T p k) else dgA Y T p k h
def dgN (Y : Yd) (T : Nat → Nat) : Nat → Int64
  | 0 => lN 521
  | p + 1 => dgA Y T p 13 (dgN Y T p)
def dgQ (tr : Nat → Nat) (s : Nat) : Nat → Int64 → Int64
  | 0, h => h
  | k + 1, h => if tr k = s then sy (dgQ tr s k h) (nI k) else dgQ tr s k h
def dgU (tr : Nat → Nat) (t : Nat) : Nat → Int64 → Int64
  | 0, h => h
  | s + 1, h => dgQ tr s t (sy (dgU tr t s h) (nI (cn tr s t)))
def dgE (Y : Yd) (T : Nat → Nat) : Nat → Int64 → Int64
  | 0, h => h
  | s + 1, h => sy (dgE Y T s h) (ef Y T s 201 0)
def dgY (Y : Yd) (n : Nat) (T : Nat → Nat) (h : Int64) : Int64 := sy (dgE Y T 10 (sy (sy h (nI (gt Y none T).2.2)) (nI (if sb Y n n then 1 else 0)))) (noA Y n T false)
def dgW (f : Nat → Int32) : Nat → Int64 → Int64
  | 0, h => h
  | k + 1, h => sy (dgW f k h) (f k)
def dg (pn : Nat) (pg : Nat → Nat) (n : Nat) (Y : Yd) (T : Nat → Nat) (t : Nat) (tr : Nat → Nat) (wn : Nat) (wt : Nat → Nat) (yr dn : Nat) : Int64 := dgW (ctF n t wn pn yr dn) 6 (dgW (fun i => nI (pg i)) pn (dgW (fun i => nI (wt i)) wn (if n = 0 then dgU tr t 10 (dgN Y T n) else dgY Y n T (dgU tr t 10 (dgN Y T n)))))
section MM
variable {d L : Nat} {dy : mjM} {I : mjI} {y y1 n1 w1 c y2 : Option Nat} {R : mjR} {J : mjJ} {pn : Nat} {pg : Nat → Nat} {n : Nat} {Y : Yd} {T : Nat → Nat} {t : Nat} {tr : Nat → Nat} {kp : Kp} {wn : Nat} {wt : Nat → Nat} {yr dn : Nat}
theorem M_say {a v : Int64} (h : J 45 33 = a) : ∃ J', J' 45 33 = lN 31 * a + v ∧ mj_call mj_P (d + 1) kn_M_say [.ref 45, .long v] (HP L dy I y y1 n1 w1 c y2 R J) none (HP L dy I y y1 n1 w1 c y2 R J') := by
  refine ⟨mj_uj J 45 33 (lN 31 * J 45 33 + v), ?_, ?_⟩
  · rw [h]
    simp [mj_uj, pk_uLs]
  · refine mj_ci rfl (Nat.le_of_ble_eq_true rfl) ?_
    refine mj_run 8 rfl trivial ?_
    exact mj_end rfl rfl trivial
theorem M_sayYard {a : Int64} (h2 : MY I n Y) (h3 : Mst I n Y T) (hn : 1 ≤ n) (hJ : J 45 33 = a) : ∃ I' J', (Fr wk wa' I I' ∧ J' 45 33 = dgY Y n T a) ∧ mj_call mj_P (d + 7) kn_M_sayYard [.ref 45] (HP L dy I y y1 n1 w1 c y2 R J) none (HP L dy I' y y1 n1 w1 c y2 R J') := by
  obtain ⟨I1, hc1, hf1⟩ := M_movesOf (d := d + 1) (L := L) (dy := dy) (y := y) (y1 := y1) (n1 := n1) (w1 := w1) (c := c) (y2 := y2) (R := R) (J := J) h2 h3 hn
  obtain ⟨J1, hj1, hs1⟩ := M_say (d := d + 5) (L := L) (dy := dy) (I := I1) (y := y) (y1 := y1) (n1 := n1) (w1 := w1) (c := c) (y2 := y2) (R := R) (v := (nI (gt Y none T).2.2).toInt64) hJ
  have hY1 : MY I1 n Y := h2.fr hf1 (by decide)
  have hS1 : Mst I1 n Y T := h3.fr hf1 (by decide)
  obtain ⟨J2, hj2, hs2⟩ := M_say (d := d + 5) (L := L) (dy := dy) (I := I1) (y := y) (y1 := y1) (n1 := n1) (w1 := w1) (c := c) (y2 := y2) (R := R) (v := (nI (if sb Y n n then 1 else 0)).toInt64) hj1
  have key := dn_ind 10 (fun s => ∀ (X : mjI) (K : mjJ), Fr [19, 20] [55, 56] I X → K 45 33 = dgE Y T s (sy (sy a (nI (gt Y none T).2.2)) (nI (if sb Y n n then 1 else 0))) → ∃ I' J', (Fr wk wa' I I' ∧ J' 45 33 = dgY Y n T a) ∧ mj_Rd (mj_call mj_P (d + 6)) kc_M_sayYard 0 (27, [some (.ref 45), some (.int (nI s))], [], HP L dy X y y1 n1 w1 c y2 R K) none (HP L dy I' y y1 n1 w1 c y2 R J')) ?_ ?_ 0 (by omega)
  · obtain ⟨I', J', hA, hx⟩ := key I1 J2 hf1 hj2
    refine ⟨I', J', hA, ?_⟩
    refine mj_ci rfl (Nat.le_of_ble_eq_true rfl) ?_
    refine mj_run 2 rfl trivial ?_
    refine mj_cal rfl rfl hc1 ?_
    refine mj_run 1 rfl trivial ?_
    refine mj_cal rfl rfl hs1 ?_
    refine mj_run 2 rfl trivial ?_
    refine mj_cal rfl rfl (M_isStraight hY1 hn) ?_
    cases hs : sb Y n n with
    | true =>
      rw [hs] at hs2
      refine mj_brf rfl rfl (by decide) ?_
      refine mj_run 2 rfl trivial ?_
      refine mj_cal rfl rfl hs2 ?_
      refine mj_run 2 rfl trivial ?_
      exact hx
    | false =>
      rw [hs] at hs2
      refine mj_brt rfl rfl (by decide) ?_
      refine mj_run 1 rfl trivial ?_
      refine mj_cal rfl rfl hs2 ?_
      refine mj_run 2 rfl trivial ?_
      exact hx
  · intro X K hf hK
    obtain ⟨I5, hc5, hf5⟩ := M_noticedOf (d := d) (L := L) (dy := dy) (y := y) (y1 := y1) (n1 := n1) (w1 := w1) (c := c) (y2 := y2) (R := R) (J := K) (h2.fr hf (by decide)) (h3.fr hf (by decide)) hn false
    obtain ⟨J5, hj5, hs5⟩ := M_say (d := d + 5) (L := L) (dy := dy) (I := I5) (y := y) (y1 := y1) (n1 := n1) (w1 := w1) (c := c) (y2 := y2) (R := R) (v := (noA Y n T false).toInt64) hK
    refine ⟨I5, J5, ⟨(hf.tr hf5).w (by decide) (by decide), hj5⟩, ?_⟩
    refine mj_run 2 rfl trivial ?_
    refine mj_brt rfl rfl (by decide) ?_
    refine mj_run 3 rfl trivial ?_
    refine mj_cal rfl rfl hc5 ?_
    refine mj_run 1 rfl trivial ?_
    refine mj_cal rfl rfl hs5 ?_
    exact mj_end rfl rfl trivial
  · intro s hs ih X K hf hK
    obtain ⟨I5, hc5, hf5⟩ := M_emptyOf (d := d + 1) (L := L) (dy := dy) (y := y) (y1 := y1) (n1 := n1) (w1 := w1) (c := c) (y2 := y2) (R := R) (J := K) (s := s) (by omega) (h2.fr hf (by decide)) (h3.fr hf (by decide)) hn
    obtain ⟨J5, hj5, hs5⟩ := M_say (d := d + 5) (L := L) (dy := dy) (I := I5) (y := y) (y1 := y1) (n1 := n1) (w1 := w1) (c := c) (y2 := y2) (R := R) (v := (ef Y T s 201 0).toInt64) hK
    obtain ⟨I', J', hA, hx⟩ := ih I5 J5 ((hf.tr hf5).w (by decide) (by decide)) hj5
    refine ⟨I', J', hA, ?_⟩
    refine mj_run 2 rfl trivial ?_
    refine mj_brf rfl rfl (by rw [nI_leI (by decide) (by omega)]; omega) ?_
    refine mj_run 3 rfl trivial ?_
    refine mj_cal rfl rfl hc5 ?_
    refine mj_run 1 rfl trivial ?_
    refine mj_cal rfl rfl hs5 ?_
    refine mj_run 2 rfl trivial ?_
    rw [nI_add]
    exact hx
theorem D_C {I' : mjI} {l2 : Option Value} {HG : Int64} (hM : MI I' pn pg n Y T t tr kp wn wt yr dn) : ∀ k, k ≤ 6 → ∀ (K : mjJ), K 45 33 = dgW (ctF n t wn pn yr dn) k HG → ∃ J', mj_Rd (mj_call mj_P (d + 7)) kc_M_digest 3 (182, [some (.ref 45), some (.int (nI k)), l2], [], HP L dy I' y y1 n1 w1 c y2 R K) (some (.long (dgW (ctF n t wn pn yr dn) 6 HG))) (HP L dy I' y y1 n1 w1 c y2 R J') := by
  obtain ⟨h1, h2, h3, h4, h5, h6, h7⟩ := id hM
  have hn10 : n ≤ 10 := h2.2.1.1
  have hp50 := h1.2.1
  have ht60 := h4.2.1
  have hw8 := h6.2.1
  refine dn_ind 6 (fun k => ∀ (K : mjJ), K 45 33 = dgW (ctF n t wn pn yr dn) k HG → ∃ J', mj_Rd (mj_call mj_P (d + 7)) kc_M_digest 3 (182, [some (.ref 45), some (.int (nI k)), l2], [], HP L dy I' y y1 n1 w1 c y2 R K) (some (.long (dgW (ctF n t wn pn yr dn) 6 HG))) (HP L dy I' y y1 n1 w1 c y2 R J')) ?_ ?_
  · intro K hK
    refine ⟨K, ?_⟩
    refine mj_run 2 rfl trivial ?_
    refine mj_brt rfl rfl (by decide) ?_
    refine mj_run 2 rfl trivial ?_
    rw [hK]
    exact mj_end rfl rfl trivial
  · intro k hk ih K hK
    obtain ⟨J5, hj5, hs5⟩ := M_say (d := d + 6) (L := L) (dy := dy) (I := I') (y := y) (y1 := y1) (n1 := n1) (w1 := w1) (c := c) (y2 := y2) (R := R) (v := (ctF n t wn pn yr dn k).toInt64) hK
    obtain ⟨J', hx⟩ := ih J5 hj5
    refine ⟨J', ?_⟩
    refine mj_run 2 rfl trivial ?_
    refine mj_brf rfl rfl (by rw [nI_leI (by decide) (by omega)]; omega) ?_
    refine mj_run 3 rfl trivial ?_
    refine mj_cal rfl rfl (M_countOf hM _) ?_
    rw [tb_in hk (by decide)]
    refine mj_run 1 rfl trivial ?_
    refine mj_cal rfl rfl hs5 ?_
    refine mj_run 2 rfl trivial ?_
    rw [nI_add]
    exact hx
theorem D_G {I' : mjI} {l2 : Option Value} {HW FV : Int64} (hM : MI I' pn pg n Y T t tr kp wn wt yr dn) (next : ∀ K : mjJ, K 45 33 = dgW (fun i => nI (pg i)) pn HW → ∃ J', mj_Rd (mj_call mj_P (d + 7)) kc_M_digest 3 (182, [some (.ref 45), some (.int (nI 0)), l2], [], HP L dy I' y y1 n1 w1 c y2 R K) (some (.long FV)) (HP L dy I' y y1 n1 w1 c y2 R J')) : ∀ k, k ≤ pn → ∀ (K : mjJ), K 45 33 = dgW (fun i => nI (pg i)) k HW → ∃ J', mj_Rd (mj_call mj_P (d + 7)) kc_M_digest 3 (155, [some (.ref 45), some (.int (nI k)), l2], [], HP L dy I' y y1 n1 w1 c y2 R K) (some (.long FV)) (HP L dy I' y y1 n1 w1 c y2 R J') := by
  obtain ⟨h1, h2, h3, h4, h5, h6, h7⟩ := id hM
  have hn10 : n ≤ 10 := h2.2.1.1
  have hp50 := h1.2.1
  have ht60 := h4.2.1
  have hw8 := h6.2.1
  refine dn_ind pn (fun k => ∀ (K : mjJ), K 45 33 = dgW (fun i => nI (pg i)) k HW → ∃ J', mj_Rd (mj_call mj_P (d + 7)) kc_M_digest 3 (155, [some (.ref 45), some (.int (nI k)), l2], [], HP L dy I' y y1 n1 w1 c y2 R K) (some (.long FV)) (HP L dy I' y y1 n1 w1 c y2 R J')) ?_ ?_
  · intro K hK
    obtain ⟨J', hx⟩ := next K hK
    refine ⟨J', ?_⟩
    refine mj_run 3 rfl trivial ?_
    rw [hM.1.1]
    refine mj_brt rfl rfl (by rw [nI_leI (by omega) (by omega)]; omega) ?_
    refine mj_run 2 rfl trivial ?_
    exact hx
  · intro k hk ih K hK
    obtain ⟨J5, hj5, hs5⟩ := M_say (d := d + 6) (L := L) (dy := dy) (I := I') (y := y) (y1 := y1) (n1 := n1) (w1 := w1) (c := c) (y2 := y2) (R := R) (v := (nI (pg k)).toInt64) hK
    obtain ⟨J', hx⟩ := ih J5 hj5
    refine ⟨J', ?_⟩
    refine mj_run 3 rfl trivial ?_
    rw [hM.1.1]
    refine mj_brf rfl rfl (by rw [nI_leI (by omega) (by omega)]; omega) ?_
    refine mj_run 6 rfl (nI_vi (by omega) (by decide)) ?_
    rw [nI_nc (by omega), (hM.1.2.2 k hk).1]
    refine mj_cal rfl rfl hs5 ?_
    refine mj_run 2 rfl trivial ?_
    rw [nI_add]
    exact hx
theorem D_W {I' : mjI} {l2 : Option Value} {HY FV : Int64} (hM : MI I' pn pg n Y T t tr kp wn wt yr dn) (next : ∀ K : mjJ, K 45 33 = dgW (fun i => nI (wt i)) wn HY → ∃ J', mj_Rd (mj_call mj_P (d + 7)) kc_M_digest 3 (155, [some (.ref 45), some (.int (nI 0)), l2], [], HP L dy I' y y1 n1 w1 c y2 R K) (some (.long FV)) (HP L dy I' y y1 n1 w1 c y2 R J')) : ∀ k, k ≤ wn → ∀ (K : mjJ), K 45 33 = dgW (fun i => nI (wt i)) k HY → ∃ J', mj_Rd (mj_call mj_P (d + 7)) kc_M_digest 3 (128, [some (.ref 45), some (.int (nI k)), l2], [], HP L dy I' y y1 n1 w1 c y2 R K) (some (.long FV)) (HP L dy I' y y1 n1 w1 c y2 R J') := by
  obtain ⟨h1, h2, h3, h4, h5, h6, h7⟩ := id hM
  have hn10 : n ≤ 10 := h2.2.1.1
  have hp50 := h1.2.1
  have ht60 := h4.2.1
  have hw8 := h6.2.1
  refine dn_ind wn (fun k => ∀ (K : mjJ), K 45 33 = dgW (fun i => nI (wt i)) k HY → ∃ J', mj_Rd (mj_call mj_P (d + 7)) kc_M_digest 3 (128, [some (.ref 45), some (.int (nI k)), l2], [], HP L dy I' y y1 n1 w1 c y2 R K) (some (.long FV)) (HP L dy I' y y1 n1 w1 c y2 R J')) ?_ ?_
  · intro K hK
    obtain ⟨J', hx⟩ := next K hK
    refine ⟨J', ?_⟩
    refine mj_run 3 rfl trivial ?_
    rw [hM.2.2.2.2.2.1.1]
    refine mj_brt rfl rfl (by rw [nI_leI (by omega) (by omega)]; omega) ?_
    refine mj_run 2 rfl trivial ?_
    exact hx
  · intro k hk ih K hK
    obtain ⟨J5, hj5, hs5⟩ := M_say (d := d + 6) (L := L) (dy := dy) (I := I') (y := y) (y1 := y1) (n1 := n1) (w1 := w1) (c := c) (y2 := y2) (R := R) (v := (nI (wt k)).toInt64) hK
    obtain ⟨J', hx⟩ := ih J5 hj5
    refine ⟨J', ?_⟩
    refine mj_run 3 rfl trivial ?_
    rw [hM.2.2.2.2.2.1.1]
    refine mj_brf rfl rfl (by rw [nI_leI (by omega) (by omega)]; omega) ?_
    refine mj_run 6 rfl (nI_vi (by omega) (by decide)) ?_
    rw [nI_nc (by omega), (hM.2.2.2.2.2.1.2.2 k hk).1]
    refine mj_cal rfl rfl hs5 ?_
    refine mj_run 2 rfl trivial ?_
    rw [nI_add]
    exact hx
theorem D_Y {l1 l2 : Option Value} {HX FV : Int64} (h0 : MI I pn pg n Y T t tr kp wn wt yr dn) (next : ∀ I', MI I' pn pg n Y T t tr kp wn wt yr dn → ∀ K : mjJ, K 45 33 = (if n = 0 then HX else dgY Y n T HX) → ∃ J', mj_Rd (mj_call mj_P (d + 7)) kc_M_digest 3 (128, [some (.ref 45), some (.int (nI 0)), l2], [], HP L dy I' y y1 n1 w1 c y2 R K) (some (.long FV)) (HP L dy I' y y1 n1 w1 c y2 R J')) (K : mjJ) (g1 : mj_lg l1 = true) (hK : K 45 33 = HX) : ∃ I' J', (MI I' pn pg n Y T t tr kp wn wt yr dn ∧ Fr wk wa' I I') ∧ mj_Rd (mj_call mj_P (d + 7)) kc_M_digest 3 (115, [some (.ref 45), l1, l2], [], HP L dy I y y1 n1 w1 c y2 R K) (some (.long FV)) (HP L dy I' y y1 n1 w1 c y2 R J') := by
  obtain ⟨h1, h2, h3, h4, h5, h6, h7⟩ := id h0
  have hn10 : n ≤ 10 := h2.2.1.1
  have hp50 := h1.2.1
  have ht60 := h4.2.1
  have hw8 := h6.2.1
  by_cases hn : n = 0
  · obtain ⟨J', hx⟩ := next I h0 K (by rw [if_pos hn]; exact hK)
    refine ⟨I, J', ⟨h0, (Fr.rf I).w (by simp) (by simp)⟩, ?_⟩
    refine mj_run 1 rfl trivial ?_
    refine mj_cal rfl rfl (M_lacks h2) ?_
    rw [if_pos hn]
    refine mj_brt rfl rfl (by decide) ?_
    refine mj_run 2 rfl trivial ?_
    exact hx
  · obtain ⟨I1, J1, ⟨hf1, hj1⟩, hc1⟩ := M_sayYard (d := d) (L := L) (dy := dy) (y := y) (y1 := y1) (n1 := n1) (w1 := w1) (c := c) (y2 := y2) (R := R) h2 h3 (by omega) hK
    have hM := h0.work hf1
    obtain ⟨J', hx⟩ := next I1 hM J1 (by rw [if_neg hn]; exact hj1)
    refine ⟨I1, J', ⟨hM, hf1⟩, ?_⟩
    refine mj_run 1 rfl trivial ?_
    refine mj_cal rfl rfl (M_lacks h2) ?_
    rw [if_neg hn]
    refine mj_brf rfl rfl (by decide) ?_
    refine mj_run 1 rfl trivial ?_
    refine mj_cal rfl rfl hc1 ?_
    refine mj_run 2 rfl trivial ?_
    exact hx
theorem D_U {H0 FV : Int64} (h0 : MI I pn pg n Y T t tr kp wn wt yr dn) (next : ∀ (l2 : Option Value) (K : mjJ), K 45 33 = dgU tr t 10 H0 → ∃ I' J', (MI I' pn pg n Y T t tr kp wn wt yr dn ∧ Fr wk wa' I I') ∧ mj_Rd (mj_call mj_P (d + 7)) kc_M_digest 3 (115, [some (.ref 45), some (.int (nI 10)), l2], [], HP L dy I y y1 n1 w1 c y2 R K) (some (.long FV)) (HP L dy I' y y1 n1 w1 c y2 R J')) : ∀ s, s ≤ 10 → ∀ (l2 : Option Value) (K : mjJ), K 45 33 = dgU tr t s H0 → ∃ I' J', (MI I' pn pg n Y T t tr kp wn wt yr dn ∧ Fr wk wa' I I') ∧ mj_Rd (mj_call mj_P (d + 7)) kc_M_digest 3 (61, [some (.ref 45), some (.int (nI s)), l2], [], HP L dy I y y1 n1 w1 c y2 R K) (some (.long FV)) (HP L dy I' y y1 n1 w1 c y2 R J') := by
  obtain ⟨h1, h2, h3, h4, h5, h6, h7⟩ := id h0
  have hn10 : n ≤ 10 := h2.2.1.1
  have hp50 := h1.2.1
  have ht60 := h4.2.1
  have hw8 := h6.2.1
  refine dn_ind 10 (fun s => ∀ (l2 : Option Value) (K : mjJ), K 45 33 = dgU tr t s H0 → ∃ I' J', (MI I' pn pg n Y T t tr kp wn wt yr dn ∧ Fr wk wa' I I') ∧ mj_Rd (mj_call mj_P (d + 7)) kc_M_digest 3 (61, [some (.ref 45), some (.int (nI s)), l2], [], HP L dy I y y1 n1 w1 c y2 R K) (some (.long FV)) (HP L dy I' y y1 n1 w1 c y2 R J')) ?_ ?_
  · intro l2 K hK
    obtain ⟨I', J', hA, hx⟩ := next l2 K hK
    refine ⟨I', J', hA, ?_⟩
    refine mj_run 2 rfl trivial ?_
    refine mj_brt rfl rfl (by decide) ?_
    exact hx
  · intro s hs ih l2 K hK
    obtain ⟨J5, hj5, hs5⟩ := M_say (d := d + 6) (L := L) (dy := dy) (I := I) (y := y) (y1 := y1) (n1 := n1) (w1 := w1) (c := c) (y2 := y2) (R := R) (v := (nI (cn tr s t)).toInt64) hK
    have sQ := dn_ind t (fun k => ∀ (K : mjJ), K 45 33 = dgQ tr s k (sy (dgU tr t s H0) (nI (cn tr s t))) → ∃ I' J', (MI I' pn pg n Y T t tr kp wn wt yr dn ∧ Fr wk wa' I I') ∧ mj_Rd (mj_call mj_P (d + 7)) kc_M_digest 3 (79, [some (.ref 45), some (.int (nI s)), some (.int (nI k))], [], HP L dy I y y1 n1 w1 c y2 R K) (some (.long FV)) (HP L dy I' y y1 n1 w1 c y2 R J')) ?_ ?_ 0 (by omega)
    · obtain ⟨I', J', hA, hx⟩ := sQ J5 hj5
      refine ⟨I', J', hA, ?_⟩
      refine mj_run 2 rfl trivial ?_
      refine mj_brf rfl rfl (by rw [nI_leI (by decide) (by omega)]; omega) ?_
      refine mj_run 3 rfl trivial ?_
      refine mj_cal rfl rfl (M_manyIn hs h4) ?_
      refine mj_run 1 rfl trivial ?_
      refine mj_cal rfl rfl hs5 ?_
      refine mj_run 2 rfl trivial ?_
      exact hx
    · intro K hK
      obtain ⟨I', J', hA, hx⟩ := ih (some (.int (nI t))) K hK
      refine ⟨I', J', hA, ?_⟩
      refine mj_run 3 rfl trivial ?_
      rw [h4.1]
      refine mj_brt rfl rfl (by rw [nI_leI (by omega) (by omega)]; omega) ?_
      refine mj_run 2 rfl trivial ?_
      rw [nI_add]
      exact hx
    · intro k hk ihk K hK
      obtain ⟨t1, t2⟩ := h4.2.2 k hk
      by_cases g : tr k = s
      · obtain ⟨J6, hj6, hs6⟩ := M_say (d := d + 6) (L := L) (dy := dy) (I := I) (y := y) (y1 := y1) (n1 := n1) (w1 := w1) (c := c) (y2 := y2) (R := R) (v := (nI k).toInt64) hK
        obtain ⟨I', J', hA, hx⟩ := ihk J6 (by
          rw [hj6]
          show _ = if _ then _ else _
          rw [if_pos g]
          rfl)
        refine ⟨I', J', hA, ?_⟩
        refine mj_run 3 rfl trivial ?_
        rw [h4.1]
        refine mj_brf rfl rfl (by rw [nI_leI (by omega) (by omega)]; omega) ?_
        refine mj_run 5 rfl (nI_vi (by omega) (by decide)) ?_
        rw [nI_nc (by omega), t1]
        refine mj_brf rfl rfl (fun q => q (by rw [g])) ?_
        refine mj_run 3 rfl trivial ?_
        refine mj_cal rfl rfl hs6 ?_
        refine mj_run 2 rfl trivial ?_
        rw [nI_add]
        exact hx
      · obtain ⟨I', J', hA, hx⟩ := ihk K (by
          rw [hK]
          show _ = if _ then _ else _
          rw [if_neg g])
        refine ⟨I', J', hA, ?_⟩
        refine mj_run 3 rfl trivial ?_
        rw [h4.1]
        refine mj_brf rfl rfl (by rw [nI_leI (by omega) (by omega)]; omega) ?_
        refine mj_run 5 rfl (nI_vi (by omega) (by decide)) ?_
        rw [nI_nc (by omega), t1]
        refine mj_brt rfl rfl (by rw [nI_e (by omega) (by omega)]; exact g) ?_
        refine mj_run 2 rfl trivial ?_
        rw [nI_add]
        exact hx
theorem D_N {FV : Int64} (h0 : MI I pn pg n Y T t tr kp wn wt yr dn) (next : ∀ (l2 : Option Value) (K : mjJ), K 45 33 = dgN Y T n → ∃ I' J', (MI I' pn pg n Y T t tr kp wn wt yr dn ∧ Fr wk wa' I I') ∧ mj_Rd (mj_call mj_P (d + 7)) kc_M_digest 3 (61, [some (.ref 45), some (.int (nI 0)), l2], [], HP L dy I y y1 n1 w1 c y2 R K) (some (.long FV)) (HP L dy I' y y1 n1 w1 c y2 R J')) : ∀ p, p ≤ n → ∀ (l2 : Option Value) (K : mjJ), K 45 33 = dgN Y T p → ∃ I' J', (MI I' pn pg n Y T t tr kp wn wt yr dn ∧ Fr wk wa' I I') ∧ mj_Rd (mj_call mj_P (d + 7)) kc_M_digest 3 (9, [some (.ref 45), some (.int (nI p)), l2], [], HP L dy I y y1 n1 w1 c y2 R K) (some (.long FV)) (HP L dy I' y y1 n1 w1 c y2 R J') := by
  obtain ⟨h1, h2, h3, h4, h5, h6, h7⟩ := id h0
  have hn10 : n ≤ 10 := h2.2.1.1
  have hp50 := h1.2.1
  have ht60 := h4.2.1
  have hw8 := h6.2.1
  refine dn_ind n (fun p => ∀ (l2 : Option Value) (K : mjJ), K 45 33 = dgN Y T p → ∃ I' J', (MI I' pn pg n Y T t tr kp wn wt yr dn ∧ Fr wk wa' I I') ∧ mj_Rd (mj_call mj_P (d + 7)) kc_M_digest 3 (9, [some (.ref 45), some (.int (nI p)), l2], [], HP L dy I y y1 n1 w1 c y2 R K) (some (.long FV)) (HP L dy I' y y1 n1 w1 c y2 R J')) ?_ ?_
  · intro l2 K hK
    obtain ⟨I', J', hA, hx⟩ := next l2 K hK
    refine ⟨I', J', hA, ?_⟩
    refine mj_run 3 rfl trivial ?_
    rw [h2.1]
    refine mj_brt rfl rfl (by rw [nI_leI (by omega) (by omega)]; omega) ?_
    refine mj_run 2 rfl trivial ?_
    exact hx
  · intro p hp ih l2 K hK
    have sA := dn_ind 13 (fun k => ∀ (K : mjJ), K 45 33 = dgA Y T p k (dgN Y T p) → ∃ I' J', (MI I' pn pg n Y T t tr kp wn wt yr dn ∧ Fr wk wa' I I') ∧ mj_Rd (mj_call mj_P (d + 7)) kc_M_digest 3 (19, [some (.ref 45), some (.int (nI p)), some (.int (nI k))], [], HP L dy I y y1 n1 w1 c y2 R K) (some (.long FV)) (HP L dy I' y y1 n1 w1 c y2 R J')) ?_ ?_ 0 (by omega)
    · obtain ⟨I', J', hA, hx⟩ := sA K hK
      refine ⟨I', J', hA, ?_⟩
      refine mj_run 3 rfl trivial ?_
      rw [h2.1]
      refine mj_brf rfl rfl (by rw [nI_leI (by omega) (by omega)]; omega) ?_
      refine mj_run 2 rfl trivial ?_
      exact hx
    · intro K hK
      obtain ⟨I', J', hA, hx⟩ := ih (some (.int (nI 13))) K hK
      refine ⟨I', J', hA, ?_⟩
      refine mj_run 2 rfl trivial ?_
      refine mj_brt rfl rfl (by decide) ?_
      refine mj_run 2 rfl trivial ?_
      rw [nI_add]
      exact hx
    · intro k hk ihk K hK
      by_cases g : k < 5 ∨ 9 < k
      · obtain ⟨J5, hj5, hs5⟩ := M_say (d := d + 6) (L := L) (dy := dy) (I := I) (y := y) (y1 := y1) (n1 := n1) (w1 := w1) (c := c) (y2 := y2) (R := R) (v := (abF Y T p k).toInt64) hK
        obtain ⟨I', J', hA, hx⟩ := ihk J5 (by
          rw [hj5]
          show _ = if _ then _ else _
          rw [if_pos g]
          rfl)
        refine ⟨I', J', hA, ?_⟩
        have go : mj_Rd (mj_call mj_P (d + 7)) kc_M_digest 3 (36, [some (.ref 45), some (.int (nI p)), some (.int (nI k))], [], HP L dy I y y1 n1 w1 c y2 R K) (some (.long FV)) (HP L dy I' y y1 n1 w1 c y2 R J') := by
          refine mj_run 4 rfl trivial ?_
          refine mj_cal rfl rfl (M_aboutOf h2 h3 hp _) ?_
          rw [tb_in hk (by decide)]
          refine mj_run 1 rfl trivial ?_
          refine mj_cal rfl rfl hs5 ?_
          refine mj_run 2 rfl trivial ?_
          rw [nI_add]
          exact hx
        refine mj_run 2 rfl trivial ?_
        refine mj_brf rfl rfl (by rw [nI_leI (by decide) (by omega)]; omega) ?_
        refine mj_run 2 rfl trivial ?_
        refine mj_bra rfl rfl (fun _ => go) (fun q => ?_)
        rw [nI_ltI (by omega) (by decide)] at q
        refine mj_run 2 rfl trivial ?_
        exact mj_brf rfl rfl (by rw [nI_leI (by omega) (by decide)]; omega) go
      · obtain ⟨I', J', hA, hx⟩ := ihk K (by
          rw [hK]
          show _ = if _ then _ else _
          rw [if_neg g])
        refine ⟨I', J', hA, ?_⟩
        refine mj_run 2 rfl trivial ?_
        refine mj_brf rfl rfl (by rw [nI_leI (by decide) (by omega)]; omega) ?_
        refine mj_run 2 rfl trivial ?_
        refine mj_brf rfl rfl (by rw [nI_ltI (by omega) (by decide)]; omega) ?_
        refine mj_run 2 rfl trivial ?_
        refine mj_brt rfl rfl (by rw [nI_leI (by omega) (by decide)]; omega) ?_
        refine mj_run 2 rfl trivial ?_
        rw [nI_add]
        exact hx
theorem dgW_0 (f : Nat → Int32) (h : Int64) : dgW f 0 h = h := rfl
theorem D_all (h : MI I pn pg n Y T t tr kp wn wt yr dn) : ∀ (l2 : Option Value) (K : mjJ), K 45 33 = dgN Y T 0 → ∃ I' J', (MI I' pn pg n Y T t tr kp wn wt yr dn ∧ Fr wk wa' I I') ∧ mj_Rd (mj_call mj_P (d + 7)) kc_M_digest 3 (9, [some (.ref 45), some (.int (nI 0)), l2], [], HP L dy I y y1 n1 w1 c y2 R K) (some (.long (dg pn pg n Y T t tr wn wt yr dn))) (HP L dy I' y y1 n1 w1 c y2 R J') := by
  unfold dg
  refine D_N h ?_ 0 (by omega)
  intro l2 K hK
  refine D_U h ?_ 0 (by omega) l2 K hK
  intro l2 K hK
  refine D_Y h ?_ K rfl hK
  intro I' hM K hK
  refine D_W hM ?_ 0 (by omega) K hK
  intro K hK
  refine D_G hM ?_ 0 (by omega) K hK
  intro K hK
  exact D_C hM 0 (by omega) K (hK.trans (dgW_0 (ctF n t wn pn yr dn) _).symm)
theorem dg_0 {f : Nat → Int32} {x : Int64} : (mj_uj J 45 33 x) 45 33 = x := by simp [mj_uj, pk_uLs]
theorem MO_digest (h : MI I pn pg n Y T t tr kp wn wt yr dn) : ∃ I' J', mj_call mj_P (d + 8) kn_M_digest [.ref 45] (HP L dy I y y1 n1 w1 c y2 R J) (some (.long (dg pn pg n Y T t tr wn wt yr dn))) (HP L dy I' y y1 n1 w1 c y2 R J') ∧ MI I' pn pg n Y T t tr kp wn wt yr dn ∧ Fr wk wa' I I' := by
  obtain ⟨I', J', hA, hx⟩ := D_all (d := d) (L := L) (dy := dy) (y := y) (y1 := y1) (n1 := n1) (w1 := w1) (c := c) (y2 := y2) (R := R) h none (mj_uj J 45 33 (lN 521)) (dg_0 (f := fun _ => 0))
  refine ⟨I', J', ?_, hA⟩
  refine mj_ci rfl (Nat.le_of_ble_eq_true rfl) ?_
  refine mj_run 5 rfl trivial ?_
  exact hx
end MM
