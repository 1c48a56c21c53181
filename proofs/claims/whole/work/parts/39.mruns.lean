/-! rows of trucks -/
def tk (Y : Yd) (q : Option Nat) (T : Nat → Nat) : Nat → (Nat → Nat)
  | 0 => T
  | k + 1 => (gt Y q (tk Y q T k)).2.1
def sd (Y : Yd) (q : Option Nat) (T : Nat → Nat) (k : Nat) : Option Nat := (gt Y q (tk Y q T k)).1
theorem tk_ok {n : Nat} {Y : Yd} {q : Option Nat} {T : Nat → Nat} (h : YOK n Y) (hn : 1 ≤ n) (hT : TOK n Y T) : ∀ k, TOK n Y (tk Y q T k)
  | 0 => hT
  | k + 1 => (gt_ok h hn (tk_ok h hn hT k)).2.1
theorem sd_ok {n : Nat} {Y : Yd} {q : Option Nat} {T : Nat → Nat} (h : YOK n Y) (hn : 1 ≤ n) (hT : TOK n Y T) (k : Nat) {s : Nat} (hs : sd Y q T k = some s) : s < 10 := (gt_ok h hn (tk_ok h hn hT k)).1 s hs
theorem gv_eq {o : Option Nat} {s : Nat} (ho : ∀ z, o = some z → z < 10) (hs : s < 10) : gv o = nI s ↔ o = some s := by
  cases o with
  | none =>
    refine ⟨fun h => ?_, fun h => by cases h⟩
    exact absurd ((sq_none s hs).mp h.symm) (by simp)
  | some z =>
    have := ho z rfl
    show nI z = nI s ↔ _
    rw [nI_e (by omega) (by omega)]
    simp
/-- how many empty trucks, from k on -/
def ef (Y : Yd) (T : Nat → Nat) (s : Nat) : Nat → Nat → Int32
  | 0, _ => Int32.ofInt (-1)
  | f + 1, k => if sd Y none T k = some s then nI k else ef Y T s f (k + 1)
/-- whether the trucks from k on stop as wanted -/
def itF (Y : Yd) (q : Option Nat) (T wt : Nat → Nat) : Nat → Nat → Bool
  | 0, _ => true
  | f + 1, k => if sd Y q T k = some (wt k) then itF Y q T wt f (k + 1) else false
/-- the bits of 'which' -/
def whF (Y : Yd) (T wt : Nat → Nat) (wn : Nat) : Nat → Int32
  | 0 => nI 0
  | p + 1 => whF Y T wt wn p ||| (if itF Y (some p) T wt wn 0 then nI 1 <<< (nI p &&& 31) else nI 0)
def whA (n : Nat) (Y : Yd) (T wt : Nat → Nat) (wn : Nat) : Int32 := whF Y T wt wn n ||| (if itF Y none T wt wn 0 then nI 1 <<< (nI 10 &&& 31) else nI 0)
section MM
variable {d L : Nat} {dy : mjM} {I : mjI} {y y1 n1 w1 c y2 : Option Nat} {R : mjR} {J : mjJ} {pn : Nat} {pg : Nat → Nat} {n : Nat} {Y : Yd} {T : Nat → Nat} {t : Nat} {tr : Nat → Nat} {kp : Kp} {wn : Nat} {wt : Nat → Nat} {yr dn : Nat}
theorem M_emptyOf {s : Nat} (hs : s < 10) (h2 : MY I n Y) (h3 : Mst I n Y T) (hn : 1 ≤ n) : ∃ I', mj_call mj_P (d + 5) kn_M_emptyOf [.ref 45, .int (nI s)] (HP L dy I y y1 n1 w1 c y2 R J) (some (.int (ef Y T s 201 0))) (HP L dy I' y y1 n1 w1 c y2 R J) ∧ Fr [19, 20] [55, 56] I I' := by
  have hn10 : n ≤ 10 := h2.2.1.1
  have fc := Fr.c I (dst := 55) (by decide) 53 10
  have hYc : MY (cpI I 55 53 10) n Y := h2.fr fc (by decide)
  have hTc : RI (cpI I 55 53 10) 55 n T := fun i hi => by rw [cpI_at (by omega)]; exact h3.1 i hi
  have key : ∀ (f k : Nat) (X : mjI), k + f = 201 → MY X n Y → RI X 55 n (tk Y none T k) → ∃ I', Fr [19, 20] [55, 56] X I' ∧ mj_Rd (mj_call mj_P (d + 4)) kc_M_emptyOf 1 (6, [some (.ref 45), some (.int (nI s)), some (.int (nI k))], [], HP L dy X y y1 n1 w1 c y2 R J) (some (.int (ef Y T s f k))) (HP L dy I' y y1 n1 w1 c y2 R J) := by
    intro f
    induction f with
    | zero =>
      intro k X hk hX hT
      refine ⟨X, (Fr.rf X).w (by simp) (by simp), ?_⟩
      refine mj_run 2 rfl trivial ?_
      refine mj_brt rfl rfl (by rw [nI_ltI (by decide) (by omega)]; omega) ?_
      refine mj_run 1 rfl trivial ?_
      exact mj_end rfl rfl trivial
    | succ f ih =>
      intro k X hk hX hT
      have hTK := tk_ok (q := none) h2.2.1 hn h3.2 k
      obtain ⟨I1, hc1, hg1, hr1, hm1⟩ := M_goTruck (d := d) (L := L) (dy := dy) (y := y) (y1 := y1) (n1 := n1) (w1 := w1) (c := c) (y2 := y2) (R := R) (J := J) hX hn hT hTK sq_none
      have hgv := gv_eq (fun z hz => sd_ok (q := none) h2.2.1 hn h3.2 k hz) hs
      by_cases g : sd Y none T k = some s
      · refine ⟨I1, hg1.fr, ?_⟩
        refine mj_run 2 rfl trivial ?_
        refine mj_brf rfl rfl (by rw [nI_ltI (by decide) (by omega)]; omega) ?_
        refine mj_run 2 rfl trivial ?_
        refine mj_cal rfl rfl hc1 ?_
        refine mj_run 1 rfl trivial ?_
        refine mj_brf rfl rfl (fun q => q (hgv.mpr g)) ?_
        unfold ef
        rw [if_pos g]
        refine mj_run 1 rfl trivial ?_
        exact mj_end rfl rfl trivial
      · obtain ⟨I2, hf2, hx2⟩ := ih (k + 1) I1 (by omega) (hX.gf hg1) hr1
        refine ⟨I2, (hg1.fr.tr hf2).w (by decide) (by decide), ?_⟩
        refine mj_run 2 rfl trivial ?_
        refine mj_brf rfl rfl (by rw [nI_ltI (by decide) (by omega)]; omega) ?_
        refine mj_run 2 rfl trivial ?_
        refine mj_cal rfl rfl hc1 ?_
        refine mj_run 1 rfl trivial ?_
        refine mj_brt rfl rfl (fun q => g (hgv.mp q)) ?_
        unfold ef
        rw [if_neg g]
        refine mj_run 2 rfl trivial ?_
        rw [nI_add]
        exact hx2
  obtain ⟨I', hf, hx⟩ := key 201 0 (cpI I 55 53 10) rfl hYc hTc
  refine ⟨I', ?_, (fc.tr hf).w (by decide) (by decide)⟩
  refine mj_ci rfl (Nat.le_of_ble_eq_true rfl) ?_
  refine mj_run 1 rfl trivial ?_
  refine mj_cal rfl rfl M_layTried ?_
  refine mj_run 2 rfl trivial ?_
  exact hx
theorem MO_empty (h : MI I pn pg n Y T t tr kp wn wt yr dn) (x : Int32) : ∃ I', mj_call mj_P (d + 6) kn_M_empty [.ref 45, .int x] (HP L dy I y y1 n1 w1 c y2 R J) (some (.int (if 0 ≤ x.toInt ∧ x.toInt < 10 then (if n = 0 then Int32.ofInt (-103) else ef Y T x.toNatClampNeg 201 0) else Int32.ofInt (-101)))) (HP L dy I' y y1 n1 w1 c y2 R J) ∧ MI I' pn pg n Y T t tr kp wn wt yr dn ∧ Fr wk wa' I I' := by
  by_cases g : 0 ≤ x.toInt ∧ x.toInt < 10
  · rw [if_pos g]
    by_cases hn : n = 0
    · rw [if_pos hn]
      refine ⟨I, ?_, h, (Fr.rf I).w (by simp) (by simp)⟩
      refine mj_ci rfl (Nat.le_of_ble_eq_true rfl) ?_
      refine mj_run 4 rfl trivial ?_
      refine mj_cal rfl rfl (M_in_t ((lN9 x).mpr g)) ?_
      refine mj_brt rfl rfl (by decide) ?_
      refine mj_run 1 rfl trivial ?_
      refine mj_cal rfl rfl (M_lacks h.2.1) ?_
      rw [if_pos hn]
      refine mj_brf rfl rfl (by decide) ?_
      refine mj_run 2 rfl trivial ?_
      exact mj_end rfl rfl trivial
    · rw [if_neg hn]
      obtain ⟨s, hs, rfl⟩ := i_nI (N := 10) g
      rw [nI_nc (show s < 2147483648 by omega)]
      obtain ⟨I1, hc, hf⟩ := M_emptyOf (d := d) (L := L) (dy := dy) (y := y) (y1 := y1) (n1 := n1) (w1 := w1) (c := c) (y2 := y2) (R := R) (J := J) hs h.2.1 h.2.2.1 (by omega)
      have hf2 := hf.w (ks' := wk) (as' := wa') (by decide) (by decide)
      refine ⟨I1, ?_, h.work hf2, hf2⟩
      refine mj_ci rfl (Nat.le_of_ble_eq_true rfl) ?_
      refine mj_run 4 rfl trivial ?_
      refine mj_cal rfl rfl (M_in_t ((lN9 _).mpr g)) ?_
      refine mj_brt rfl rfl (by decide) ?_
      refine mj_run 1 rfl trivial ?_
      refine mj_cal rfl rfl (M_lacks h.2.1) ?_
      rw [if_neg hn]
      refine mj_brt rfl rfl (by decide) ?_
      refine mj_run 2 rfl trivial ?_
      refine mj_cal rfl rfl hc ?_
      exact mj_end rfl rfl trivial
  · rw [if_neg g]
    refine ⟨I, ?_, h, (Fr.rf I).w (by simp) (by simp)⟩
    refine mj_ci rfl (Nat.le_of_ble_eq_true rfl) ?_
    refine mj_run 4 rfl trivial ?_
    refine mj_cal rfl rfl (M_in_f (fun q => g ((lN9 x).mp q))) ?_
    refine mj_brf rfl rfl (by decide) ?_
    refine mj_run 1 rfl trivial ?_
    exact mj_end rfl rfl trivial
theorem M_isTrue {q : Option Nat} {x : Int32} (hq : sq q x) (h2 : MY I n Y) (h6 : Mwt I wn wt) (hn : 1 ≤ n) (hT : RI I 55 n T) (hTK : TOK n Y T) : ∃ I', mj_call mj_P (d + 5) kn_M_isTrue [.ref 45, .int x] (HP L dy I y y1 n1 w1 c y2 R J) (some (.int (nI (if itF Y q T wt wn 0 then 1 else 0)))) (HP L dy I' y y1 n1 w1 c y2 R J) ∧ Fr [19, 20] [55, 56] I I' := by
  have hn10 : n ≤ 10 := h2.2.1.1
  obtain ⟨k1, k2, k3⟩ := id h6
  have key : ∀ (f k : Nat) (X : mjI), k + f = wn → MY X n Y → Mwt X wn wt → RI X 55 n (tk Y q T k) → ∃ I', Fr [19, 20] [55, 56] X I' ∧ mj_Rd (mj_call mj_P (d + 4)) kc_M_isTrue 2 (4, [some (.ref 45), some (.int x), some (.int (nI 1)), some (.int (nI k))], [], HP L dy X y y1 n1 w1 c y2 R J) (some (.int (nI (if itF Y q T wt f k then 1 else 0)))) (HP L dy I' y y1 n1 w1 c y2 R J) := by
    intro f
    induction f with
    | zero =>
      intro k X hk hX hW hT
      refine ⟨X, (Fr.rf X).w (by simp) (by simp), ?_⟩
      refine mj_run 3 rfl trivial ?_
      rw [hW.1]
      refine mj_brt rfl rfl (by rw [nI_leI (by omega) (by omega)]; omega) ?_
      refine mj_run 1 rfl trivial ?_
      exact mj_end rfl rfl (Or.inr rfl)
    | succ f ih =>
      intro k X hk hX hW hT
      have hTKk := tk_ok (q := q) h2.2.1 hn hTK k
      obtain ⟨I1, hc1, hg1, hr1, hm1⟩ := M_goTruck (d := d) (L := L) (dy := dy) (y := y) (y1 := y1) (n1 := n1) (w1 := w1) (c := c) (y2 := y2) (R := R) (J := J) hX hn hT hTKk hq
      obtain ⟨q1, q2⟩ := hW.2.2 k (by omega)
      have hgv := gv_eq (fun z hz => sd_ok (q := q) h2.2.1 hn hTK k hz) q2
      have hW1 : Mwt I1 wn wt := hW.fr hg1.fr (by decide)
      by_cases g : sd Y q T k = some (wt k)
      · obtain ⟨I2, hf2, hx2⟩ := ih (k + 1) I1 (by omega) (hX.gf hg1) hW1 hr1
        refine ⟨I2, (hg1.fr.tr hf2).w (by decide) (by decide), ?_⟩
        refine mj_run 3 rfl trivial ?_
        rw [hW.1]
        refine mj_brf rfl rfl (by rw [nI_leI (by omega) (by omega)]; omega) ?_
        refine mj_run 1 rfl trivial ?_
        refine mj_brf rfl rfl (by decide) ?_
        refine mj_run 2 rfl trivial ?_
        refine mj_cal rfl rfl hc1 ?_
        refine mj_run 4 rfl (nI_vi (by omega) (by decide)) ?_
        rw [nI_nc (by omega), (hW1.2.2 k (by omega)).1]
        refine mj_brf rfl rfl (fun q => q (hgv.mpr g)) ?_
        refine mj_run 2 rfl trivial ?_
        refine mj_run 3 rfl trivial ?_
        rw [nI_add]
        have e : itF Y q T wt (f + 1) k = itF Y q T wt f (k + 1) := by simp [itF, g]
        rw [e]
        exact hx2
      · refine ⟨I1, hg1.fr, ?_⟩
        refine mj_run 3 rfl trivial ?_
        rw [hW.1]
        refine mj_brf rfl rfl (by rw [nI_leI (by omega) (by omega)]; omega) ?_
        refine mj_run 1 rfl trivial ?_
        refine mj_brf rfl rfl (by decide) ?_
        refine mj_run 2 rfl trivial ?_
        refine mj_cal rfl rfl hc1 ?_
        refine mj_run 4 rfl (nI_vi (by omega) (by decide)) ?_
        rw [nI_nc (by omega), (hW1.2.2 k (by omega)).1]
        refine mj_brt rfl rfl (fun q => g (hgv.mp q)) ?_
        refine mj_run 1 rfl trivial ?_
        refine mj_run 3 rfl trivial ?_
        have e : itF Y q T wt (f + 1) k = false := by simp [itF, g]
        rw [e]
        -- at the head once more
        refine mj_run 3 rfl trivial ?_
        refine mj_bra rfl rfl (fun _ => ?_) (fun _ => ?_)
        · refine mj_run 1 rfl trivial ?_
          exact mj_end rfl rfl (Or.inl rfl)
        · refine mj_run 1 rfl trivial ?_
          refine mj_brt rfl rfl (by decide) ?_
          refine mj_run 1 rfl trivial ?_
          exact mj_end rfl rfl (Or.inl rfl)
  obtain ⟨I', hf, hx⟩ := key wn 0 I (by omega) h2 h6 hT
  refine ⟨I', ?_, hf⟩
  refine mj_ci rfl (Nat.le_of_ble_eq_true rfl) ?_
  refine mj_run 4 rfl trivial ?_
  exact hx
end MM
