/-! empty trucks ahead, and who explains a row -/
def fE (Y : Yd) (T : Nat → Nat) (s : Nat) : Nat → Int32
  | 0 => Int32.ofInt (-1)
  | k + 1 => if fE Y T s k = Int32.ofInt (-1) ∧ sd Y none T k = some s then nI k else fE Y T s k
theorem fE_no {Y : Yd} {T : Nat → Nat} {s : Nat} : ∀ k, (∀ j, j < k → sd Y none T j ≠ some s) → fE Y T s k = Int32.ofInt (-1)
  | 0, _ => rfl
  | k + 1, h => by
    unfold fE
    rw [if_neg (fun q => h k (by omega) q.2)]
    exact fE_no k (fun j hj => h j (by omega))
theorem fE_keep {Y : Yd} {T : Nat → Nat} {s k : Nat} (h : fE Y T s k ≠ Int32.ofInt (-1)) : ∀ f, fE Y T s (k + f) = fE Y T s k
  | 0 => rfl
  | f + 1 => by
    have ih := fE_keep h f
    show (if fE Y T s (k + f) = Int32.ofInt (-1) ∧ sd Y none T (k + f) = some s then nI (k + f) else fE Y T s (k + f)) = _
    rw [if_neg (fun q => h (ih ▸ q.1)), ih]
theorem fE_ef {Y : Yd} {T : Nat → Nat} {s : Nat} : ∀ f k, k + f < 1000 → (∀ j, j < k → sd Y none T j ≠ some s) → ef Y T s f k = fE Y T s (k + f)
  | 0, k, _, h => (fE_no k h).symm
  | f + 1, k, hk, h => by
    unfold ef
    by_cases g : sd Y none T k = some s
    · rw [if_pos g]
      have e : fE Y T s (k + 1) = nI k := by
        unfold fE
        rw [if_pos ⟨fE_no k h, g⟩]
      have := fE_keep (f := f) (show fE Y T s (k + 1) ≠ Int32.ofInt (-1) by rw [e]; exact nI_m1 (by omega))
      rw [show k + (f + 1) = k + 1 + f by omega, this, e]
    · rw [if_neg g, fE_ef f (k + 1) (by omega) (fun j hj => by
        by_cases e : j = k
        · subst e; exact g
        · exact h j (by omega))]
      congr 1
      omega
theorem gt_none {Y : Yd} {q : Option Nat} {T : Nat → Nat} (h : (gt Y q T).1 = none) : (gt Y q T).2.1 = T := by
  unfold gt at h ⊢
  split at h
  · cases h
  · rename_i g; rw [if_neg g]
theorem sd_none {Y : Yd} {q : Option Nat} {T : Nat → Nat} {k : Nat} (h : sd Y q T k = none) : ∀ f, tk Y q T (k + f) = tk Y q T k ∧ sd Y q T (k + f) = none
  | 0 => ⟨rfl, h⟩
  | f + 1 => by
    obtain ⟨h1, h2⟩ := sd_none h f
    have e : tk Y q T (k + (f + 1)) = tk Y q T k := by
      show (gt Y q (tk Y q T (k + f))).2.1 = _
      rw [gt_none h2, h1]
    refine ⟨e, ?_⟩
    unfold sd
    rw [e]
    exact h
theorem fE_stop {Y : Yd} {T : Nat → Nat} {s k : Nat} (h : sd Y none T k = none) : ∀ f, fE Y T s (k + f) = fE Y T s k
  | 0 => rfl
  | f + 1 => by
    show (if fE Y T s (k + f) = Int32.ofInt (-1) ∧ sd Y none T (k + f) = some s then nI (k + f) else fE Y T s (k + f)) = _
    rw [if_neg (fun q => by rw [(sd_none h f).2] at q; exact absurd q.2 (by simp)), fE_stop h f]
theorem fE_m1 {Y : Yd} {T : Nat → Nat} {s : Nat} : ∀ k, k < 1000 → fE Y T s k = Int32.ofInt (-1) ∨ ∃ j, j < k ∧ fE Y T s k = nI j
  | 0, _ => Or.inl rfl
  | k + 1, hk => by
    unfold fE
    split
    · exact Or.inr ⟨k, by omega, rfl⟩
    · rcases fE_m1 (Y := Y) (T := T) (s := s) k (by omega) with h | ⟨j, hj, h⟩
      · exact Or.inl h
      · exact Or.inr ⟨j, by omega, h⟩
section CC
variable {d L : Nat} {dy : mjM} {I : mjI} {y y1 n1 w1 c y2 : Option Nat} {R : mjR} {J : mjJ} {pn : Nat} {pg : Nat → Nat} {n : Nat} {Y : Yd} {T : Nat → Nat} {t : Nat} {tr : Nat → Nat} {kp : Kp} {wn : Nat} {wt : Nat → Nat} {yr dn : Nat} {ya ol : Nat} {A B C od : Nat → Nat}
theorem T_findEmpty (hY : CY (FM L dy) I (FR (some ya) y1 n1 w1 c y2 R) ya A B C n ol od Y) (h3 : RI I 5 n T) (hTK : TOK n Y T) : ∃ I', mj_call mj_P (d + 4) kn_T_findEmptyAhead [.ref 1] (HP L dy I (some ya) y1 n1 w1 c y2 R J) none (HP L dy I' (some ya) y1 n1 w1 c y2 R J) ∧ Cf [43, 44, 11, 10] I I' ∧ ∀ s, s < 10 → I' 44 s = ef Y T s 201 0 := by
  have hn10 := hY.1.1.1
  have hn1 := hY.1.2.1
  have goal : ∀ s, ef Y T s 201 0 = fE Y T s 201 := fun s => by
    rw [fE_ef 201 0 (by omega) (fun j hj => by omega)]
  have key : ∀ (f k : Nat) (X : mjI) (l3 : Option Value), k + f = 201 → CY (FM L dy) X (FR (some ya) y1 n1 w1 c y2 R) ya A B C n ol od Y → RI X 43 n (tk Y none T k) → (∀ s, s < 10 → X 44 s = fE Y T s k) → ∃ I', (Cf [43, 44, 11, 10] X I' ∧ ∀ s, s < 10 → I' 44 s = fE Y T s 201) ∧ mj_Rd (mj_call mj_P (d + 3)) kc_T_findEmptyAhead 0 (15, [some (.ref 1), some (.ref 43), some (.int (nI k)), l3], [], HP L dy X (some ya) y1 n1 w1 c y2 R J) none (HP L dy I' (some ya) y1 n1 w1 c y2 R J) := by
    intro f
    induction f with
    | zero =>
      intro k X l3 hk hX hT hE
      have : k = 201 := by omega
      subst this
      refine ⟨X, ⟨(Cf.rf X).w (by simp), hE⟩, ?_⟩
      refine mj_run 2 rfl trivial ?_
      refine mj_brt rfl rfl (by decide) ?_
      exact mj_end rfl rfl trivial
    | succ f ih =>
      intro k X l3 hk hX hT hE
      have hTKk := tk_ok (q := none) hX.1.1 hn1 hTK k
      obtain ⟨I1, hc1, hf1, hT1, -, -⟩ := R_send (d := d) (J := J) (sA := 43) hX rfl (by decide) (by decide) (by decide) (by decide) hT hTKk sq_none
      have e44 : I1 44 = X 44 := hf1 44 (by decide)
      have hY1 := hX.fr (I' := I1) (fun a h65 _ => hf1 a (by simp; omega))
      have start : ∀ (v : Option Value) (h' : mjH), mj_Rd (mj_call mj_P (d + 3)) kc_T_findEmptyAhead 0 (36, [some (.ref 1), some (.ref 43), some (.int (nI k)), some (.int (gv (sd Y none T k)))], [], HP L dy I1 (some ya) y1 n1 w1 c y2 R J) v h' → mj_Rd (mj_call mj_P (d + 3)) kc_T_findEmptyAhead 0 (15, [some (.ref 1), some (.ref 43), some (.int (nI k)), l3], [], HP L dy X (some ya) y1 n1 w1 c y2 R J) v h' := by
        intro v h' hx
        refine mj_run 2 rfl trivial ?_
        refine mj_brf rfl rfl (by rw [nI_ltI (by decide) (by omega)]; omega) ?_
        refine mj_run 6 rfl trivial ?_
        refine mj_cal rfl rfl hc1 ?_
        refine mj_run 1 rfl trivial ?_
        exact hx
      cases hs : sd Y none T k with
      | none =>
        rw [hs] at start
        refine ⟨I1, ⟨hf1.w (by decide), fun s hs10 => ?_⟩, start _ _ ?_⟩
        · rw [e44, hE s hs10, show 201 = k + (f + 1) by omega, fE_stop hs]
        · refine mj_run 1 rfl trivial ?_
          refine mj_cal rfl rfl (T_isSiding _ _) ?_
          rw [if_neg (by decide)]
          refine mj_brf rfl rfl (by decide) ?_
          exact mj_end rfl rfl trivial
      | some s =>
        rw [hs] at start
        have hs10 := sd_ok (q := none) hX.1.1 hn1 hTK k hs
        have pre : ∀ (v : Option Value) (h' : mjH), mj_Rd (mj_call mj_P (d + 3)) kc_T_findEmptyAhead 0 (51, [some (.ref 1), some (.ref 43), some (.int (nI k)), some (.int (nI s))], [.int (Int32.ofInt (-1)), .int (fE Y T s k)], HP L dy I1 (some ya) y1 n1 w1 c y2 R J) v h' → mj_Rd (mj_call mj_P (d + 3)) kc_T_findEmptyAhead 0 (36, [some (.ref 1), some (.ref 43), some (.int (nI k)), some (.int (nI s))], [], HP L dy I1 (some ya) y1 n1 w1 c y2 R J) v h' := by
          intro v h' hx
          refine mj_run 1 rfl trivial ?_
          refine mj_cal rfl rfl (T_isSiding _ _) ?_
          rw [if_pos (by rw [nI_toInt (by omega)]; omega)]
          refine mj_brt rfl rfl (by decide) ?_
          refine mj_run 5 rfl (nI_vi hs10 (by decide)) ?_
          rw [nI_nc (by omega), e44, hE s hs10]
          exact hx
        by_cases g : fE Y T s k = Int32.ofInt (-1)
        · have f2 := hf1.tr (Cf.u I1 44 s (nI k))
          obtain ⟨I2, ⟨hf2, hE2⟩, hx2⟩ := ih (k + 1) (mj_ui I1 44 s (nI k)) (some (.int (nI s))) (by omega) (hX.fr (fun a h65 _ => f2 a (by simp; omega))) (fun i hi => by simp [mj_ui]; exact hT1 i hi) (fun s' hs' => by
            show _ = if fE Y T s' k = _ ∧ sd Y none T k = some s' then nI k else fE Y T s' k
            by_cases e : s' = s
            · subst e
              rw [if_pos ⟨g, hs⟩]
              simp [mj_ui, upd]
            · rw [if_neg (fun q => by rw [hs] at q; exact e (by cases q.2; rfl))]
              have := hE s' hs'
              simp [mj_ui, upd, e, e44, this])
          refine ⟨I2, ⟨(f2.tr hf2).w (by decide), hE2⟩, start _ _ (pre _ _ ?_)⟩
          refine mj_brf rfl rfl (fun q => q g) ?_
          refine mj_run 7 rfl ⟨nI_vi hs10 (by decide), by decide⟩ ?_
          rw [nI_nc (by omega), nI_add]
          exact hx2
        · obtain ⟨I2, ⟨hf2, hE2⟩, hx2⟩ := ih (k + 1) I1 (some (.int (nI s))) (by omega) hY1 hT1 (fun s' hs' => by
            show _ = if fE Y T s' k = _ ∧ sd Y none T k = some s' then nI k else fE Y T s' k
            rw [if_neg (fun q => by rw [hs] at q; cases q.2; exact g q.1), e44]
            exact hE s' hs')
          refine ⟨I2, ⟨(hf1.tr hf2).w (by decide), hE2⟩, start _ _ (pre _ _ ?_)⟩
          refine mj_brt rfl rfl g ?_
          refine mj_run 2 rfl trivial ?_
          rw [nI_add]
          exact hx2
  have fs := (spI_f I).tr (Cf.row (spI I) 44 (fun i => if i < 10 then Int32.ofInt (-1) else spI I 44 i))
  obtain ⟨I', ⟨hf, hE⟩, hx⟩ := key 201 0 (mj_row (spI I) 44 (fun i => if i < 10 then Int32.ofInt (-1) else spI I 44 i)) none rfl (hY.fr (fun a h65 _ => fs a (by simp; omega))) (fun i hi => by
    have := spI_T h3 hn10 i hi
    simp [mj_row, this, tk]) (fun s hs => by simp [mj_row, hs, fE])
  refine ⟨I', ?_, (fs.tr hf).w (by decide), fun s hs => by rw [goal s]; exact hE s hs⟩
  refine mj_ci rfl (Nat.le_of_ble_eq_true rfl) ?_
  refine mj_run 1 rfl trivial ?_
  refine mj_cal rfl rfl T_spare ?_
  refine mj_run 4 rfl trivial ?_
  refine mj_cal rfl rfl (c_fill (N := 10) rfl (by decide) (by decide)) ?_
  refine mj_run 2 rfl trivial ?_
  exact hx
theorem CO_empty (ab : AB pn pg n Y T t tr kp wn wt yr dn) (h : CI (FM L dy) I (FR y y1 n1 w1 c y2 R) y pn pg n Y T t tr kp wn wt yr dn) (x : Int32) : ∃ I', mj_call mj_P (d + 5) kn_T_empty [.ref 1, .int x] (HP L dy I y y1 n1 w1 c y2 R J) (some (.int (if 0 ≤ x.toInt ∧ x.toInt < 10 then (if n = 0 then Int32.ofInt (-103) else ef Y T x.toNatClampNeg 201 0) else Int32.ofInt (-101)))) (HP L dy I' y y1 n1 w1 c y2 R J) ∧ CI (FM L dy) I' (FR y y1 n1 w1 c y2 R) y pn pg n Y T t tr kp wn wt yr dn ∧ KM I I' := by
  have h0 := h
  obtain ⟨h1, h2, h3, h4, h5, h6, h7⟩ := h
  by_cases g : 0 ≤ x.toInt ∧ x.toInt < 10
  · rw [if_pos g]
    by_cases hn : n = 0
    · rw [if_pos hn]
      obtain rfl := h2.nul hn
      refine ⟨I, ?_, h0, KM.rf I⟩
      refine mj_ci rfl (Nat.le_of_ble_eq_true rfl) ?_
      refine mj_run 1 rfl trivial ?_
      refine mj_cal rfl rfl (T_isSiding _ x) ?_
      rw [if_pos g]
      refine mj_brt rfl rfl (by decide) ?_
      refine mj_run 4 rfl trivial ?_
      exact mj_end rfl rfl trivial
    · rw [if_neg hn]
      obtain ⟨ya, A, B, C, ol, od, rfl, hY⟩ := h2.non hn
      obtain ⟨s, hs, rfl⟩ := i_nI (N := 10) g
      rw [nI_nc (show s < 2147483648 by omega)]
      obtain ⟨I1, hc1, hf1, hE1⟩ := T_findEmpty (d := d) (J := J) hY h3 ab.2.2.1
      refine ⟨I1, ?_, h0.fr hf1 (by decide), hf1.km (by decide)⟩
      refine mj_ci rfl (Nat.le_of_ble_eq_true rfl) ?_
      refine mj_run 1 rfl trivial ?_
      refine mj_cal rfl rfl (T_isSiding _ _) ?_
      rw [if_pos g]
      refine mj_brt rfl rfl (by decide) ?_
      refine mj_run 4 rfl trivial ?_
      refine mj_cal rfl rfl hc1 ?_
      refine mj_run 4 rfl (nI_vi hs (by decide)) ?_
      rw [nI_nc (by omega), hE1 s hs]
      exact mj_end rfl rfl trivial
  · rw [if_neg g]
    refine ⟨I, ?_, h0, KM.rf I⟩
    refine mj_ci rfl (Nat.le_of_ble_eq_true rfl) ?_
    refine mj_run 1 rfl trivial ?_
    refine mj_cal rfl rfl (T_isSiding _ x) ?_
    rw [if_neg g]
    refine mj_brf rfl rfl (by decide) ?_
    refine mj_run 1 rfl trivial ?_
    exact mj_end rfl rfl trivial
theorem T_isExplained {q : Option Nat} {x : Int32} (hq : sq q x) (hwb : wn ≤ 8 ∧ ∀ i, i < wn → wt i < 10) (hY : CY (FM L dy) I (FR (some ya) y1 n1 w1 c y2 R) ya A B C n ol od Y) (h3 : RI I 5 n T) (hTK : TOK n Y T) (h6 : Cwt I wn wt) : ∃ I', mj_call mj_P (d + 4) kn_T_isExplainedBy [.ref 1, .int x] (HP L dy I (some ya) y1 n1 w1 c y2 R J) (some (.int (nI (if itF Y q T wt wn 0 then 1 else 0)))) (HP L dy I' (some ya) y1 n1 w1 c y2 R J) ∧ Cf [43, 11, 10] I I' := by
  have hn10 := hY.1.1.1
  have hn1 := hY.1.2.1
  have key : ∀ (f k : Nat) (X : mjI), k + f = wn → CY (FM L dy) X (FR (some ya) y1 n1 w1 c y2 R) ya A B C n ol od Y → Cwt X wn wt → RI X 43 n (tk Y q T k) → ∃ I', Cf [43, 11, 10] X I' ∧ mj_Rd (mj_call mj_P (d + 3)) kc_T_isExplainedBy 2 (7, [some (.ref 1), some (.int x), some (.ref 43), some (.int (nI k))], [], HP L dy X (some ya) y1 n1 w1 c y2 R J) (some (.int (nI (if itF Y q T wt f k then 1 else 0)))) (HP L dy I' (some ya) y1 n1 w1 c y2 R J) := by
    intro f
    induction f with
    | zero =>
      intro k X hk hX hW hT
      refine ⟨X, (Cf.rf X).w (by simp), ?_⟩
      refine mj_run 3 rfl trivial ?_
      rw [hW.1]
      refine mj_brt rfl rfl (by rw [nI_leI (by omega) (by omega)]; omega) ?_
      refine mj_run 1 rfl trivial ?_
      exact mj_end rfl rfl (Or.inr rfl)
    | succ f ih =>
      intro k X hk hX hW hT
      have hTKk := tk_ok (q := q) hX.1.1 hn1 hTK k
      obtain ⟨I1, hc1, hf1, hT1, -, -⟩ := R_send (d := d) (J := J) (sA := 43) hX rfl (by decide) (by decide) (by decide) (by decide) hT hTKk hq
      have hW1 := hW.fr hf1 (by decide)
      have w1k := hwb.2 k (by omega)
      have hgv := gv_eq (fun z hz => sd_ok (q := q) hX.1.1 hn1 hTK k hz) w1k
      have start : ∀ (v : Option Value) (h' : mjH), mj_Rd (mj_call mj_P (d + 3)) kc_T_isExplainedBy 2 (34, [some (.ref 1), some (.int x), some (.ref 43), some (.int (nI k))], [.int (nI (wt k)), .int (gv (sd Y q T k))], HP L dy I1 (some ya) y1 n1 w1 c y2 R J) v h' → mj_Rd (mj_call mj_P (d + 3)) kc_T_isExplainedBy 2 (7, [some (.ref 1), some (.int x), some (.ref 43), some (.int (nI k))], [], HP L dy X (some ya) y1 n1 w1 c y2 R J) v h' := by
        intro v h' hx
        refine mj_run 3 rfl trivial ?_
        rw [hW.1]
        refine mj_brf rfl rfl (by rw [nI_leI (by omega) (by omega)]; omega) ?_
        refine mj_run 6 rfl trivial ?_
        refine mj_cal rfl rfl hc1 ?_
        refine mj_run 4 rfl (nI_vi (by omega) (by decide)) ?_
        rw [nI_nc (by omega), hW1.2 k (by omega)]
        exact hx
      by_cases g : sd Y q T k = some (wt k)
      · obtain ⟨I2, hf2, hx2⟩ := ih (k + 1) I1 (by omega) (hX.fr (fun a h65 _ => hf1 a (by simp; omega))) hW1 hT1
        have e : itF Y q T wt (f + 1) k = itF Y q T wt f (k + 1) := by simp [itF, g]
        rw [e]
        refine ⟨I2, (hf1.tr hf2).w (by decide), start _ _ ?_⟩
        refine mj_brt rfl rfl (hgv.mpr g) ?_
        refine mj_run 2 rfl trivial ?_
        rw [nI_add]
        exact hx2
      · have e : itF Y q T wt (f + 1) k = false := by simp [itF, g]
        rw [e]
        refine ⟨I1, hf1, start _ _ ?_⟩
        refine mj_brf rfl rfl (fun q => g (hgv.mp q)) ?_
        refine mj_run 1 rfl trivial ?_
        exact mj_end rfl rfl (Or.inl rfl)
  have fs := spI_f I
  obtain ⟨I', hf, hx⟩ := key wn 0 (spI I) (by omega) (hY.fr (fun a h65 _ => fs a (by simp; omega))) (h6.fr fs (by decide)) (spI_T h3 hn10)
  refine ⟨I', ?_, (fs.tr hf).w (by decide)⟩
  refine mj_ci rfl (Nat.le_of_ble_eq_true rfl) ?_
  refine mj_run 1 rfl trivial ?_
  refine mj_cal rfl rfl T_spare ?_
  refine mj_run 3 rfl trivial ?_
  exact hx
theorem i_or0 (x : Int32) : x ||| nI 0 = x := Int32.or_zero
theorem CO_which (ab : AB pn pg n Y T t tr kp wn wt yr dn) (h : CI (FM L dy) I (FR y y1 n1 w1 c y2 R) y pn pg n Y T t tr kp wn wt yr dn) : ∃ I', mj_call mj_P (d + 5) kn_T_which [.ref 1] (HP L dy I y y1 n1 w1 c y2 R J) (some (.int (if n = 0 ∨ wn = 0 then Int32.ofInt (-103) else whA n Y T wt wn))) (HP L dy I' y y1 n1 w1 c y2 R J) ∧ CI (FM L dy) I' (FR y y1 n1 w1 c y2 R) y pn pg n Y T t tr kp wn wt yr dn ∧ KM I I' := by
  have h0 := h
  obtain ⟨h1, h2, h3, h4, h5, h6, h7⟩ := h
  have hw8 := ab.2.2.2.2.2.1
  by_cases hn : n = 0
  · rw [if_pos (Or.inl hn)]
    obtain rfl := h2.nul hn
    refine ⟨I, ?_, h0, KM.rf I⟩
    refine mj_ci rfl (Nat.le_of_ble_eq_true rfl) ?_
    refine mj_run 4 rfl trivial ?_
    exact mj_end rfl rfl trivial
  · obtain ⟨ya, A, B, C, ol, od, rfl, hY⟩ := h2.non hn
    have hn10 := hY.1.1.1
    by_cases hw : wn = 0
    · rw [if_pos (Or.inr hw)]
      refine ⟨I, ?_, h0, KM.rf I⟩
      refine mj_ci rfl (Nat.le_of_ble_eq_true rfl) ?_
      refine mj_run 5 rfl trivial ?_
      rw [h6.1, hw]
      refine mj_brf rfl rfl (by decide) ?_
      refine mj_run 1 rfl trivial ?_
      exact mj_end rfl rfl trivial
    · rw [if_neg (by omega)]
      have key := dn_ind n (fun p => ∀ (X : mjI), Cf [43, 11, 10] I X → ∃ I', Cf [43, 11, 10] I I' ∧ mj_Rd (mj_call mj_P (d + 4)) kc_T_which 1 (21, [some (.ref 1), some (.int (whF Y T wt wn p)), some (.int (nI p))], [], HP L dy X (some ya) y1 n1 w1 c y2 R J) (some (.int (whA n Y T wt wn))) (HP L dy I' (some ya) y1 n1 w1 c y2 R J)) ?_ ?_ 0 (by omega)
      · obtain ⟨I', hf, hx⟩ := key I ((Cf.rf I).w (by simp))
        refine ⟨I', ?_, h0.fr hf (by decide), hf.km (by decide)⟩
        refine mj_ci rfl (Nat.le_of_ble_eq_true rfl) ?_
        refine mj_run 5 rfl trivial ?_
        rw [h6.1]
        refine mj_brt rfl rfl (by rw [nI_z (by omega)]; exact hw) ?_
        refine mj_run 4 rfl trivial ?_
        exact hx
      · intro X hf
        have hYX := hY.fr (I' := X) (fun a h65 _ => hf a (by simp; omega))
        obtain ⟨I1, hc1, hf1⟩ := T_isExplained (d := d) (J := J) sq_none hw8 hYX (h3.cf hf (by decide)) ab.2.2.1 (h6.fr hf (by decide))
        refine ⟨I1, (hf.tr hf1).w (by decide), ?_⟩
        refine mj_run 3 rfl trivial ?_
        refine sx_gi rfl hYX.2.2.1.1 rfl ?_
        rw [hYX.2.2.2.2.2.1]
        refine mj_brt rfl rfl (by rw [nI_leI (by omega) (by omega)]; omega) ?_
        refine mj_run 2 rfl trivial ?_
        refine mj_cal rfl rfl hc1 ?_
        unfold whA
        cases hi : itF Y none T wt wn 0 with
        | false =>
          refine mj_brt rfl rfl (by decide) ?_
          refine mj_run 1 rfl trivial ?_
          rw [if_neg (by decide), i_or0]
          exact mj_end rfl rfl trivial
        | true =>
          refine mj_brf rfl rfl (by decide) ?_
          refine mj_run 4 rfl trivial ?_
          exact mj_end rfl rfl trivial
      · intro p hp ih X hf
        have hYX := hY.fr (I' := X) (fun a h65 _ => hf a (by simp; omega))
        obtain ⟨I1, hc1, hf1⟩ := T_isExplained (d := d) (J := J) (sq_some (k := p) (by omega)) hw8 hYX (h3.cf hf (by decide)) ab.2.2.1 (h6.fr hf (by decide))
        obtain ⟨I2, hf2, hx2⟩ := ih I1 ((hf.tr hf1).w (by decide))
        refine ⟨I2, hf2, ?_⟩
        refine mj_run 3 rfl trivial ?_
        refine sx_gi rfl hYX.2.2.1.1 rfl ?_
        rw [hYX.2.2.2.2.2.1]
        refine mj_brf rfl rfl (by rw [nI_leI (by omega) (by omega)]; omega) ?_
        refine mj_run 2 rfl trivial ?_
        refine mj_cal rfl rfl hc1 ?_
        have e : whF Y T wt wn (p + 1) = whF Y T wt wn p ||| (if itF Y (some p) T wt wn 0 then nI 1 <<< (nI p &&& 31) else nI 0) := rfl
        rw [e] at hx2
        cases hi : itF Y (some p) T wt wn 0 with
        | false =>
          rw [hi, if_neg (by decide), i_or0] at hx2
          refine mj_brt rfl rfl (by decide) ?_
          refine mj_run 2 rfl trivial ?_
          rw [nI_add]
          exact hx2
        | true =>
          rw [hi, if_pos rfl] at hx2
          refine mj_brf rfl rfl (by decide) ?_
          refine mj_run 8 rfl trivial ?_
          rw [nI_add]
          exact hx2
end CC
