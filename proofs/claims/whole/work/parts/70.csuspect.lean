/-! suspects -/
theorem ulF_sym {Y : Yd} {T : Nat → Nat} {p q : Nat} : ∀ f k, ulF Y T p q f k = ulF Y T q p f k
  | 0, _ => rfl
  | f + 1, k => by
    unfold ulF
    by_cases g : sd Y (gq p) T k = sd Y (gq q) T k
    · rw [if_pos g, if_pos g.symm]
      exact ulF_sym f (k + 1)
    · rw [if_neg g, if_neg (fun h => g h.symm)]
theorem ulF_two {Y : Yd} {T : Nat → Nat} {p q : Nat} : ∀ f k, k + f ≤ 40 → ulF Y T p q f k ≤ 40 ∨ ulF Y T p q f k = 1000000
  | 0, _, _ => Or.inr rfl
  | f + 1, k, h => by
    unfold ulF
    split
    · exact ulF_two f (k + 1) (by omega)
    · exact Or.inl (by omega)
theorem ul_sym {Y : Yd} {T : Nat → Nat} (p q : Nat) : ul Y T p q = ul Y T q p := ulF_sym 40 0
theorem ul_two {Y : Yd} {T : Nat → Nat} (p q : Nat) : ul Y T p q ≤ 40 ∨ ul Y T p q = 1000000 := ulF_two 40 0 (by omega)
theorem mq_iff {Y : Yd} {n : Nat} {T : Nat → Nat} {p m B : Nat} : ∀ q, mq Y n T p q m ≤ B ↔ (m ≤ B ∧ ∀ q', q' < q → (if dtb Y n q' then ul Y T p q' else 1) ≤ B)
  | 0 => by simp [mq]
  | q + 1 => by
    have ih := mq_iff (Y := Y) (n := n) (T := T) (p := p) (m := m) (B := B) q
    unfold mq
    rw [Nat.max_le, ih]
    constructor
    · rintro ⟨⟨a, b⟩, e⟩
      refine ⟨a, fun q' h => ?_⟩
      by_cases g : q' = q
      · subst g; exact e
      · exact b q' (by omega)
    · rintro ⟨a, b⟩
      exact ⟨⟨a, fun q' h => b q' (by omega)⟩, b q (by omega)⟩
theorem mq_two {Y : Yd} {n : Nat} {T : Nat → Nat} {p m : Nat} (h : m ≤ 40 ∨ m = 1000000) : ∀ q, mq Y n T p q m ≤ 40 ∨ mq Y n T p q m = 1000000
  | 0 => h
  | q + 1 => by
    have ih := mq_two (Y := Y) (n := n) (T := T) (p := p) h q
    have u := ul_two (Y := Y) (T := T) p q
    unfold mq
    split <;> omega
theorem mo_two {Y : Yd} {n : Nat} {T : Nat → Nat} {ap : Bool} : ∀ p, mo Y n T ap p ≤ 40 ∨ mo Y n T ap p = 1000000
  | 0 => Or.inl (by show 1 ≤ 40; omega)
  | p + 1 => by
    have ih := mo_two (Y := Y) (n := n) (T := T) (ap := ap) p
    have u := ul_two (Y := Y) (T := T) p 10
    unfold mo
    split
    · split
      · exact mq_two (by omega) p
      · omega
    · exact ih
/-- what n trucks would tell -/
def nts (Y : Yd) (n : Nat) (T : Nat → Nat) (ap : Bool) (B k : Nat) : Prop := 1 ≤ B ∧ ∀ p, p < k → dtb Y n p = true → ul Y T p 10 ≤ B ∧ (ap = true → ∀ q, q < p → dtb Y n q = true → ul Y T p q ≤ B)
theorem mo_iff {Y : Yd} {n : Nat} {T : Nat → Nat} {ap : Bool} {B : Nat} : ∀ k, mo Y n T ap k ≤ B ↔ nts Y n T ap B k
  | 0 => by
    show 1 ≤ B ↔ _
    exact ⟨fun h => ⟨h, fun p hp => by omega⟩, fun h => h.1⟩
  | k + 1 => by
    have ih := mo_iff (Y := Y) (n := n) (T := T) (ap := ap) (B := B) k
    unfold mo
    cases hd : dtb Y n k with
    | false =>
      rw [if_neg (by decide), ih]
      constructor
      · rintro ⟨a, b⟩
        refine ⟨a, fun p hp hdp => ?_⟩
        by_cases e : p = k
        · subst e; rw [hd] at hdp; cases hdp
        · exact b p (by omega) hdp
      · rintro ⟨a, b⟩
        exact ⟨a, fun p hp => b p (by omega)⟩
    | true =>
      rw [if_pos rfl]
      have fw : nts Y n T ap B (k + 1) ↔ (nts Y n T ap B k ∧ ul Y T k 10 ≤ B ∧ (ap = true → ∀ q, q < k → dtb Y n q = true → ul Y T k q ≤ B)) := by
        constructor
        · rintro ⟨a, b⟩
          exact ⟨⟨a, fun p hp => b p (by omega)⟩, b k (by omega) hd⟩
        · rintro ⟨⟨a, b⟩, e⟩
          refine ⟨a, fun p hp hdp => ?_⟩
          by_cases g : p = k
          · subst g; exact e
          · exact b p (by omega) hdp
      rw [fw]
      cases ap with
      | false =>
        rw [if_neg (by decide), Nat.max_le, ih]
        simp
      | true =>
        rw [if_pos rfl, mq_iff, Nat.max_le, ih]
        constructor
        · rintro ⟨⟨a, b⟩, e⟩
          refine ⟨a, b, fun _ q hq hdq => ?_⟩
          have := e q hq
          rw [if_pos hdq] at this
          exact this
        · rintro ⟨a, b, e⟩
          refine ⟨⟨a, b⟩, fun q hq => ?_⟩
          split
          · exact e rfl q hq ‹_›
          · exact a.1
theorem dtb_iff {Y : Yd} {n p : Nat} (h : YOK n Y) (hn : 1 ≤ n) : dtb Y n p = true ↔ rc Y n p ∧ 1 < per Y p := by
  have e := rch_come h hn p
  have e0 : (1 : Nat).testBit p = true ↔ p = 0 := by
    have : (1 : Nat) = 2 ^ 0 := rfl
    rw [this, Nat.testBit_two_pow]
    rw [decide_eq_true_iff]
    omega
  have e1 : ((rch Y n 0 ||| 1).testBit p = true) ↔ ((rch Y n 0).testBit p = true ∨ p = 0) := by
    rw [Nat.testBit_or, Bool.or_eq_true, e0]
  rw [← e, e1]
  unfold dtb per
  by_cases h1 : Y.1 p = 1
  · simp [h1]
  · simp [h1]
    intro _
    rw [or_comm]
/-- the answer out of any number that is told by the same bounds -/
theorem noA_of {Y : Yd} {n : Nat} {T : Nat → Nat} {ap : Bool} {m : Nat} (hm : ∀ B, B ≤ 40 → (m ≤ B ↔ nts Y n T ap B n)) : (if m ≤ 40 then nI m else Int32.ofInt (-1)) = noA Y n T ap := by
  unfold noA
  have h2 := mo_two (Y := Y) (n := n) (T := T) (ap := ap) n
  by_cases g : mo Y n T ap n = 1000000
  · rw [if_pos g, if_neg (fun q => by
      have := (mo_iff n).mpr ((hm 40 (by omega)).mp q)
      omega)]
  · rw [if_neg g]
    have a : mo Y n T ap n ≤ 40 := by omega
    have b := (hm _ a).mpr ((mo_iff n).mp (Nat.le_refl _))
    have c := (mo_iff n).mpr ((hm m (by omega)).mp (Nat.le_refl _))
    rw [if_pos (by omega), show m = mo Y n T ap n by omega]
theorem su_row {L : Nat} {dy : mjM} {i : Nat} (h : i ≤ 10) : mj_mt (29 + i) (FM L dy) = some (0, 40) := by
  match i, h with
  | 0, _ => rfl
  | 1, _ => rfl
  | 2, _ => rfl
  | 3, _ => rfl
  | 4, _ => rfl
  | 5, _ => rfl
  | 6, _ => rfl
  | 7, _ => rfl
  | 8, _ => rfl
  | 9, _ => rfl
  | 10, _ => rfl
  | j + 11, hj => omega
theorem su_ref {y y1 n1 w1 c y2 : Option Nat} {R : mjR} {i : Nat} (h : i ≤ 10) : FR y y1 n1 w1 c y2 R 28 i = some (29 + i) := by
  match i, h with
  | 0, _ => rfl
  | 1, _ => rfl
  | 2, _ => rfl
  | 3, _ => rfl
  | 4, _ => rfl
  | 5, _ => rfl
  | 6, _ => rfl
  | 7, _ => rfl
  | 8, _ => rfl
  | 9, _ => rfl
  | 10, _ => rfl
  | j + 11, hj => omega
/-- row i of the stops is filled -/
def RS (I : mjI) (Y : Yd) (T : Nat → Nat) (i : Nat) : Prop := ∀ j, j < 40 → I (29 + i) j = gv (sd Y (gq i) T j)
section CC
variable {d L : Nat} {dy : mjM} {I : mjI} {y y1 n1 w1 c y2 : Option Nat} {R : mjR} {J : mjJ} {n : Nat} {Y : Yd} {T : Nat → Nat} {ya ol : Nat} {A B C od : Nat → Nat}
theorem S_fill {i : Nat} {x : Int32} (hi : i ≤ 10) (hq : sq (gq i) x) (hY : CY (FM L dy) I (FR y y1 n1 w1 c y2 R) ya A B C n ol od Y) (h3 : RI I 5 n T) (hTK : TOK n Y T) : ∃ I', mj_call mj_P (d + 4) kn_Su_fillStops [.ref 27, .ref ya, .ref 5, .int x, .ref (29 + i)] (HP L dy I y y1 n1 w1 c y2 R J) none (HP L dy I' y y1 n1 w1 c y2 R J) ∧ Cf [40, 29 + i, 11, 10] I I' ∧ RS I' Y T i := by
  have hn10 := hY.1.1.1
  have hn1 := hY.1.2.1
  have key : ∀ (f k : Nat) (X : mjI), k + f = 40 → CY (FM L dy) X (FR y y1 n1 w1 c y2 R) ya A B C n ol od Y → RI X 40 n (tk Y (gq i) T k) → (∀ j, j < 40 → X (29 + i) j = if j < k then gv (sd Y (gq i) T j) else Int32.ofInt (-1)) → ∃ I', (Cf [40, 29 + i, 11, 10] X I' ∧ RS I' Y T i) ∧ mj_Rd (mj_call mj_P (d + 3)) kc_Su_fillStops 0 (21, [some (.ref 27), some (.ref ya), some (.ref 5), some (.int x), some (.ref (29 + i)), some (.int (nI k))], [], HP L dy X y y1 n1 w1 c y2 R J) none (HP L dy I' y y1 n1 w1 c y2 R J) := by
    intro f
    induction f with
    | zero =>
      intro k X hk hX hT hR
      refine ⟨X, ⟨(Cf.rf X).w (by simp), fun j hj => by rw [hR j hj, if_pos (by omega)]⟩, ?_⟩
      refine mj_run 2 rfl trivial ?_
      refine sx_ln rfl (su_row hi) rfl ?_
      refine mj_brt rfl rfl (by rw [nI_leI (by omega) (by omega)]; omega) ?_
      exact mj_end rfl rfl trivial
    | succ f ih =>
      intro k X hk hX hT hR
      have hTKk := tk_ok (q := gq i) hX.1.1 hn1 hTK k
      obtain ⟨I1, hc1, hf1, hT1, -, -⟩ := R_send (d := d) (J := J) (sA := 40) hX rfl (by decide) (by decide) (by decide) (by decide) hT hTKk hq
      have er : I1 (29 + i) = X (29 + i) := hf1 (29 + i) (by simp; omega)
      rw [show (gt Y (gq i) (tk Y (gq i) T k)).1 = sd Y (gq i) T k from rfl] at hc1
      have f2 := hf1.tr (Cf.u I1 (29 + i) k (gv (sd Y (gq i) T k)))
      have hR2 : ∀ j, j < 40 → mj_ui I1 (29 + i) k (gv (sd Y (gq i) T k)) (29 + i) j = if j < k + 1 then gv (sd Y (gq i) T j) else Int32.ofInt (-1) := by
        intro j hj
        by_cases e : j = k
        · subst e; simp [mj_ui, upd]
        · have := hR j hj
          by_cases e2 : j < k
          · rw [if_pos e2] at this
            simp [mj_ui, upd, e, er, this, show j < k + 1 by omega]
          · rw [if_neg e2] at this
            simp [mj_ui, upd, e, er, this, show ¬ j < k + 1 by omega]
      have start : ∀ (v : Option Value) (h' : mjH), mj_Rd (mj_call mj_P (d + 3)) kc_Su_fillStops 0 (53, [some (.ref 27), some (.ref ya), some (.ref 5), some (.int x), some (.ref (29 + i)), some (.int (nI k))], [.int (Int32.ofInt (-1)), .int (gv (sd Y (gq i) T k))], HP L dy (mj_ui I1 (29 + i) k (gv (sd Y (gq i) T k))) y y1 n1 w1 c y2 R J) v h' → mj_Rd (mj_call mj_P (d + 3)) kc_Su_fillStops 0 (21, [some (.ref 27), some (.ref ya), some (.ref 5), some (.int x), some (.ref (29 + i)), some (.int (nI k))], [], HP L dy X y y1 n1 w1 c y2 R J) v h' := by
        intro v h' hx
        refine mj_run 2 rfl trivial ?_
        refine sx_ln rfl (su_row hi) rfl ?_
        refine mj_brf rfl rfl (by rw [nI_leI (by omega) (by omega)]; omega) ?_
        refine mj_run 8 rfl trivial ?_
        refine mj_cal rfl rfl hc1 ?_
        refine sx_st rfl (su_row hi) (nI_vi (by omega) (by decide)) (by omega) ?_
        rw [nI_nc (by omega)]
        refine mj_run 2 rfl trivial ?_
        refine sx_ld rfl (su_row hi) (nI_vi (by omega) (by decide)) ?_
        rw [nI_nc (by omega), hR2 k (by omega), if_pos (by omega)]
        refine mj_run 1 rfl trivial ?_
        exact hx
      cases hs : sd Y (gq i) T k with
      | none =>
        rw [hs] at start hR2
        refine ⟨mj_ui I1 (29 + i) k (gv none), ⟨by rw [← hs]; exact f2.w (by simp), fun j hj => ?_⟩, start _ _ ?_⟩
        · rw [hR2 j hj]
          split
          · rfl
          · obtain ⟨g, rfl⟩ : ∃ g, j = k + g := ⟨j - k, by omega⟩
            rw [(sd_none hs g).2]
            rfl
        · refine mj_brf rfl rfl (fun q => q rfl) ?_
          exact mj_end rfl rfl trivial
      | some s =>
        have hs10 := sd_ok (q := gq i) hX.1.1 hn1 hTK k hs
        obtain ⟨I2, ⟨hf2, hR3⟩, hx2⟩ := ih (k + 1) (mj_ui I1 (29 + i) k (gv (sd Y (gq i) T k))) (by omega) (hX.fr (fun a h65 _ => f2 a (by simp; omega))) (fun j hj => by
          have : (40 : Nat) ≠ 29 + i := by omega
          simp [mj_ui, this]
          exact hT1 j hj) hR2
        refine ⟨I2, ⟨(f2.tr hf2).w (by simp), hR3⟩, start _ _ ?_⟩
        refine mj_brt rfl rfl (by rw [hs]; exact nI_m1 (by omega)) ?_
        refine mj_run 2 rfl trivial ?_
        rw [nI_add]
        exact hx2
  generalize hX : mj_row I 40 (va_cpy (I 5) (I 40) 0 0 10) = X
  have fX : Cf [40] I X := by rw [← hX]; exact Cf.row I 40 _
  have f2 := fX.tr (Cf.row X (29 + i) (fun j => if j < 40 then Int32.ofInt (-1) else X (29 + i) j))
  obtain ⟨I', ⟨hf, hR⟩, hx⟩ := key 40 0 (mj_row X (29 + i) (fun j => if j < 40 then Int32.ofInt (-1) else X (29 + i) j)) rfl (hY.fr (fun a h65 _ => f2 a (by simp; omega))) (fun j hj => by
    have e : (40 : Nat) ≠ 29 + i := by omega
    have : j < 10 := by omega
    simp [mj_row, e, ← hX, va_cpy, this, tk, h3 j hj]) (fun j hj => by simp [mj_row, hj])
  refine ⟨I', ?_, (f2.tr hf).w (by simp), hR⟩
  refine mj_ci rfl (Nat.le_of_ble_eq_true rfl) ?_
  refine mj_run 6 rfl trivial ?_
  refine sx_cp (a := 40) (b := 5) rfl rfl rfl rfl (by decide) ?_
  rw [show (nI 0).toNatClampNeg = 0 from rfl, show (nI 10).toNatClampNeg = 10 from rfl, hX]
  refine mj_run 2 rfl trivial ?_
  refine mj_cal rfl rfl (c_fill (su_row hi) (by omega) (by decide)) ?_
  refine mj_run 2 rfl trivial ?_
  exact hx
theorem S_diff {p q : Nat} (hK : YOK n Y) (hn1 : 1 ≤ n) (hTK : TOK n Y T) (hp : p ≤ 10) (hq : q ≤ 10) (rp : RS I Y T p) (rq : RS I Y T q) : mj_call mj_P (d + 1) kn_Su_firstDifference [.ref (29 + p), .ref (29 + q)] (HP L dy I y y1 n1 w1 c y2 R J) (some (.int (nI (min (ul Y T p q) 41)))) (HP L dy I y y1 n1 w1 c y2 R J) := by
  refine mj_ci rfl (Nat.le_of_ble_eq_true rfl) ?_
  refine mj_run 2 rfl trivial ?_
  have key : ∀ f k, k + f = 40 → mj_Rd (mj_call mj_P d) kc_Su_firstDifference 1 (2, [some (.ref (29 + p)), some (.ref (29 + q)), some (.int (nI k))], [], HP L dy I y y1 n1 w1 c y2 R J) (some (.int (nI (min (ulF Y T p q f k) 41)))) (HP L dy I y y1 n1 w1 c y2 R J) := by
    intro f
    induction f with
    | zero =>
      intro k hk
      refine mj_run 2 rfl trivial ?_
      refine mj_brt rfl rfl (by rw [nI_leI (by decide) (by omega)]; omega) ?_
      refine mj_run 1 rfl trivial ?_
      exact mj_end rfl rfl trivial
    | succ f ih =>
      intro k hk
      refine mj_run 2 rfl trivial ?_
      refine mj_brf rfl rfl (by rw [nI_leI (by decide) (by omega)]; omega) ?_
      refine mj_run 2 rfl trivial ?_
      refine sx_ld rfl (su_row hp) (nI_vi (by omega) (by decide)) ?_
      refine mj_run 2 rfl trivial ?_
      refine sx_ld rfl (su_row hq) (nI_vi (by omega) (by decide)) ?_
      rw [nI_nc (by omega), rp k (by omega), rq k (by omega)]
      have hinj := gv_inj (fun z hz => sd_ok (q := gq p) hK hn1 hTK k hz) (fun z hz => sd_ok (q := gq q) hK hn1 hTK k hz)
      unfold ulF
      refine mj_bra rfl rfl (fun g => ?_) (fun g => ?_)
      · rw [hinj] at g
        rw [if_pos g]
        refine mj_run 2 rfl trivial ?_
        rw [nI_add]
        exact ih (k + 1) (by omega)
      · rw [hinj] at g
        rw [if_neg g]
        refine mj_run 3 rfl trivial ?_
        rw [nI_add, show min (k + 1) 41 = k + 1 by omega]
        exact mj_end rfl rfl trivial
  exact key 40 0 rfl
/-- the suspects: cnt of them, the j-th is the ix j-th of the order -/
def SU (I : mjI) (Y : Yd) (T : Nat → Nat) (od : Nat → Nat) (k cnt : Nat) (ix : Nat → Nat) : Prop := I 27 4 = nI cnt ∧ cnt ≤ k ∧ (∀ j, j < cnt → I 41 j = nI (od (ix j)) ∧ ix j < k ∧ 1 < per Y (od (ix j)) ∧ RS I Y T (od (ix j))) ∧ (∀ j j', j < j' → j' < cnt → ix j < ix j') ∧ ∀ e, e < k → 1 < per Y (od e) → ∃ j, j < cnt ∧ ix j = e
theorem S_watch (hY : CY (FM L dy) I (FR y y1 n1 w1 c y2 R) ya A B C n ol od Y) (h3 : RI I 5 n T) (hTK : TOK n Y T) : ∃ I' cnt ix, mj_call mj_P (d + 5) kn_Su_watch [.ref 27, .ref ya, .ref 5] (HP L dy I y y1 n1 w1 c y2 R J) none (HP L dy I' y y1 n1 w1 c y2 R J) ∧ Cf [10, 11, 27, 29, 30, 31, 32, 33, 34, 35, 36, 37, 38, 39, 40, 41] I I' ∧ SU I' Y T od ol cnt ix ∧ RS I' Y T 10 := by
  have hn10 := hY.1.1.1
  have hn1 := hY.1.2.1
  obtain ⟨o1, o2, o3, o4, o5⟩ := hY.1.2.2
  have ol10 : ol ≤ 10 := by omega
  have odn : ∀ k, k < ol → od k < n := fun k hk => rc_lt hY.1.1 hn1 (o2 k hk)
  have key : ∀ (f k : Nat) (X : mjI) (cnt : Nat) (ix : Nat → Nat) (l6 : Option Value), k + f = ol → Cf [10, 11, 27, 29, 30, 31, 32, 33, 34, 35, 36, 37, 38, 39, 40, 41] I X → SU X Y T od k cnt ix → ∃ I' cnt ix, (Cf [10, 11, 27, 29, 30, 31, 32, 33, 34, 35, 36, 37, 38, 39, 40, 41] I I' ∧ SU I' Y T od ol cnt ix ∧ RS I' Y T 10) ∧ mj_Rd (mj_call mj_P (d + 4)) kc_Su_watch 0 (17, [some (.ref 27), some (.ref ya), some (.ref 5), some (.ref (A 3)), some (.int (nI ol)), some (.int (nI k)), l6], [], HP L dy X y y1 n1 w1 c y2 R J) none (HP L dy I' y y1 n1 w1 c y2 R J) := by
    intro f
    induction f with
    | zero =>
      intro k X cnt ix l6 hk hf hS
      have : k = ol := by omega
      subst this
      have hYX := hY.fr (I' := X) (fun a h65 _ => hf a (by simp; omega))
      obtain ⟨I1, hc1, hf1, hR1⟩ := S_fill (d := d) (J := J) (i := 10) (x := Int32.ofInt (-1)) (by omega) (by unfold gq; rw [if_pos rfl]; exact sq_none) hYX (h3.cf hf (by decide)) hTK
      refine ⟨I1, cnt, ix, ⟨(hf.tr hf1).w (by simp), ?_, hR1⟩, ?_⟩
      · obtain ⟨s1, s2, s3, s4, s5⟩ := hS
        refine ⟨by rw [hf1 27 (by decide)]; exact s1, s2, fun j hj => ?_, s4, s5⟩
        obtain ⟨a1, a2, a3, a4⟩ := s3 j hj
        have := odn _ a2
        exact ⟨by rw [hf1 41 (by decide)]; exact a1, a2, a3, fun e he => by rw [hf1 (29 + od (ix j)) (by simp; omega)]; exact a4 e he⟩
      · refine mj_run 2 rfl trivial ?_
        refine mj_brt rfl rfl (by rw [nI_leI (by omega) (by omega)]; omega) ?_
        refine mj_run 8 rfl (nI_vi (by decide) (by decide)) ?_
        refine mj_cal rfl rfl hc1 ?_
        exact mj_end rfl rfl trivial
    | succ f ih =>
      intro k X cnt ix l6 hk hf hS
      have hYX := hY.fr (I' := X) (fun a h65 _ => hf a (by simp; omega))
      obtain ⟨-, ⟨r0, r3, -⟩, ⟨m0, m1, m2, -⟩, -, hp5, i1, i2, i3, i4, -⟩ := id hYX
      have hkn := odn k (by omega)
      obtain ⟨b1, b2⟩ := hp5 (od k) hkn
      obtain ⟨⟨q, hm⟩, hr, hc⟩ := id b2
      have hcl : (nI (od k)).toNatClampNeg = od k := nI_nc (by omega)
      have kd4 := (hY.1.1.2 (od k) hkn).1
      have start : ∀ (v : Option Value) (h' : mjH), mj_Rd (mj_call mj_P (d + 4)) kc_Su_watch 0 (40, [some (.ref 27), some (.ref ya), some (.ref 5), some (.ref (A 3)), some (.int (nI ol)), some (.int (nI k)), some (.int (nI (od k)))], [.int (nI (if 1 < per Y (od k) then 1 else 0))], HP L dy X y y1 n1 w1 c y2 R J) v h' → mj_Rd (mj_call mj_P (d + 4)) kc_Su_watch 0 (17, [some (.ref 27), some (.ref ya), some (.ref 5), some (.ref (A 3)), some (.int (nI ol)), some (.int (nI k)), l6], [], HP L dy X y y1 n1 w1 c y2 R J) v h' := by
        intro v h' hx
        refine mj_run 2 rfl trivial ?_
        refine mj_brf rfl rfl (by rw [nI_leI (by omega) (by omega)]; omega) ?_
        refine mj_run 2 rfl trivial ?_
        refine sx_ld rfl m2 (nI_vi (by omega) (by omega)) ?_
        rw [nI_nc (by omega), i4 k (by omega)]
        refine mj_run 2 rfl trivial ?_
        refine sx_gr rfl m0 rfl r0 ?_
        refine mj_run 1 rfl trivial ?_
        refine sx_al rfl m1 rfl (nI_vi hkn (by omega)) (by rw [hcl]; exact b1) ?_
        refine sx_v0 rfl hm (ptg_sel kd4) rfl (P_canTurn hY.1.1 hkn b2) ?_
        exact hx
      obtain ⟨s1, s2, s3, s4, s5⟩ := hS
      by_cases g : 1 < per Y (od k)
      · rw [if_pos g] at start
        have f2 := (hf.tr (Cf.u X 41 cnt (nI (od k)))).tr (Cf.u _ 27 4 (nI (cnt + 1)))
        generalize hZ : mj_ui (mj_ui X 41 cnt (nI (od k))) 27 4 (nI (cnt + 1)) = Z at f2
        have f2' := f2.w (as' := [10, 11, 27, 29, 30, 31, 32, 33, 34, 35, 36, 37, 38, 39, 40, 41]) (by simp)
        have hYZ := hY.fr (I' := Z) (fun a h65 _ => f2' a (by simp; omega))
        obtain ⟨I1, hc1, hf1, hR1⟩ := S_fill (d := d) (J := J) (i := od k) (x := nI (od k)) (by omega) (sq_gq (by omega)) hYZ (h3.cf f2' (by decide)) hTK
        have f3 : Cf [10, 11, 27, 29, 30, 31, 32, 33, 34, 35, 36, 37, 38, 39, 40, 41] I I1 := (f2'.tr hf1).w (by simp; omega)
        obtain ⟨I2, cnt2, ix2, hA2, hx2⟩ := ih (k + 1) I1 (cnt + 1) (fun j => if j = cnt then k else ix j) (some (.int (nI (od k)))) (by omega) f3 (by
          refine ⟨by rw [hf1 27 (by simp; omega), ← hZ]; simp [mj_ui, upd], by omega, fun j hj => ?_, fun j j' hjj hj' => ?_, fun e he hpe => ?_⟩
          · by_cases e : j = cnt
            · subst e
              simp only [if_true]
              exact ⟨by rw [hf1 41 (by simp; omega), ← hZ]; simp [mj_ui, upd], by omega, g, hR1⟩
            · obtain ⟨a1, a2, a3, a4⟩ := s3 j (by omega)
              dsimp only
              rw [if_neg e]
              have hne : od (ix j) ≠ od k := fun q => by have := o4 _ _ (by omega) (by omega) q; omega
              have := odn (ix j) (by omega)
              refine ⟨by rw [hf1 41 (by simp; omega), ← hZ]; simp [mj_ui, upd, e, a1], by omega, a3, fun e he => ?_⟩
              rw [hf1 (29 + od (ix j)) (by simp; omega), ← hZ]
              have q1 : 29 + od (ix j) ≠ 27 := by omega
              have q2 : 29 + od (ix j) ≠ 41 := by omega
              simp [mj_ui, q1, q2]
              exact a4 e he
          · by_cases e : j' = cnt
            · subst e
              dsimp only
              rw [if_neg (by omega), if_pos rfl]
              exact (s3 j (by omega)).2.1
            · dsimp only
              rw [if_neg (by omega), if_neg e]
              exact s4 j j' hjj (by omega)
          · by_cases e2 : e = k
            · subst e2
              exact ⟨cnt, by omega, by simp⟩
            · obtain ⟨j, hj, hje⟩ := s5 e (by omega) hpe
              exact ⟨j, by omega, by dsimp only; rw [if_neg (by omega)]; exact hje⟩)
        refine ⟨I2, cnt2, ix2, hA2, start _ _ ?_⟩
        refine mj_brf rfl rfl (by decide) ?_
        have e4 : mj_ui X 41 cnt (nI (od k)) 27 4 = nI cnt := by simp [mj_ui, s1]
        refine mj_run 12 rfl ⟨by rw [s1]; exact nI_vi (by omega) (by decide), by decide⟩ ?_
        rw [s1, nI_nc (by omega), e4, nI_add, hZ]
        refine mj_run 7 rfl trivial ?_
        refine sx_al (a := 28) rfl rfl rfl (nI_vi (show od k < 11 by omega) (by decide)) (by rw [hcl]; exact su_ref (by omega)) ?_
        refine mj_cal rfl rfl hc1 ?_
        refine mj_run 2 rfl trivial ?_
        rw [nI_add]
        exact hx2
      · rw [if_neg g] at start
        obtain ⟨I2, cnt2, ix2, hA2, hx2⟩ := ih (k + 1) X cnt ix (some (.int (nI (od k)))) (by omega) hf (by
          refine ⟨s1, by omega, fun j hj => ?_, s4, fun e he hpe => ?_⟩
          · obtain ⟨a1, a2, a3, a4⟩ := s3 j hj
            exact ⟨a1, by omega, a3, a4⟩
          · by_cases e2 : e = k
            · subst e2; exact absurd hpe g
            · exact s5 e (by omega) hpe)
        refine ⟨I2, cnt2, ix2, hA2, start _ _ ?_⟩
        refine mj_brt rfl rfl (by decide) ?_
        refine mj_run 2 rfl trivial ?_
        rw [nI_add]
        exact hx2
  have f0 : Cf [10, 11, 27, 29, 30, 31, 32, 33, 34, 35, 36, 37, 38, 39, 40, 41] I (mj_ui I 27 4 (nI 0)) := (Cf.u I 27 4 (nI 0)).w (by decide)
  obtain ⟨I', cnt, ix, ⟨hf, hS, hR⟩, hx⟩ := key ol 0 (mj_ui I 27 4 (nI 0)) 0 (fun _ => 0) none (by omega) f0 ⟨by simp [mj_ui, upd], by omega, fun j hj => by omega, fun j j' _ h => by omega, fun e he => by omega⟩
  refine ⟨I', cnt, ix, ?_, hf, hS, hR⟩
  refine mj_ci rfl (Nat.le_of_ble_eq_true rfl) ?_
  refine mj_run 4 rfl trivial ?_
  refine sx_gr rfl hY.2.2.1.1 rfl hY.2.1.2.1 ?_
  refine mj_run 2 rfl trivial ?_
  refine sx_ln rfl hY.2.2.1.2.2.1 rfl ?_
  refine mj_run 3 rfl trivial ?_
  exact hx
end CC
