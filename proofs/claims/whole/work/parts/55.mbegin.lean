/-! codes of stands -/
def pd (Y : Yd) : Nat → Nat
  | 0 => 1
  | k + 1 => pd Y k * sm Y k
def lf (Y : Yd) (n cd : Nat) : Nat → Nat
  | 0 => cd
  | j + 1 => lf Y n cd j / sm Y (n - 1 - j)
def ds (Y : Yd) (n cd p : Nat) : Nat := lf Y n cd (n - 1 - p) % sm Y p
def en (Y : Yd) (U : Nat → Nat) : Nat → Nat
  | 0 => 0
  | k + 1 => en Y U k * sm Y k + U k
theorem pd_le {n : Nat} {Y : Yd} (h : YOK n Y) : ∀ k, k ≤ n → pd Y k ≤ 6 ^ k ∧ 1 ≤ pd Y k
  | 0, _ => ⟨Nat.le_refl _, Nat.le_refl _⟩
  | k + 1, hk => by
    have ih := pd_le h k (by omega)
    have hs := sm_in h (show k < n by omega)
    unfold pd
    rw [Nat.pow_succ]
    refine ⟨Nat.mul_le_mul ih.1 hs.2, ?_⟩
    have := Nat.mul_le_mul ih.2 hs.1
    omega
theorem pd_46656 {n : Nat} {Y : Yd} (h : YOK n Y) (hn : n ≤ 6) : pd Y n ≤ 46656 ∧ 1 ≤ pd Y n := by
  have := pd_le h n (Nat.le_refl n)
  have h6 : 6 ^ n ≤ 6 ^ 6 := Nat.pow_le_pow_right (by decide) hn
  have e : (6 : Nat) ^ 6 = 46656 := rfl
  omega
theorem lf_le (Y : Yd) (n cd : Nat) : ∀ j, lf Y n cd j ≤ cd
  | 0 => Nat.le_refl _
  | j + 1 => Nat.le_trans (Nat.div_le_self _ _) (lf_le Y n cd j)
theorem ds_ok {n : Nat} {Y : Yd} (h : YOK n Y) (cd : Nat) : TOK n Y (ds Y n cd) := fun p hp => Nat.mod_lt _ (by have := sm_in h hp; omega)
def un (T U : Nat → Nat) : Nat → Nat
  | 0 => 0
  | p + 1 => un T U p + if U p = T p then 0 else 1
theorem un_le (T U : Nat → Nat) : ∀ k, un T U k ≤ k
  | 0 => Nat.le_refl 0
  | k + 1 => by
    have := un_le T U k
    unfold un
    split <;> omega
def bgF (Y : Yd) (n : Nat) (T wt : Nat → Nat) (wn : Nat) : Nat → Option Nat × Nat
  | 0 => (none, 11)
  | k + 1 => if un T (ds Y n k) n < (bgF Y n T wt wn k).2 ∧ itF Y none (ds Y n k) wt wn 0 = true then (some k, un T (ds Y n k) n) else bgF Y n T wt wn k
def bgR (n : Nat) (Y : Yd) (T wt : Nat → Nat) (wn k : Nat) : Int32 := match (bgF Y n T wt wn (pd Y n)).1 with
  | none => Int32.ofInt (-1)
  | some b => if k = 0 then nI (bgF Y n T wt wn (pd Y n)).2 else if k - 10 < n then nI (ds Y n b (k - 10)) else Int32.ofInt (-1)
def bgx (x : Int32) : Prop := x = 0 ∨ (10 ≤ x.toInt ∧ x.toInt ≤ 15)
def bgnA (n : Nat) (Y : Yd) (T wt : Nat → Nat) (wn dn : Nat) (x : Int32) : Int32 := if n = 0 then Int32.ofInt (-103) else if x = 0 ∨ (10 ≤ x.toInt ∧ x.toInt ≤ 15) then (if 6 < n ∨ wn = 0 ∨ dn = 20 then Int32.ofInt (-103) else bgR n Y T wt wn x.toNatClampNeg) else Int32.ofInt (-102)
def bgnD (n wn dn : Nat) (x : Int32) : Nat := if n = 0 then dn else if x = 0 ∨ (10 ≤ x.toInt ∧ x.toInt ≤ 15) then (if 6 < n ∨ wn = 0 ∨ dn = 20 then dn else dn + 1) else dn
theorem bgF_le (Y : Yd) (n : Nat) (T wt : Nat → Nat) (wn : Nat) : ∀ k, (bgF Y n T wt wn k).2 ≤ 11 ∧ ∀ b, (bgF Y n T wt wn k).1 = some b → b < k
  | 0 => ⟨Nat.le_refl _, fun b h => by cases h⟩
  | k + 1 => by
    have ih := bgF_le Y n T wt wn k
    unfold bgF
    split
    · exact ⟨by dsimp only; omega, fun b h => by cases h; omega⟩
    · exact ⟨ih.1, fun b h => by have := ih.2 b h; omega⟩
theorem nI_m1 {a : Nat} (h : a < 2147483648) : ¬ nI a = Int32.ofInt (-1) := fun e => by
  have := congrArg Int32.toInt e
  rw [nI_toInt h] at this
  have e2 : (Int32.ofInt (-1)).toInt = -1 := rfl
  omega
theorem gv_m1 {o : Option Nat} (h : ∀ b, o = some b → b < 2147483648) : gv o = Int32.ofInt (-1) ↔ o = none := by
  cases o with
  | none => exact ⟨fun _ => rfl, fun _ => rfl⟩
  | some b => exact ⟨fun e => absurd e (nI_m1 (h b rfl)), fun e => by cases e⟩
section MM
variable {d L : Nat} {dy : mjM} {I : mjI} {y y1 n1 w1 c y2 : Option Nat} {R : mjR} {J : mjJ} {pn : Nat} {pg : Nat → Nat} {n : Nat} {Y : Yd} {T : Nat → Nat} {t : Nat} {tr : Nat → Nat} {kp : Kp} {wn : Nat} {wt : Nat → Nat} {yr dn : Nat}
theorem M_standsInAll (hY : MY I n Y) : mj_call mj_P (d + 2) kn_M_standsInAll [.ref 45] (HP L dy I y y1 n1 w1 c y2 R J) (some (.int (nI (pd Y n)))) (HP L dy I y y1 n1 w1 c y2 R J) := by
  have hn : n ≤ 10 := hY.2.1.1
  refine mj_ci rfl (Nat.le_of_ble_eq_true rfl) ?_
  refine mj_run 4 rfl trivial ?_
  refine dn_ind n (fun p => mj_Rd (mj_call mj_P (d + 1)) kc_M_standsInAll 1 (4, [some (.ref 45), some (.int (nI (pd Y p))), some (.int (nI p))], [], HP L dy I y y1 n1 w1 c y2 R J) (some (.int (nI (pd Y n)))) (HP L dy I y y1 n1 w1 c y2 R J)) ?_ ?_ 0 (by omega)
  · refine mj_run 3 rfl trivial ?_
    rw [hY.1]
    refine mj_brt rfl rfl (by rw [nI_leI (by omega) (by omega)]; omega) ?_
    refine mj_run 1 rfl trivial ?_
    exact mj_end rfl rfl trivial
  · intro p hp ih
    refine mj_run 3 rfl trivial ?_
    rw [hY.1]
    refine mj_brf rfl rfl (by rw [nI_leI (by omega) (by omega)]; omega) ?_
    refine mj_run 3 rfl trivial ?_
    refine mj_cal rfl rfl (M_standMany hY hp) ?_
    refine mj_run 4 rfl trivial ?_
    rw [pk_mul, nI_add]
    exact ih
theorem M_codeOf {U : Nat → Nat} (hY : MY I n Y) (hU : RI I 55 n U) : mj_call mj_P (d + 2) kn_M_codeOf [.ref 45] (HP L dy I y y1 n1 w1 c y2 R J) (some (.int (nI (en Y U n)))) (HP L dy I y y1 n1 w1 c y2 R J) := by
  have hn : n ≤ 10 := hY.2.1.1
  refine mj_ci rfl (Nat.le_of_ble_eq_true rfl) ?_
  refine mj_run 4 rfl trivial ?_
  refine dn_ind n (fun p => mj_Rd (mj_call mj_P (d + 1)) kc_M_codeOf 1 (4, [some (.ref 45), some (.int (nI (en Y U p))), some (.int (nI p))], [], HP L dy I y y1 n1 w1 c y2 R J) (some (.int (nI (en Y U n)))) (HP L dy I y y1 n1 w1 c y2 R J)) ?_ ?_ 0 (by omega)
  · refine mj_run 3 rfl trivial ?_
    rw [hY.1]
    refine mj_brt rfl rfl (by rw [nI_leI (by omega) (by omega)]; omega) ?_
    refine mj_run 1 rfl trivial ?_
    exact mj_end rfl rfl trivial
  · intro p hp ih
    refine mj_run 3 rfl trivial ?_
    rw [hY.1]
    refine mj_brf rfl rfl (by rw [nI_leI (by omega) (by omega)]; omega) ?_
    refine mj_run 3 rfl trivial ?_
    refine mj_cal rfl rfl (M_standMany hY hp) ?_
    refine mj_run 9 rfl (nI_vi (by omega) (by decide)) ?_
    rw [nI_nc (by omega), hU p hp, pk_mul, nI_add, nI_add]
    exact ih
theorem M_layStands {k : Nat} (hk : k ≤ 46656) (hY : MY I n Y) : ∃ I', mj_call mj_P (d + 2) kn_M_layStands [.ref 45, .int (nI k)] (HP L dy I y y1 n1 w1 c y2 R J) none (HP L dy I' y y1 n1 w1 c y2 R J) ∧ Fr [] [55] I I' ∧ RI I' 55 n (ds Y n k) := by
  have hn : n ≤ 10 := hY.2.1.1
  have key : ∀ (m : Nat) (X : mjI), m ≤ n → Fr [] [55] I X → (∀ p, m ≤ p → p < n → X 55 p = nI (ds Y n k p)) → ∃ I', (Fr [] [55] I I' ∧ RI I' 55 n (ds Y n k)) ∧ mj_Rd (mj_call mj_P (d + 1)) kc_M_layStands 0 (9, [some (.ref 45), some (.int (nI k)), some (.int (nI (lf Y n k (n - m)))), some (.int (nI m - nI 1))], [], HP L dy X y y1 n1 w1 c y2 R J) none (HP L dy I' y y1 n1 w1 c y2 R J) := by
    intro m
    induction m with
    | zero =>
      intro X _ hf hX
      refine ⟨X, ⟨hf, fun p hp => hX p (by omega) hp⟩, ?_⟩
      refine mj_run 1 rfl trivial ?_
      refine mj_brt rfl rfl (by decide) ?_
      exact mj_end rfl rfl trivial
    | succ m ih =>
      intro X hm hf hX
      have hYX : MY X n Y := hY.fr hf (by decide)
      have hsm := sm_in hY.2.1 (show m < n by omega)
      have hlf := lf_le Y n k (n - (m + 1))
      have e0 : nI (m + 1) - nI 1 = nI m := by rw [pk_sub (by omega)]; rfl
      have e1 : n - 1 - m = n - (m + 1) := by omega
      have e2 : lf Y n k (n - m) = lf Y n k (n - (m + 1)) / sm Y m := by
        rw [show n - m = n - (m + 1) + 1 by omega]
        show _ / sm Y (n - 1 - (n - (m + 1))) = _
        rw [show n - 1 - (n - (m + 1)) = m by omega]
      have nz : ¬ nI (sm Y m) = 0 := by rw [nI_z (by omega)]; omega
      have hYZ : MY (mj_ui X 55 m (nI (ds Y n k m))) n Y := hYX.fr (Fr.a X (a := 55) (by decide) m _) (by decide)
      obtain ⟨I', hA, hx⟩ := ih (mj_ui X 55 m (nI (ds Y n k m))) (by omega) ((hf.tr (Fr.a X (a := 55) (by decide) m _)).w (by decide) (by decide)) (fun p hp1 hp2 => by
        by_cases e : p = m
        · subst e; simp [mj_ui, upd]
        · have := hX p (by omega) hp2
          simp [mj_ui, upd, e, this])
      refine ⟨I', hA, ?_⟩
      rw [e0]
      refine mj_run 1 rfl trivial ?_
      refine mj_brf rfl rfl (by rw [show (0 : Int32) = nI 0 from rfl, nI_ltI (by omega) (by decide)]; omega) ?_
      refine mj_run 6 rfl trivial ?_
      refine mj_cal rfl rfl (M_standMany hYX (by omega)) ?_
      refine mj_run 5 rfl ⟨nz, nI_vi (by omega) (by decide), by decide⟩ ?_
      rw [nI_nc (by omega), pk_rem (by omega) (by omega) (by omega)]
      rw [show lf Y n k (n - (m + 1)) % sm Y m = ds Y n k m by unfold ds; rw [e1]]
      refine mj_cal rfl rfl (M_standMany hYZ (by omega)) ?_
      refine mj_run 4 rfl nz ?_
      rw [pk_div (by omega) (by omega) (by omega), ← e2]
      rw [show nI m + Int32.ofInt (-1) = nI m - nI 1 by rw [Int32.sub_eq_add_neg]; rfl]
      exact hx
  obtain ⟨I', hA, hx⟩ := key n I (Nat.le_refl n) ((Fr.rf I).w (by simp) (by simp)) (fun p h1 h2 => by omega)
  refine ⟨I', ?_, hA⟩
  refine mj_ci rfl (Nat.le_of_ble_eq_true rfl) ?_
  refine mj_run 7 rfl trivial ?_
  rw [hY.1]
  rw [show n - n = 0 by omega] at hx
  exact hx
theorem M_beginLoop {x : Int32} (hn1 : 1 ≤ n) (hn6 : n ≤ 6) : ∀ (f k : Nat) (X : mjI) (l6 l7 : Option Value), mj_lg l6 = true → k + f = pd Y n → MY X n Y → Mst X n Y T → Mwt X wn wt → ∃ (I' : mjI) (q6 q7 : Option Value), (Fr [19, 20] [55, 56] X I') ∧ ∀ (v : Option Value) (h' : mjH), mj_Rd (mj_call mj_P (d + 5)) kc_M_begin 1 (170, [some (.ref 45), some (.int x), some (.int (gv (bgF Y n T wt wn (pd Y n)).1)), some (.int (nI (bgF Y n T wt wn (pd Y n)).2)), some (.int (nI (pd Y n))), some (.int (nI (pd Y n))), q6, q7], [], HP L dy I' y y1 n1 w1 c y2 R J) v h' → mj_Rd (mj_call mj_P (d + 5)) kc_M_begin 1 (83, [some (.ref 45), some (.int x), some (.int (gv (bgF Y n T wt wn k).1)), some (.int (nI (bgF Y n T wt wn k).2)), some (.int (nI (pd Y n))), some (.int (nI k)), l6, l7], [], HP L dy X y y1 n1 w1 c y2 R J) v h' := by
  intro f
  induction f with
  | zero =>
    intro k X l6 l7 _ hk hY hS hw
    have hpd := pd_46656 hY.2.1 hn6
    have : k = pd Y n := by omega
    subst this
    refine ⟨X, l6, l7, (Fr.rf X).w (by simp) (by simp), fun v h' hx => ?_⟩
    refine mj_run 2 rfl trivial ?_
    refine mj_brt rfl rfl (by rw [nI_leI (by omega) (by omega)]; omega) ?_
    exact hx
  | succ f ih =>
    intro k X l6 l7 g6 hk hY hS hw
    have hpd := pd_46656 hY.2.1 hn6
    have hbf := bgF_le Y n T wt wn k
    obtain ⟨I1, hc1, hf1, hR1⟩ := M_layStands (d := d + 3) (L := L) (dy := dy) (y := y) (y1 := y1) (n1 := n1) (w1 := w1) (c := c) (y2 := y2) (R := R) (J := J) (k := k) (by omega) hY
    have hY1 : MY I1 n Y := hY.fr hf1 (by decide)
    have hS1 : Mst I1 n Y T := hS.fr hf1 (by decide)
    have hw1 : Mwt I1 wn wt := hw.fr hf1 (by decide)
    obtain ⟨I2, hc2, hf2⟩ := M_isTrue (d := d) (L := L) (dy := dy) (y := y) (y1 := y1) (n1 := n1) (w1 := w1) (c := c) (y2 := y2) (R := R) (J := J) sq_none hY1 hw1 hn1 hR1 (ds_ok hY.2.1 k)
    have hun := un_le T (ds Y n k) n
    -- counting
    have cnt : ∀ (v : Option Value) (h' : mjH), mj_Rd (mj_call mj_P (d + 5)) kc_M_begin 1 (144, [some (.ref 45), some (.int x), some (.int (gv (bgF Y n T wt wn k).1)), some (.int (nI (bgF Y n T wt wn k).2)), some (.int (nI (pd Y n))), some (.int (nI k)), some (.int (nI (un T (ds Y n k) n))), some (.int (nI n))], [], HP L dy I1 y y1 n1 w1 c y2 R J) v h' → mj_Rd (mj_call mj_P (d + 5)) kc_M_begin 1 (83, [some (.ref 45), some (.int x), some (.int (gv (bgF Y n T wt wn k).1)), some (.int (nI (bgF Y n T wt wn k).2)), some (.int (nI (pd Y n))), some (.int (nI k)), l6, l7], [], HP L dy X y y1 n1 w1 c y2 R J) v h' := by
      intro v h' hx
      refine mj_run 2 rfl trivial ?_
      refine mj_brf rfl rfl (by rw [nI_leI (by omega) (by omega)]; omega) ?_
      refine mj_run 2 rfl trivial ?_
      refine mj_cal rfl rfl hc1 ?_
      refine mj_run 4 rfl trivial ?_
      refine dn_ind n (fun p => mj_Rd (mj_call mj_P (d + 5)) kc_M_begin 1 (102, [some (.ref 45), some (.int x), some (.int (gv (bgF Y n T wt wn k).1)), some (.int (nI (bgF Y n T wt wn k).2)), some (.int (nI (pd Y n))), some (.int (nI k)), some (.int (nI (un T (ds Y n k) p))), some (.int (nI p))], [], HP L dy I1 y y1 n1 w1 c y2 R J) v h') ?_ ?_ 0 (by omega)
      · refine mj_run 3 rfl trivial ?_
        rw [hY1.1]
        refine mj_brt rfl rfl (by rw [nI_leI (by omega) (by omega)]; omega) ?_
        exact hx
      · intro p hp ihp
        have hs6 := sm_in hY.2.1 hp
        have hT6 := hS.2 p hp
        have hd6 := ds_ok hY.2.1 k p hp
        have vp : vp_in (nI p) 10 := nI_vi (by omega) (by decide)
        refine mj_run 3 rfl trivial ?_
        rw [hY1.1]
        refine mj_brf rfl rfl (by rw [nI_leI (by omega) (by omega)]; omega) ?_
        refine mj_run 9 rfl ⟨vp, vp⟩ ?_
        rw [nI_nc (by omega), hR1 p hp, hS1.1 p hp]
        refine mj_bra rfl rfl (fun g => ?_) (fun g => ?_)
        · rw [nI_e (by omega) (by omega)] at g
          rw [show un T (ds Y n k) (p + 1) = un T (ds Y n k) p + 1 by simp [un, g]] at ihp
          refine mj_run 1 rfl trivial ?_
          refine mj_run 4 rfl trivial ?_
          rw [nI_add, nI_add]
          exact ihp
        · rw [nI_e (by omega) (by omega)] at g
          rw [show un T (ds Y n k) (p + 1) = un T (ds Y n k) p + 0 by simp [un, Classical.not_not.mp g]] at ihp
          refine mj_run 2 rfl trivial ?_
          refine mj_run 4 rfl trivial ?_
          rw [nI_add, nI_add]
          exact ihp
    have hbs : bgF Y n T wt wn (k + 1) = if un T (ds Y n k) n < (bgF Y n T wt wn k).2 ∧ itF Y none (ds Y n k) wt wn 0 = true then (some k, un T (ds Y n k) n) else bgF Y n T wt wn k := rfl
    by_cases g1 : un T (ds Y n k) n < (bgF Y n T wt wn k).2
    · have f12 := hf1.tr hf2
      obtain ⟨I', q6, q7, hf', hx'⟩ := ih (k + 1) I2 (some (.int (nI (un T (ds Y n k) n)))) (some (.int (nI n))) rfl (by omega) (hY.fr f12 (by decide)) (hS.fr f12 (by decide)) (hw.fr f12 (by decide))
      refine ⟨I', q6, q7, (f12.tr hf').w (by decide) (by decide), fun v h' hx => cnt v h' ?_⟩
      have hx2 := hx' v h' hx
      rw [hbs] at hx2
      refine mj_run 2 rfl trivial ?_
      refine mj_brf rfl rfl (by rw [nI_leI (by omega) (by omega)]; omega) ?_
      refine mj_run 2 rfl trivial ?_
      refine mj_cal rfl rfl hc2 ?_
      cases ht : itF Y none (ds Y n k) wt wn 0 with
      | true =>
        rw [if_pos ⟨g1, ht⟩] at hx2
        refine mj_brf rfl rfl (by decide) ?_
        refine mj_run 4 rfl trivial ?_
        refine mj_run 2 rfl trivial ?_
        rw [nI_add]
        exact hx2
      | false =>
        rw [if_neg (fun q => by rw [ht] at q; cases q.2)] at hx2
        refine mj_brt rfl rfl (by decide) ?_
        refine mj_run 2 rfl trivial ?_
        rw [nI_add]
        exact hx2
    · obtain ⟨I', q6, q7, hf', hx'⟩ := ih (k + 1) I1 (some (.int (nI (un T (ds Y n k) n)))) (some (.int (nI n))) rfl (by omega) hY1 hS1 hw1
      refine ⟨I', q6, q7, (hf1.tr hf').w (by decide) (by decide), fun v h' hx => cnt v h' ?_⟩
      have hx2 := hx' v h' hx
      rw [hbs, if_neg (fun q => g1 q.1)] at hx2
      refine mj_run 2 rfl trivial ?_
      refine mj_brt rfl rfl (by rw [nI_leI (by omega) (by omega)]; omega) ?_
      refine mj_run 2 rfl trivial ?_
      rw [nI_add]
      exact hx2
theorem MO_begin (h : MI I pn pg n Y T t tr kp wn wt yr dn) (x : Int32) : ∃ I', mj_call mj_P (d + 6) kn_M_begin [.ref 45, .int x] (HP L dy I y y1 n1 w1 c y2 R J) (some (.int (bgnA n Y T wt wn dn x))) (HP L dy I' y y1 n1 w1 c y2 R J) ∧ MI I' pn pg n Y T t tr kp wn wt yr (bgnD n wn dn x) ∧ Fr (24 :: wk) wa' I I' := by
  have h0 := h
  obtain ⟨h1, h2, h3, h4, h5, h6, h7⟩ := h
  have hn10 : n ≤ 10 := h2.2.1.1
  have hw8 := h6.2.1
  have hd20 := h7.2.2.2
  unfold bgnA bgnD
  by_cases hn : n = 0
  · rw [if_pos hn, if_pos hn]
    refine ⟨I, ?_, h0, (Fr.rf I).w (by simp) (by simp)⟩
    refine mj_ci rfl (Nat.le_of_ble_eq_true rfl) ?_
    refine mj_run 1 rfl trivial ?_
    refine mj_cal rfl rfl (M_lacks h2) ?_
    rw [if_pos hn]
    refine mj_brf rfl rfl (by decide) ?_
    refine mj_run 1 rfl trivial ?_
    exact mj_end rfl rfl trivial
  · rw [if_neg hn, if_neg hn]
    have hn1 : 1 ≤ n := by omega
    have head : ∀ (v : Option Value) (h' : mjH), (∀ l : Unit, mj_Rd (mj_call mj_P (d + 5)) kc_M_begin 1 (10, [some (.ref 45), some (.int x), none, none, none, none, none, none], [], HP L dy I y y1 n1 w1 c y2 R J) v h') → mj_call mj_P (d + 6) kn_M_begin [.ref 45, .int x] (HP L dy I y y1 n1 w1 c y2 R J) v h' := by
      intro v h' hx
      refine mj_ci rfl (Nat.le_of_ble_eq_true rfl) ?_
      refine mj_run 1 rfl trivial ?_
      refine mj_cal rfl rfl (M_lacks h2) ?_
      rw [if_neg hn]
      exact mj_brt rfl rfl (by decide) (hx ())
    by_cases hxr : x = 0 ∨ (10 ≤ x.toInt ∧ x.toInt ≤ 15)
    · rw [if_pos hxr, if_pos hxr]
      have head2 : ∀ (v : Option Value) (h' : mjH), mj_Rd (mj_call mj_P (d + 5)) kc_M_begin 1 (31, [some (.ref 45), some (.int x), none, none, none, none, none, none], [], HP L dy I y y1 n1 w1 c y2 R J) v h' → mj_call mj_P (d + 6) kn_M_begin [.ref 45, .int x] (HP L dy I y y1 n1 w1 c y2 R J) v h' := by
        intro v h' hx
        refine head v h' (fun _ => ?_)
        refine mj_run 1 rfl trivial ?_
        refine mj_bra rfl rfl (fun _ => hx) (fun g => ?_)
        refine mj_run 4 rfl trivial ?_
        refine mj_cal rfl rfl (M_in_t ((lN_rng (by decide) (by decide)).mpr (by rcases hxr with e | e; exact absurd e g; exact e))) ?_
        exact mj_brt rfl rfl (by decide) hx
      have bad : mj_Rd (mj_call mj_P (d + 5)) kc_M_begin 1 (56, [some (.ref 45), some (.int x), none, none, none, none, none, none], [], HP L dy I y y1 n1 w1 c y2 R J) (some (.int (Int32.ofInt (-103)))) (HP L dy I y y1 n1 w1 c y2 R J) := by
        refine mj_run 1 rfl trivial ?_
        exact mj_end rfl rfl trivial
      by_cases hp : 6 < n ∨ wn = 0 ∨ dn = 20
      · rw [if_pos hp, if_pos hp]
        refine ⟨I, head2 _ _ ?_, h0, (Fr.rf I).w (by simp) (by simp)⟩
        refine mj_run 3 rfl trivial ?_
        rw [h2.1]
        refine mj_bra rfl rfl (fun _ => bad) (fun g1 => ?_)
        rw [nI_ltI (by decide) (by omega)] at g1
        refine mj_run 2 rfl trivial ?_
        rw [h6.1]
        refine mj_bra rfl rfl (fun _ => bad) (fun g2 => ?_)
        rw [nI_z (by omega)] at g2
        refine mj_run 3 rfl trivial ?_
        rw [h7.2.2.1]
        exact mj_brf rfl rfl (fun q => q (by rw [nI_e (by omega) (by decide)]; omega)) bad
      · rw [if_neg hp, if_neg hp]
        have hn6 : n ≤ 6 := by omega
        have hpd := pd_46656 h2.2.1 hn6
        have fu1 := Fr.u I 24 (nI (dn + 1))
        have hbf := bgF_le Y n T wt wn (pd Y n)
        obtain ⟨I1, q6, q7, hf1, hx1⟩ := M_beginLoop (d := d) (L := L) (dy := dy) (y := y) (y1 := y1) (n1 := n1) (w1 := w1) (c := c) (y2 := y2) (R := R) (J := J) (x := x) (T := T) (wt := wt) (wn := wn) hn1 hn6 (pd Y n) 0 (mj_ui I 45 24 (nI (dn + 1))) none none rfl (by omega) (h2.fr fu1 (by decide)) (h3.fr fu1 (by decide)) (h6.fr fu1 (by decide))
        have fr1 := fu1.tr hf1
        have MI1 : ∀ Z, Fr [19, 20] [55, 56] (mj_ui I 45 24 (nI (dn + 1))) Z → MI Z pn pg n Y T t tr kp wn wt yr (dn + 1) := fun Z hZ => by
          have fz := fu1.tr hZ
          refine ⟨h1.fr fz (by decide), h2.fr fz (by decide), h3.fr fz (by decide), h4.fr fz (by decide), h5.fr fz (by decide), h6.fr fz (by decide), ⟨(fz.2 10 (by decide)).trans h7.1, h7.2.1, ?_, by omega⟩⟩
          rw [hZ.2 24 (by decide)]
          simp [mj_ui, upd]
        have go : ∀ (v : Option Value) (h' : mjH), mj_Rd (mj_call mj_P (d + 5)) kc_M_begin 1 (170, [some (.ref 45), some (.int x), some (.int (gv (bgF Y n T wt wn (pd Y n)).1)), some (.int (nI (bgF Y n T wt wn (pd Y n)).2)), some (.int (nI (pd Y n))), some (.int (nI (pd Y n))), q6, q7], [], HP L dy I1 y y1 n1 w1 c y2 R J) v h' → mj_call mj_P (d + 6) kn_M_begin [.ref 45, .int x] (HP L dy I y y1 n1 w1 c y2 R J) v h' := by
          intro v h' hx
          refine head2 v h' ?_
          refine mj_run 3 rfl trivial ?_
          rw [h2.1]
          refine mj_brf rfl rfl (by rw [nI_ltI (by decide) (by omega)]; omega) ?_
          refine mj_run 2 rfl trivial ?_
          rw [h6.1]
          refine mj_brf rfl rfl (by rw [nI_z (by omega)]; omega) ?_
          refine mj_run 3 rfl trivial ?_
          rw [h7.2.2.1]
          refine mj_brt rfl rfl (by rw [nI_e (by omega) (by decide)]; omega) ?_
          refine mj_run 11 rfl trivial ?_
          rw [h7.2.2.1, nI_add]
          refine mj_cal rfl rfl (M_standsInAll (h2.fr fu1 (by decide))) ?_
          refine mj_run 3 rfl trivial ?_
          exact hx1 v h' hx
        unfold bgR
        cases hb : (bgF Y n T wt wn (pd Y n)).1 with
        | none =>
          rw [hb] at go
          refine ⟨I1, go _ _ ?_, MI1 I1 hf1, fr1.w (by decide) (by decide)⟩
          refine mj_run 2 rfl trivial ?_
          refine mj_brt rfl rfl rfl ?_
          refine mj_run 2 rfl trivial ?_
          refine mj_brf rfl rfl (fun q => q rfl) ?_
          refine mj_run 2 rfl trivial ?_
          exact mj_end rfl rfl trivial
        | some b =>
          have hb1 := hbf.2 b hb
          rw [hb] at go
          dsimp only
          by_cases hx0 : x = 0
          · subst hx0
            rw [if_pos (show (0 : Int32).toNatClampNeg = 0 from rfl)]
            refine ⟨I1, go _ _ ?_, MI1 I1 hf1, fr1.w (by decide) (by decide)⟩
            refine mj_run 2 rfl trivial ?_
            refine mj_brf rfl rfl (nI_m1 (by omega)) ?_
            refine mj_run 1 rfl trivial ?_
            refine mj_brf rfl rfl (fun q => q rfl) ?_
            refine mj_run 2 rfl trivial ?_
            refine mj_brt rfl rfl (nI_m1 (by omega)) ?_
            refine mj_run 1 rfl trivial ?_
            exact mj_end rfl rfl trivial
          · have hxx : 10 ≤ x.toInt ∧ x.toInt ≤ 15 := by rcases hxr with e | e; exact absurd e hx0; exact e
            obtain ⟨k, hk, rfl⟩ := i_nI (x := x) (N := 16) (by omega)
            rw [nI_toInt (by omega)] at hxx
            rw [nI_nc (show k < 2147483648 by omega), if_neg (by omega)]
            obtain ⟨I2, hc2, hf2, hR2⟩ := M_layStands (d := d + 3) (L := L) (dy := dy) (y := y) (y1 := y1) (n1 := n1) (w1 := w1) (c := c) (y2 := y2) (R := R) (J := J) (k := b) (by omega) (h2.fr fr1 (by decide))
            have hf12 := (hf1.tr hf2).w (ks' := [19, 20]) (as' := [55, 56]) (by decide) (by decide)
            have e10 : nI k - nI 10 = nI (k - 10) := pk_sub (by omega)
            refine ⟨I2, go _ _ ?_, MI1 I2 hf12, (fr1.tr hf2).w (by decide) (by decide)⟩
            refine mj_run 2 rfl trivial ?_
            refine mj_brf rfl rfl (nI_m1 (by omega)) ?_
            refine mj_run 1 rfl trivial ?_
            refine mj_brt rfl rfl hx0 ?_
            refine mj_run 2 rfl trivial ?_
            refine mj_cal rfl rfl hc2 ?_
            refine mj_run 5 rfl trivial ?_
            have hY2 : MY I2 n Y := h2.fr (fr1.tr hf2) (by decide)
            rw [hY2.1, e10]
            by_cases g : k - 10 < n
            · rw [if_pos g]
              refine mj_brf rfl rfl (by rw [nI_leI (by omega) (by omega)]; omega) ?_
              refine mj_run 7 rfl (by rw [e10]; exact nI_vi (by omega) (by decide)) ?_
              rw [e10, nI_nc (by omega), hR2 _ g]
              exact mj_end rfl rfl trivial
            · rw [if_neg g]
              refine mj_brt rfl rfl (by rw [nI_leI (by omega) (by omega)]; omega) ?_
              refine mj_run 1 rfl trivial ?_
              exact mj_end rfl rfl trivial
    · rw [if_neg hxr, if_neg hxr]
      refine ⟨I, head _ _ (fun _ => ?_), h0, (Fr.rf I).w (by simp) (by simp)⟩
      refine mj_run 1 rfl trivial ?_
      refine mj_brf rfl rfl (fun q => hxr (Or.inl q)) ?_
      refine mj_run 4 rfl trivial ?_
      refine mj_cal rfl rfl (M_in_f (fun q => hxr (Or.inr ((lN_rng (by decide) (by decide)).mp q)))) ?_
      refine mj_brf rfl rfl (by decide) ?_
      refine mj_run 1 rfl trivial ?_
      exact mj_end rfl rfl trivial
end MM
