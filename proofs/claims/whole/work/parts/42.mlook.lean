def sb (Y : Yd) (n : Nat) : Nat → Bool
  | 0 => true
  | p + 1 => sb Y n p && (!(rch Y n 0 ||| 1).testBit p || !(rch Y n p).testBit p)
theorem sb_iff {Y : Yd} {n : Nat} (h : YOK n Y) (hn : 1 ≤ n) : ∀ k, k ≤ n → (sb Y n k = true ↔ ∀ p, p < k → rc Y n p → ¬ ∃ j, pth Y n (j + 1) p p)
  | 0, _ => by simp [sb]
  | k + 1, hk => by
    have ih := sb_iff h hn k (by omega)
    have e1 := rch_come h hn k
    have e2 := rch_bit h (show k < n by omega) k
    unfold sb
    rw [Bool.and_eq_true, ih]
    have e3 : (!(rch Y n 0 ||| 1).testBit k || !(rch Y n k).testBit k) = true ↔ (rc Y n k → ¬ ∃ j, pth Y n (j + 1) k k) := by
      rw [← e1, ← e2]
      cases (rch Y n 0 ||| 1).testBit k <;> cases (rch Y n k).testBit k <;> simp
    rw [e3]
    constructor
    · rintro ⟨a, b⟩ p hp
      by_cases e : p = k
      · subst e
        exact b
      · exact a p (by omega)
    · intro a
      exact ⟨fun p hp => a p (by omega), a k (by omega)⟩
def dtb (Y : Yd) (n p : Nat) : Bool := (decide (p = 0) || (rch Y n 0).testBit p) && (decide (Y.1 p ≠ 1) && decide (1 < sm Y p))
/-- the switch that a row of goes speaks of -/
def gq (p : Nat) : Option Nat := if p = 10 then none else some p
theorem sq_gq {p : Nat} (hp : p < 10) : sq (gq p) (nI p) := by
  unfold gq
  rw [if_neg (by omega)]
  exact sq_some hp
def RG (I : mjI) (Y : Yd) (T : Nat → Nat) (p k : Nat) : Prop := ∀ j, j < k → I 62 (40 * p + j) = gv (sd Y (gq p) T j)
/-- the first truck that tells two apart, from k on -/
def ulF (Y : Yd) (T : Nat → Nat) (p q : Nat) : Nat → Nat → Nat
  | 0, _ => 1000000
  | f + 1, k => if sd Y (gq p) T k = sd Y (gq q) T k then ulF Y T p q f (k + 1) else k + 1
def ul (Y : Yd) (T : Nat → Nat) (p q : Nat) : Nat := ulF Y T p q 40 0
theorem ulF_le (Y : Yd) (T : Nat → Nat) (p q : Nat) : ∀ f k, k + f ≤ 40 → ulF Y T p q f k ≤ 1000000
  | 0, k, _ => Nat.le_refl _
  | f + 1, k, h => by
    unfold ulF
    split
    · exact ulF_le Y T p q f (k + 1) (by omega)
    · omega
def mq (Y : Yd) (n : Nat) (T : Nat → Nat) (p : Nat) : Nat → Nat → Nat
  | 0, m => m
  | q + 1, m => max (mq Y n T p q m) (if dtb Y n q then ul Y T p q else 1)
def mo (Y : Yd) (n : Nat) (T : Nat → Nat) (ap : Bool) : Nat → Nat
  | 0 => 1
  | p + 1 => if dtb Y n p then (if ap then mq Y n T p p (max (mo Y n T ap p) (ul Y T p 10)) else max (mo Y n T ap p) (ul Y T p 10)) else mo Y n T ap p
def noA (Y : Yd) (n : Nat) (T : Nat → Nat) (ap : Bool) : Int32 := if mo Y n T ap n = 1000000 then Int32.ofInt (-1) else nI (mo Y n T ap n)
theorem ul_le (Y : Yd) (T : Nat → Nat) (p q : Nat) : ul Y T p q ≤ 1000000 := ulF_le Y T p q 40 0 (by omega)
theorem mq_le (Y : Yd) (n : Nat) (T : Nat → Nat) (p : Nat) : ∀ q m, m ≤ 1000000 → mq Y n T p q m ≤ 1000000
  | 0, m, h => h
  | q + 1, m, h => by
    have ih := mq_le Y n T p q m h
    have := ul_le Y T p q
    unfold mq
    split <;> omega
theorem mo_le (Y : Yd) (n : Nat) (T : Nat → Nat) (ap : Bool) : ∀ p, mo Y n T ap p ≤ 1000000
  | 0 => by show 1 ≤ 1000000; omega
  | p + 1 => by
    have ih := mo_le Y n T ap p
    have := ul_le Y T p 10
    unfold mo
    split
    · split
      · exact mq_le Y n T p p _ (by omega)
      · omega
    · exact ih
theorem gv_inj {o o' : Option Nat} (h : ∀ z, o = some z → z < 10) (h' : ∀ z, o' = some z → z < 10) : gv o = gv o' ↔ o = o' := by
  cases o' with
  | some z => exact gv_eq h (h' z rfl)
  | none =>
    cases o with
    | none => simp
    | some z =>
      have := gv_eq (o := none) (s := z) (fun _ q => by cases q) (h z rfl)
      constructor
      · intro q
        exact absurd (this.mp q.symm) (by simp)
      · intro q
        cases q
section MM
variable {d L : Nat} {dy : mjM} {I : mjI} {y y1 n1 w1 c y2 : Option Nat} {R : mjR} {J : mjJ} {pn : Nat} {pg : Nat → Nat} {n : Nat} {Y : Yd} {T : Nat → Nat} {t : Nat} {tr : Nat → Nat} {kp : Kp} {wn : Nat} {wt : Nat → Nat} {yr dn : Nat}
theorem M_isStraight (hY : MY I n Y) (hn : 1 ≤ n) : mj_call mj_P (d + 2) kn_M_isStraight [.ref 45] (HP L dy I y y1 n1 w1 c y2 R J) (some (.int (nI (if sb Y n n then 1 else 0)))) (HP L dy I y y1 n1 w1 c y2 R J) := by
  obtain ⟨h1, h2, h3⟩ := id hY
  have hn10 : n ≤ 10 := h2.1
  have hr0 : rch Y n 0 ||| 1 < 1024 := b_lt (k := 10) (rR_lt h2 _) (by decide)
  refine mj_ci rfl (Nat.le_of_ble_eq_true rfl) ?_
  refine mj_run 2 rfl trivial ?_
  refine mj_cal rfl rfl (M_reach (by decide) hY) ?_
  refine mj_run 7 rfl trivial ?_
  rw [b_or]
  refine dn_ind n (fun p => mj_Rd (mj_call mj_P (d + 1)) kc_M_isStraight 2 (12, [some (.ref 45), some (.int (nI (rch Y n 0 ||| 1))), some (.int (nI (if sb Y n p then 1 else 0))), some (.int (nI p))], [], HP L dy I y y1 n1 w1 c y2 R J) (some (.int (nI (if sb Y n n then 1 else 0)))) (HP L dy I y y1 n1 w1 c y2 R J)) ?_ ?_ 0 (by omega)
  · refine mj_run 3 rfl trivial ?_
    rw [h1]
    refine mj_brt rfl rfl (by rw [nI_leI (by omega) (by omega)]; omega) ?_
    refine mj_run 1 rfl trivial ?_
    refine mj_end rfl rfl ?_
    cases sb Y n n
    · exact Or.inl rfl
    · exact Or.inr rfl
  · intro p hp ih
    have hrp : rch Y n p < 1024 := rR_lt h2 _
    have fin : ∀ b : Bool, sb Y n (p + 1) = b → mj_Rd (mj_call mj_P (d + 1)) kc_M_isStraight 2 (49, [some (.ref 45), some (.int (nI (rch Y n 0 ||| 1))), some (.int (nI (if sb Y n p then 1 else 0))), some (.int (nI p))], [.int (nI (if b then 1 else 0))], HP L dy I y y1 n1 w1 c y2 R J) (some (.int (nI (if sb Y n n then 1 else 0)))) (HP L dy I y y1 n1 w1 c y2 R J) := by
      intro b hb
      rw [hb] at ih
      refine mj_run 3 rfl trivial ?_
      rw [nI_add]
      exact ih
    refine mj_run 3 rfl trivial ?_
    rw [h1]
    refine mj_brf rfl rfl (by rw [nI_leI (by omega) (by omega)]; omega) ?_
    refine mj_run 1 rfl trivial ?_
    cases hs : sb Y n p with
    | false =>
      rw [hs] at fin
      refine mj_brt rfl rfl (by decide) ?_
      refine mj_run 1 rfl trivial ?_
      exact fin false (by simp [sb, hs])
    | true =>
      rw [hs] at fin
      refine mj_brf rfl rfl (by decide) ?_
      refine mj_run 5 rfl trivial ?_
      rw [b_test (by omega) (by omega)]
      cases hc : (rch Y n 0 ||| 1).testBit p with
      | false =>
        refine mj_brt rfl rfl (by decide) ?_
        refine mj_run 2 rfl trivial ?_
        exact fin true (by simp only [sb, hs, hc]; rfl)
      | true =>
        refine mj_brf rfl rfl (by decide) ?_
        refine mj_run 2 rfl trivial ?_
        refine mj_cal rfl rfl (M_reach (by omega) hY) ?_
        refine mj_run 4 rfl trivial ?_
        rw [b_test (by omega) (by omega)]
        cases hp2 : (rch Y n p).testBit p with
        | false =>
          refine mj_brf rfl rfl (by decide) ?_
          refine mj_run 2 rfl trivial ?_
          exact fin true (by simp only [sb, hs, hc, hp2]; rfl)
        | true =>
          refine mj_brt rfl rfl (by decide) ?_
          refine mj_run 1 rfl trivial ?_
          exact fin false (by simp only [sb, hs, hc, hp2]; rfl)
theorem MO_straight (h : MI I pn pg n Y T t tr kp wn wt yr dn) : mj_call mj_P (d + 3) kn_M_straight [.ref 45] (HP L dy I y y1 n1 w1 c y2 R J) (some (.int (if n = 0 then Int32.ofInt (-103) else nI (if sb Y n n then 1 else 0)))) (HP L dy I y y1 n1 w1 c y2 R J) := by
  refine mj_ci rfl (Nat.le_of_ble_eq_true rfl) ?_
  refine mj_run 1 rfl trivial ?_
  refine mj_cal rfl rfl (M_lacks h.2.1) ?_
  by_cases hn : n = 0
  · rw [if_pos hn, if_pos hn]
    refine mj_brf rfl rfl (by decide) ?_
    refine mj_run 2 rfl trivial ?_
    exact mj_end rfl rfl trivial
  · rw [if_neg hn, if_neg hn]
    refine mj_brt rfl rfl (by decide) ?_
    refine mj_run 1 rfl trivial ?_
    refine mj_cal rfl rfl (M_isStraight h.2.1 (by omega)) ?_
    cases sb Y n n with
    | false =>
      refine mj_brt rfl rfl (by decide) ?_
      refine mj_run 1 rfl trivial ?_
      exact mj_end rfl rfl trivial
    | true =>
      refine mj_brf rfl rfl (by decide) ?_
      refine mj_run 2 rfl trivial ?_
      exact mj_end rfl rfl trivial
theorem M_doesTurn {p : Nat} (hp : p < n) (hY : MY I n Y) : mj_call mj_P (d + 2) kn_M_doesTurn [.ref 45, .int (nI p)] (HP L dy I y y1 n1 w1 c y2 R J) (some (.int (nI (if dtb Y n p then 1 else 0)))) (HP L dy I y y1 n1 w1 c y2 R J) := by
  obtain ⟨h1, h2, h3⟩ := id hY
  have hn10 : n ≤ 10 := h2.1
  have hr0 : rch Y n 0 < 1024 := rR_lt h2 _
  obtain ⟨k1, k2, k3, -⟩ := h2.2 p hp
  obtain ⟨e1, e2, -⟩ := h3 p hp
  have hsm := sm_in h2 hp
  have vi : vp_in (nI p) 10 := nI_vi (by omega) (by decide)
  have hc : (nI p).toNatClampNeg = p := nI_nc (by omega)
  have yes : (p = 0 ∨ (rch Y n 0).testBit p = true) → mj_Rd (mj_call mj_P (d + 1)) kc_M_doesTurn 2 (17, [some (.ref 45), some (.int (nI p)), none], [], HP L dy I y y1 n1 w1 c y2 R J) (some (.int (nI (if dtb Y n p then 1 else 0)))) (HP L dy I y y1 n1 w1 c y2 R J) := by
    intro A
    have A' : (decide (p = 0) || (rch Y n 0).testBit p) = true := by simpa using A
    refine mj_run 2 rfl trivial ?_
    refine mj_run 2 rfl trivial ?_
    refine mj_brf rfl rfl (by decide) ?_
    refine mj_run 5 rfl vi ?_
    rw [hc, e1]
    refine mj_bra rfl rfl (fun g => ?_) (fun g => ?_)
    · rw [nI_e (by omega) (by decide)] at g
      have e : dtb Y n p = false := by simp [dtb, g]
      rw [e]
      refine mj_run 1 rfl trivial ?_
      exact mj_end rfl rfl (Or.inl rfl)
    · rw [nI_e (by omega) (by decide)] at g
      refine mj_run 2 rfl trivial ?_
      refine mj_cal rfl rfl (M_standMany hY hp) ?_
      refine mj_run 1 rfl trivial ?_
      refine mj_bra rfl rfl (fun g2 => ?_) (fun g2 => ?_)
      · rw [nI_leI (by omega) (by decide)] at g2
        have e : dtb Y n p = false := by
          simp [dtb]
          intro _ _
          omega
        rw [e]
        refine mj_run 1 rfl trivial ?_
        exact mj_end rfl rfl (Or.inl rfl)
      · rw [nI_leI (by omega) (by decide)] at g2
        have e : dtb Y n p = true := by
          unfold dtb
          rw [A']
          simp [g]
          omega
        rw [e]
        refine mj_run 2 rfl trivial ?_
        exact mj_end rfl rfl (Or.inr rfl)
  refine mj_ci rfl (Nat.le_of_ble_eq_true rfl) ?_
  refine mj_run 1 rfl trivial ?_
  refine mj_bra rfl rfl (fun g => ?_) (fun g => ?_)
  · rw [nI_z (by omega)] at g
    exact yes (Or.inl g)
  · rw [nI_z (by omega)] at g
    refine mj_run 2 rfl trivial ?_
    refine mj_cal rfl rfl (M_reach (by decide) hY) ?_
    refine mj_run 5 rfl trivial ?_
    rw [b_test (by omega) (by omega)]
    cases hb : (rch Y n 0).testBit p with
    | true =>
      refine mj_brf rfl rfl (by decide) ?_
      exact yes (Or.inr hb)
    | false =>
      refine mj_brt rfl rfl (by decide) ?_
      have e : dtb Y n p = false := by simp [dtb, g, hb]
      rw [e]
      refine mj_run 1 rfl trivial ?_
      refine mj_run 2 rfl trivial ?_
      refine mj_brt rfl rfl (by decide) ?_
      refine mj_run 1 rfl trivial ?_
      exact mj_end rfl rfl (Or.inl rfl)
theorem M_unlike {p q : Nat} (h2 : YOK n Y) (hn : 1 ≤ n) (hT : TOK n Y T) (hp : p ≤ 10) (hq : q ≤ 10) (gp : RG I Y T p 40) (gq9 : RG I Y T q 40) : mj_call mj_P (d + 1) kn_M_unlike [.ref 45, .int (nI p), .int (nI q)] (HP L dy I y y1 n1 w1 c y2 R J) (some (.int (nI (ul Y T p q)))) (HP L dy I y y1 n1 w1 c y2 R J) := by
  refine mj_ci rfl (Nat.le_of_ble_eq_true rfl) ?_
  refine mj_run 2 rfl trivial ?_
  have key : ∀ f k, k + f = 40 → mj_Rd (mj_call mj_P d) kc_M_unlike 1 (2, [some (.ref 45), some (.int (nI p)), some (.int (nI q)), some (.int (nI k))], [], HP L dy I y y1 n1 w1 c y2 R J) (some (.int (nI (ulF Y T p q f k)))) (HP L dy I y y1 n1 w1 c y2 R J) := by
    intro f
    induction f with
    | zero =>
      intro k hk
      refine mj_run 2 rfl trivial ?_
      refine mj_brt rfl rfl (by rw [nI_leI (by decide) (by omega)]; omega) ?_
      refine mj_run 1 rfl trivial ?_
      exact mj_end rfl rfl trivial
    | succ f ih =>
      intro k hk
      have e5 : nI 40 * nI p + nI k = nI (40 * p + k) := by rw [pk_mul, nI_add]
      have e6 : nI 40 * nI q + nI k = nI (40 * q + k) := by rw [pk_mul, nI_add]
      refine mj_run 2 rfl trivial ?_
      refine mj_brf rfl rfl (by rw [nI_leI (by decide) (by omega)]; omega) ?_
      refine mj_run 16 rfl ⟨by rw [e5]; exact nI_vi (by omega) (by decide), by rw [e6]; exact nI_vi (by omega) (by decide)⟩ ?_
      rw [e5, e6, nI_nc (by omega), nI_nc (by omega), gp k (by omega), gq9 k (by omega)]
      have hinj := gv_inj (fun z hz => sd_ok (q := gq p) h2 hn hT k hz) (fun z hz => sd_ok (q := gq q) h2 hn hT k hz)
      unfold ulF
      refine mj_bra rfl rfl (fun g => ?_) (fun g => ?_)
      · rw [hinj] at g
        rw [if_pos g]
        refine mj_run 2 rfl trivial ?_
        rw [nI_add]
        exact ih (k + 1) (by omega)
      · rw [hinj] at g
        rw [if_neg g]
        refine mj_run 3 rfl trivial ?_
        rw [nI_add]
        exact mj_end rfl rfl trivial
  exact key 40 0 rfl
end MM
