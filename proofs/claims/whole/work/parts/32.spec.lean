/-! numbers -/
theorem nI_nc {n : Nat} (h : n < 2147483648) : (nI n).toNatClampNeg = n := nI_clamp h
theorem nI_e {a b : Nat} (ha : a < 2147483648) (hb : b < 2147483648) : nI a = nI b ↔ a = b := nI_eq ha hb
theorem nI_vi {n N : Nat} (h : n < N) (hN : N < 2147483648) : vp_in (nI n) N := vp_in_nI h hN
theorem nI_z {n : Nat} (hn : n < 2147483648) : nI n = 0 ↔ n = 0 := by
  rw [← nI_0]
  exact nI_eq hn (by decide)
/-! a yard: kinds, numbers of ways, where they lead -/
abbrev Yd : Type := (Nat → Nat) × (Nat → Nat) × (Nat → Nat → Nat)
def sm (Y : Yd) (p : Nat) : Nat := if Y.1 p = 2 then (if Y.2.1 p = 1 then 1 else 2 * Y.2.1 p - 2) else if Y.1 p = 3 then 2 * Y.2.1 p else Y.2.1 p
def wa (Y : Yd) (p s : Nat) : Nat := if Y.1 p = 2 then (if s < Y.2.1 p then s else 2 * Y.2.1 p - 2 - s) else if Y.1 p = 3 then s / 2 else s
def tn (Y : Yd) (p s : Nat) : Nat := if Y.1 p = 1 then s else (s + 1) % sm Y p
def pl (Y : Yd) (p s : Nat) : Nat := Y.2.2 p (wa Y p s)
def YOK (n : Nat) (Y : Yd) : Prop := n ≤ 10 ∧ ∀ p, p < n → Y.1 p < 4 ∧ 1 ≤ Y.2.1 p ∧ Y.2.1 p ≤ 3 ∧ ∀ w, w < Y.2.1 p → Y.2.2 p w < 10 + n
theorem sm_in {n : Nat} {Y : Yd} (h : YOK n Y) {p : Nat} (hp : p < n) : 1 ≤ sm Y p ∧ sm Y p ≤ 6 := by
  obtain ⟨h1, h2, h3, -⟩ := h.2 p hp
  unfold sm
  split
  · split <;> omega
  · split <;> omega
theorem wa_in {n : Nat} {Y : Yd} (h : YOK n Y) {p s : Nat} (hp : p < n) (hs : s < sm Y p) : wa Y p s < Y.2.1 p := by
  obtain ⟨h1, h2, h3, -⟩ := h.2 p hp
  unfold sm at hs
  unfold wa
  split
  · rename_i hk
    rw [if_pos hk] at hs
    split
    · assumption
    · split at hs <;> omega
  · rename_i hk
    rw [if_neg hk] at hs
    split
    · rename_i h3k
      rw [if_pos h3k] at hs
      omega
    · rename_i h3k
      rw [if_neg h3k] at hs
      exact hs
theorem pl_in {n : Nat} {Y : Yd} (h : YOK n Y) {p s : Nat} (hp : p < n) (hs : s < sm Y p) : pl Y p s < 10 + n := (h.2 p hp).2.2.2 _ (wa_in h hp hs)
theorem tn_in {n : Nat} {Y : Yd} (h : YOK n Y) {p s : Nat} (hp : p < n) (hs : s < sm Y p) : tn Y p s < sm Y p := by
  have h1 := (sm_in h hp).1
  unfold tn
  split
  · exact hs
  · exact Nat.mod_lt _ (by omega)
/-- the reference's yard -/
def MY (I : mjI) (n : Nat) (Y : Yd) : Prop := I 45 9 = nI n ∧ YOK n Y ∧ ∀ p, p < n → I 50 p = nI (Y.1 p) ∧ I 51 p = nI (Y.2.1 p) ∧ ∀ w, w < 3 → I 52 (3 * p + w) = if w < Y.2.1 p then nI (Y.2.2 p w) else Int32.ofInt (-1)
theorem M_in_t {d : Nat} {h : mjH} {a b c : Int64} (g : b ≤ a ∧ a ≤ c) : mj_call mj_P (d + 1) kn_M_in [.long a, .long b, .long c] h (some (.int (nI 1))) h := by
  have := c_M_in d h a b c
  rw [if_pos g] at this
  exact this
theorem M_in_f {d : Nat} {h : mjH} {a b c : Int64} (g : ¬ (b ≤ a ∧ a ≤ c)) : mj_call mj_P (d + 1) kn_M_in [.long a, .long b, .long c] h (some (.int (nI 0))) h := by
  have := c_M_in d h a b c
  rw [if_neg g] at this
  exact this
section MM
variable {d L : Nat} {dy : mjM} {I : mjI} {y y1 n1 w1 c y2 : Option Nat} {R : mjR} {J : mjJ} {n : Nat} {Y : Yd}
theorem M_lacks (hY : MY I n Y) : mj_call mj_P (d + 1) kn_M_lacks [.ref 45] (HP L dy I y y1 n1 w1 c y2 R J) (some (.int (nI (if n = 0 then 1 else 0)))) (HP L dy I y y1 n1 w1 c y2 R J) := by
  have h := c_M_lacks d L dy I y y1 n1 w1 c y2 R J
  have hn : n ≤ 10 := hY.2.1.1
  have hz : (nI n = 0) ↔ n = 0 := nI_z (by omega)
  simp only [hY.1, hz] at h
  exact h
theorem M_isPoint (hY : MY I n Y) (p : Int32) : mj_call mj_P (d + 2) kn_M_isPoint [.ref 45, .int p] (HP L dy I y y1 n1 w1 c y2 R J) (some (.int (nI (if 0 ≤ p.toInt ∧ p.toInt < n then 1 else 0)))) (HP L dy I y y1 n1 w1 c y2 R J) := by
  have hn : n ≤ 10 := hY.2.1.1
  refine mj_ci rfl (Nat.le_of_ble_eq_true rfl) ?_
  refine mj_run 8 rfl trivial ?_
  have e : (lN 0 ≤ p.toInt64 ∧ p.toInt64 ≤ (I 45 9 - nI 1).toInt64) ↔ (0 ≤ p.toInt ∧ p.toInt < n) := by
    rw [hY.1, Int64.le_iff_toInt_le, Int64.le_iff_toInt_le, Int32.toInt_toInt64, Int32.toInt_toInt64, pk_sub_toInt (by omega) (by decide)]
    have : (lN 0).toInt = 0 := rfl
    rw [this]
    omega
  by_cases g : 0 ≤ p.toInt ∧ p.toInt < n
  · rw [if_pos g]
    refine mj_cal rfl rfl (M_in_t (e.mpr g)) ?_
    exact mj_end rfl rfl (Or.inr rfl)
  · rw [if_neg g]
    refine mj_cal rfl rfl (M_in_f (fun q => g (e.mp q))) ?_
    exact mj_end rfl rfl (Or.inl rfl)
theorem M_standMany (hY : MY I n Y) {p : Nat} (hp : p < n) : mj_call mj_P (d + 1) kn_M_standMany [.ref 45, .int (nI p)] (HP L dy I y y1 n1 w1 c y2 R J) (some (.int (nI (sm Y p)))) (HP L dy I y y1 n1 w1 c y2 R J) := by
  obtain ⟨h1, h2, h3⟩ := hY
  have hn : n ≤ 10 := h2.1
  obtain ⟨k1, k2, k3, -⟩ := h2.2 p hp
  obtain ⟨e1, e2, -⟩ := h3 p hp
  have h := c_M_standMany d L dy I y y1 n1 w1 c y2 R J (p := nI p) (nI_vi (by omega) (by decide))
  have q2 : (nI (Y.1 p) = nI 2) ↔ Y.1 p = 2 := nI_e (by omega) (by decide)
  have q3 : (nI (Y.1 p) = nI 3) ↔ Y.1 p = 3 := nI_e (by omega) (by decide)
  have q1 : (nI (Y.2.1 p) = nI 1) ↔ Y.2.1 p = 1 := nI_e (by omega) (by decide)
  simp only [nI_nc (show p < 2147483648 by omega), e1, e2, q1, q2, q3] at h
  have e : (if Y.1 p = 2 then (if Y.2.1 p = 1 then nI 1 else nI 2 * nI (Y.2.1 p) - nI 2) else if Y.1 p = 3 then nI 2 * nI (Y.2.1 p) else nI (Y.2.1 p)) = nI (sm Y p) := by
    unfold sm
    split
    · split
      · rfl
      · rw [pk_mul, pk_sub (by omega)]
    · split
      · rw [pk_mul]
      · rfl
  rw [e] at h
  exact h
theorem M_wayAt (hY : MY I n Y) {p s : Nat} (hp : p < n) (hs : s < sm Y p) : mj_call mj_P (d + 1) kn_M_wayAt [.ref 45, .int (nI p), .int (nI s)] (HP L dy I y y1 n1 w1 c y2 R J) (some (.int (nI (wa Y p s)))) (HP L dy I y y1 n1 w1 c y2 R J) := by
  obtain ⟨h1, h2, h3⟩ := hY
  have hn : n ≤ 10 := h2.1
  have hsm := sm_in h2 hp
  obtain ⟨k1, k2, k3, -⟩ := h2.2 p hp
  obtain ⟨e1, e2, -⟩ := h3 p hp
  have vi : vp_in (nI p) 10 := nI_vi (by omega) (by decide)
  have hc : (nI p).toNatClampNeg = p := nI_nc (by omega)
  unfold sm at hs hsm
  unfold wa
  refine mj_ci rfl (Nat.le_of_ble_eq_true rfl) ?_
  refine mj_run 10 rfl ⟨vi, vi⟩ ?_
  simp only [hc, e1, e2]
  refine mj_bra rfl rfl (fun g => ?_) (fun g => ?_)
  · rw [nI_e (by omega) (by decide)] at g
    rw [if_neg g] at hs hsm ⊢
    refine mj_run 5 rfl vi ?_
    simp only [hc, e1]
    refine mj_bra rfl rfl (fun g2 => ?_) (fun g2 => ?_)
    · rw [nI_e (by omega) (by decide)] at g2
      rw [if_neg g2]
      refine mj_run 1 rfl trivial ?_
      exact mj_end rfl rfl trivial
    · rw [nI_e (by omega) (by decide)] at g2
      rw [if_pos (Classical.not_not.mp g2)]
      refine mj_run 4 rfl (show ¬ nI 2 = 0 by decide) ?_
      rw [pk_div (by omega) (by decide) (by decide)]
      exact mj_end rfl rfl trivial
  · rw [nI_e (by omega) (by decide)] at g
    have g := Classical.not_not.mp g
    rw [if_pos g] at hs hsm ⊢
    refine mj_run 2 rfl trivial ?_
    refine mj_bra rfl rfl (fun g2 => ?_) (fun g2 => ?_)
    · rw [nI_leI (by omega) (by omega)] at g2
      rw [if_neg (by omega)]
      refine mj_run 8 rfl trivial ?_
      rw [pk_mul, pk_sub (by omega), pk_sub (by split at hs <;> omega)]
      exact mj_end rfl rfl trivial
    · rw [nI_leI (by omega) (by omega)] at g2
      rw [if_pos (by omega)]
      refine mj_run 2 rfl trivial ?_
      exact mj_end rfl rfl trivial
theorem M_turned (hY : MY I n Y) {p s : Nat} (hp : p < n) (hs : s < sm Y p) : mj_call mj_P (d + 2) kn_M_turned [.ref 45, .int (nI p), .int (nI s)] (HP L dy I y y1 n1 w1 c y2 R J) (some (.int (nI (tn Y p s)))) (HP L dy I y y1 n1 w1 c y2 R J) := by
  have hY0 := hY
  obtain ⟨h1, h2, h3⟩ := hY
  have hn : n ≤ 10 := h2.1
  have hsm := sm_in h2 hp
  obtain ⟨k1, k2, k3, -⟩ := h2.2 p hp
  obtain ⟨e1, e2, -⟩ := h3 p hp
  have vi : vp_in (nI p) 10 := nI_vi (by omega) (by decide)
  have hc : (nI p).toNatClampNeg = p := nI_nc (by omega)
  unfold tn
  refine mj_ci rfl (Nat.le_of_ble_eq_true rfl) ?_
  refine mj_run 5 rfl vi ?_
  simp only [hc, e1]
  refine mj_bra rfl rfl (fun g => ?_) (fun g => ?_)
  · rw [nI_e (by omega) (by decide)] at g
    rw [if_neg g]
    refine mj_run 5 rfl trivial ?_
    refine mj_cal rfl rfl (M_standMany hY0 hp) ?_
    refine mj_run 1 rfl (show ¬ nI (sm Y p) = 0 by rw [nI_z (by omega)]; omega) ?_
    rw [nI_add, pk_rem (by omega) (by omega) (by omega)]
    exact mj_end rfl rfl trivial
  · rw [nI_e (by omega) (by decide)] at g
    rw [if_pos (Classical.not_not.mp g)]
    refine mj_run 2 rfl trivial ?_
    exact mj_end rfl rfl trivial
end MM
