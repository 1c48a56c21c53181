/-! ===== the class's yard ===== -/
def ptg (k : Nat) : Nat := if k = 1 then 11 else if k = 2 then 18 else if k = 3 then 12 else 14
def PT (m : mjM) (R : mjR) (b c kd k : Nat) : Prop := (∃ q, mj_mt b m = some (ptg kd, q)) ∧ R b 0 = some c ∧ mj_mt c m = some (0, k)
/-- from i a way leads to the siding s, over ways -/
def lds (Y : Yd) (n i s : Nat) : Prop := ∃ k p, pth Y n k i p ∧ p < n ∧ ∃ w, w < Y.2.1 p ∧ Y.2.2 p w = s
def OD (Y : Yd) (n ol : Nat) (od : Nat → Nat) : Prop := ol ≤ n ∧ (∀ k, k < ol → rc Y n (od k)) ∧ (∀ p, rc Y n p → ∃ k, k < ol ∧ od k = p) ∧ (∀ j k, j < ol → k < ol → od j = od k → j = k) ∧ (strt Y n → ∀ j k, j < ol → k < ol → eg Y n (od j) (od k) → j < k)
def CYr (R : mjR) (ya : Nat) (A : Nat → Nat) : Prop := R ya 0 = some (A 0) ∧ R ya 3 = some (A 3) ∧ R ya 4 = some (A 4) ∧ R ya 5 = some (A 5) ∧ R ya 6 = some (A 6) ∧ R ya 7 = some (A 7)
def CYm (m : mjM) (ya : Nat) (A : Nat → Nat) (n ol : Nat) : Prop := mj_mt ya m = some (20, 8) ∧ mj_mt (A 0) m = some (3, n) ∧ mj_mt (A 3) m = some (0, ol) ∧ mj_mt (A 4) m = some (0, 60) ∧ mj_mt (A 5) m = some (0, 60) ∧ mj_mt (A 6) m = some (0, 10) ∧ mj_mt (A 7) m = some (0, 10)
def CYa (ya : Nat) (A B C : Nat → Nat) (n : Nat) : Prop := (65 ≤ ya ∧ 65 ≤ A 0 ∧ 65 ≤ A 3 ∧ 65 ≤ A 4 ∧ 65 ≤ A 5 ∧ 65 ≤ A 6 ∧ 65 ≤ A 7 ∧ ∀ p, p < n → 65 ≤ B p ∧ 65 ≤ C p) ∧ A 7 ≠ ya ∧ A 7 ≠ A 3 ∧ A 7 ≠ A 4 ∧ A 7 ≠ A 5 ∧ A 7 ≠ A 6 ∧ ∀ p, p < n → A 7 ≠ C p
def CYp (m : mjM) (R : mjR) (A B C : Nat → Nat) (n : Nat) (Y : Yd) : Prop := ∀ p, p < n → R (A 0) p = some (B p) ∧ PT m R (B p) (C p) (Y.1 p) (Y.2.1 p)
def CYi (I : mjI) (ya : Nat) (A C : Nat → Nat) (n ol : Nat) (od : Nat → Nat) (Y : Yd) : Prop :=
  I ya 1 = nI n ∧ I ya 2 = nI (if sb Y n n then 1 else 0) ∧ (∀ p, p < n → ∀ w, w < Y.2.1 p → I (C p) w = nI (Y.2.2 p w)) ∧ (∀ k, k < ol → I (A 3) k = nI (od k)) ∧ (∀ p, p < n → ∀ s, s < sm Y p → I (A 4) (p * 6 + s) = nI (pl Y p s) ∧ I (A 5) (p * 6 + s) = nI (tn Y p s)) ∧ ∀ s, s < 10 → ∃ l, l < 1024 ∧ I (A 6) s = nI l ∧ ∀ i, i < n → (l.testBit i = true ↔ lds Y n i s)
def CY (m : mjM) (I : mjI) (R : mjR) (ya : Nat) (A B C : Nat → Nat) (n ol : Nat) (od : Nat → Nat) (Y : Yd) : Prop := (YOK n Y ∧ 1 ≤ n ∧ OD Y n ol od) ∧ CYr R ya A ∧ CYm m ya A n ol ∧ CYa ya A B C n ∧ CYp m R A B C n Y ∧ CYi I ya A C n ol od Y
section CC
variable {m m' : mjM} {I I' : mjI} {R R' : mjR} {J : mjJ} {ya : Nat} {A B C : Nat → Nat} {n ol : Nat} {od : Nat → Nat} {Y : Yd} {d : Nat}
theorem CY.fr (h : CY m I R ya A B C n ol od Y) (f : ∀ a, 65 ≤ a → a ≠ A 7 → I' a = I a) : CY m I' R ya A B C n ol od Y := by
  obtain ⟨h1, h2, h3, h4, h5, i1, i2, i3, i4, i5, i6⟩ := h
  obtain ⟨⟨a1, a2, a3, a4, a5, a6, a7, a8⟩, b1, b2, b3, b4, b5, b6⟩ := id h4
  refine ⟨h1, h2, h3, h4, h5, ?_, ?_, ?_, ?_, ?_, ?_⟩
  · rw [f ya a1 (Ne.symm b1)]; exact i1
  · rw [f ya a1 (Ne.symm b1)]; exact i2
  · intro p hp; rw [f (C p) (a8 p hp).2 (Ne.symm (b6 p hp))]; exact i3 p hp
  · rw [f (A 3) a3 (Ne.symm b2)]; exact i4
  · rw [f (A 4) a4 (Ne.symm b3), f (A 5) a5 (Ne.symm b4)]; exact i5
  · rw [f (A 6) a6 (Ne.symm b5)]; exact i6
theorem PT.mr {b c kd k : Nat} (h : PT m R b c kd k) (hm : ∀ a x, mj_mt a m = some x → mj_mt a m' = some x) (hr : R b 0 = some c → R' b 0 = some c) : PT m' R' b c kd k := by
  obtain ⟨⟨q, h1⟩, h2, h3⟩ := h
  exact ⟨⟨q, hm _ _ h1⟩, hr h2, hm _ _ h3⟩
theorem CY.mr (h : CY m I R ya A B C n ol od Y) (hm : ∀ a x, mj_mt a m = some x → mj_mt a m' = some x) (hr : ∀ a k b x, 65 ≤ a → mj_mt a m = some x → R a k = some b → R' a k = some b) : CY m' I R' ya A B C n ol od Y := by
  obtain ⟨h1, ⟨r0, r3, r4, r5, r6, r7⟩, ⟨m0, m1, m2, m3, m4, m5, m6⟩, h4, h5, h6⟩ := h
  obtain ⟨⟨a1, a2, a3, a4, a5, a6, a7, a8⟩, -⟩ := id h4
  refine ⟨h1, ⟨hr _ _ _ _ a1 m0 r0, hr _ _ _ _ a1 m0 r3, hr _ _ _ _ a1 m0 r4, hr _ _ _ _ a1 m0 r5, hr _ _ _ _ a1 m0 r6, hr _ _ _ _ a1 m0 r7⟩, ⟨hm _ _ m0, hm _ _ m1, hm _ _ m2, hm _ _ m3, hm _ _ m4, hm _ _ m5, hm _ _ m6⟩, h4, fun p hp => ?_, h6⟩
  obtain ⟨g1, g2⟩ := h5 p hp
  obtain ⟨q, hq⟩ := g2.1
  exact ⟨hr _ _ _ _ a2 m1 g1, g2.mr hm (fun g => hr _ _ _ _ (a8 p hp).1 hq g)⟩
/-! points -/
theorem P_kind {p b c : Nat} (hY : YOK n Y) (hp : p < n) (hP : PT m R b c (Y.1 p) (Y.2.1 p)) : ∃ f, mj_sel (ptg (Y.1 p)) [11, 7, 12, 10, 14, 28, 18, 55] = some f ∧ mj_call mj_P (d + 1) f [.ref b] (m, I, R, J) (some (.int (nI (Y.1 p)))) (m, I, R, J) := by
  have hk := (hY.2 p hp).1
  have : Y.1 p = 0 ∨ Y.1 p = 1 ∨ Y.1 p = 2 ∨ Y.1 p = 3 := by omega
  rcases this with e | e | e | e <;> rw [e]
  · exact ⟨28, rfl, mj_ci rfl (Nat.le_of_ble_eq_true rfl) (mj_run 1 rfl trivial (mj_end rfl rfl trivial))⟩
  · exact ⟨7, rfl, mj_ci rfl (Nat.le_of_ble_eq_true rfl) (mj_run 1 rfl trivial (mj_end rfl rfl trivial))⟩
  · exact ⟨55, rfl, mj_ci rfl (Nat.le_of_ble_eq_true rfl) (mj_run 1 rfl trivial (mj_end rfl rfl trivial))⟩
  · exact ⟨10, rfl, mj_ci rfl (Nat.le_of_ble_eq_true rfl) (mj_run 1 rfl trivial (mj_end rfl rfl trivial))⟩
theorem Pt_sc {b c k t q : Nat} (hm : mj_mt b m = some (t, q)) (ht : mj_any t [11, 12, 14, 18] = true) (hr : R b 0 = some c) (hc : mj_mt c m = some (0, k)) : mj_call mj_P (d + 1) kn_Pt_standCount [.ref b] (m, I, R, J) (some (.int (nI k))) (m, I, R, J) := by
  refine mj_ci rfl (Nat.le_of_ble_eq_true rfl) ?_
  refine mj_run 1 rfl trivial ?_
  refine sx_gr rfl hm ht hr ?_
  refine sx_ln rfl hc rfl ?_
  exact mj_end rfl rfl trivial
theorem La_sc {b c k t q : Nat} (hm : mj_mt b m = some (t, q)) (ht : mj_any t [11, 12, 14, 18] = true) (hr : R b 0 = some c) (hc : mj_mt c m = some (0, k)) : mj_call mj_P (d + 1) kn_La_standCount [.ref b] (m, I, R, J) (some (.int (nI (2 * k)))) (m, I, R, J) := by
  refine mj_ci rfl (Nat.le_of_ble_eq_true rfl) ?_
  refine mj_run 2 rfl trivial ?_
  refine sx_gr rfl hm ht hr ?_
  refine sx_ln rfl hc rfl ?_
  refine mj_run 1 rfl trivial ?_
  rw [pk_mul]
  exact mj_end rfl rfl trivial
theorem Sw_sc {b c k t q : Nat} (hm : mj_mt b m = some (t, q)) (ht : mj_any t [11, 12, 14, 18] = true) (hr : R b 0 = some c) (hc : mj_mt c m = some (0, k)) (h1 : 1 ≤ k) (h3 : k ≤ 3) : mj_call mj_P (d + 2) kn_Sw_standCount [.ref b] (m, I, R, J) (some (.int (nI (max 1 (2 * k - 2))))) (m, I, R, J) := by
  refine mj_ci rfl (Nat.le_of_ble_eq_true rfl) ?_
  refine mj_run 3 rfl trivial ?_
  refine sx_gr rfl hm ht hr ?_
  refine sx_ln rfl hc rfl ?_
  refine mj_run 3 rfl trivial ?_
  rw [pk_mul, pk_sub (by omega)]
  refine mj_cal rfl rfl (c_max _ _ (by omega) (by omega)) ?_
  exact mj_end rfl rfl trivial
theorem P_sc {p b c : Nat} (hY : YOK n Y) (hp : p < n) (hP : PT m R b c (Y.1 p) (Y.2.1 p)) : ∃ f, mj_sel (ptg (Y.1 p)) [11, 29, 12, 11, 14, 29, 18, 56] = some f ∧ mj_call mj_P (d + 2) f [.ref b] (m, I, R, J) (some (.int (nI (sm Y p)))) (m, I, R, J) := by
  obtain ⟨hk, k1, k3, -⟩ := hY.2 p hp
  obtain ⟨⟨q, h1⟩, h2, h3⟩ := hP
  have : Y.1 p = 0 ∨ Y.1 p = 1 ∨ Y.1 p = 2 ∨ Y.1 p = 3 := by omega
  unfold sm
  rcases this with e | e | e | e <;> rw [e] at h1 ⊢
  · exact ⟨29, rfl, Pt_sc h1 rfl h2 h3⟩
  · exact ⟨29, rfl, Pt_sc h1 rfl h2 h3⟩
  · refine ⟨56, rfl, ?_⟩
    have := Sw_sc (d := d) (I := I) (J := J) h1 rfl h2 h3 k1 k3
    rw [if_pos rfl]
    have e2 : (if Y.2.1 p = 1 then 1 else 2 * Y.2.1 p - 2) = max 1 (2 * Y.2.1 p - 2) := by split <;> omega
    rw [e2]
    exact this
  · exact ⟨11, rfl, La_sc h1 rfl h2 h3⟩
theorem P_wayAt {p b c s : Nat} (hY : YOK n Y) (hp : p < n) (hP : PT m R b c (Y.1 p) (Y.2.1 p)) (hs : s < sm Y p) : ∃ f, mj_sel (ptg (Y.1 p)) [11, 30, 12, 12, 14, 30, 18, 57] = some f ∧ mj_call mj_P (d + 1) f [.ref b, .int (nI s)] (m, I, R, J) (some (.int (nI (wa Y p s)))) (m, I, R, J) := by
  have hs6 : s < 6 := by have := (sm_in hY hp).2; omega
  obtain ⟨hk, k1, k3, -⟩ := hY.2 p hp
  obtain ⟨⟨q, h1⟩, h2, h3⟩ := hP
  have : Y.1 p = 0 ∨ Y.1 p = 1 ∨ Y.1 p = 2 ∨ Y.1 p = 3 := by omega
  unfold wa
  unfold sm at hs
  rcases this with e | e | e | e <;> rw [e] at h1 hs ⊢
  · exact ⟨30, rfl, mj_ci rfl (Nat.le_of_ble_eq_true rfl) (mj_run 1 rfl trivial (mj_end rfl rfl trivial))⟩
  · exact ⟨30, rfl, mj_ci rfl (Nat.le_of_ble_eq_true rfl) (mj_run 1 rfl trivial (mj_end rfl rfl trivial))⟩
  · refine ⟨57, rfl, mj_ci rfl (Nat.le_of_ble_eq_true rfl) ?_⟩
    rw [if_pos rfl] at hs ⊢
    refine mj_run 2 rfl trivial ?_
    refine sx_gr rfl h1 rfl h2 ?_
    refine sx_ln rfl h3 rfl ?_
    refine mj_bra rfl rfl (fun g => ?_) (fun g => ?_)
    · rw [nI_leI (by omega) (by omega)] at g
      rw [if_neg (by omega)]
      refine mj_run 2 rfl trivial ?_
      refine sx_gr rfl h1 rfl h2 ?_
      refine sx_ln rfl h3 rfl ?_
      refine mj_run 5 rfl trivial ?_
      rw [pk_mul, pk_sub (by omega), pk_sub (by split at hs <;> omega)]
      exact mj_end rfl rfl trivial
    · rw [nI_leI (by omega) (by omega)] at g
      rw [if_pos (by omega)]
      refine mj_run 2 rfl trivial ?_
      exact mj_end rfl rfl trivial
  · refine ⟨12, rfl, mj_ci rfl (Nat.le_of_ble_eq_true rfl) ?_⟩
    refine mj_run 3 rfl (show ¬ nI 2 = 0 by decide) ?_
    rw [pk_div (by omega) (by decide) (by decide)]
    exact mj_end rfl rfl trivial
theorem P_first {p b c w : Nat} (hY : YOK n Y) (hp : p < n) (hP : PT m R b c (Y.1 p) (Y.2.1 p)) : ∃ f, mj_sel (ptg (Y.1 p)) [11, 31, 12, 13, 14, 31, 18, 31] = some f ∧ mj_call mj_P (d + 1) f [.ref b, .int (nI w)] (m, I, R, J) (some (.int (nI (lsd Y p w)))) (m, I, R, J) := by
  have hk := (hY.2 p hp).1
  have : Y.1 p = 0 ∨ Y.1 p = 1 ∨ Y.1 p = 2 ∨ Y.1 p = 3 := by omega
  unfold lsd
  rcases this with e | e | e | e <;> rw [e]
  · exact ⟨31, rfl, mj_ci rfl (Nat.le_of_ble_eq_true rfl) (mj_run 1 rfl trivial (mj_end rfl rfl trivial))⟩
  · exact ⟨31, rfl, mj_ci rfl (Nat.le_of_ble_eq_true rfl) (mj_run 1 rfl trivial (mj_end rfl rfl trivial))⟩
  · exact ⟨31, rfl, mj_ci rfl (Nat.le_of_ble_eq_true rfl) (mj_run 1 rfl trivial (mj_end rfl rfl trivial))⟩
  · refine ⟨13, rfl, mj_ci rfl (Nat.le_of_ble_eq_true rfl) ?_⟩
    refine mj_run 3 rfl trivial ?_
    rw [pk_mul]
    exact mj_end rfl rfl trivial
theorem P_period {p b c : Nat} (hY : YOK n Y) (hp : p < n) (hP : PT m R b c (Y.1 p) (Y.2.1 p)) : ∃ f, mj_sel (ptg (Y.1 p)) [11, 8, 12, 14, 14, 32, 18, 32] = some f ∧ mj_call mj_P (d + 3) f [.ref b] (m, I, R, J) (some (.int (nI (per Y p)))) (m, I, R, J) := by
  obtain ⟨f, hs, hc⟩ := P_sc (d := d) (I := I) (J := J) hY hp hP
  obtain ⟨hk, k1, k3, -⟩ := hY.2 p hp
  obtain ⟨⟨q, h1⟩, h2, h3⟩ := hP
  have : Y.1 p = 0 ∨ Y.1 p = 1 ∨ Y.1 p = 2 ∨ Y.1 p = 3 := by omega
  unfold per
  rcases this with e | e | e | e <;> rw [e] at h1 hs ⊢
  · refine ⟨32, rfl, mj_ci rfl (Nat.le_of_ble_eq_true rfl) ?_⟩
    refine mj_run 1 rfl trivial ?_
    refine sx_v0 rfl h1 hs rfl hc ?_
    exact mj_end rfl rfl trivial
  · exact ⟨8, rfl, mj_ci rfl (Nat.le_of_ble_eq_true rfl) (mj_run 1 rfl trivial (mj_end rfl rfl trivial))⟩
  · refine ⟨32, rfl, mj_ci rfl (Nat.le_of_ble_eq_true rfl) ?_⟩
    refine mj_run 1 rfl trivial ?_
    refine sx_v0 rfl h1 hs rfl hc ?_
    exact mj_end rfl rfl trivial
  · refine ⟨14, rfl, mj_ci rfl (Nat.le_of_ble_eq_true rfl) ?_⟩
    refine mj_run 1 rfl trivial ?_
    refine sx_v0 rfl h1 hs rfl hc ?_
    exact mj_end rfl rfl trivial
theorem ptg_any {k : Nat} (hk : k < 4) : mj_any (ptg k) [11, 12, 14, 18] = true := by
  have : k = 0 ∨ k = 1 ∨ k = 2 ∨ k = 3 := by omega
  rcases this with e | e | e | e <;> subst e <;> rfl
theorem ptg_sel {k f : Nat} (hk : k < 4) : mj_sel (ptg k) [11, f, 12, f, 14, f, 18, f] = some f := by
  have : k = 0 ∨ k = 1 ∨ k = 2 ∨ k = 3 := by omega
  rcases this with e | e | e | e <;> subst e <;> rfl
theorem P_placeBy {p b c w : Nat} (hY : YOK n Y) (hp : p < n) (hP : PT m R b c (Y.1 p) (Y.2.1 p)) (hw : w < 100) (hI : ∀ w, w < Y.2.1 p → I c w = nI (Y.2.2 p w)) : mj_call mj_P (d + 1) kn_Pt_placeBy [.ref b, .int (nI w)] (m, I, R, J) (some (.int (if w < Y.2.1 p then nI (Y.2.2 p w) else Int32.ofInt (-1)))) (m, I, R, J) := by
  obtain ⟨hk, k1, k3, -⟩ := hY.2 p hp
  obtain ⟨⟨q, h1⟩, h2, h3⟩ := hP
  refine mj_ci rfl (Nat.le_of_ble_eq_true rfl) ?_
  refine mj_run 1 rfl trivial ?_
  refine mj_brf rfl rfl (by rw [show (0 : Int32) = nI 0 from rfl, nI_ltI (by omega) (by decide)]; omega) ?_
  refine mj_run 2 rfl trivial ?_
  refine sx_gr rfl h1 (ptg_any hk) h2 ?_
  refine sx_ln rfl h3 rfl ?_
  refine mj_bra rfl rfl (fun g => ?_) (fun g => ?_)
  · rw [nI_leI (by omega) (by omega)] at g
    rw [if_neg (by omega)]
    refine mj_run 1 rfl trivial ?_
    exact mj_end rfl rfl trivial
  · rw [nI_leI (by omega) (by omega)] at g
    rw [if_pos (by omega)]
    refine mj_run 1 rfl trivial ?_
    refine sx_gr rfl h1 (ptg_any hk) h2 ?_
    refine mj_run 1 rfl trivial ?_
    refine sx_ld rfl h3 (nI_vi (by omega) (by omega)) ?_
    rw [nI_nc (by omega), hI w (by omega)]
    refine mj_run 1 rfl trivial ?_
    exact mj_end rfl rfl trivial
end CC
