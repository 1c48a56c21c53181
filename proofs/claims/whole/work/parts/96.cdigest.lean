theorem cn_mono (tr : Nat → Nat) (s a : Nat) : ∀ f, cn tr s a ≤ cn tr s (a + f)
  | 0 => Nat.le_refl _
  | f + 1 => by
    have := cn_mono tr s a f
    show _ ≤ cn tr s (a + f + 1)
    simp only [cn]
    split <;> omega
theorem nx_more (tr : Nat → Nat) (s i : Nat) : ∀ f k, i < cn tr s (k + f) → nx tr s i (f + 1) k (cn tr s k) = nx tr s i f k (cn tr s k) ∨ i < cn tr s k
  | 0, k => fun h => Or.inr h
  | f + 1, k => fun h => by
    by_cases g0 : i < cn tr s k
    · exact Or.inr g0
    · refine Or.inl ?_
      rw [nx, show nx tr s i (f + 1) k (cn tr s k) = if tr k = s then (if cn tr s k = i then nI k else nx tr s i f (k + 1) (cn tr s k + 1)) else nx tr s i f (k + 1) (cn tr s k) from rfl]
      have ih := nx_more tr s i f (k + 1) (by rw [show k + 1 + f = k + (f + 1) by omega]; exact h)
      by_cases g : tr k = s
      · rw [if_pos g, if_pos g]
        by_cases e : cn tr s k = i
        · rw [if_pos e, if_pos e]
        · rw [if_neg e, if_neg e]
          rw [show cn tr s (k + 1) = cn tr s k + 1 by simp [cn, g]] at ih
          exact ih.resolve_right (by omega)
      · rw [if_neg g, if_neg g]
        rw [show cn tr s (k + 1) = cn tr s k by simp [cn, g]] at ih
        exact ih.resolve_right g0
theorem nx_last (tr : Nat → Nat) (s : Nat) : ∀ f k, tr (k + f) = s → nx tr s (cn tr s (k + f)) (f + 1) k (cn tr s k) = nI (k + f)
  | 0, k => fun h => by
    rw [nx, if_pos (show tr k = s from h)]
    exact if_pos rfl
  | f + 1, k => fun h => by
    have ih := nx_last tr s f (k + 1) (by rw [show k + 1 + f = k + (f + 1) by omega]; exact h)
    rw [show k + 1 + f = k + (f + 1) by omega] at ih
    have mo := cn_mono tr s (k + 1) f
    rw [show k + 1 + f = k + (f + 1) by omega] at mo
    rw [nx]
    by_cases g : tr k = s
    · rw [show cn tr s (k + 1) = cn tr s k + 1 by simp [cn, g]] at ih mo
      rw [if_pos g, if_neg (by omega)]
      exact ih
    · rw [show cn tr s (k + 1) = cn tr s k by simp [cn, g]] at ih mo
      rw [if_neg g]
      exact ih
def dgV (f : Nat → Int32) : Nat → Int64 → Int64
  | 0, h => h
  | j + 1, h => sy (dgV f j h) (f j)
theorem dgV_eq {f g : Nat → Int32} (h : Int64) : ∀ k, (∀ j, j < k → f j = g j) → dgV f k h = dgV g k h
  | 0, _ => rfl
  | k + 1, e => by
    show sy _ _ = sy _ _
    rw [dgV_eq h k (fun j hj => e j (by omega)), e k (by omega)]
theorem dgQ_V (tr : Nat → Nat) (s : Nat) (h : Int64) : ∀ t, dgV (fun j => nx tr s j t 0 0) (cn tr s t) h = dgQ tr s t h
  | 0 => rfl
  | t + 1 => by
    have ih := dgQ_V tr s h t
    have same : dgV (fun j => nx tr s j (t + 1) 0 0) (cn tr s t) h = dgQ tr s t h := by
      rw [← ih]
      refine dgV_eq h _ (fun j hj => ?_)
      have := nx_more tr s j t 0 (by rw [Nat.zero_add]; exact hj)
      exact this.resolve_right (Nat.not_lt_zero _)
    rw [dgQ]
    by_cases g : tr t = s
    · rw [if_pos g, show cn tr s (t + 1) = cn tr s t + 1 by simp [cn, g]]
      show sy _ _ = _
      rw [same]
      have := nx_last tr s t 0 (by rw [Nat.zero_add]; exact g)
      rw [Nat.zero_add] at this
      exact congrArg _ this
    · rw [if_neg g, show cn tr s (t + 1) = cn tr s t by simp [cn, g]]
      exact same
theorem dgA_10 (Y : Yd) (T : Nat → Nat) (p : Nat) (h : Int64) : dgA Y T p 10 h = dgA Y T p 5 h := by simp [dgA]
section CC
variable {d L : Nat} {dy : mjM} {I : mjI} {y y1 n1 w1 c y2 : Option Nat} {R : mjR} {J : mjJ} {pn : Nat} {pg : Nat → Nat} {n : Nat} {Y : Yd} {T : Nat → Nat} {t : Nat} {tr : Nat → Nat} {kp : Kp} {wn : Nat} {wt : Nat → Nat} {yr dn : Nat}
theorem CO_aboutN (ab : AB pn pg n Y T t tr kp wn wt yr dn) (h : CI (FM L dy) I (FR y y1 n1 w1 c y2 R) y pn pg n Y T t tr kp wn wt yr dn) {p k : Nat} (hp : p < n) (hk : k < 13) : mj_call mj_P (d + 3) kn_T_about [.ref 1, .int (nI p), .int (nI k)] (HP L dy I y y1 n1 w1 c y2 R J) (some (.int (abF Y T p k))) (HP L dy I y y1 n1 w1 c y2 R J) := by
  have hn10 : n ≤ 10 := ab.2.1.1
  have := CO_about (d := d) (J := J) ab h (nI p) (nI k)
  rw [nI_toInt (by omega), if_pos (by omega), nI_nc (by omega), tb_in hk (by decide)] at this
  exact this
theorem T_countN (ab : AB pn pg n Y T t tr kp wn wt yr dn) (h : CI (FM L dy) I (FR y y1 n1 w1 c y2 R) y pn pg n Y T t tr kp wn wt yr dn) {k : Nat} (hk : k < 6) : mj_call mj_P (d + 1) kn_T_count [.ref 1, .int (nI k)] (HP L dy I y y1 n1 w1 c y2 R J) (some (.int (ctF n t wn pn yr dn k))) (HP L dy I y y1 n1 w1 c y2 R J) := by
  have := T_count (d := d) (J := J) ab h (nI k)
  rw [tb_in hk (by decide)] at this
  exact this
theorem T_dSw (ab : AB pn pg n Y T t tr kp wn wt yr dn) (h : CI (FM L dy) I (FR y y1 n1 w1 c y2 R) y pn pg n Y T t tr kp wn wt yr dn) : mj_call mj_P (d + 4) kn_T_digestOfSwitches [.ref 1, .long (lN 521)] (HP L dy I y y1 n1 w1 c y2 R J) (some (.long (dgN Y T n))) (HP L dy I y y1 n1 w1 c y2 R J) := by
  have hn10 : n ≤ 10 := ab.2.1.1
  refine mj_ci rfl (Nat.le_of_ble_eq_true rfl) ?_
  refine mj_run 4 rfl trivial ?_
  refine mj_cal rfl rfl (T_countN ab h (k := 0) (by omega)) ?_
  refine mj_run 3 rfl trivial ?_
  refine dn_ind n (fun p => ∀ l7 : Option Value, mj_Rd (mj_call mj_P (d + 3)) kc_T_digestOfSwitches 3 (12, [some (.ref 1), some (.long (lN 521)), none, some (.long (dgN Y T p)), none, some (.int (nI n)), some (.int (nI p)), l7], [], HP L dy I y y1 n1 w1 c y2 R J) (some (.long (dgN Y T n))) (HP L dy I y y1 n1 w1 c y2 R J)) ?_ ?_ 0 (by omega) none
  · intro l7
    refine mj_run 2 rfl trivial ?_
    refine mj_brt rfl rfl (by rw [nI_leI (by omega) (by omega)]; omega) ?_
    refine mj_run 1 rfl trivial ?_
    exact mj_end rfl rfl trivial
  · intro p hp ih l7
    refine mj_run 2 rfl trivial ?_
    refine mj_brf rfl rfl (by rw [nI_leI (by omega) (by omega)]; omega) ?_
    refine mj_run 2 rfl trivial ?_
    refine dn_ind 5 (fun k => mj_Rd (mj_call mj_P (d + 3)) kc_T_digestOfSwitches 3 (22, [some (.ref 1), some (.long (lN 521)), none, some (.long (dgA Y T p k (dgN Y T p))), none, some (.int (nI n)), some (.int (nI p)), some (.int (nI k))], [], HP L dy I y y1 n1 w1 c y2 R J) (some (.long (dgN Y T n))) (HP L dy I y y1 n1 w1 c y2 R J)) ?_ ?_ 0 (by omega)
    · refine mj_run 2 rfl trivial ?_
      refine mj_brt rfl rfl (by decide) ?_
      refine mj_run 2 rfl trivial ?_
      rw [← dgA_10]
      refine dn_ind 13 (fun k => 10 ≤ k → mj_Rd (mj_call mj_P (d + 3)) kc_T_digestOfSwitches 3 (54, [some (.ref 1), some (.long (lN 521)), none, some (.long (dgA Y T p k (dgN Y T p))), none, some (.int (nI n)), some (.int (nI p)), some (.int (nI k))], [], HP L dy I y y1 n1 w1 c y2 R J) (some (.long (dgN Y T n))) (HP L dy I y y1 n1 w1 c y2 R J)) ?_ ?_ 10 (by omega) (Nat.le_refl _)
      · intro _
        refine mj_run 2 rfl trivial ?_
        refine mj_brt rfl rfl (by decide) ?_
        refine mj_run 2 rfl trivial ?_
        rw [nI_add]
        exact ih _
      · intro k hk ihk h10
        refine mj_run 2 rfl trivial ?_
        refine mj_brf rfl rfl (by rw [nI_ltI (by omega) (by omega)]; omega) ?_
        refine mj_run 6 rfl trivial ?_
        refine mj_cal rfl rfl (CO_aboutN ab h hp hk) ?_
        refine mj_run 5 rfl trivial ?_
        rw [nI_add]
        have := ihk (by omega)
        rw [dgA, if_pos (by omega)] at this
        exact this
    · intro k hk ihk
      refine mj_run 2 rfl trivial ?_
      refine mj_brf rfl rfl (by rw [nI_ltI (by omega) (by omega)]; omega) ?_
      refine mj_run 6 rfl trivial ?_
      refine mj_cal rfl rfl (CO_aboutN ab h hp (show k < 13 by omega)) ?_
      refine mj_run 5 rfl trivial ?_
      rw [nI_add]
      rw [dgA, if_pos (by omega)] at ihk
      exact ihk
theorem T_dSi (ab : AB pn pg n Y T t tr kp wn wt yr dn) (h : CI (FM L dy) I (FR y y1 n1 w1 c y2 R) y pn pg n Y T t tr kp wn wt yr dn) (g0 : Int64) : mj_call mj_P (d + 2) kn_T_digestOfSidings [.ref 1, .long g0] (HP L dy I y y1 n1 w1 c y2 R J) (some (.long (dgU tr t 10 g0))) (HP L dy I y y1 n1 w1 c y2 R J) := by
  have hb := ab.2.2.2.1
  refine mj_ci rfl (Nat.le_of_ble_eq_true rfl) ?_
  refine mj_run 4 rfl trivial ?_
  refine dn_ind 10 (fun s => ∀ l6 l7 : Option Value, mj_lg l6 = true → mj_Rd (mj_call mj_P (d + 1)) kc_T_digestOfSidings 3 (5, [some (.ref 1), some (.long g0), none, some (.long (dgU tr t s g0)), none, some (.int (nI s)), l6, l7], [], HP L dy I y y1 n1 w1 c y2 R J) (some (.long (dgU tr t 10 g0))) (HP L dy I y y1 n1 w1 c y2 R J)) ?_ ?_ 0 (by omega) none none rfl
  · intro l6 l7 _
    refine mj_run 2 rfl trivial ?_
    refine mj_brt rfl rfl (by decide) ?_
    refine mj_run 1 rfl trivial ?_
    exact mj_end rfl rfl trivial
  · intro s hs ih l6 l7 hl
    have hcn := cn_le tr s t
    refine mj_run 2 rfl trivial ?_
    refine mj_brf rfl rfl (by rw [nI_leI (by omega) (by omega)]; omega) ?_
    refine mj_run 3 rfl trivial ?_
    refine mj_cal rfl rfl (c_trucksIn hs hb h.2.2.2.1) ?_
    refine mj_run 10 rfl trivial ?_
    refine dn_ind (cn tr s t) (fun j => mj_Rd (mj_call mj_P (d + 1)) kc_T_digestOfSidings 3 (36, [some (.ref 1), some (.long g0), none, some (.long (dgV (fun j => nx tr s j t 0 0) j (sy (dgU tr t s g0) (nI (cn tr s t))))), none, some (.int (nI s)), some (.int (nI (cn tr s t))), some (.int (nI j))], [], HP L dy I y y1 n1 w1 c y2 R J) (some (.long (dgU tr t 10 g0))) (HP L dy I y y1 n1 w1 c y2 R J)) ?_ ?_ 0 (by omega)
    · refine mj_run 2 rfl trivial ?_
      refine mj_brt rfl rfl (by rw [nI_leI (by omega) (by omega)]; omega) ?_
      refine mj_run 2 rfl trivial ?_
      rw [nI_add, dgQ_V]
      exact ih _ _ rfl
    · intro j hj ihj
      refine mj_run 2 rfl trivial ?_
      refine mj_brf rfl rfl (by rw [nI_leI (by omega) (by omega)]; omega) ?_
      refine mj_run 7 rfl trivial ?_
      refine mj_cal rfl rfl (c_truckIn hs (by omega) hb h.2.2.2.1) ?_
      refine mj_run 5 rfl trivial ?_
      rw [nI_add]
      exact ihj
theorem T_dTr {ya ol : Nat} {A B C od : Nat → Nat} (ab : AB pn pg n Y T t tr kp wn wt yr dn) (h : CI (FM L dy) I (FR (some ya) y1 n1 w1 c y2 R) (some ya) pn pg n Y T t tr kp wn wt yr dn) (hn : ¬ n = 0) (hY : CY (FM L dy) I (FR (some ya) y1 n1 w1 c y2 R) ya A B C n ol od Y) (g0 : Int64) : ∃ I', mj_call mj_P (d + 5) kn_T_digestOfTrials [.ref 1, .long g0] (HP L dy I (some ya) y1 n1 w1 c y2 R J) (some (.long (dgE Y T 10 (sy (sy g0 (nI (gt Y none T).2.2)) (nI (if sb Y n n then 1 else 0)))))) (HP L dy I' (some ya) y1 n1 w1 c y2 R J) ∧ CI (FM L dy) I' (FR (some ya) y1 n1 w1 c y2 R) (some ya) pn pg n Y T t tr kp wn wt yr dn ∧ KM I I' := by
  obtain ⟨I1, hc1, hI1, hk1⟩ := CO_moves (d := d) (J := J) ab h
  rw [if_neg hn] at hc1
  have hs1 := CO_straight (d := d + 3) (J := J) hI1
  rw [if_neg hn] at hs1
  obtain ⟨ya', A', B', C', ol', od', e, hY1⟩ := hI1.2.1.non hn
  cases e
  obtain ⟨I2, hc2, hf2, hE2⟩ := T_findEmpty (d := d) (J := J) hY1 hI1.2.2.1 ab.2.2.1
  refine ⟨I2, ?_, hI1.fr hf2 (by decide), hk1.th (hf2.km (by decide))⟩
  refine mj_ci rfl (Nat.le_of_ble_eq_true rfl) ?_
  refine mj_run 4 rfl trivial ?_
  refine mj_cal rfl rfl hc1 ?_
  refine mj_run 7 rfl trivial ?_
  refine mj_cal rfl rfl hs1 ?_
  refine mj_run 4 rfl trivial ?_
  refine mj_cal rfl rfl hc2 ?_
  refine mj_run 2 rfl trivial ?_
  refine dn_ind 10 (fun s => mj_Rd (mj_call mj_P (d + 4)) kc_T_digestOfTrials 3 (31, [some (.ref 1), some (.long g0), none, some (.long (dgE Y T s (sy (sy g0 (nI (gt Y none T).2.2)) (nI (if sb Y n n then 1 else 0))))), none, some (.int (nI s))], [], HP L dy I2 (some ya) y1 n1 w1 c y2 R J) (some (.long (dgE Y T 10 (sy (sy g0 (nI (gt Y none T).2.2)) (nI (if sb Y n n then 1 else 0)))))) (HP L dy I2 (some ya) y1 n1 w1 c y2 R J)) ?_ ?_ 0 (by omega)
  · refine mj_run 2 rfl trivial ?_
    refine mj_brt rfl rfl (by decide) ?_
    refine mj_run 1 rfl trivial ?_
    exact mj_end rfl rfl trivial
  · intro s hs ih
    refine mj_run 2 rfl trivial ?_
    refine mj_brf rfl rfl (by rw [nI_leI (by omega) (by omega)]; omega) ?_
    refine mj_run 7 rfl (nI_vi hs (by decide)) ?_
    rw [nI_nc (by omega), hE2 s hs]
    refine mj_run 5 rfl trivial ?_
    rw [nI_add]
    exact ih
theorem CD_C {I' : mjI} {HG : Int64} (ab : AB pn pg n Y T t tr kp wn wt yr dn) (h : CI (FM L dy) I' (FR y y1 n1 w1 c y2 R) y pn pg n Y T t tr kp wn wt yr dn) : ∀ k, k ≤ 6 → mj_Rd (mj_call mj_P (d + 6)) kc_T_digest 3 (107, [some (.ref 1), some (.long (dgW (ctF n t wn pn yr dn) k HG)), none, some (.int (nI k))], [], HP L dy I' y y1 n1 w1 c y2 R J) (some (.long (dgW (ctF n t wn pn yr dn) 6 HG))) (HP L dy I' y y1 n1 w1 c y2 R J) := by
  refine dn_ind 6 _ ?_ ?_
  · refine mj_run 2 rfl trivial ?_
    refine mj_brt rfl rfl (by decide) ?_
    refine mj_run 1 rfl trivial ?_
    exact mj_end rfl rfl trivial
  · intro k hk ih
    refine mj_run 2 rfl trivial ?_
    refine mj_brf rfl rfl (by rw [nI_ltI (by omega) (by omega)]; omega) ?_
    refine mj_run 5 rfl trivial ?_
    refine mj_cal rfl rfl (T_countN ab h hk) ?_
    refine mj_run 5 rfl trivial ?_
    rw [nI_add]
    exact ih
theorem CD_G {I' : mjI} {HW : Int64} (ab : AB pn pg n Y T t tr kp wn wt yr dn) (h : CI (FM L dy) I' (FR y y1 n1 w1 c y2 R) y pn pg n Y T t tr kp wn wt yr dn) : ∀ k, k ≤ pn → mj_Rd (mj_call mj_P (d + 6)) kc_T_digest 3 (71, [some (.ref 1), some (.long (dgW (fun i => nI (pg i)) k HW)), none, some (.int (nI k))], [], HP L dy I' y y1 n1 w1 c y2 R J) (some (.long (dgW (ctF n t wn pn yr dn) 6 (dgW (fun i => nI (pg i)) pn HW)))) (HP L dy I' y y1 n1 w1 c y2 R J) := by
  have hp := ab.1.1
  refine dn_ind pn _ ?_ ?_
  · refine mj_run 4 rfl trivial ?_
    rw [h.1.1]
    refine mj_brt rfl rfl (by rw [nI_leI (by omega) (by omega)]; omega) ?_
    refine mj_run 2 rfl trivial ?_
    exact CD_C ab h 0 (by omega)
  · intro k hk ih
    refine mj_run 4 rfl trivial ?_
    rw [h.1.1]
    refine mj_brf rfl rfl (by rw [nI_leI (by omega) (by omega)]; omega) ?_
    refine mj_run 8 rfl (nI_vi (show k < 50 by omega) (by decide)) ?_
    rw [nI_nc (by omega), h.1.2 k hk]
    refine mj_run 5 rfl trivial ?_
    rw [nI_add]
    exact ih
theorem CD_W {I' : mjI} {HW : Int64} {l3 : Option Value} (ab : AB pn pg n Y T t tr kp wn wt yr dn) (h : CI (FM L dy) I' (FR y y1 n1 w1 c y2 R) y pn pg n Y T t tr kp wn wt yr dn) : mj_Rd (mj_call mj_P (d + 6)) kc_T_digest 3 (39, [some (.ref 1), some (.long HW), none, l3], [], HP L dy I' y y1 n1 w1 c y2 R J) (some (.long (dgW (ctF n t wn pn yr dn) 6 (dgW (fun i => nI (pg i)) pn (dgW (fun i => nI (wt i)) wn HW))))) (HP L dy I' y y1 n1 w1 c y2 R J) := by
  have hw := ab.2.2.2.2.2.1
  refine mj_run 2 rfl trivial ?_
  refine dn_ind wn (fun k => mj_Rd (mj_call mj_P (d + 6)) kc_T_digest 3 (41, [some (.ref 1), some (.long (dgW (fun i => nI (wt i)) k HW)), none, some (.int (nI k))], [], HP L dy I' y y1 n1 w1 c y2 R J) (some (.long (dgW (ctF n t wn pn yr dn) 6 (dgW (fun i => nI (pg i)) pn (dgW (fun i => nI (wt i)) wn HW))))) (HP L dy I' y y1 n1 w1 c y2 R J)) ?_ ?_ 0 (by omega)
  · refine mj_run 3 rfl trivial ?_
    rw [h.2.2.2.2.2.1.1]
    refine mj_brt rfl rfl (by rw [nI_leI (by omega) (by omega)]; omega) ?_
    refine mj_run 2 rfl trivial ?_
    exact CD_G ab h 0 (by omega)
  · intro k hk ih
    refine mj_run 3 rfl trivial ?_
    rw [h.2.2.2.2.2.1.1]
    refine mj_brf rfl rfl (by rw [nI_leI (by omega) (by omega)]; omega) ?_
    refine mj_run 7 rfl (nI_vi (show k < 8 by omega) (by decide)) ?_
    rw [nI_nc (by omega), h.2.2.2.2.2.1.2 k hk]
    refine mj_run 5 rfl trivial ?_
    rw [nI_add]
    exact ih
theorem CO_digest (ab : AB pn pg n Y T t tr kp wn wt yr dn) (h : CI (FM L dy) I (FR y y1 n1 w1 c y2 R) y pn pg n Y T t tr kp wn wt yr dn) : ∃ I', mj_call mj_P (d + 7) kn_T_digest [.ref 1] (HP L dy I y y1 n1 w1 c y2 R J) (some (.long (dg pn pg n Y T t tr wn wt yr dn))) (HP L dy I' y y1 n1 w1 c y2 R J) ∧ CI (FM L dy) I' (FR y y1 n1 w1 c y2 R) y pn pg n Y T t tr kp wn wt yr dn ∧ KM I I' := by
  unfold dg
  by_cases hn : n = 0
  · rw [if_pos hn]
    have e := h.2.1.nul hn
    subst e
    refine ⟨I, ?_, h, KM.rf I⟩
    refine mj_ci rfl (Nat.le_of_ble_eq_true rfl) ?_
    refine mj_run 2 rfl trivial ?_
    refine mj_cal rfl rfl (T_dSw (d := d + 2) ab h) ?_
    refine mj_run 3 rfl trivial ?_
    refine mj_cal rfl rfl (T_dSi (d := d + 4) ab h _) ?_
    refine mj_run 4 rfl trivial ?_
    exact CD_W ab h
  · rw [if_neg hn]
    obtain ⟨ya, A, B, C, ol, od, rfl, hY⟩ := h.2.1.non hn
    obtain ⟨I1, hc1, hI1, hk1⟩ := T_dTr (d := d + 1) (J := J) ab h hn hY (dgU tr t 10 (dgN Y T n))
    obtain ⟨I2, hc2, hI2, hk2⟩ := CO_noticed (d := d) (J := J) ab hI1
    rw [if_neg hn] at hc2
    refine ⟨I2, ?_, hI2, hk1.th hk2⟩
    refine mj_ci rfl (Nat.le_of_ble_eq_true rfl) ?_
    refine mj_run 2 rfl trivial ?_
    refine mj_cal rfl rfl (T_dSw (d := d + 2) ab h) ?_
    refine mj_run 3 rfl trivial ?_
    refine mj_cal rfl rfl (T_dSi (d := d + 4) ab h _) ?_
    refine mj_run 6 rfl trivial ?_
    refine mj_cal rfl rfl hc1 ?_
    refine mj_run 5 rfl trivial ?_
    refine mj_cal rfl rfl hc2 ?_
    refine mj_run 3 rfl trivial ?_
    exact CD_W ab hI2
end CC
