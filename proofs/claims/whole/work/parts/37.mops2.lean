theorem mj_sw_nI {df k : Nat} {ts : List Nat} {q : Nat} (hk : k < 2147483648) (h : ts[k]? = some q) : mj_sw 0 df ts (nI k) = q := by
  have e : (nI k).toInt = (k : Int) := nI_toInt hk
  unfold mj_sw
  rw [e, if_neg (by omega)]
  have : ((k : Int) - 0).toNat = k := by omega
  rw [this, h]
theorem mj_sw_out {df : Nat} {ts : List Nat} {x : Int32} (h : x.toInt < 0 ∨ (ts.length : Int) ≤ x.toInt) : mj_sw 0 df ts x = df := by
  unfold mj_sw
  by_cases g : x.toInt < 0
  · rw [if_pos g]
  · rw [if_neg g, List.getElem?_eq_none (by omega)]
/-- a number told by 'what' -/
def tb (f : Nat → Int32) (N : Nat) (df : Int32) (x : Int32) : Int32 := if 0 ≤ x.toInt ∧ x.toInt < N then f x.toNatClampNeg else df
theorem tb_in {f : Nat → Int32} {N k : Nat} {df : Int32} (hk : k < N) (hN : N < 2147483648) : tb f N df (nI k) = f k := by
  unfold tb
  rw [nI_toInt (by omega), if_pos (by omega), nI_nc (by omega)]
theorem tb_out {f : Nat → Int32} {N : Nat} {df x : Int32} (h : x.toInt < 0 ∨ (N : Int) ≤ x.toInt) : tb f N df x = df := by
  unfold tb
  rw [if_neg (by omega)]
theorem i_cases (x : Int32) (N : Nat) : (x.toInt < 0 ∨ (N : Int) ≤ x.toInt) ∨ ∃ k, k < N ∧ x = nI k := by
  by_cases h : 0 ≤ x.toInt ∧ x.toInt < N
  · exact Or.inr (i_nI h)
  · exact Or.inl (by omega)
def abF (Y : Yd) (T : Nat → Nat) (p : Nat) : Nat → Int32
  | 0 => nI (Y.1 p)
  | 1 => nI (Y.2.1 p)
  | 2 => nI (T p)
  | 3 => nI (sm Y p)
  | 4 => nI (wa Y p (T p))
  | 10 => if 0 < Y.2.1 p then nI (Y.2.2 p 0) else Int32.ofInt (-1)
  | 11 => if 1 < Y.2.1 p then nI (Y.2.2 p 1) else Int32.ofInt (-1)
  | 12 => if 2 < Y.2.1 p then nI (Y.2.2 p 2) else Int32.ofInt (-1)
  | _ => Int32.ofInt (-102)
def ctF (n t wn pn yr dn : Nat) : Nat → Int32
  | 0 => nI n
  | 1 => nI t
  | 2 => nI wn
  | 3 => nI pn
  | 4 => nI yr
  | _ => nI dn
/-- the least stand at a way -/
def lsd (Y : Yd) (p w : Nat) : Nat := if Y.1 p = 3 then 2 * w else w
theorem lsd_in {n : Nat} {Y : Yd} (h : YOK n Y) {p w : Nat} (hp : p < n) (hw : w < Y.2.1 p) : lsd Y p w < sm Y p ∧ wa Y p (lsd Y p w) = w ∧ ∀ s, s < lsd Y p w → wa Y p s ≠ w := by
  obtain ⟨h1, h2, h3, -⟩ := h.2 p hp
  unfold lsd sm wa
  by_cases hk3 : Y.1 p = 3
  · simp only [hk3, if_true, show ¬ (3 : Nat) = 2 by decide, if_false]
    refine ⟨by omega, by omega, fun s hs => by omega⟩
  · simp only [hk3, if_false]
    by_cases hk2 : Y.1 p = 2
    · simp only [hk2, if_true]
      refine ⟨?_, by rw [if_pos hw], fun s hs => ?_⟩
      · split <;> omega
      · rw [if_pos (by omega)]
        omega
    · simp only [hk2, if_false]
      exact ⟨hw, trivial, fun s hs => by omega⟩
def zrI (I : mjI) (dst k : Nat) : mjI := fun a => if a = dst then (fun i => if i < k then nI 0 else I dst i) else I a
theorem zrI_0 (I : mjI) (dst : Nat) : zrI I dst 0 = I := by
  funext a
  by_cases h : a = dst
  · subst h
    simp [zrI]
  · simp [zrI, h]
theorem zrI_s {I : mjI} {dst k : Nat} : mj_ui (zrI I dst k) dst k (nI 0) = zrI I dst (k + 1) := by
  funext a
  by_cases h : a = dst
  · subst h
    funext i
    by_cases h2 : i = k
    · simp [mj_ui, zrI, upd, h2]
    · by_cases h3 : i < k
      · simp [mj_ui, zrI, upd, h2, h3, Nat.lt_succ_of_lt h3]
      · simp [mj_ui, zrI, upd, h2, h3, show ¬ i < k + 1 by omega]
  · simp [mj_ui, zrI, h]
theorem Fr.z (I : mjI) {dst : Nat} (ha : dst ≠ 45) (k : Nat) : Fr [] [dst] I (zrI I dst k) := ⟨fun b h _ => by simp at h; simp [zrI, h], fun j h => by simp [zrI, ha.symm]⟩
section MM
variable {d L : Nat} {dy : mjM} {I : mjI} {y y1 n1 w1 c y2 : Option Nat} {R : mjR} {J : mjJ} {pn : Nat} {pg : Nat → Nat} {n : Nat} {Y : Yd} {T : Nat → Nat} {t : Nat} {tr : Nat → Nat} {kp : Kp} {wn : Nat} {wt : Nat → Nat} {yr dn : Nat}
theorem M_aboutOf (hY : MY I n Y) (hS : Mst I n Y T) {p : Nat} (hp : p < n) (x : Int32) : mj_call mj_P (d + 2) kn_M_aboutOf [.ref 45, .int (nI p), .int x] (HP L dy I y y1 n1 w1 c y2 R J) (some (.int (tb (abF Y T p) 13 (Int32.ofInt (-102)) x))) (HP L dy I y y1 n1 w1 c y2 R J) := by
  have hY0 := hY
  obtain ⟨h1, h2, h3⟩ := hY
  have hn : n ≤ 10 := h2.1
  obtain ⟨k1, k2, k3, -⟩ := h2.2 p hp
  obtain ⟨e1, e2, e3⟩ := h3 p hp
  have vi : vp_in (nI p) 10 := nI_vi (by omega) (by decide)
  have hc : (nI p).toNatClampNeg = p := nI_nc (by omega)
  have hT := hS.1 p hp
  have hTs := hS.2 p hp
  refine mj_ci rfl (Nat.le_of_ble_eq_true rfl) ?_
  refine mj_run 2 rfl trivial ?_
  rcases i_cases x 13 with hx | ⟨k, hk, rfl⟩
  · rw [tb_out hx, mj_sw_out hx]
    refine mj_run 1 rfl trivial ?_
    exact mj_end rfl rfl trivial
  · rw [tb_in hk (by decide)]
    have way : ∀ w, w < 3 → mj_Rd (mj_call mj_P (d + 1)) kc_M_aboutOf 1 (107, [some (.ref 45), some (.int (nI p)), some (.int (nI (10 + w)))], [], HP L dy I y y1 n1 w1 c y2 R J) (some (.int (if w < Y.2.1 p then nI (Y.2.2 p w) else Int32.ofInt (-1)))) (HP L dy I y y1 n1 w1 c y2 R J) := by
      intro w hw
      have e5 : nI 3 * nI p + nI (10 + w) - nI 10 = nI (3 * p + w) := by
        rw [pk_mul, nI_add, pk_sub (by omega)]
        congr 1
        omega
      refine mj_run 10 rfl (by rw [e5]; exact nI_vi (by omega) (by decide)) ?_
      rw [e5, nI_nc (by omega), e3 w hw]
      exact mj_end rfl rfl trivial
    have dflt : mj_Rd (mj_call mj_P (d + 1)) kc_M_aboutOf 1 (121, [some (.ref 45), some (.int (nI p)), some (.int (nI k))], [], HP L dy I y y1 n1 w1 c y2 R J) (some (.int (Int32.ofInt (-102)))) (HP L dy I y y1 n1 w1 c y2 R J) := by
      refine mj_run 1 rfl trivial ?_
      exact mj_end rfl rfl trivial
    match k, hk with
    | 0, _ =>
      rw [mj_sw_nI (q := 68) (by decide) rfl]
      refine mj_run 4 rfl vi ?_
      rw [hc, e1]
      exact mj_end rfl rfl trivial
    | 1, _ =>
      rw [mj_sw_nI (q := 75) (by decide) rfl]
      refine mj_run 4 rfl vi ?_
      rw [hc, e2]
      exact mj_end rfl rfl trivial
    | 2, _ =>
      rw [mj_sw_nI (q := 82) (by decide) rfl]
      refine mj_run 4 rfl vi ?_
      rw [hc, hT]
      exact mj_end rfl rfl trivial
    | 3, _ =>
      rw [mj_sw_nI (q := 89) (by decide) rfl]
      refine mj_run 2 rfl trivial ?_
      refine mj_cal rfl rfl (M_standMany hY0 hp) ?_
      exact mj_end rfl rfl trivial
    | 4, _ =>
      rw [mj_sw_nI (q := 95) (by decide) rfl]
      refine mj_run 6 rfl vi ?_
      rw [hc, hT]
      refine mj_cal rfl rfl (M_wayAt hY0 hp hTs) ?_
      exact mj_end rfl rfl trivial
    | 5, _ => rw [mj_sw_nI (q := 121) (by decide) rfl]; exact dflt
    | 6, _ => rw [mj_sw_nI (q := 121) (by decide) rfl]; exact dflt
    | 7, _ => rw [mj_sw_nI (q := 121) (by decide) rfl]; exact dflt
    | 8, _ => rw [mj_sw_nI (q := 121) (by decide) rfl]; exact dflt
    | 9, _ => rw [mj_sw_nI (q := 121) (by decide) rfl]; exact dflt
    | 10, _ => rw [mj_sw_nI (q := 107) (by decide) rfl]; exact way 0 (by decide)
    | 11, _ => rw [mj_sw_nI (q := 107) (by decide) rfl]; exact way 1 (by decide)
    | 12, _ => rw [mj_sw_nI (q := 107) (by decide) rfl]; exact way 2 (by decide)
    | q + 13, hq => omega
theorem MO_about (h : MI I pn pg n Y T t tr kp wn wt yr dn) (x z : Int32) : mj_call mj_P (d + 3) kn_M_about [.ref 45, .int x, .int z] (HP L dy I y y1 n1 w1 c y2 R J) (some (.int (if 0 ≤ x.toInt ∧ x.toInt < n then tb (abF Y T x.toNatClampNeg) 13 (Int32.ofInt (-102)) z else Int32.ofInt (-101)))) (HP L dy I y y1 n1 w1 c y2 R J) := by
  refine mj_ci rfl (Nat.le_of_ble_eq_true rfl) ?_
  refine mj_run 2 rfl trivial ?_
  refine mj_cal rfl rfl (M_isPoint h.2.1 x) ?_
  by_cases g : 0 ≤ x.toInt ∧ x.toInt < n
  · rw [if_pos g, if_pos g]
    refine mj_brf rfl rfl (by decide) ?_
    refine mj_run 3 rfl trivial ?_
    obtain ⟨p, hp, rfl⟩ := i_nI g
    have hn : n ≤ 10 := h.2.1.2.1.1
    rw [nI_nc (by omega)]
    refine mj_cal rfl rfl (M_aboutOf h.2.1 h.2.2.1 hp z) ?_
    refine mj_run 1 rfl trivial ?_
    exact mj_end rfl rfl trivial
  · rw [if_neg g, if_neg g]
    refine mj_brt rfl rfl (by decide) ?_
    refine mj_run 1 rfl trivial ?_
    exact mj_end rfl rfl trivial
theorem M_leastStand (hY : MY I n Y) {p w : Nat} (hp : p < n) (hw : w < Y.2.1 p) : mj_call mj_P (d + 2) kn_M_leastStand [.ref 45, .int (nI p), .int (nI w)] (HP L dy I y y1 n1 w1 c y2 R J) (some (.int (nI (lsd Y p w)))) (HP L dy I y y1 n1 w1 c y2 R J) := by
  have hn : n ≤ 10 := hY.2.1.1
  obtain ⟨k1, k2, k3, -⟩ := hY.2.1.2 p hp
  obtain ⟨g1, g2, g3⟩ := lsd_in hY.2.1 hp hw
  have hsm := sm_in hY.2.1 hp
  refine mj_ci rfl (Nat.le_of_ble_eq_true rfl) ?_
  refine mj_run 2 rfl trivial ?_
  refine dn_ind (lsd Y p w) (fun s => mj_Rd (mj_call mj_P (d + 1)) kc_M_leastStand 1 (2, [some (.ref 45), some (.int (nI p)), some (.int (nI w)), some (.int (nI s))], [], HP L dy I y y1 n1 w1 c y2 R J) (some (.int (nI (lsd Y p w)))) (HP L dy I y y1 n1 w1 c y2 R J)) ?_ ?_ 0 (by omega)
  · refine mj_run 3 rfl trivial ?_
    refine mj_cal rfl rfl (M_wayAt hY hp g1) ?_
    refine mj_run 1 rfl trivial ?_
    rw [g2]
    refine mj_brt rfl rfl rfl ?_
    refine mj_run 1 rfl trivial ?_
    exact mj_end rfl rfl trivial
  · intro s hs ih
    refine mj_run 3 rfl trivial ?_
    refine mj_cal rfl rfl (M_wayAt hY hp (by omega)) ?_
    refine mj_run 1 rfl trivial ?_
    have hws := wa_in hY.2.1 hp (show s < sm Y p by omega)
    refine mj_brf rfl rfl (by rw [nI_e (by omega) (by omega)]; exact g3 s hs) ?_
    refine mj_run 2 rfl trivial ?_
    rw [nI_add]
    exact ih
theorem MO_lever (h : MI I pn pg n Y T t tr kp wn wt yr dn) (x z : Int32) : ∃ I', mj_call mj_P (d + 3) kn_M_lever [.ref 45, .int x, .int z] (HP L dy I y y1 n1 w1 c y2 R J) (some (.int (if 0 ≤ x.toInt ∧ x.toInt < n then (if 0 ≤ z.toInt ∧ z.toInt < Y.2.1 x.toNatClampNeg then nI (T x.toNatClampNeg) else Int32.ofInt (-102)) else Int32.ofInt (-101)))) (HP L dy I' y y1 n1 w1 c y2 R J) ∧ MI I' pn pg n Y (if (0 ≤ x.toInt ∧ x.toInt < n) ∧ 0 ≤ z.toInt ∧ z.toInt < Y.2.1 x.toNatClampNeg then fu T x.toNatClampNeg (lsd Y x.toNatClampNeg z.toNatClampNeg) else T) t tr kp wn wt yr dn ∧ Fr [] [53] I I' := by
  have h0 := h
  obtain ⟨h1, h2, h3, h4, h5, h6, h7⟩ := h
  have hn : n ≤ 10 := h2.2.1.1
  by_cases g : 0 ≤ x.toInt ∧ x.toInt < n
  · rw [if_pos g]
    obtain ⟨p, hp, rfl⟩ := i_nI g
    have hc : (nI p).toNatClampNeg = p := nI_nc (by omega)
    rw [hc]
    obtain ⟨k1, k2, k3, -⟩ := h2.2.1.2 p hp
    obtain ⟨e1, e2, e3⟩ := h2.2.2 p hp
    have vi : vp_in (nI p) 10 := nI_vi (by omega) (by decide)
    have ez : (lN 0 ≤ z.toInt64 ∧ z.toInt64 ≤ (I 51 (nI p).toNatClampNeg - nI 1).toInt64) ↔ (0 ≤ z.toInt ∧ z.toInt < Y.2.1 p) := by
      rw [hc, e2, Int64.le_iff_toInt_le, Int64.le_iff_toInt_le, Int32.toInt_toInt64, Int32.toInt_toInt64, pk_sub_toInt (by omega) (by decide)]
      have : (lN 0).toInt = 0 := rfl
      rw [this]
      omega
    by_cases g2 : 0 ≤ z.toInt ∧ z.toInt < Y.2.1 p
    · rw [if_pos g2, if_pos ⟨g, g2⟩]
      obtain ⟨w, hw, rfl⟩ := i_nI g2
      rw [nI_nc (show w < 2147483648 by omega)]
      obtain ⟨q1, q2, q3⟩ := lsd_in h2.2.1 hp hw
      have f := Fr.a I (a := 53) (by decide) p (nI (lsd Y p w))
      refine ⟨mj_ui I 53 p (nI (lsd Y p w)), ?_, ⟨h1.fr f (by decide), h2.fr f (by decide), ⟨fun i hi => ?_, h3.2.fu (fun _ => q1)⟩, h4.fr f (by decide), h5.fr f (by decide), h6.fr f (by decide), h7.fr f (by decide)⟩, f⟩
      · refine mj_ci rfl (Nat.le_of_ble_eq_true rfl) ?_
        refine mj_run 2 rfl trivial ?_
        refine mj_cal rfl rfl (M_isPoint h2 _) ?_
        rw [if_pos g]
        refine mj_brt rfl rfl (by decide) ?_
        refine mj_run 10 rfl vi ?_
        refine mj_cal rfl rfl (M_in_t (ez.mpr g2)) ?_
        refine mj_brt rfl rfl (by decide) ?_
        refine mj_run 11 rfl vi ?_
        rw [hc, h3.1 p hp]
        refine mj_cal rfl rfl (M_leastStand h2 hp hw) ?_
        refine mj_run 2 rfl ⟨vi, by decide⟩ ?_
        rw [hc]
        exact mj_end rfl rfl trivial
      · by_cases hi2 : i = p
        · subst hi2
          simp [mj_ui, upd, fu]
        · simp [mj_ui, upd, fu, hi2, h3.1 i hi]
    · rw [if_neg g2, if_neg (fun q => g2 q.2)]
      refine ⟨I, ?_, h0, (Fr.rf I).w (by simp) (by simp)⟩
      refine mj_ci rfl (Nat.le_of_ble_eq_true rfl) ?_
      refine mj_run 2 rfl trivial ?_
      refine mj_cal rfl rfl (M_isPoint h2 _) ?_
      rw [if_pos g]
      refine mj_brt rfl rfl (by decide) ?_
      refine mj_run 10 rfl vi ?_
      refine mj_cal rfl rfl (M_in_f (fun q => g2 (ez.mp q))) ?_
      refine mj_brf rfl rfl (by decide) ?_
      refine mj_run 1 rfl trivial ?_
      exact mj_end rfl rfl trivial
  · rw [if_neg g, if_neg (fun q => g q.1)]
    refine ⟨I, ?_, h0, (Fr.rf I).w (by simp) (by simp)⟩
    refine mj_ci rfl (Nat.le_of_ble_eq_true rfl) ?_
    refine mj_run 2 rfl trivial ?_
    refine mj_cal rfl rfl (M_isPoint h2 _) ?_
    rw [if_neg g]
    refine mj_brf rfl rfl (by decide) ?_
    refine mj_run 1 rfl trivial ?_
    exact mj_end rfl rfl trivial
theorem MO_anew (h : MI I pn pg n Y T t tr kp wn wt yr dn) : ∃ I', mj_call mj_P (d + 2) kn_M_anew [.ref 45] (HP L dy I y y1 n1 w1 c y2 R J) (some (.int (if n = 0 then Int32.ofInt (-103) else nI t))) (HP L dy I' y y1 n1 w1 c y2 R J) ∧ MI I' pn pg n Y (if n = 0 then T else fun _ => 0) (if n = 0 then t else 0) tr kp wn wt yr dn ∧ Fr [15] [53] I I' := by
  have h0 := h
  obtain ⟨h1, h2, h3, h4, h5, h6, h7⟩ := h
  by_cases hn : n = 0
  · rw [if_pos hn, if_pos hn, if_pos hn]
    refine ⟨I, ?_, h0, (Fr.rf I).w (by simp) (by simp)⟩
    refine mj_ci rfl (Nat.le_of_ble_eq_true rfl) ?_
    refine mj_run 1 rfl trivial ?_
    refine mj_cal rfl rfl (M_lacks h2) ?_
    rw [if_pos hn]
    refine mj_brf rfl rfl (by decide) ?_
    refine mj_run 1 rfl trivial ?_
    exact mj_end rfl rfl trivial
  · rw [if_neg hn, if_neg hn, if_neg hn]
    have f := (Fr.u I 15 (nI 0)).tr (Fr.z (mj_ui I 45 15 (nI 0)) (dst := 53) (by decide) 10)
    have hn10 : n ≤ 10 := h2.2.1.1
    refine ⟨zrI (mj_ui I 45 15 (nI 0)) 53 10, ?_, ⟨h1.fr f (by decide), h2.fr f (by decide), ⟨fun i hi => by simp [zrI, show i < 10 by omega], fun p hp => (sm_in h2.2.1 hp).1⟩, ⟨by simp [zrI, mj_ui, upd], by omega, fun i hi => by omega⟩, h5.fr f (by decide), h6.fr f (by decide), h7.fr f (by decide)⟩, f⟩
    refine mj_ci rfl (Nat.le_of_ble_eq_true rfl) ?_
    refine mj_run 1 rfl trivial ?_
    refine mj_cal rfl rfl (M_lacks h2) ?_
    rw [if_neg hn]
    refine mj_brt rfl rfl (by decide) ?_
    refine mj_run 8 rfl trivial ?_
    rw [h4.1]
    have key := dn_ind 10 (fun p => mj_Rd (mj_call mj_P (d + 1)) kc_M_anew 1 (22, [some (.ref 45), some (.int (nI t)), some (.int (nI p))], [], HP L dy (zrI (mj_ui I 45 15 (nI 0)) 53 p) y y1 n1 w1 c y2 R J) (some (.int (nI t))) (HP L dy (zrI (mj_ui I 45 15 (nI 0)) 53 10) y y1 n1 w1 c y2 R J)) ?_ ?_ 0 (by omega)
    · rw [zrI_0] at key
      exact key
    · refine mj_run 2 rfl trivial ?_
      refine mj_brt rfl rfl (by decide) ?_
      refine mj_run 1 rfl trivial ?_
      exact mj_end rfl rfl trivial
    · intro p hp ih
      refine mj_run 2 rfl trivial ?_
      refine mj_brf rfl rfl (by rw [nI_leI (by decide) (by omega)]; omega) ?_
      refine mj_run 7 rfl ⟨nI_vi (by omega) (by decide), by decide⟩ ?_
      rw [nI_nc (by omega), zrI_s, nI_add]
      exact ih
end MM
