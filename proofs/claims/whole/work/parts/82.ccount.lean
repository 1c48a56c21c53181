/-! counts, as the class does them -/
theorem sh_div {m a k : Nat} (ha : 1 ≤ a) (h6 : a ≤ 6) (hk : k < a) : (m + a - 1 - k) / a = sh m a k := by
  unfold sh
  have : a = 1 ∨ a = 2 ∨ a = 3 ∨ a = 4 ∨ a = 5 ∨ a = 6 := by omega
  rcases this with e | e | e | e | e | e <;> subst e <;> split <;> omega
theorem tnk_per {n : Nat} {Y : Yd} (h : YOK n Y) {p s : Nat} (hp : p < n) (hs : s < sm Y p) : ∀ k, (if per Y p < 2 then s else (s + k) % per Y p) = tnk Y p s k
  | 0 => by
    unfold tnk
    split
    · rfl
    · unfold per
      split
      · rename_i g q
        unfold per at g
        rw [if_pos q] at g
        omega
      · exact Nat.mod_eq_of_lt hs
  | k + 1 => by
    have ih := tnk_per h hp hs k
    have hp6 := per_in h hp
    show _ = tn Y p (tnk Y p s k)
    have hin := tnk_in h hp hs k
    rw [← tn_per h hp hin]
    by_cases g : per Y p < 2
    · rw [if_pos g, if_pos g]
      rw [if_pos g] at ih
      exact ih
    · rw [if_neg g] at ih ⊢
      rw [if_neg g, ← ih]
      have : per Y p = 2 ∨ per Y p = 3 ∨ per Y p = 4 ∨ per Y p = 5 ∨ per Y p = 6 := by omega
      rcases this with e | e | e | e | e <;> rw [e] <;> omega
theorem thn_F {n : Nat} {Y : Yd} (h : YOK n Y) {T : Nat → Nat} {p m : Nat} (hp : p < n) (hs : T p < sm Y p) : (if per Y p < 2 then T p else (T p + m) % per Y p) = thn Y T false p m := by
  have h6 := sm_in h hp
  unfold thn onn per
  by_cases e : Y.1 p = 1
  · rw [if_pos e, if_pos e, if_pos (by omega), if_neg (show ¬ (false = true) by decide), Nat.add_zero, Nat.mod_eq_of_lt hs]
  · rw [if_neg e, if_neg e, if_neg (show ¬ (false = true) by decide)]
    have : sm Y p = 1 ∨ sm Y p = 2 ∨ sm Y p = 3 ∨ sm Y p = 4 ∨ sm Y p = 5 ∨ sm Y p = 6 := by omega
    rcases this with q | q | q | q | q | q <;> rw [q] at hs ⊢ <;> split <;> omega
theorem thn_T {n : Nat} {Y : Yd} (h : YOK n Y) {T : Nat → Nat} {p m : Nat} (hp : p < n) (hs : T p < sm Y p) : (if per Y p < 2 then T p else (T p + per Y p - m % per Y p) % per Y p) = thn Y T true p m := by
  have h6 := sm_in h hp
  unfold thn onn per
  by_cases e : Y.1 p = 1
  · rw [if_pos e, if_pos e, if_pos (by omega), if_pos rfl, Nat.sub_zero, Nat.add_mod_right, Nat.mod_eq_of_lt hs]
  · rw [if_neg e, if_neg e, if_pos rfl]
    split
    · have : sm Y p = 1 := by omega
      rw [this] at hs ⊢
      omega
    · rfl
/-- the switches of the order from the k-th on wait -/
def WI (Y : Yd) (n : Nat) (T : Nat → Nat) (ng : Bool) (N : Nat) (od : Nat → Nat) (k W : Nat) : Prop := W < 1024 ∧ (∀ q, W.testBit q = true ↔ (rc Y n q ∧ ∀ j, j < k → od j ≠ q)) ∧ mass Y n T ng N W ≤ N
theorem WI_0 {n : Nat} {Y : Yd} (h : YOK n Y) (hn : 1 ≤ n) {T : Nat → Nat} {ng : Bool} {N : Nat} {od : Nat → Nat} : WI Y n T ng N od 0 (cm Y n) := by
  refine ⟨b_lt (k := 10) (rR_lt h _) (by decide), fun q => ?_, mass_0⟩
  rw [cm_bit h hn]
  exact ⟨fun g => ⟨g, fun j hj => by omega⟩, fun g => g.1⟩
theorem WI_step {n ol k W N : Nat} {Y : Yd} {T : Nat → Nat} {ng : Bool} {od : Nat → Nat} (h : YOK n Y) (hn : 1 ≤ n) (hs : strt Y n) (hT : TOK n Y T) (hO : OD Y n ol od) (hk : k < ol) (hW : WI Y n T ng N od k W) : acc Y n T ng N W (od k) = cst Y n T ng N (od k) ∧ cst Y n T ng N (od k) ≤ N ∧ WI Y n T ng N od (k + 1) (less W (od k)) ∧ (∀ q, acc Y n T ng N (less W (od k)) q = acc Y n T ng N W q + Gp Y T ng (od k) (cst Y n T ng N (od k)) q) ∧ ¬ eg Y n (od k) (od k) ∧ (cm Y n).testBit (od k) = true ∧ W.testBit (od k) = true := by
  obtain ⟨o1, o2, o3, o4, o5⟩ := hO
  obtain ⟨w1, w2, w3⟩ := hW
  have hr := o2 k hk
  have hp := rc_lt h hn hr
  have hc : (cm Y n).testBit (od k) = true := (cm_bit h hn _).mpr hr
  have hw : W.testBit (od k) = true := (w2 _).mpr ⟨hr, fun j hj q => by have := o4 j k (by omega) hk q; omega⟩
  have hrd : ∀ q, q < n → W.testBit q = true → ¬ eg Y n q (od k) := by
    intro q hq hwq he
    obtain ⟨g1, g2⟩ := (w2 q).mp hwq
    obtain ⟨j, hj, rfl⟩ := o3 q g1
    have := o5 hs j k hj hk he
    exact g2 j this rfl
  have ha := acc_is (ng := ng) (N := N) h hn hs hT hr hrd
  have hle : cst Y n T ng N (od k) ≤ N := by
    rw [← ha]
    exact Nat.le_trans (mass_mem hw hp) w3
  refine ⟨ha, hle, ⟨less_lt w1, fun q => ?_, ?_⟩, fun q => acc_step w1 hw hp hc q, hrd (od k) hp hw, hc, hw⟩
  · rw [less_bit w1 hw, Bool.and_eq_true, decide_eq_true_iff, w2]
    constructor
    · rintro ⟨⟨g1, g2⟩, g3⟩
      refine ⟨g1, fun j hj => ?_⟩
      by_cases e : j = k
      · subst e; exact Ne.symm g3
      · exact g2 j (by omega)
    · rintro ⟨g1, g2⟩
      exact ⟨⟨g1, fun j hj => g2 j (by omega)⟩, Ne.symm (g2 k (by omega))⟩
  · exact Nat.le_trans (mass_step h w1 hw hp hc ha) w3
theorem bh_less {n W p N : Nat} {Y : Yd} {T : Nat → Nat} {ng : Bool} (hW : W < 1024) (hp : W.testBit p = true) (hc : (cm Y n).testBit p = true) (q : Nat) : bh Y n T ng N (less W p) q = if q = p then thn Y T ng p (cst Y n T ng N p) else bh Y n T ng N W q := by
  unfold bh
  rw [less_bit hW hp q]
  by_cases e : q = p
  · subst e
    simp [hc]
  · simp [e]
theorem bh_end {n ol W N : Nat} {Y : Yd} {T : Nat → Nat} {ng : Bool} {od : Nat → Nat} (hO : OD Y n ol od) (hW : WI Y n T ng N od ol W) (q : Nat) : bh Y n T ng N W q = bh Y n T ng N 0 q := by
  unfold bh
  have : W.testBit q = false := by
    cases hb : W.testBit q with
    | false => rfl
    | true =>
      obtain ⟨g1, g2⟩ := (hW.2.1 q).mp hb
      obtain ⟨j, hj, e⟩ := hO.2.2.1 q g1
      exact absurd e (g2 j hj)
  rw [this]
  simp
theorem bh_w {n W p N : Nat} {Y : Yd} {T : Nat → Nat} {ng : Bool} (hp : W.testBit p = true) : bh Y n T ng N W p = T p := by
  unfold bh
  rw [hp]
  simp
theorem acc_cm {n N q : Nat} {Y : Yd} {T : Nat → Nat} {ng : Bool} : acc Y n T ng N (cm Y n) q = if q = 0 then N else 0 := acc_0
theorem bh_0 {n N q : Nat} {Y : Yd} {T : Nat → Nat} {ng : Bool} : bh Y n T ng N (cm Y n) q = T q := by
  unfold bh
  cases (cm Y n).testBit q <;> simp
section CC
variable {m : mjM} {I : mjI} {R : mjR} {J : mjJ} {ya : Nat} {A B C : Nat → Nat} {n ol : Nat} {od : Nat → Nat} {Y : Yd} {d sA : Nat} {T : Nat → Nat}
theorem Y_placeFrom (hY : CY m I R ya A B C n ol od Y) {p s : Nat} (hp : p < n) (hs : s < sm Y p) : mj_call mj_P (d + 1) kn_Yd_placeFrom [.ref ya, .int (nI p), .int (nI s)] (m, I, R, J) (some (.int (nI (pl Y p s)))) (m, I, R, J) := by
  obtain ⟨⟨hK, hn1, -⟩, ⟨r0, r3, r4, r5, r6, r7⟩, ⟨m0, m1, m2, m3, m4, m5, m6⟩, -, -, i1, i2, i3, i4, i5, i6⟩ := hY
  have hn := hK.1
  have h6 := (sm_in hK hp).2
  refine mj_ci rfl (Nat.le_of_ble_eq_true rfl) ?_
  refine mj_run 7 rfl trivial ?_
  rw [pk_mul, nI_add]
  refine mj_brf rfl rfl (i_nn (by omega)) ?_
  refine mj_run 2 rfl trivial ?_
  refine sx_gr rfl m0 rfl r4 ?_
  refine sx_ln rfl m3 rfl ?_
  refine mj_brf rfl rfl (by rw [nI_leI (by decide) (by omega)]; omega) ?_
  refine mj_run 1 rfl trivial ?_
  refine sx_gr rfl m0 rfl r4 ?_
  refine mj_run 1 rfl trivial ?_
  refine sx_ld rfl m3 (nI_vi (by omega) (by decide)) ?_
  rw [nI_nc (by omega), (i5 p hp s hs).1]
  refine mj_run 1 rfl trivial ?_
  exact mj_end rfl rfl trivial
theorem Y_share (hY : CY m I R ya A B C n ol od Y) {i s : Nat} {P : Nat → Nat} (hi : i < n) (hs : s < sm Y i) (hP : RI I (A 7) n P) (hm : P i ≤ 1000000) (hno : ¬ eg Y n i i) : ∃ I', mj_call mj_P (d + 5) kn_Yd_share [.ref ya, .int (nI i), .int (nI s)] (m, I, R, J) none (m, I', R, J) ∧ (∀ a, a ≠ A 7 → I' a = I a) ∧ RI I' (A 7) n (fun q => P q + ctK Y i s (P i) q (per Y i)) := by
  obtain ⟨⟨hK, hn1, -⟩, ⟨r0, r3, r4, r5, r6, r7⟩, ⟨m0, m1, m2, m3, m4, m5, m6⟩, ⟨⟨a1, a2, a3, a4, a5, a6, a7, a8⟩, -⟩, hp5, -⟩ := id hY
  have hn := hK.1
  obtain ⟨b1, b2⟩ := hp5 i hi
  obtain ⟨⟨q, hq⟩, hr, hc⟩ := id b2
  have kd4 := (hK.2 i hi).1
  have hp6 := per_in hK hi
  have vi : vp_in (nI i) 10 := nI_vi (by omega) (by decide)
  have hcl : (nI i).toNatClampNeg = i := nI_nc (by omega)
  have key : ∀ (f k : Nat) (X : mjI) (l6 : Option Value), k + f = per Y i → (∀ a, a ≠ A 7 → X a = I a) → RI X (A 7) n (fun q => P q + ctK Y i s (P i) q k) → ∃ I', ((∀ a, a ≠ A 7 → I' a = I a) ∧ RI I' (A 7) n (fun q => P q + ctK Y i s (P i) q (per Y i))) ∧ mj_Rd (mj_call mj_P (d + 4)) kc_Yd_share 0 (16, [some (.ref ya), some (.int (nI i)), some (.int (nI s)), some (.ref (B i)), some (.int (nI (per Y i))), some (.int (nI k)), l6], [], m, X, R, J) none (m, I', R, J) := by
    intro f
    induction f with
    | zero =>
      intro k X l6 hk hX hR
      have : k = per Y i := by omega
      subst this
      refine ⟨X, ⟨hX, hR⟩, ?_⟩
      refine mj_run 2 rfl trivial ?_
      refine mj_brt rfl rfl (by rw [nI_leI (by omega) (by omega)]; omega) ?_
      exact mj_end rfl rfl trivial
    | succ f ih =>
      intro k X l6 hk hX hR
      have hYX := hY.fr (I' := X) (fun a _ h => hX a h)
      have hin := tnk_in hK hi hs k
      have hpl := pl_in hK hi hin
      have htu := P_turned (d := d) (I := X) (J := J) (t := k) hK hi b2 hs (by omega)
      rw [tnk_per hK hi hs k] at htu
      have hpf := Y_placeFrom (d := d + 3) (J := J) hYX hi hin
      have start : ∀ (v : Option Value) (h' : mjH), mj_Rd (mj_call mj_P (d + 4)) kc_Yd_share 0 (37, [some (.ref ya), some (.int (nI i)), some (.int (nI s)), some (.ref (B i)), some (.int (nI (per Y i))), some (.int (nI k)), some (.int (nI (pl Y i (tnk Y i s k))))], [], m, X, R, J) v h' → mj_Rd (mj_call mj_P (d + 4)) kc_Yd_share 0 (16, [some (.ref ya), some (.int (nI i)), some (.int (nI s)), some (.ref (B i)), some (.int (nI (per Y i))), some (.int (nI k)), l6], [], m, X, R, J) v h' := by
        intro v h' hx
        refine mj_run 2 rfl trivial ?_
        refine mj_brf rfl rfl (by rw [nI_leI (by omega) (by omega)]; omega) ?_
        refine mj_run 5 rfl trivial ?_
        refine sx_v2 rfl hq (ptg_sel kd4) rfl htu ?_
        refine sx_v2 rfl m0 rfl rfl hpf ?_
        refine mj_run 1 rfl trivial ?_
        exact hx
      by_cases g : pl Y i (tnk Y i s k) < 10
      · obtain ⟨I', hA, hx⟩ := ih (k + 1) X (some (.int (nI (pl Y i (tnk Y i s k))))) (by omega) hX (fun q hq => by
          rw [hR q hq]
          show _ = nI (P q + (ctK Y i s (P i) q k + _))
          rw [if_neg (by omega), Nat.add_zero])
        refine ⟨I', hA, start _ _ ?_⟩
        refine mj_run 2 rfl trivial ?_
        refine mj_brt rfl rfl (by rw [nI_ltI (by omega) (by decide)]; exact g) ?_
        refine mj_run 2 rfl trivial ?_
        rw [nI_add]
        exact hx
      · obtain ⟨b, hb⟩ : ∃ b, pl Y i (tnk Y i s k) = 10 + b := ⟨pl Y i (tnk Y i s k) - 10, by omega⟩
        have hbn : b < n := by omega
        have hbi : b ≠ i := fun e => hno (by
          have := pl_eg hK hi hin hb
          rw [e] at this
          exact this)
        have e0 : ctK Y i s (P i) i k = 0 := ctK_0 hK hi hs hno k
        have xi : X (A 7) i = nI (P i) := by
          have := hR i hi
          dsimp only at this
          rw [this, e0, Nat.add_zero]
        have xb : X (A 7) b = nI (P b + ctK Y i s (P i) b k) := hR b hbn
        obtain ⟨I', hA, hx⟩ := ih (k + 1) (mj_ui X (A 7) b (nI (P b + ctK Y i s (P i) b k + sh (P i) (per Y i) k))) (some (.int (nI (10 + b)))) (by omega) (fun a ha => by simp [mj_ui, ha, hX a ha]) (fun q hq => by
          show _ = nI (P q + (ctK Y i s (P i) q k + _))
          by_cases e : q = b
          · subst e
            rw [if_pos hb]
            simp [mj_ui, upd, Nat.add_assoc]
          · rw [if_neg (by omega), Nat.add_zero]
            have := hR q hq
            simp [mj_ui, upd, e, this])
        rw [hb] at start
        refine ⟨I', hA, start _ _ ?_⟩
        refine mj_run 2 rfl trivial ?_
        refine mj_brf rfl rfl (by rw [nI_ltI (by omega) (by decide)]; omega) ?_
        refine mj_run 1 rfl trivial ?_
        refine sx_gr rfl m0 rfl r7 ?_
        refine mj_run 4 rfl trivial ?_
        rw [pk_sub (by omega), show 10 + b - 10 = b by omega]
        refine sx_ld rfl m6 (nI_vi (by omega) (by decide)) ?_
        rw [nI_nc (by omega), xb]
        refine mj_run 1 rfl trivial ?_
        refine sx_gr rfl m0 rfl r7 ?_
        refine mj_run 1 rfl trivial ?_
        refine sx_ld rfl m6 vi ?_
        rw [hcl, xi]
        refine mj_run 8 rfl (by show ¬ nI (per Y i) = 0; rw [nI_z (by omega)]; omega) ?_
        rw [nI_add, pk_sub (by omega), pk_sub (by omega), pk_div (by omega) (by omega) (by omega), sh_div hp6.1 hp6.2 (by omega)]
        refine mj_run 1 rfl trivial ?_
        rw [nI_add]
        refine sx_st rfl m6 (nI_vi (by omega) (by decide)) (by omega) ?_
        rw [nI_nc (by omega)]
        refine mj_run 2 rfl trivial ?_
        rw [nI_add]
        exact hx
  obtain ⟨I', hA, hx⟩ := key (per Y i) 0 I none (by omega) (fun _ _ => rfl) (fun q hq => by
    show _ = nI (P q + 0)
    exact hP q hq)
  obtain ⟨f1, fs1, fc1⟩ := P_period (d := d + 1) (I := I) (J := J) hK hi b2
  refine ⟨I', ?_, hA.1, hA.2⟩
  refine mj_ci rfl (Nat.le_of_ble_eq_true rfl) ?_
  refine mj_run 1 rfl trivial ?_
  refine sx_gr rfl m0 rfl r0 ?_
  refine mj_run 1 rfl trivial ?_
  refine sx_al rfl m1 rfl (nI_vi hi (by omega)) (by rw [hcl]; exact b1) ?_
  refine mj_run 2 rfl trivial ?_
  refine sx_v0 rfl hq fs1 rfl fc1 ?_
  refine mj_run 3 rfl trivial ?_
  exact hx
theorem Y_start (hY : CY m I R ya A B C n ol od Y) {N : Nat} : mj_call mj_P (d + 2) kn_Yd_startCount [.ref ya, .int (nI N)] (m, I, R, J) none (m, mj_ui (mj_row I (A 7) (fun i => if i < 10 then nI 0 else I (A 7) i)) (A 7) 0 (nI N), R, J) := by
  obtain ⟨⟨hK, hn1, -⟩, ⟨r0, r3, r4, r5, r6, r7⟩, ⟨m0, m1, m2, m3, m4, m5, m6⟩, ⟨⟨a1, a2, a3, a4, a5, a6, a7, a8⟩, -⟩, -⟩ := id hY
  refine mj_ci rfl (Nat.le_of_ble_eq_true rfl) ?_
  refine mj_run 1 rfl trivial ?_
  refine sx_gr rfl m0 rfl r7 ?_
  refine mj_run 1 rfl trivial ?_
  refine mj_cal rfl rfl (c_fill m6 (by omega) (by decide)) ?_
  refine mj_run 1 rfl trivial ?_
  refine sx_gr rfl m0 rfl r7 ?_
  refine mj_run 2 rfl trivial ?_
  refine sx_st rfl m6 (nI_vi (by decide) (by decide)) (by omega) ?_
  exact mj_end rfl rfl trivial
theorem Y_startP {N : Nat} (hn : n ≤ 10) {z : Nat} : RI (mj_ui (mj_row I z (fun i => if i < 10 then nI 0 else I z i)) z 0 (nI N)) z n (acc Y n T false N (cm Y n)) ∧ RI (mj_ui (mj_row I z (fun i => if i < 10 then nI 0 else I z i)) z 0 (nI N)) z n (acc Y n T true N (cm Y n)) := by
  constructor <;> intro q hq <;> rw [acc_cm] <;> by_cases e : q = 0
  · subst e; simp [mj_ui, upd]
  · simp [mj_ui, mj_row, upd, e, show q < 10 by omega]
  · subst e; simp [mj_ui, upd]
  · simp [mj_ui, mj_row, upd, e, show q < 10 by omega]
theorem Y_on (hY : CY m I R ya A B C n ol od Y) (hst : strt Y n) (hs : mj_mt sA m = some (0, 10)) (h0 : 0 < sA) (h65 : sA < 65) {N : Nat} (hN : N ≤ 1000000) (hT : RI I sA n T) (hTK : TOK n Y T) : ∃ I', mj_call mj_P (d + 6) kn_Yd_countOn [.ref ya, .int (nI N), .ref sA] (m, I, R, J) none (m, I', R, J) ∧ (∀ a, a ≠ sA → a ≠ A 7 → I' a = I a) ∧ RI I' sA n (bh Y n T false N 0) := by
  obtain ⟨⟨hK, hn1, hO⟩, ⟨r0, r3, r4, r5, r6, r7⟩, ⟨m0, m1, m2, m3, m4, m5, m6⟩, ⟨⟨a1, a2, a3, a4, a5, a6, a7, a8⟩, -⟩, hp5, i1, i2, i3, i4, -⟩ := id hY
  have hn := hK.1
  have key : ∀ (f k : Nat) (X : mjI) (W : Nat) (l4 : Option Value), k + f = ol → (∀ a, a ≠ sA → a ≠ A 7 → X a = I a) → WI Y n T false N od k W → RI X (A 7) n (acc Y n T false N W) → RI X sA n (bh Y n T false N W) → ∃ I', ((∀ a, a ≠ sA → a ≠ A 7 → I' a = I a) ∧ RI I' sA n (bh Y n T false N 0)) ∧ mj_Rd (mj_call mj_P (d + 5)) kc_Yd_countOn 0 (7, [some (.ref ya), some (.int (nI N)), some (.ref sA), some (.int (nI k)), l4], [], m, X, R, J) none (m, I', R, J) := by
    intro f
    induction f with
    | zero =>
      intro k X W l4 hk hX hW hP hB
      have : k = ol := by omega
      subst this
      refine ⟨X, ⟨hX, fun q hq => by rw [hB q hq, bh_end hO hW]⟩, ?_⟩
      refine mj_run 2 rfl trivial ?_
      refine sx_gr rfl m0 rfl r3 ?_
      refine sx_ln rfl m2 rfl ?_
      have := hO.1
      refine mj_brt rfl rfl (by rw [nI_leI (by omega) (by omega)]; omega) ?_
      exact mj_end rfl rfl trivial
    | succ f ih =>
      intro k X W l4 hk hX hW hP hB
      have hkl : k < ol := by omega
      have hol := hO.1
      obtain ⟨c1, c2, c3, c4, c5, c6, c7⟩ := WI_step hK hn1 hst hTK hO hkl hW
      have hr := hO.2.1 k hkl
      have hp := rc_lt hK hn1 hr
      obtain ⟨b1, b2⟩ := hp5 (od k) hp
      obtain ⟨⟨q, hq⟩, hrb, hc⟩ := id b2
      have kd4 := (hK.2 (od k) hp).1
      have hsk := hTK (od k) hp
      have vi : vp_in (nI (od k)) 10 := nI_vi (by omega) (by decide)
      have hcl : (nI (od k)).toNatClampNeg = od k := nI_nc (by omega)
      have hYX := hY.fr (I' := X) (fun a h1 h2 => hX a (by omega) h2)
      have xk : X sA (od k) = nI (T (od k)) := by rw [hB (od k) hp, bh_w c7]
      obtain ⟨X1, hc1, f1, p1⟩ := Y_share (d := d) (J := J) (s := T (od k)) hYX hp hsk hP (by rw [c1]; omega) c5
      have e0 : ctK Y (od k) (T (od k)) (acc Y n T false N W (od k)) (od k) (per Y (od k)) = 0 := ctK_0 hK hp hsk c5 _
      have x1k : X1 (A 7) (od k) = nI (cst Y n T false N (od k)) := by
        have := p1 (od k) hp
        dsimp only at this
        rw [this, e0, Nat.add_zero, c1]
      have x1s : X1 sA = X sA := f1 sA (by omega)
      have htu := P_turned (d := d + 1) (I := X1) (J := J) (t := cst Y n T false N (od k)) hK hp b2 hsk (by omega)
      rw [thn_F hK hp hsk] at htu
      obtain ⟨I', hA, hx⟩ := ih (k + 1) (mj_ui X1 sA (od k) (nI (thn Y T false (od k) (cst Y n T false N (od k))))) (less W (od k)) (some (.int (nI (od k)))) (by omega) (fun a h1 h2 => by simp [mj_ui, h1, f1 a h2, hX a h1 h2]) c3 (fun q hq => by
        have ne : A 7 ≠ sA := by omega
        rw [c4 q]
        simp [mj_ui, ne]
        rw [p1 q hq, c1]
        rfl) (fun q hq => by
        rw [bh_less hW.1 c7 c6]
        by_cases e : q = od k
        · rw [if_pos e, e]; simp [mj_ui, upd]
        · rw [if_neg e]
          have := hB q hq
          simp [mj_ui, upd, e, x1s, this])
      refine ⟨I', hA, ?_⟩
      refine mj_run 2 rfl trivial ?_
      refine sx_gr rfl m0 rfl r3 ?_
      refine sx_ln rfl m2 rfl ?_
      refine mj_brf rfl rfl (by rw [nI_leI (by omega) (by omega)]; omega) ?_
      refine mj_run 1 rfl trivial ?_
      refine sx_gr rfl m0 rfl r3 ?_
      refine mj_run 1 rfl trivial ?_
      refine sx_ld rfl m2 (nI_vi hkl (by omega)) ?_
      rw [nI_nc (by omega), hYX.2.2.2.2.2.2.2.2.1 k hkl]
      refine mj_run 5 rfl trivial ?_
      refine sx_ld rfl hs vi ?_
      rw [hcl, xk]
      refine sx_v2 rfl m0 rfl rfl hc1 ?_
      refine mj_run 3 rfl trivial ?_
      refine sx_gr rfl m0 rfl r0 ?_
      refine mj_run 1 rfl trivial ?_
      refine sx_al rfl m1 rfl (nI_vi hp (by omega)) (by rw [hcl]; exact b1) ?_
      refine mj_run 2 rfl trivial ?_
      refine sx_ld rfl hs vi ?_
      rw [hcl, x1s, xk]
      refine mj_run 1 rfl trivial ?_
      refine sx_gr rfl m0 rfl r7 ?_
      refine mj_run 1 rfl trivial ?_
      refine sx_ld rfl m6 vi ?_
      rw [hcl, x1k]
      refine sx_v2 rfl hq (ptg_sel kd4) rfl htu ?_
      refine sx_st rfl hs vi h0 ?_
      rw [hcl]
      refine mj_run 2 rfl trivial ?_
      rw [nI_add]
      exact hx
  have ne : sA ≠ A 7 := by omega
  obtain ⟨I', ⟨hA1, hA2⟩, hx⟩ := key ol 0 (mj_ui (mj_row I (A 7) (fun i => if i < 10 then nI 0 else I (A 7) i)) (A 7) 0 (nI N)) (cm Y n) none (by omega) (fun a h1 h2 => by simp [mj_ui, mj_row, h2]) (WI_0 hK hn1) (Y_startP (T := T) hn).1 (fun q hq => by rw [bh_0]; simp [mj_ui, mj_row, ne]; exact hT q hq)
  refine ⟨I', ?_, hA1, hA2⟩
  refine mj_ci rfl (Nat.le_of_ble_eq_true rfl) ?_
  refine mj_run 2 rfl trivial ?_
  refine sx_v1 rfl m0 rfl rfl (Y_start hY) ?_
  refine mj_run 2 rfl trivial ?_
  exact hx
theorem Y_back (hY : CY m I R ya A B C n ol od Y) (hst : strt Y n) (hs : mj_mt sA m = some (0, 10)) (h0 : 0 < sA) (h65 : sA < 65) {N : Nat} (hN : N ≤ 1000000) (hT : RI I sA n T) (hTK : TOK n Y T) : ∃ I', mj_call mj_P (d + 6) kn_Yd_countBack [.ref ya, .int (nI N), .ref sA] (m, I, R, J) none (m, I', R, J) ∧ (∀ a, a ≠ sA → a ≠ A 7 → I' a = I a) ∧ RI I' sA n (bh Y n T true N 0) := by
  obtain ⟨⟨hK, hn1, hO⟩, ⟨r0, r3, r4, r5, r6, r7⟩, ⟨m0, m1, m2, m3, m4, m5, m6⟩, ⟨⟨a1, a2, a3, a4, a5, a6, a7, a8⟩, -⟩, hp5, i1, i2, i3, i4, -⟩ := id hY
  have hn := hK.1
  have key : ∀ (f k : Nat) (X : mjI) (W : Nat) (l4 : Option Value), k + f = ol → (∀ a, a ≠ sA → a ≠ A 7 → X a = I a) → WI Y n T true N od k W → RI X (A 7) n (acc Y n T true N W) → RI X sA n (bh Y n T true N W) → ∃ I', ((∀ a, a ≠ sA → a ≠ A 7 → I' a = I a) ∧ RI I' sA n (bh Y n T true N 0)) ∧ mj_Rd (mj_call mj_P (d + 5)) kc_Yd_countBack 0 (7, [some (.ref ya), some (.int (nI N)), some (.ref sA), some (.int (nI k)), l4], [], m, X, R, J) none (m, I', R, J) := by
    intro f
    induction f with
    | zero =>
      intro k X W l4 hk hX hW hP hB
      have : k = ol := by omega
      subst this
      refine ⟨X, ⟨hX, fun q hq => by rw [hB q hq, bh_end hO hW]⟩, ?_⟩
      refine mj_run 2 rfl trivial ?_
      refine sx_gr rfl m0 rfl r3 ?_
      refine sx_ln rfl m2 rfl ?_
      have := hO.1
      refine mj_brt rfl rfl (by rw [nI_leI (by omega) (by omega)]; omega) ?_
      exact mj_end rfl rfl trivial
    | succ f ih =>
      intro k X W l4 hk hX hW hP hB
      have hkl : k < ol := by omega
      have hol := hO.1
      obtain ⟨c1, c2, c3, c4, c5, c6, c7⟩ := WI_step hK hn1 hst hTK hO hkl hW
      have hr := hO.2.1 k hkl
      have hp := rc_lt hK hn1 hr
      obtain ⟨b1, b2⟩ := hp5 (od k) hp
      obtain ⟨⟨q, hq⟩, hrb, hc⟩ := id b2
      have kd4 := (hK.2 (od k) hp).1
      have hsk := hTK (od k) hp
      have vi : vp_in (nI (od k)) 10 := nI_vi (by omega) (by decide)
      have hcl : (nI (od k)).toNatClampNeg = od k := nI_nc (by omega)
      have xk : X sA (od k) = nI (T (od k)) := by rw [hB (od k) hp, bh_w c7]
      have hthn := thn_in (T := T) (ng := true) (m := cst Y n T true N (od k)) hK hp
      generalize hZ : mj_ui X sA (od k) (nI (thn Y T true (od k) (cst Y n T true N (od k)))) = Z
      have fZ : ∀ a, a ≠ sA → Z a = X a := fun a ha => by rw [← hZ]; simp [mj_ui, ha]
      have hYZ := hY.fr (I' := Z) (fun a h1 h2 => by rw [fZ a (by omega), hX a (by omega) h2])
      have hPZ : RI Z (A 7) n (acc Y n T true N W) := fun q hq => by rw [fZ (A 7) (by omega)]; exact hP q hq
      obtain ⟨X1, hc1, f1, p1⟩ := Y_share (d := d) (J := J) (s := thn Y T true (od k) (cst Y n T true N (od k))) hYZ hp hthn hPZ (by rw [c1]; omega) c5
      have htu := P_turnedB (d := d + 1) (I := X) (J := J) (t := cst Y n T true N (od k)) hK hp b2 hsk (by omega)
      rw [thn_T hK hp hsk] at htu
      obtain ⟨I', hA, hx⟩ := ih (k + 1) X1 (less W (od k)) (some (.int (nI (od k)))) (by omega) (fun a h1 h2 => by rw [f1 a h2, fZ a h1, hX a h1 h2]) c3 (fun q hq => by
        rw [p1 q hq, c4 q, c1]
        rfl) (fun q hq => by
        rw [bh_less hW.1 c7 c6, f1 sA (by omega), ← hZ]
        by_cases e : q = od k
        · rw [if_pos e, e]; simp [mj_ui, upd]
        · rw [if_neg e]
          have := hB q hq
          simp [mj_ui, upd, e, this])
      refine ⟨I', hA, ?_⟩
      refine mj_run 2 rfl trivial ?_
      refine sx_gr rfl m0 rfl r3 ?_
      refine sx_ln rfl m2 rfl ?_
      refine mj_brf rfl rfl (by rw [nI_leI (by omega) (by omega)]; omega) ?_
      refine mj_run 1 rfl trivial ?_
      refine sx_gr rfl m0 rfl r3 ?_
      refine mj_run 1 rfl trivial ?_
      refine sx_ld rfl m2 (nI_vi hkl (by omega)) ?_
      rw [nI_nc (by omega), hX (A 3) (by omega) (Ne.symm hY.2.2.2.1.2.2.1), i4 k hkl]
      refine mj_run 4 rfl trivial ?_
      refine sx_gr rfl m0 rfl r0 ?_
      refine mj_run 1 rfl trivial ?_
      refine sx_al rfl m1 rfl (nI_vi hp (by omega)) (by rw [hcl]; exact b1) ?_
      refine mj_run 2 rfl trivial ?_
      refine sx_ld rfl hs vi ?_
      rw [hcl, xk]
      refine mj_run 1 rfl trivial ?_
      refine sx_gr rfl m0 rfl r7 ?_
      refine mj_run 1 rfl trivial ?_
      refine sx_ld rfl m6 vi ?_
      rw [hcl, hP (od k) hp, c1]
      refine mj_run 1 rfl trivial ?_
      refine sx_v2 rfl hq (ptg_sel kd4) rfl htu ?_
      refine sx_st rfl hs vi h0 ?_
      rw [hcl, hZ]
      refine mj_run 4 rfl trivial ?_
      refine sx_ld rfl hs vi ?_
      have zk : Z sA (od k) = nI (thn Y T true (od k) (cst Y n T true N (od k))) := by rw [← hZ]; simp [mj_ui, upd]
      rw [hcl, zk]
      refine sx_v2 rfl m0 rfl rfl hc1 ?_
      refine mj_run 2 rfl trivial ?_
      rw [nI_add]
      exact hx
  have ne : sA ≠ A 7 := by omega
  obtain ⟨I', ⟨hA1, hA2⟩, hx⟩ := key ol 0 (mj_ui (mj_row I (A 7) (fun i => if i < 10 then nI 0 else I (A 7) i)) (A 7) 0 (nI N)) (cm Y n) none (by omega) (fun a h1 h2 => by simp [mj_ui, mj_row, h2]) (WI_0 hK hn1) (Y_startP (T := T) hn).2 (fun q hq => by rw [bh_0]; simp [mj_ui, mj_row, ne]; exact hT q hq)
  refine ⟨I', ?_, hA1, hA2⟩
  refine mj_ci rfl (Nat.le_of_ble_eq_true rfl) ?_
  refine mj_run 2 rfl trivial ?_
  refine sx_v1 rfl m0 rfl rfl (Y_start hY) ?_
  refine mj_run 2 rfl trivial ?_
  exact hx
end CC
