/-! rolling, as the class does it -/
def Cf (as : List Nat) (I I' : mjI) : Prop := ∀ a, a ∉ as → I' a = I a
theorem Cf.rf (I : mjI) : Cf [] I I := fun _ _ => rfl
theorem Cf.tr {as as' : List Nat} {I I' I'' : mjI} (f : Cf as I I') (g : Cf as' I' I'') : Cf (as ++ as') I I'' := fun a h => (g a (fun q => h (List.mem_append_right _ q))).trans (f a (fun q => h (List.mem_append_left _ q)))
theorem Cf.w {as as' : List Nat} {I I' : mjI} (f : Cf as I I') (h : ∀ k, k ∈ as → k ∈ as') : Cf as' I I' := fun a q => f a (fun r => q (h a r))
theorem Cf.u (I : mjI) (a i : Nat) (x : Int32) : Cf [a] I (mj_ui I a i x) := fun b h => by simp at h; simp [mj_ui, h]
theorem Cf.row (I : mjI) (a : Nat) (g : Nat → Int32) : Cf [a] I (mj_row I a g) := fun b h => by simp at h; simp [mj_row, h]
section CC
variable {m : mjM} {I : mjI} {R : mjR} {J : mjJ} {ya : Nat} {A B C : Nat → Nat} {n ol : Nat} {od : Nat → Nat} {Y : Yd} {d sA : Nat} {q : Option Nat} {x : Int32}
theorem i_nn {a : Nat} (h : a < 2147483648) : ¬ nI a < 0 := by
  rw [show (0 : Int32) = nI 0 from rfl, nI_ltI h (by decide)]
  omega
theorem Y_pass (hY : CY m I R ya A B C n ol od Y) (hs : mj_mt sA m = some (0, 10)) (h0 : 0 < sA) (h65 : sA < 65) {p s : Nat} (hp : p < n) (hT : I sA p = nI s) (hs6 : s < sm Y p) (hq : sq q x) : mj_call mj_P (d + 1) kn_Yd_pass [.ref ya, .int (nI p), .ref sA, .int x] (m, I, R, J) (some (.int (nI (pl Y p s)))) (m, mj_ui I sA p (nI (if q = some p then s else tn Y p s)), R, J) := by
  obtain ⟨⟨hK, hn1, -⟩, ⟨r0, r3, r4, r5, r6, r7⟩, ⟨m0, m1, m2, m3, m4, m5, m6⟩, ⟨⟨a1, a2, a3, a4, a5, a6, a7, a8⟩, -⟩, -, i1, i2, i3, i4, i5, i6⟩ := hY
  have hn := hK.1
  have h6 := (sm_in hK hp).2
  have e6 : nI p * nI 6 + nI s = nI (p * 6 + s) := by rw [pk_mul, nI_add]
  have vi : vp_in (nI p) 10 := nI_vi (by omega) (by decide)
  have vi6 : vp_in (nI (p * 6 + s)) 60 := nI_vi (by omega) (by decide)
  have hc : (nI p).toNatClampNeg = p := nI_nc (by omega)
  have hc6 : (nI (p * 6 + s)).toNatClampNeg = p * 6 + s := nI_nc (by omega)
  obtain ⟨j1, j2⟩ := i5 p hp s hs6
  refine mj_ci rfl (Nat.le_of_ble_eq_true rfl) ?_
  refine mj_run 1 rfl trivial ?_
  refine mj_brf rfl rfl (i_nn (by omega)) ?_
  refine mj_run 2 rfl trivial ?_
  refine sx_gi rfl m0 rfl ?_
  rw [i1]
  refine mj_brt rfl rfl (by rw [nI_ltI (by omega) (by omega)]; exact hp) ?_
  refine mj_run 5 rfl trivial ?_
  refine sx_ld rfl hs vi ?_
  rw [hc, hT]
  refine mj_run 3 rfl trivial ?_
  rw [e6]
  refine mj_brf rfl rfl (i_nn (by omega)) ?_
  refine mj_run 2 rfl trivial ?_
  refine sx_gr rfl m0 rfl r4 ?_
  refine sx_ln rfl m3 rfl ?_
  refine mj_brt rfl rfl (by rw [nI_ltI (by omega) (by decide)]; omega) ?_
  refine mj_run 2 rfl trivial ?_
  refine mj_bra rfl rfl (fun g => ?_) (fun g => ?_)
  · have g' : q = some p := (hq p (by omega)).mp g
    refine mj_run 1 rfl trivial ?_
    refine sx_gr rfl m0 rfl r4 ?_
    refine mj_run 1 rfl trivial ?_
    refine sx_ld rfl m3 vi6 ?_
    rw [hc6, j1]
    refine mj_endI rfl rfl trivial rfl ?_
    rw [if_pos g', ← hT]
    funext b
    by_cases e : b = sA
    · subst e
      funext i
      by_cases e2 : i = p
      · subst e2; simp [mj_ui, upd]
      · simp [mj_ui, upd, e2]
    · simp [mj_ui, e]
  · have g' : ¬ q = some p := fun z => g ((hq p (by omega)).mpr z)
    refine mj_run 3 rfl trivial ?_
    refine sx_gr rfl m0 rfl r5 ?_
    refine mj_run 1 rfl trivial ?_
    refine sx_ld rfl m4 vi6 ?_
    rw [hc6, j2]
    refine sx_st rfl hs vi h0 ?_
    rw [hc]
    refine mj_run 1 rfl trivial ?_
    refine sx_gr rfl m0 rfl r4 ?_
    refine mj_run 1 rfl trivial ?_
    refine sx_ld rfl m3 vi6 ?_
    have e9 : mj_ui I sA p (nI (tn Y p s)) (A 4) (p * 6 + s) = nI (pl Y p s) := by
      have : A 4 ≠ sA := by omega
      simp [mj_ui, this, j1]
    rw [hc6, e9, if_neg g']
    exact mj_end rfl rfl trivial
end CC
/-- a row of stands at sA, the moves at the roller -/
def cR (I : mjI) (n sA : Nat) (s : Rs) : mjI := fun b => if b = 10 then upd (I 10) 1 (nI s.2.2) else if b = sA then (fun i => if i < n then nI (s.2.1 i) else I sA i) else I b
theorem cR_mv {I : mjI} {n sA a : Nat} {Y : Yd} {q : Option Nat} {T : Nat → Nat} {m : Nat} (ha : a < n) (h10 : sA ≠ 10) : mj_ui (mj_ui (cR I n sA (10 + a, T, m)) sA a (nI (if q = some a then T a else tn Y a (T a)))) 10 1 (nI (m + 1)) = cR I n sA (mv Y q (10 + a, T, m)) := by
  funext b
  by_cases h : b = 10
  · subst h
    funext i
    by_cases h1 : i = 1
    · simp [mj_ui, cR, upd, h1, mv]
    · simp [mj_ui, cR, upd, h1, Ne.symm h10]
  · by_cases h5 : b = sA
    · subst h5
      funext i
      by_cases h1 : i = a
      · subst h1
        simp [mj_ui, cR, upd, h, ha, mv, fu]
      · simp [mj_ui, cR, upd, h, h1, mv, fu]
    · simp [mj_ui, cR, h, h5]
theorem cR_0 {I : mjI} {n sA : Nat} {T : Nat → Nat} (hT : RI I sA n T) (h10 : sA ≠ 10) : mj_ui I 10 1 (nI 0) = cR I n sA (10, T, 0) := by
  funext b
  by_cases h : b = 10
  · subst h
    simp [mj_ui, cR]
  · by_cases h5 : b = sA
    · subst h5
      funext i
      by_cases hi : i < n
      · simp [mj_ui, cR, h, hi, hT i hi]
      · simp [mj_ui, cR, h, hi]
    · simp [mj_ui, cR, h, h5]
section CC
variable {d L : Nat} {dy : mjM} {I : mjI} {y y1 n1 w1 c y2 : Option Nat} {R : mjR} {J : mjJ} {ya : Nat} {A B C : Nat → Nat} {n ol : Nat} {od : Nat → Nat} {Y : Yd} {sA : Nat} {q : Option Nat} {x : Int32}
theorem R_rollL {v : Option Value} {h' : mjH} (hY : CY (FM L dy) I (FR y y1 n1 w1 c y2 R) ya A B C n ol od Y) (hs : mj_mt sA (FM L dy) = some (0, 10)) (h0 : 0 < sA) (h65 : sA < 65) (h10 : sA ≠ 10) (hq : sq q x) : ∀ (k : Nat) (s : Rs), s.2.2 + k = 500 → s.1 < 10 + n → TOK n Y s.2.1 →
    mj_Rd (mj_call mj_P (d + 1)) kc_Ro_roll 1 (52, [some (.ref 10), some (.ref ya), some (.ref sA), some (.int x), some (.int (nI (ro Y q k s).1))], [], HP L dy (cR I n sA (ro Y q k s)) y y1 n1 w1 c y2 R J) v h' → mj_Rd (mj_call mj_P (d + 1)) kc_Ro_roll 1 (9, [some (.ref 10), some (.ref ya), some (.ref sA), some (.int x), some (.int (nI s.1))], [], HP L dy (cR I n sA s) y y1 n1 w1 c y2 R J) v h'
  | k, (a, T, m), hm, ha, hT, hx => by
    have hn : n ≤ 10 := hY.1.1.1
    have hm' : m + k = 500 := hm
    have ha' : a < 10 + n := ha
    have e1 : cR I n sA (a, T, m) 10 1 = nI m := by simp [cR, upd]
    refine mj_run 2 rfl trivial ?_
    refine mj_bra rfl rfl (fun g => ?_) (fun g => ?_)
    · rw [nI_ltI (by omega) (by decide)] at g
      have e : ro Y q k (a, T, m) = (a, T, m) := by
        cases k with
        | zero => rfl
        | succ k => simp [ro, g]
      rw [e] at hx
      exact hx
    · rw [nI_ltI (by omega) (by decide)] at g
      refine mj_run 3 rfl trivial ?_
      rw [e1]
      cases k with
      | zero =>
        refine mj_brt rfl rfl (by rw [nI_leI (by decide) (by omega)]; omega) ?_
        exact hx
      | succ k =>
        refine mj_brf rfl rfl (by rw [nI_leI (by decide) (by omega)]; omega) ?_
        obtain ⟨b, hb⟩ : ∃ b, a = 10 + b := ⟨a - 10, by omega⟩
        subst hb
        have hb : b < n := by omega
        refine mj_run 6 rfl trivial ?_
        rw [pk_sub (by omega), show 10 + b - 10 = b by omega]
        have hYr : CY (FM L dy) (cR I n sA (10 + b, T, m)) (FR y y1 n1 w1 c y2 R) ya A B C n ol od Y := hY.fr (fun a h1 _ => by
          have e1 : a ≠ 10 := by omega
          have e2 : a ≠ sA := by omega
          simp [cR, e1, e2])
        refine sx_v3 rfl hY.2.2.1.1 rfl rfl (Y_pass hYr hs h0 h65 hb (s := T b) (by simp [cR, h10, hb]) (hT b hb) hq) ?_
        refine mj_run 8 rfl trivial ?_
        have e2 : mj_ui (cR I n sA (10 + b, T, m)) sA b (nI (if q = some b then T b else tn Y b (T b))) 10 1 = nI m := by simp [mj_ui, cR, upd, Ne.symm h10]
        rw [e2, nI_add, cR_mv hb h10]
        obtain ⟨g1, g2⟩ := mv_ok (q := q) hY.1.1 g ha hT
        have e : ro Y q (k + 1) (10 + b, T, m) = ro Y q k (mv Y q (10 + b, T, m)) := by
          show (if 10 + b < 10 then _ else _) = _
          rw [if_neg g]
        have e4 : pl Y b (T b) = (mv Y q (10 + b, T, m)).1 := by
          simp only [mv, Nat.add_sub_cancel_left]
        rw [e] at hx
        rw [e4]
        exact R_rollL hY hs h0 h65 h10 hq k _ (by show m + 1 + k = 500; omega) g1 g2 hx
theorem R_roll {T : Nat → Nat} (hY : CY (FM L dy) I (FR y y1 n1 w1 c y2 R) ya A B C n ol od Y) (hs : mj_mt sA (FM L dy) = some (0, 10)) (h0 : 0 < sA) (h65 : sA < 65) (h10 : sA ≠ 10) (hT : RI I sA n T) (hTK : TOK n Y T) (hq : sq q x) : mj_call mj_P (d + 2) kn_Ro_roll [.ref 10, .ref ya, .ref sA, .int x] (HP L dy I y y1 n1 w1 c y2 R J) (some (.int (nI (ro Y q 500 (10, T, 0)).1))) (HP L dy (cR I n sA (ro Y q 500 (10, T, 0))) y y1 n1 w1 c y2 R J) := by
  have hn1 := hY.1.2.1
  refine mj_ci rfl (Nat.le_of_ble_eq_true rfl) ?_
  refine mj_run 5 rfl trivial ?_
  rw [cR_0 hT h10]
  refine R_rollL hY hs h0 h65 h10 hq 500 (10, T, 0) rfl (by show 10 < 10 + n; omega) hTK ?_
  refine mj_run 1 rfl trivial ?_
  exact mj_end rfl rfl trivial
theorem R_send {T : Nat → Nat} (hY : CY (FM L dy) I (FR y y1 n1 w1 c y2 R) ya A B C n ol od Y) (hs : mj_mt sA (FM L dy) = some (0, 10)) (h0 : 0 < sA) (h65 : sA < 65) (h10 : sA ≠ 10) (h11 : sA ≠ 11) (hT : RI I sA n T) (hTK : TOK n Y T) (hq : sq q x) : ∃ I', mj_call mj_P (d + 3) kn_Ro_send [.ref 10, .ref ya, .ref sA, .int x] (HP L dy I y y1 n1 w1 c y2 R J) (some (.int (gv (gt Y q T).1))) (HP L dy I' y y1 n1 w1 c y2 R J) ∧ Cf [sA, 11, 10] I I' ∧ RI I' sA n (gt Y q T).2.1 ∧ (∀ i, n ≤ i → I' sA i = I sA i) ∧ I' 10 1 = nI (gt Y q T).2.2 := by
  have hn1 := hY.1.2.1
  have hn10 := hY.1.1.1
  have z0 : (nI 0).toNatClampNeg = 0 := nI_nc (by decide)
  have z10 : (nI 10).toNatClampNeg = 10 := nI_nc (by decide)
  have cpk : ¬ nI 0 < 0 ∧ ¬ nI 0 < 0 ∧ ¬ nI 10 < 0 ∧ (nI 0).toNatClampNeg + (nI 10).toNatClampNeg ≤ 10 ∧ (nI 0).toNatClampNeg + (nI 10).toNatClampNeg ≤ 10 := by decide
  generalize hX : mj_row I 11 (va_cpy (I sA) (I 11) (nI 0).toNatClampNeg (nI 0).toNatClampNeg (nI 10).toNatClampNeg) = X
  have fX : Cf [11] I X := by rw [← hX]; exact Cf.row I 11 _
  have hX11 : ∀ i, i < 10 → X 11 i = I sA i := by
    intro i hi
    rw [← hX, z0, z10]
    simp [mj_row, va_cpy, hi]
  have hYX : CY (FM L dy) X (FR y y1 n1 w1 c y2 R) ya A B C n ol od Y := hY.fr (fun a h1 _ => fX a (by simp; omega))
  have hTX : RI X sA n T := fun i hi => by rw [fX sA (by simp [h11])]; exact hT i hi
  obtain ⟨hf1, hf2, hf3⟩ := ro_ok (q := q) hY.1.1 500 (10, T, 0) (by show 10 < 10 + n; omega) hTK
  have hroll := R_roll (d := d) (J := J) hYX hs h0 h65 h10 hTX hTK hq
  generalize hf : ro Y q 500 (10, T, 0) = f at hf1 hf2 hf3 hroll
  have hgt : gt Y q T = if f.1 < 10 then (some f.1, f.2) else (none, T, f.2.2) := by unfold gt; rw [hf]
  have main : ∀ (v : Option Value) (h' : mjH), mj_Rd (mj_call mj_P (d + 2)) kc_Ro_send 1 (21, [some (.ref 10), some (.ref ya), some (.ref sA), some (.int x), some (.int (nI f.1))], [], HP L dy (cR X n sA f) y y1 n1 w1 c y2 R J) v h' → mj_call mj_P (d + 3) kn_Ro_send [.ref 10, .ref ya, .ref sA, .int x] (HP L dy I y y1 n1 w1 c y2 R J) v h' := by
    intro v h' hx
    refine mj_ci rfl (Nat.le_of_ble_eq_true rfl) ?_
    refine mj_run 6 rfl trivial ?_
    refine sx_cp (a := 11) rfl rfl hs rfl ⟨cpk.1, cpk.2.1, cpk.2.2.1, cpk.2.2.2.1, cpk.2.2.2.2, by decide, h0⟩ ?_
    rw [hX]
    refine mj_run 4 rfl trivial ?_
    refine mj_cal rfl rfl hroll ?_
    refine mj_run 1 rfl trivial ?_
    exact hx
  have fr : Cf [sA, 11, 10] I (cR X n sA f) := fun a ha => by
    simp at ha
    simp [cR, ha, fX a (by simp [ha])]
  by_cases hfl : f.1 < 10
  · rw [hgt, if_pos hfl]
    refine ⟨cR X n sA f, main _ _ ?_, fr, fun i hi => by simp [cR, h10, hi], fun i hi => ?_, by simp [cR, upd]⟩
    · refine mj_run 2 rfl trivial ?_
      refine mj_brf rfl rfl (by rw [nI_leI (by decide) (by omega)]; omega) ?_
      refine mj_run 1 rfl trivial ?_
      exact mj_end rfl rfl trivial
    · have : ¬ i < n := by omega
      simp [cR, h10, this, fX sA (by simp [h11])]
  · rw [hgt, if_neg hfl]
    refine ⟨mj_row (cR X n sA f) sA (va_cpy (cR X n sA f 11) (cR X n sA f sA) (nI 0).toNatClampNeg (nI 0).toNatClampNeg (nI 10).toNatClampNeg), main _ _ ?_, (fr.tr (Cf.row _ sA _)).w (by simp), fun i hi => ?_, fun i hi => ?_, by simp [mj_row, cR, upd, Ne.symm h10]⟩
    · refine mj_run 2 rfl trivial ?_
      refine mj_brt rfl rfl (by rw [nI_leI (by decide) (by omega)]; omega) ?_
      refine mj_run 6 rfl trivial ?_
      refine sx_cp (b := 11) rfl hs rfl rfl ⟨cpk.1, cpk.2.1, cpk.2.2.1, cpk.2.2.2.1, cpk.2.2.2.2, h0, by decide⟩ ?_
      refine mj_run 1 rfl trivial ?_
      exact mj_end rfl rfl trivial
    · rw [z0, z10]
      have e11 : cR X n sA f 11 i = I sA i := by
        have := hX11 i (by omega)
        simp [cR, Ne.symm h11, this]
      simp only [mj_row, if_true, va_cpy]
      rw [if_pos (by omega), Nat.zero_add, Nat.sub_zero, e11]
      exact hT i hi
    · rw [z0, z10]
      simp only [mj_row, if_true, va_cpy]
      by_cases e : i < 10
      · rw [if_pos (by omega), Nat.zero_add, Nat.sub_zero]
        have := hX11 i e
        simp [cR, Ne.symm h11, this]
      · rw [if_neg (by omega)]
        have : ¬ i < n := by omega
        simp [cR, h10, this, fX sA (by simp [h11])]
end CC
