section CC
variable {d L : Nat} {dy : mjM} {I : mjI} {y y1 n1 w1 c y2 : Option Nat} {R : mjR} {J : mjJ} {pn : Nat} {pg : Nat → Nat} {n : Nat} {Y : Yd} {T : Nat → Nat} {t : Nat} {tr : Nat → Nat} {kp : Kp} {wn : Nat} {wt : Nat → Nat} {yr dn : Nat} {ya ol : Nat} {A B C od : Nat → Nat}
theorem c_asAhead {X : mjI} {U V : Nat → Nat} (hK : YOK n Y) (hU : TOK n Y U) (hV : TOK n Y V) (h43 : RI X 43 n U) (h11 : RI X 11 n V) (hr : ∀ i, n ≤ i → i < 10 → X 43 i = X 11 i) : mj_call mj_P (d + 1) kn_Ro_isAsAhead [.ref 10, .ref 43] (HP L dy X y y1 n1 w1 c y2 R J) (some (.int (nI (if eqv U V n then 1 else 0)))) (HP L dy X y y1 n1 w1 c y2 R J) := by
  have hn := hK.1
  refine mj_ci rfl (Nat.le_of_ble_eq_true rfl) ?_
  refine mj_run 2 rfl trivial ?_
  have key := dn_ind 10 (fun p => (∀ i, i < p → i < n → U i = V i) → mj_Rd (mj_call mj_P d) kc_Ro_isAsAhead 2 (2, [some (.ref 10), some (.ref 43), some (.int (nI p))], [], HP L dy X y y1 n1 w1 c y2 R J) (some (.int (nI (if eqv U V n then 1 else 0)))) (HP L dy X y y1 n1 w1 c y2 R J)) ?_ ?_ 0 (by omega)
  · exact key (fun i hi => by omega)
  · intro hh
    have : eqv U V n = true := (eqv_iff n).mpr (fun p hp => hh p (by omega) hp)
    rw [this]
    refine mj_run 2 rfl trivial ?_
    refine mj_brt rfl rfl (by decide) ?_
    refine mj_run 1 rfl trivial ?_
    exact mj_end rfl rfl (Or.inr rfl)
  · intro p hp ih hh
    refine mj_run 2 rfl trivial ?_
    refine mj_brf rfl rfl (by rw [nI_leI (by decide) (by omega)]; omega) ?_
    refine mj_run 7 rfl ⟨nI_vi hp (by decide), nI_vi hp (by decide)⟩ ?_
    rw [nI_nc (by omega)]
    have nxt : (∀ i, i < p + 1 → i < n → U i = V i) → mj_Rd (mj_call mj_P d) kc_Ro_isAsAhead 2 (22, [some (.ref 10), some (.ref 43), some (.int (nI p))], [], HP L dy X y y1 n1 w1 c y2 R J) (some (.int (nI (if eqv U V n then 1 else 0)))) (HP L dy X y y1 n1 w1 c y2 R J) := by
      intro q
      refine mj_run 2 rfl trivial ?_
      rw [nI_add]
      exact ih q
    by_cases hpn : p < n
    · have u6 := (sm_in hK hpn).2
      have u1 := hU p hpn
      have v1 := hV p hpn
      rw [h43 p hpn, h11 p hpn]
      refine mj_bra rfl rfl (fun g => ?_) (fun g => ?_)
      · rw [nI_e (by omega) (by omega)] at g
        refine nxt (fun i hi hin => ?_)
        by_cases e : i = p
        · subst e; exact g
        · exact hh i (by omega) hin
      · rw [nI_e (by omega) (by omega)] at g
        have : eqv U V n = false := by
          cases hq : eqv U V n with
          | false => rfl
          | true => exact absurd ((eqv_iff n).mp hq p hpn) g
        rw [this]
        refine mj_run 1 rfl trivial ?_
        exact mj_end rfl rfl (Or.inl rfl)
    · rw [hr p (by omega) hp]
      refine mj_brt rfl rfl rfl ?_
      refine nxt (fun i hi hin => hh i (by omega) hin)
theorem R_roundLoop {at' : Nat} {V : Nat → Nat} (hV : TOK n Y V) (hat : at' < 20) (hat10 : 10 ≤ at') : ∀ (f k : Nat) (X : mjI) (s : Rs), k + f = 501 → CY (FM L dy) X (FR y y1 n1 w1 c y2 R) ya A B C n ol od Y → ¬ s.1 < 10 → s.1 < 10 + n → RI X 43 n s.2.1 → TOK n Y s.2.1 → RI X 11 n V → (∀ i, n ≤ i → i < 10 → X 43 i = X 11 i) →
    ∃ I', Cf [43] X I' ∧ mj_Rd (mj_call mj_P (d + 1)) kc_Ro_roundOf 1 (26, [some (.ref 10), some (.ref ya), some (.ref 43), some (.int (nI at')), some (.int (nI s.1)), some (.int (nI k))], [], HP L dy X y y1 n1 w1 c y2 R J) (some (.int (rnd Y n at' V f k s))) (HP L dy I' y y1 n1 w1 c y2 R J) := by
  intro f
  induction f with
  | zero =>
    intro k X s hk hY hs1 hs2 hT hTK hA hr
    refine ⟨X, (Cf.rf X).w (by simp), ?_⟩
    refine mj_run 2 rfl trivial ?_
    refine mj_brt rfl rfl (by rw [nI_ltI (by decide) (by omega)]; omega) ?_
    refine mj_run 1 rfl trivial ?_
    exact mj_end rfl rfl trivial
  | succ f ih =>
    intro k X s hk hY hs1 hs2 hT hTK hA hr
    have hn : n ≤ 10 := hY.1.1.1
    obtain ⟨pc, U, m⟩ := s
    obtain ⟨b, hb⟩ : ∃ b, pc = 10 + b := ⟨pc - 10, by have : ¬ pc < 10 := hs1; omega⟩
    subst hb
    have hb : b < n := by have : 10 + b < 10 + n := hs2; omega
    obtain ⟨g1, g2⟩ := mv_ok (q := none) hY.1.1 hs1 hs2 hTK
    have hp := Y_pass (d := d) (J := J) (q := none) (x := Int32.ofInt (-1)) hY (sA := 43) rfl (by decide) (by decide) hb (hT b hb) (hTK b hb) sq_none
    rw [if_neg (by simp)] at hp
    have e1 : pl Y b (U b) = (mv Y none (10 + b, U, m)).1 := by simp only [mv, Nat.add_sub_cancel_left]
    have e2 : ∀ i, (mv Y none (10 + b, U, m)).2.1 i = if i = b then tn Y b (U b) else U i := by
      intro i
      simp only [mv, fu, Nat.add_sub_cancel_left]
      split <;> simp_all
    rw [e1] at hp
    dsimp only at hT hTK
    generalize hs' : mv Y none (10 + b, U, m) = s' at g1 g2 e2 hp
    have hrnd : rnd Y n at' V (f + 1) k (10 + b, U, m) = if s'.1 < 10 then Int32.ofInt (-1) else if (decide (s'.1 = at') && eqv s'.2.1 V n) then nI k else rnd Y n at' V f (k + 1) s' := by
      rw [← hs']; rfl
    rw [hrnd]
    generalize hZ : mj_ui X 43 b (nI (tn Y b (U b))) = Z at hp
    have fZ : Cf [43] X Z := by rw [← hZ]; exact Cf.u X 43 b _
    have zT : RI Z 43 n s'.2.1 := by
      intro i hi
      rw [← hZ, e2 i]
      by_cases e : i = b
      · subst e; simp [mj_ui, upd]
      · have := hT i hi
        simp [mj_ui, upd, e, this]
    have zr : ∀ i, n ≤ i → i < 10 → Z 43 i = Z 11 i := by
      intro i h1 h2
      rw [fZ 11 (by decide), ← hr i h1 h2, ← hZ]
      have : i ≠ b := by omega
      simp [mj_ui, upd, this]
    have hYZ : CY (FM L dy) Z (FR y y1 n1 w1 c y2 R) ya A B C n ol od Y := hY.fr (fun a h65 _ => fZ a (by simp; omega))
    have hAZ : RI Z 11 n V := hA.cf fZ (by decide)
    have start : ∀ (v : Option Value) (h' : mjH), mj_Rd (mj_call mj_P (d + 1)) kc_Ro_roundOf 1 (54, [some (.ref 10), some (.ref ya), some (.ref 43), some (.int (nI at')), some (.int (nI s'.1)), some (.int (nI k))], [], HP L dy Z y y1 n1 w1 c y2 R J) v h' → mj_Rd (mj_call mj_P (d + 1)) kc_Ro_roundOf 1 (26, [some (.ref 10), some (.ref ya), some (.ref 43), some (.int (nI at')), some (.int (nI (10 + b))), some (.int (nI k))], [], HP L dy X y y1 n1 w1 c y2 R J) v h' := by
      intro v h' hx
      refine mj_run 2 rfl trivial ?_
      refine mj_brf rfl rfl (by rw [nI_ltI (by decide) (by omega)]; omega) ?_
      refine mj_run 2 rfl trivial ?_
      refine mj_brf rfl rfl (by rw [nI_ltI (by omega) (by decide)]; omega) ?_
      refine mj_run 6 rfl trivial ?_
      rw [pk_sub (by omega), show 10 + b - 10 = b by omega]
      refine sx_v3 rfl hY.2.2.1.1 rfl rfl hp ?_
      refine mj_run 1 rfl trivial ?_
      exact hx
    by_cases g : s'.1 < 10
    · rw [if_pos g]
      refine ⟨Z, fZ, start _ _ ?_⟩
      refine mj_run 2 rfl trivial ?_
      refine mj_brt rfl rfl (by rw [nI_e (by omega) (by omega)]; omega) ?_
      refine mj_run 2 rfl trivial ?_
      rw [nI_add]
      have fin : mj_Rd (mj_call mj_P (d + 1)) kc_Ro_roundOf 1 (77, [some (.ref 10), some (.ref ya), some (.ref 43), some (.int (nI at')), some (.int (nI s'.1)), some (.int (nI (k + 1)))], [], HP L dy Z y y1 n1 w1 c y2 R J) (some (.int (Int32.ofInt (-1)))) (HP L dy Z y y1 n1 w1 c y2 R J) := by
        refine mj_run 1 rfl trivial ?_
        exact mj_end rfl rfl trivial
      refine mj_run 2 rfl trivial ?_
      refine mj_bra rfl rfl (fun _ => fin) (fun _ => ?_)
      refine mj_run 2 rfl trivial ?_
      exact mj_brt rfl rfl (by rw [nI_ltI (by omega) (by decide)]; exact g) fin
    · rw [if_neg g]
      have nxt : ∀ (v : Option Value) (h' : mjH), mj_Rd (mj_call mj_P (d + 1)) kc_Ro_roundOf 1 (26, [some (.ref 10), some (.ref ya), some (.ref 43), some (.int (nI at')), some (.int (nI s'.1)), some (.int (nI (k + 1)))], [], HP L dy Z y y1 n1 w1 c y2 R J) v h' → mj_Rd (mj_call mj_P (d + 1)) kc_Ro_roundOf 1 (71, [some (.ref 10), some (.ref ya), some (.ref 43), some (.int (nI at')), some (.int (nI s'.1)), some (.int (nI k))], [], HP L dy Z y y1 n1 w1 c y2 R J) v h' := by
        intro v h' hx
        refine mj_run 2 rfl trivial ?_
        rw [nI_add]
        exact hx
      have hcall := c_asAhead (d := d) (L := L) (dy := dy) (y := y) (y1 := y1) (n1 := n1) (w1 := w1) (c := c) (y2 := y2) (R := R) (J := J) hY.1.1 g2 hV zT hAZ zr
      obtain ⟨I', hf', hx'⟩ := ih (k + 1) Z s' (by omega) hYZ g g1 zT g2 hAZ zr
      by_cases ha : s'.1 = at'
      · rw [decide_eq_true ha, Bool.true_and]
        cases he : eqv s'.2.1 V n with
        | true =>
          rw [he] at hcall
          rw [if_pos rfl]
          refine ⟨Z, fZ, start _ _ ?_⟩
          refine mj_run 2 rfl trivial ?_
          refine mj_brf rfl rfl (by rw [nI_e (by omega) (by omega)]; omega) ?_
          refine mj_run 2 rfl trivial ?_
          refine mj_cal rfl rfl hcall ?_
          refine mj_brf rfl rfl (by decide) ?_
          refine mj_run 1 rfl trivial ?_
          exact mj_end rfl rfl trivial
        | false =>
          rw [he] at hcall
          rw [if_neg (by decide)]
          refine ⟨I', (fZ.tr hf').w (by decide), start _ _ ?_⟩
          refine mj_run 2 rfl trivial ?_
          refine mj_brf rfl rfl (by rw [nI_e (by omega) (by omega)]; omega) ?_
          refine mj_run 2 rfl trivial ?_
          refine mj_cal rfl rfl hcall ?_
          refine mj_brt rfl rfl (by decide) ?_
          exact nxt _ _ hx'
      · rw [decide_eq_false ha, Bool.false_and, if_neg (by decide)]
        refine ⟨I', (fZ.tr hf').w (by decide), start _ _ ?_⟩
        refine mj_run 2 rfl trivial ?_
        refine mj_brt rfl rfl (by rw [nI_e (by omega) (by omega)]; exact ha) ?_
        exact nxt _ _ hx'
theorem CO_round (ab : AB pn pg n Y T t tr kp wn wt yr dn) (h : CI (FM L dy) I (FR y y1 n1 w1 c y2 R) y pn pg n Y T t tr kp wn wt yr dn) : ∃ I', mj_call mj_P (d + 4) kn_T_round [.ref 1] (HP L dy I y y1 n1 w1 c y2 R J) (some (.int (if n = 0 then Int32.ofInt (-103) else rdA Y n T))) (HP L dy I' y y1 n1 w1 c y2 R J) ∧ CI (FM L dy) I' (FR y y1 n1 w1 c y2 R) y pn pg n Y T t tr kp wn wt yr dn ∧ KM I I' := by
  have h0 := h
  obtain ⟨h1, h2, h3, h4, h5, h6, h7⟩ := h
  by_cases hn : n = 0
  · rw [if_pos hn]
    obtain rfl := h2.nul hn
    refine ⟨I, ?_, h0, KM.rf I⟩
    refine mj_ci rfl (Nat.le_of_ble_eq_true rfl) ?_
    refine mj_run 4 rfl trivial ?_
    exact mj_end rfl rfl trivial
  · rw [if_neg hn]
    obtain ⟨ya, A, B, C, ol, od, rfl, hY⟩ := h2.non hn
    have hn10 := hY.1.1.1
    have hn1 := hY.1.2.1
    have fs := spI_f I
    have hYs := hY.fr (I' := spI I) (fun a h65 _ => fs a (by simp; omega))
    have hroll := R_roll (d := d) (J := J) (sA := 43) hYs rfl (by decide) (by decide) (by decide) (spI_T h3 hn10) ab.2.2.1 sq_none
    obtain ⟨hf1, hf2, hf3⟩ := ro_ok (q := none) hY.1.1 500 (10, T, 0) (by show 10 < 10 + n; omega) ab.2.2.1
    unfold rdA
    generalize ro Y none 500 (10, T, 0) = f at hf1 hf2 hf3 hroll
    have fr : Cf [43, 10] I (cR (spI I) n 43 f) := fun a ha => by
      simp at ha
      simp [cR, ha, fs a (by simp [ha])]
    have eT : RI (cR (spI I) n 43 f) 43 n f.2.1 := fun i hi => by simp [cR, hi]
    generalize hX : cR (spI I) n 43 f = X at fr eT hroll
    generalize hZ : mj_row X 11 (va_cpy (X 43) (X 11) 0 0 10) = Z
    have fZ : Cf [11] X Z := by rw [← hZ]; exact Cf.row X 11 _
    have z11 : ∀ i, i < 10 → Z 11 i = X 43 i := fun i hi => by rw [← hZ]; simp [mj_row, va_cpy, hi]
    have ff := fr.tr fZ
    have start : ∀ (v : Option Value) (h' : mjH), mj_Rd (mj_call mj_P (d + 2)) kc_Ro_roundOf 1 (26, [some (.ref 10), some (.ref ya), some (.ref 43), some (.int (nI f.1)), some (.int (nI f.1)), some (.int (nI 1))], [], HP L dy Z (some ya) y1 n1 w1 c y2 R J) v h' → mj_call mj_P (d + 3) kn_Ro_roundOf [.ref 10, .ref ya, .ref 43] (HP L dy (spI I) (some ya) y1 n1 w1 c y2 R J) v h' := by
      intro v h' hx
      refine mj_ci rfl (Nat.le_of_ble_eq_true rfl) ?_
      refine mj_run 4 rfl trivial ?_
      refine mj_cal rfl rfl hroll ?_
      refine mj_run 9 rfl trivial ?_
      refine sx_cp (a := 11) (b := 43) rfl rfl rfl rfl (by decide) ?_
      rw [show (nI 0).toNatClampNeg = 0 from rfl, show (nI 10).toNatClampNeg = 10 from rfl, hZ]
      refine mj_run 2 rfl trivial ?_
      exact hx
    have top : ∀ (w : Int32) (I' : mjI), mj_call mj_P (d + 3) kn_Ro_roundOf [.ref 10, .ref ya, .ref 43] (HP L dy (spI I) (some ya) y1 n1 w1 c y2 R J) (some (.int w)) (HP L dy I' (some ya) y1 n1 w1 c y2 R J) → mj_call mj_P (d + 4) kn_T_round [.ref 1] (HP L dy I (some ya) y1 n1 w1 c y2 R J) (some (.int w)) (HP L dy I' (some ya) y1 n1 w1 c y2 R J) := by
      intro w I' hx
      refine mj_ci rfl (Nat.le_of_ble_eq_true rfl) ?_
      refine mj_run 8 rfl trivial ?_
      refine mj_cal rfl rfl T_spare ?_
      refine mj_cal rfl rfl hx ?_
      exact mj_end rfl rfl trivial
    by_cases g : f.1 < 10
    · rw [if_pos g]
      refine ⟨Z, top _ _ (start _ _ ?_), h0.fr ff (by decide), ff.km (by decide)⟩
      refine mj_run 2 rfl trivial ?_
      refine mj_brf rfl rfl (by decide) ?_
      refine mj_run 2 rfl trivial ?_
      refine mj_brt rfl rfl (by rw [nI_ltI (by omega) (by decide)]; exact g) ?_
      refine mj_run 1 rfl trivial ?_
      exact mj_end rfl rfl trivial
    · rw [if_neg g]
      have hYZ := hY.fr (I' := Z) (fun a h65 _ => ff a (by simp; omega))
      obtain ⟨I', hf', hx'⟩ := R_roundLoop (d := d + 1) (J := J) (at' := f.1) (V := f.2.1) hf2 (by omega) (by omega) 500 1 Z f rfl hYZ g hf1 (eT.cf fZ (by decide)) hf2 (fun i hi => by rw [z11 i (by omega)]; exact eT i hi) (fun i h1 h2 => by rw [z11 i h2, fZ 43 (by decide)])
      have ff2 := ff.tr hf'
      exact ⟨I', top _ _ (start _ _ hx'), h0.fr ff2 (by decide), ff2.km (by decide)⟩
end CC
