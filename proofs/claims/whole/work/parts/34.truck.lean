def rsI (I : mjI) (n : Nat) (s : Rs) : mjI := fun b => if b = 45 then upd (upd (I 45) 19 (nI s.1)) 20 (nI s.2.2) else if b = 55 then (fun i => if i < n then nI (s.2.1 i) else I 55 i) else I b
theorem rsI_mv {I : mjI} {n a : Nat} {Y : Yd} {q : Option Nat} {T : Nat → Nat} {m : Nat} (ha : a < n) : mj_ui (mj_ui (mj_ui (rsI I n (10 + a, T, m)) 45 19 (nI (mv Y q (10 + a, T, m)).1)) 55 a (nI ((mv Y q (10 + a, T, m)).2.1 a))) 45 20 (nI (m + 1)) = rsI I n (mv Y q (10 + a, T, m)) := by
  funext b
  by_cases h : b = 45
  · subst h
    funext i
    simp only [mj_ui, rsI, upd, if_true]
    by_cases h1 : i = 20
    · simp [h1, mv]
    · by_cases h2 : i = 19
      · simp [h2, upd]
      · simp [h1, h2, upd]
  · by_cases h5 : b = 55
    · subst h5
      funext i
      simp only [mj_ui, rsI, upd]
      by_cases h1 : i = a
      · subst h1
        simp [ha, upd]
      · have e : (mv Y q (10 + a, T, m)).2.1 i = T i := by simp [mv, fu, h1]
        simp [h1, e, upd]
    · simp [mj_ui, rsI, h, h5]
theorem rsI_0 {I : mjI} {n : Nat} {T : Nat → Nat} (hT : RI I 55 n T) : mj_ui (mj_ui I 45 19 (nI 10)) 45 20 (nI 0) = rsI I n (10, T, 0) := by
  funext b
  by_cases h : b = 45
  · subst h
    simp [mj_ui, rsI]
  · by_cases h5 : b = 55
    · subst h5
      funext i
      by_cases hi : i < n
      · simp [mj_ui, rsI, hi, hT i hi]
      · simp [mj_ui, rsI, hi]
    · simp [mj_ui, rsI, h, h5]
def GF (I I' : mjI) : Prop := (∀ a, a ≠ 45 → a ≠ 55 → a ≠ 56 → I' a = I a) ∧ ∀ k, k ≠ 19 → k ≠ 20 → I' 45 k = I 45 k
theorem MY.gf {I I' : mjI} {n : Nat} {Y : Yd} (h : MY I n Y) (g : GF I I') : MY I' n Y := h.kept (g.2 9 (by decide) (by decide)) (g.1 50 (by decide) (by decide) (by decide)) (g.1 51 (by decide) (by decide) (by decide)) (g.1 52 (by decide) (by decide) (by decide))
theorem GF.rf (I : mjI) : GF I I := ⟨fun _ _ _ _ => rfl, fun _ _ _ => rfl⟩
theorem GF.tr {I I' I'' : mjI} (g : GF I I') (g2 : GF I' I'') : GF I I'' := ⟨fun a h1 h2 h3 => (g2.1 a h1 h2 h3).trans (g.1 a h1 h2 h3), fun k h1 h2 => (g2.2 k h1 h2).trans (g.2 k h1 h2)⟩
section MM
variable {d L : Nat} {dy : mjM} {I : mjI} {y y1 n1 w1 c y2 : Option Nat} {R : mjR} {J : mjJ} {n : Nat} {Y : Yd}
theorem M_roll {x : Int32} {q : Option Nat} {v : Option Value} {h' : mjH} {p : Int32} (hY : MY I n Y) (hq : sq q x) : ∀ (k : Nat) (s : Rs), s.2.2 + k = 500 → s.1 < 10 + n → TOK n Y s.2.1 →
    mj_Rd (mj_call mj_P (d + 3)) kc_M_goTruck 1 (64, [some (.ref 45), some (.int x), some (.int p)], [], HP L dy (rsI I n (ro Y q k s)) y y1 n1 w1 c y2 R J) v h' → mj_Rd (mj_call mj_P (d + 3)) kc_M_goTruck 1 (37, [some (.ref 45), some (.int x), some (.int p)], [], HP L dy (rsI I n s) y y1 n1 w1 c y2 R J) v h'
  | k, (a, T, m), hm, ha, hT, hx => by
    have hn : n ≤ 10 := hY.2.1.1
    have hm' : m + k = 500 := hm
    have ha' : a < 10 + n := ha
    have e19 : rsI I n (a, T, m) 45 19 = nI a := by simp [rsI, upd]
    have e20 : rsI I n (a, T, m) 45 20 = nI m := by simp [rsI, upd]
    refine mj_run 3 rfl trivial ?_
    rw [e19]
    refine mj_bra rfl rfl (fun g => ?_) (fun g => ?_)
    · rw [nI_ltI (by omega) (by decide)] at g
      have e : ro Y q k (a, T, m) = (a, T, m) := by
        cases k with
        | zero => rfl
        | succ k => simp [ro, g]
      rw [e] at hx
      exact hx
    · rw [nI_ltI (by omega) (by decide)] at g
      refine mj_run 3 rfl trivial ?_
      rw [e20]
      cases k with
      | zero =>
        refine mj_brt rfl rfl (by rw [nI_leI (by decide) (by omega)]; omega) ?_
        exact hx
      | succ k =>
        refine mj_brf rfl rfl (by rw [nI_leI (by decide) (by omega)]; omega) ?_
        refine mj_run 2 rfl trivial ?_
        obtain ⟨b, hb⟩ : ∃ b, a = 10 + b := ⟨a - 10, by omega⟩
        subst hb
        have hYr : MY (rsI I n (10 + b, T, m)) n Y := hY.kept (by simp [rsI, upd]) (by simp [rsI]) (by simp [rsI]) (by simp [rsI])
        refine mj_cal rfl rfl (M_move (a := b) (m := m) (T := T) hYr e19 (by omega) (fun i hi => by simp [rsI, hi]) hT hq e20) ?_
        rw [rsI_mv (by omega)]
        refine mj_run 1 rfl trivial ?_
        obtain ⟨g1, g2⟩ := mv_ok (q := q) hY.2.1 g ha hT
        have e : ro Y q (k + 1) (10 + b, T, m) = ro Y q k (mv Y q (10 + b, T, m)) := by
          show (if 10 + b < 10 then _ else _) = _
          rw [if_neg g]
        rw [e] at hx
        exact M_roll hY hq k _ (by show m + 1 + k = 500; omega) g1 g2 hx
theorem M_goTruck {T : Nat → Nat} {q : Option Nat} {x : Int32} (hY : MY I n Y) (hn1 : 1 ≤ n) (hT : RI I 55 n T) (hTK : TOK n Y T) (hq : sq q x) : ∃ I', mj_call mj_P (d + 4) kn_M_goTruck [.ref 45, .int x] (HP L dy I y y1 n1 w1 c y2 R J) (some (.int (gv (gt Y q T).1))) (HP L dy I' y y1 n1 w1 c y2 R J) ∧ GF I I' ∧ RI I' 55 n (gt Y q T).2.1 ∧ I' 45 20 = nI (gt Y q T).2.2 := by
  have hn : n ≤ 10 := hY.2.1.1
  have hYc : MY (cpI I 56 55 10) n Y := hY.kept (by simp [cpI]) (by simp [cpI]) (by simp [cpI]) (by simp [cpI])
  have hTc : RI (cpI I 56 55 10) 55 n T := fun i hi => by rw [cpI_ne (by decide)]; exact hT i hi
  obtain ⟨hf1, hf2, hf3⟩ := ro_ok (q := q) hY.2.1 500 (10, T, 0) (by show 10 < 10 + n; omega) hTK
  generalize hf : ro Y q 500 (10, T, 0) = f at hf1 hf2 hf3
  have hgt : gt Y q T = if f.1 < 10 then (some f.1, f.2) else (none, T, f.2.2) := by unfold gt; rw [hf]
  have main : ∀ (v : Option Value) (h' : mjH), mj_Rd (mj_call mj_P (d + 3)) kc_M_goTruck 1 (64, [some (.ref 45), some (.int x), some (.int (nI 10))], [], HP L dy (rsI (cpI I 56 55 10) n f) y y1 n1 w1 c y2 R J) v h' → mj_call mj_P (d + 4) kn_M_goTruck [.ref 45, .int x] (HP L dy I y y1 n1 w1 c y2 R J) v h' := by
    intro v h' hx
    refine mj_ci rfl (Nat.le_of_ble_eq_true rfl) ?_
    refine mj_run 2 rfl trivial ?_
    have key := dn_ind 10 (fun p => mj_Rd (mj_call mj_P (d + 3)) kc_M_goTruck 1 (2, [some (.ref 45), some (.int x), some (.int (nI p))], [], HP L dy (cpI I 56 55 p) y y1 n1 w1 c y2 R J) v h') ?_ ?_ 0 (by omega)
    · rw [cpI_0] at key
      exact key
    · refine mj_run 2 rfl trivial ?_
      refine mj_brt rfl rfl (by decide) ?_
      refine mj_run 6 rfl trivial ?_
      rw [rsI_0 hTc]
      refine M_roll hYc hq 500 _ rfl (by show 10 < 10 + n; omega) hTK ?_
      rw [hf]
      exact hx
    · intro p hp ih
      refine mj_run 2 rfl trivial ?_
      refine mj_brf rfl rfl (by rw [nI_leI (by decide) (by omega)]; omega) ?_
      refine mj_run 10 rfl ⟨nI_vi (by omega) (by decide), nI_vi (by omega) (by decide), by decide⟩ ?_
      rw [nI_nc (by omega), cpI_s (by decide), nI_add]
      exact ih
  have e19 : rsI (cpI I 56 55 10) n f 45 19 = nI f.1 := by simp [rsI, upd]
  by_cases hfl : f.1 < 10
  · rw [hgt, if_pos hfl]
    refine ⟨rsI (cpI I 56 55 10) n f, main _ _ ?_, ⟨fun a h1 h2 h3 => by simp [rsI, cpI, h1, h2, h3], fun k h1 h2 => by simp [rsI, cpI, upd, h1, h2]⟩, fun i hi => by simp [rsI, hi], by simp [rsI, upd]⟩
    refine mj_run 3 rfl trivial ?_
    rw [e19]
    refine mj_brf rfl rfl (by rw [nI_leI (by decide) (by omega)]; omega) ?_
    refine mj_run 2 rfl trivial ?_
    rw [e19]
    exact mj_end rfl rfl trivial
  · rw [hgt, if_neg hfl]
    refine ⟨cpI (rsI (cpI I 56 55 10) n f) 55 56 10, main _ _ ?_, ⟨fun a h1 h2 h3 => by simp [rsI, cpI, h1, h2, h3], fun k h1 h2 => by simp [rsI, cpI, upd, h1, h2]⟩, fun i hi => ?_, by simp [rsI, cpI, upd]⟩
    · refine mj_run 3 rfl trivial ?_
      rw [e19]
      refine mj_brt rfl rfl (by rw [nI_leI (by decide) (by omega)]; omega) ?_
      refine mj_run 2 rfl trivial ?_
      have key := dn_ind 10 (fun p => mj_Rd (mj_call mj_P (d + 3)) kc_M_goTruck 1 (80, [some (.ref 45), some (.int x), some (.int (nI p))], [], HP L dy (cpI (rsI (cpI I 56 55 10) n f) 55 56 p) y y1 n1 w1 c y2 R J) (some (.int (gv none))) (HP L dy (cpI (rsI (cpI I 56 55 10) n f) 55 56 10) y y1 n1 w1 c y2 R J)) ?_ ?_ 0 (by omega)
      · rw [cpI_0] at key
        exact key
      · refine mj_run 2 rfl trivial ?_
        refine mj_brt rfl rfl (by decide) ?_
        refine mj_run 1 rfl trivial ?_
        exact mj_end rfl rfl trivial
      · intro p hp ih
        refine mj_run 2 rfl trivial ?_
        refine mj_brf rfl rfl (by rw [nI_leI (by decide) (by omega)]; omega) ?_
        refine mj_run 10 rfl ⟨nI_vi (by omega) (by decide), nI_vi (by omega) (by decide), by decide⟩ ?_
        rw [nI_nc (by omega), cpI_s (by decide), nI_add]
        exact ih
    · rw [cpI_at (by omega)]
      have : rsI (cpI I 56 55 10) n f 56 i = I 55 i := by simp [rsI, cpI]; omega
      rw [this]
      exact hT i hi
end MM
