section CC
variable {d L : Nat} {dy : mjM} {I : mjI} {y y1 n1 w1 c y2 : Option Nat} {R : mjR} {J : mjJ} {pn : Nat} {pg : Nat → Nat} {n : Nat} {Y : Yd} {T : Nat → Nat} {t : Nat} {tr : Nat → Nat} {kp : Kp} {wn : Nat} {wt : Nat → Nat} {yr dn : Nat}
theorem FM_app (L : Nat) (dy e : mjM) : FM L dy ++ e = FM L (dy ++ e) := rfl
theorem FM_len (L : Nat) (dy : mjM) : (FM L dy).length = 65 + dy.length := by
  unfold FM
  simp only [List.length_cons]
  omega
theorem CO_yard (ab : AB pn pg n Y T t tr kp wn wt yr dn) (h : CI (FM L dy) I (FR y y1 n1 w1 c y2 R) y pn pg n Y T t tr kp wn wt yr dn) : match ydS pg pn with
    | none => mj_call mj_P (d + 8) kn_T_yard [.ref 1] (HP L dy I y y1 n1 w1 c y2 R J) (some (.int (Int32.ofInt (-103)))) (HP L dy I y y1 n1 w1 c y2 R J)
    | some q => ∃ (e : mjM) (I' : mjI) (y' : Option Nat) (R' : mjR) (J' : mjJ), mj_call mj_P (d + 8) kn_T_yard [.ref 1] (HP L dy I y y1 n1 w1 c y2 R J) (some (.int (nI q.1))) (HP L (dy ++ e) I' y' y1 n1 w1 c y2 R' J') ∧ CI (FM L (dy ++ e)) I' (FR y' y1 n1 w1 c y2 R') y' 0 pg q.1 q.2 (fun _ => 0) 0 tr none wn wt (yr + 1) dn ∧ KM I I' ∧ e.length ≤ 30 ∧ mj_sl e ≤ 300 := by
  obtain ⟨h1, h2, h3, h4, h5, h6, h7⟩ := h
  have hl := FM_len L dy
  have hp : PGH (FM L dy) I (FR y y1 n1 w1 c y2 R) pn pg := ⟨rfl, rfl, rfl, h1.1, h1.2, by omega⟩
  have hRR : FR y y1 n1 w1 c y2 R = FR y y1 n1 w1 c y2 (FR y y1 n1 w1 c y2 R) := FR_self (fun a _ => rfl)
  have hr := G_read (d := d) (J := J) ab.1 h1 rfl hRR hp
  cases hy : ydS pg pn with
  | none =>
    rw [hy] at hr
    dsimp only at hr ⊢
    refine mj_ci rfl (Nat.le_of_ble_eq_true rfl) ?_
    refine mj_run 2 rfl trivial ?_
    refine mj_cal rfl rfl hr ?_
    refine mj_run 4 rfl trivial ?_
    exact mj_end rfl rfl trivial
  | some q =>
    rw [hy] at hr
    dsimp only at hr ⊢
    obtain ⟨m', I', R', J', ya, A, B, C, ol, od, hc, hE, hCY, hlen, hsl⟩ := hr
    obtain ⟨⟨e, rfl⟩, hE2⟩ := hE
    rw [FM_app] at hc hCY hlen hsl
    have hR' : R' = FR y y1 n1 w1 c y2 R' := FR_self (fun a ha => (hE2 a (by omega)).2)
    have eI : ∀ a, a < 65 → I' a = I a := fun a ha => (hE2 a (by omega)).1
    have hl2 := FM_len L (dy ++ e)
    have le : e.length ≤ 30 := by simp at hl2; omega
    have sle : mj_sl e ≤ 300 := by
      rw [← FM_app, mj_sl_app] at hsl
      omega
    have f := (((Cf.u I' 2 1 (nI 0)).tr ((Cf.row _ 5 (fun i => if i < 10 then nI 0 else mj_ui I' 2 1 (nI 0) 5 i)).tr (Cf.u _ 4 2 (nI 0)))).tr (Cf.u _ 1 11 (nI 0))).tr (Cf.u _ 1 13 (nI (yr + 1)))
    refine ⟨e, mj_ui (mj_ui (mj_ui (mj_row (mj_ui I' 2 1 (nI 0)) 5 (fun i => if i < 10 then nI 0 else mj_ui I' 2 1 (nI 0) 5 i)) 4 2 (nI 0)) 1 11 (nI 0)) 1 13 (nI (yr + 1)), some ya, R', J', ?_, ⟨⟨by simp [mj_ui, mj_row, upd], fun i hi => by omega⟩, Or.inr ⟨ya, A, B, C, ol, od, rfl, ?_⟩, fun i hi => ?_, ⟨by simp [mj_ui, upd], fun i hi => by omega⟩, ?_, ⟨?_, fun i hi => ?_⟩, by simp [mj_ui, upd], ?_⟩, fun a ha => ?_, le, sle⟩
    · refine mj_ci rfl (Nat.le_of_ble_eq_true rfl) ?_
      refine mj_run 2 rfl trivial ?_
      rw [hR'] at hc
      refine mj_cal rfl rfl hc ?_
      refine mj_run 6 rfl trivial ?_
      rw [FR_y]
      refine mj_run 2 rfl trivial ?_
      refine mj_cal rfl rfl (c_wipe (pn := pn) (pg := pg) ⟨by rw [eI 2 (by decide)]; exact h1.1, fun i hi => by rw [eI 3 (by decide)]; exact h1.2 i hi⟩) ?_
      refine mj_run 3 rfl trivial ?_
      refine mj_cal rfl rfl c_reset ?_
      have e13 : mj_ui (mj_ui (mj_row (mj_ui I' 2 1 (nI 0)) 5 (fun i => if i < 10 then nI 0 else mj_ui I' 2 1 (nI 0) 5 i)) 4 2 (nI 0)) 1 11 (nI 0) 1 13 = nI yr := by
        have := eI 1 (by decide)
        simp [mj_ui, mj_row, upd, this, h7.1]
      refine mj_run 10 rfl (Or.inl rfl) ?_
      rw [e13, nI_add]
      refine sx_gi rfl hCY.2.2.1.1 rfl ?_
      have hn := hCY.2.2.2.2.2.1
      have h65 := hCY.2.2.2.1.1.1
      refine mj_endI rfl rfl trivial ?_ rfl
      simp [mj_ui, mj_row, show ya ≠ 1 by omega, show ya ≠ 2 by omega, show ya ≠ 4 by omega, show ya ≠ 5 by omega, hn]
    · refine (hCY.fr (I' := _) (fun a h65 _ => f a (by simp; omega))).mr (fun a x g => g) (fun a k b x h65 _ g => by rw [FRd h65]; exact g)
    · have := hCY.1.1.1
      simp [mj_ui, mj_row, show i < 10 by omega]
    · show _ = nI 0
      simp [mj_ui, upd]
    · have := eI 1 (by decide)
      simp [mj_ui, mj_row, upd, this, h6.1]
    · have := eI 42 (by decide)
      simp [mj_ui, mj_row, this, h6.2 i hi]
    · have := eI 1 (by decide)
      simp [mj_ui, mj_row, upd, this, h7.2]
    · rw [f.km (by decide) a ha]
      exact eI a (by omega)
end CC
