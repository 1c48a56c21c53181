theorem mu_step {k mvs step μ : Nat} (hk : k < 8) (hm : mvs ≤ 500) (h1 : (8 - k) * 501 - mvs ≤ μ + 1) (h2 : step + ((8 - k) * 501 - mvs) ≤ 4008) : (8 - (k + 1)) * 501 - 0 ≤ μ ∧ step + 1 + ((8 - (k + 1)) * 501 - 0) ≤ 4008 := by
  obtain ⟨j, hj⟩ : ∃ j, 8 - (k + 1) = j := ⟨_, rfl⟩
  have e : 8 - k = j + 1 := by omega
  rw [e] at h1 h2
  rw [hj]
  omega
section CC
variable {d L : Nat} {dy : mjM} {c y2 : Option Nat} {R : mjR} {J : mjJ} {n : Nat} {Y : Yd} {T wt : Nat → Nat} {wn : Nat} {ya ol : Nat} {A B C od : Nat → Nat} {Z : Nat → Int32}
theorem BFr.th {cc : Nat} {X X' X'' : mjI} (f : BFr cc X X') (g : BFr cc X' X'') : BFr cc X X'' := fun a h1 h2 h3 h4 => (g a h1 h2 h3 h4).trans (f a h1 h2 h3 h4)
theorem B_loop {e D : Nat} {ch : Nat → Nat} (hn6 : n ≤ 6) (hw8 : wn ≤ 8) (hwb : ∀ i, i < wn → wt i < 10) (hD : D < 2 ^ n) (hcc : ct D n ≤ 6) (hch : ∀ p, p < n → ¬ D.testBit p = true → ch p = T p)
    (hCh : ∀ (S : Nat → Nat) (k mvs i : Nat) (X : mjI) (F : Nat) (b : Nat → Nat), i < n → ¬ D.testBit i = true → k < wn → mvs ≤ 500 → (∀ p, p < n → D.testBit p = true → X (14 + ct D n) p = nI (S p) ∧ S p < sm Y p) → BG X Y n T wt wn F ch b Z → CY (FM L dy) X (FR (some ya) (some ya) (some 5) (some 42) c y2 R) ya A B C n ol od Y → ∃ (X' : mjI) (F' : Nat) (b' : Nat → Nat), mj_call mj_P (e + 3) kn_Be_choose [.ref 12, .int (nI (ct D n)), .int (nI D), .int (nI (un T ch n)), .int (nI k), .int (nI (10 + i)), .int (nI mvs)] (HP L dy X (some ya) (some ya) (some 5) (some 42) c y2 R J) none (HP L dy X' (some ya) (some ya) (some 5) (some 42) c y2 R J) ∧ BFr (ct D n) X X' ∧ BG X' Y n T wt wn F' ch b' Z ∧ BP T n (EB Y n wt wn D ch S k (10 + i) mvs) F b F' b') :
    ∀ (μ : Nat) (S : Nat → Nat) (k a mvs step : Nat) (X : mjI) (F : Nat) (b : Nat → Nat) (l4 l5 l6 : Option Value), (8 - k) * 501 - mvs ≤ μ → step + ((8 - k) * 501 - mvs) ≤ 4008 → (∀ p, p < n → D.testBit p = true → X (14 + ct D n) p = nI (S p) ∧ S p < sm Y p) → k < wn → a < 10 + n → mvs ≤ 500 → BG X Y n T wt wn F ch b Z → CY (FM L dy) X (FR (some ya) (some ya) (some 5) (some 42) c y2 R) ya A B C n ol od Y → ∃ (X' : mjI) (F' : Nat) (b' : Nat → Nat), (BFr (ct D n) X X' ∧ BG X' Y n T wt wn F' ch b' Z ∧ BP T n (EB Y n wt wn D ch S k a mvs) F b F' b') ∧ mj_Rd (mj_call mj_P (e + 3)) kc_Be_follow 0 (23, [some (.ref 12), some (.int (nI (ct D n))), some (.int (nI D)), some (.int (nI (un T ch n))), l4, l5, l6, some (.ref (14 + ct D n)), some (.int (nI k)), some (.int (nI a)), some (.int (nI mvs)), some (.int (nI step))], [], HP L dy X (some ya) (some ya) (some 5) (some 42) c y2 R J) none (HP L dy X' (some ya) (some ya) (some 5) (some 42) c y2 R J) := by
  intro μ
  induction μ with
  | zero =>
    intro S k a mvs step X F b l4 l5 l6 h1 h2 h3 hk ha hm
    have : (8 - k) * 501 ≥ 501 := by
      have : 1 ≤ 8 - k := by omega
      omega
    omega
  | succ μ ih =>
    intro S k a mvs step X F b l4 l5 l6 hμ hstep hS hk ha hm hB hY
    have hpos : (8 - k) * 501 ≥ 501 := by
      have : 1 ≤ 8 - k := by omega
      omega
    obtain ⟨g1, g2, g3, g4, g5, g6, g7⟩ := id hB
    obtain ⟨⟨hK, hn1, -⟩, -, ⟨m0, -⟩, -⟩ := id hY
    have h10 := two10 hK.1
    have hunle := un_le T ch n
    have hwk := hwb k hk
    have top : ∀ (v : Option Value) (h' : mjH), mj_Rd (mj_call mj_P (e + 3)) kc_Be_follow 0 (35, [some (.ref 12), some (.int (nI (ct D n))), some (.int (nI D)), some (.int (nI (un T ch n))), l4, l5, l6, some (.ref (14 + ct D n)), some (.int (nI k)), some (.int (nI a)), some (.int (nI mvs)), some (.int (nI step))], [.int (nI 10), .int (nI a)], HP L dy X (some ya) (some ya) (some 5) (some 42) c y2 R J) v h' → mj_Rd (mj_call mj_P (e + 3)) kc_Be_follow 0 (23, [some (.ref 12), some (.int (nI (ct D n))), some (.int (nI D)), some (.int (nI (un T ch n))), l4, l5, l6, some (.ref (14 + ct D n)), some (.int (nI k)), some (.int (nI a)), some (.int (nI mvs)), some (.int (nI step))], [], HP L dy X (some ya) (some ya) (some 5) (some 42) c y2 R J) v h' := by
      intro v h' hx
      refine mj_run 2 rfl trivial ?_
      refine mj_brf rfl rfl (by rw [nI_leI (by decide) (by omega)]; omega) ?_
      refine mj_run 2 rfl trivial ?_
      exact hx
    by_cases ha10 : a < 10
    · -- it stands in a siding
      have arr : ∀ (v : Option Value) (h' : mjH), mj_Rd (mj_call mj_P (e + 3)) kc_Be_follow 0 (47, [some (.ref 12), some (.int (nI (ct D n))), some (.int (nI D)), some (.int (nI (un T ch n))), l4, l5, l6, some (.ref (14 + ct D n)), some (.int (nI k)), some (.int (nI a)), some (.int (nI mvs)), some (.int (nI step))], [.int (nI (wt k)), .int (nI a)], HP L dy X (some ya) (some ya) (some 5) (some 42) c y2 R J) v h' → mj_Rd (mj_call mj_P (e + 3)) kc_Be_follow 0 (23, [some (.ref 12), some (.int (nI (ct D n))), some (.int (nI D)), some (.int (nI (un T ch n))), l4, l5, l6, some (.ref (14 + ct D n)), some (.int (nI k)), some (.int (nI a)), some (.int (nI mvs)), some (.int (nI step))], [], HP L dy X (some ya) (some ya) (some 5) (some 42) c y2 R J) v h' := by
        intro v h' hx
        refine top v h' ?_
        refine mj_brf rfl rfl (by rw [nI_leI (by decide) (by omega)]; omega) ?_
        refine mj_run 5 rfl (nI_vi (show k < 8 by omega) (by decide)) ?_
        rw [nI_nc (by omega), g7 k hk]
        exact hx
      by_cases hw : a = wt k
      · by_cases hl : k + 1 < wn
        · have hq := mu_step (show k < 8 by omega) hm hμ hstep
          obtain ⟨X', F', b', ⟨f1, f2, f3⟩, hx⟩ := ih S (k + 1) 10 0 (step + 1) X F b l4 l5 l6 hq.1 hq.2 hS hl (by omega) (by omega) hB hY
          refine ⟨X', F', b', ⟨f1, f2, BP_sub f3 (fun U => (EB_next ha10 hw hl U).symm)⟩, arr _ _ ?_⟩
          refine mj_brt rfl rfl (by rw [hw]) ?_
          refine mj_run 4 rfl trivial ?_
          rw [nI_add, g2]
          refine mj_brt rfl rfl (by rw [nI_ltI (by omega) (by omega)]; exact hl) ?_
          refine mj_run 7 rfl trivial ?_
          rw [nI_add]
          exact hx
        · have hlast : k + 1 = wn := by omega
          obtain ⟨X', F', b', hcall, hf, hB', hor⟩ := B_keep (d := e + 1) (L := L) (dy := dy) (y := some ya) (y1 := some ya) (n1 := some 5) (w1 := some 42) (c := c) (y2 := y2) (R := R) (J := J) hK hB (δ := un T ch n) (by omega)
          obtain ⟨lf1, lf2⟩ := BP_leaf (T := T) (n := n) (E := EB Y n wt wn D ch S k a mvs) (F := F) (b := b) (ch := ch) ((EB_last ha10 hw hlast ch).mpr ⟨g3.2.1, fun p _ _ => rfl⟩) (fun U hU p hp => by
            obtain ⟨q1, q2⟩ := (EB_last ha10 hw hlast U).mp hU
            by_cases q : D.testBit p = true
            · exact Or.inl (q2 p hp q)
            · exact Or.inr (hch p hp q))
          refine ⟨X', F', b', ⟨fun a' q1 q2 q3 q4 => hf a' (by simp [q1, q3]), hB', ?_⟩, arr _ _ ?_⟩
          · rcases hor with ⟨q1, rfl, rfl⟩ | ⟨q1, rfl, rfl⟩
            · exact lf1 q1
            · exact lf2 q1
          · refine mj_brt rfl rfl (by rw [hw]) ?_
            refine mj_run 4 rfl trivial ?_
            rw [nI_add, g2]
            refine mj_brf rfl rfl (by rw [nI_ltI (by omega) (by omega)]; exact hl) ?_
            refine mj_run 2 rfl trivial ?_
            refine mj_cal rfl rfl hcall ?_
            exact mj_end rfl rfl trivial
      · refine ⟨X, F, b, ⟨fun _ _ _ _ _ => rfl, hB, BP_no (EB_ne ha10 hw)⟩, arr _ _ ?_⟩
        refine mj_brf rfl rfl (by rw [nI_e (by omega) (by omega)]; exact hw) ?_
        exact mj_end rfl rfl trivial
    · -- it is at a switch
      obtain ⟨i, hi⟩ : ∃ i, a = 10 + i := ⟨a - 10, by omega⟩
      subst hi
      have hin : i < n := by omega
      by_cases hm5 : 500 ≤ mvs
      · refine ⟨X, F, b, ⟨fun _ _ _ _ _ => rfl, hB, BP_no (EB_far ha10 hm5)⟩, top _ _ ?_⟩
        refine mj_brt rfl rfl (by rw [nI_leI (by decide) (by omega)]; omega) ?_
        refine mj_run 2 rfl trivial ?_
        refine mj_brt rfl rfl (by rw [nI_leI (by decide) (by omega)]; omega) ?_
        exact mj_end rfl rfl trivial
      · obtain ⟨ld1, ld0⟩ := Y_lead (d := e + 2) (J := J) hY hin hwk
        have lead : ∀ (z : Int32) (v : Option Value) (h' : mjH), mj_call mj_P (e + 3) kn_Yd_canLead [.ref ya, .int (nI i), .int (nI (wt k))] (HP L dy X (some ya) (some ya) (some 5) (some 42) c y2 R J) (some (.int z)) (HP L dy X (some ya) (some ya) (some 5) (some 42) c y2 R J) → mj_Rd (mj_call mj_P (e + 3)) kc_Be_follow 0 (106, [some (.ref 12), some (.int (nI (ct D n))), some (.int (nI D)), some (.int (nI (un T ch n))), l4, l5, l6, some (.ref (14 + ct D n)), some (.int (nI k)), some (.int (nI (10 + i))), some (.int (nI mvs)), some (.int (nI step))], [.int z], HP L dy X (some ya) (some ya) (some 5) (some 42) c y2 R J) v h' → mj_Rd (mj_call mj_P (e + 3)) kc_Be_follow 0 (23, [some (.ref 12), some (.int (nI (ct D n))), some (.int (nI D)), some (.int (nI (un T ch n))), l4, l5, l6, some (.ref (14 + ct D n)), some (.int (nI k)), some (.int (nI (10 + i))), some (.int (nI mvs)), some (.int (nI step))], [], HP L dy X (some ya) (some ya) (some 5) (some 42) c y2 R J) v h' := by
          intro z v h' hcl hx
          refine top v h' ?_
          refine mj_brt rfl rfl (by rw [nI_leI (by decide) (by omega)]; omega) ?_
          refine mj_run 2 rfl trivial ?_
          refine mj_brf rfl rfl (by rw [nI_leI (by decide) (by omega)]; omega) ?_
          refine mj_run 9 rfl (nI_vi (show k < 8 by omega) (by decide)) ?_
          rw [pk_sub (by omega), show 10 + i - 10 = i by omega, nI_nc (by omega), g7 k hk]
          refine sx_v2 rfl m0 rfl rfl hcl ?_
          exact hx
        rcases Classical.em (lds Y n i (wt k)) with hl | hl
        · have bit : ∀ (v : Option Value) (h' : mjH), mj_Rd (mj_call mj_P (e + 3)) kc_Be_follow 0 (119, [some (.ref 12), some (.int (nI (ct D n))), some (.int (nI D)), some (.int (nI (un T ch n))), l4, l5, l6, some (.ref (14 + ct D n)), some (.int (nI k)), some (.int (nI (10 + i))), some (.int (nI mvs)), some (.int (nI step))], [.int (nI (if D.testBit i then 1 else 0))], HP L dy X (some ya) (some ya) (some 5) (some 42) c y2 R J) v h' → mj_Rd (mj_call mj_P (e + 3)) kc_Be_follow 0 (23, [some (.ref 12), some (.int (nI (ct D n))), some (.int (nI D)), some (.int (nI (un T ch n))), l4, l5, l6, some (.ref (14 + ct D n)), some (.int (nI k)), some (.int (nI (10 + i))), some (.int (nI mvs)), some (.int (nI step))], [], HP L dy X (some ya) (some ya) (some 5) (some 42) c y2 R J) v h' := by
            intro v h' hx
            refine lead (nI 1) v h' (ld1 hl) ?_
            refine mj_brt rfl rfl (by decide) ?_
            refine mj_run 7 rfl trivial ?_
            rw [pk_sub (by omega), show 10 + i - 10 = i by omega, b_test (by omega) (by omega)]
            exact hx
          by_cases hDi : D.testBit i = true
          · obtain ⟨q1, q2⟩ := hS i hin hDi
            have hp := Y_pass (d := e + 2) (J := J) (q := none) (x := Int32.ofInt (-1)) hY (sA := 14 + ct D n) (be_row hcc) (by omega) (by omega) hin q1 q2 sq_none
            rw [if_neg (by simp)] at hp
            have fX := Cf.u X (14 + ct D n) i (nI (tn Y i (S i)))
            have hpl := pl_in hK hin q2
            have htn := tn_in hK hin q2
            obtain ⟨X', F', b', ⟨f1, f2, f3⟩, hx⟩ := ih (fu S i (tn Y i (S i))) k (pl Y i (S i)) (mvs + 1) (step + 1) (mj_ui X (14 + ct D n) i (nI (tn Y i (S i)))) F b l4 l5 l6 (by omega) (by omega) (fun p hp hb => by
              by_cases e : p = i
              · subst e; exact ⟨by simp [mj_ui, upd, fu], by simp [fu]; exact htn⟩
              · obtain ⟨w1, w2⟩ := hS p hp hb
                exact ⟨by simp [mj_ui, upd, fu, e, w1], by simp [fu, e]; exact w2⟩) hk hpl (by omega) (hB.fr fX (by simp; omega)) (hY.fr (fun a h65 _ => fX a (by simp; omega)))
            refine ⟨X', F', b', ⟨fun a' w1 w2 w3 w4 => ?_, f2, BP_sub f3 (fun U => (EB_pass hDi (by omega) U).symm)⟩, bit _ _ ?_⟩
            · rw [f1 a' w1 w2 w3 w4, fX a' (by simp; omega)]
            · rw [if_pos hDi]
              refine mj_brt rfl rfl (by decide) ?_
              refine mj_run 7 rfl trivial ?_
              rw [pk_sub (by omega), show 10 + i - 10 = i by omega]
              refine sx_v3 rfl m0 rfl rfl hp ?_
              refine mj_run 4 rfl trivial ?_
              rw [nI_add, nI_add]
              exact hx
          · obtain ⟨X', F', b', hcall, f1, f2, f3⟩ := hCh S k mvs i X F b hin hDi hk hm hS hB hY
            refine ⟨X', F', b', ⟨f1, f2, f3⟩, bit _ _ ?_⟩
            rw [if_neg hDi]
            refine mj_brf rfl rfl (by decide) ?_
            refine mj_run 7 rfl trivial ?_
            refine mj_cal rfl rfl hcall ?_
            exact mj_end rfl rfl trivial
        · refine ⟨X, F, b, ⟨fun _ _ _ _ _ => rfl, hB, BP_no (EB_lead hK hin (fun p hp hb => (hS p hp hb).2) hl)⟩, ?_⟩
          refine lead (nI 0) _ _ (ld0 hl) ?_
          refine mj_brf rfl rfl (by decide) ?_
          exact mj_end rfl rfl trivial
theorem B_follow (hn6 : n ≤ 6) (hw8 : wn ≤ 8) (hwb : ∀ i, i < wn → wt i < 10) (hTK : TOK n Y T) : ∀ r, FOL d L dy c y2 R J n Y T wt wn ya ol A B C od Z r := by
  intro r
  induction r with
  | zero =>
    intro D ch S k a mvs X F b hct hD hch hS hk ha hm hB hY
    have hcc : ct D n ≤ 6 := by omega
    obtain ⟨X', F', b', hA, hx⟩ := B_loop (e := d + 1) (J := J) hn6 hw8 hwb hD hcc hch (fun S k mvs i X F b hi hDi => by
      have := ct_full hDi n hi
      omega) ((8 - k) * 501 - mvs) S k a mvs 0 X F b (some (.int (nI k))) (some (.int (nI a))) (some (.int (nI mvs))) (Nat.le_refl _) (by omega) hS hk ha hm hB hY
    refine ⟨X', F', b', ?_, hA⟩
    refine mj_ci rfl (Nat.le_of_ble_eq_true rfl) ?_
    refine mj_run 3 rfl trivial ?_
    refine sx_al (a := 13) rfl rfl rfl (nI_vi (show ct D n < 7 by omega) (by decide)) (by rw [nI_nc (by omega)]; exact be_ref (by omega)) ?_
    refine mj_run 9 rfl trivial ?_
    exact hx
  | succ r ih =>
    intro D ch S k a mvs X F b hct hD hch hS hk ha hm hB hY
    have hcc : ct D n ≤ 6 := by omega
    obtain ⟨X', F', b', hA, hx⟩ := B_loop (e := d + 2 * r + 3) (J := J) hn6 hw8 hwb hD hcc hch (fun S k mvs i X F b hi hDi hk hm hS hB hY => B_choose hn6 ih hct hD hch hS hk hi hDi hm hw8 hTK hB hY) ((8 - k) * 501 - mvs) S k a mvs 0 X F b (some (.int (nI k))) (some (.int (nI a))) (some (.int (nI mvs))) (Nat.le_refl _) (by omega) hS hk ha hm hB hY
    refine ⟨X', F', b', ?_, hA⟩
    have e : d + 2 * (r + 1) + 5 = d + 2 * r + 3 + 3 + 1 := by omega
    rw [e]
    refine mj_ci rfl (Nat.le_of_ble_eq_true rfl) ?_
    refine mj_run 3 rfl trivial ?_
    refine sx_al (a := 13) rfl rfl rfl (nI_vi (show ct D n < 7 by omega) (by decide)) (by rw [nI_nc (by omega)]; exact be_ref (by omega)) ?_
    refine mj_run 9 rfl trivial ?_
    exact hx
end CC
