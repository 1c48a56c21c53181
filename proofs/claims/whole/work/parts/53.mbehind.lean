section MM
variable {d L : Nat} {dy : mjM} {I : mjI} {y y1 n1 w1 c y2 : Option Nat} {R : mjR} {J : mjJ} {pn : Nat} {pg : Nat → Nat} {n : Nat} {Y : Yd} {T : Nat → Nat} {t : Nat} {tr : Nat → Nat} {kp : Kp} {wn : Nat} {wt : Nat → Nat} {yr dn : Nat}
theorem M_layBehind {x : Int32} {ng : Bool} {N : Nat} (hx : (ng = false ∧ x = nI N) ∨ (ng = true ∧ x = -(nI N) ∧ 1 ≤ N)) (hN : N ≤ 1000000) (h2 : MY I n Y) (h3 : Mst I n Y T) (hn1 : 1 ≤ n) (hst : strt Y n) : ∃ I', mj_call mj_P (d + 4) kn_M_layBehind [.ref 45, .int x] (HP L dy I y y1 n1 w1 c y2 R J) none (HP L dy I' y y1 n1 w1 c y2 R J) ∧ Fr [] [55, 57] I I' ∧ RI I' 55 n (bh Y n T ng N 0) := by
  have hY := h2.2.1
  have hn : n ≤ 10 := hY.1
  have hx0 : 0 ≤ x ↔ ng = false := by
    rw [ii_le]
    rcases hx with ⟨e, e2⟩ | ⟨e, e2, e3⟩
    · subst e2
      rw [nI_toInt (by omega)]
      simp [e]
    · subst e2
      rw [i_negT hN]
      simp [e]
      omega
  have hcm : cm Y n < 1024 := by
    unfold cm
    exact b_lt (k := 10) (rR_lt hY _) (by decide)
  have hcb : ∀ q, (cm Y n).testBit q = true → rc Y n q := fun q hq => (cm_bit hY hn1 q).mp hq
  -- the waiting ones
  have key : ∀ (W : Nat) (X : mjI) (l4 l5 l6 l7 : Option Value), mj_lg l4 = true → mj_lg l5 = true → mj_lg l6 = true → W < 1024 → (∀ q, W.testBit q = true → (cm Y n).testBit q = true) → Fr [] [55, 57] I X → RI X 57 n (acc Y n T ng N W) → RI X 55 n (bh Y n T ng N W) → mass Y n T ng N W ≤ N → ∃ I', (Fr [] [55, 57] I I' ∧ RI I' 55 n (bh Y n T ng N 0)) ∧ mj_Rd (mj_call mj_P (d + 3)) kc_M_layBehind 0 (66, [some (.ref 45), some (.int x), some (.int (nI N)), some (.int (nI W)), l4, l5, l6, l7], [], HP L dy X y y1 n1 w1 c y2 R J) none (HP L dy I' y y1 n1 w1 c y2 R J) := by
    intro W
    induction W using Nat.strongRecOn with
    | _ W ih =>
    intro X l4 l5 l6 l7 g4 g5 g6 hW hsub hf hA hB hM
    by_cases hz : W = 0
    · subst hz
      refine ⟨X, ⟨hf, hB⟩, ?_⟩
      refine mj_run 1 rfl trivial ?_
      refine mj_brt rfl rfl (by decide) ?_
      exact mj_end rfl rfl trivial
    · have hex : ∃ q, W.testBit q = true := Nat.exists_testBit_of_ne_zero hz
      obtain ⟨pr, hpr, hrdy⟩ := ready_one hY hn1 hst (fun q hq => hcb q (hsub q hq)) hex
      obtain ⟨p, ⟨hpb, hpr2⟩, hmin⟩ := pk_least (fun p => W.testBit p = true ∧ rdy Y W p n = true) ⟨pr, hpr, (rdy_iff n (Nat.le_refl n)).mpr hrdy⟩
      have hpc := hcb p (hsub p hpb)
      have hp : p < n := rc_lt hY hn1 hpc
      have hsm := sm_in hY hp
      have hTp := h3.2 p hp
      have hr := (rdy_iff n (Nat.le_refl n)).mp hpr2
      have hacc : acc Y n T ng N W p = cst Y n T ng N p := acc_is hY hn1 hst h3.2 hpc hr
      have hcN : cst Y n T ng N p ≤ N := by
        rw [← hacc]
        exact Nat.le_trans (mass_mem hpb hp) hM
      have hYX : MY X n Y := h2.fr hf (by decide)
      have hSX : Mst X n Y T := h3.fr hf (by decide)
      have hs0 := st0_in hY h3.2 (ng := ng) (m := cst Y n T ng N p) hp
      obtain ⟨I1, hc1, hf1, hR1⟩ := M_send (d := d) (L := L) (dy := dy) (y := y) (y1 := y1) (n1 := n1) (w1 := w1) (c := c) (y2 := y2) (R := R) (J := J) (s := st0 Y T ng p (cst Y n T ng N p)) hp hs0 hYX hA (by rw [hacc]; omega)
      rw [hacc] at hR1
      have hR2 : RI I1 57 n (acc Y n T ng N (less W p)) := fun q hq => by
        rw [acc_step hW hpb hp (hsub p hpb) q]
        exact hR1 q hq
      have f2 := (hf.tr hf1).tr (Fr.a I1 (a := 55) (by decide) p (nI (thn Y T ng p (cst Y n T ng N p))))
      have hlt : less W p < W := by
        unfold less
        have : 2 ^ p ≤ W := Nat.ge_two_pow_of_testBit hpb
        have : 0 < 2 ^ p := Nat.two_pow_pos p
        omega
      have hthn := thn_in hY (T := T) (ng := ng) (m := cst Y n T ng N p) hp
      obtain ⟨I', hI', hx'⟩ := ih (less W p) hlt (mj_ui I1 55 p (nI (thn Y T ng p (cst Y n T ng N p)))) (some (.int (nI p))) (some (.int (nI (sm Y p)))) (some (.int (nI (onn Y p (cst Y n T ng N p))))) (some (.int (nI (thn Y T ng p (cst Y n T ng N p))))) rfl rfl rfl (less_lt hW) (fun q hq => by
        rw [less_bit hW hpb q, Bool.and_eq_true] at hq
        exact hsub q hq.1) (f2.w (by decide) (by decide)) (fun q hq => by simp [mj_ui]; exact hR2 q hq) (fun q hq => by
        by_cases e : q = p
        · subst e
          simp only [mj_ui, upd, ↓reduceIte]
          unfold bh
          rw [less_bit hW hpb q, hsub q hpb]
          simp
        · have h9 := hB q hq
          rw [← hf1.1 55 (by decide) (by decide)] at h9
          simp only [mj_ui, upd, ↓reduceIte, if_neg e]
          rw [h9]
          unfold bh
          rw [less_bit hW hpb q]
          simp [e]) (Nat.le_trans (mass_step hY hW hpb hp (hsub p hpb) hacc) hM)
      refine ⟨I', hI', ?_⟩
      refine mj_run 1 rfl trivial ?_
      refine mj_brf rfl rfl (by rw [nI_z (by omega)]; exact hz) ?_
      refine mj_run 2 rfl trivial ?_
      -- found
      have eW : nI W - nI 1 <<< (nI p &&& 31) = nI (less W p) := by
        rw [b_one (by omega), pk_sub (Nat.ge_two_pow_of_testBit hpb)]
        rfl
      have vp : vp_in (nI p) 10 := nI_vi (by omega) (by decide)
      have x53 : X 53 p = nI (T p) := hSX.1 p hp
      have nz : ¬ nI (sm Y p) = 0 := by rw [nI_z (by omega)]; omega
      have hon : onn Y p (cst Y n T ng N p) ≤ sm Y p := by
        unfold onn
        split
        · omega
        · exact Nat.le_of_lt (Nat.mod_lt _ (by omega))
      have fin : ∀ z : Int32, z = nI (thn Y T ng p (cst Y n T ng N p)) → mj_Rd (mj_call mj_P (d + 3)) kc_M_layBehind 0 (169, [some (.ref 45), some (.int x), some (.int (nI N)), some (.int (nI W)), some (.int (nI p)), some (.int (nI (sm Y p))), some (.int (nI (onn Y p (cst Y n T ng N p)))), l7], [.int z], HP L dy X y y1 n1 w1 c y2 R J) none (HP L dy I' y y1 n1 w1 c y2 R J) := by
        intro z hz
        subst hz
        have last : ∀ z : Int32, z = nI (st0 Y T ng p (cst Y n T ng N p)) → mj_Rd (mj_call mj_P (d + 3)) kc_M_layBehind 0 (190, [some (.ref 45), some (.int x), some (.int (nI N)), some (.int (nI W)), some (.int (nI p)), some (.int (nI (sm Y p))), some (.int (nI (onn Y p (cst Y n T ng N p)))), some (.int (nI (thn Y T ng p (cst Y n T ng N p))))], [.int z, .int (nI p), .ref 45], HP L dy X y y1 n1 w1 c y2 R J) none (HP L dy I' y y1 n1 w1 c y2 R J) := by
          intro z hz
          subst hz
          refine mj_cal rfl rfl hc1 ?_
          refine mj_run 12 rfl ⟨vp, by decide⟩ ?_
          rw [nI_nc (by omega), eW]
          exact hx'
        refine mj_run 4 rfl trivial ?_
        refine mj_bra rfl rfl (fun g => ?_) (fun g => ?_)
        · have g' := hx0.mp g
          refine mj_run 4 rfl vp ?_
          rw [nI_nc (by omega), x53]
          exact last _ (by unfold st0; rw [if_neg (by rw [g']; decide)])
        · have g' : ng = true := by cases hng : ng with | true => rfl | false => exact absurd (hx0.mpr hng) g
          refine mj_run 2 rfl trivial ?_
          exact last _ (by unfold st0; rw [if_pos g'])
      have mid : ∀ z : Int32, z = nI (onn Y p (cst Y n T ng N p)) → mj_Rd (mj_call mj_P (d + 3)) kc_M_layBehind 0 (131, [some (.ref 45), some (.int x), some (.int (nI N)), some (.int (nI W)), some (.int (nI p)), some (.int (nI (sm Y p))), l6, l7], [.int z], HP L dy X y y1 n1 w1 c y2 R J) none (HP L dy I' y y1 n1 w1 c y2 R J) := by
        intro z hz
        subst hz
        refine mj_run 2 rfl trivial ?_
        refine mj_bra rfl rfl (fun g => ?_) (fun g => ?_)
        · have g' := hx0.mp g
          refine mj_run 8 rfl ⟨vp, nz⟩ ?_
          rw [nI_nc (by omega), x53, nI_add, pk_rem (by omega) (by omega) (by omega)]
          exact fin _ (by unfold thn; rw [if_neg (by rw [g']; decide)])
        · have g' : ng = true := by cases hng : ng with | true => rfl | false => exact absurd (hx0.mpr hng) g
          refine mj_run 11 rfl ⟨vp, nz⟩ ?_
          rw [nI_nc (by omega), x53, i_sac (by omega), pk_rem (by omega) (by omega) (by omega)]
          exact fin _ (by unfold thn; rw [if_pos g'])
      refine dn_ind p (fun q => ∀ l4 : Option Value, mj_Rd (mj_call mj_P (d + 3)) kc_M_layBehind 0 (73, [some (.ref 45), some (.int x), some (.int (nI N)), some (.int (nI W)), some (.int (nI q)), l5, l6, l7], [], HP L dy X y y1 n1 w1 c y2 R J) none (HP L dy I' y y1 n1 w1 c y2 R J)) ?_ ?_ 0 (by omega) l4
      · intro _
        refine mj_run 5 rfl trivial ?_
        rw [b_test (by omega) (by omega), hpb]
        refine mj_brf rfl rfl (by decide) ?_
        refine mj_run 3 rfl trivial ?_
        refine mj_cal rfl rfl (M_isReady hp hW hYX) ?_
        rw [hpr2]
        refine mj_brt rfl rfl (by decide) ?_
        refine mj_run 2 rfl trivial ?_
        refine mj_cal rfl rfl (M_standMany hYX hp) ?_
        refine mj_run 6 rfl vp ?_
        rw [nI_nc (by omega), (hYX.2.2 p hp).1]
        have hk4 := (hY.2 p hp).1
        refine mj_bra rfl rfl (fun g => ?_) (fun g => ?_)
        · rw [nI_e (by omega) (by decide)] at g
          refine mj_run 6 rfl ⟨vp, nz⟩ ?_
          rw [nI_nc (by omega), hA p hp, hacc, pk_rem (by omega) (by omega) (by omega)]
          exact mid _ (by unfold onn; rw [if_neg g])
        · rw [nI_e (by omega) (by decide)] at g
          refine mj_run 2 rfl trivial ?_
          exact mid _ (by unfold onn; rw [if_pos (Classical.not_not.mp g)])
      · intro q hq ihq _
        refine mj_run 5 rfl trivial ?_
        rw [b_test (by omega) (by omega)]
        have nxt : mj_Rd (mj_call mj_P (d + 3)) kc_M_layBehind 0 (92, [some (.ref 45), some (.int x), some (.int (nI N)), some (.int (nI W)), some (.int (nI q)), l5, l6, l7], [], HP L dy X y y1 n1 w1 c y2 R J) none (HP L dy I' y y1 n1 w1 c y2 R J) := by
          refine mj_run 2 rfl trivial ?_
          rw [nI_add]
          exact ihq none
        cases hb : W.testBit q with
        | false => exact mj_brt rfl rfl (by decide) nxt
        | true =>
          refine mj_brf rfl rfl (by decide) ?_
          refine mj_run 3 rfl trivial ?_
          refine mj_cal rfl rfl (M_isReady (by omega) hW hYX) ?_
          have : rdy Y W q n = false := by
            cases hq2 : rdy Y W q n with
            | false => rfl
            | true => exact absurd ⟨hb, hq2⟩ (hmin q hq)
          rw [this]
          exact mj_brf rfl rfl (by decide) nxt
  -- the rows are laid
  have lay := dn_ind 10 (fun p => ∀ (X : mjI), Fr [] [55, 57] I X → (∀ q, q < p → X 57 q = nI (if q = 0 then N else 0) ∧ X 55 q = I 53 q) → ∃ I', (Fr [] [55, 57] I I' ∧ RI I' 55 n (bh Y n T ng N 0)) ∧ mj_Rd (mj_call mj_P (d + 3)) kc_M_layBehind 0 (22, [some (.ref 45), some (.int x), some (.int (nI N)), some (.int (nI (cm Y n))), some (.int (nI p)), none, none, none], [], HP L dy X y y1 n1 w1 c y2 R J) none (HP L dy I' y y1 n1 w1 c y2 R J)) ?_ ?_ 0 (by omega)
  · obtain ⟨I', hA, hx'⟩ := lay I ((Fr.rf I).w (by simp) (by simp)) (fun q hq => by omega)
    refine ⟨I', ?_, hA⟩
    refine mj_ci rfl (Nat.le_of_ble_eq_true rfl) ?_
    refine mj_run 1 rfl trivial ?_
    have go : ∀ z : Int32, z = nI N → mj_Rd (mj_call mj_P (d + 3)) kc_M_layBehind 0 (10, [some (.ref 45), some (.int x), none, none, none, none, none, none], [.int z], HP L dy I y y1 n1 w1 c y2 R J) none (HP L dy I' y y1 n1 w1 c y2 R J) := by
      intro z hz
      subst hz
      refine mj_run 3 rfl trivial ?_
      refine mj_cal rfl rfl (M_reach (by decide) h2) ?_
      refine mj_run 5 rfl trivial ?_
      rw [b_or]
      exact hx'
    refine mj_bra rfl rfl (fun g => ?_) (fun g => ?_)
    · refine mj_run 1 rfl trivial ?_
      rcases hx with ⟨-, e⟩ | ⟨e, -⟩
      · exact go _ e
      · rw [hx0.mp g] at e; cases e
    · refine mj_run 3 rfl trivial ?_
      rcases hx with ⟨e, -⟩ | ⟨-, e, -⟩
      · exact absurd (hx0.mpr e) g
      · exact go _ (by rw [e, Int32.neg_neg])
  · intro X hf hX
    obtain ⟨I', hA, hx'⟩ := key (cm Y n) X (some (.int (nI 10))) none none none rfl rfl rfl hcm (fun _ h => h) hf (fun q hq => by rw [acc_0]; exact (hX q (by omega)).1) (fun q hq => by
      rw [(hX q (by omega)).2, h3.1 q hq]
      unfold bh
      cases (cm Y n).testBit q <;> rfl) mass_0
    refine ⟨I', hA, ?_⟩
    refine mj_run 2 rfl trivial ?_
    refine mj_brt rfl rfl (by decide) ?_
    exact hx'
  · intro p hp ih X hf hX
    have vp : vp_in (nI p) 10 := nI_vi (by omega) (by decide)
    have x53 : X 53 = I 53 := hf.1 53 (by decide) (by decide)
    obtain ⟨I', hA, hx'⟩ := ih (mj_ui (mj_ui X 57 p (nI (if p = 0 then N else 0))) 55 p (I 53 p)) ((hf.tr ((Fr.a X (a := 57) (by decide) p _).tr (Fr.a _ (a := 55) (by decide) p _))).w (by decide) (by decide)) (fun q hq => by
      by_cases e : q = p
      · subst e; simp [mj_ui, upd]
      · obtain ⟨a1, a2⟩ := hX q (by omega)
        simp [mj_ui, upd, e, a1, a2])
    refine ⟨I', hA, ?_⟩
    refine mj_run 2 rfl trivial ?_
    refine mj_brf rfl rfl (by rw [nI_leI (by decide) (by omega)]; omega) ?_
    refine mj_run 4 rfl trivial ?_
    have go : ∀ z : Int32, z = nI (if p = 0 then N else 0) → mj_Rd (mj_call mj_P (d + 3)) kc_M_layBehind 0 (45, [some (.ref 45), some (.int x), some (.int (nI N)), some (.int (nI (cm Y n))), some (.int (nI p)), none, none, none], [.int z, .int (nI p), .ref 57], HP L dy X y y1 n1 w1 c y2 R J) none (HP L dy I' y y1 n1 w1 c y2 R J) := by
      intro z hz
      subst hz
      refine mj_run 11 rfl ⟨⟨vp, by decide⟩, vp, vp, by decide⟩ ?_
      rw [nI_nc (by omega), nI_add]
      have : mj_ui X 57 p (nI (if p = 0 then N else 0)) 53 p = I 53 p := by
        rw [← x53]
        simp [mj_ui]
      rw [this]
      exact hx'
    refine mj_bra rfl rfl (fun g => ?_) (fun g => ?_)
    · rw [nI_z (by omega)] at g
      refine mj_run 1 rfl trivial ?_
      exact go _ (by rw [if_neg g])
    · rw [nI_z (by omega)] at g
      refine mj_run 2 rfl trivial ?_
      exact go _ (by rw [if_pos (Classical.not_not.mp g)])
end MM
