section QQ
variable {d : Nat} {m : mjM} {I : mjI} {R : mjR} {J : mjJ} {ya a0 : Nat} {B C : Nat → Nat} {n : Nat} {Y : Yd}
theorem Q_stands (hQ : CQ m I R ya a0 B C n Y) {a4 a5 i : Nat} (hi : i < n) (r4 : R ya 4 = some a4) (r5 : R ya 5 = some a5) (m4 : mj_mt a4 m = some (0, 60)) (m5 : mj_mt a5 m = some (0, 60)) (h4 : 0 < a4) (h5 : 0 < a5) (h45 : a4 ≠ a5) (hy4 : ya ≠ a4) (hy5 : ya ≠ a5) (hC : ∀ p, p < n → C p ≠ a4 ∧ C p ≠ a5) : ∃ I', mj_call mj_P (d + 5) kn_Yd_tellStands [.ref ya, .int (nI i)] (m, I, R, J) none (m, I', R, J) ∧ (∀ a, a ≠ a4 → a ≠ a5 → I' a = I a) ∧ (∀ s, s < sm Y i → I' a4 (i * 6 + s) = nI (pl Y i s) ∧ I' a5 (i * 6 + s) = nI (tn Y i s)) ∧ ∀ j, j < i * 6 ∨ i * 6 + 6 ≤ j → I' a4 j = I a4 j ∧ I' a5 j = I a5 j := by
  obtain ⟨g1, g2, g3, g4, g5, g6, g7⟩ := id hQ
  have hn := g1.1
  obtain ⟨q1, q2, q3⟩ := g7 i hi
  obtain ⟨⟨qq, hm⟩, hr, hc⟩ := id q2
  obtain ⟨k1, k2, k3, k4⟩ := g1.2 i hi
  have hs := sm_in g1 hi
  have key : ∀ (f s : Nat) (X : mjI), s + f = sm Y i → (∀ a, a ≠ a4 → a ≠ a5 → X a = I a) → (∀ s', s' < s → X a4 (i * 6 + s') = nI (pl Y i s') ∧ X a5 (i * 6 + s') = nI (tn Y i s')) → (∀ j, j < i * 6 ∨ i * 6 + 6 ≤ j → X a4 j = I a4 j ∧ X a5 j = I a5 j) → ∃ I', ((∀ a, a ≠ a4 → a ≠ a5 → I' a = I a) ∧ (∀ s, s < sm Y i → I' a4 (i * 6 + s) = nI (pl Y i s) ∧ I' a5 (i * 6 + s) = nI (tn Y i s)) ∧ ∀ j, j < i * 6 ∨ i * 6 + 6 ≤ j → I' a4 j = I a4 j ∧ I' a5 j = I a5 j) ∧ mj_Rd (mj_call mj_P (d + 4)) kc_Yd_tellStands 0 (20, [some (.ref ya), some (.int (nI i)), some (.ref (B i)), some (.int (nI (sm Y i))), some (.int (nI s))], [], m, X, R, J) none (m, I', R, J) := by
    intro f
    induction f with
    | zero =>
      intro s X hsf hX hS hO
      refine ⟨X, ⟨hX, fun s' hs' => hS s' (by omega), hO⟩, ?_⟩
      refine mj_run 2 rfl trivial ?_
      refine mj_brt rfl rfl (by rw [nI_leI (by omega) (by omega)]; omega) ?_
      exact mj_end rfl rfl trivial
    | succ f ih =>
      intro s X hsf hX hS hO
      have hsm : s < sm Y i := by omega
      have e6 : nI i * nI 6 + nI s = nI (i * 6 + s) := by rw [pk_mul, nI_add]
      have vi : vp_in (nI (i * 6 + s)) 60 := nI_vi (by omega) (by decide)
      have hcl : (nI (i * 6 + s)).toNatClampNeg = i * 6 + s := nI_nc (by omega)
      have hw := wa_in g1 hi hsm
      obtain ⟨f1, fs1, fc1⟩ := P_wayAt (d := d + 3) (I := X) (J := J) g1 hi q2 hsm
      have pb := P_placeBy (d := d + 3) (I := X) (J := J) (w := wa Y i s) g1 hi q2 (by omega) (fun w hw => by rw [hX (C i) (hC i hi).1 (hC i hi).2]; exact q3 w hw)
      rw [if_pos hw] at pb
      have tu := P_turned (d := d) (I := mj_ui X a4 (i * 6 + s) (nI (pl Y i s))) (J := J) (t := 1) g1 hi q2 hsm (by omega)
      rw [tn_per g1 hi hsm] at tu
      obtain ⟨I', hA, hx⟩ := ih (s + 1) (mj_ui (mj_ui X a4 (i * 6 + s) (nI (pl Y i s))) a5 (i * 6 + s) (nI (tn Y i s))) (by omega) (fun a h1 h2 => by simp [mj_ui, h1, h2, hX a h1 h2]) (fun s' hs' => by
        by_cases e : s' = s
        · subst e
          exact ⟨by simp [mj_ui, upd, h45], by simp [mj_ui, upd]⟩
        · obtain ⟨b1, b2⟩ := hS s' (by omega)
          have ne : ¬ (i * 6 + s' = i * 6 + s) := by omega
          exact ⟨by simp [mj_ui, upd, h45, e, b1], by simp [mj_ui, upd, Ne.symm h45, e, b2]⟩) (fun j hj => by
        obtain ⟨b1, b2⟩ := hO j hj
        have ne : j ≠ i * 6 + s := by omega
        exact ⟨by simp [mj_ui, upd, h45, ne, b1], by simp [mj_ui, upd, Ne.symm h45, ne, b2]⟩)
      refine ⟨I', hA, ?_⟩
      refine mj_run 2 rfl trivial ?_
      refine mj_brf rfl rfl (by rw [nI_leI (by omega) (by omega)]; omega) ?_
      refine mj_run 1 rfl trivial ?_
      refine sx_gr rfl g3 rfl r4 ?_
      refine mj_run 8 rfl trivial ?_
      rw [e6]
      refine sx_v1 rfl hm fs1 rfl fc1 ?_
      refine sx_v1 rfl hm (ptg_sel k1) rfl pb ?_
      refine sx_st rfl m4 vi h4 ?_
      rw [hcl]
      refine mj_run 1 rfl trivial ?_
      refine sx_gr rfl g3 rfl r5 ?_
      refine mj_run 8 rfl trivial ?_
      rw [e6]
      refine sx_v2 rfl hm (ptg_sel k1) rfl tu ?_
      refine sx_st rfl m5 vi h5 ?_
      rw [hcl]
      refine mj_run 2 rfl trivial ?_
      rw [nI_add]
      exact hx
  obtain ⟨I', hA, hx⟩ := key (sm Y i) 0 I (by omega) (fun _ _ _ => rfl) (fun s' hs' => by omega) (fun _ _ => ⟨rfl, rfl⟩)
  obtain ⟨f2, fs2, fc2⟩ := P_sc (d := d + 2) (I := I) (J := J) g1 hi q2
  refine ⟨I', ?_, hA⟩
  refine mj_ci rfl (Nat.le_of_ble_eq_true rfl) ?_
  refine mj_run 1 rfl trivial ?_
  refine sx_gr rfl g3 rfl g4 ?_
  refine mj_run 1 rfl trivial ?_
  refine sx_al rfl g6 rfl (nI_vi hi (by omega)) (by rw [nI_nc (by omega)]; exact q1) ?_
  refine mj_run 2 rfl trivial ?_
  refine sx_v0 rfl hm fs2 rfl fc2 ?_
  refine mj_run 1 rfl trivial ?_
  refine mj_cal rfl rfl (c_min _ _ (by omega) (by decide)) ?_
  rw [show min (sm Y i) 6 = sm Y i by omega]
  refine mj_run 3 rfl trivial ?_
  exact hx
/-- one of the first k switches that b reaches has a way (of the next one the first w) to s -/
def lpa (Y : Yd) (b s k w : Nat) : Prop := (∃ k', k' < k ∧ b.testBit k' = true ∧ ∃ w', w' < Y.2.1 k' ∧ Y.2.2 k' w' = s) ∨ ∃ w', w' < w ∧ Y.2.2 k w' = s
theorem Q_sidings (hQ : CQ m I R ya a0 B C n Y) {a6 i : Nat} {Ld : Nat → Nat} (hi : i < n) (r6 : R ya 6 = some a6) (m6 : mj_mt a6 m = some (0, 10)) (h6 : 0 < a6) (hy6 : ya ≠ a6) (hC : ∀ p, p < n → C p ≠ a6) (hL : ∀ s, s < 10 → I a6 s = nI (Ld s) ∧ Ld s < 1024) : ∃ (I' : mjI) (Ld' : Nat → Nat), mj_call mj_P (d + 3) kn_Yd_tellSidings [.ref ya, .int (nI i)] (m, I, R, J) none (m, I', R, J) ∧ (∀ a, a ≠ a6 → I' a = I a) ∧ (∀ s, s < 10 → I' a6 s = nI (Ld' s) ∧ Ld' s < 1024) ∧ ∀ s, s < 10 → ∀ j, (Ld' s).testBit j = true ↔ ((Ld s).testBit j = true ∨ (j = i ∧ lds Y n i s)) := by
  obtain ⟨g1, g2, g3, g4, g5, g6, g7⟩ := id hQ
  have hn := g1.1
  have h10 := two10 hn
  have h2i : 2 ^ i < 2 ^ n := Nat.pow_lt_pow_right (by decide) hi
  have hrf := rF_lt g1 h2i
  generalize hb : rF Y n (2 ^ i) = b at hrf
  have mono : ∀ X : mjI, (∀ a, a ≠ a6 → X a = I a) → CQ m X R ya a0 B C n Y := fun X hX => hQ.fr (by rw [hX ya hy6]) (fun p hp => hX (C p) (hC p hp))
  have key : ∀ (f k : Nat) (X : mjI) (M : Nat → Nat) (l4 l5 l6 l7 : Option Value), k + f = n → (∀ a, a ≠ a6 → X a = I a) → (∀ s, s < 10 → X a6 s = nI (M s) ∧ M s < 1024) → (∀ s, s < 10 → ∀ j, (M s).testBit j = true ↔ ((Ld s).testBit j = true ∨ (j = i ∧ lpa Y b s k 0))) → ∃ (I' : mjI) (M' : Nat → Nat), ((∀ a, a ≠ a6 → I' a = I a) ∧ (∀ s, s < 10 → I' a6 s = nI (M' s) ∧ M' s < 1024) ∧ ∀ s, s < 10 → ∀ j, (M' s).testBit j = true ↔ ((Ld s).testBit j = true ∨ (j = i ∧ lpa Y b s n 0))) ∧ mj_Rd (mj_call mj_P (d + 2)) kc_Yd_tellSidings 0 (10, [some (.ref ya), some (.int (nI i)), some (.int (nI b)), some (.int (nI k)), l4, l5, l6, l7], [], m, X, R, J) none (m, I', R, J) := by
    intro f
    induction f with
    | zero =>
      intro k X M l4 l5 l6 l7 hk hX hM hB
      have : k = n := by omega
      subst this
      obtain ⟨-, -, q3, -, q5, -, -⟩ := mono X hX
      refine ⟨X, M, ⟨hX, hM, hB⟩, ?_⟩
      refine mj_run 2 rfl trivial ?_
      refine sx_gi rfl q3 rfl ?_
      rw [q5]
      refine mj_brt rfl rfl (by rw [nI_leI (by omega) (by omega)]; omega) ?_
      exact mj_end rfl rfl trivial
    | succ f ih =>
      intro k X M l4 l5 l6 l7 hk hX hM hB
      have hkn : k < n := by omega
      obtain ⟨-, -, q3, q4, q5, q6, q7⟩ := mono X hX
      obtain ⟨p1, p2, p3⟩ := g7 k hkn
      obtain ⟨⟨qq, hm⟩, hr, hc⟩ := id p2
      obtain ⟨k1, k2, k3, k4⟩ := g1.2 k hkn
      by_cases g : b.testBit k = true
      · have inner : ∀ (e w : Nat) (X : mjI) (M : Nat → Nat) (l7 : Option Value), w + e = Y.2.1 k → (∀ a, a ≠ a6 → X a = I a) → (∀ s, s < 10 → X a6 s = nI (M s) ∧ M s < 1024) → (∀ s, s < 10 → ∀ j, (M s).testBit j = true ↔ ((Ld s).testBit j = true ∨ (j = i ∧ lpa Y b s k w))) → ∃ (I' : mjI) (M' : Nat → Nat), ((∀ a, a ≠ a6 → I' a = I a) ∧ (∀ s, s < 10 → I' a6 s = nI (M' s) ∧ M' s < 1024) ∧ ∀ s, s < 10 → ∀ j, (M' s).testBit j = true ↔ ((Ld s).testBit j = true ∨ (j = i ∧ lpa Y b s n 0))) ∧ mj_Rd (mj_call mj_P (d + 2)) kc_Yd_tellSidings 0 (46, [some (.ref ya), some (.int (nI i)), some (.int (nI b)), some (.int (nI k)), some (.ref (C k)), some (.int (nI (Y.2.1 k))), some (.int (nI w)), l7], [], m, X, R, J) none (m, I', R, J) := by
          intro e
          induction e with
          | zero =>
            intro w X M l7 hw hX hM hB
            obtain ⟨I', M', hA, hx⟩ := ih (k + 1) X M (some (.ref (C k))) (some (.int (nI (Y.2.1 k)))) (some (.int (nI w))) l7 (by omega) hX hM (fun s hs j => by
              rw [hB s hs j]
              have : lpa Y b s k w ↔ lpa Y b s (k + 1) 0 := by
                unfold lpa
                constructor
                · rintro (⟨k', a1, a2, a3⟩ | ⟨w', a1, a2⟩)
                  · exact Or.inl ⟨k', by omega, a2, a3⟩
                  · exact Or.inl ⟨k, by omega, g, w', by omega, a2⟩
                · rintro (⟨k', a1, a2, a3⟩ | ⟨w', a1, a2⟩)
                  · by_cases e : k' = k
                    · subst e
                      obtain ⟨w', b1, b2⟩ := a3
                      exact Or.inr ⟨w', by omega, b2⟩
                    · exact Or.inl ⟨k', by omega, a2, a3⟩
                  · omega
              rw [this])
            refine ⟨I', M', hA, ?_⟩
            refine mj_run 2 rfl trivial ?_
            refine mj_brt rfl rfl (by rw [nI_leI (by omega) (by omega)]; omega) ?_
            refine mj_run 2 rfl trivial ?_
            rw [nI_add]
            exact hx
          | succ e ihe =>
            intro w X M l7 hw hX hM hB
            have hwk : w < Y.2.1 k := by omega
            have hwv := k4 w hwk
            obtain ⟨-, -, q3, q4, q5, q6, q7⟩ := mono X hX
            obtain ⟨-, -, v3⟩ := q7 k hkn
            have start : ∀ (I' : mjI), mj_Rd (mj_call mj_P (d + 2)) kc_Yd_tellSidings 0 (65, [some (.ref ya), some (.int (nI i)), some (.int (nI b)), some (.int (nI k)), some (.ref (C k)), some (.int (nI (Y.2.1 k))), some (.int (nI w)), some (.int (nI (Y.2.2 k w)))], [.int (nI (if 0 ≤ (nI (Y.2.2 k w)).toInt ∧ (nI (Y.2.2 k w)).toInt < 10 then 1 else 0))], m, X, R, J) none (m, I', R, J) → mj_Rd (mj_call mj_P (d + 2)) kc_Yd_tellSidings 0 (46, [some (.ref ya), some (.int (nI i)), some (.int (nI b)), some (.int (nI k)), some (.ref (C k)), some (.int (nI (Y.2.1 k))), some (.int (nI w)), l7], [], m, X, R, J) none (m, I', R, J) := by
              intro I' hx
              refine mj_run 2 rfl trivial ?_
              refine mj_brf rfl rfl (by rw [nI_leI (by omega) (by omega)]; omega) ?_
              refine mj_run 2 rfl trivial ?_
              refine sx_ld rfl hc (nI_vi hwk (by omega)) ?_
              rw [nI_nc (by omega), v3 w hwk]
              refine mj_run 2 rfl trivial ?_
              refine mj_cal rfl rfl (T_isSiding _ _) ?_
              exact hx
            rw [nI_toInt (show Y.2.2 k w < 2147483648 by omega)] at start
            by_cases gs : Y.2.2 k w < 10
            · rw [if_pos (by omega)] at start
              obtain ⟨u1, u2⟩ := hM _ gs
              have hor : M (Y.2.2 k w) ||| 2 ^ i < 1024 := Nat.or_lt_two_pow (n := 10) u2 (by omega)
              obtain ⟨I', M', hA, hx⟩ := ihe (w + 1) (mj_ui X a6 (Y.2.2 k w) (nI (M (Y.2.2 k w) ||| 2 ^ i))) (fu M (Y.2.2 k w) (M (Y.2.2 k w) ||| 2 ^ i)) (some (.int (nI (Y.2.2 k w)))) (by omega) (fun a ha => by simp [mj_ui, ha, hX a ha]) (fun s hs => by
                by_cases e : s = Y.2.2 k w
                · subst e
                  exact ⟨by simp [mj_ui, upd, fu], by simp [fu]; exact hor⟩
                · obtain ⟨t1, t2⟩ := hM s hs
                  exact ⟨by simp [mj_ui, upd, fu, e, t1], by simp [fu, e]; exact t2⟩) (fun s hs j => by
                by_cases e : s = Y.2.2 k w
                · have ef : fu M (Y.2.2 k w) (M (Y.2.2 k w) ||| 2 ^ i) s = M s ||| 2 ^ i := by simp [fu, e]
                  rw [ef, Nat.testBit_or, Bool.or_eq_true, hB s hs j, bit_one]
                  constructor
                  · rintro ((a | ⟨a1, a2⟩) | a)
                    · exact Or.inl a
                    · refine Or.inr ⟨a1, ?_⟩
                      rcases a2 with a2 | ⟨w', b1, b2⟩
                      · exact Or.inl a2
                      · exact Or.inr ⟨w', by omega, b2⟩
                    · exact Or.inr ⟨a.symm, Or.inr ⟨w, by omega, e.symm⟩⟩
                  · rintro (a | ⟨a1, a2⟩)
                    · exact Or.inl (Or.inl a)
                    · exact Or.inr a1.symm
                · have ef : fu M (Y.2.2 k w) (M (Y.2.2 k w) ||| 2 ^ i) s = M s := by simp [fu, e]
                  rw [ef, hB s hs j]
                  have : lpa Y b s k w ↔ lpa Y b s k (w + 1) := by
                    unfold lpa
                    constructor
                    · rintro (a | ⟨w', b1, b2⟩)
                      · exact Or.inl a
                      · exact Or.inr ⟨w', by omega, b2⟩
                    · rintro (a | ⟨w', b1, b2⟩)
                      · exact Or.inl a
                      · by_cases e2 : w' = w
                        · subst e2; exact absurd b2.symm e
                        · exact Or.inr ⟨w', by omega, b2⟩
                  rw [this])
              refine ⟨I', M', hA, start I' ?_⟩
              refine mj_brf rfl rfl (by decide) ?_
              refine mj_run 1 rfl trivial ?_
              refine sx_gr rfl q3 rfl r6 ?_
              refine mj_run 2 rfl trivial ?_
              refine sx_ld rfl m6 (nI_vi gs (by decide)) ?_
              rw [nI_nc (by omega), u1]
              refine mj_run 4 rfl trivial ?_
              rw [b_one (by omega), b_or]
              refine sx_st rfl m6 (nI_vi gs (by decide)) h6 ?_
              rw [nI_nc (by omega)]
              refine mj_run 2 rfl trivial ?_
              rw [nI_add]
              exact hx
            · rw [if_neg (by omega)] at start
              obtain ⟨I', M', hA, hx⟩ := ihe (w + 1) X M (some (.int (nI (Y.2.2 k w)))) (by omega) hX hM (fun s hs j => by
                rw [hB s hs j]
                have : lpa Y b s k w ↔ lpa Y b s k (w + 1) := by
                  unfold lpa
                  constructor
                  · rintro (a | ⟨w', b1, b2⟩)
                    · exact Or.inl a
                    · exact Or.inr ⟨w', by omega, b2⟩
                  · rintro (a | ⟨w', b1, b2⟩)
                    · exact Or.inl a
                    · by_cases e2 : w' = w
                      · subst e2; omega
                      · exact Or.inr ⟨w', by omega, b2⟩
                rw [this])
              refine ⟨I', M', hA, start I' ?_⟩
              refine mj_brt rfl rfl (by decide) ?_
              refine mj_run 2 rfl trivial ?_
              rw [nI_add]
              exact hx
        obtain ⟨I', M', hA, hx⟩ := inner (Y.2.1 k) 0 X M l7 (by omega) hX hM hB
        refine ⟨I', M', hA, ?_⟩
        refine mj_run 2 rfl trivial ?_
        refine sx_gi rfl q3 rfl ?_
        rw [q5]
        refine mj_brf rfl rfl (by rw [nI_leI (by omega) (by omega)]; omega) ?_
        refine mj_run 6 rfl trivial ?_
        rw [b_test (by omega) (by omega), if_pos g]
        refine mj_brf rfl rfl (by decide) ?_
        refine mj_run 1 rfl trivial ?_
        refine sx_gr rfl q3 rfl q4 ?_
        refine mj_run 1 rfl trivial ?_
        refine sx_al rfl q6 rfl (nI_vi hkn (by omega)) (by rw [nI_nc (by omega)]; exact p1) ?_
        refine sx_gr rfl hm (ptg_any k1) hr ?_
        refine mj_run 2 rfl trivial ?_
        refine sx_ln rfl hc rfl ?_
        refine mj_run 3 rfl trivial ?_
        exact hx
      · obtain ⟨I', M', hA, hx⟩ := ih (k + 1) X M l4 l5 l6 l7 (by omega) hX hM (fun s hs j => by
          rw [hB s hs j]
          have : lpa Y b s k 0 ↔ lpa Y b s (k + 1) 0 := by
            unfold lpa
            constructor
            · rintro (⟨k', a1, a2, a3⟩ | ⟨w', a1, a2⟩)
              · exact Or.inl ⟨k', by omega, a2, a3⟩
              · omega
            · rintro (⟨k', a1, a2, a3⟩ | ⟨w', a1, a2⟩)
              · by_cases e : k' = k
                · subst e; exact absurd a2 g
                · exact Or.inl ⟨k', by omega, a2, a3⟩
              · omega
          rw [this])
        refine ⟨I', M', hA, ?_⟩
        refine mj_run 2 rfl trivial ?_
        refine sx_gi rfl q3 rfl ?_
        rw [q5]
        refine mj_brf rfl rfl (by rw [nI_leI (by omega) (by omega)]; omega) ?_
        refine mj_run 6 rfl trivial ?_
        rw [b_test (by omega) (by omega), if_neg g]
        refine mj_brt rfl rfl (by decide) ?_
        refine mj_run 2 rfl trivial ?_
        rw [nI_add]
        exact hx
  obtain ⟨I', M', ⟨hA1, hA2, hA3⟩, hx⟩ := key n 0 I Ld none none none none (by omega) (fun _ _ => rfl) hL (fun s hs j => by
    constructor
    · exact Or.inl
    · rintro (a | ⟨-, a⟩)
      · exact a
      · rcases a with ⟨k', a1, -⟩ | ⟨w', a1, -⟩
        · omega
        · omega)
  refine ⟨I', M', ?_, hA1, hA2, fun s hs j => ?_⟩
  · refine mj_ci rfl (Nat.le_of_ble_eq_true rfl) ?_
    refine mj_run 4 rfl trivial ?_
    rw [b_one (by omega)]
    refine sx_v1 rfl g3 rfl rfl (Q_reached hQ h2i) ?_
    rw [hb]
    refine mj_run 3 rfl trivial ?_
    exact hx
  · rw [hA3 s hs j]
    have : lpa Y b s n 0 ↔ lds Y n i s := by
      unfold lpa lds
      constructor
      · rintro (⟨k', a1, a2, a3⟩ | ⟨w', a1, -⟩)
        · rw [← hb, rF_one g1 hi] at a2
          obtain ⟨k, hk⟩ := a2
          exact ⟨k, k', hk, a1, a3⟩
        · omega
      · rintro ⟨k, p, h1, h2, h3⟩
        exact Or.inl ⟨p, h2, by rw [← hb, rF_one g1 hi]; exact ⟨k, h1⟩, h3⟩
    rw [this]
end QQ
