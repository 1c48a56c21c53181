/-! the yard as it is built -/
def CQ (m : mjM) (I : mjI) (R : mjR) (ya a0 : Nat) (B C : Nat → Nat) (n : Nat) (Y : Yd) : Prop := YOK n Y ∧ 1 ≤ n ∧ mj_mt ya m = some (20, 8) ∧ R ya 0 = some a0 ∧ I ya 1 = nI n ∧ mj_mt a0 m = some (3, n) ∧ ∀ p, p < n → R a0 p = some (B p) ∧ PT m R (B p) (C p) (Y.1 p) (Y.2.1 p) ∧ ∀ w, w < Y.2.1 p → I (C p) w = nI (Y.2.2 p w)
theorem CQ.fr {m : mjM} {I I' : mjI} {R : mjR} {ya a0 : Nat} {B C : Nat → Nat} {n : Nat} {Y : Yd} (h : CQ m I R ya a0 B C n Y) (h1 : I' ya 1 = I ya 1) (h2 : ∀ p, p < n → I' (C p) = I (C p)) : CQ m I' R ya a0 B C n Y := by
  obtain ⟨g1, g2, g3, g4, g5, g6, g7⟩ := h
  refine ⟨g1, g2, g3, g4, h1.trans g5, g6, fun p hp => ?_⟩
  obtain ⟨q1, q2, q3⟩ := g7 p hp
  exact ⟨q1, q2, by rw [h2 p hp]; exact q3⟩
theorem CQ.ext {m m' : mjM} {I I' : mjI} {R R' : mjR} {ya a0 : Nat} {B C : Nat → Nat} {n : Nat} {Y : Yd} (h : CQ m I R ya a0 B C n Y) (e : Ext m I R m' I' R') : CQ m' I' R' ya a0 B C n Y := by
  obtain ⟨g1, g2, g3, g4, g5, g6, g7⟩ := h
  refine ⟨g1, g2, e.mt g3, ?_, ?_, e.mt g6, fun p hp => ?_⟩
  · rw [(e.2 ya (mt_lt g3)).2]; exact g4
  · rw [(e.2 ya (mt_lt g3)).1]; exact g5
  · obtain ⟨q1, q2, q3⟩ := g7 p hp
    refine ⟨by rw [(e.2 a0 (mt_lt g6)).2]; exact q1, q2.ext e, ?_⟩
    rw [(e.2 (C p) (mt_lt q2.2.2)).1]
    exact q3
def hlp (Y : Yd) (n cm : Nat) : Nat → Bool
  | 0 => false
  | i + 1 => hlp Y n cm i || (cm.testBit i && (rF Y n (nxo Y (2 ^ i) n)).testBit i)
theorem hlp_iff {Y : Yd} {n : Nat} (h : YOK n Y) (hn1 : 1 ≤ n) : ∀ k, k ≤ n → (hlp Y n (rF Y n 1) k = true ↔ ∃ i, i < k ∧ rc Y n i ∧ ∃ j, pth Y n (j + 1) i i)
  | 0, _ => by
    refine ⟨fun q => (by cases q), fun ⟨i, hi, _⟩ => (by omega)⟩
  | k + 1, hk => by
    unfold hlp
    rw [Bool.or_eq_true, Bool.and_eq_true, hlp_iff h hn1 k (by omega), rF_come h hn1, rF_loop h (by omega)]
    constructor
    · rintro (⟨i, hi, q⟩ | q)
      · exact ⟨i, by omega, q⟩
      · exact ⟨k, by omega, q⟩
    · rintro ⟨i, hi, q⟩
      by_cases e : i = k
      · subst e; exact Or.inr q
      · exact Or.inl ⟨i, by omega, q⟩
theorem hlp_sb {Y : Yd} {n : Nat} (h : YOK n Y) (hn1 : 1 ≤ n) : hlp Y n (rF Y n 1) n = !sb Y n n := by
  have h1 := hlp_iff h hn1 n (Nat.le_refl n)
  have h2 := sb_strt h hn1
  cases hs : sb Y n n with
  | true =>
    cases hl : hlp Y n (rF Y n 1) n with
    | false => rfl
    | true =>
      obtain ⟨i, hi, q1, q2⟩ := h1.mp hl
      exact absurd q2 (h2.mp hs i hi q1)
  | false =>
    cases hl : hlp Y n (rF Y n 1) n with
    | true => rfl
    | false =>
      have : strt Y n := fun p hp q1 q2 => by
        have := h1.mpr ⟨p, hp, q1, q2⟩
        rw [hl] at this
        cases this
      have := h2.mpr this
      rw [hs] at this
      cases this
theorem i_dec (r : Nat) : nI (r + 1) + Int32.ofInt (-1) = nI r := by
  rw [← nI_add, Int32.add_assoc, show nI 1 + Int32.ofInt (-1) = 0 by decide, Int32.add_zero]
section QQ
variable {d : Nat} {m : mjM} {I : mjI} {R : mjR} {J : mjJ} {ya a0 : Nat} {B C : Nat → Nat} {n : Nat} {Y : Yd}
theorem Q_next (hQ : CQ m I R ya a0 B C n Y) {b : Nat} (hb : b < 1024) : mj_call mj_P (d + 1) kn_Yd_nextOf [.ref ya, .int (nI b)] (m, I, R, J) (some (.int (nI (nxo Y b n)))) (m, I, R, J) := by
  obtain ⟨g1, g2, g3, g4, g5, g6, g7⟩ := hQ
  have hn := g1.1
  refine mj_ci rfl (Nat.le_of_ble_eq_true rfl) ?_
  refine mj_run 4 rfl trivial ?_
  refine dn_ind n (fun i => ∀ l4 l5 l6 l7 : Option Value, mj_Rd (mj_call mj_P d) kc_Yd_nextOf 1 (4, [some (.ref ya), some (.int (nI b)), some (.int (nI (nxo Y b i))), some (.int (nI i)), l4, l5, l6, l7], [], m, I, R, J) (some (.int (nI (nxo Y b n)))) (m, I, R, J)) ?_ ?_ 0 (by omega) none none none none
  · intro l4 l5 l6 l7
    refine mj_run 2 rfl trivial ?_
    refine sx_gi rfl g3 rfl ?_
    rw [g5]
    refine mj_brt rfl rfl (by rw [nI_leI (by omega) (by omega)]; omega) ?_
    refine mj_run 1 rfl trivial ?_
    exact mj_end rfl rfl trivial
  · intro i hi ih l4 l5 l6 l7
    obtain ⟨q1, q2, q3⟩ := g7 i hi
    obtain ⟨⟨qq, hm⟩, hr, hc⟩ := q2
    obtain ⟨k1, k2, k3, k4⟩ := g1.2 i hi
    have hx := nxo_lt' g1 (m := b) i (by omega)
    refine mj_run 2 rfl trivial ?_
    refine sx_gi rfl g3 rfl ?_
    rw [g5]
    refine mj_brf rfl rfl (by rw [nI_leI (by omega) (by omega)]; omega) ?_
    refine mj_run 6 rfl trivial ?_
    rw [b_test (by omega) (by omega)]
    by_cases g : b.testBit i = true
    · rw [if_pos g]
      have en : nxo Y b (i + 1) = rW Y i (Y.2.1 i) (nxo Y b i) := by
        show (if b.testBit i = true then _ else _) = _
        rw [if_pos g]
      rw [en] at ih
      refine mj_brf rfl rfl (by decide) ?_
      refine mj_run 1 rfl trivial ?_
      refine sx_gr rfl g3 rfl g4 ?_
      refine mj_run 1 rfl trivial ?_
      refine sx_al rfl g6 rfl (nI_vi hi (by omega)) (by rw [nI_nc (by omega)]; exact q1) ?_
      refine sx_gr rfl hm (ptg_any k1) hr ?_
      refine mj_run 2 rfl trivial ?_
      refine sx_ln rfl hc rfl ?_
      refine mj_run 3 rfl trivial ?_
      refine dn_ind (Y.2.1 i) (fun w => ∀ l7 : Option Value, mj_Rd (mj_call mj_P d) kc_Yd_nextOf 1 (40, [some (.ref ya), some (.int (nI b)), some (.int (nI (rW Y i w (nxo Y b i)))), some (.int (nI i)), some (.ref (C i)), some (.int (nI (Y.2.1 i))), some (.int (nI w)), l7], [], m, I, R, J) (some (.int (nI (nxo Y b n)))) (m, I, R, J)) ?_ ?_ 0 (by omega) l7
      · intro l7
        refine mj_run 2 rfl trivial ?_
        refine mj_brt rfl rfl (by rw [nI_leI (by omega) (by omega)]; omega) ?_
        refine mj_run 2 rfl trivial ?_
        rw [nI_add]
        exact ih _ _ _ _
      · intro w hw ihw l7
        have hwv := k4 w hw
        refine mj_run 2 rfl trivial ?_
        refine mj_brf rfl rfl (by rw [nI_leI (by omega) (by omega)]; omega) ?_
        refine mj_run 2 rfl trivial ?_
        refine sx_ld rfl hc (nI_vi hw (by omega)) ?_
        rw [nI_nc (by omega), q3 w hw]
        refine mj_run 4 rfl trivial ?_
        refine mj_bra rfl rfl (fun q => ?_) (fun q => ?_)
        · rw [nI_ltI (by omega) (by decide)] at q
          have e7 : rW Y i (w + 1) (nxo Y b i) = rW Y i w (nxo Y b i) ||| 0 := by
            show rW Y i w (nxo Y b i) ||| _ = _
            rw [if_neg (by omega)]
          rw [e7] at ihw
          refine mj_run 5 rfl trivial ?_
          rw [b_or, nI_add]
          exact ihw _
        · rw [nI_ltI (by omega) (by decide)] at q
          have e7 : rW Y i (w + 1) (nxo Y b i) = rW Y i w (nxo Y b i) ||| 2 ^ (Y.2.2 i w - 10) := by
            show rW Y i w (nxo Y b i) ||| _ = _
            rw [if_pos (by omega)]
          rw [e7] at ihw
          refine mj_run 6 rfl trivial ?_
          rw [pk_sub (by omega), b_one (by omega)]
          refine mj_run 4 rfl trivial ?_
          rw [b_or, nI_add]
          exact ihw _
    · rw [if_neg g]
      have en : nxo Y b (i + 1) = nxo Y b i := by
        show (if b.testBit i = true then _ else _) = _
        rw [if_neg g]
      rw [en] at ih
      refine mj_brt rfl rfl (by decide) ?_
      refine mj_run 2 rfl trivial ?_
      rw [nI_add]
      exact ih _ _ _ _
theorem Q_reached (hQ : CQ m I R ya a0 B C n Y) {b : Nat} (hb : b < 2 ^ n) : mj_call mj_P (d + 2) kn_Yd_reachedFrom [.ref ya, .int (nI b)] (m, I, R, J) (some (.int (nI (rF Y n b)))) (m, I, R, J) := by
  obtain ⟨g1, g2, g3, g4, g5, g6, g7⟩ := id hQ
  have hn := g1.1
  have h10 := two10 hn
  refine mj_ci rfl (Nat.le_of_ble_eq_true rfl) ?_
  refine mj_run 4 rfl trivial ?_
  refine dn_ind n (fun j => mj_Rd (mj_call mj_P (d + 1)) kc_Yd_reachedFrom 1 (4, [some (.ref ya), some (.int (nI b)), some (.int (nI (itr (fun m => m ||| nxo Y m n) b j))), some (.int (nI j))], [], m, I, R, J) (some (.int (nI (rF Y n b)))) (m, I, R, J)) ?_ ?_ 0 (by omega)
  · refine mj_run 2 rfl trivial ?_
    refine sx_gi rfl g3 rfl ?_
    rw [g5]
    refine mj_brt rfl rfl (by rw [nI_leI (by omega) (by omega)]; omega) ?_
    refine mj_run 1 rfl trivial ?_
    exact mj_end rfl rfl trivial
  · intro j hj ih
    have hl := itr_lt (rF_hF g1) hb j
    refine mj_run 2 rfl trivial ?_
    refine sx_gi rfl g3 rfl ?_
    rw [g5]
    refine mj_brf rfl rfl (by rw [nI_leI (by omega) (by omega)]; omega) ?_
    refine mj_run 3 rfl trivial ?_
    refine sx_v1 rfl g3 rfl rfl (Q_next hQ (by omega)) ?_
    refine mj_run 4 rfl trivial ?_
    rw [b_or, nI_add]
    exact ih
theorem Q_loop (hQ : CQ m I R ya a0 B C n Y) {cm : Nat} (hc : cm < 1024) : mj_call mj_P (d + 3) kn_Yd_hasLoop [.ref ya, .int (nI cm)] (m, I, R, J) (some (.int (nI (if hlp Y n cm n then 1 else 0)))) (m, I, R, J) := by
  obtain ⟨g1, g2, g3, g4, g5, g6, g7⟩ := id hQ
  have hn := g1.1
  have h10 := two10 hn
  refine mj_ci rfl (Nat.le_of_ble_eq_true rfl) ?_
  refine mj_run 2 rfl trivial ?_
  have key : ∀ f i, i + f = n → hlp Y n cm i = false → mj_Rd (mj_call mj_P (d + 2)) kc_Yd_hasLoop 2 (2, [some (.ref ya), some (.int (nI cm)), some (.int (nI i))], [], m, I, R, J) (some (.int (nI (if hlp Y n cm n then 1 else 0)))) (m, I, R, J) := by
    intro f
    induction f with
    | zero =>
      intro i hi hf
      have : i = n := by omega
      subst this
      rw [hf]
      refine mj_run 2 rfl trivial ?_
      refine sx_gi rfl g3 rfl ?_
      rw [g5]
      refine mj_brt rfl rfl (by rw [nI_leI (by omega) (by omega)]; omega) ?_
      refine mj_run 1 rfl trivial ?_
      exact mj_end rfl rfl (Or.inl rfl)
    | succ f ih =>
      intro i hi hf
      have h2i : 2 ^ i < 2 ^ n := Nat.pow_lt_pow_right (by decide) (by omega)
      have hnx := nxo_lt (m := 2 ^ i) g1
      have hrf := rF_lt g1 hnx
      have e1 : hlp Y n cm (i + 1) = (cm.testBit i && (rF Y n (nxo Y (2 ^ i) n)).testBit i) := by
        show (hlp Y n cm i || _) = _
        rw [hf, Bool.false_or]
      have nxt : hlp Y n cm (i + 1) = false → mj_Rd (mj_call mj_P (d + 2)) kc_Yd_hasLoop 2 (40, [some (.ref ya), some (.int (nI cm)), some (.int (nI i))], [], m, I, R, J) (some (.int (nI (if hlp Y n cm n then 1 else 0)))) (m, I, R, J) := by
        intro q
        refine mj_run 2 rfl trivial ?_
        rw [nI_add]
        exact ih (i + 1) (by omega) q
      refine mj_run 2 rfl trivial ?_
      refine sx_gi rfl g3 rfl ?_
      rw [g5]
      refine mj_brf rfl rfl (by rw [nI_leI (by omega) (by omega)]; omega) ?_
      refine mj_run 6 rfl trivial ?_
      rw [b_test (by omega) (by omega)]
      cases hb : cm.testBit i with
      | false =>
        refine mj_brt rfl rfl (by decide) ?_
        exact nxt (by rw [e1, hb]; rfl)
      | true =>
        refine mj_brf rfl rfl (by decide) ?_
        refine mj_run 5 rfl trivial ?_
        rw [b_one (by omega)]
        refine sx_v1 rfl g3 rfl rfl (Q_next hQ (by omega)) ?_
        refine sx_v1 rfl g3 rfl rfl (Q_reached hQ hnx) ?_
        refine mj_run 5 rfl trivial ?_
        rw [b_test (by omega) (by omega)]
        cases hb2 : (rF Y n (nxo Y (2 ^ i) n)).testBit i with
        | false =>
          refine mj_brt rfl rfl (by decide) ?_
          exact nxt (by rw [e1, hb2, Bool.and_false])
        | true =>
          refine mj_brf rfl rfl (by decide) ?_
          have : hlp Y n cm n = true := by
            have up : ∀ j, hlp Y n cm (i + 1 + j) = true := by
              intro j
              induction j with
              | zero => rw [Nat.add_zero, e1, hb, hb2]; rfl
              | succ j ihj =>
                show (hlp Y n cm (i + 1 + j) || _) = true
                rw [ihj, Bool.true_or]
            have := up f
            rw [show i + 1 + f = n by omega] at this
            exact this
          rw [this]
          refine mj_run 1 rfl trivial ?_
          exact mj_end rfl rfl (Or.inr rfl)
  exact key n 0 (by omega) rfl
theorem Q_ordered (hQ : CQ m I R ya a0 B C n Y) (hm65 : 0 < m.length) : ∃ I' od, mj_call mj_P (d + 3) kn_Yd_ordered [.ref ya, .int (nI (rF Y n 1))] (m, I, R, J) (some (.ref m.length)) (m ++ [(0, ct (rF Y n 1) 10)], I', R, J) ∧ (∀ a, a ≠ m.length → I' a = I a) ∧ OD Y n (ct (rF Y n 1) 10) od ∧ ∀ k, k < ct (rF Y n 1) 10 → I' m.length k = nI (od k) := by
  obtain ⟨g1, g2, g3, g4, g5, g6, g7⟩ := id hQ
  have hn := g1.1
  have h10 := two10 hn
  have hl1 : rF Y n 1 < 2 ^ n := rF_lt g1 (Nat.one_lt_two_pow (by omega))
  have hct : ct (rF Y n 1) 10 = ct (rF Y n 1) n := ct_10 hl1 hn
  have hol : ct (rF Y n 1) 10 ≤ 10 := ct_le _ 10
  generalize hO : ct (rF Y n 1) 10 = ol at hct hol
  have gl : mj_mt m.length (m ++ [(0, ol)]) = some (0, ol) := mt_last m _
  have mono : ∀ X : mjI, (∀ a, a ≠ m.length → X a = I a) → CQ (m ++ [(0, ol)]) X R ya a0 B C n Y := fun X hX => hQ.ext ⟨⟨_, rfl⟩, fun a ha => ⟨hX a (by omega), rfl⟩⟩
  have key : ∀ (r : Nat) (X : mjI) (fl : Nat) (od : Nat → Nat) (l5 : Option Value), r ≤ n → (∀ a, a ≠ m.length → X a = I a) → ODi (rF Y n 1) (rk Y n) n r 0 fl od → fl ≤ ol → (∀ k, k < fl → X m.length k = nI (od k)) → ∃ (I' : mjI) (od' : Nat → Nat), ((∀ a, a ≠ m.length → I' a = I a) ∧ OD Y n ol od' ∧ ∀ k, k < ol → I' m.length k = nI (od' k)) ∧ mj_Rd (mj_call mj_P (d + 2)) kc_Yd_ordered 4 (15, [some (.ref ya), some (.int (nI (rF Y n 1))), some (.ref m.length), some (.int (nI fl)), some (.int (nI r)), l5], [], m ++ [(0, ol)], X, R, J) (some (.ref m.length)) (m ++ [(0, ol)], I', R, J) := by
    intro r
    induction r with
    | zero =>
      intro X fl od l5 _ hX hD hfl hR
      obtain ⟨e1, e2⟩ := ODi_end g1 g2 hD
      rw [hO] at e1 e2
      refine ⟨X, od, ⟨hX, e1, fun k hk => hR k (by omega)⟩, ?_⟩
      refine mj_run 1 rfl trivial ?_
      refine mj_brt rfl rfl (by decide) ?_
      refine mj_run 1 rfl trivial ?_
      exact mj_end rfl rfl trivial
    | succ r ih =>
      intro X fl od l5 hr hX hD hfl hR
      have inner : ∀ (f i : Nat) (X : mjI) (fl : Nat) (od : Nat → Nat), i + f = n → (∀ a, a ≠ m.length → X a = I a) → ODi (rF Y n 1) (rk Y n) n (r + 1) i fl od → fl ≤ ol → (∀ k, k < fl → X m.length k = nI (od k)) → ∃ (I' : mjI) (od' : Nat → Nat), ((∀ a, a ≠ m.length → I' a = I a) ∧ OD Y n ol od' ∧ ∀ k, k < ol → I' m.length k = nI (od' k)) ∧ mj_Rd (mj_call mj_P (d + 2)) kc_Yd_ordered 4 (23, [some (.ref ya), some (.int (nI (rF Y n 1))), some (.ref m.length), some (.int (nI fl)), some (.int (nI (r + 1))), some (.int (nI i))], [], m ++ [(0, ol)], X, R, J) (some (.ref m.length)) (m ++ [(0, ol)], I', R, J) := by
        intro f
        induction f with
        | zero =>
          intro i X fl od hi hX hD hfl hR
          have : i = n := by omega
          subst this
          obtain ⟨I', od', hA, hx⟩ := ih X fl od (some (.int (nI i))) (by omega) hX (ODi_nx hD) hfl hR
          obtain ⟨-, -, q3, -, q5, -, -⟩ := mono X hX
          refine ⟨I', od', hA, ?_⟩
          refine mj_run 2 rfl trivial ?_
          refine sx_gi rfl q3 rfl ?_
          rw [q5]
          refine mj_brt rfl rfl (by rw [nI_leI (by omega) (by omega)]; omega) ?_
          refine mj_run 2 rfl trivial ?_
          rw [i_dec]
          exact hx
        | succ f ihf =>
          intro i X fl od hi hX hD hfl hR
          have hQX := mono X hX
          obtain ⟨-, -, q3, -, q5, -, -⟩ := id hQX
          have h2i : 2 ^ i < 2 ^ n := Nat.pow_lt_pow_right (by decide) (by omega)
          have hrf := rF_lt g1 h2i
          have hrk := rk_in g1 (show i < n by omega)
          have start : ∀ (I' : mjI), mj_Rd (mj_call mj_P (d + 2)) kc_Yd_ordered 4 (39, [some (.ref ya), some (.int (nI (rF Y n 1))), some (.ref m.length), some (.int (nI fl)), some (.int (nI (r + 1))), some (.int (nI i))], [.int (nI 1), .int (nI (if (rF Y n 1).testBit i then 1 else 0))], m ++ [(0, ol)], X, R, J) (some (.ref m.length)) (m ++ [(0, ol)], I', R, J) → mj_Rd (mj_call mj_P (d + 2)) kc_Yd_ordered 4 (23, [some (.ref ya), some (.int (nI (rF Y n 1))), some (.ref m.length), some (.int (nI fl)), some (.int (nI (r + 1))), some (.int (nI i))], [], m ++ [(0, ol)], X, R, J) (some (.ref m.length)) (m ++ [(0, ol)], I', R, J) := by
            intro I' hx
            refine mj_run 2 rfl trivial ?_
            refine sx_gi rfl q3 rfl ?_
            rw [q5]
            refine mj_brf rfl rfl (by rw [nI_leI (by omega) (by omega)]; omega) ?_
            refine mj_run 6 rfl trivial ?_
            rw [b_test (by omega) (by omega)]
            exact hx
          by_cases hb : (rF Y n 1).testBit i = true
          · rw [hb] at start
            have start2 : ∀ (I' : mjI), mj_Rd (mj_call mj_P (d + 2)) kc_Yd_ordered 4 (55, [some (.ref ya), some (.int (nI (rF Y n 1))), some (.ref m.length), some (.int (nI fl)), some (.int (nI (r + 1))), some (.int (nI i))], [.int (nI (r + 1)), .int (nI (rk Y n i))], m ++ [(0, ol)], X, R, J) (some (.ref m.length)) (m ++ [(0, ol)], I', R, J) → mj_Rd (mj_call mj_P (d + 2)) kc_Yd_ordered 4 (23, [some (.ref ya), some (.int (nI (rF Y n 1))), some (.ref m.length), some (.int (nI fl)), some (.int (nI (r + 1))), some (.int (nI i))], [], m ++ [(0, ol)], X, R, J) (some (.ref m.length)) (m ++ [(0, ol)], I', R, J) := by
              intro I' hx
              refine start I' ?_
              refine mj_brf rfl rfl (by decide) ?_
              refine mj_run 4 rfl trivial ?_
              rw [b_one (by omega)]
              refine sx_v1 rfl q3 rfl rfl (Q_reached hQX h2i) ?_
              refine mj_cal rfl rfl (c_bitCount _ _ (by omega)) ?_
              refine mj_run 1 rfl trivial ?_
              exact hx
            by_cases hr2 : rk Y n i = r + 1
            · have hlt := ODi_lt hD (by omega) hb hr2
              obtain ⟨I', od', hA, hx⟩ := ihf (i + 1) (mj_ui X m.length fl (nI i)) (fl + 1) (fu od fl i) (by omega) (fun a ha => by simp [mj_ui, ha, hX a ha]) (ODi_yes hD (by omega) hb hr2) (by omega) (fun k hk => by
                by_cases e : k = fl
                · subst e; simp [mj_ui, upd, fu]
                · have := hR k (by omega)
                  simp [mj_ui, upd, fu, e, this])
              refine ⟨I', od', hA, start2 I' ?_⟩
              refine mj_brf rfl rfl (by rw [nI_e (by omega) (by omega)]; omega) ?_
              refine mj_run 3 rfl trivial ?_
              refine sx_st rfl gl (nI_vi (by omega) (by omega)) hm65 ?_
              rw [nI_nc (by omega)]
              refine mj_run 3 rfl trivial ?_
              rw [nI_add, nI_add]
              exact hx
            · obtain ⟨I', od', hA, hx⟩ := ihf (i + 1) X fl od (by omega) hX (ODi_no hD (by omega) (fun q => hr2 q.2)) hfl hR
              refine ⟨I', od', hA, start2 I' ?_⟩
              refine mj_brt rfl rfl (by rw [nI_e (by omega) (by omega)]; exact hr2) ?_
              refine mj_run 2 rfl trivial ?_
              rw [nI_add]
              exact hx
          · rw [show (rF Y n 1).testBit i = false by simpa using hb] at start
            obtain ⟨I', od', hA, hx⟩ := ihf (i + 1) X fl od (by omega) hX (ODi_no hD (by omega) (fun q => hb q.1)) hfl hR
            refine ⟨I', od', hA, start I' ?_⟩
            refine mj_brt rfl rfl (by decide) ?_
            refine mj_run 2 rfl trivial ?_
            rw [nI_add]
            exact hx
      obtain ⟨I', od', hA, hx⟩ := inner n 0 X fl od (by omega) hX hD hfl hR
      refine ⟨I', od', hA, ?_⟩
      refine mj_run 1 rfl trivial ?_
      refine mj_brf rfl rfl (by rw [show (0 : Int32) = nI 0 from rfl, nI_leI (by omega) (by decide)]; omega) ?_
      refine mj_run 2 rfl trivial ?_
      exact hx
  have h0 : ODi (rF Y n 1) (rk Y n) n n 0 0 (fun _ => 0) := by
    have e : ∀ p, p < n → prd (rF Y n 1) (rk Y n) n 0 p = false := by
      intro p hp
      have := rk_in g1 hp
      unfold prd
      rw [decide_eq_false (show ¬ n < rk Y n p by omega)]
      simp
    refine ⟨?_, fun k hk => by omega, fun p hp hpp => (by rw [e p hp] at hpp; cases hpp), fun j k _ hk => by omega⟩
    unfold prc
    exact (sumT_0 n (fun p hp => by rw [e p hp]; rfl)).symm
  have hX0 : ∀ a, a ≠ m.length → mj_row I m.length (fun _ => 0) a = I a := fun a ha => by simp [mj_row, ha]
  obtain ⟨I', od', ⟨hA1, hA2, hA3⟩, hx⟩ := key n (mj_row I m.length (fun _ => 0)) 0 (fun _ => 0) none (Nat.le_refl n) hX0 h0 (by omega) (fun k hk => by omega)
  obtain ⟨-, -, q3, -, q5, -, -⟩ := mono _ hX0
  refine ⟨I', od', ?_, hA1, hA2, hA3⟩
  refine mj_ci rfl (Nat.le_of_ble_eq_true rfl) ?_
  refine mj_run 1 rfl trivial ?_
  refine mj_cal rfl rfl (c_bitCount _ _ (by omega)) ?_
  rw [hO]
  refine mj_run 5 rfl ⟨i_nn (by omega), by rw [nI_nc (by omega)]; omega⟩ ?_
  rw [nI_nc (show ol < 2147483648 by omega)]
  refine sx_gi rfl q3 rfl ?_
  rw [q5]
  refine mj_run 1 rfl trivial ?_
  exact hx
end QQ
