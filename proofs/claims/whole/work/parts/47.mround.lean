def eqv (T U : Nat → Nat) : Nat → Bool
  | 0 => true
  | p + 1 => eqv T U p && decide (T p = U p)
theorem eqv_iff {T U : Nat → Nat} : ∀ k, eqv T U k = true ↔ ∀ p, p < k → T p = U p
  | 0 => by simp [eqv]
  | k + 1 => by
    unfold eqv
    rw [Bool.and_eq_true, eqv_iff k, decide_eq_true_iff]
    constructor
    · rintro ⟨h1, h2⟩ p hp
      by_cases e : p = k
      · subst e; exact h2
      · exact h1 p (by omega)
    · intro h
      exact ⟨fun p hp => h p (by omega), h k (by omega)⟩
/-- the round: from k on -/
def rnd (Y : Yd) (n at' : Nat) (A : Nat → Nat) : Nat → Nat → Rs → Int32
  | 0, _, _ => Int32.ofInt (-1)
  | f + 1, k, s => if (mv Y none s).1 < 10 then Int32.ofInt (-1) else if (decide ((mv Y none s).1 = at') && eqv (mv Y none s).2.1 A n) then nI k else rnd Y n at' A f (k + 1) (mv Y none s)
def rdA (Y : Yd) (n : Nat) (T : Nat → Nat) : Int32 := if (ro Y none 500 (10, T, 0)).1 < 10 then Int32.ofInt (-1) else rnd Y n (ro Y none 500 (10, T, 0)).1 (ro Y none 500 (10, T, 0)).2.1 500 1 (ro Y none 500 (10, T, 0))
section MM
variable {d L : Nat} {dy : mjM} {I : mjI} {y y1 n1 w1 c y2 : Option Nat} {R : mjR} {J : mjJ} {pn : Nat} {pg : Nat → Nat} {n : Nat} {Y : Yd} {T : Nat → Nat} {t : Nat} {tr : Nat → Nat} {kp : Kp} {wn : Nat} {wt : Nat → Nat} {yr dn : Nat}
theorem M_rollR {v : Option Value} {h' : mjH} (hY : MY I n Y) : ∀ (k : Nat) (s : Rs), s.2.2 + k = 500 → s.1 < 10 + n → TOK n Y s.2.1 →
    mj_Rd (mj_call mj_P (d + 3)) kc_M_round 1 (52, [some (.ref 45), none, none, none, none], [], HP L dy (rsI I n (ro Y none k s)) y y1 n1 w1 c y2 R J) v h' → mj_Rd (mj_call mj_P (d + 3)) kc_M_round 1 (25, [some (.ref 45), none, none, none, none], [], HP L dy (rsI I n s) y y1 n1 w1 c y2 R J) v h'
  | k, (a, T, m), hm, ha, hT, hx => by
    have hn : n ≤ 10 := hY.2.1.1
    have hm' : m + k = 500 := hm
    have ha' : a < 10 + n := ha
    have e19 : rsI I n (a, T, m) 45 19 = nI a := by simp [rsI, upd]
    have e20 : rsI I n (a, T, m) 45 20 = nI m := by simp [rsI, upd]
    refine mj_run 3 rfl trivial ?_
    rw [e19]
    refine mj_bra rfl rfl (fun g => ?_) (fun g => ?_)
    · rw [nI_ltI (by omega) (by decide)] at g
      have e : ro Y none k (a, T, m) = (a, T, m) := by
        cases k with
        | zero => rfl
        | succ k => simp [ro, g]
      rw [e] at hx
      exact hx
    · rw [nI_ltI (by omega) (by decide)] at g
      refine mj_run 3 rfl trivial ?_
      rw [e20]
      cases k with
      | zero =>
        refine mj_brt rfl rfl (by rw [nI_leI (by decide) (by omega)]; omega) ?_
        exact hx
      | succ k =>
        refine mj_brf rfl rfl (by rw [nI_leI (by decide) (by omega)]; omega) ?_
        refine mj_run 2 rfl trivial ?_
        obtain ⟨b, hb⟩ : ∃ b, a = 10 + b := ⟨a - 10, by omega⟩
        subst hb
        have hYr : MY (rsI I n (10 + b, T, m)) n Y := hY.kept (by simp [rsI, upd]) (by simp [rsI]) (by simp [rsI]) (by simp [rsI])
        refine mj_cal rfl rfl (M_move (a := b) (m := m) (T := T) hYr e19 (by omega) (fun i hi => by simp [rsI, hi]) hT sq_none e20) ?_
        rw [rsI_mv (by omega)]
        refine mj_run 1 rfl trivial ?_
        obtain ⟨g1, g2⟩ := mv_ok (q := none) hY.2.1 g ha hT
        have e : ro Y none (k + 1) (10 + b, T, m) = ro Y none k (mv Y none (10 + b, T, m)) := by
          show (if 10 + b < 10 then _ else _) = _
          rw [if_neg g]
        rw [e] at hx
        exact M_rollR hY k _ (by show m + 1 + k = 500; omega) g1 g2 hx
theorem M_roundLoop {at' : Nat} {A : Nat → Nat} (hA : TOK n Y A) (hat : at' < 20) : ∀ (f k : Nat) (X : mjI) (s : Rs) (l3 l4 : Option Value), mj_lg l3 = true → k + f = 501 → MY X n Y → X 45 19 = nI s.1 → X 45 20 = nI s.2.2 → ¬ s.1 < 10 → s.1 < 10 + n → RI X 55 n s.2.1 → TOK n Y s.2.1 → RI X 56 n A →
    ∃ I', Fr [19, 20] [55, 56] X I' ∧ mj_Rd (mj_call mj_P (d + 3)) kc_M_round 1 (96, [some (.ref 45), some (.int (nI at')), some (.int (nI k)), l3, l4], [], HP L dy X y y1 n1 w1 c y2 R J) (some (.int (rnd Y n at' A f k s))) (HP L dy I' y y1 n1 w1 c y2 R J) := by
  intro f
  induction f with
  | zero =>
    intro k X s l3 l4 gl hk hX e19 e20 hs1 hs2 hT hTK hAh
    refine ⟨X, (Fr.rf X).w (by simp) (by simp), ?_⟩
    refine mj_run 2 rfl trivial ?_
    refine mj_brt rfl rfl (by rw [nI_ltI (by decide) (by omega)]; omega) ?_
    refine mj_run 1 rfl trivial ?_
    exact mj_end rfl rfl trivial
  | succ f ih =>
    intro k X s l3 l4 gl hk hX e19 e20 hs1 hs2 hT hTK hAh
    have hn : n ≤ 10 := hX.2.1.1
    obtain ⟨pc, U, m⟩ := s
    obtain ⟨b, hb⟩ : ∃ b, pc = 10 + b := ⟨pc - 10, by have : ¬ pc < 10 := hs1; omega⟩
    subst hb
    have hb : b < n := by have : 10 + b < 10 + n := hs2; omega
    obtain ⟨g1, g2⟩ := mv_ok (q := none) hX.2.1 hs1 hs2 hTK
    have hmv := M_move (d := d) (L := L) (dy := dy) (y := y) (y1 := y1) (n1 := n1) (w1 := w1) (c := c) (y2 := y2) (R := R) (J := J) (a := b) (m := m) (T := U) hX e19 hb hT hTK sq_none e20
    have hmt : ∀ i, (mv Y none (10 + b, U, m)).2.1 i = if i = b then (mv Y none (10 + b, U, m)).2.1 b else U i := by
      intro i
      simp only [mv, fu, Nat.add_sub_cancel_left]
      split <;> simp_all
    have hm1 : (mv Y none (10 + b, U, m)).2.2 = m + 1 := rfl
    generalize hZ : mj_ui (mj_ui (mj_ui X 45 19 (nI (mv Y none (10 + b, U, m)).1)) 55 b (nI ((mv Y none (10 + b, U, m)).2.1 b))) 45 20 (nI (m + 1)) = Z at hmv
    have f3 : Fr ([19] ++ [] ++ [20]) ([] ++ [55] ++ []) X Z := by
      rw [← hZ]
      exact ((Fr.u X 19 _).tr (Fr.a _ (by decide) b _)).tr (Fr.u _ 20 _)
    have z19 : Z 45 19 = nI (mv Y none (10 + b, U, m)).1 := by rw [← hZ]; simp [mj_ui, upd]
    have z20 : Z 45 20 = nI (mv Y none (10 + b, U, m)).2.2 := by rw [← hZ, hm1]; simp [mj_ui, upd]
    have zT : RI Z 55 n (mv Y none (10 + b, U, m)).2.1 := by
      intro i hi
      rw [← hZ, hmt i]
      by_cases e : i = b
      · subst e; simp [mj_ui, upd]
      · have := hT i hi
        simp [mj_ui, upd, e, this]
    have hYZ : MY Z n Y := hX.fr f3 (by decide)
    have hAZ : RI Z 56 n A := hAh.fr f3 (by decide) (by decide)
    generalize hs' : mv Y none (10 + b, U, m) = s' at g1 g2 z19 z20 zT
    have hrnd : rnd Y n at' A (f + 1) k (10 + b, U, m) = if s'.1 < 10 then Int32.ofInt (-1) else if (decide (s'.1 = at') && eqv s'.2.1 A n) then nI k else rnd Y n at' A f (k + 1) s' := by
      rw [← hs']; rfl
    rw [hrnd]
    by_cases g : s'.1 < 10
    · rw [if_pos g]
      refine ⟨Z, f3.w (by decide) (by decide), ?_⟩
      refine mj_run 2 rfl trivial ?_
      refine mj_brf rfl rfl (by rw [nI_ltI (by decide) (by omega)]; omega) ?_
      refine mj_run 2 rfl trivial ?_
      refine mj_cal rfl rfl hmv ?_
      refine mj_run 3 rfl trivial ?_
      rw [z19]
      refine mj_brf rfl rfl (by rw [nI_leI (by decide) (by omega)]; omega) ?_
      refine mj_run 1 rfl trivial ?_
      exact mj_end rfl rfl trivial
    · rw [if_neg g]
      obtain ⟨I', hf', hx'⟩ := ih (k + 1) Z s' (some (.int (nI 0))) (some (.int (nI n))) rfl (by omega) hYZ z19 z20 g g1 zT g2 hAZ
      have loop : ∀ (I' : mjI) (w : Int32), ((decide (s'.1 = at') && eqv s'.2.1 A n) = true → I' = Z ∧ w = nI k) → (¬ ((decide (s'.1 = at') && eqv s'.2.1 A n) = true) → mj_Rd (mj_call mj_P (d + 3)) kc_M_round 1 (96, [some (.ref 45), some (.int (nI at')), some (.int (nI (k + 1))), some (.int (nI 0)), some (.int (nI n))], [], HP L dy Z y y1 n1 w1 c y2 R J) (some (.int w)) (HP L dy I' y y1 n1 w1 c y2 R J)) →
          ∀ p, p ≤ n → mj_Rd (mj_call mj_P (d + 3)) kc_M_round 1 (136, [some (.ref 45), some (.int (nI at')), some (.int (nI k)), some (.int (nI (if (decide (s'.1 = at') && eqv s'.2.1 A p) then 1 else 0))), some (.int (nI p))], [], HP L dy Z y y1 n1 w1 c y2 R J) (some (.int w)) (HP L dy I' y y1 n1 w1 c y2 R J) := by
        intro I' w h1 h2
        refine dn_ind n (fun p => mj_Rd (mj_call mj_P (d + 3)) kc_M_round 1 (136, [some (.ref 45), some (.int (nI at')), some (.int (nI k)), some (.int (nI (if (decide (s'.1 = at') && eqv s'.2.1 A p) then 1 else 0))), some (.int (nI p))], [], HP L dy Z y y1 n1 w1 c y2 R J) (some (.int w)) (HP L dy I' y y1 n1 w1 c y2 R J)) ?_ ?_
        · refine mj_run 3 rfl trivial ?_
          rw [hYZ.1]
          refine mj_brt rfl rfl (by rw [nI_leI (by omega) (by omega)]; omega) ?_
          refine mj_run 1 rfl trivial ?_
          cases hq : (decide (s'.1 = at') && eqv s'.2.1 A n) with
          | true =>
            rw [hq] at h1
            obtain ⟨e1, e2⟩ := h1 rfl
            subst e1
            subst e2
            refine mj_brf rfl rfl (by decide) ?_
            refine mj_run 1 rfl trivial ?_
            exact mj_end rfl rfl trivial
          | false =>
            rw [hq] at h2
            refine mj_brt rfl rfl (by decide) ?_
            refine mj_run 2 rfl trivial ?_
            rw [nI_add]
            exact h2 (by decide)
        · intro p hp ihp
          have hu : s'.2.1 p < sm Y p := g2 p hp
          have ha : A p < sm Y p := hA p hp
          have hs6 := (sm_in hX.2.1 hp).2
          refine mj_run 3 rfl trivial ?_
          rw [hYZ.1]
          refine mj_brf rfl rfl (by rw [nI_leI (by omega) (by omega)]; omega) ?_
          refine mj_run 1 rfl trivial ?_
          have out0 : ∀ z, (decide (s'.1 = at') && eqv s'.2.1 A (p + 1)) = false → z = nI 0 → mj_Rd (mj_call mj_P (d + 3)) kc_M_round 1 (171, [some (.ref 45), some (.int (nI at')), some (.int (nI k)), some (.int (nI (if (decide (s'.1 = at') && eqv s'.2.1 A p) then 1 else 0))), some (.int (nI p))], [.int z], HP L dy Z y y1 n1 w1 c y2 R J) (some (.int w)) (HP L dy I' y y1 n1 w1 c y2 R J) := by
            intro z hz e
            rw [hz] at ihp
            subst e
            refine mj_run 3 rfl trivial ?_
            rw [nI_add]
            exact ihp
          cases hq : (decide (s'.1 = at') && eqv s'.2.1 A p) with
          | false =>
            rw [hq] at out0
            refine mj_brt rfl rfl (by decide) ?_
            refine mj_run 1 rfl trivial ?_
            refine out0 _ ?_ rfl
            rw [show eqv s'.2.1 A (p + 1) = (eqv s'.2.1 A p && decide (s'.2.1 p = A p)) from rfl, ← Bool.and_assoc, hq]
            rfl
          | true =>
            rw [hq] at out0
            refine mj_brf rfl rfl (by decide) ?_
            refine mj_run 8 rfl ⟨nI_vi (by omega) (by decide), nI_vi (by omega) (by decide)⟩ ?_
            rw [nI_nc (by omega), zT p hp, hAZ p hp]
            have e9 : (decide (s'.1 = at') && eqv s'.2.1 A (p + 1)) = decide (s'.2.1 p = A p) := by
              rw [show eqv s'.2.1 A (p + 1) = (eqv s'.2.1 A p && decide (s'.2.1 p = A p)) from rfl, ← Bool.and_assoc, hq]
              rfl
            refine mj_bra rfl rfl (fun g => ?_) (fun g => ?_)
            · rw [nI_e (by omega) (by omega)] at g
              refine mj_run 1 rfl trivial ?_
              refine out0 _ ?_ rfl
              rw [e9]
              exact decide_eq_false g
            · rw [nI_e (by omega) (by omega)] at g
              rw [e9, decide_eq_true (Classical.not_not.mp g)] at ihp
              refine mj_run 2 rfl trivial ?_
              refine mj_run 3 rfl trivial ?_
              rw [nI_add]
              exact ihp
      have fin : ∀ (I' : mjI) (w : Int32), ((decide (s'.1 = at') && eqv s'.2.1 A n) = true → I' = Z ∧ w = nI k) → (¬ ((decide (s'.1 = at') && eqv s'.2.1 A n) = true) → mj_Rd (mj_call mj_P (d + 3)) kc_M_round 1 (96, [some (.ref 45), some (.int (nI at')), some (.int (nI (k + 1))), some (.int (nI 0)), some (.int (nI n))], [], HP L dy Z y y1 n1 w1 c y2 R J) (some (.int w)) (HP L dy I' y y1 n1 w1 c y2 R J)) → mj_Rd (mj_call mj_P (d + 3)) kc_M_round 1 (96, [some (.ref 45), some (.int (nI at')), some (.int (nI k)), l3, l4], [], HP L dy X y y1 n1 w1 c y2 R J) (some (.int w)) (HP L dy I' y y1 n1 w1 c y2 R J) := by
        intro I' w h1 h2
        have lp := loop I' w h1 h2 0 (by omega)
        rw [show eqv s'.2.1 A 0 = true from rfl, Bool.and_true] at lp
        refine mj_run 2 rfl trivial ?_
        refine mj_brf rfl rfl (by rw [nI_ltI (by decide) (by omega)]; omega) ?_
        refine mj_run 2 rfl trivial ?_
        refine mj_cal rfl rfl hmv ?_
        refine mj_run 3 rfl trivial ?_
        rw [z19]
        refine mj_brt rfl rfl (by rw [nI_leI (by decide) (by omega)]; omega) ?_
        refine mj_run 3 rfl trivial ?_
        rw [z19]
        refine mj_bra rfl rfl (fun q => ?_) (fun q => ?_)
        · rw [nI_e (by omega) (by omega)] at q
          rw [decide_eq_false q] at lp
          refine mj_run 1 rfl trivial ?_
          refine mj_run 3 rfl trivial ?_
          exact lp
        · rw [nI_e (by omega) (by omega)] at q
          rw [decide_eq_true (Classical.not_not.mp q)] at lp
          refine mj_run 2 rfl trivial ?_
          refine mj_run 3 rfl trivial ?_
          exact lp
      by_cases hq : (decide (s'.1 = at') && eqv s'.2.1 A n) = true
      · rw [if_pos hq]
        exact ⟨Z, f3.w (by decide) (by decide), fin Z (nI k) (fun _ => ⟨rfl, rfl⟩) (fun q => absurd hq q)⟩
      · rw [if_neg hq]
        exact ⟨I', (f3.tr hf').w (by decide) (by decide), fin I' _ (fun q => absurd q hq) (fun _ => hx')⟩
theorem MO_round (h : MI I pn pg n Y T t tr kp wn wt yr dn) : ∃ I', mj_call mj_P (d + 4) kn_M_round [.ref 45] (HP L dy I y y1 n1 w1 c y2 R J) (some (.int (if n = 0 then Int32.ofInt (-103) else rdA Y n T))) (HP L dy I' y y1 n1 w1 c y2 R J) ∧ MI I' pn pg n Y T t tr kp wn wt yr dn ∧ Fr wk wa' I I' := by
  by_cases hn : n = 0
  · rw [if_pos hn]
    refine ⟨I, ?_, h, (Fr.rf I).w (by simp) (by simp)⟩
    refine mj_ci rfl (Nat.le_of_ble_eq_true rfl) ?_
    refine mj_run 1 rfl trivial ?_
    refine mj_cal rfl rfl (M_lacks h.2.1) ?_
    rw [if_pos hn]
    refine mj_brf rfl rfl (by decide) ?_
    refine mj_run 1 rfl trivial ?_
    exact mj_end rfl rfl trivial
  · rw [if_neg hn]
    have h0 := h
    obtain ⟨h1, h2, h3, h4, h5, h6, h7⟩ := h
    have hn10 : n ≤ 10 := h2.2.1.1
    have fc := Fr.c I (dst := 55) (by decide) 53 10
    have hYc : MY (cpI I 55 53 10) n Y := h2.fr fc (by decide)
    have hTc : RI (cpI I 55 53 10) 55 n T := fun i hi => by rw [cpI_at (by omega)]; exact h3.1 i hi
    obtain ⟨hf1, hf2, hf3⟩ := ro_ok (q := none) h2.2.1 500 (10, T, 0) (by show 10 < 10 + n; omega) h3.2
    have start : ∀ (v : Option Value) (h' : mjH), mj_Rd (mj_call mj_P (d + 3)) kc_M_round 1 (52, [some (.ref 45), none, none, none, none], [], HP L dy (rsI (cpI I 55 53 10) n (ro Y none 500 (10, T, 0))) y y1 n1 w1 c y2 R J) v h' → mj_call mj_P (d + 4) kn_M_round [.ref 45] (HP L dy I y y1 n1 w1 c y2 R J) v h' := by
      intro v h' hx
      refine mj_ci rfl (Nat.le_of_ble_eq_true rfl) ?_
      refine mj_run 1 rfl trivial ?_
      refine mj_cal rfl rfl (M_lacks h2) ?_
      rw [if_neg hn]
      refine mj_brt rfl rfl (by decide) ?_
      refine mj_run 1 rfl trivial ?_
      refine mj_cal rfl rfl M_layTried ?_
      refine mj_run 6 rfl trivial ?_
      rw [rsI_0 hTc]
      exact M_rollR hYc 500 _ rfl (by show 10 < 10 + n; omega) h3.2 hx
    unfold rdA
    generalize ro Y none 500 (10, T, 0) = f at hf1 hf2 hf3 start
    have fr : Fr [19, 20] [55] I (rsI (cpI I 55 53 10) n f) := ⟨fun a g1 g2 => by simp at g1; simp [rsI, cpI, g1, g2], fun k g => by simp at g; simp [rsI, cpI, upd, g]⟩
    have e19 : rsI (cpI I 55 53 10) n f 45 19 = nI f.1 := by simp [rsI, upd]
    have e20 : rsI (cpI I 55 53 10) n f 45 20 = nI f.2.2 := by simp [rsI, upd]
    have eT : RI (rsI (cpI I 55 53 10) n f) 55 n f.2.1 := fun i hi => by simp [rsI, hi]
    generalize rsI (cpI I 55 53 10) n f = Z at start fr e19 e20 eT
    by_cases g : f.1 < 10
    · rw [if_pos g]
      refine ⟨Z, start _ _ ?_, h0.work (fr.w (by decide) (by decide)), fr.w (by decide) (by decide)⟩
      refine mj_run 3 rfl trivial ?_
      rw [e19]
      refine mj_brf rfl rfl (by rw [nI_leI (by decide) (by omega)]; omega) ?_
      refine mj_run 1 rfl trivial ?_
      exact mj_end rfl rfl trivial
    · rw [if_neg g]
      have f2 := fr.tr (Fr.c Z (dst := 56) (by decide) 55 10)
      obtain ⟨I', hf', hx'⟩ := M_roundLoop (d := d) (L := L) (dy := dy) (y := y) (y1 := y1) (n1 := n1) (w1 := w1) (c := c) (y2 := y2) (R := R) (J := J) (at' := f.1) (A := f.2.1) hf2 (by omega) 500 1 (cpI Z 56 55 10) f none none rfl rfl (h2.fr f2 (by decide)) (by simp [cpI, e19]) (by simp [cpI, e20]) g hf1 (fun i hi => by rw [cpI_ne (by decide)]; exact eT i hi) hf2 (fun i hi => by rw [cpI_at (by omega)]; exact eT i hi)
      have ff := (f2.tr hf').w (ks' := wk) (as' := wa') (by decide) (by decide)
      refine ⟨I', start _ _ ?_, h0.work ff, ff⟩
      refine mj_run 3 rfl trivial ?_
      rw [e19]
      refine mj_brt rfl rfl (by rw [nI_leI (by decide) (by omega)]; omega) ?_
      refine mj_run 5 rfl trivial ?_
      rw [e19]
      have key := dn_ind 10 (fun p => mj_Rd (mj_call mj_P (d + 3)) kc_M_round 1 (70, [some (.ref 45), some (.int (nI f.1)), some (.int (nI p)), none, none], [], HP L dy (cpI Z 56 55 p) y y1 n1 w1 c y2 R J) (some (.int (rnd Y n f.1 f.2.1 500 1 f))) (HP L dy I' y y1 n1 w1 c y2 R J)) ?_ ?_ 0 (by omega)
      · rw [cpI_0] at key
        exact key
      · refine mj_run 2 rfl trivial ?_
        refine mj_brt rfl rfl (by decide) ?_
        refine mj_run 2 rfl trivial ?_
        exact hx'
      · intro p hp ih
        refine mj_run 2 rfl trivial ?_
        refine mj_brf rfl rfl (by rw [nI_leI (by decide) (by omega)]; omega) ?_
        refine mj_run 10 rfl ⟨nI_vi (by omega) (by decide), nI_vi (by omega) (by decide), by decide⟩ ?_
        rw [nI_nc (by omega), cpI_s (by decide), nI_add]
        exact ih
end MM
