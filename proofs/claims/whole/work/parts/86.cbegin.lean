/-! the search -/
def lxb (a b : Nat → Nat) : Nat → Nat → Bool
  | 0, _ => false
  | f + 1, k => if a k = b k then lxb a b f (k + 1) else decide (a k < b k)
theorem lxb_iff {a b : Nat → Nat} : ∀ f k, lxb a b f k = true ↔ ∃ p, k ≤ p ∧ p < k + f ∧ a p < b p ∧ ∀ q, k ≤ q → q < p → a q = b q
  | 0, k => ⟨fun h => (by cases h), fun ⟨p, h1, h2, _⟩ => (by omega)⟩
  | f + 1, k => by
    unfold lxb
    by_cases g : a k = b k
    · rw [if_pos g, lxb_iff f (k + 1)]
      constructor
      · rintro ⟨p, h1, h2, h3, h4⟩
        refine ⟨p, by omega, by omega, h3, fun q q1 q2 => ?_⟩
        by_cases e : q = k
        · subst e; exact g
        · exact h4 q (by omega) q2
      · rintro ⟨p, h1, h2, h3, h4⟩
        have : p ≠ k := fun e => by subst e; omega
        exact ⟨p, by omega, by omega, h3, fun q q1 q2 => h4 q (by omega) q2⟩
    · rw [if_neg g, decide_eq_true_iff]
      constructor
      · exact fun h => ⟨k, by omega, by omega, h, fun q q1 q2 => by omega⟩
      · rintro ⟨p, h1, h2, h3, h4⟩
        by_cases e : p = k
        · subst e; exact h3
        · exact absurd (h4 k (by omega) (by omega)) g
theorem lxb_l {a b : Nat → Nat} {n : Nat} : lxb a b n 0 = true ↔ lxl a b n := by
  rw [lxb_iff]
  unfold lxl
  constructor
  · rintro ⟨p, -, h2, h3, h4⟩
    exact ⟨p, by omega, h3, fun q hq => h4 q (by omega) hq⟩
  · rintro ⟨p, h2, h3, h4⟩
    exact ⟨p, by omega, by omega, h3, fun q _ hq => h4 q hq⟩
def BG (X : mjI) (Y : Yd) (n : Nat) (T wt : Nat → Nat) (wn F : Nat) (ch b : Nat → Nat) (Z : Nat → Int32) : Prop := X 12 3 = nI F ∧ X 12 7 = nI wn ∧ (RI X 21 n ch ∧ TOK n Y ch ∧ ∀ i, n ≤ i → i < 10 → X 21 i = Z i) ∧ F ≤ 11 ∧ (F ≤ 10 → RI X 22 n b ∧ TOK n Y b ∧ ∀ i, n ≤ i → i < 10 → X 22 i = Z i) ∧ RI X 5 n T ∧ ∀ i, i < wn → X 42 i = nI (wt i)
theorem BG.fr {X X' : mjI} {Y : Yd} {n : Nat} {T wt : Nat → Nat} {wn F : Nat} {ch b : Nat → Nat} {Z : Nat → Int32} {as : List Nat} (h : BG X Y n T wt wn F ch b Z) (f : Cf as X X') (ha : 12 ∉ as ∧ 21 ∉ as ∧ 22 ∉ as ∧ 5 ∉ as ∧ 42 ∉ as) : BG X' Y n T wt wn F ch b Z := by
  unfold BG RI
  rw [f 12 ha.1, f 21 ha.2.1, f 22 ha.2.2.1, f 5 ha.2.2.2.1, f 42 ha.2.2.2.2]
  exact h
def BFr (cc : Nat) (X X' : mjI) : Prop := ∀ a, a ≠ 12 → a ≠ 21 → a ≠ 22 → (a < 14 + cc ∨ 20 < a) → X' a = X a
theorem un_fz {T ch : Nat → Nat} {i s : Nat} (hi : ch i = T i) : ∀ n, i < n → un T (fu ch i s) n = un T ch n + if s = T i then 0 else 1
  | 0, h => by omega
  | n + 1, h => by
    unfold un
    by_cases e : i = n
    · subst e
      rw [un_cg (T' := T) (U' := ch) i (fun q hq => ⟨rfl, by simp [fu, show q ≠ i by omega]⟩), if_pos hi]
      simp [fu]
    · rw [un_fz hi n (by omega)]
      have : fu ch i s n = ch n := by simp [fu, Ne.symm e]
      rw [this]
      omega
theorem ct_or {D i : Nat} (hD : ¬ D.testBit i = true) : ∀ n, i < n → ct (D ||| 2 ^ i) n = ct D n + 1
  | 0, h => by omega
  | n + 1, h => by
    unfold ct
    by_cases e : i = n
    · subst e
      have c1 : ∀ k, k ≤ i → ct (D ||| 2 ^ i) k = ct D k := by
        intro k
        induction k with
        | zero => intro _; rfl
        | succ k ih =>
          intro hk
          unfold ct
          rw [ih (by omega)]
          have : (D ||| 2 ^ i).testBit k = D.testBit k := by
            rw [Nat.testBit_or, Nat.testBit_two_pow]
            simp [show i ≠ k by omega]
          rw [this]
      rw [c1 i (Nat.le_refl i), if_pos ((D_or i).mpr (Or.inr rfl)), if_neg hD]
    · rw [ct_or hD n (by omega)]
      have : (D ||| 2 ^ i).testBit n = D.testBit n := by
        rw [Nat.testBit_or, Nat.testBit_two_pow]
        simp [e]
      rw [this]
      omega
theorem ct_full {D i : Nat} (hD : ¬ D.testBit i = true) : ∀ n, i < n → ct D n < n
  | 0, h => by omega
  | n + 1, h => by
    unfold ct
    by_cases e : i = n
    · subst e
      rw [if_neg hD]
      have := ct_le D i
      omega
    · have := ct_full hD n (by omega)
      split <;> omega
section CC
variable {d L : Nat} {dy : mjM} {y y1 n1 w1 c y2 : Option Nat} {R : mjR} {J : mjJ} {n : Nat} {Y : Yd} {T wt : Nat → Nat} {wn : Nat} {ya ol : Nat} {A B C od : Nat → Nat} {X : mjI} {F : Nat} {ch b : Nat → Nat} {Z : Nat → Int32}
theorem B_first (hK : YOK n Y) (h1 : RI X 21 n ch ∧ TOK n Y ch ∧ ∀ i, n ≤ i → i < 10 → X 21 i = Z i) (h2 : RI X 22 n b ∧ TOK n Y b ∧ ∀ i, n ≤ i → i < 10 → X 22 i = Z i) : mj_call mj_P (d + 1) kn_Be_isChosenFirst [.ref 12] (HP L dy X y y1 n1 w1 c y2 R J) (some (.int (nI (if lxb ch b n 0 then 1 else 0)))) (HP L dy X y y1 n1 w1 c y2 R J) := by
  have hn := hK.1
  refine mj_ci rfl (Nat.le_of_ble_eq_true rfl) ?_
  refine mj_run 2 rfl trivial ?_
  have key := dn_ind 10 (fun p => mj_Rd (mj_call mj_P d) kc_Be_isChosenFirst 2 (2, [some (.ref 12), some (.int (nI p))], [], HP L dy X y y1 n1 w1 c y2 R J) (some (.int (nI (if lxb ch b (n - p) p then 1 else 0)))) (HP L dy X y y1 n1 w1 c y2 R J)) ?_ ?_ 0 (by omega)
  · exact key
  · rw [show n - 10 = 0 by omega]
    refine mj_run 2 rfl trivial ?_
    refine mj_brt rfl rfl (by decide) ?_
    refine mj_run 1 rfl trivial ?_
    exact mj_end rfl rfl (Or.inl rfl)
  · intro p hp ih
    have vi : vp_in (nI p) 10 := nI_vi hp (by decide)
    refine mj_run 2 rfl trivial ?_
    refine mj_brf rfl rfl (by rw [nI_leI (by decide) (by omega)]; omega) ?_
    refine mj_run 8 rfl ⟨vi, vi⟩ ?_
    rw [nI_nc (by omega)]
    by_cases hpn : p < n
    · have u6 := (sm_in hK hpn).2
      have u1 := h1.2.1 p hpn
      have v1 := h2.2.1 p hpn
      rw [h1.1 p hpn, h2.1 p hpn, show n - p = (n - (p + 1)) + 1 by omega]
      unfold lxb
      refine mj_bra rfl rfl (fun g => ?_) (fun g => ?_)
      · rw [nI_e (by omega) (by omega)] at g
        rw [if_pos g]
        refine mj_run 2 rfl trivial ?_
        rw [nI_add]
        exact ih
      · rw [nI_e (by omega) (by omega)] at g
        rw [if_neg g]
        refine mj_run 8 rfl ⟨vi, vi⟩ ?_
        rw [nI_nc (by omega), h1.1 p hpn, h2.1 p hpn]
        refine mj_bra rfl rfl (fun g2 => ?_) (fun g2 => ?_)
        · rw [nI_leI (by omega) (by omega)] at g2
          rw [decide_eq_false (by omega)]
          refine mj_run 1 rfl trivial ?_
          exact mj_end rfl rfl (Or.inl rfl)
        · rw [nI_leI (by omega) (by omega)] at g2
          rw [decide_eq_true (by omega)]
          refine mj_run 2 rfl trivial ?_
          exact mj_end rfl rfl (Or.inr rfl)
    · rw [h1.2.2 p (by omega) hp, h2.2.2 p (by omega) hp]
      refine mj_brt rfl rfl rfl ?_
      refine mj_run 2 rfl trivial ?_
      rw [nI_add]
      rw [show n - (p + 1) = n - p by omega] at ih
      rw [show n - p = 0 by omega] at ih ⊢
      exact ih
theorem B_keep (hK : YOK n Y) (hB : BG X Y n T wt wn F ch b Z) {δ : Nat} (hδ : δ ≤ 10) : ∃ (X' : mjI) (F' : Nat) (b' : Nat → Nat), mj_call mj_P (d + 2) kn_Be_keepIfBetter [.ref 12, .int (nI δ)] (HP L dy X y y1 n1 w1 c y2 R J) none (HP L dy X' y y1 n1 w1 c y2 R J) ∧ Cf [12, 22] X X' ∧ BG X' Y n T wt wn F' ch b' Z ∧ (((δ < F ∨ (δ = F ∧ lxl ch b n)) ∧ F' = δ ∧ b' = ch) ∨ (¬ (δ < F ∨ (δ = F ∧ lxl ch b n)) ∧ F' = F ∧ b' = b)) := by
  have hn := hK.1
  obtain ⟨h1, h2, h3, h4, h5, h6, h7⟩ := id hB
  have fin : ∀ (v : Option Value) (h' : mjH), (δ < F ∨ (δ = F ∧ lxl ch b n) → mj_Rd (mj_call mj_P (d + 1)) kc_Be_keepIfBetter 0 (23, [some (.ref 12), some (.int (nI δ))], [], HP L dy X y y1 n1 w1 c y2 R J) v h') → (¬ (δ < F ∨ (δ = F ∧ lxl ch b n)) → mj_Rd (mj_call mj_P (d + 1)) kc_Be_keepIfBetter 0 (43, [some (.ref 12), some (.int (nI δ))], [], HP L dy X y y1 n1 w1 c y2 R J) v h') → mj_call mj_P (d + 2) kn_Be_keepIfBetter [.ref 12, .int (nI δ)] (HP L dy X y y1 n1 w1 c y2 R J) v h' := by
    intro v h' k1 k2
    refine mj_ci rfl (Nat.le_of_ble_eq_true rfl) ?_
    refine mj_run 3 rfl trivial ?_
    rw [h1]
    refine mj_bra rfl rfl (fun g => ?_) (fun g => ?_)
    · rw [nI_ltI (by omega) (by omega)] at g
      exact k1 (Or.inl g)
    · rw [nI_ltI (by omega) (by omega)] at g
      refine mj_run 3 rfl trivial ?_
      rw [h1]
      refine mj_bra rfl rfl (fun g2 => ?_) (fun g2 => ?_)
      · rw [nI_e (by omega) (by omega)] at g2
        exact k2 (by omega)
      · rw [nI_e (by omega) (by omega)] at g2
        have g2 := Classical.not_not.mp g2
        refine mj_run 1 rfl trivial ?_
        refine mj_cal rfl rfl (B_first hK h3 (h5 (by omega))) ?_
        cases hl : lxb ch b n 0 with
        | true =>
          refine mj_brf rfl rfl (by decide) ?_
          exact k1 (Or.inr ⟨g2, lxb_l.mp hl⟩)
        | false =>
          refine mj_brt rfl rfl (by decide) ?_
          refine k2 (fun q => ?_)
          rcases q with q | ⟨-, q⟩
          · omega
          · rw [lxb_l.mpr q] at hl
            cases hl
  rcases Classical.em (δ < F ∨ (δ = F ∧ lxl ch b n)) with g | g
  · have f := (Cf.u X 12 3 (nI δ)).tr (Cf.row _ 22 (va_cpy (mj_ui X 12 3 (nI δ) 21) (mj_ui X 12 3 (nI δ) 22) 0 0 10))
    refine ⟨_, δ, ch, fin _ _ (fun _ => ?_) (fun q => absurd g q), f, ⟨by simp [mj_row, mj_ui, upd], by simp [mj_row, mj_ui, upd, h2], ⟨fun i hi => by simp [mj_row, mj_ui]; exact h3.1 i hi, h3.2.1, fun i q1 q2 => by simp [mj_row, mj_ui]; exact h3.2.2 i q1 q2⟩, by omega, fun _ => ⟨fun i hi => ?_, h3.2.1, fun i q1 q2 => ?_⟩, fun i hi => by simp [mj_row, mj_ui]; exact h6 i hi, fun i hi => by simp [mj_row, mj_ui]; exact h7 i hi⟩, Or.inl ⟨g, rfl, rfl⟩⟩
    · refine mj_run 10 rfl trivial ?_
      refine sx_cp (a := 22) (b := 21) rfl rfl rfl rfl (by decide) ?_
      exact mj_end rfl rfl trivial
    · have : i < 10 := by omega
      simp [mj_row, mj_ui, va_cpy, this, h3.1 i hi]
    · simp [mj_row, mj_ui, va_cpy, q2, h3.2.2 i q1 q2]
  · refine ⟨X, F, b, fin _ _ (fun q => absurd q g) (fun _ => ?_), (Cf.rf X).w (by simp), hB, Or.inr ⟨g, rfl, rfl⟩⟩
    exact mj_end rfl rfl trivial
theorem Y_lead {m : mjM} {I : mjI} {R : mjR} (hY : CY m I R ya A B C n ol od Y) {i s : Nat} (hi : i < n) (hs : s < 10) : (lds Y n i s → mj_call mj_P (d + 1) kn_Yd_canLead [.ref ya, .int (nI i), .int (nI s)] (m, I, R, J) (some (.int (nI 1))) (m, I, R, J)) ∧ (¬ lds Y n i s → mj_call mj_P (d + 1) kn_Yd_canLead [.ref ya, .int (nI i), .int (nI s)] (m, I, R, J) (some (.int (nI 0))) (m, I, R, J)) := by
  obtain ⟨⟨hK, hn1, -⟩, ⟨r0, r3, r4, r5, r6, r7⟩, ⟨m0, m1, m2, m3, m4, m5, m6⟩, -, -, i1, i2, i3, i4, i5, i6⟩ := hY
  have hn := hK.1
  obtain ⟨l, l1, l2, l3⟩ := i6 s hs
  have go : mj_call mj_P (d + 1) kn_Yd_canLead [.ref ya, .int (nI i), .int (nI s)] (m, I, R, J) (some (.int (nI (if l.testBit i then 1 else 0)))) (m, I, R, J) := by
    refine mj_ci rfl (Nat.le_of_ble_eq_true rfl) ?_
    refine mj_run 1 rfl trivial ?_
    refine mj_brf rfl rfl (i_nn (by omega)) ?_
    refine mj_run 2 rfl trivial ?_
    refine mj_brf rfl rfl (by rw [nI_leI (by decide) (by omega)]; omega) ?_
    refine mj_run 1 rfl trivial ?_
    refine sx_gr rfl m0 rfl r6 ?_
    refine mj_run 1 rfl trivial ?_
    refine sx_ld rfl m5 (nI_vi hs (by decide)) ?_
    rw [nI_nc (by omega), l2]
    refine mj_run 5 rfl trivial ?_
    rw [b_test (by omega) (by omega)]
    cases l.testBit i with
    | true =>
      refine mj_brf rfl rfl (by decide) ?_
      refine mj_run 2 rfl trivial ?_
      exact mj_end rfl rfl (Or.inr rfl)
    | false =>
      refine mj_brt rfl rfl (by decide) ?_
      refine mj_run 1 rfl trivial ?_
      exact mj_end rfl rfl (Or.inl rfl)
  refine ⟨fun q => ?_, fun q => ?_⟩
  · rw [if_pos ((l3 i hi).mpr q)] at go
    exact go
  · rw [if_neg (fun r => q ((l3 i hi).mp r))] at go
    exact go
/-- what a search from here on does -/
def FOL (d L : Nat) (dy : mjM) (c y2 : Option Nat) (R : mjR) (J : mjJ) (n : Nat) (Y : Yd) (T wt : Nat → Nat) (wn ya ol : Nat) (A B C od : Nat → Nat) (Z : Nat → Int32) (r : Nat) : Prop := ∀ (D : Nat) (ch S : Nat → Nat) (k a mvs : Nat) (X : mjI) (F : Nat) (b : Nat → Nat), ct D n + r = n → D < 2 ^ n → (∀ p, p < n → ¬ D.testBit p = true → ch p = T p) → (∀ p, p < n → D.testBit p = true → X (14 + ct D n) p = nI (S p) ∧ S p < sm Y p) → k < wn → a < 10 + n → mvs ≤ 500 → BG X Y n T wt wn F ch b Z → CY (FM L dy) X (FR (some ya) (some ya) (some 5) (some 42) c y2 R) ya A B C n ol od Y → ∃ (X' : mjI) (F' : Nat) (b' : Nat → Nat), mj_call mj_P (d + 2 * r + 5) kn_Be_follow [.ref 12, .int (nI (ct D n)), .int (nI D), .int (nI (un T ch n)), .int (nI k), .int (nI a), .int (nI mvs)] (HP L dy X (some ya) (some ya) (some 5) (some 42) c y2 R J) none (HP L dy X' (some ya) (some ya) (some 5) (some 42) c y2 R J) ∧ BFr (ct D n) X X' ∧ BG X' Y n T wt wn F' ch b' Z ∧ BP T n (EB Y n wt wn D ch S k a mvs) F b F' b'
end CC
