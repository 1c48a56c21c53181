theorem b_s : ∀ k, k < 32 → ((nI k &&& 31).toBitVec.smod 32).toNat = k := by decide
theorem b_or (a b : Nat) : nI a ||| nI b = nI (a ||| b) := by
  apply Int32.toBitVec_inj.1
  show BitVec.ofNat 32 a ||| BitVec.ofNat 32 b = BitVec.ofNat 32 (a ||| b)
  apply BitVec.eq_of_getLsbD_eq
  intro i hi
  simp [hi]
theorem b_one {k : Nat} (hk : k < 31) : nI 1 <<< (nI k &&& 31) = nI (2 ^ k) := by
  have h : (2 : Nat) ^ k < 2 ^ 31 := Nat.pow_lt_pow_right (by decide) hk
  rw [pk_shlN (nI k &&& 31) k (b_s k (by omega)) (by omega)]
  congr 1
  omega
theorem b_test {m p : Nat} (hm : m < 2147483648) (hp : p < 31) : (nI m >>> (nI p &&& 31)) &&& nI 1 = nI (if m.testBit p then 1 else 0) := by
  rw [pk_shrN hm (nI p &&& 31) p (b_s p (by omega))]
  have h1 : m / 2 ^ p < 2147483648 := Nat.lt_of_le_of_lt (Nat.div_le_self _ _) hm
  rw [pk_andN (by omega) (m := nI 1) 1 (by decide)]
  congr 1
  rw [Nat.testBit_eq_decide_div_mod_eq]
  have : m / 2 ^ p % 2 < 2 := Nat.mod_lt _ (by decide)
  by_cases h : m / 2 ^ p % 2 = 1
  · simp [h]
  · simp [h]
    omega
theorem b_lt {a b k : Nat} (ha : a < 2 ^ k) (hb : b < 2 ^ k) : a ||| b < 2 ^ k := Nat.or_lt_two_pow ha hb
/-! reaching, as the reference does it -/
def rW (Y : Yd) (p : Nat) : Nat → Nat → Nat
  | 0, m => m
  | k + 1, m => rW Y p k m ||| (if 10 ≤ Y.2.2 p k then 2 ^ (Y.2.2 p k - 10) else 0)
def rP (Y : Yd) (fr p m : Nat) : Nat := if p = fr ∨ m.testBit p = true then rW Y p (Y.2.1 p) m else m
def rS (Y : Yd) (fr : Nat) : Nat → Nat → Nat
  | 0, m => m
  | p + 1, m => rP Y fr p (rS Y fr p m)
def rR (Y : Yd) (n fr : Nat) : Nat → Nat
  | 0 => 0
  | k + 1 => rS Y fr n (rR Y n fr k)
def rch (Y : Yd) (n fr : Nat) : Nat := rR Y n fr (n + 1)
theorem rW_lt {n : Nat} {Y : Yd} (h : YOK n Y) {p : Nat} (hp : p < n) : ∀ k m, k ≤ Y.2.1 p → m < 1024 → rW Y p k m < 1024
  | 0, m, _, hm => hm
  | k + 1, m, hk, hm => by
    have ih := rW_lt h hp k m (by omega) hm
    have hw := (h.2 p hp).2.2.2 k (by omega)
    have hn := h.1
    unfold rW
    refine b_lt (k := 10) ih ?_
    split
    · exact Nat.pow_lt_pow_right (by decide) (by omega)
    · decide
theorem rP_lt {n : Nat} {Y : Yd} (h : YOK n Y) {fr p m : Nat} (hp : p < n) (hm : m < 1024) : rP Y fr p m < 1024 := by
  unfold rP
  split
  · exact rW_lt h hp _ _ (Nat.le_refl _) hm
  · exact hm
theorem rS_lt {n : Nat} {Y : Yd} (h : YOK n Y) {fr : Nat} : ∀ p m, p ≤ n → m < 1024 → rS Y fr p m < 1024
  | 0, m, _, hm => hm
  | p + 1, m, hp, hm => rP_lt h (by omega) (rS_lt h p m (by omega) hm)
theorem rR_lt {n : Nat} {Y : Yd} (h : YOK n Y) {fr : Nat} : ∀ k, rR Y n fr k < 1024
  | 0 => (by show (0 : Nat) < 1024; decide)
  | k + 1 => rS_lt h n _ (Nat.le_refl _) (rR_lt h k)
section MM
variable {d L : Nat} {dy : mjM} {I : mjI} {y y1 n1 w1 c y2 : Option Nat} {R : mjR} {J : mjJ} {pn : Nat} {pg : Nat → Nat} {n : Nat} {Y : Yd} {T : Nat → Nat} {t : Nat} {tr : Nat → Nat} {kp : Kp} {wn : Nat} {wt : Nat → Nat} {yr dn : Nat}
theorem M_reach {fr : Nat} (hfr : fr < 10) (hY : MY I n Y) : mj_call mj_P (d + 1) kn_M_reach [.ref 45, .int (nI fr)] (HP L dy I y y1 n1 w1 c y2 R J) (some (.int (nI (rch Y n fr)))) (HP L dy I y y1 n1 w1 c y2 R J) := by
  obtain ⟨h1, h2, h3⟩ := id hY
  have hn : n ≤ 10 := h2.1
  refine mj_ci rfl (Nat.le_of_ble_eq_true rfl) ?_
  refine mj_run 4 rfl trivial ?_
  -- rounds: the inner locals are what they are
  have key := dn_ind (n + 1) (fun k => ∀ (l4 l5 l6 : Option Value), mj_lg l4 = true → mj_lg l5 = true → mj_Rd (mj_call mj_P d) kc_M_reach 1 (4, [some (.ref 45), some (.int (nI fr)), some (.int (nI (rR Y n fr k))), some (.int (nI k)), l4, l5, l6], [], HP L dy I y y1 n1 w1 c y2 R J) (some (.int (nI (rch Y n fr)))) (HP L dy I y y1 n1 w1 c y2 R J)) ?_ ?_ 0 (by omega)
  · exact key none none none rfl rfl
  · intro l4 l5 l6 _ _
    refine mj_run 3 rfl trivial ?_
    rw [h1]
    refine mj_brt rfl rfl (by rw [nI_ltI (by omega) (by omega)]; omega) ?_
    refine mj_run 1 rfl trivial ?_
    exact mj_end rfl rfl trivial
  · intro k hk ih l4 l5 l6 g4 g5
    refine mj_run 3 rfl trivial ?_
    rw [h1]
    refine mj_brf rfl rfl (by rw [nI_ltI (by omega) (by omega)]; omega) ?_
    refine mj_run 2 rfl trivial ?_
    have inner := dn_ind n (fun p => ∀ (l5 l6 : Option Value), mj_lg l5 = true → mj_Rd (mj_call mj_P d) kc_M_reach 1 (15, [some (.ref 45), some (.int (nI fr)), some (.int (nI (rS Y fr p (rR Y n fr k)))), some (.int (nI k)), some (.int (nI p)), l5, l6], [], HP L dy I y y1 n1 w1 c y2 R J) (some (.int (nI (rch Y n fr)))) (HP L dy I y y1 n1 w1 c y2 R J)) ?_ ?_ 0 (by omega)
    · exact inner l5 l6 g5
    · intro l5 l6 g5
      refine mj_run 3 rfl trivial ?_
      rw [h1]
      refine mj_brt rfl rfl (by rw [nI_leI (by omega) (by omega)]; omega) ?_
      refine mj_run 2 rfl trivial ?_
      rw [nI_add]
      exact ih _ _ _ rfl g5
    · intro p hp ihp l5 l6 g5
      have hm : rS Y fr p (rR Y n fr k) < 1024 := rS_lt h2 p _ (by omega) (rR_lt h2 k)
      generalize hM : rS Y fr p (rR Y n fr k) = M at hm ⊢
      have hnx : rS Y fr (p + 1) (rR Y n fr k) = rP Y fr p M := by show rP Y fr p (rS Y fr p (rR Y n fr k)) = _; rw [hM]
      rw [hnx] at ihp
      obtain ⟨k1, k2, k3, k4⟩ := h2.2 p hp
      obtain ⟨e1, e2, e3⟩ := h3 p hp
      have vi : vp_in (nI p) 10 := nI_vi (by omega) (by decide)
      have hc : (nI p).toNatClampNeg = p := nI_nc (by omega)
      refine mj_run 3 rfl trivial ?_
      rw [h1]
      refine mj_brf rfl rfl (by rw [nI_leI (by omega) (by omega)]; omega) ?_
      refine mj_run 2 rfl trivial ?_
      -- the ways, if it is
      have ways : (p = fr ∨ M.testBit p = true) → ∀ l5 l6, mj_lg l5 = true → mj_Rd (mj_call mj_P d) kc_M_reach 1 (40, [some (.ref 45), some (.int (nI fr)), some (.int (nI M)), some (.int (nI k)), some (.int (nI p)), l5, l6], [], HP L dy I y y1 n1 w1 c y2 R J) (some (.int (nI (rch Y n fr)))) (HP L dy I y y1 n1 w1 c y2 R J) := by
        intro A l5 l6 g5
        have eP : rP Y fr p M = rW Y p (Y.2.1 p) M := by unfold rP; rw [if_pos A]
        rw [eP] at ihp
        refine mj_run 2 rfl trivial ?_
        refine mj_run 3 rfl (show mj_ok (if True then none else none) from trivial) ?_
        refine dn_ind (Y.2.1 p) (fun v => mj_Rd (mj_call mj_P d) kc_M_reach 1 (50, [some (.ref 45), some (.int (nI fr)), some (.int (nI (rW Y p v M))), some (.int (nI k)), some (.int (nI p)), some (.int (nI 1)), some (.int (nI v))], [], HP L dy I y y1 n1 w1 c y2 R J) (some (.int (nI (rch Y n fr)))) (HP L dy I y y1 n1 w1 c y2 R J)) ?_ ?_ 0 (by omega)
        · refine mj_run 5 rfl vi ?_
          rw [hc, e2]
          refine mj_brt rfl rfl (by rw [nI_leI (by omega) (by omega)]; omega) ?_
          refine mj_run 2 rfl trivial ?_
          rw [nI_add]
          exact ihp _ _ rfl
        · intro v hv ihv
          have hRW : rW Y p v M < 1024 := rW_lt h2 hp v M (by omega) hm
          have hwv := k4 v hv
          have e5 : nI 3 * nI p + nI v = nI (3 * p + v) := by rw [pk_mul, nI_add]
          have vi2 : vp_in (nI (3 * p + v)) 30 := nI_vi (by omega) (by decide)
          have hc2 : (nI (3 * p + v)).toNatClampNeg = 3 * p + v := nI_nc (by omega)
          have e6 : I 52 (3 * p + v) = nI (Y.2.2 p v) := by rw [e3 v (by omega), if_pos hv]
          refine mj_run 5 rfl vi ?_
          rw [hc, e2]
          refine mj_brf rfl rfl (by rw [nI_leI (by omega) (by omega)]; omega) ?_
          refine mj_run 1 rfl trivial ?_
          refine mj_brf rfl rfl (by decide) ?_
          refine mj_run 10 rfl (by rw [e5]; exact vi2) ?_
          rw [e5, hc2, e6]
          refine mj_bra rfl rfl (fun g => ?_) (fun g => ?_)
          · rw [nI_ltI (by omega) (by decide)] at g
            have e7 : rW Y p (v + 1) M = rW Y p v M ||| 0 := by
              show rW Y p v M ||| _ = _
              rw [if_neg (by omega)]
            rw [e7] at ihv
            refine mj_run 1 rfl trivial ?_
            refine mj_run 4 rfl trivial ?_
            rw [b_or, nI_add]
            exact ihv
          · rw [nI_ltI (by omega) (by decide)] at g
            have e7 : rW Y p (v + 1) M = rW Y p v M ||| 2 ^ (Y.2.2 p v - 10) := by
              show rW Y p v M ||| _ = _
              rw [if_pos (by omega)]
            rw [e7] at ihv
            refine mj_run 13 rfl (by rw [e5]; exact vi2) ?_
            rw [e5, hc2, e6, pk_sub (by omega), b_one (by omega)]
            refine mj_run 4 rfl trivial ?_
            rw [b_or, nI_add]
            exact ihv
      refine mj_bra rfl rfl (fun g => ?_) (fun g => ?_)
      · rw [nI_e (by omega) (by omega)] at g
        exact ways (Or.inl g) l5 l6 g5
      · rw [nI_e (by omega) (by omega)] at g
        refine mj_run 6 rfl trivial ?_
        rw [b_test (by omega) (by omega)]
        refine mj_bra rfl rfl (fun g2 => ?_) (fun g2 => ?_)
        · have nb : ¬ (p = fr ∨ M.testBit p = true) := by
            intro q
            rcases q with q | q
            · exact g q
            · rw [if_pos q] at g2
              exact g2 rfl
          have eP : rP Y fr p M = M := by unfold rP; rw [if_neg nb]
          rw [eP] at ihp
          refine mj_run 1 rfl trivial ?_
          refine mj_run 3 rfl trivial ?_
          refine mj_run 5 rfl vi ?_
          rw [hc, e2]
          refine mj_brf rfl rfl (by rw [nI_leI (by omega) (by decide)]; omega) ?_
          refine mj_run 1 rfl trivial ?_
          refine mj_brt rfl rfl (by decide) ?_
          refine mj_run 2 rfl trivial ?_
          rw [nI_add]
          exact ihp _ _ rfl
        · have hb : M.testBit p = true := by
            by_cases q : M.testBit p = true
            · exact q
            · rw [if_neg q] at g2
              exact absurd (Classical.not_not.mp g2) (by decide)
          exact ways (Or.inr hb) l5 l6 g5
end MM
