def rdQ (Y : Yd) (W p q : Nat) : Nat → Bool
  | 0 => true
  | k + 1 => rdQ Y W p q k && (!W.testBit q || decide (Y.2.2 q k ≠ 10 + p))
def rdy (Y : Yd) (W p : Nat) : Nat → Bool
  | 0 => true
  | q + 1 => rdy Y W p q && rdQ Y W p q (Y.2.1 q)
theorem rdQ_iff {Y : Yd} {W p q : Nat} : ∀ k, rdQ Y W p q k = true ↔ ∀ w, w < k → W.testBit q = true → Y.2.2 q w ≠ 10 + p
  | 0 => by simp [rdQ]
  | k + 1 => by
    unfold rdQ
    rw [Bool.and_eq_true, rdQ_iff k, Bool.or_eq_true, decide_eq_true_iff]
    constructor
    · rintro ⟨h1, h2⟩ w hw hq
      by_cases e : w = k
      · subst e
        rcases h2 with h2 | h2
        · rw [hq] at h2; cases h2
        · exact h2
      · exact h1 w (by omega) hq
    · intro h
      refine ⟨fun w hw hq => h w (by omega) hq, ?_⟩
      cases hq : W.testBit q with
      | false => exact Or.inl rfl
      | true => exact Or.inr (h k (by omega) hq)
theorem rdy_iff {Y : Yd} {W p n : Nat} : ∀ k, k ≤ n → (rdy Y W p k = true ↔ ∀ q, q < k → W.testBit q = true → ¬ eg Y n q p)
  | 0, _ => by simp [rdy]
  | k + 1, hk => by
    unfold rdy
    rw [Bool.and_eq_true, rdy_iff (n := n) k (by omega), rdQ_iff]
    constructor
    · rintro ⟨h1, h2⟩ q hq hb he
      by_cases e : q = k
      · subst e
        obtain ⟨-, w, hw, e⟩ := he
        exact h2 w hw hb e
      · exact h1 q (by omega) hb he
    · intro h
      exact ⟨fun q hq hb => h q (by omega) hb, fun w hw hb e => h k (by omega) hb ⟨by omega, w, hw, e⟩⟩
/-- the stands behind N trucks, or N trucks ago -/
def bh (Y : Yd) (n : Nat) (T : Nat → Nat) (ng : Bool) (N W p : Nat) : Nat := if (cm Y n).testBit p && !W.testBit p then thn Y T ng p (cst Y n T ng N p) else T p
theorem i_negT {N : Nat} (h : N ≤ 1000000) : (-(nI N)).toInt = -(N : Int) := by
  rw [Int32.toInt_neg, nI_toInt (by omega)]
  rw [Int.bmod_def]
  split <;> omega
theorem i_sac {a b e : Nat} (h : b ≤ a + e) : nI a - nI b + nI e = nI (a + e - b) := by
  rw [Int32.sub_eq_add_neg, Int32.add_assoc, Int32.add_comm (-nI b), ← Int32.add_assoc, ← Int32.sub_eq_add_neg, nI_add, pk_sub h]
section MM
variable {d L : Nat} {dy : mjM} {I : mjI} {y y1 n1 w1 c y2 : Option Nat} {R : mjR} {J : mjJ} {pn : Nat} {pg : Nat → Nat} {n : Nat} {Y : Yd} {T : Nat → Nat} {t : Nat} {tr : Nat → Nat} {kp : Kp} {wn : Nat} {wt : Nat → Nat} {yr dn : Nat}
theorem M_isReady {p W : Nat} (hp : p < n) (hW : W < 1024) (hY : MY I n Y) : mj_call mj_P (d + 1) kn_M_isReady [.ref 45, .int (nI p), .int (nI W)] (HP L dy I y y1 n1 w1 c y2 R J) (some (.int (nI (if rdy Y W p n then 1 else 0)))) (HP L dy I y y1 n1 w1 c y2 R J) := by
  obtain ⟨h1, h2, h3⟩ := id hY
  have hn : n ≤ 10 := h2.1
  refine mj_ci rfl (Nat.le_of_ble_eq_true rfl) ?_
  refine mj_run 4 rfl trivial ?_
  have key := dn_ind n (fun q => ∀ (l5 : Option Value), mj_Rd (mj_call mj_P d) kc_M_isReady 2 (5, [some (.ref 45), some (.int (nI p)), some (.int (nI W)), some (.int (nI (if rdy Y W p q then 1 else 0))), some (.int (nI q)), l5], [], HP L dy I y y1 n1 w1 c y2 R J) (some (.int (nI (if rdy Y W p n then 1 else 0)))) (HP L dy I y y1 n1 w1 c y2 R J)) ?_ ?_ 0 (by omega)
  · exact key none
  · intro l5
    refine mj_run 3 rfl trivial ?_
    rw [h1]
    refine mj_brt rfl rfl (by rw [nI_leI (by omega) (by omega)]; omega) ?_
    refine mj_run 1 rfl trivial ?_
    refine mj_end rfl rfl ?_
    cases rdy Y W p n
    · exact Or.inl rfl
    · exact Or.inr rfl
  · intro q hq ih l5
    obtain ⟨k1, k2, k3, kw⟩ := h2.2 q hq
    obtain ⟨e1, e2, e3⟩ := h3 q hq
    refine mj_run 3 rfl trivial ?_
    rw [h1]
    refine mj_brf rfl rfl (by rw [nI_leI (by omega) (by omega)]; omega) ?_
    refine mj_run 2 rfl trivial ?_
    have inner := dn_ind (Y.2.1 q) (fun w => mj_Rd (mj_call mj_P d) kc_M_isReady 2 (17, [some (.ref 45), some (.int (nI p)), some (.int (nI W)), some (.int (nI (if rdy Y W p q && rdQ Y W p q w then 1 else 0))), some (.int (nI q)), some (.int (nI w))], [], HP L dy I y y1 n1 w1 c y2 R J) (some (.int (nI (if rdy Y W p n then 1 else 0)))) (HP L dy I y y1 n1 w1 c y2 R J)) ?_ ?_ 0 (by omega)
    · rw [show rdQ Y W p q 0 = true from rfl, Bool.and_true] at inner
      exact inner
    · refine mj_run 5 rfl (nI_vi (by omega) (by decide)) ?_
      rw [nI_nc (by omega), e2]
      refine mj_brt rfl rfl (by rw [nI_leI (by omega) (by omega)]; omega) ?_
      refine mj_run 2 rfl trivial ?_
      rw [nI_add]
      exact ih _
    · intro w hw ihw
      have hv := kw w hw
      have e9 : nI 3 * nI q + nI w = nI (3 * q + w) := by rw [pk_mul, nI_add]
      have nxt : ∀ z : Int32, z = nI (if rdy Y W p q && rdQ Y W p q (w + 1) then 1 else 0) → ∀ b : Bool, mj_Rd (mj_call mj_P d) kc_M_isReady 2 (66, [some (.ref 45), some (.int (nI p)), some (.int (nI W)), some (.int (nI (if b then 1 else 0))), some (.int (nI q)), some (.int (nI w))], [.int z], HP L dy I y y1 n1 w1 c y2 R J) (some (.int (nI (if rdy Y W p n then 1 else 0)))) (HP L dy I y y1 n1 w1 c y2 R J) := by
        intro z hz b
        subst hz
        refine mj_run 3 rfl trivial ?_
        rw [nI_add]
        exact ihw
      have eQ : (rdy Y W p q && rdQ Y W p q (w + 1)) = ((rdy Y W p q && rdQ Y W p q w) && (!W.testBit q || decide (Y.2.2 q w ≠ 10 + p))) := by
        rw [show rdQ Y W p q (w + 1) = (rdQ Y W p q w && (!W.testBit q || decide (Y.2.2 q w ≠ 10 + p))) from rfl, Bool.and_assoc]
      rw [eQ] at nxt
      refine mj_run 5 rfl (nI_vi (by omega) (by decide)) ?_
      rw [nI_nc (by omega), e2]
      refine mj_brf rfl rfl (by rw [nI_leI (by omega) (by omega)]; omega) ?_
      refine mj_run 1 rfl trivial ?_
      cases hb : (rdy Y W p q && rdQ Y W p q w) with
      | false =>
        rw [hb] at nxt
        refine mj_brt rfl rfl (by decide) ?_
        refine mj_run 1 rfl trivial ?_
        exact nxt _ rfl false
      | true =>
        rw [hb] at nxt
        refine mj_brf rfl rfl (by decide) ?_
        refine mj_run 5 rfl trivial ?_
        rw [b_test (by omega) (by omega)]
        cases hbq : W.testBit q with
        | false =>
          rw [hbq] at nxt
          refine mj_brt rfl rfl (by decide) ?_
          refine mj_run 2 rfl trivial ?_
          exact nxt _ rfl true
        | true =>
          rw [hbq] at nxt
          refine mj_brf rfl rfl (by decide) ?_
          refine mj_run 11 rfl (by rw [e9]; exact nI_vi (by omega) (by decide)) ?_
          rw [e9, nI_nc (by omega), e3 w (by omega), if_pos hw, nI_add]
          refine mj_bra rfl rfl (fun g => ?_) (fun g => ?_)
          · rw [nI_e (by omega) (by omega)] at g
            refine mj_run 1 rfl trivial ?_
            exact nxt _ (by rw [decide_eq_false (fun q => q g)]; rfl) true
          · rw [nI_e (by omega) (by omega)] at g
            refine mj_run 2 rfl trivial ?_
            exact nxt _ (by rw [decide_eq_true g]; rfl) true
theorem M_send {p s : Nat} {C : Nat → Nat} (hp : p < n) (hs : s < sm Y p) (hY : MY I n Y) (hC : RI I 57 n C) (hm : C p ≤ 1000000) : ∃ I', mj_call mj_P (d + 3) kn_M_send [.ref 45, .int (nI p), .int (nI s)] (HP L dy I y y1 n1 w1 c y2 R J) none (HP L dy I' y y1 n1 w1 c y2 R J) ∧ Fr [] [57] I I' ∧ RI I' 57 n (fun q => C q + ctK Y p s (C p) q (per Y p)) := by
  obtain ⟨h1, h2, h3⟩ := id hY
  have hn : n ≤ 10 := h2.1
  obtain ⟨k1, k2, k3, kw⟩ := h2.2 p hp
  obtain ⟨e1, e2, e3⟩ := h3 p hp
  have hpe := per_in h2 hp
  have vp : vp_in (nI p) 10 := nI_vi (by omega) (by decide)
  have key := dn_ind (per Y p) (fun k => ∀ (X : mjI) (l7 l8 : Option Value), mj_lg l7 = true → Fr [] [57] I X → RI X 57 n (fun q => C q + ctK Y p s (C p) q k) → ∃ I', (Fr [] [57] I I' ∧ RI I' 57 n (fun q => C q + ctK Y p s (C p) q (per Y p))) ∧ mj_Rd (mj_call mj_P (d + 2)) kc_M_send 0 (34, [some (.ref 45), some (.int (nI p)), some (.int (nI s)), some (.int (nI (C p))), some (.int (nI (per Y p))), some (.int (nI (tnk Y p s k))), some (.int (nI k)), l7, l8], [], HP L dy X y y1 n1 w1 c y2 R J) none (HP L dy I' y y1 n1 w1 c y2 R J)) ?_ ?_ 0 (by omega)
  · obtain ⟨I', ⟨hf, hR⟩, hx⟩ := key I none none rfl ((Fr.rf I).w (by simp) (by simp)) (fun q hq => hC q hq)
    refine ⟨I', ?_, hf, hR⟩
    refine mj_ci rfl (Nat.le_of_ble_eq_true rfl) ?_
    refine mj_run 10 rfl ⟨vp, vp⟩ ?_
    rw [nI_nc (by omega), hC p hp, e1]
    have rest : ∀ z : Int32, z = nI (per Y p) → mj_Rd (mj_call mj_P (d + 2)) kc_M_send 0 (26, [some (.ref 45), some (.int (nI p)), some (.int (nI s)), some (.int (nI (C p))), none, none, none, none, none], [.int z], HP L dy I y y1 n1 w1 c y2 R J) none (HP L dy I' y y1 n1 w1 c y2 R J) := by
      intro z hz
      subst hz
      refine mj_run 5 rfl trivial ?_
      exact hx
    refine mj_bra rfl rfl (fun g => ?_) (fun g => ?_)
    · rw [nI_e (by omega) (by decide)] at g
      refine mj_run 2 rfl trivial ?_
      refine mj_cal rfl rfl (M_standMany hY hp) ?_
      exact rest _ (by unfold per; rw [if_neg g])
    · rw [nI_e (by omega) (by decide)] at g
      refine mj_run 2 rfl trivial ?_
      exact rest _ (by unfold per; rw [if_pos (Classical.not_not.mp g)])
  · intro X l7 l8 _ hf hR
    refine ⟨X, ⟨hf, hR⟩, ?_⟩
    refine mj_run 2 rfl trivial ?_
    refine mj_brt rfl rfl (by rw [nI_leI (by omega) (by omega)]; omega) ?_
    exact mj_end rfl rfl trivial
  · intro k hk ih X l7 l8 g7 hf hR
    have hYX : MY X n Y := hY.fr hf (by decide)
    have htk := tnk_in h2 hp hs k
    have hwa := wa_in h2 hp htk
    have hpl := pl_in h2 hp htk
    have e9 : nI 3 * nI p + nI (wa Y p (tnk Y p s k)) = nI (3 * p + wa Y p (tnk Y p s k)) := by rw [pk_mul, nI_add]
    have e10 : X 52 (3 * p + wa Y p (tnk Y p s k)) = nI (pl Y p (tnk Y p s k)) := by
      rw [(hYX.2.2 p hp).2.2 _ (by omega), if_pos hwa]
      rfl
    -- from 77 on
    have rest : ∃ I', (Fr [] [57] I I' ∧ RI I' 57 n (fun q => C q + ctK Y p s (C p) q (per Y p))) ∧ ∀ z : Int32, z = (if k < C p % per Y p then nI 1 else nI 0) → mj_Rd (mj_call mj_P (d + 2)) kc_M_send 0 (77, [some (.ref 45), some (.int (nI p)), some (.int (nI s)), some (.int (nI (C p))), some (.int (nI (per Y p))), some (.int (nI (tnk Y p s k))), some (.int (nI k)), some (.int (nI (pl Y p (tnk Y p s k)))), l8], [.int z, .int (nI (C p / per Y p))], HP L dy X y y1 n1 w1 c y2 R J) none (HP L dy I' y y1 n1 w1 c y2 R J) := by
      have esh : ∀ z : Int32, z = (if k < C p % per Y p then nI 1 else nI 0) → nI (C p / per Y p) + z = nI (sh (C p) (per Y p) k) := by
        intro z hz
        subst hz
        unfold sh
        split <;> rw [nI_add]
      by_cases g : pl Y p (tnk Y p s k) < 10
      · obtain ⟨I', hA, hx⟩ := ih X (some (.int (nI (pl Y p (tnk Y p s k))))) (some (.int (nI (sh (C p) (per Y p) k)))) rfl hf (fun q hq => by
          have e : ctK Y p s (C p) q (k + 1) = ctK Y p s (C p) q k := by
            unfold ctK
            rw [if_neg (by omega)]
            cases k <;> rfl
          show _ = nI (C q + ctK Y p s (C p) q (k + 1))
          rw [e]
          exact hR q hq)
        refine ⟨I', hA, fun z hz => ?_⟩
        refine mj_run 4 rfl trivial ?_
        rw [esh z hz]
        refine mj_brt rfl rfl (by rw [nI_ltI (by omega) (by decide)]; exact g) ?_
        refine mj_run 3 rfl trivial ?_
        refine mj_cal rfl rfl (M_turned hYX hp htk) ?_
        refine mj_run 3 rfl trivial ?_
        rw [nI_add]
        exact hx
      · obtain ⟨r, hr⟩ : ∃ r, pl Y p (tnk Y p s k) = 10 + r := ⟨pl Y p (tnk Y p s k) - 10, by omega⟩
        have hrn : r < n := by omega
        have hYZ : MY (mj_ui X 57 r (nI (C r + ctK Y p s (C p) r k + sh (C p) (per Y p) k))) n Y := hYX.fr (Fr.a X (a := 57) (by decide) r _) (by decide)
        obtain ⟨I', hA, hx⟩ := ih (mj_ui X 57 r (nI (C r + ctK Y p s (C p) r k + sh (C p) (per Y p) k))) (some (.int (nI (pl Y p (tnk Y p s k))))) (some (.int (nI (sh (C p) (per Y p) k)))) rfl ((hf.tr (Fr.a X (a := 57) (by decide) r _)).w (by decide) (by decide)) (fun q hq => by
          have e : ctK Y p s (C p) q (k + 1) = ctK Y p s (C p) q k + if 10 + r = 10 + q then sh (C p) (per Y p) k else 0 := by
            rw [← hr]
            cases k <;> rfl
          show _ = nI (C q + ctK Y p s (C p) q (k + 1))
          rw [e]
          by_cases eq : q = r
          · subst eq
            rw [if_pos rfl]
            simp [mj_ui, upd, Nat.add_assoc]
          · rw [if_neg (by omega)]
            have := hR q hq
            simp only [mj_ui, upd, ↓reduceIte, if_neg eq, Nat.add_zero]
            exact this)
        refine ⟨I', hA, fun z hz => ?_⟩
        refine mj_run 4 rfl trivial ?_
        rw [esh z hz]
        refine mj_brf rfl rfl (by rw [nI_ltI (by omega) (by decide)]; exact g) ?_
        have e11 : nI (pl Y p (tnk Y p s k)) - nI 10 = nI r := by rw [hr, pk_sub (by omega), Nat.add_sub_cancel_left]
        refine mj_run 10 rfl ⟨by rw [e11]; exact nI_vi (by omega) (by decide), by rw [e11]; exact nI_vi (by omega) (by decide), by decide⟩ ?_
        rw [e11, nI_nc (by omega), hR r hrn, nI_add]
        refine mj_run 3 rfl trivial ?_
        refine mj_cal rfl rfl (M_turned hYZ hp htk) ?_
        refine mj_run 3 rfl trivial ?_
        rw [nI_add]
        exact hx
    obtain ⟨I', hA, hx⟩ := rest
    refine ⟨I', hA, ?_⟩
    refine mj_run 2 rfl trivial ?_
    refine mj_brf rfl rfl (by rw [nI_leI (by omega) (by omega)]; omega) ?_
    refine mj_run 8 rfl trivial ?_
    refine mj_cal rfl rfl (M_wayAt hYX hp htk) ?_
    have nz : ¬ nI (per Y p) = 0 := by rw [nI_z (by omega)]; omega
    refine mj_run 10 rfl ⟨by rw [e9]; exact nI_vi (by omega) (by decide), nz, nz⟩ ?_
    rw [e9, nI_nc (by omega), e10, pk_rem (by omega) (by omega) (by omega), pk_div (by omega) (by omega) (by omega)]
    have hmod := Nat.mod_lt (C p) (show 0 < per Y p by omega)
    refine mj_bra rfl rfl (fun g => ?_) (fun g => ?_)
    · rw [nI_leI (by omega) (by omega)] at g
      refine mj_run 1 rfl trivial ?_
      exact hx _ (by rw [if_neg (by omega)])
    · rw [nI_leI (by omega) (by omega)] at g
      refine mj_run 2 rfl trivial ?_
      exact hx _ (by rw [if_pos (by omega)])
end MM
