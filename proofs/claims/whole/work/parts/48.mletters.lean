/-! letters: the bytes of a number -/
def by8 (w : Int64) (k : Nat) : Nat := (w.toBitVec.toNat >>> (8 * k)) % 256
theorem l_self (w : Int64) : w = lN w.toBitVec.toNat := by
  apply Int64.toBitVec_inj.1
  show w.toBitVec = BitVec.ofNat 64 w.toBitVec.toNat
  simp
theorem l_s : ∀ k, k < 8 → ((nI (8 * k)).toInt64.toUInt64 &&& Int64.toUInt64 63) = UInt64.ofNat (8 * k) := by decide
theorem l_sh {W k : Nat} (hW : W < 2 ^ 64) (hk : k < 8) : ((lN W).toUInt64 >>> ((nI (8 * k)).toInt64.toUInt64 &&& Int64.toUInt64 63)).toInt64 = lN (W >>> (8 * k)) := by
  rw [l_s k hk]
  apply Int64.toBitVec_inj.1
  show BitVec.ofNat 64 W >>> (UInt64.mod (UInt64.ofNat (8 * k)) 64).toBitVec = BitVec.ofNat 64 (W >>> (8 * k))
  have e : (UInt64.mod (UInt64.ofNat (8 * k)) 64).toBitVec.toNat = 8 * k := by
    have : ∀ k, k < 8 → (UInt64.mod (UInt64.ofNat (8 * k)) 64).toBitVec.toNat = 8 * k := by decide
    exact this k hk
  apply BitVec.eq_of_toNat_eq
  have h2 : W >>> (8 * k) < 2 ^ 64 := Nat.lt_of_le_of_lt (by rw [Nat.shiftRight_eq_div_pow]; exact Nat.div_le_self _ _) hW
  show (BitVec.ofNat 64 W >>> (UInt64.mod (UInt64.ofNat (8 * k)) 64).toBitVec.toNat).toNat = _
  rw [e, BitVec.toNat_ushiftRight, BitVec.toNat_ofNat, BitVec.toNat_ofNat, Nat.mod_eq_of_lt hW, Nat.mod_eq_of_lt h2]
theorem l_and (W : Nat) : (lN W &&& lN 255).toInt32 = nI (W % 256) := by
  apply Int32.toBitVec_inj.1
  show (BitVec.ofNat 64 W &&& BitVec.ofNat 64 255).signExtend 32 = BitVec.ofNat 32 (W % 256)
  rw [BitVec.signExtend_eq_setWidth_of_le _ (by decide)]
  apply BitVec.eq_of_toNat_eq
  rw [BitVec.toNat_setWidth, BitVec.toNat_and, BitVec.toNat_ofNat, BitVec.toNat_ofNat, BitVec.toNat_ofNat]
  rw [show 255 % 2 ^ 64 = 2 ^ 8 - 1 by decide, Nat.and_two_pow_sub_one_eq_mod]
  omega
theorem l_and2 (W : Nat) : (lN W).toInt32 &&& nI 255 = nI (W % 256) := by
  apply Int32.toBitVec_inj.1
  show (BitVec.ofNat 64 W).signExtend 32 &&& BitVec.ofNat 32 255 = BitVec.ofNat 32 (W % 256)
  rw [BitVec.signExtend_eq_setWidth_of_le _ (by decide)]
  apply BitVec.eq_of_toNat_eq
  rw [BitVec.toNat_and, BitVec.toNat_setWidth, BitVec.toNat_ofNat, BitVec.toNat_ofNat, BitVec.toNat_ofNat]
  rw [show 255 % 2 ^ 32 = 2 ^ 8 - 1 by decide, Nat.and_two_pow_sub_one_eq_mod]
  omega
def lcM (w : Int64) : Nat → Nat
  | 0 => 0
  | k + 1 => lcM w k + if 0 < by8 w k then 1 else 0
def lcG (w : Int64) : Nat → Bool
  | 0 => true
  | k + 1 => lcG w k && (decide (by8 w k ≤ 126) && (decide (by8 w k = 0) || decide (lcM w k = k)))
theorem lcM_le (w : Int64) : ∀ k, lcM w k ≤ k
  | 0 => Nat.le_refl 0
  | k + 1 => by
    have := lcM_le w k
    unfold lcM
    split <;> omega
theorem by8_lt (w : Int64) (k : Nat) : by8 w k < 256 := Nat.mod_lt _ (by decide)
theorem lcG_mono {w : Int64} : ∀ j k, lcG w (k + j) = true → lcG w k = true
  | 0, k, h => h
  | j + 1, k, h => by
    have h' : (lcG w (k + j) && _) = true := h
    rw [Bool.and_eq_true] at h'
    exact lcG_mono j k h'.1
theorem lcG_in {w : Int64} : ∀ k, lcG w k = true → ∀ i, i < lcM w k → 1 ≤ by8 w i ∧ by8 w i ≤ 126
  | 0, _, i, hi => by simp [lcM] at hi
  | k + 1, h, i, hi => by
    have hle := lcM_le w k
    unfold lcG at h
    rw [Bool.and_eq_true, Bool.and_eq_true, Bool.or_eq_true, decide_eq_true_iff, decide_eq_true_iff, decide_eq_true_iff] at h
    obtain ⟨h1, h2, h3⟩ := h
    have hi' : i < lcM w k + if 0 < by8 w k then 1 else 0 := hi
    by_cases e : i < lcM w k
    · exact lcG_in k h1 i e
    · split at hi'
      · have : i = k := by omega
        subst this
        exact ⟨by omega, h2⟩
      · omega
def ltA (w : Int64) (pn : Nat) : Int32 := if lcG w 8 = true then (if pn + lcM w 8 ≤ 50 then nI (pn + lcM w 8) else Int32.ofInt (-104)) else Int32.ofInt (-102)
def ltN (w : Int64) (pn : Nat) : Nat := if lcG w 8 = true ∧ pn + lcM w 8 ≤ 50 then pn + lcM w 8 else pn
def ltP (w : Int64) (pn : Nat) (pg : Nat → Nat) : Nat → Nat := fun i => if i < pn then pg i else by8 w (i - pn)
section MM
variable {d L : Nat} {dy : mjM} {I : mjI} {y y1 n1 w1 c y2 : Option Nat} {R : mjR} {J : mjJ} {pn : Nat} {pg : Nat → Nat} {n : Nat} {Y : Yd} {T : Nat → Nat} {t : Nat} {tr : Nat → Nat} {kp : Kp} {wn : Nat} {wt : Nat → Nat} {yr dn : Nat}
theorem MO_letters (h : MI I pn pg n Y T t tr kp wn wt yr dn) (w : Int64) : ∃ I', mj_call mj_P (d + 1) kn_M_letters [.ref 45, .long w] (HP L dy I y y1 n1 w1 c y2 R J) (some (.int (ltA w pn))) (HP L dy I' y y1 n1 w1 c y2 R J) ∧ MI I' (ltN w pn) (ltP w pn pg) n Y T t tr kp wn wt yr dn ∧ Fr [1] [46] I I' := by
  have h0 := h
  obtain ⟨h1, h2, h3, h4, h5, h6, h7⟩ := h
  obtain ⟨p1, p2, p3⟩ := h1
  have hW : w.toBitVec.toNat < 2 ^ 64 := w.toBitVec.isLt
  have hM8 := lcM_le w 8
  have start : ∀ (v : Option Value) (h' : mjH), (mj_Rd (mj_call mj_P d) kc_M_letters 1 (83, [some (.ref 45), some (.long w), none, some (.int (nI (lcM w 8))), some (.int (nI (if lcG w 8 then 1 else 0))), some (.long (lN (w.toBitVec.toNat >>> (8 * 8)))), none, some (.int (nI 8)), some (.int (nI (by8 w 7)))], [], HP L dy I y y1 n1 w1 c y2 R J) v h') → mj_call mj_P (d + 1) kn_M_letters [.ref 45, .long w] (HP L dy I y y1 n1 w1 c y2 R J) v h' := by
    intro v h' hx
    refine mj_ci rfl (Nat.le_of_ble_eq_true rfl) ?_
    refine mj_run 8 rfl trivial ?_
    have key := dn_ind 8 (fun k => ∀ l8 : Option Value, (k = 8 → l8 = some (.int (nI (by8 w 7)))) → mj_Rd (mj_call mj_P d) kc_M_letters 1 (11, [some (.ref 45), some (.long w), none, some (.int (nI (lcM w k))), some (.int (nI (if lcG w k then 1 else 0))), some (.long (lN (w.toBitVec.toNat >>> (8 * k)))), none, some (.int (nI k)), l8], [], HP L dy I y y1 n1 w1 c y2 R J) v h') ?_ ?_ 0 (by omega) none (fun q => by omega)
    · rw [show w.toBitVec.toNat >>> (8 * 0) = w.toBitVec.toNat from rfl, ← l_self w] at key
      exact key
    · intro l8 hl
      rw [hl rfl]
      refine mj_run 2 rfl trivial ?_
      refine mj_brt rfl rfl (by decide) ?_
      exact hx
    · intro k hk ih l8 _
      have hle := lcM_le w k
      have hb := by8_lt w k
      have hWk : w.toBitVec.toNat >>> (8 * k) < 2 ^ 64 := Nat.lt_of_le_of_lt (by rw [Nat.shiftRight_eq_div_pow]; exact Nat.div_le_self _ _) hW
      have esh : ((lN (w.toBitVec.toNat >>> (8 * k))).toUInt64 >>> ((nI 8).toInt64.toUInt64 &&& Int64.toUInt64 63)).toInt64 = lN (w.toBitVec.toNat >>> (8 * (k + 1))) := by
        have := l_sh (k := 1) hWk (by decide)
        rw [show 8 * 1 = 8 from rfl] at this
        rw [this, ← Nat.shiftRight_add, Nat.mul_add]
      refine mj_run 2 rfl trivial ?_
      refine mj_brf rfl rfl (by rw [nI_leI (by decide) (by omega)]; omega) ?_
      refine mj_run 10 rfl trivial ?_
      rw [l_and, esh]
      rw [show w.toBitVec.toNat >>> (8 * k) % 256 = by8 w k from rfl]
      -- the second half
      have half : ∀ z : Int32, z = nI (if lcG w (k + 1) then 1 else 0) → mj_Rd (mj_call mj_P d) kc_M_letters 1 (62, [some (.ref 45), some (.long w), none, some (.int (nI (lcM w k))), some (.int (nI (if lcG w k then 1 else 0))), some (.long (lN (w.toBitVec.toNat >>> (8 * (k + 1))))), none, some (.int (nI k)), some (.int (nI (by8 w k)))], [.int z], HP L dy I y y1 n1 w1 c y2 R J) v h' := by
        intro z hz
        subst hz
        refine mj_run 3 rfl trivial ?_
        have ihk := ih (some (.int (nI (by8 w k)))) (fun q => by rw [show k = 7 by omega])
        refine mj_bra rfl rfl (fun g => ?_) (fun g => ?_)
        · rw [show (0 : Int32) = nI 0 from rfl, nI_leI (by omega) (by decide)] at g
          rw [show lcM w (k + 1) = lcM w k + 0 by simp [lcM]; omega] at ihk
          refine mj_run 1 rfl trivial ?_
          refine mj_run 4 rfl trivial ?_
          rw [nI_add, nI_add]
          exact ihk
        · rw [show (0 : Int32) = nI 0 from rfl, nI_leI (by omega) (by decide)] at g
          rw [show lcM w (k + 1) = lcM w k + 1 by simp [lcM]; omega] at ihk
          refine mj_run 2 rfl trivial ?_
          refine mj_run 4 rfl trivial ?_
          rw [nI_add, nI_add]
          exact ihk
      have hG : lcG w (k + 1) = (lcG w k && (decide (by8 w k ≤ 126) && (decide (by8 w k = 0) || decide (lcM w k = k)))) := rfl
      cases hg : lcG w k with
      | false =>
        rw [hg] at half
        refine mj_brt rfl rfl (by decide) ?_
        refine mj_run 1 rfl trivial ?_
        exact half _ (by rw [hG, hg]; rfl)
      | true =>
        rw [hg] at half
        refine mj_brf rfl rfl (by decide) ?_
        refine mj_run 2 rfl trivial ?_
        refine mj_bra rfl rfl (fun g => ?_) (fun g => ?_)
        · rw [nI_ltI (by decide) (by omega)] at g
          refine mj_run 1 rfl trivial ?_
          exact half _ (by rw [hG, hg, decide_eq_false (show ¬ by8 w k ≤ 126 by omega)]; rfl)
        · rw [nI_ltI (by decide) (by omega)] at g
          have g126 : by8 w k ≤ 126 := by omega
          refine mj_run 1 rfl trivial ?_
          refine mj_bra rfl rfl (fun g0 => ?_) (fun g0 => ?_)
          · rw [nI_z (by omega)] at g0
            refine mj_run 2 rfl trivial ?_
            exact half _ (by rw [hG, hg, decide_eq_true g126, decide_eq_true g0]; rfl)
          · rw [nI_z (by omega)] at g0
            refine mj_run 2 rfl trivial ?_
            refine mj_bra rfl rfl (fun g2 => ?_) (fun g2 => ?_)
            · rw [nI_e (by omega) (by omega)] at g2
              refine mj_run 1 rfl trivial ?_
              exact half _ (by rw [hG, hg, decide_eq_true g126, decide_eq_false g0, decide_eq_false g2]; rfl)
            · rw [nI_e (by omega) (by omega)] at g2
              refine mj_run 2 rfl trivial ?_
              exact half _ (by rw [hG, hg, decide_eq_true g126, decide_eq_false g0, decide_eq_true (Classical.not_not.mp g2)]; rfl)
  unfold ltA ltN
  cases hg : lcG w 8 with
  | false =>
    rw [hg] at start
    rw [if_neg (by decide), if_neg (by simp)]
    refine ⟨I, start _ _ ?_, ⟨⟨p1, p2, fun i hi => ?_⟩, h2, h3, h4, h5, h6, h7⟩, (Fr.rf I).w (by simp) (by simp)⟩
    · refine mj_run 1 rfl trivial ?_
      refine mj_brf rfl rfl (by decide) ?_
      refine mj_run 1 rfl trivial ?_
      exact mj_end rfl rfl trivial
    · unfold ltP
      rw [if_pos hi]
      exact p3 i hi
  | true =>
    have hin := lcG_in 8 hg
    rw [hg] at start
    rw [if_pos rfl]
    by_cases hle : pn + lcM w 8 ≤ 50
    · rw [if_pos hle, if_pos ⟨rfl, hle⟩]
      have lp := dn_ind (lcM w 8) (fun k => ∀ (X : mjI) (l8 : Option Value), Fr [1] [46] I X → X 45 1 = nI (pn + k) → (∀ i, i < pn + k → X 46 i = nI (ltP w pn pg i)) → ∃ I', (Fr [1] [46] I I' ∧ I' 45 1 = nI (pn + lcM w 8) ∧ (∀ i, i < pn + lcM w 8 → I' 46 i = nI (ltP w pn pg i))) ∧ mj_Rd (mj_call mj_P d) kc_M_letters 1 (108, [some (.ref 45), some (.long w), none, some (.int (nI (lcM w 8))), some (.int (nI (if true = true then 1 else 0))), some (.long (lN (w.toBitVec.toNat >>> (8 * 8)))), none, some (.int (nI k)), l8], [], HP L dy X y y1 n1 w1 c y2 R J) (some (.int (nI (pn + lcM w 8)))) (HP L dy I' y y1 n1 w1 c y2 R J)) ?_ ?_ 0 (by omega)
      · obtain ⟨I', ⟨hf, e1, e46⟩, hx⟩ := lp I (some (.int (nI (by8 w 7)))) ((Fr.rf I).w (by simp) (by simp)) p1 (fun i hi => by unfold ltP; rw [if_pos (show i < pn from hi)]; exact (p3 i hi).1)
        refine ⟨I', ?_, ⟨⟨e1, hle, fun i hi => ⟨e46 i hi, ?_⟩⟩, h2.fr hf (by decide), h3.fr hf (by decide), h4.fr hf (by decide), h5.fr hf (by decide), h6.fr hf (by decide), h7.fr hf (by decide)⟩, hf⟩
        · refine start _ _ ?_
          refine mj_run 1 rfl trivial ?_
          refine mj_brt rfl rfl (by decide) ?_
          refine mj_run 5 rfl trivial ?_
          rw [p1, nI_add]
          refine mj_brt rfl rfl (by rw [nI_leI (by omega) (by decide)]; exact hle) ?_
          refine mj_run 2 rfl trivial ?_
          exact hx
        · unfold ltP
          split
          · exact (p3 i ‹_›).2
          · exact hin _ (by omega)
      · intro X l8 hf e1 e46
        refine ⟨X, ⟨hf, e1, e46⟩, ?_⟩
        refine mj_run 2 rfl trivial ?_
        refine mj_brt rfl rfl (by rw [nI_leI (by omega) (by omega)]; omega) ?_
        refine mj_run 2 rfl trivial ?_
        rw [e1]
        exact mj_end rfl rfl trivial
      · intro k hk ih X l8 hf e1 e46
        have esh : ((w).toUInt64 >>> ((nI 8 * nI k).toInt64.toUInt64 &&& Int64.toUInt64 63)).toInt64 = lN (w.toBitVec.toNat >>> (8 * k)) := by
          rw [pk_mul]
          have := l_sh (W := w.toBitVec.toNat) (k := k) hW (by omega)
          rw [← l_self w] at this
          exact this
        obtain ⟨I', hA, hx⟩ := ih (mj_ui (mj_ui X 46 (pn + k) (nI (by8 w k))) 45 1 (nI (pn + k + 1))) l8 ((hf.tr ((Fr.a X (a := 46) (by decide) _ _).tr (Fr.u _ 1 _))).w (by decide) (by decide)) (by simp [mj_ui, upd, Nat.add_assoc]) (fun i hi => by
          by_cases e : i = pn + k
          · subst e
            unfold ltP
            rw [if_neg (by omega), Nat.add_sub_cancel_left]
            simp [mj_ui, upd]
          · have := e46 i (by omega)
            simp [mj_ui, upd, e, this])
        refine ⟨I', hA, ?_⟩
        refine mj_run 2 rfl trivial ?_
        refine mj_brf rfl rfl (by rw [nI_leI (by omega) (by omega)]; omega) ?_
        refine mj_run 21 rfl ⟨by rw [e1]; exact nI_vi (by omega) (by decide), by decide⟩ ?_
        rw [esh, l_and, e1, nI_nc (by omega)]
        have e1' : mj_ui X 46 (pn + k) (nI (w.toBitVec.toNat >>> (8 * k) % 256)) 45 1 = nI (pn + k) := by
          simp [mj_ui, e1]
        rw [e1', nI_add, nI_add]
        exact hx
    · rw [if_neg hle, if_neg (fun q => hle q.2)]
      refine ⟨I, start _ _ ?_, ⟨⟨p1, p2, fun i hi => ?_⟩, h2, h3, h4, h5, h6, h7⟩, (Fr.rf I).w (by simp) (by simp)⟩
      · refine mj_run 1 rfl trivial ?_
        refine mj_brt rfl rfl (by decide) ?_
        refine mj_run 5 rfl trivial ?_
        rw [p1, nI_add]
        refine mj_brf rfl rfl (by rw [nI_leI (by omega) (by decide)]; exact hle) ?_
        refine mj_run 1 rfl trivial ?_
        exact mj_end rfl rfl trivial
      · unfold ltP
        rw [if_pos hi]
        exact p3 i hi
end MM
