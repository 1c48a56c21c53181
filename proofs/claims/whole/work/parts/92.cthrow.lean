/-! the table of costs in the heap -/
def TB (X : mjI) (Y : Yd) (ol : Nat) (od : Nat → Nat) (ca : Nat) (V : Nat → Nat → Nat) : Prop := X 23 4 = nI (Wt Y od ol) ∧ (∀ j, j < ol → X 25 (od j) = nI j ∧ X 26 (od j) = nI (Wt Y od j)) ∧ (∀ r x, r ≤ ol → x < Wt Y od ol → X ca (r * Wt Y od ol + x) = nI (V r x)) ∧ ∀ r x, V r x ≤ 100
def vup (V : Nat → Nat → Nat) (r x c : Nat) : Nat → Nat → Nat := fun r' x' => if r' = r ∧ x' = x then min (V r x) c else V r' x'
def GO (Y : Yd) (n ol : Nat) (od : Nat → Nat) (g j s x c : Nat) (V V' : Nat → Nat → Nat) : Prop := (∀ r y, V' r y = V r y ∨ (dst Y n ol od g j s r ∧ y = x ∧ V' r y = c)) ∧ (∀ r, dst Y n ol od g j s r → V' r x ≤ c) ∧ ∀ r y, V' r y ≤ V r y
theorem idx_inj {Cn r r' x x' : Nat} (hx : x < Cn) (hx' : x' < Cn) : r' * Cn + x' = r * Cn + x ↔ (r' = r ∧ x' = x) := by
  constructor
  · intro h
    have h1 : (r' * Cn + x') / Cn = r' := by rw [Nat.add_comm, Nat.add_mul_div_right _ _ (by omega), Nat.div_eq_of_lt hx', Nat.zero_add]
    have h2 : (r * Cn + x) / Cn = r := by rw [Nat.add_comm, Nat.add_mul_div_right _ _ (by omega), Nat.div_eq_of_lt hx, Nat.zero_add]
    have : r' = r := by rw [← h1, ← h2, h]
    subst this
    exact ⟨rfl, by omega⟩
  · rintro ⟨rfl, rfl⟩
    rfl
theorem idx_lt {Cn r x ol : Nat} (hr : r ≤ ol) (hx : x < Cn) : r * Cn + x < (ol + 1) * Cn := by
  have : (r + 1) * Cn ≤ (ol + 1) * Cn := Nat.mul_le_mul_right _ (by omega)
  rw [Nat.add_mul, Nat.one_mul] at this
  omega
theorem b8 : ∀ c, c ≤ 100 → (nI c).toInt8.toInt32 = nI c := by decide
theorem CY.frt {m : mjM} {I I' : mjI} {R : mjR} {ya : Nat} {A B C : Nat → Nat} {n ol : Nat} {od : Nat → Nat} {Y : Yd} (h : CY m I R ya A B C n ol od Y) (f : ∀ a x, mj_mt a m = some x → x.1 ≠ 1 → 65 ≤ a → I' a = I a) : CY m I' R ya A B C n ol od Y := by
  obtain ⟨h1, h2, h3, h4, h5, i1, i2, i3, i4, i5, i6⟩ := h
  obtain ⟨⟨a1, a2, a3, a4, a5, a6, a7, a8⟩, -⟩ := id h4
  obtain ⟨m0, m1, m2, m3, m4, m5, m6⟩ := id h3
  refine ⟨h1, h2, h3, h4, h5, ?_, ?_, ?_, ?_, ?_, ?_⟩
  · rw [f ya _ m0 (by decide) a1]; exact i1
  · rw [f ya _ m0 (by decide) a1]; exact i2
  · intro p hp; rw [f (C p) _ (h5 p hp).2.2.2 (by simp) (a8 p hp).2]; exact i3 p hp
  · rw [f (A 3) _ m2 (by simp) a3]; exact i4
  · rw [f (A 4) _ m3 (by decide) a4, f (A 5) _ m4 (by decide) a5]; exact i5
  · rw [f (A 6) _ m5 (by decide) a6]; exact i6
section CC
variable {d L : Nat} {dy : mjM} {y y1 n1 w1 : Option Nat} {R : mjR} {J : mjJ} {n : Nat} {Y : Yd} {ya ol ca cl : Nat} {A B C od : Nat → Nat} {X : mjI} {V : Nat → Nat → Nat}
theorem H_offer (hcm : mj_mt ca (FM L dy) = some (1, cl)) (hcl : (ol + 1) * Wt Y od ol ≤ cl ∧ cl ≤ 1000000) (hca : 0 < ca ∧ ca ≠ 23 ∧ ca ≠ 25 ∧ ca ≠ 26) (hT : TB X Y ol od ca V) {r x c : Nat} (hr : r ≤ ol) (hx : x < Wt Y od ol) (hc : c ≤ 100) : ∃ X', mj_call mj_P (d + 1) kn_Th_offer [.ref 23, .int (nI r), .int (nI x), .int (nI c)] (HP L dy X y y1 n1 w1 (some ca) (some ya) R J) none (HP L dy X' y y1 n1 w1 (some ca) (some ya) R J) ∧ Cf [ca] X X' ∧ TB X' Y ol od ca (vup V r x c) := by
  obtain ⟨t1, t2, t3, t4⟩ := hT
  have hil := idx_lt hr hx
  have hv := t4 r x
  have vi : vp_in (nI (r * Wt Y od ol + x)) cl := nI_vi (by omega) (by omega)
  have hcl2 : (nI (r * Wt Y od ol + x)).toNatClampNeg = r * Wt Y od ol + x := nI_nc (by omega)
  have start : ∀ (v : Option Value) (h' : mjH), mj_Rd (mj_call mj_P d) kc_Th_offer 0 (33, [some (.ref 23), some (.int (nI r)), some (.int (nI x)), some (.int (nI c)), some (.int (nI (r * Wt Y od ol + x)))], [.int (nI (V r x)), .int (nI c)], HP L dy X y y1 n1 w1 (some ca) (some ya) R J) v h' → mj_call mj_P (d + 1) kn_Th_offer [.ref 23, .int (nI r), .int (nI x), .int (nI c)] (HP L dy X y y1 n1 w1 (some ca) (some ya) R J) v h' := by
    intro v h' hx2
    refine mj_ci rfl (Nat.le_of_ble_eq_true rfl) ?_
    refine mj_run 8 rfl trivial ?_
    rw [t1, pk_mul, nI_add]
    refine mj_brf rfl rfl (i_nn (by omega)) ?_
    refine mj_run 3 rfl trivial ?_
    refine sx_ln rfl hcm rfl ?_
    refine mj_brf rfl rfl (by rw [nI_leI (by omega) (by omega)]; omega) ?_
    refine mj_run 4 rfl trivial ?_
    refine sx_bld rfl hcm vi ?_
    rw [hcl2, t3 r x hr hx]
    exact hx2
  by_cases g : c < V r x
  · refine ⟨mj_ui X ca (r * Wt Y od ol + x) (nI c), start _ _ ?_, Cf.u X ca _ _, by simp [mj_ui, Ne.symm hca.2.1, t1], fun j hj => ?_, fun r' x' hr' hx' => ?_, fun r' x' => ?_⟩
    · refine mj_brf rfl rfl (by rw [nI_leI (by omega) (by omega)]; omega) ?_
      refine mj_run 5 rfl trivial ?_
      refine sx_bst rfl hcm vi hca.1 ?_
      rw [hcl2, b8 c hc, b8 c hc]
      exact mj_end rfl rfl trivial
    · simp [mj_ui, Ne.symm hca.2.2.1, Ne.symm hca.2.2.2, t2 j hj]
    · unfold vup
      by_cases e : r' = r ∧ x' = x
      · obtain ⟨rfl, rfl⟩ := e
        rw [if_pos ⟨rfl, rfl⟩, show min (V r' x') c = c by omega]
        simp [mj_ui, upd]
      · rw [if_neg e]
        have : ¬ (r' * Wt Y od ol + x' = r * Wt Y od ol + x) := fun q => e ((idx_inj hx hx').mp q)
        simp [mj_ui, upd, this, t3 r' x' hr' hx']
    · unfold vup
      split
      · omega
      · exact t4 r' x'
  · refine ⟨X, start _ _ ?_, (Cf.rf X).w (by simp), t1, t2, fun r' x' hr' hx' => ?_, fun r' x' => ?_⟩
    · refine mj_brt rfl rfl (by rw [nI_leI (by omega) (by omega)]; omega) ?_
      exact mj_end rfl rfl trivial
    · unfold vup
      split
      · rename_i e
        obtain ⟨rfl, rfl⟩ := e
        rw [show min (V r' x') c = V r' x' by omega]
        exact t3 r' x' hr' hx'
      · exact t3 r' x' hr' hx'
    · unfold vup
      split
      · omega
      · exact t4 r' x'
theorem Y_standAfter {m : mjM} {I : mjI} {R : mjR} (hY : CY m I R ya A B C n ol od Y) {p s : Nat} (hp : p < n) (hs : s < sm Y p) : mj_call mj_P (d + 1) kn_Yd_standAfter [.ref ya, .int (nI p), .int (nI s)] (m, I, R, J) (some (.int (nI (tn Y p s)))) (m, I, R, J) := by
  obtain ⟨⟨hK, hn1, -⟩, ⟨r0, r3, r4, r5, r6, r7⟩, ⟨m0, m1, m2, m3, m4, m5, m6⟩, -, -, i1, i2, i3, i4, i5, i6⟩ := hY
  have hn := hK.1
  have h6 := (sm_in hK hp).2
  refine mj_ci rfl (Nat.le_of_ble_eq_true rfl) ?_
  refine mj_run 7 rfl trivial ?_
  rw [pk_mul, nI_add]
  refine mj_brf rfl rfl (i_nn (by omega)) ?_
  refine mj_run 2 rfl trivial ?_
  refine sx_gr rfl m0 rfl r5 ?_
  refine sx_ln rfl m4 rfl ?_
  refine mj_brf rfl rfl (by rw [nI_leI (by decide) (by omega)]; omega) ?_
  refine mj_run 1 rfl trivial ?_
  refine sx_gr rfl m0 rfl r5 ?_
  refine mj_run 1 rfl trivial ?_
  refine sx_ld rfl m4 (nI_vi (by omega) (by decide)) ?_
  rw [nI_nc (by omega), (i5 p hp s hs).2]
  refine mj_run 1 rfl trivial ?_
  exact mj_end rfl rfl trivial
theorem GO_up {g j s x c r : Nat} (hd : dst Y n ol od g j s r) (hu : ∀ r', dst Y n ol od g j s r' → r' = r) : GO Y n ol od g j s x c V (vup V r x c) := by
  refine ⟨fun r' y => ?_, fun r' h => ?_, fun r' y => ?_⟩
  · unfold vup
    by_cases e : r' = r ∧ y = x
    · obtain ⟨rfl, rfl⟩ := e
      rw [if_pos ⟨rfl, rfl⟩]
      by_cases q : V r' y ≤ c
      · left; omega
      · right; exact ⟨hd, rfl, by omega⟩
    · left; rw [if_neg e]
  · have := hu r' h
    subst this
    unfold vup
    rw [if_pos ⟨rfl, rfl⟩]
    omega
  · unfold vup
    split
    · rename_i e; obtain ⟨rfl, rfl⟩ := e; omega
    · exact Nat.le_refl _
theorem H_goOn (hY : CY (FM L dy) X (FR y y1 n1 w1 (some ca) (some ya) R) ya A B C n ol od Y) (hcm : mj_mt ca (FM L dy) = some (1, cl)) (hcl : (ol + 1) * Wt Y od ol ≤ cl ∧ cl ≤ 1000000) (hca : 0 < ca ∧ ca ≠ 23 ∧ ca ≠ 25 ∧ ca ≠ 26) (hT : TB X Y ol od ca V) {j s oth c g : Nat} (hj : j < ol) (hs : s < sm Y (od j)) (hx : oth + tn Y (od j) s * Wt Y od j < Wt Y od ol) (hc : c ≤ 100) (hg : g < 10) : ∃ X' V', mj_call mj_P (d + 2) kn_Th_goOn [.ref 23, .int (nI (od j)), .int (nI s), .int (nI oth), .int (nI c), .int (nI g)] (HP L dy X y y1 n1 w1 (some ca) (some ya) R J) none (HP L dy X' y y1 n1 w1 (some ca) (some ya) R J) ∧ Cf [ca] X X' ∧ TB X' Y ol od ca V' ∧ GO Y n ol od g j s (oth + tn Y (od j) s * Wt Y od j) c V V' := by
  obtain ⟨⟨hK, hn1, hO⟩, ⟨r0, r3, r4, r5, r6, r7⟩, ⟨m0, m1, m2, m3, m4, m5, m6⟩, -⟩ := id hY
  obtain ⟨o1, o2, o3, o4, o5⟩ := id hO
  have hn := hK.1
  have hi := rc_lt hK hn1 (o2 j hj)
  obtain ⟨t1, t2, t3, t4⟩ := id hT
  have hpl := pl_in hK hi hs
  have h6 := (sm_in hK hi).2
  have htn := tn_in hK hi hs
  have start : ∀ (v : Option Value) (h' : mjH), mj_Rd (mj_call mj_P (d + 1)) kc_Th_goOn 0 (31, [some (.ref 23), some (.int (nI (od j))), some (.int (nI s)), some (.int (nI oth)), some (.int (nI c)), some (.int (nI g)), some (.int (nI (pl Y (od j) s))), some (.int (nI (oth + tn Y (od j) s * Wt Y od j)))], [], HP L dy X y y1 n1 w1 (some ca) (some ya) R J) v h' → mj_call mj_P (d + 2) kn_Th_goOn [.ref 23, .int (nI (od j)), .int (nI s), .int (nI oth), .int (nI c), .int (nI g)] (HP L dy X y y1 n1 w1 (some ca) (some ya) R J) v h' := by
    intro v h' hx2
    refine mj_ci rfl (Nat.le_of_ble_eq_true rfl) ?_
    refine mj_run 4 rfl trivial ?_
    refine sx_v2 rfl m0 rfl rfl (Y_placeFrom hY hi hs) ?_
    refine mj_run 6 rfl trivial ?_
    refine sx_v2 rfl m0 rfl rfl (Y_standAfter hY hi hs) ?_
    refine mj_run 4 rfl (nI_vi (by omega) (by decide)) ?_
    rw [nI_nc (by omega), (t2 j hj).2]
    refine mj_run 3 rfl trivial ?_
    rw [pk_mul, nI_add]
    exact hx2
  by_cases e : pl Y (od j) s = g
  · obtain ⟨X', hcall, hf, hT'⟩ := H_offer (d := d) (L := L) (dy := dy) (y := y) (y1 := y1) (n1 := n1) (w1 := w1) (ya := ya) (R := R) (J := J) hcm hcl hca hT (r := ol) (Nat.le_refl ol) hx hc
    refine ⟨X', _, start _ _ ?_, hf, hT', GO_up (Or.inl ⟨e, rfl⟩) (fun r' h' => ?_)⟩
    · refine mj_run 2 rfl trivial ?_
      refine mj_brf rfl rfl (fun q => q (by rw [e])) ?_
      refine mj_run 3 rfl trivial ?_
      refine sx_gr rfl m0 rfl r3 ?_
      refine sx_ln rfl m2 rfl ?_
      refine mj_run 2 rfl trivial ?_
      refine mj_cal rfl rfl hcall ?_
      refine mj_run 1 rfl trivial ?_
      exact mj_end rfl rfl trivial
    · rcases h' with ⟨-, q⟩ | ⟨-, q, -⟩
      · exact q
      · omega
  · have no : (∀ r, ¬ dst Y n ol od g j s r) → GO Y n ol od g j s (oth + tn Y (od j) s * Wt Y od j) c V V := fun q => ⟨fun r y => Or.inl rfl, fun r h => absurd h (q r), fun r y => Nat.le_refl _⟩
    have end99 : mj_Rd (mj_call mj_P (d + 1)) kc_Th_goOn 0 (99, [some (.ref 23), some (.int (nI (od j))), some (.int (nI s)), some (.int (nI oth)), some (.int (nI c)), some (.int (nI g)), some (.int (nI (pl Y (od j) s))), some (.int (nI (oth + tn Y (od j) s * Wt Y od j)))], [], HP L dy X y y1 n1 w1 (some ca) (some ya) R J) none (HP L dy X y y1 n1 w1 (some ca) (some ya) R J) := mj_end rfl rfl trivial
    by_cases hl : pl Y (od j) s < 10
    · refine ⟨X, V, start _ _ ?_, (Cf.rf X).w (by simp), hT, no (fun r q => ?_)⟩
      · refine mj_run 2 rfl trivial ?_
        refine mj_brt rfl rfl (by rw [nI_e (by omega) (by omega)]; exact e) ?_
        refine mj_run 2 rfl trivial ?_
        exact mj_brt rfl rfl (by rw [nI_ltI (by omega) (by decide)]; exact hl) end99
      · rcases q with ⟨q, -⟩ | ⟨-, q, -⟩
        · exact e q
        · omega
    · obtain ⟨q, hq⟩ : ∃ q, pl Y (od j) s = 10 + q := ⟨pl Y (od j) s - 10, by omega⟩
      have heg := pl_eg hK hi hs hq
      have hqn := eg_lt hK heg
      obtain ⟨kk, hkk⟩ := o2 j hj
      obtain ⟨r2, hr2, hq2⟩ := o3 q ⟨kk + 1, pth_snoc kk 0 (od j) q hkk heg⟩
      obtain ⟨ld1, ld0⟩ := Y_lead (d := d) (J := J) hY hqn hg
      rw [hq] at start end99
      have lead : ∀ (z : Int32) (v : Option Value) (h' : mjH), mj_call mj_P (d + 1) kn_Yd_canLead [.ref ya, .int (nI q), .int (nI g)] (HP L dy X y y1 n1 w1 (some ca) (some ya) R J) (some (.int z)) (HP L dy X y y1 n1 w1 (some ca) (some ya) R J) → mj_Rd (mj_call mj_P (d + 1)) kc_Th_goOn 0 (78, [some (.ref 23), some (.int (nI (od j))), some (.int (nI s)), some (.int (nI oth)), some (.int (nI c)), some (.int (nI g)), some (.int (nI (10 + q))), some (.int (nI (oth + tn Y (od j) s * Wt Y od j)))], [.int z], HP L dy X y y1 n1 w1 (some ca) (some ya) R J) v h' → mj_call mj_P (d + 2) kn_Th_goOn [.ref 23, .int (nI (od j)), .int (nI s), .int (nI oth), .int (nI c), .int (nI g)] (HP L dy X y y1 n1 w1 (some ca) (some ya) R J) v h' := by
        intro z v h' hcl2 hx2
        refine start v h' ?_
        refine mj_run 2 rfl trivial ?_
        refine mj_brt rfl rfl (by rw [nI_e (by omega) (by omega)]; omega) ?_
        refine mj_run 2 rfl trivial ?_
        refine mj_brf rfl rfl (by rw [nI_ltI (by omega) (by decide)]; omega) ?_
        refine mj_run 6 rfl trivial ?_
        rw [pk_sub (by omega), show 10 + q - 10 = q by omega]
        refine sx_v2 rfl m0 rfl rfl hcl2 ?_
        exact hx2
      rcases Classical.em (lds Y n q g) with hld | hld
      · have hd2 : dst Y n ol od g j s r2 := Or.inr ⟨hr2, by rw [hq, hq2], by rw [hq2]; exact hld⟩
        obtain ⟨X', hcall, hf, hT'⟩ := H_offer (d := d) (L := L) (dy := dy) (y := y) (y1 := y1) (n1 := n1) (w1 := w1) (ya := ya) (R := R) (J := J) hcm hcl hca hT (r := r2) (by omega) hx hc
        refine ⟨X', _, lead (nI 1) _ _ (ld1 hld) ?_, hf, hT', GO_up hd2 (fun r' h' => ?_)⟩
        · refine mj_brf rfl rfl (by decide) ?_
          have e25 := (t2 r2 hr2).1
          rw [hq2] at e25
          refine mj_run 7 rfl (by rw [pk_sub (by omega), show 10 + q - 10 = q by omega]; exact nI_vi (by omega) (by decide)) ?_
          rw [pk_sub (by omega), show 10 + q - 10 = q by omega, nI_nc (by omega), e25]
          refine mj_run 2 rfl trivial ?_
          refine mj_cal rfl rfl hcall ?_
          exact mj_end rfl rfl trivial
        · rcases h' with ⟨w, -⟩ | ⟨w1', w2, -⟩
          · omega
          · refine o4 r' r2 w1' hr2 ?_
            omega
      · refine ⟨X, V, lead (nI 0) _ _ (ld0 hld) ?_, (Cf.rf X).w (by simp), hT, no (fun r w => ?_)⟩
        · exact mj_brt rfl rfl (by decide) end99
        · rcases w with ⟨w, -⟩ | ⟨w1', w2, w3⟩
          · omega
          · have : od r = q := by omega
            rw [this] at w3
            exact hld w3
end CC
