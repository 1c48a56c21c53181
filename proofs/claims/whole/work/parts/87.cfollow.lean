section CC
variable {d L : Nat} {dy : mjM} {c y2 : Option Nat} {R : mjR} {J : mjJ} {n : Nat} {Y : Yd} {T wt : Nat → Nat} {wn : Nat} {ya ol : Nat} {A B C od : Nat → Nat} {Z : Nat → Int32}
theorem CY.bf {m : mjM} {R : mjR} {X X' : mjI} {cc : Nat} (h : CY m X R ya A B C n ol od Y) (f : BFr cc X X') : CY m X' R ya A B C n ol od Y := h.fr (fun a h65 _ => f a (by omega) (by omega) (by omega) (by omega))
theorem B_choose (hn6 : n ≤ 6) {r : Nat} (IH : FOL d L dy c y2 R J n Y T wt wn ya ol A B C od Z r) {D : Nat} {ch S : Nat → Nat} {k i mvs : Nat} {X : mjI} {F : Nat} {b : Nat → Nat} (hct : ct D n + (r + 1) = n) (hD : D < 2 ^ n) (hch : ∀ p, p < n → ¬ D.testBit p = true → ch p = T p) (hS : ∀ p, p < n → D.testBit p = true → X (14 + ct D n) p = nI (S p) ∧ S p < sm Y p) (hk : k < wn) (hi : i < n) (hDi : ¬ D.testBit i = true) (hmv : mvs ≤ 500) (hw8 : wn ≤ 8) (hTK : TOK n Y T) (hB : BG X Y n T wt wn F ch b Z) (hY : CY (FM L dy) X (FR (some ya) (some ya) (some 5) (some 42) c y2 R) ya A B C n ol od Y) : ∃ (X' : mjI) (F' : Nat) (b' : Nat → Nat), mj_call mj_P (d + 2 * r + 6) kn_Be_choose [.ref 12, .int (nI (ct D n)), .int (nI D), .int (nI (un T ch n)), .int (nI k), .int (nI (10 + i)), .int (nI mvs)] (HP L dy X (some ya) (some ya) (some 5) (some 42) c y2 R J) none (HP L dy X' (some ya) (some ya) (some 5) (some 42) c y2 R J) ∧ BFr (ct D n) X X' ∧ BG X' Y n T wt wn F' ch b' Z ∧ BP T n (EB Y n wt wn D ch S k (10 + i) mvs) F b F' b' := by
  obtain ⟨⟨hK, hn1, -⟩, ⟨r0, r3, r4, r5, r6, r7⟩, ⟨m0, m1, m2, m3, m4, m5, m6⟩, -, hp5, -⟩ := id hY
  obtain ⟨b1, b2⟩ := hp5 i hi
  obtain ⟨⟨q, hq⟩, hr, hc⟩ := id b2
  have kd4 := (hK.2 i hi).1
  have hs6 := sm_in hK hi
  have h10 := two10 hK.1
  have hci : ch i = T i := hch i hi hDi
  have hunle := un_le T ch n
  have hcc : ct D n ≤ 5 := by omega
  have vi : vp_in (nI i) 10 := nI_vi (by omega) (by decide)
  have hcl : (nI i).toNatClampNeg = i := nI_nc (by omega)
  generalize hδ : un T ch n = δ at hunle
  generalize hccd : ct D n = cc at hct hS hcc
  have key : ∀ (f s : Nat) (V : mjI) (G : Nat) (g : Nat → Nat) (x : Nat) (l10 : Option Value), s + f = sm Y i → x < sm Y i → BFr (cc + 1) X V → BG V Y n T wt wn G (fu ch i x) g Z → BP T n (fun U => ∃ s', s' < s ∧ EB Y n wt wn (D ||| 2 ^ i) (fu ch i s') (fu S i s') k (10 + i) mvs U) F b G g → ∃ (X' : mjI) (F' : Nat) (b' : Nat → Nat), (BFr cc X X' ∧ BG X' Y n T wt wn F' ch b' Z ∧ BP T n (EB Y n wt wn D ch S k (10 + i) mvs) F b F' b') ∧ mj_Rd (mj_call mj_P (d + 2 * r + 5)) kc_Be_choose 0 (37, [some (.ref 12), some (.int (nI cc)), some (.int (nI D)), some (.int (nI δ)), some (.int (nI k)), some (.int (nI (10 + i))), some (.int (nI mvs)), some (.int (nI i)), some (.int (nI (sm Y i))), some (.int (nI s)), l10], [], HP L dy V (some ya) (some ya) (some 5) (some 42) c y2 R J) none (HP L dy X' (some ya) (some ya) (some 5) (some 42) c y2 R J) := by
    intro f
    induction f with
    | zero =>
      intro s V G g x l10 hsf hx hV hG hP
      have : s = sm Y i := by omega
      subst this
      obtain ⟨g1, g2, g3, g4, g5, g6, g7⟩ := hG
      have hfr := Cf.u V 21 i (nI (T i))
      refine ⟨mj_ui V 21 i (nI (T i)), G, g, ⟨fun a q1 q2 q3 q4 => ?_, ⟨by simp [mj_ui, g1], by simp [mj_ui, g2], ⟨fun p hp => ?_, fun p hp => ?_, fun p p1 p2 => ?_⟩, g4, fun q => ?_, fun p hp => by simp [mj_ui]; exact g6 p hp, fun p hp => by simp [mj_ui]; exact g7 p hp⟩, BP_sub hP (fun U => (EB_choose hi hDi U).symm)⟩, ?_⟩
      · rw [hfr a (by simp [q2])]
        exact hV a q1 q2 q3 (by omega)
      · by_cases e : p = i
        · subst e; simp [mj_ui, upd, hci]
        · have := g3.1 p hp
          simp [mj_ui, upd, e, this, fu]
      · by_cases e : p = i
        · subst e; rw [hci]; exact hTK p hp
        · have := g3.2.1 p hp
          simp [fu, e] at this
          exact this
      · have e : p ≠ i := by omega
        have := g3.2.2 p p1 p2
        simp [mj_ui, upd, e, this]
      · obtain ⟨w1, w2, w3⟩ := g5 q
        exact ⟨fun p hp => by simp [mj_ui]; exact w1 p hp, w2, fun p p1 p2 => by simp [mj_ui]; exact w3 p p1 p2⟩
      · refine mj_run 2 rfl trivial ?_
        refine mj_brt rfl rfl (by rw [nI_leI (by omega) (by omega)]; omega) ?_
        refine mj_run 7 rfl vi ?_
        rw [hcl, g6 i hi]
        refine mj_run 1 rfl ⟨vi, by decide⟩ ?_
        rw [hcl]
        exact mj_end rfl rfl trivial
    | succ f ih =>
      intro s V G g x l10 hsf hx hV hG hP
      have hsm : s < sm Y i := by omega
      obtain ⟨g1, g2, g3, g4, g5, g6, g7⟩ := id hG
      have ti := hTK i hi
      have hmore : un T (fu ch i s) n = δ + if s = T i then 0 else 1 := by rw [← hδ]; exact un_fz hci n hi
      generalize hmo : un T (fu ch i s) n = more at hmore
      have hmle : more ≤ 7 := by split at hmore <;> omega
      have hchS : ∀ p, p < n → ¬ (D ||| 2 ^ i).testBit p = true → fu ch i s p = T p := by
        intro p hp hb
        have e : p ≠ i := fun e => hb ((D_or p).mpr (Or.inr e))
        have : ¬ D.testBit p = true := fun z => hb ((D_or p).mpr (Or.inl z))
        simp [fu, e, hch p hp this]
      have head : ∀ (v : Option Value) (h' : mjH), mj_Rd (mj_call mj_P (d + 2 * r + 5)) kc_Be_choose 0 (71, [some (.ref 12), some (.int (nI cc)), some (.int (nI D)), some (.int (nI δ)), some (.int (nI k)), some (.int (nI (10 + i))), some (.int (nI mvs)), some (.int (nI i)), some (.int (nI (sm Y i))), some (.int (nI s)), some (.int (nI more))], [.int (nI G), .int (nI more)], HP L dy V (some ya) (some ya) (some 5) (some 42) c y2 R J) v h' → mj_Rd (mj_call mj_P (d + 2 * r + 5)) kc_Be_choose 0 (37, [some (.ref 12), some (.int (nI cc)), some (.int (nI D)), some (.int (nI δ)), some (.int (nI k)), some (.int (nI (10 + i))), some (.int (nI mvs)), some (.int (nI i)), some (.int (nI (sm Y i))), some (.int (nI s)), l10], [], HP L dy V (some ya) (some ya) (some 5) (some 42) c y2 R J) v h' := by
        intro v h' hx
        refine mj_run 2 rfl trivial ?_
        refine mj_brf rfl rfl (by rw [nI_leI (by omega) (by omega)]; omega) ?_
        refine mj_run 5 rfl vi ?_
        rw [hcl, g6 i hi]
        refine mj_bra rfl rfl (fun e => ?_) (fun e => ?_)
        · rw [nI_e (by omega) (by omega)] at e
          rw [if_neg e] at hmore
          refine mj_run 7 rfl trivial ?_
          rw [nI_add, g1]
          rw [hmore] at hx
          exact hx
        · rw [nI_e (by omega) (by omega)] at e
          rw [if_pos (Classical.not_not.mp e), Nat.add_zero] at hmore
          refine mj_run 6 rfl trivial ?_
          rw [g1]
          rw [hmore] at hx
          exact hx
      have hstep : ∀ U, (∃ s', s' < s + 1 ∧ EB Y n wt wn (D ||| 2 ^ i) (fu ch i s') (fu S i s') k (10 + i) mvs U) ↔ ((∃ s', s' < s ∧ EB Y n wt wn (D ||| 2 ^ i) (fu ch i s') (fu S i s') k (10 + i) mvs U) ∨ EB Y n wt wn (D ||| 2 ^ i) (fu ch i s) (fu S i s) k (10 + i) mvs U) := by
        intro U
        constructor
        · rintro ⟨s', h1, h2⟩
          by_cases e : s' = s
          · subst e; exact Or.inr h2
          · exact Or.inl ⟨s', by omega, h2⟩
        · rintro (⟨s', h1, h2⟩ | h)
          · exact ⟨s', by omega, h2⟩
          · exact ⟨s, by omega, h⟩
      by_cases hcut : G < more
      · -- it is worse already
        have hP2 := BP_or hP (BP_cut (T := T) (n := n) (E := EB Y n wt wn (D ||| 2 ^ i) (fu ch i s) (fu S i s) k (10 + i) mvs) (F := G) (b := g) (ch := fu ch i s) (fun U hU p hp => by
          by_cases e : (D ||| 2 ^ i).testBit p = true
          · exact Or.inl (hU.2.1 p hp e)
          · exact Or.inr (hchS p hp e)) (by rw [hmo]; exact hcut))
        obtain ⟨X', F', b', hA, hx'⟩ := ih (s + 1) V G g x (some (.int (nI more))) (by omega) hx hV hG (BP_sub hP2 (fun U => (hstep U).symm))
        refine ⟨X', F', b', hA, head _ _ ?_⟩
        refine mj_brt rfl rfl (by rw [nI_ltI (by omega) (by omega)]; exact hcut) ?_
        refine mj_run 2 rfl trivial ?_
        rw [nI_add]
        exact hx'
      · -- the rows are laid
        generalize hV3 : mj_ui (mj_row (mj_ui V 21 i (nI s)) (14 + (cc + 1)) (va_cpy (mj_ui V 21 i (nI s) (14 + cc)) (mj_ui V 21 i (nI s) (14 + (cc + 1))) 0 0 10)) (14 + (cc + 1)) i (nI s) = V3
        have fV3 : Cf [21, 14 + (cc + 1)] V V3 := by
          rw [← hV3]
          exact ((Cf.u V 21 i (nI s)).tr ((Cf.row _ (14 + (cc + 1)) _).tr (Cf.u _ (14 + (cc + 1)) i (nI s)))).w (by simp)
        have r21 : ∀ p, V3 21 p = if p = i then nI s else V 21 p := by
          intro p
          rw [← hV3]
          have : (21 : Nat) ≠ 14 + (cc + 1) := by omega
          by_cases e : p = i
          · simp [mj_ui, mj_row, this, upd, e]
          · simp [mj_ui, mj_row, this, upd, e]
        have hE : (D ||| 2 ^ i) < 2 ^ n := Nat.or_lt_two_pow hD (Nat.pow_lt_pow_right (by decide) hi)
        have hct1 : ct (D ||| 2 ^ i) n = cc + 1 := by rw [ct_or hDi n hi, hccd]
        have hG3 : BG V3 Y n T wt wn G (fu ch i s) g Z := by
          refine ⟨by rw [fV3 12 (by simp; omega)]; exact g1, by rw [fV3 12 (by simp; omega)]; exact g2, ⟨fun p hp => ?_, fun p hp => ?_, fun p p1 p2 => ?_⟩, g4, fun q => ?_, fun p hp => by rw [fV3 5 (by simp; omega)]; exact g6 p hp, fun p hp => by rw [fV3 42 (by simp; omega)]; exact g7 p hp⟩
          · rw [r21 p]
            by_cases e : p = i
            · rw [if_pos e]; simp [fu, e]
            · rw [if_neg e, g3.1 p hp]; simp [fu, e]
          · by_cases e : p = i
            · subst e; simp [fu]; exact hsm
            · have := g3.2.1 p hp
              simp [fu, e] at this ⊢
              exact this
          · rw [r21 p, if_neg (by omega)]
            exact g3.2.2 p p1 p2
          · obtain ⟨w1, w2, w3⟩ := g5 q
            exact ⟨fun p hp => by rw [fV3 22 (by simp; omega)]; exact w1 p hp, w2, fun p p1 p2 => by rw [fV3 22 (by simp; omega)]; exact w3 p p1 p2⟩
        have rowS : ∀ p, p < n → (D ||| 2 ^ i).testBit p = true → V3 (14 + ct (D ||| 2 ^ i) n) p = nI (fu S i s p) ∧ fu S i s p < sm Y p := by
          intro p hp hb
          rw [hct1, ← hV3]
          by_cases e : p = i
          · subst e
            exact ⟨by simp [mj_ui, upd, fu], by simp [fu]; exact hsm⟩
          · have hb2 : D.testBit p = true := by
              rcases (D_or p).mp hb with q | q
              · exact q
              · exact absurd q e
            obtain ⟨q1, q2⟩ := hS p hp hb2
            have q3 : V (14 + cc) p = nI (S p) := by
              rw [hV (14 + cc) (by omega) (by omega) (by omega) (by omega)]
              exact q1
            have : p < 10 := by omega
            have ne : (14 + cc) ≠ 21 := by omega
            exact ⟨by simp [mj_ui, mj_row, upd, va_cpy, fu, e, this, ne, q3], by simp [fu, e]; exact q2⟩
        have hYV : CY (FM L dy) V3 (FR (some ya) (some ya) (some 5) (some 42) c y2 R) ya A B C n ol od Y := (hY.bf hV).fr (fun a h65 _ => fV3 a (by simp; omega))
        obtain ⟨V4, G4, g4', hcall, hfr4, hG4, hP4⟩ := IH (D ||| 2 ^ i) (fu ch i s) (fu S i s) k (10 + i) mvs V3 G g (by omega) hE hchS rowS hk (by omega) hmv hG3 hYV
        have hP2 := BP_or hP hP4
        rw [hct1] at hcall hfr4
        rw [hmo] at hcall
        obtain ⟨X', F', b', hA, hx'⟩ := ih (s + 1) V4 G4 g4' s (some (.int (nI more))) (by omega) hsm (fun a q1 q2 q3 q4 => by
          rw [hfr4 a q1 q2 q3 q4, fV3 a (by simp; omega)]
          exact hV a q1 q2 q3 q4) hG4 (BP_sub hP2 (fun U => (hstep U).symm))
        refine ⟨X', F', b', hA, head _ _ ?_⟩
        refine mj_brf rfl rfl (by rw [nI_ltI (by omega) (by omega)]; exact hcut) ?_
        refine mj_run 8 rfl ⟨vi, by decide⟩ ?_
        rw [hcl]
        refine sx_al (a := 13) rfl rfl rfl (nI_vi (show cc < 7 by omega) (by decide)) (by rw [nI_nc (by omega)]; exact be_ref (by omega)) ?_
        refine mj_run 6 rfl trivial ?_
        rw [nI_add]
        refine sx_al (a := 13) rfl rfl rfl (nI_vi (show cc + 1 < 7 by omega) (by decide)) (by rw [nI_nc (by omega)]; exact be_ref (by omega)) ?_
        refine mj_run 2 rfl trivial ?_
        refine sx_cp (a := 14 + (cc + 1)) (b := 14 + cc) rfl (be_row (by omega)) (be_row (by omega)) rfl ⟨by decide, by decide, by decide, by decide, by decide, by omega, by omega⟩ ?_
        refine mj_run 5 rfl trivial ?_
        rw [nI_add]
        refine sx_al (a := 13) rfl rfl rfl (nI_vi (show cc + 1 < 7 by omega) (by decide)) (by rw [nI_nc (by omega)]; exact be_ref (by omega)) ?_
        refine mj_run 2 rfl trivial ?_
        refine sx_st rfl (be_row (by omega)) vi (by omega) ?_
        rw [hcl, show (nI 0).toNatClampNeg = 0 from rfl, show (nI 10).toNatClampNeg = 10 from rfl, hV3]
        refine mj_run 13 rfl trivial ?_
        rw [nI_add, b_one (by omega), b_or]
        refine mj_cal rfl rfl hcall ?_
        refine mj_run 2 rfl trivial ?_
        rw [nI_add]
        exact hx'
  obtain ⟨g1, g2, g3, g4, g5, g6, g7⟩ := id hB
  have e0 : fu ch i (ch i) = ch := by
    funext p
    by_cases e : p = i
    · subst e; simp [fu]
    · simp [fu, e]
  obtain ⟨X', F', b', hA, hx⟩ := key (sm Y i) 0 X F b (ch i) none (by omega) (by rw [hci]; exact hTK i hi) (fun _ _ _ _ _ => rfl) (by rw [e0]; exact hB) (BP_no (fun U q => by obtain ⟨s', h, -⟩ := q; omega))
  obtain ⟨f2, fs2, fc2⟩ := P_sc (d := d + 2 * r + 3) (I := X) (J := J) hK hi b2
  refine ⟨X', F', b', ?_, hA⟩
  refine mj_ci rfl (Nat.le_of_ble_eq_true rfl) ?_
  refine mj_run 10 rfl trivial ?_
  rw [pk_sub (by omega), show 10 + i - 10 = i by omega, nI_add]
  refine mj_brt rfl rfl (by rw [nI_ltI (by omega) (by decide)]; omega) ?_
  refine mj_run 2 rfl trivial ?_
  refine sx_gr rfl m0 rfl r0 ?_
  refine mj_run 1 rfl trivial ?_
  refine sx_al rfl m1 rfl (nI_vi hi (by omega)) (by rw [hcl]; exact b1) ?_
  refine sx_v0 rfl hq fs2 rfl fc2 ?_
  refine mj_run 3 rfl trivial ?_
  exact hx
end CC
