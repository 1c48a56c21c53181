section QQ
variable {d : Nat} {m : mjM} {I : mjI} {R : mjR} {J : mjJ} {ya a0 : Nat} {B C : Nat → Nat} {n : Nat} {Y : Yd}
theorem Q_init (hK : YOK n Y) (hn1 : 1 ≤ n) (hya : mj_mt ya m = some (20, 8)) (ha0 : mj_mt a0 m = some (3, n)) (hne : a0 ≠ ya) (h65 : 65 ≤ ya ∧ 65 ≤ a0) (hP : ∀ p, p < n → R a0 p = some (B p) ∧ PT m R (B p) (C p) (Y.1 p) (Y.2.1 p) ∧ (∀ w, w < Y.2.1 p → I (C p) w = nI (Y.2.2 p w)) ∧ B p ≠ ya ∧ C p ≠ ya ∧ 65 ≤ B p ∧ 65 ≤ C p) : ∃ (I' : mjI) (R' : mjR) (A : Nat → Nat) (ol : Nat) (od : Nat → Nat), mj_call mj_P (d + 6) kn_Yd_init [.ref ya, .ref a0] (m, I, R, J) none (m ++ [(0, 60), (0, 60), (0, 10), (0, 10), (0, ol)], I', R', J) ∧ CY (m ++ [(0, 60), (0, 60), (0, 10), (0, 10), (0, ol)]) I' R' ya A B C n ol od Y ∧ (∀ a, a < m.length → a ≠ ya → I' a = I a ∧ R' a = R a) ∧ ol ≤ 10 := by
  have hn := hK.1
  have h10 := two10 hn
  have lya := mt_lt hya
  have la0 := mt_lt ha0
  generalize hm1 : m ++ [(0, 60)] = m1
  have l1 : m1.length = m.length + 1 := by rw [← hm1]; simp
  have u1 : ∀ {a x}, mj_mt a m = some x → mj_mt a m1 = some x := fun h => by rw [← hm1]; exact mt_old h _
  have s1 : mj_mt m.length m1 = some (0, 60) := by rw [← hm1]; exact mt_last m _
  generalize hm2 : m1 ++ [(0, 60)] = m2
  have l2 : m2.length = m.length + 2 := by rw [← hm2]; simp [l1]
  have u2 : ∀ {a x}, mj_mt a m1 = some x → mj_mt a m2 = some x := fun h => by rw [← hm2]; exact mt_old h _
  have s2 : mj_mt m1.length m2 = some (0, 60) := by rw [← hm2]; exact mt_last m1 _
  generalize hm3 : m2 ++ [(0, 10)] = m3
  have l3 : m3.length = m.length + 3 := by rw [← hm3]; simp [l2]
  have u3 : ∀ {a x}, mj_mt a m2 = some x → mj_mt a m3 = some x := fun h => by rw [← hm3]; exact mt_old h _
  have s3 : mj_mt m2.length m3 = some (0, 10) := by rw [← hm3]; exact mt_last m2 _
  generalize hm4 : m3 ++ [(0, 10)] = m4
  have l4 : m4.length = m.length + 4 := by rw [← hm4]; simp [l3]
  have u4 : ∀ {a x}, mj_mt a m3 = some x → mj_mt a m4 = some x := fun h => by rw [← hm4]; exact mt_old h _
  have s4 : mj_mt m3.length m4 = some (0, 10) := by rw [← hm4]; exact mt_last m3 _
  have e4 : m4 = m ++ [(0, 60), (0, 60), (0, 10), (0, 10)] := by rw [← hm4, ← hm3, ← hm2, ← hm1]; simp
  -- ints and references of the first phase
  generalize hI5 : mj_ui (mj_row (mj_row (mj_row (mj_row I m.length (fun _ => 0)) m1.length (fun _ => 0)) m2.length (fun _ => 0)) m3.length (fun _ => 0)) ya 1 (nI n) = I5
  generalize hR5 : mj_ur (mj_ur (mj_ur (mj_ur (mj_ur R ya 4 (some m.length)) ya 5 (some m1.length)) ya 6 (some m2.length)) ya 7 (some m3.length)) ya 0 (some a0) = R5
  have rR : ∀ a, a ≠ ya → R5 a = R a := fun a ha => by rw [← hR5]; simp [mj_ur, ha]
  have r0 : R5 ya 0 = some a0 := by rw [← hR5]; simp [mj_ur, va_up]
  have r4 : R5 ya 4 = some m.length := by rw [← hR5]; simp [mj_ur, va_up]
  have r5 : R5 ya 5 = some m1.length := by rw [← hR5]; simp [mj_ur, va_up]
  have r6 : R5 ya 6 = some m2.length := by rw [← hR5]; simp [mj_ur, va_up]
  have r7 : R5 ya 7 = some m3.length := by rw [← hR5]; simp [mj_ur, va_up]
  have iI : ∀ a, a < m.length → a ≠ ya → I5 a = I a := fun a h1 h2 => by
    rw [← hI5, l1, l2, l3]
    simp [mj_ui, mj_row, h2, show a ≠ m.length by omega, show a ≠ m.length + 1 by omega, show a ≠ m.length + 2 by omega, show a ≠ m.length + 3 by omega]
  have i1 : I5 ya 1 = nI n := by rw [← hI5]; simp [mj_ui, upd]
  have i6 : ∀ s, I5 m2.length s = nI 0 := fun s => by
    rw [← hI5, l2, l3]
    simp [mj_ui, mj_row, show m.length + 2 ≠ ya by omega]
    rfl
  have hQ : CQ m4 I5 R5 ya a0 B C n Y := by
    refine ⟨hK, hn1, u4 (u3 (u2 (u1 hya))), r0, i1, u4 (u3 (u2 (u1 ha0))), fun p hp => ?_⟩
    obtain ⟨p1, p2, p3, p4, p5, p6, p7⟩ := hP p hp
    refine ⟨by rw [rR a0 hne]; exact p1, p2.mr (fun a x h => u4 (u3 (u2 (u1 h)))) (fun g => by rw [rR _ p4]; exact g), fun w hw => ?_⟩
    rw [iI (C p) (mt_lt p2.2.2) p5]
    exact p3 w hw
  generalize hI6 : mj_ui I5 ya 2 (nI (if sb Y n n then 1 else 0)) = I6
  have i6' : ∀ a, a ≠ ya → I6 a = I5 a := fun a ha => by rw [← hI6]; simp [mj_ui, ha]
  have i61 : I6 ya 1 = nI n := by rw [← hI6]; simp [mj_ui, upd, i1]
  have i62 : I6 ya 2 = nI (if sb Y n n then 1 else 0) := by rw [← hI6]; simp [mj_ui, upd]
  have hQ6 : CQ m4 I6 R5 ya a0 B C n Y := hQ.fr (by rw [i61, i1]) (fun p hp => i6' (C p) (hP p hp).2.2.2.2.1)
  obtain ⟨I7, od, hcO, hfO, hOD, hrow⟩ := Q_ordered (d := d + 2) (J := J) hQ6 (by omega)
  have hol : ct (rF Y n 1) 10 ≤ 10 := ct_le _ 10
  have hrf : rF Y n 1 < 2 ^ n := rF_lt hK (Nat.one_lt_two_pow (by omega))
  generalize hO : ct (rF Y n 1) 10 = ol at hcO hOD hrow hol
  generalize hm5 : m4 ++ [(0, ol)] = m5 at hcO
  have u5 : ∀ {a x}, mj_mt a m4 = some x → mj_mt a m5 = some x := fun h => by rw [← hm5]; exact mt_old h _
  have s5 : mj_mt m4.length m5 = some (0, ol) := by rw [← hm5]; exact mt_last m4 _
  have e5 : m5 = m ++ [(0, 60), (0, 60), (0, 10), (0, 10), (0, ol)] := by rw [← hm5, e4]; simp
  generalize hR6 : mj_ur R5 ya 3 (some m4.length) = R6
  have rR6 : ∀ a, a ≠ ya → R6 a = R a := fun a ha => by rw [← hR6]; simp [mj_ur, ha, rR a ha]
  have rr : ∀ k, k ≠ 3 → R6 ya k = R5 ya k := fun k hk => by rw [← hR6]; simp [mj_ur, va_up, hk]
  have r3 : R6 ya 3 = some m4.length := by rw [← hR6]; simp [mj_ur, va_up]
  have hQ7 : CQ m5 I7 R6 ya a0 B C n Y := by
    refine ⟨hK, hn1, u5 (u4 (u3 (u2 (u1 hya)))), (rr 0 (by decide)).trans r0, by rw [hfO ya (by omega)]; exact i61, u5 (u4 (u3 (u2 (u1 ha0)))), fun p hp => ?_⟩
    obtain ⟨p1, p2, p3, p4, p5, p6, p7⟩ := hP p hp
    have lc := mt_lt p2.2.2
    refine ⟨by rw [rR6 a0 hne]; exact p1, p2.mr (fun a x h => u5 (u4 (u3 (u2 (u1 h))))) (fun g => by rw [rR6 _ p4]; exact g), fun w hw => ?_⟩
    rw [hfO (C p) (by omega), i6' (C p) p5, iI (C p) lc p5]
    exact p3 w hw
  -- the loop
  have key : ∀ (f i : Nat) (X : mjI) (Ld : Nat → Nat), i + f = n → (∀ a, a ≠ m.length → a ≠ m1.length → a ≠ m2.length → X a = I7 a) → (∀ p, p < i → ∀ s, s < sm Y p → X m.length (p * 6 + s) = nI (pl Y p s) ∧ X m1.length (p * 6 + s) = nI (tn Y p s)) → (∀ s, s < 10 → X m2.length s = nI (Ld s) ∧ Ld s < 1024) → (∀ s, s < 10 → ∀ j, (Ld s).testBit j = true ↔ (j < i ∧ lds Y n j s)) → ∃ (I' : mjI) (Ld' : Nat → Nat), ((∀ a, a ≠ m.length → a ≠ m1.length → a ≠ m2.length → I' a = I7 a) ∧ (∀ p, p < n → ∀ s, s < sm Y p → I' m.length (p * 6 + s) = nI (pl Y p s) ∧ I' m1.length (p * 6 + s) = nI (tn Y p s)) ∧ (∀ s, s < 10 → I' m2.length s = nI (Ld' s) ∧ Ld' s < 1024) ∧ (∀ s, s < 10 → ∀ j, (Ld' s).testBit j = true ↔ (j < n ∧ lds Y n j s))) ∧ mj_Rd (mj_call mj_P (d + 5)) kc_Yd_init 0 (86, [some (.ref ya), some (.ref a0), some (.int (nI (rF Y n 1))), some (.int (nI i))], [], m5, X, R6, J) none (m5, I', R6, J) := by
    intro f
    induction f with
    | zero =>
      intro i X Ld hi hX hp hL hB
      have : i = n := by omega
      subst this
      refine ⟨X, Ld, ⟨hX, hp, hL, hB⟩, ?_⟩
      refine mj_run 2 rfl trivial ?_
      refine sx_gi rfl hQ7.2.2.1 rfl ?_
      rw [hX ya (by omega) (by omega) (by omega), hQ7.2.2.2.2.1]
      refine mj_brt rfl rfl (by rw [nI_leI (by omega) (by omega)]; omega) ?_
      exact mj_end rfl rfl trivial
    | succ f ih =>
      intro i X Ld hi hX hp hL hB
      have hin : i < n := by omega
      have lC : ∀ p, p < n → C p < m.length := fun p hp => mt_lt (hP p hp).2.1.2.2
      have hQX : CQ m5 X R6 ya a0 B C n Y := hQ7.fr (by rw [hX ya (by omega) (by omega) (by omega)]) (fun p hp => by have := lC p hp; exact hX (C p) (by omega) (by omega) (by omega))
      obtain ⟨X1, hc1, f1, p1, o1⟩ := Q_stands (d := d) (J := J) hQX hin ((rr 4 (by decide)).trans r4) ((rr 5 (by decide)).trans r5) (u5 (u4 (u3 (u2 s1)))) (u5 (u4 (u3 s2))) (by omega) (by omega) (by omega) (by omega) (by omega) (fun p hp => by have := lC p hp; omega)
      have hQ1 : CQ m5 X1 R6 ya a0 B C n Y := hQX.fr (by rw [f1 ya (by omega) (by omega)]) (fun p hp => by have := lC p hp; exact f1 (C p) (by omega) (by omega))
      obtain ⟨X2, Ld2, hc2, f2, l2', b2⟩ := Q_sidings (d := d + 2) (J := J) (Ld := Ld) hQ1 hin ((rr 6 (by decide)).trans r6) (u5 (u4 s3)) (by omega) (by omega) (fun p hp => by have := lC p hp; omega) (fun s hs => by rw [f1 m2.length (by omega) (by omega)]; exact hL s hs)
      obtain ⟨I', Ld', hA, hx⟩ := ih (i + 1) X2 Ld2 (by omega) (fun a h1 h2 h3 => by rw [f2 a h3, f1 a h1 h2, hX a h1 h2 h3]) (fun p hpp s hs => by
        rw [f2 m.length (by omega), f2 m1.length (by omega)]
        by_cases e : p = i
        · subst e; exact p1 s hs
        · have h6 := (sm_in hK (show p < n by omega)).2
          obtain ⟨q1, q2⟩ := o1 (p * 6 + s) (by omega)
          rw [q1, q2]
          exact hp p (by omega) s hs) l2' (fun s hs j => by
        rw [b2 s hs j, hB s hs j]
        constructor
        · rintro (⟨a, b⟩ | ⟨a, b⟩)
          · exact ⟨by omega, b⟩
          · subst a; exact ⟨by omega, b⟩
        · rintro ⟨a, b⟩
          by_cases e : j = i
          · subst e; exact Or.inr ⟨rfl, b⟩
          · exact Or.inl ⟨by omega, b⟩)
      refine ⟨I', Ld', hA, ?_⟩
      refine mj_run 2 rfl trivial ?_
      refine sx_gi rfl hQ7.2.2.1 rfl ?_
      rw [hQX.2.2.2.2.1]
      refine mj_brf rfl rfl (by rw [nI_leI (by omega) (by omega)]; omega) ?_
      refine mj_run 2 rfl trivial ?_
      refine sx_v1 rfl hQ7.2.2.1 rfl rfl hc1 ?_
      refine mj_run 2 rfl trivial ?_
      refine sx_v1 rfl hQ7.2.2.1 rfl rfl hc2 ?_
      refine mj_run 2 rfl trivial ?_
      rw [nI_add]
      exact hx
  obtain ⟨I', Ld', ⟨hA1, hA2, hA3, hA4⟩, hx⟩ := key n 0 I7 (fun _ => 0) (by omega) (fun _ _ _ _ => rfl) (fun p hp => by omega) (fun s hs => by
    rw [hfO m2.length (by omega), i6' m2.length (by omega), i6 s]
    exact ⟨rfl, by decide⟩) (fun s hs j => by
    simp)
  have far : ∀ a, a < m.length → a ≠ ya → I' a = I a := fun a h1 h2 => by
    rw [hA1 a (by omega) (by omega) (by omega), hfO a (by omega), i6' a h2, iI a h1 h2]
  refine ⟨I', R6, fun k => if k = 0 then a0 else if k = 3 then m4.length else if k = 4 then m.length else if k = 5 then m1.length else if k = 6 then m2.length else m3.length, ol, od, ?_, ?_, fun a h1 h2 => ⟨far a h1 h2, rR6 a h2⟩, hol⟩
  · rw [← e5]
    refine mj_ci rfl (Nat.le_of_ble_eq_true rfl) ?_
    refine mj_run 5 rfl ⟨by decide, by decide⟩ ?_
    rw [show (nI 60).toNatClampNeg = 60 from rfl, hm1]
    refine sx_pr rfl (u1 hya) rfl ?_
    refine mj_run 3 rfl ⟨by decide, by decide⟩ ?_
    rw [show (nI 60).toNatClampNeg = 60 from rfl, hm2]
    refine sx_pr rfl (u2 (u1 hya)) rfl ?_
    refine mj_run 3 rfl ⟨by decide, by decide⟩ ?_
    rw [show (nI 10).toNatClampNeg = 10 from rfl, hm3]
    refine sx_pr rfl (u3 (u2 (u1 hya))) rfl ?_
    refine mj_run 3 rfl ⟨by decide, by decide⟩ ?_
    rw [show (nI 10).toNatClampNeg = 10 from rfl, hm4]
    refine sx_pr rfl (u4 (u3 (u2 (u1 hya)))) rfl ?_
    refine mj_run 2 rfl trivial ?_
    refine sx_pr rfl (u4 (u3 (u2 (u1 hya)))) rfl ?_
    rw [hR5]
    refine mj_run 2 rfl trivial ?_
    refine sx_ln rfl (u4 (u3 (u2 (u1 ha0)))) rfl ?_
    refine mj_run 1 rfl trivial ?_
    refine mj_cal rfl rfl (c_min _ _ (by omega) (by decide)) ?_
    rw [show min n 10 = n by omega]
    refine sx_pi rfl (u4 (u3 (u2 (u1 hya)))) rfl ?_
    rw [hI5]
    refine mj_run 2 rfl trivial ?_
    refine sx_v1 rfl (u4 (u3 (u2 (u1 hya)))) rfl rfl (Q_reached (b := 1) hQ (Nat.one_lt_two_pow (by omega))) ?_
    refine mj_run 4 rfl trivial ?_
    refine sx_v1 rfl (u4 (u3 (u2 (u1 hya)))) rfl rfl (Q_loop hQ (by omega)) ?_
    rw [hlp_sb hK hn1]
    have rest : mj_Rd (mj_call mj_P (d + 5)) kc_Yd_init 0 (72, [some (.ref ya), some (.ref a0), some (.int (nI (rF Y n 1))), none], [.int (nI (if sb Y n n then 1 else 0)), .ref ya], m4, I5, R5, J) none (m5, I', R6, J) := by
      refine sx_pz rfl (u4 (u3 (u2 (u1 hya)))) rfl (by cases sb Y n n <;> decide) ?_
      rw [hI6]
      refine mj_run 3 rfl trivial ?_
      refine sx_v1 rfl (u4 (u3 (u2 (u1 hya)))) rfl rfl hcO ?_
      refine sx_pr rfl (u5 (u4 (u3 (u2 (u1 hya))))) rfl ?_
      rw [hR6]
      refine mj_run 2 rfl trivial ?_
      exact hx
    cases hsb : sb Y n n with
    | true =>
      rw [hsb] at rest
      refine mj_brf rfl rfl (by decide) ?_
      refine mj_run 2 rfl trivial ?_
      exact rest
    | false =>
      rw [hsb] at rest
      refine mj_brt rfl rfl (by decide) ?_
      refine mj_run 1 rfl trivial ?_
      exact rest
  · rw [← e5]
    refine ⟨⟨hK, hn1, hOD⟩, ⟨(rr 0 (by decide)).trans r0, r3, (rr 4 (by decide)).trans r4, (rr 5 (by decide)).trans r5, (rr 6 (by decide)).trans r6, (rr 7 (by decide)).trans r7⟩, ⟨u5 (u4 (u3 (u2 (u1 hya)))), u5 (u4 (u3 (u2 (u1 ha0)))), s5, u5 (u4 (u3 (u2 s1))), u5 (u4 (u3 s2)), u5 (u4 s3), u5 s4⟩, ⟨⟨by omega, ?_, ?_, ?_, ?_, ?_, ?_, fun p hp => ⟨(hP p hp).2.2.2.2.2.1, (hP p hp).2.2.2.2.2.2⟩⟩, ?_, ?_, ?_, ?_, ?_, fun p hp => ?_⟩, fun p hp => ⟨(hQ7.2.2.2.2.2.2 p hp).1, (hQ7.2.2.2.2.2.2 p hp).2.1⟩, ?_, ?_, ?_, ?_, ?_, ?_⟩
    · show 65 ≤ a0; omega
    · show 65 ≤ m4.length; omega
    · show 65 ≤ m.length; omega
    · show 65 ≤ m1.length; omega
    · show 65 ≤ m2.length; omega
    · show 65 ≤ m3.length; omega
    · show m3.length ≠ ya; omega
    · show m3.length ≠ m4.length; omega
    · show m3.length ≠ m.length; omega
    · show m3.length ≠ m1.length; omega
    · show m3.length ≠ m2.length; omega
    · have := mt_lt (hP p hp).2.1.2.2
      show m3.length ≠ C p
      omega
    · rw [hA1 ya (by omega) (by omega) (by omega), hfO ya (by omega)]; exact i61
    · rw [hA1 ya (by omega) (by omega) (by omega), hfO ya (by omega)]; exact i62
    · intro p hp w hw
      obtain ⟨p1, p2, p3, p4, p5, p6, p7⟩ := hP p hp
      rw [far (C p) (mt_lt p2.2.2) p5]
      exact p3 w hw
    · intro k hk
      show I' m4.length k = nI (od k)
      rw [hA1 m4.length (by omega) (by omega) (by omega)]
      exact hrow k hk
    · exact hA2
    · intro s hs
      obtain ⟨q1, q2⟩ := hA3 s hs
      refine ⟨Ld' s, q2, q1, fun i hi => ?_⟩
      rw [hA4 s hs i]
      exact ⟨fun q => q.2, fun q => ⟨hi, q⟩⟩
end QQ
