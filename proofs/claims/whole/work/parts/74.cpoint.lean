/-! heaps that grow -/
theorem mt_get : ∀ (a : Nat) (m : mjM), mj_mt a m = m[a]?
  | _, [] => by simp [mj_mt]
  | 0, x :: m => by simp [mj_mt]
  | a + 1, x :: m => by
    unfold mj_mt
    rw [mt_get a m]
    simp
theorem mt_last (m : mjM) (x : Nat × Nat) : mj_mt m.length (m ++ [x]) = some x := by
  rw [mt_get]
  simp
theorem mt_lt {m : mjM} {a : Nat} {x : Nat × Nat} (h : mj_mt a m = some x) : a < m.length := by
  rw [mt_get] at h
  exact (List.getElem?_eq_some_iff.mp h).1
theorem mt_old {m : mjM} {a : Nat} {x : Nat × Nat} (h : mj_mt a m = some x) (e : mjM) : mj_mt a (m ++ e) = some x := by
  have := mt_lt h
  rw [mt_get] at h ⊢
  rw [List.getElem?_append_left this]
  exact h
def Ext (m : mjM) (I : mjI) (R : mjR) (m' : mjM) (I' : mjI) (R' : mjR) : Prop := (∃ e, m' = m ++ e) ∧ ∀ a, a < m.length → I' a = I a ∧ R' a = R a
theorem Ext.rf (m : mjM) (I : mjI) (R : mjR) : Ext m I R m I R := ⟨⟨[], by simp⟩, fun _ _ => ⟨rfl, rfl⟩⟩
theorem Ext.le {m m' : mjM} {I I' : mjI} {R R' : mjR} (h : Ext m I R m' I' R') : m.length ≤ m'.length := by
  obtain ⟨⟨e, rfl⟩, -⟩ := h
  simp
theorem Ext.mt {m m' : mjM} {I I' : mjI} {R R' : mjR} (h : Ext m I R m' I' R') {a : Nat} {x : Nat × Nat} (g : mj_mt a m = some x) : mj_mt a m' = some x := by
  obtain ⟨⟨e, rfl⟩, -⟩ := h
  exact mt_old g e
theorem Ext.th {m m' m'' : mjM} {I I' I'' : mjI} {R R' R'' : mjR} (h : Ext m I R m' I' R') (g : Ext m' I' R' m'' I'' R'') : Ext m I R m'' I'' R'' := by
  have hl := h.le
  obtain ⟨⟨e, rfl⟩, h2⟩ := h
  obtain ⟨⟨e', rfl⟩, g2⟩ := g
  refine ⟨⟨e ++ e', by simp⟩, fun a ha => ?_⟩
  have q1 := h2 a ha
  have q2 := g2 a (by omega)
  exact ⟨q2.1.trans q1.1, q2.2.trans q1.2⟩
theorem PT.ext {m m' : mjM} {I I' : mjI} {R R' : mjR} {b c kd k : Nat} (h : PT m R b c kd k) (e : Ext m I R m' I' R') : PT m' R' b c kd k := by
  obtain ⟨⟨q, hq⟩, -⟩ := id h
  exact h.mr (fun a x g => e.mt g) (fun g => by rw [(e.2 b (mt_lt hq)).2]; exact g)
def PGH (m : mjM) (I : mjI) (R : mjR) (pn : Nat) (pg : Nat → Nat) : Prop := mj_mt 2 m = some (13, 2) ∧ mj_mt 3 m = some (0, 50) ∧ R 2 0 = some 3 ∧ I 2 1 = nI pn ∧ (∀ i, i < pn → I 3 i = nI (pg i)) ∧ 65 ≤ m.length
theorem PGH.ext {m m' : mjM} {I I' : mjI} {R R' : mjR} {pn : Nat} {pg : Nat → Nat} (h : PGH m I R pn pg) (e : Ext m I R m' I' R') : PGH m' I' R' pn pg := by
  obtain ⟨h1, h2, h3, h4, h5, h6⟩ := h
  have hl := e.le
  refine ⟨e.mt h1, e.mt h2, ?_, ?_, fun i hi => ?_, by omega⟩
  · rw [(e.2 2 (by omega)).2]; exact h3
  · rw [(e.2 2 (by omega)).1]; exact h4
  · rw [(e.2 3 (by omega)).1]; exact h5 i hi
section GG
variable {d : Nat} {m : mjM} {I : mjI} {R : mjR} {J : mjJ} {pn : Nat} {pg : Nat → Nat}
theorem G_switchCount (hb : pn ≤ 50 ∧ ∀ i, i < pn → 1 ≤ pg i ∧ pg i ≤ 126) (h : PGH m I R pn pg) : mj_call mj_P (d + 1) kn_Pg_switchCount [.ref 2] (m, I, R, J) (some (.int (nI (c59 pg pn + 1)))) (m, I, R, J) := by
  obtain ⟨h1, h2, h3, h4, h5, h6⟩ := h
  refine mj_ci rfl (Nat.le_of_ble_eq_true rfl) ?_
  refine mj_run 4 rfl trivial ?_
  refine dn_ind pn (fun k => mj_Rd (mj_call mj_P d) kc_Pg_switchCount 1 (4, [some (.ref 2), some (.int (nI (c59 pg k + 1))), some (.int (nI k))], [], m, I, R, J) (some (.int (nI (c59 pg pn + 1)))) (m, I, R, J)) ?_ ?_ 0 (by omega)
  · refine mj_run 2 rfl trivial ?_
    refine sx_gi rfl h1 rfl ?_
    rw [h4]
    refine mj_brt rfl rfl (by rw [nI_leI (by omega) (by omega)]; omega) ?_
    refine mj_run 1 rfl trivial ?_
    exact mj_end rfl rfl trivial
  · intro k hk ih
    have hc := hb.2 k hk
    refine mj_run 2 rfl trivial ?_
    refine sx_gi rfl h1 rfl ?_
    rw [h4]
    refine mj_brf rfl rfl (by rw [nI_leI (by omega) (by omega)]; omega) ?_
    refine mj_run 1 rfl trivial ?_
    refine sx_gr rfl h1 rfl h3 ?_
    refine mj_run 1 rfl trivial ?_
    refine sx_ld rfl h2 (nI_vi (by omega) (by decide)) ?_
    rw [nI_nc (by omega), h5 k hk]
    refine mj_run 1 rfl trivial ?_
    refine mj_bra rfl rfl (fun g => ?_) (fun g => ?_)
    · rw [nI_e (by omega) (by decide)] at g
      rw [show c59 pg (k + 1) = c59 pg k by simp [c59, g]] at ih
      refine mj_run 2 rfl trivial ?_
      rw [nI_add]
      exact ih
    · rw [nI_e (by omega) (by decide)] at g
      rw [show c59 pg (k + 1) + 1 = c59 pg k + 1 + 1 by simp [c59, Classical.not_not.mp g]] at ih
      refine mj_run 3 rfl trivial ?_
      rw [nI_add, nI_add]
      exact ih
theorem G_endFrom (hb : pn ≤ 50 ∧ ∀ i, i < pn → 1 ≤ pg i ∧ pg i ≤ 126) (h : PGH m I R pn pg) {f e : Nat} (hfe : f ≤ e) (hep : e ≤ pn) (hno : ∀ i, f ≤ i → i < e → pg i ≠ 59) (he : e = pn ∨ pg e = 59) : mj_call mj_P (d + 1) kn_Pg_endFrom [.ref 2, .int (nI f)] (m, I, R, J) (some (.int (nI e))) (m, I, R, J) := by
  obtain ⟨h1, h2, h3, h4, h5, h6⟩ := h
  refine mj_ci rfl (Nat.le_of_ble_eq_true rfl) ?_
  refine mj_run 2 rfl trivial ?_
  have key : ∀ g k, f ≤ k → k + g = e → mj_Rd (mj_call mj_P d) kc_Pg_endFrom 1 (2, [some (.ref 2), some (.int (nI f)), some (.int (nI k))], [], m, I, R, J) (some (.int (nI e))) (m, I, R, J) := by
    intro g
    induction g with
    | zero =>
      intro k hfk hk
      have : k = e := by omega
      subst this
      refine mj_run 2 rfl trivial ?_
      refine sx_gi rfl h1 rfl ?_
      rw [h4]
      by_cases q : k = pn
      · refine mj_brt rfl rfl (by rw [nI_leI (by omega) (by omega)]; omega) ?_
        refine mj_run 1 rfl trivial ?_
        refine sx_gi rfl h1 rfl ?_
        rw [h4, q]
        exact mj_end rfl rfl trivial
      · refine mj_brf rfl rfl (by rw [nI_leI (by omega) (by omega)]; omega) ?_
        refine mj_run 1 rfl trivial ?_
        refine sx_gr rfl h1 rfl h3 ?_
        refine mj_run 1 rfl trivial ?_
        refine sx_ld rfl h2 (nI_vi (by omega) (by decide)) ?_
        have e59 : pg k = 59 := by
          rcases he with he | he
          · exact absurd he q
          · exact he
        rw [nI_nc (by omega), h5 k (by omega), e59]
        refine mj_run 1 rfl trivial ?_
        refine mj_brf rfl rfl (by decide) ?_
        refine mj_run 1 rfl trivial ?_
        exact mj_end rfl rfl trivial
    | succ g ih =>
      intro k hfk hk
      have hc := hb.2 k (by omega)
      refine mj_run 2 rfl trivial ?_
      refine sx_gi rfl h1 rfl ?_
      rw [h4]
      refine mj_brf rfl rfl (by rw [nI_leI (by omega) (by omega)]; omega) ?_
      refine mj_run 1 rfl trivial ?_
      refine sx_gr rfl h1 rfl h3 ?_
      refine mj_run 1 rfl trivial ?_
      refine sx_ld rfl h2 (nI_vi (by omega) (by decide)) ?_
      rw [nI_nc (by omega), h5 k (by omega)]
      refine mj_run 1 rfl trivial ?_
      refine mj_brt rfl rfl (by rw [nI_e (by omega) (by decide)]; exact hno k hfk (by omega)) ?_
      refine mj_run 2 rfl trivial ?_
      rw [nI_add]
      exact ih (k + 1) (by omega) (by omega)
  exact key (e - f) f (by omega) (by omega)
theorem Pt_new {b c t q : Nat} (hm : mj_mt b m = some (t, q)) (ht : mj_any t [11, 12, 14, 18] = true) : mj_call mj_P (d + 1) kn_Pt_init [.ref b, .ref c] (m, I, R, J) none (m, I, mj_ur R b 0 (some c), J) := by
  refine mj_ci rfl (Nat.le_of_ble_eq_true rfl) ?_
  refine mj_run 4 rfl trivial ?_
  refine sx_pr rfl hm ht ?_
  exact mj_end rfl rfl trivial
theorem He_new {b c t q : Nat} (hm : mj_mt b m = some (t, q)) (ht : mj_any t [11, 12, 14, 18] = true) : mj_call mj_P (d + 2) kn_He_init [.ref b, .ref c] (m, I, R, J) none (m, I, mj_ur R b 0 (some c), J) := by
  refine mj_ci rfl (Nat.le_of_ble_eq_true rfl) ?_
  refine mj_run 2 rfl trivial ?_
  refine mj_cal rfl rfl (Pt_new hm ht) ?_
  exact mj_end rfl rfl trivial
theorem Sw_new {b c t q : Nat} (hm : mj_mt b m = some (t, q)) (ht : mj_any t [11, 12, 14, 18] = true) : mj_call mj_P (d + 2) kn_Sw_init [.ref b, .ref c] (m, I, R, J) none (m, I, mj_ur R b 0 (some c), J) := by
  refine mj_ci rfl (Nat.le_of_ble_eq_true rfl) ?_
  refine mj_run 2 rfl trivial ?_
  refine mj_cal rfl rfl (Pt_new hm ht) ?_
  exact mj_end rfl rfl trivial
theorem La_new {b c t q : Nat} (hm : mj_mt b m = some (t, q)) (ht : mj_any t [11, 12, 14, 18] = true) : mj_call mj_P (d + 3) kn_La_init [.ref b, .ref c] (m, I, R, J) none (m, I, mj_ur R b 0 (some c), J) := by
  refine mj_ci rfl (Nat.le_of_ble_eq_true rfl) ?_
  refine mj_run 2 rfl trivial ?_
  refine mj_cal rfl rfl (He_new hm ht) ?_
  exact mj_end rfl rfl trivial
theorem G_pointIn (hb : pn ≤ 50 ∧ ∀ i, i < pn → 1 ≤ pg i ∧ pg i ≤ 126) (h : PGH m I R pn pg) {fr en kd k : Nat} {W : Nat → Nat} (hfr : fr < pn) (hen : en ≤ pn) (hkd : sg (pg fr) = kd) (hk3 : k ≤ 3) (hlen : fr + (if kd = 0 then 0 else 1) + k = en) (hW : ∀ w, w < k → po (pg (fr + (if kd = 0 then 0 else 1) + w)) = some (W w)) : ∃ I' R' J', mj_call mj_P (d + 4) kn_Pg_pointIn [.ref 2, .int (nI fr), .int (nI en)] (m, I, R, J) (some (.ref (m.length + 1))) (m ++ [(0, k), (ptg kd, 1)], I', R', J') ∧ Ext m I R (m ++ [(0, k), (ptg kd, 1)]) I' R' ∧ PT (m ++ [(0, k), (ptg kd, 1)]) R' (m.length + 1) m.length kd k ∧ ∀ w, w < k → I' m.length w = nI (W w) := by
  obtain ⟨h1, h2, h3, h4, h5, h6⟩ := h
  have hkd4 : kd < 4 := by rw [← hkd]; exact sg_lt _
  generalize hfi : fr + (if kd = 0 then 0 else 1) = fi at hlen hW
  have hc := hb.2 fr hfr
  have g3 : mj_mt 3 (m ++ [(0, k)]) = some (0, 50) := mt_old h2 _
  have g2 : mj_mt 2 (m ++ [(0, k)]) = some (13, 2) := mt_old h1 _
  have gl : mj_mt m.length (m ++ [(0, k)]) = some (0, k) := mt_last m _
  generalize hI1 : mj_row I m.length (fun i => if i < k then nI (W i) else 0) = I1
  have e3 : ∀ a, a < m.length → I1 a = I a := fun a ha => by rw [← hI1]; simp [mj_row, show a ≠ m.length by omega]
  have len1 : (m ++ [(0, k)]).length = m.length + 1 := by simp
  -- what is made at the end
  have fin : ∀ (tag : Nat) (J' : mjJ), tag = ptg kd → Ext m I R (m ++ [(0, k), (ptg kd, 1)]) (mj_row I1 (m ++ [(0, k)]).length (fun _ => 0)) (mj_ur (mj_rowR R (m ++ [(0, k)]).length (fun _ => none)) (m ++ [(0, k)]).length 0 (some m.length)) ∧ PT (m ++ [(0, k), (ptg kd, 1)]) (mj_ur (mj_rowR R (m ++ [(0, k)]).length (fun _ => none)) (m ++ [(0, k)]).length 0 (some m.length)) (m.length + 1) m.length kd k ∧ ∀ w, w < k → mj_row I1 (m ++ [(0, k)]).length (fun _ => 0) m.length w = nI (W w) := by
    intro tag J' _
    rw [len1]
    refine ⟨⟨⟨_, rfl⟩, fun a ha => ?_⟩, ⟨⟨1, ?_⟩, ?_, ?_⟩, fun w hw => ?_⟩
    · have ne : a ≠ m.length + 1 := by omega
      exact ⟨by simp [mj_row, ne, e3 a ha], by simp [mj_ur, mj_rowR, ne]⟩
    · have := mt_last (m ++ [(0, k)]) (ptg kd, 1)
      rw [len1] at this
      simpa using this
    · simp [mj_ur, va_up]
    · have := mt_old gl [(ptg kd, 1)]
      simpa using this
    · rw [← hI1]
      simp [mj_row, hw]
  -- the ways, then the point
  have tail : ∀ (v : Option Value) (h' : mjH), mj_Rd (mj_call mj_P (d + 3)) kc_Pg_pointIn 4 (70, [some (.ref 2), some (.int (nI fr)), some (.int (nI en)), some (.int (nI kd)), some (.int (nI fi)), some (.ref m.length), some (.int (nI k))], [], m ++ [(0, k)], I1, R, J) v h' → mj_call mj_P (d + 4) kn_Pg_pointIn [.ref 2, .int (nI fr), .int (nI en)] (m, I, R, J) v h' := by
    intro v h' hx
    have at21 : mj_Rd (mj_call mj_P (d + 3)) kc_Pg_pointIn 4 (21, [some (.ref 2), some (.int (nI fr)), some (.int (nI en)), some (.int (nI kd)), none, none, none], [.int (nI fi)], m, I, R, J) v h' := by
      refine mj_run 5 rfl trivial ?_
      rw [pk_sub (by omega), show en - fi = k by omega]
      refine mj_cal rfl rfl (c_max (a := 0) (b := k) _ _ (by omega) (by omega)) ?_
      rw [show max 0 k = k by omega]
      refine mj_run 4 rfl ⟨i_nn (by omega), by rw [nI_nc (by omega)]; omega⟩ ?_
      rw [nI_nc (show k < 2147483648 by omega)]
      have key := dn_ind k (fun j => mj_Rd (mj_call mj_P (d + 3)) kc_Pg_pointIn 4 (38, [some (.ref 2), some (.int (nI fr)), some (.int (nI en)), some (.int (nI kd)), some (.int (nI fi)), some (.ref m.length), some (.int (nI j))], [], m ++ [(0, k)], mj_row I m.length (fun i => if i < j then nI (W i) else 0), R, J) v h') ?_ ?_ 0 (by omega)
      · have e0 : (fun i : Nat => if i < 0 then nI (W i) else (0 : Int32)) = fun _ => 0 := by funext i; simp
        rw [e0] at key
        exact key
      · refine mj_run 2 rfl trivial ?_
        refine sx_ln rfl gl rfl ?_
        refine mj_brt rfl rfl (by rw [nI_leI (by omega) (by omega)]; omega) ?_
        rw [hI1]
        exact hx
      · intro j hj ih
        refine mj_run 2 rfl trivial ?_
        refine sx_ln rfl gl rfl ?_
        refine mj_brf rfl rfl (by rw [nI_leI (by omega) (by omega)]; omega) ?_
        refine mj_run 3 rfl trivial ?_
        refine sx_gr rfl g2 rfl h3 ?_
        refine mj_run 3 rfl trivial ?_
        rw [nI_add]
        refine sx_ld rfl g3 (nI_vi (by omega) (by decide)) ?_
        have e5 : mj_row I m.length (fun i => if i < j then nI (W i) else 0) 3 (fi + j) = nI (pg (fi + j)) := by
          have : (3 : Nat) ≠ m.length := by omega
          simp [mj_row, this, h5 (fi + j) (by omega)]
        have hc2 := hb.2 (fi + j) (by omega)
        rw [nI_nc (by omega), e5]
        refine mj_cal rfl rfl (G_place _ (by omega)) ?_
        rw [hW j hj]
        refine sx_st rfl gl (nI_vi hj (by omega)) (by omega) ?_
        rw [nI_nc (by omega)]
        refine mj_run 2 rfl trivial ?_
        have e6 : mj_ui (mj_row I m.length (fun i => if i < j then nI (W i) else 0)) m.length j (gv (some (W j))) = mj_row I m.length (fun i => if i < j + 1 then nI (W i) else 0) := by
          funext b
          by_cases e : b = m.length
          · subst e
            funext i
            by_cases e2 : i = j
            · simp [mj_ui, mj_row, upd, e2, gv]
            · by_cases e3 : i < j
              · simp [mj_ui, mj_row, upd, e2, e3, show i < j + 1 by omega]
              · simp [mj_ui, mj_row, upd, e2, e3, show ¬ i < j + 1 by omega]
          · simp [mj_ui, mj_row, e]
        rw [e6, nI_add]
        exact ih
    refine mj_ci rfl (Nat.le_of_ble_eq_true rfl) ?_
    refine mj_run 1 rfl trivial ?_
    refine sx_gr rfl h1 rfl h3 ?_
    refine mj_run 1 rfl trivial ?_
    refine sx_ld rfl h2 (nI_vi (by omega) (by decide)) ?_
    rw [nI_nc (by omega), h5 fr hfr]
    refine mj_cal rfl rfl (G_kind _ (by omega)) ?_
    rw [hkd]
    refine mj_run 2 rfl trivial ?_
    by_cases q : kd = 0
    · rw [if_pos q] at hfi
      have : fi = fr := by omega
      refine mj_brf rfl rfl (by rw [nI_z (by omega)]; omega) ?_
      refine mj_run 2 rfl trivial ?_
      rw [this] at at21
      exact at21
    · rw [if_neg q] at hfi
      refine mj_brt rfl rfl (by rw [nI_z (by omega)]; exact q) ?_
      refine mj_run 3 rfl trivial ?_
      rw [nI_add, hfi]
      exact at21
  have e12 : ∀ tg : Nat, m ++ [(0, k)] ++ [(tg, 1)] = m ++ [(0, k), (tg, 1)] := fun tg => by simp
  have one : ∀ tg : Nat, mj_mt (m ++ [(0, k)]).length (m ++ [(0, k)] ++ [(tg, 1)]) = some (tg, 1) := fun tg => mt_last _ _
  have hcase : kd = 0 ∨ kd = 1 ∨ kd = 2 ∨ kd = 3 := by omega
  obtain ⟨f1, f2, f3⟩ := fin (ptg kd) J rfl
  refine ⟨_, _, mj_rowJ J (m ++ [(0, k)]).length (fun _ => 0), ?_, f1, f2, f3⟩
  refine tail _ _ ?_
  rw [← len1]
  rcases hcase with e | e | e | e <;> subst e
  · refine mj_run 2 rfl trivial ?_
    rw [show mj_sw 1 126 [96, 106, 116] (nI 0) = 126 by decide]
    refine mj_run 3 rfl trivial ?_
    refine mj_cal rfl rfl (Pt_new (one 14) rfl) ?_
    rw [e12]
    exact mj_end rfl rfl trivial
  · refine mj_run 2 rfl trivial ?_
    rw [show mj_sw 1 126 [96, 106, 116] (nI 1) = 96 by decide]
    refine mj_run 3 rfl trivial ?_
    refine mj_cal rfl rfl (He_new (one 11) rfl) ?_
    rw [e12]
    exact mj_end rfl rfl trivial
  · refine mj_run 2 rfl trivial ?_
    rw [show mj_sw 1 126 [96, 106, 116] (nI 2) = 106 by decide]
    refine mj_run 3 rfl trivial ?_
    refine mj_cal rfl rfl (Sw_new (one 18) rfl) ?_
    rw [e12]
    exact mj_end rfl rfl trivial
  · refine mj_run 2 rfl trivial ?_
    rw [show mj_sw 1 126 [96, 106, 116] (nI 3) = 116 by decide]
    refine mj_run 3 rfl trivial ?_
    refine mj_cal rfl rfl (La_new (one 12) rfl) ?_
    rw [e12]
    exact mj_end rfl rfl trivial
end GG
