theorem mj_wc_app (w : mjW) (I : mjI) (R : mjR) (J : mjJ) : ∀ (a : Nat) (x y : List (Nat × Nat)), mj_wc w I R J a (x ++ y) = mj_wc w I R J a x ++ mj_wc w I R J (a + x.length) y
  | a, [], y => by simp [mj_wc]
  | a, z :: x, y => by
    simp only [List.cons_append, mj_wc, mj_wc_app w I R J (a + 1) x y, List.length_cons]
    rw [show a + 1 + x.length = a + (x.length + 1) by omega]
theorem mj_wc_congr {w : mjW} {I I' : mjI} {R R' : mjR} {J J' : mjJ} : ∀ (a : Nat) (x : List (Nat × Nat)), (∀ b, b ≤ a + x.length → I' b = I b ∧ R' b = R b ∧ J' b = J b) → mj_wc w I' R' J' a x = mj_wc w I R J a x
  | _, [], _ => rfl
  | a, z :: x, h => by
    obtain ⟨h1, h2, h3⟩ := h (a + 1) (by simp)
    simp only [mj_wc]
    rw [mj_ce_congr h1 h2 h3, mj_wc_congr (a + 1) x (fun b hb => h b (by simp; omega))]
/-- cells are made -/
theorem mj_ws_push {w : mjW} {m ys : mjM} {I I' : mjI} {R R' : mjR} {J J' : mjJ} (hm : 1 ≤ m.length) (h : ∀ b, b < m.length → I' b = I b ∧ R' b = R b ∧ J' b = J b) : mj_ws w (m ++ ys, I', R', J') = mj_ws w (m, I, R, J) ++ mj_wc w I' R' J' (m.length - 1) ys := by
  cases m with
  | nil => simp at hm
  | cons z m =>
    simp only [mj_ws, List.cons_append, List.tail_cons]
    rw [mj_wc_app, mj_wc_congr 0 m (fun b hb => h b (by simp; omega))]
    simp
theorem mj_any_of {t : Nat} : ∀ {cs : List Nat}, t ∈ cs → mj_any t cs = true
  | [], h => by cases h
  | c :: cs, h => by
    unfold mj_any
    split
    · rfl
    next hb =>
      rcases List.mem_cons.mp h with e | e
      · rw [e, Nat.beq_refl] at hb
        cases hb
      · exact mj_any_of e
theorem mj_xn_in {z : Cond} (h : z ∈ lw_tbl) (hz : mj_isx z = true) : z ∈ mj_xn := List.mem_filter.mpr ⟨h, hz⟩
theorem mj_ty_ok0 : ∀ ci, ci < 13 → ∀ j, j < mj_nf ci → mj_tc (mj_ty ci j) ≠ 9 := by decide +kernel
theorem mj_ty_ok {ci j : Nat} {q : vw_C} (h : vwCl[ci]? = some q) (hj : j < mj_nf ci) : mj_tc (mj_ty ci j) ≠ 9 := mj_ty_ok0 ci (by have := (List.getElem?_eq_some_iff.mp h).1; simpa [vwCl] using this) j hj
section MJ
variable {p : Program} {l : Launch} {e : Env} {R : Room} {s : State} {mi : MethodId} {args : Array Value} {below : List Frame} {meth : Method} {c : Code} {Q : State → Prop} {w : mjW} {D : va_G} {L : Nat} {xs : Nat → Int32} {own nL : Nat} {cc : ByteArray} {ini : Bool} {n0 u0 nE uE : Nat}
theorem mj_Wub {H : Heap} {locs : List Loc} {cells slots : Nat} {g : JFrame} (k : H.size ≤ s.heap.size + cells → W p l e R s mi args below meth c H locs cells slots Q g) : W p l e R s mi args below meth c H locs cells slots Q g := fun T hT X => k (by have h := X.heapSize; rw [hT] at h; exact h) T hT X
/-- where the one new cell is -/
theorem mj_fresh {m : mjM} {I : mjI} {RR : mjR} {J : mjJ} {q : Nat} {en : va_E} {H1 : Heap} (hm : 1 ≤ m.length) (hP : va_P D vwCl (mj_ws w (m, I, RR, J) ++ [(q, en)]) H1) (hD : va_D (fun q : Nat => w.2.1 ≤ q) (mj_ws w (m, I, RR, J) ++ [(q, en)])) (hz : H1.size ≤ w.2.1 + m.length) : q = w.2.1 + (m.length - 1) ∧ H1.size = w.2.1 + m.length := by
  have hlen : (mj_ws w (m, I, RR, J)).length = m.length - 1 := mj_ws_len w (m, I, RR, J)
  have hq : (mj_ws w (m, I, RR, J) ++ [(q, en)])[m.length - 1]? = some (q, en) := by
    rw [List.getElem?_append_right (by omega), hlen]
    simp
  have h1 := (hP _ _ hq).lt
  have h2 : w.2.1 ≤ q := hD.2 _ _ hq
  have h1' : q < H1.size := h1
  have h3 : q = w.2.1 + (m.length - 1) := by
    rcases Nat.lt_or_ge q (w.2.1 + (m.length - 1)) with h4 | h4
    · exfalso
      obtain ⟨i, hi⟩ : ∃ i, q = w.2.1 + i := ⟨q - w.2.1, by omega⟩
      have hil : i < (mj_ws w (m, I, RR, J)).length := by omega
      obtain ⟨y, hy⟩ : ∃ y, (mj_ws w (m, I, RR, J))[i]? = some y := ⟨_, List.getElem?_eq_getElem hil⟩
      have hy2 : (mj_ws w (m, I, RR, J) ++ [(q, en)])[i]? = some y := by rw [List.getElem?_append_left hil]; exact hy
      have := hD.1 _ _ _ _ hy2 hq (by rw [mj_ws_adr hy]; exact hi.symm)
      omega
    · omega
  exact ⟨h3, by omega⟩
theorem mj_sl_app (m y : mjM) : mj_sl (m ++ y) = mj_sl m + mj_sl y := by simp [mj_sl]
theorem mj_made (C : mj_Cx p R s mi args meth c w D L xs own nL cc ini n0 u0 nE uE) {n N : Nat} {x : Nat × Nat} (hN : x.2 = N) {ls : List (Option Value)} {st : List Value} {m : mjM} {I I' : mjI} {RR R' : mjR} {J J' : mjJ} {q : Nat} {en : va_E} {H H1 : Heap} {locs : List Loc} {als : Array Slot} {cells slots : Nat} (hb : ∀ b, b < m.length → I' b = I b ∧ R' b = RR b ∧ J' b = J b) (hH : mj_HR w D L xs (m, I, RR, J) H) (hP1 : va_P D vwCl (mj_ws w (m, I, RR, J) ++ [(q, en)]) H1) (hD1 : va_D (fun q : Nat => w.2.1 ≤ q) (mj_ws w (m, I, RR, J) ++ [(q, en)])) (hen : en = mj_ce w I' R' J' m.length x) (hS1 : va_S (fun q : Nat => w.2.1 ≤ q) s.heap H1 locs) (hL : mj_LR w nL ls als) (hc : n0 + cells = m.length) (hs : u0 + slots = mj_sl m)
    (kk : mj_Sim p l e R s mi args below meth c Q w D L xs nL n0 u0 (n, ls, .ref m.length :: st, m ++ [x], I', R', J')) : W p l e R s mi args below meth c H1 locs (cells + 1) (slots + N) Q (F0 mi n als (.ref q :: st.map (mj_cv w))) := by
  obtain ⟨-, -, -, -, -, -, -, -, -, -, hsz, hn0, -⟩ := C
  obtain ⟨hz, hm0, hx0, -⟩ := hH
  have hml : 1 ≤ m.length := by omega
  refine mj_Wub (fun hub => ?_)
  obtain ⟨hq, hz1⟩ := mj_fresh hml hP1 hD1 (by omega)
  have hws : mj_ws w (m, I, RR, J) ++ [(q, en)] = mj_ws w (m ++ [x], I', R', J') := by
    rw [mj_ws_push hml hb]
    simp only [mj_wc]
    rw [hq, hen, show m.length - 1 + 1 = m.length by omega]
  rw [hws] at hP1
  have had : q = mj_ad w m.length := by
    rw [hq]
    cases hmm : m.length with
    | zero => omega
    | succ k => rfl
  rw [had]
  refine kk H1 locs als (cells + 1) (slots + N) ⟨?_, ?_, ?_, hP1⟩ hS1 hL ?_ ?_
  · show H1.size + 1 = w.2.1 + (m ++ [x]).length
    rw [List.length_append]
    simp
    omega
  · show mj_mt 0 (m ++ [x]) = some (0, L)
    have hm0' : mj_mt 0 m = some (0, L) := hm0
    cases m with
    | nil => simp [mj_mt] at hm0'
    | cons z m => simpa [mj_mt] using hm0'
  · exact (hb 0 (by omega)).1.trans hx0
  · show n0 + (cells + 1) = (m ++ [x]).length
    rw [List.length_append]
    simp
    omega
  · show u0 + (slots + N) = mj_sl (m ++ [x])
    rw [mj_sl_app, ← hs, ← hN]
    simp [mj_sl]
    omega
theorem mj_tys_int (C : mj_Cx p R s mi args meth c w D L xs own nL cc ini n0 u0 nE uE) {cA : ClassId} (hK : va_K D vwCl (mj_tys w ++ [(cA, .int)]) s) : cA = w.2.2.1 := by
  obtain ⟨-, -, -, -, -, hK0, -⟩ := C
  have h1 : s.vm.findClass ("[" ++ FieldType.int.toString) = some cA := (hK.2 4 _ rfl).2
  have h2 : s.vm.findClass ("[" ++ FieldType.int.toString) = some w.2.2.1 := (hK0.2 0 _ rfl).2
  exact Option.some.inj (h1.symm.trans h2)
theorem mj_tys_byte (C : mj_Cx p R s mi args meth c w D L xs own nL cc ini n0 u0 nE uE) {cA : ClassId} (hK : va_K D vwCl (mj_tys w ++ [(cA, .byte)]) s) : cA = w.2.2.2.1 := by
  obtain ⟨-, -, -, -, -, hK0, -⟩ := C
  have h1 : s.vm.findClass ("[" ++ FieldType.byte.toString) = some cA := (hK.2 4 _ rfl).2
  have h2 : s.vm.findClass ("[" ++ FieldType.byte.toString) = some w.2.2.2.1 := (hK0.2 1 _ rfl).2
  exact Option.some.inj (h1.symm.trans h2)
theorem mj_tys_pt (C : mj_Cx p R s mi args meth c w D L xs own nL cc ini n0 u0 nE uE) {cA : ClassId} (hK : va_K D vwCl (mj_tys w ++ [(cA, .object "PointsThrow$Point")]) s) : cA = w.2.2.2.2.2 := by
  obtain ⟨-, -, -, -, -, hK0, -⟩ := C
  obtain ⟨_, _, _, _, _, h1⟩ := (hK.2 4 _ rfl).2
  obtain ⟨_, _, _, _, _, h2⟩ := (hK0.2 3 _ rfl).2
  exact Option.some.inj (h1.symm.trans h2)
theorem mj_s_newI (C : mj_Cx p R s mi args meth c w D L xs own nL cc ini n0 u0 nE uE) {pc : Nat} (hd : decode cc pc = .ok (.newarray .int, 2)) (hw : Cond.arrayClass .int ∈ mj_tb) {ls : List (Option Value)} {st : List Value} {m : mjM} {I : mjI} {RR : mjR} {J : mjJ} {o : Option Prop} {cf' : mjC} (hst : mj_newa 0 (pc + 2) ls st m I RR J = some (o, cf')) (ho : mj_ok o) (hE : cf'.2.2.2.1.length ≤ nE ∧ mj_sl cf'.2.2.2.1 ≤ uE) (kk : mj_Sim p l e R s mi args below meth c Q w D L xs nL n0 u0 cf') : mj_Sim p l e R s mi args below meth c Q w D L xs nL n0 u0 (pc, ls, st, m, I, RR, J) := by
  have C0 := C
  obtain ⟨hx, hb, hml, hown, hts, hK, -, -, hX, hbB, hsz, hn0, hfr, hlo, hRc, hRs⟩ := C
  unfold mj_newa at hst
  split at hst <;> try (cases hst; done)
  next x st' =>
    simp only [Option.some.injEq, Prod.mk.injEq] at hst
    obtain ⟨rfl, rfl⟩ := hst
    obtain ⟨hx0, hx1⟩ : ¬ x < 0 ∧ x.toNatClampNeg ≤ 1000000 := ho
    intro H locs als cells slots hH hS hL hc hs
    have hH0 := hH
    obtain ⟨hz, hm0, hx00, hP⟩ := hH
    have hE1 : m.length + 1 ≤ nE := by simpa using hE.1
    have hE2 : mj_sl m + x.toNatClampNeg ≤ uE := by simpa [mj_sl_app, mj_sl] using hE.2
    have hc' : n0 + cells = m.length := hc
    have hs' : u0 + slots = mj_sl m := hs
    show W p l e R s mi args below meth c H locs cells slots Q (F0 mi pc als (.int x :: st'.map (mj_cv w)))
    refine va_newa (D := D) (A := fun q : Nat => w.2.1 ≤ q) (a0 := (x.toNatClampNeg, .inl (fun _ => 0))) hx hb (show (Cond.arrayClass (newarray.typeOf .int)).before args s = true from hts _ hw) rfl hK hP (mj_D w (m, I, RR, J)) hS (fun q hq => by show w.2.1 ≤ q; omega) (fun cA => rfl) hx0 rfl (by show x.toNatClampNeg * 4 ≤ 536870912; omega) (by omega) (by omega) hd (fun q cA H1 hK1 hP1 hD1 hS1 => ?_)
    have hcA := mj_tys_int C0 hK1
    subst hcA
    exact mj_made C0 (x := (0, x.toNatClampNeg)) rfl (fun b hb => ⟨by simp [mj_row, Nat.ne_of_lt hb], rfl, rfl⟩) hH0 hP1 hD1 (by simp [mj_ce, mj_row]) hS1 hL hc hs kk
theorem mj_s_newB (C : mj_Cx p R s mi args meth c w D L xs own nL cc ini n0 u0 nE uE) {pc : Nat} (hd : decode cc pc = .ok (.newarray .byte, 2)) (hw : Cond.arrayClass .byte ∈ mj_tb) {ls : List (Option Value)} {st : List Value} {m : mjM} {I : mjI} {RR : mjR} {J : mjJ} {o : Option Prop} {cf' : mjC} (hst : mj_newa 1 (pc + 2) ls st m I RR J = some (o, cf')) (ho : mj_ok o) (hE : cf'.2.2.2.1.length ≤ nE ∧ mj_sl cf'.2.2.2.1 ≤ uE) (kk : mj_Sim p l e R s mi args below meth c Q w D L xs nL n0 u0 cf') : mj_Sim p l e R s mi args below meth c Q w D L xs nL n0 u0 (pc, ls, st, m, I, RR, J) := by
  have C0 := C
  obtain ⟨hx, hb, hml, hown, hts, hK, -, -, hX, hbB, hsz, hn0, hfr, hlo, hRc, hRs⟩ := C
  unfold mj_newa at hst
  split at hst <;> try (cases hst; done)
  next x st' =>
    simp only [Option.some.injEq, Prod.mk.injEq] at hst
    obtain ⟨rfl, rfl⟩ := hst
    obtain ⟨hx0, hx1⟩ : ¬ x < 0 ∧ x.toNatClampNeg ≤ 1000000 := ho
    intro H locs als cells slots hH hS hL hc hs
    have hH0 := hH
    obtain ⟨hz, hm0, hx00, hP⟩ := hH
    have hE1 : m.length + 1 ≤ nE := by simpa using hE.1
    have hE2 : mj_sl m + x.toNatClampNeg ≤ uE := by simpa [mj_sl_app, mj_sl] using hE.2
    have hc' : n0 + cells = m.length := hc
    have hs' : u0 + slots = mj_sl m := hs
    show W p l e R s mi args below meth c H locs cells slots Q (F0 mi pc als (.int x :: st'.map (mj_cv w)))
    refine va_newa (D := D) (A := fun q : Nat => w.2.1 ≤ q) (a0 := (x.toNatClampNeg, .inl (fun _ => 0))) hx hb (show (Cond.arrayClass (newarray.typeOf .byte)).before args s = true from hts _ hw) rfl hK hP (mj_D w (m, I, RR, J)) hS (fun q hq => by show w.2.1 ≤ q; omega) (fun cA => rfl) hx0 rfl (by show x.toNatClampNeg * 1 ≤ 536870912; omega) (by omega) (by omega) hd (fun q cA H1 hK1 hP1 hD1 hS1 => ?_)
    have hcA := mj_tys_byte C0 hK1
    subst hcA
    exact mj_made C0 (x := (1, x.toNatClampNeg)) rfl (fun b hb => ⟨by simp [mj_row, Nat.ne_of_lt hb], rfl, rfl⟩) hH0 hP1 hD1 (by simp [mj_ce, mj_row]) hS1 hL hc hs kk
theorem mj_s_newq (C : mj_Cx p R s mi args meth c w D L xs own nL cc ini n0 u0 nE uE) {pc idx : Nat} (hd : decode cc pc = .ok (.anewarray idx, 3)) (hw : Cond.classLink (mj_cn own) idx "PointsThrow$Point" ∈ mj_tb) {ls : List (Option Value)} {st : List Value} {m : mjM} {I : mjI} {RR : mjR} {J : mjJ} {o : Option Prop} {cf' : mjC} (hst : mj_newq (pc + 3) ls st m I RR J = some (o, cf')) (ho : mj_ok o) (hE : cf'.2.2.2.1.length ≤ nE ∧ mj_sl cf'.2.2.2.1 ≤ uE) (kk : mj_Sim p l e R s mi args below meth c Q w D L xs nL n0 u0 cf') : mj_Sim p l e R s mi args below meth c Q w D L xs nL n0 u0 (pc, ls, st, m, I, RR, J) := by
  have C0 := C
  obtain ⟨hx, hb, hml, hown, hts, hK, hXW, -, hX, hbB, hsz, hn0, hfr, hlo, hRc, hRs⟩ := C
  unfold mj_newq at hst
  split at hst <;> try (cases hst; done)
  next x st' =>
    simp only [Option.some.injEq, Prod.mk.injEq] at hst
    obtain ⟨rfl, rfl⟩ := hst
    obtain ⟨hx0, hx1⟩ : ¬ x < 0 ∧ x.toNatClampNeg ≤ 1000000 := ho
    intro H locs als cells slots hH hS hL hc hs
    have hH0 := hH
    obtain ⟨hz, hm0, hx00, hP⟩ := hH
    have hE1 : m.length + 1 ≤ nE := by simpa using hE.1
    have hE2 : mj_sl m + x.toNatClampNeg ≤ uE := by simpa [mj_sl_app, mj_sl] using hE.2
    have hc' : n0 + cells = m.length := hc
    have hs' : u0 + slots = mj_sl m := hs
    show W p l e R s mi args below meth c H locs cells slots Q (F0 mi pc als (.int x :: st'.map (mj_cv w)))
    refine va_newq (D := D) (A := fun q : Nat => w.2.1 ≤ q) hx hb hown (hts _ hw) hXW.2.1 hK hP (mj_D w (m, I, RR, J)) hS (fun q hq => by show w.2.1 ≤ q; omega) hx0 rfl (by omega) (by omega) (by omega) hd (fun q cA H1 hK1 hP1 hD1 hS1 => ?_)
    have hcA := mj_tys_pt C0 hK1
    subst hcA
    exact mj_made C0 (x := (3, x.toNatClampNeg)) rfl (fun b hb => ⟨rfl, by simp [mj_rowR, Nat.ne_of_lt hb], rfl⟩) hH0 hP1 hD1 (by simp [mj_ce, mj_rowR]) hS1 hL hc hs kk
def mj_VN (own idx t k : Nat) : Prop := ∃ (ci : Nat) (C : String) (T : u_T) (N : Nat), t = ci + 10 ∧ vwCl[ci]? = some (C, T, N) ∧ k = N ∧ Cond.classLink (mj_cn own) idx C ∈ mj_tb ∧ Cond.instantiable C N ∈ mj_tb ∧ Cond.initialized C ∈ mj_tb
theorem mj_s_new (C : mj_Cx p R s mi args meth c w D L xs own nL cc ini n0 u0 nE uE) {pc idx t k : Nat} (hd : decode cc pc = .ok (.new idx, 3)) (hv : mj_VN own idx t k) {ls : List (Option Value)} {st : List Value} {m : mjM} {I : mjI} {RR : mjR} {J : mjJ} {o : Option Prop} {cf' : mjC} (hst : mj_new (pc + 3) [t, k] ls st m I RR J = some (o, cf')) (hE : cf'.2.2.2.1.length ≤ nE ∧ mj_sl cf'.2.2.2.1 ≤ uE) (kk : mj_Sim p l e R s mi args below meth c Q w D L xs nL n0 u0 cf') : mj_Sim p l e R s mi args below meth c Q w D L xs nL n0 u0 (pc, ls, st, m, I, RR, J) := by
  have C0 := C
  obtain ⟨hx, hb, hml, hown, hts, hK, hXW, -, hX, hbB, hsz, hn0, hfr, hlo, hRc, hRs⟩ := C
  obtain ⟨ci, Cn, T, N, rfl, hcl, rfl, v1, v2, v3⟩ := hv
  simp only [mj_new, Option.some.injEq, Prod.mk.injEq] at hst
  obtain ⟨rfl, rfl⟩ := hst
  intro H locs als cells slots hH hS hL hc hs
  have hH0 := hH
  obtain ⟨hz, hm0, hx00, hP⟩ := hH
  have hE1 : m.length + 1 ≤ nE := by simpa using hE.1
  have hE2 : mj_sl m + k ≤ uE := by simpa [mj_sl_app, mj_sl] using hE.2
  have hc' : n0 + cells = m.length := hc
  have hs' : u0 + slots = mj_sl m := hs
  have hN : k = mj_nf ci := mj_cl_nf hcl
  refine va_new (C := Cn) (T := T) (N := k) (D := D) (A := fun q : Nat => w.2.1 ≤ q) (fs := mj_fs w (mj_row I m.length (fun _ => 0)) (mj_rowR RR m.length (fun _ => none)) (mj_rowJ J m.length (fun _ => 0)) m.length ci) hx hb hts (mj_cl_in hcl) (mj_ty ci) (mj_cl_ty hcl) hown (hts _ v1) (hts _ v2) (hts _ v3) hK hP (mj_D w (m, I, RR, J)) hS (fun q hq => by show w.2.1 ≤ q; omega) hcl (fun j hj => ?_) (by omega) (by omega) hd (fun q H1 hP1 hD1 hS1 => ?_)
  · have hj' : j < mj_nf ci := by omega
    simp only [vp_V, List.getD_eq_getElem?_getD, mj_fs_at _ _ _ _ _ _ hj', Option.getD_some]
    have h9 := mj_ty_ok hcl hj'
    cases hty : mj_ty ci j <;> rw [hty] at h9 <;> simp [mj_tc] at h9 <;> simp [mj_fv, mj_row, mj_rowR, mj_rowJ, defaultValue, va_rf]
  · exact mj_made C0 (x := (ci + 10, k)) rfl (fun b hb => ⟨by simp [mj_row, Nat.ne_of_lt hb], by simp [mj_rowR, Nat.ne_of_lt hb], by simp [mj_rowJ, Nat.ne_of_lt hb]⟩) hH0 hP1 hD1 (by rw [mj_ce_obj]) hS1 hL hc hs kk
end MJ
