theorem mj_outer (c : ClassId) (N h0 : Nat) : ∀ i : Nat, Jvm.Free.Multi.outerC c N h0 i = arrV c N (fun j => va_rf (if j < i then some (h0 + 1 + j) else none))
  | 0 => by
    show ({ cls := c, slots := Array.replicate N .null, vm := .none } : Cell) = _
    rw [arrV_new]
    refine congrArg (arrV c N) (funext fun j => ?_)
    simp [va_rf]
  | i + 1 => by
    show (Jvm.Free.Multi.outerC c N h0 i).setSlot i (.ref (h0 + 1 + i)) = _
    rw [mj_outer c N h0 i, arrV_store]
    refine congrArg (arrV c N) (funext fun j => ?_)
    by_cases e : j = i
    · subst e
      simp [updV, va_rf]
    · by_cases h : j < i
      · simp [updV, e, h, Nat.lt_succ_of_lt h]
      · simp [updV, e, h, show ¬ j < i + 1 by omega]
theorem mj_inner (c : ClassId) (k : Nat) : Jvm.Free.Multi.innerC c k (defaultValue .int) = vp_cell c (k, .inl (fun _ => 0)) := by
  rw [vp_cell_i]
  show ({ cls := c, slots := Array.replicate k (defaultValue .int), vm := .none } : Cell) = _
  rw [arrV_new]
  rfl
section MJ
variable {p : Program} {l : Launch} {e : Env} {R : Room} {s : State} {mi : MethodId} {args : Array Value} {below : List Frame} {meth : Method} {c : Code} {Q : State → Prop} {w : mjW} {D : va_G} {L : Nat} {xs : Nat → Int32} {own nL : Nat} {cc : ByteArray} {ini : Bool} {n0 u0 nE uE : Nat}
theorem mj_s_newm (C : mj_Cx p R s mi args meth c w D L xs own nL cc ini n0 u0 nE uE) {pc idx : Nat} (hd : decode cc pc = .ok (.multianewarray idx 2, 4)) (hw : Cond.classLink (mj_cn own) idx "[[I" ∈ mj_tb) {ls : List (Option Value)} {st : List Value} {m : mjM} {I : mjI} {RR : mjR} {J : mjJ} {o : Option Prop} {cf' : mjC} (hst : mj_newm (pc + 4) ls st m I RR J = some (o, cf')) (ho : mj_ok o) (hE : cf'.2.2.2.1.length ≤ nE ∧ mj_sl cf'.2.2.2.1 ≤ uE) (kk : mj_Sim p l e R s mi args below meth c Q w D L xs nL n0 u0 cf') : mj_Sim p l e R s mi args below meth c Q w D L xs nL n0 u0 (pc, ls, st, m, I, RR, J) := by
  have C0 := C
  obtain ⟨hx, hb, hml, hown, hts, hK, hXW, -, hX, hbB, hsz, hn0, hfr, hlo, hRc, hRs⟩ := C
  unfold mj_newm at hst
  split at hst <;> try (cases hst; done)
  next k x st' =>
    simp only [Option.some.injEq, Prod.mk.injEq] at hst
    obtain ⟨rfl, rfl⟩ := hst
    obtain ⟨g1, g2, g3, g4⟩ : ¬ x < 0 ∧ ¬ k < 0 ∧ x.toNatClampNeg ≤ 1000 ∧ k.toNatClampNeg ≤ 1000 := ho
    intro H locs als cells slots hH hS hL hc hs
    obtain ⟨hz, hm0, hx00, hP⟩ := hH
    have hz' : H.size + 1 = w.2.1 + m.length := hz
    have hsl : mj_sl (m ++ (2, x.toNatClampNeg) :: List.replicate x.toNatClampNeg (0, k.toNatClampNeg)) = mj_sl m + (x.toNatClampNeg + x.toNatClampNeg * k.toNatClampNeg) := by
      rw [mj_sl_app]
      simp [mj_sl]
    have hE1 : m.length + (1 + x.toNatClampNeg) ≤ nE := by
      have := hE.1
      simp at this
      omega
    have hE2 : mj_sl m + (x.toNatClampNeg + x.toNatClampNeg * k.toNatClampNeg) ≤ uE := by
      have h9 : mj_sl (m ++ (2, x.toNatClampNeg) :: List.replicate x.toNatClampNeg (0, k.toNatClampNeg)) ≤ uE := hE.2
      omega
    have hc' : n0 + cells = m.length := hc
    have hs' : u0 + slots = mj_sl m := hs
    have hml1 : 1 ≤ m.length := by omega
    show W p l e R s mi args below meth c H locs cells slots Q (F0 mi pc als (.int k :: .int x :: st'.map (mj_cv w)))
    intro T hT Xs
    have hbytes : ∀ n : Nat, n ≤ 1000 → n * 4 ≤ 536870912 := fun n h => by omega
    obtain ⟨vm₁, cA, comp, -, fA, fC, hO, -, X', step⟩ := Xs.multianewarray2F (ty := .int) hx hown (show (Cond.classLink (mj_cn own) idx ("[" ++ (FieldType.array .int).toString)).before args s = true from hts _ hw) (show (Cond.arrayOver (.array .int)).before args s = true from hXW.2.2.1) (hts _ mj_t1) (g := F0 mi pc als (.int k :: .int x :: st'.map (mj_cv w))) rfl (by rw [hb]; exact hd) rfl g1 g2 (by omega) (by show k.toNatClampNeg * 4 ≤ _; omega) (by omega) rfl rfl (by omega) (by omega)
    have ec : comp = w.2.2.1 := by
      have h2 : s.vm.findClass ("[" ++ FieldType.int.toString) = some w.2.2.1 := (hK.2 0 _ rfl).2
      exact Option.some.inj (fC.symm.trans h2)
    have eA : cA = w.2.2.2.2.1 := by
      have h2 : s.vm.findClass ("[" ++ (FieldType.array .int).toString) = some w.2.2.2.2.1 := (hK.2 2 _ rfl).2
      exact Option.some.inj (fA.symm.trans h2)
    subst ec
    subst eA
    generalize hF : Jvm.Free.Multi.fill (T.setVm vm₁) w.2.2.2.2.1 w.2.2.1 x.toNatClampNeg k.toNatClampNeg (defaultValue .int) x.toNatClampNeg = F at X' step
    have hTh : (T.setVm vm₁).heap = H := hT
    obtain ⟨f1, f2, -, -⟩ := Jvm.Free.Multi.fill_facts (T.setVm vm₁) w.2.2.2.2.1 w.2.2.1 x.toNatClampNeg k.toNatClampNeg (defaultValue .int) x.toNatClampNeg
    rw [hF, hTh] at f1 f2
    have hold : ∀ y : Nat, y < H.size → F.heap[y]? = H[y]? := fun y hy => by
      have := Jvm.Free.Multi.fill_old (T.setVm vm₁) w.2.2.2.2.1 w.2.2.1 x.toNatClampNeg k.toNatClampNeg (defaultValue .int) (a := y) (by rw [hTh]; exact hy) x.toNatClampNeg
      rw [hF, hTh] at this
      exact this
    have hrow : ∀ j : Nat, j < x.toNatClampNeg → F.heap[H.size + 1 + j]? = some (vp_cell w.2.2.1 (k.toNatClampNeg, .inl (fun _ => 0))) := fun j hj => by
      have := Jvm.Free.Multi.fill_inner (T.setVm vm₁) w.2.2.2.2.1 w.2.2.1 x.toNatClampNeg k.toNatClampNeg (defaultValue .int) x.toNatClampNeg j hj
      rw [hF, hTh, mj_inner] at this
      exact this
    have hPn : va_P D vwCl (mj_ws w (m ++ (2, x.toNatClampNeg) :: List.replicate x.toNatClampNeg (0, k.toNatClampNeg), mj_rows I (m.length + 1) x.toNatClampNeg, mj_rowR RR m.length (fun j => if j < x.toNatClampNeg then some (m.length + 1 + j) else none), J)) F.heap := by
      rw [mj_ws_push hml1 (I := I) (R := RR) (J := J) (fun b hb => ⟨by simp [mj_rows]; omega, by simp [mj_rowR, Nat.ne_of_lt hb], rfl⟩)]
      refine (hP.kept (fun k9 q hq => hold q.1 ((hP k9 q hq).lt))).app (fun i q hq => ?_)
      rw [mj_wc_at] at hq
      cases i with
      | zero =>
        simp only [List.getElem?_cons_zero, Option.map_some, Option.some.injEq] at hq
        subst hq
        show F.heap[w.2.1 + (m.length - 1 + 0)]? = some _
        rw [show w.2.1 + (m.length - 1 + 0) = H.size by omega, f2, mj_outer]
        rw [show m.length - 1 + 0 + 1 = m.length by omega]
        simp only [mj_rowR, if_true]
        rw [vp_cell_q]
        congr 2
        funext j
        by_cases hj : j < x.toNatClampNeg
        · simp only [hj, if_true, Option.map_some]
          rw [show m.length + 1 + j = (m.length + j) + 1 by omega]
          show va_rf (some (H.size + 1 + j)) = va_rf (some (w.2.1 + (m.length + j)))
          rw [show H.size + 1 + j = w.2.1 + (m.length + j) by omega]
        · simp [hj]
      | succ i =>
        simp only [List.getElem?_cons_succ] at hq
        cases hr : (List.replicate x.toNatClampNeg (0, k.toNatClampNeg) : List (Nat × Nat))[i]? with
        | none => rw [hr] at hq; cases hq
        | some y =>
          rw [hr] at hq
          cases hq
          have hi : i < x.toNatClampNeg := by
            have := (List.getElem?_eq_some_iff.mp hr).1
            simpa using this
          have hy : y = (0, k.toNatClampNeg) := List.eq_of_mem_replicate (List.mem_of_getElem? hr)
          subst hy
          show F.heap[w.2.1 + (m.length - 1 + (i + 1))]? = some _
          rw [show w.2.1 + (m.length - 1 + (i + 1)) = H.size + 1 + i by omega, hrow i hi]
          have h9 : mj_rows I (m.length + 1) x.toNatClampNeg (m.length - 1 + (i + 1) + 1) = fun _ => 0 := by
            simp only [mj_rows]
            rw [if_pos (by omega)]
          rw [h9]
    have kk' := kk F.heap locs als (cells + 1 + x.toNatClampNeg) (slots + x.toNatClampNeg + x.toNatClampNeg * k.toNatClampNeg) ⟨?_, ?_, ?_, hPn⟩ ⟨by rw [f1]; have := hS.1; omega, fun y h1 h2 => (hold y (Nat.lt_of_lt_of_le h1 hS.1)).trans (hS.2.1 y h1 h2), hS.2.2⟩ hL ?_ ?_
    · obtain ⟨t, a1, b1⟩ := kk' F rfl X'
      refine ⟨t, step t ?_, b1⟩
      have e9 : T.heap.size = mj_ad w m.length := by
        rw [hT]
        cases hmm : m.length with
        | zero => omega
        | succ q => show H.size = w.2.1 + q; omega
      rw [e9]
      exact a1
    · show F.heap.size + 1 = w.2.1 + (m ++ (2, x.toNatClampNeg) :: List.replicate x.toNatClampNeg (0, k.toNatClampNeg)).length
      rw [f1]
      simp
      omega
    · have hm0' : mj_mt 0 m = some (0, L) := hm0
      show mj_mt 0 (m ++ (2, x.toNatClampNeg) :: List.replicate x.toNatClampNeg (0, k.toNatClampNeg)) = some (0, L)
      cases m with
      | nil => simp [mj_mt] at hm0'
      | cons z m => simpa [mj_mt] using hm0'
    · show mj_rows I (m.length + 1) x.toNatClampNeg 0 = xs
      simp only [mj_rows]
      rw [if_neg (by omega)]
      exact hx00
    · show n0 + (cells + 1 + x.toNatClampNeg) = (m ++ (2, x.toNatClampNeg) :: List.replicate x.toNatClampNeg (0, k.toNatClampNeg)).length
      simp
      omega
    · show u0 + (slots + x.toNatClampNeg + x.toNatClampNeg * k.toNatClampNeg) = mj_sl (m ++ (2, x.toNatClampNeg) :: List.replicate x.toNatClampNeg (0, k.toNatClampNeg))
      rw [hsl]
      omega
end MJ
