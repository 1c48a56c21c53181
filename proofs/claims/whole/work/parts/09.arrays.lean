section MJ
variable {p : Program} {l : Launch} {e : Env} {R : Room} {s : State} {mi : MethodId} {args : Array Value} {below : List Frame} {meth : Method} {c : Code} {Q : State → Prop} {w : mjW} {D : va_G} {L : Nat} {xs : Nat → Int32} {own nL : Nat} {cc : ByteArray} {ini : Bool} {n0 u0 nE uE : Nat}
theorem mj_s_iald (C : mj_Cx p R s mi args meth c w D L xs own nL cc ini n0 u0 nE uE) {pc : Nat} (hd : decode cc pc = .ok (.iaload, 1)) {ls : List (Option Value)} {st : List Value} {m : mjM} {I : mjI} {RR : mjR} {J : mjJ} {o : Option Prop} {cf' : mjC} (hst : mj_xld 0 (pc + 1) ls st m I RR J = some (o, cf')) (ho : mj_ok o) (kk : mj_Sim p l e R s mi args below meth c Q w D L xs nL n0 u0 cf') : mj_Sim p l e R s mi args below meth c Q w D L xs nL n0 u0 (pc, ls, st, m, I, RR, J) := by
  obtain ⟨hx, hb, hml, hown, hts, hK, -, -, hX, hbB, hsz, hn0, -⟩ := C
  unfold mj_xld at hst
  split at hst <;> try (cases hst; done)
  next i a st' =>
    cases hm : mj_mt a m with
    | none => simp [hm] at hst
    | some tq =>
      obtain ⟨t, q⟩ := tq
      cases hbq : Nat.beq t 0 with
      | false => simp [hm, hbq] at hst
      | true =>
        have ht := Nat.eq_of_beq_eq_true hbq
        subst ht
        simp only [hm, hbq, Option.some.injEq, Prod.mk.injEq] at hst
        obtain ⟨rfl, rfl⟩ := hst
        have hin : vp_in i q := ho
        intro H locs als cells slots hH hS hL hc hs
        have hH0 := hH
        obtain ⟨hz, hm0, hx0, hP⟩ := hH
        cases a with
        | zero =>
          have hm0' : mj_mt 0 m = some (0, L) := hm0
          rw [hm] at hm0'
          cases hm0'
          have hx0' : I 0 = xs := hx0
          have hlt : w.1 < s.heap.size := by omega
          show W p l e R s mi args below meth c H locs cells slots Q (F0 mi pc als (.int i :: .ref w.1 :: st'.map (mj_cv w)))
          refine va_sld (A := fun q : Nat => w.2.1 ≤ q) hx hb hX hlt (by show ¬ w.2.1 ≤ w.1; omega) hS hin hd ?_
          rw [← hx0']
          exact kk H locs als cells slots hH0 hS hL hc hs
        | succ a =>
          have hat := mj_ws_at (w := w) (h := (m, I, RR, J)) hm
          show W p l e R s mi args below meth c H locs cells slots Q (F0 mi pc als (.int i :: .ref (w.2.1 + a) :: st'.map (mj_cv w)))
          exact va_iald hx hb hK hP a 0 hat rfl hin hd (kk H locs als cells slots hH0 hS hL hc hs)
theorem mj_s_bald (C : mj_Cx p R s mi args meth c w D L xs own nL cc ini n0 u0 nE uE) {pc : Nat} (hd : decode cc pc = .ok (.baload, 1)) {ls : List (Option Value)} {st : List Value} {m : mjM} {I : mjI} {RR : mjR} {J : mjJ} {o : Option Prop} {cf' : mjC} (hst : mj_xld 1 (pc + 1) ls st m I RR J = some (o, cf')) (ho : mj_ok o) (kk : mj_Sim p l e R s mi args below meth c Q w D L xs nL n0 u0 cf') : mj_Sim p l e R s mi args below meth c Q w D L xs nL n0 u0 (pc, ls, st, m, I, RR, J) := by
  obtain ⟨hx, hb, hml, hown, hts, hK, -, -, hX, hbB, hsz, hn0, -⟩ := C
  unfold mj_xld at hst
  split at hst <;> try (cases hst; done)
  next i a st' =>
    cases hm : mj_mt a m with
    | none => simp [hm] at hst
    | some tq =>
      obtain ⟨t, q⟩ := tq
      cases hbq : Nat.beq t 1 with
      | false => simp [hm, hbq] at hst
      | true =>
        have ht := Nat.eq_of_beq_eq_true hbq
        subst ht
        simp only [hm, hbq, Option.some.injEq, Prod.mk.injEq] at hst
        obtain ⟨rfl, rfl⟩ := hst
        have hin : vp_in i q := ho
        intro H locs als cells slots hH hS hL hc hs
        have hH0 := hH
        obtain ⟨hz, hm0, hx0, hP⟩ := hH
        cases a with
        | zero =>
          have hm0' : mj_mt 0 m = some (0, L) := hm0
          rw [hm] at hm0'
          cases hm0'
        | succ a =>
          have hat := mj_ws_at (w := w) (h := (m, I, RR, J)) hm
          show W p l e R s mi args below meth c H locs cells slots Q (F0 mi pc als (.int i :: .ref (w.2.1 + a) :: st'.map (mj_cv w)))
          exact va_bald hx hb hK hP a 1 hat rfl hin hd (kk H locs als cells slots hH0 hS hL hc hs)
theorem mj_s_iast (C : mj_Cx p R s mi args meth c w D L xs own nL cc ini n0 u0 nE uE) {pc : Nat} (hd : decode cc pc = .ok (.iastore, 1)) {ls : List (Option Value)} {st : List Value} {m : mjM} {I : mjI} {RR : mjR} {J : mjJ} {o : Option Prop} {cf' : mjC} (hst : mj_xst 0 (pc + 1) ls st m I RR J = some (o, cf')) (ho : mj_ok o) (kk : mj_Sim p l e R s mi args below meth c Q w D L xs nL n0 u0 cf') : mj_Sim p l e R s mi args below meth c Q w D L xs nL n0 u0 (pc, ls, st, m, I, RR, J) := by
  have C0 := C
  obtain ⟨hx, hb, hml, hown, hts, hK, -, -, hX, hbB, hsz, hn0, -⟩ := C
  unfold mj_xst at hst
  split at hst <;> try (cases hst; done)
  next x i a st' =>
    cases hm : mj_mt a m with
    | none => simp [hm] at hst
    | some tq =>
      obtain ⟨t, q⟩ := tq
      cases hbq : Nat.beq t 0 with
      | false => simp [hm, hbq] at hst
      | true =>
        have ht := Nat.eq_of_beq_eq_true hbq
        subst ht
        simp only [hm, hbq, Option.some.injEq, Prod.mk.injEq] at hst
        obtain ⟨rfl, rfl⟩ := hst
        have hin : vp_in i q ∧ 0 < a := ho
        intro H locs als cells slots hH hS hL hc hs
        have hH0 := hH
        obtain ⟨hz, hm0, hx0, hP⟩ := hH
        cases a with
        | zero => exact absurd hin.2 (Nat.lt_irrefl 0)
        | succ a =>
          have hat := mj_ws_at (w := w) (h := (m, I, RR, J)) hm
          have hset : (mj_ws w (m, I, RR, J)).set a (w.2.1 + a, .inl (w.2.2.1, q, .inl (upd (I (a + 1)) i.toNatClampNeg x))) = mj_ws w (m, mj_ui I (a + 1) i.toNatClampNeg x, RR, J) := by
            rw [← mj_ws_set (I := I) (R := RR) (J := J) hm (I' := mj_ui I (a + 1) i.toNatClampNeg x) (R' := RR) (J' := J) (fun b hb => ⟨by simp [mj_ui, hb], rfl, rfl⟩)]
            simp [mj_ce, mj_ui]
          show W p l e R s mi args below meth c H locs cells slots Q (F0 mi pc als (.int x :: .int i :: .ref (w.2.1 + a) :: st'.map (mj_cv w)))
          refine va_iast (A := fun q : Nat => w.2.1 ≤ q) hx hb hK hP (mj_D w (m, I, RR, J)) hS a 0 hat rfl hin.1 hd (fun H1 locs1 hP1 hD1 hS1 => ?_)
          rw [hset] at hP1
          exact mj_close C0 (by simp [mj_ui]) hH0 hP1 hS1 hL hc hs kk
theorem mj_s_bast (C : mj_Cx p R s mi args meth c w D L xs own nL cc ini n0 u0 nE uE) {pc : Nat} (hd : decode cc pc = .ok (.bastore, 1)) {ls : List (Option Value)} {y : Int32} {st : List Value} {m : mjM} {I : mjI} {RR : mjR} {J : mjJ} {o : Option Prop} {cf' : mjC} (hst : mj_xst 1 (pc + 1) ls (.int y.toInt8.toInt32 :: st) m I RR J = some (o, cf')) (ho : mj_ok o) (kk : mj_Sim p l e R s mi args below meth c Q w D L xs nL n0 u0 cf') : mj_Sim p l e R s mi args below meth c Q w D L xs nL n0 u0 (pc, ls, .int y :: st, m, I, RR, J) := by
  have C0 := C
  obtain ⟨hx, hb, hml, hown, hts, hK, -, -, hX, hbB, hsz, hn0, -⟩ := C
  generalize hy : y.toInt8.toInt32 = y' at hst
  unfold mj_xst at hst
  split at hst <;> try (cases hst; done)
  next x i a st' heq =>
    cases heq
    cases hm : mj_mt a m with
    | none => simp [hm] at hst
    | some tq =>
      obtain ⟨t, q⟩ := tq
      cases hbq : Nat.beq t 1 with
      | false => simp [hm, hbq] at hst
      | true =>
        have ht := Nat.eq_of_beq_eq_true hbq
        subst ht
        simp only [hm, hbq, Option.some.injEq, Prod.mk.injEq] at hst
        obtain ⟨rfl, rfl⟩ := hst
        have hin : vp_in i q ∧ 0 < a := ho
        intro H locs als cells slots hH hS hL hc hs
        have hH0 := hH
        obtain ⟨hz, hm0, hx0, hP⟩ := hH
        cases a with
        | zero => exact absurd hin.2 (Nat.lt_irrefl 0)
        | succ a =>
          have hat := mj_ws_at (w := w) (h := (m, I, RR, J)) hm
          have hset : (mj_ws w (m, I, RR, J)).set a (w.2.1 + a, .inl (w.2.2.2.1, q, .inl (upd (I (a + 1)) i.toNatClampNeg y'))) = mj_ws w (m, mj_ui I (a + 1) i.toNatClampNeg y', RR, J) := by
            rw [← mj_ws_set (I := I) (R := RR) (J := J) hm (I' := mj_ui I (a + 1) i.toNatClampNeg y') (R' := RR) (J' := J) (fun b hb => ⟨by simp [mj_ui, hb], rfl, rfl⟩)]
            simp [mj_ce, mj_ui]
          show W p l e R s mi args below meth c H locs cells slots Q (F0 mi pc als (.int y :: .int i :: .ref (w.2.1 + a) :: st'.map (mj_cv w)))
          refine va_bast (A := fun q : Nat => w.2.1 ≤ q) hx hb hK hP (mj_D w (m, I, RR, J)) hS a 1 hat rfl hin.1 hd (fun H1 locs1 hP1 hD1 hS1 => ?_)
          rw [vp_nar_byte, hy, hset] at hP1
          exact mj_close C0 (by simp [mj_ui]) hH0 hP1 hS1 hL hc hs kk
theorem mj_s_aln (C : mj_Cx p R s mi args meth c w D L xs own nL cc ini n0 u0 nE uE) {pc : Nat} (hd : decode cc pc = .ok (.arraylength, 1)) {ls : List (Option Value)} {st : List Value} {m : mjM} {I : mjI} {RR : mjR} {J : mjJ} {o : Option Prop} {cf' : mjC} (hst : mj_aln (pc + 1) ls st m I RR J = some (o, cf')) (kk : mj_Sim p l e R s mi args below meth c Q w D L xs nL n0 u0 cf') : mj_Sim p l e R s mi args below meth c Q w D L xs nL n0 u0 (pc, ls, st, m, I, RR, J) := by
  obtain ⟨hx, hb, hml, hown, hts, hK, -, -, hX, hbB, hsz, hn0, -⟩ := C
  unfold mj_aln at hst
  split at hst <;> try (cases hst; done)
  next a st' =>
    cases hm : mj_mt a m with
    | none => simp [hm] at hst
    | some tq =>
      obtain ⟨t, q⟩ := tq
      cases hbq : Nat.ble t 3 with
      | false => simp [hm, hbq] at hst
      | true =>
        have ht : t ≤ 3 := Nat.le_of_ble_eq_true hbq
        simp only [hm, hbq, Option.some.injEq, Prod.mk.injEq] at hst
        obtain ⟨rfl, rfl⟩ := hst
        intro H locs als cells slots hH hS hL hc hs
        have hH0 := hH
        obtain ⟨hz, hm0, hx0, hP⟩ := hH
        cases a with
        | zero =>
          have hm0' : mj_mt 0 m = some (0, L) := hm0
          rw [hm] at hm0'
          cases hm0'
          have hlt : w.1 < s.heap.size := by omega
          show W p l e R s mi args below meth c H locs cells slots Q (F0 mi pc als (.ref w.1 :: st'.map (mj_cv w)))
          exact va_slen (A := fun q : Nat => w.2.1 ≤ q) hx hb hX hlt (by show ¬ w.2.1 ≤ w.1; omega) hS hd (kk H locs als cells slots hH0 hS hL hc hs)
        | succ a =>
          have hat := mj_ws_at (w := w) (h := (m, I, RR, J)) hm
          show W p l e R s mi args below meth c H locs cells slots Q (F0 mi pc als (.ref (w.2.1 + a) :: st'.map (mj_cv w)))
          rcases (show t = 0 ∨ t = 1 ∨ t = 2 ∨ t = 3 by omega) with rfl | rfl | rfl | rfl
          · exact va_alen hx hb hK hP a 0 hat rfl rfl hd (kk H locs als cells slots hH0 hS hL hc hs)
          · exact va_alen hx hb hK hP a 1 hat rfl rfl hd (kk H locs als cells slots hH0 hS hL hc hs)
          · exact va_alen hx hb hK hP a 2 hat rfl rfl hd (kk H locs als cells slots hH0 hS hL hc hs)
          · exact va_alen hx hb hK hP a 3 hat rfl rfl hd (kk H locs als cells slots hH0 hS hL hc hs)
theorem mj_aldW {ty : FieldType} (hx : p.tables.exec = Jvm.exec) (hb : c.code = cc) {H : Heap} {locs : List Loc} {cells slots : Nat} {cl : List vw_C} {tys : List (ClassId × FieldType)} {ws : va_W} {a pc : Nat} {ls : Array Slot} {rest : List Value} (hK : va_K D cl tys s) (hP : va_P D cl ws H) (q0 t0 : Nat) {cA : ClassId} {n : Nat} {f : Nat → Option Nat} (ha : ws[q0]? = some (a, .inl (cA, n, .inr (.inr (.inr (.inr f)))))) (ht : tys[t0]? = some (cA, ty)) (hty : ty.isReference = true) {i : Int32} (hin : vp_in i n) (hdg : decode cc pc = .ok (.aaload, 1))
    (kk : W p l e R s mi args below meth c H locs cells slots Q (F0 mi (pc + 1) ls (va_rf (f i.toNatClampNeg) :: rest))) : W p l e R s mi args below meth c H locs cells slots Q (F0 mi pc ls (.int i :: .ref a :: rest)) := by
  have hlt : i.toNatClampNeg < n := Nat.not_le.mp fun q => hin (Or.inr q)
  exact W.aald (v := va_rf (f i.toNatClampNeg)) (ty := ty) hx hb (hP q0 _ ha) ((hK.2 t0 _ ht).1 n (fun j => va_rf (f j))) hty (fun q => by cases q) (by show ¬ (i < 0 ∨ (arrV _ _ _).slots.size ≤ _); rw [arrV_size]; exact hin) (by show (arrV _ _ _).slots[_]? = _; rw [arrV_read _ _ hlt]) rfl rfl hdg kk
theorem mj_s_aald (C : mj_Cx p R s mi args meth c w D L xs own nL cc ini n0 u0 nE uE) {pc : Nat} (hd : decode cc pc = .ok (.aaload, 1)) {ls : List (Option Value)} {st : List Value} {m : mjM} {I : mjI} {RR : mjR} {J : mjJ} {o : Option Prop} {cf' : mjC} (hst : mj_aald (pc + 1) ls st m I RR J = some (o, cf')) (ho : mj_ok o) (kk : mj_Sim p l e R s mi args below meth c Q w D L xs nL n0 u0 cf') : mj_Sim p l e R s mi args below meth c Q w D L xs nL n0 u0 (pc, ls, st, m, I, RR, J) := by
  obtain ⟨hx, hb, hml, hown, hts, hK, -, -, hX, hbB, hsz, hn0, -⟩ := C
  unfold mj_aald at hst
  split at hst <;> try (cases hst; done)
  next i a st' =>
    cases hm : mj_mt a m with
    | none => simp [hm] at hst
    | some tq =>
      obtain ⟨t, q⟩ := tq
      cases hbq : (Nat.beq t 2 || Nat.beq t 3) with
      | false => simp [hm, hbq] at hst
      | true =>
        have ht : t = 2 ∨ t = 3 := by
          rcases Bool.or_eq_true _ _ ▸ hbq with h | h
          · exact Or.inl (Nat.eq_of_beq_eq_true h)
          · exact Or.inr (Nat.eq_of_beq_eq_true h)
        simp only [hm, hbq] at hst
        have key : vp_in i q ∧ cf' = (pc + 1, ls, va_rf (RR a i.toNatClampNeg) :: st', m, I, RR, J) := by
          cases hR : RR a i.toNatClampNeg with
          | none =>
            simp only [hR, Option.some.injEq, Prod.mk.injEq] at hst
            obtain ⟨rfl, rfl⟩ := hst
            exact ⟨ho, rfl⟩
          | some b =>
            simp only [hR, Option.some.injEq, Prod.mk.injEq] at hst
            obtain ⟨rfl, rfl⟩ := hst
            exact ⟨ho, rfl⟩
        obtain ⟨hin, rfl⟩ := key
        intro H locs als cells slots hH hS hL hc hs
        have hH0 := hH
        obtain ⟨hz, hm0, hx0, hP⟩ := hH
        have hcv : mj_cv w (va_rf (RR a i.toNatClampNeg)) = va_rf ((RR a i.toNatClampNeg).map (mj_ad w)) := by
          cases RR a i.toNatClampNeg <;> rfl
        have kk' := kk H locs als cells slots hH0 hS hL hc hs
        have kk2 : W p l e R s mi args below meth c H locs cells slots Q (F0 mi (pc + 1) als (va_rf ((RR a i.toNatClampNeg).map (mj_ad w)) :: st'.map (mj_cv w))) := by
          rw [← hcv]
          exact kk'
        cases a with
        | zero =>
          exfalso
          have hm0' : mj_mt 0 m = some (0, L) := hm0
          rw [hm] at hm0'
          cases hm0'
          omega
        | succ a =>
          have hat := mj_ws_at (w := w) (h := (m, I, RR, J)) hm
          show W p l e R s mi args below meth c H locs cells slots Q (F0 mi pc als (.int i :: .ref (w.2.1 + a) :: st'.map (mj_cv w)))
          rcases ht with rfl | rfl
          · exact mj_aldW (ty := .array .int) hx hb hK hP a 2 hat rfl rfl hin hd kk2
          · exact mj_aldW (ty := .object "PointsThrow$Point") hx hb hK hP a 3 hat rfl rfl hin hd kk2
end MJ
