theorem mj_x1 : Cond.castable RX1 "PointsThrow$Point" ∈ mj_xn := by decide +kernel
theorem mj_x2 : Cond.castable RX2 "PointsThrow$Point" ∈ mj_xn := by decide +kernel
theorem mj_x8 : Cond.castable RX8 "PointsThrow$Point" ∈ mj_xn := by decide +kernel
theorem mj_t1 : Cond.arrayClass .int ∈ mj_tb := by decide +kernel
theorem mj_t2 : Cond.arrayClass .byte ∈ mj_tb := by decide +kernel
theorem mj_t3 : Cond.native arraycopyName ∈ mj_tb := by decide +kernel
theorem mj_t4 : Cond.static arraycopyName ∈ mj_tb := by decide +kernel
theorem mj_t5 : Cond.initialized "java/lang/System" ∈ mj_tb := by decide +kernel
theorem mj_t6 : Cond.instanceMethod objectInit ∈ mj_tb := by decide +kernel
theorem mj_t7 : Cond.code objectInit ⟨#[0xb1]⟩ 1 none ∈ mj_tb := by decide +kernel
theorem mj_sum_eq (w : mjW) : ∀ st : List Value, ((st.map (mj_cv w)).map fun v => v.category).sum = mj_sum st
  | [] => rfl
  | v :: st => by
    have h := mj_sum_eq w st
    simp only [List.map_cons, List.sum_cons, mj_sum, mj_cv_cat, h]
section MJ
variable {p : Program} {l : Launch} {e : Env} {R : Room} {s : State} {mi : MethodId} {args : Array Value} {below : List Frame} {meth : Method} {c : Code} {Q : State → Prop} {w : mjW} {D : va_G} {L : Nat} {xs : Nat → Int32} {own nL : Nat} {cc : ByteArray} {ini : Bool} {n0 u0 nE uE : Nat}
theorem mj_s_aast (C : mj_Cx p R s mi args meth c w D L xs own nL cc ini n0 u0 nE uE) {pc : Nat} {d : List Nat} (hdd : d = [14, 11, 12, 18]) (hd : decode cc pc = .ok (.aastore, 1)) {ls : List (Option Value)} {st : List Value} {m : mjM} {I : mjI} {RR : mjR} {J : mjJ} {o : Option Prop} {cf' : mjC} (hst : mj_aast (pc + 1) d ls st m I RR J = some (o, cf')) (ho : mj_ok o) (kk : mj_Sim p l e R s mi args below meth c Q w D L xs nL n0 u0 cf') : mj_Sim p l e R s mi args below meth c Q w D L xs nL n0 u0 (pc, ls, st, m, I, RR, J) := by
  have C0 := C
  obtain ⟨hx, hb, hml, hown, hts, hK, hXW, -, hX, hbB, hsz, hn0, -⟩ := C
  unfold mj_aast at hst
  split at hst <;> try (cases hst; done)
  next v i a st' =>
    cases hm : mj_mt a m with
    | none => simp [hm] at hst
    | some tq =>
      obtain ⟨t, q⟩ := tq
      cases hmv : mj_mt v m with
      | none => simp [hm, hmv] at hst
      | some tq2 =>
        obtain ⟨tv, qv⟩ := tq2
        cases hbq : (Nat.beq t 3 && mj_any tv d) with
        | false => simp [hm, hmv, hbq] at hst
        | true =>
          obtain ⟨hb1, hb2⟩ := Bool.and_eq_true _ _ ▸ hbq
          have ht := Nat.eq_of_beq_eq_true hb1
          subst ht
          simp only [hm, hmv, hbq, Option.some.injEq, Prod.mk.injEq] at hst
          obtain ⟨rfl, rfl⟩ := hst
          have hin : vp_in i q := ho
          have htv := mj_any_mem hb2
          rw [hdd] at htv
          intro H locs als cells slots hH hS hL hc hs
          have hH0 := hH
          obtain ⟨hz, hm0, hx0, hP⟩ := hH
          have hm0' : mj_mt 0 m = some (0, L) := hm0
          cases a with
          | zero => rw [hm] at hm0'; cases hm0'
          | succ a =>
          cases v with
          | zero =>
            rw [hmv] at hm0'
            cases hm0'
            simp at htv
          | succ v =>
            have hat := mj_ws_at (w := w) (h := (m, I, RR, J)) hm
            have hav := mj_ws_at (w := w) (h := (m, I, RR, J)) hmv
            have hset : (mj_ws w (m, I, RR, J)).set a (w.2.1 + a, .inl (w.2.2.2.2.2, q, .inr (.inr (.inr (.inr (va_up (fun j => (RR (a + 1) j).map (mj_ad w)) i.toNatClampNeg (some (w.2.1 + v)))))))) = mj_ws w (m, I, mj_ur RR (a + 1) i.toNatClampNeg (some (v + 1)), J) := by
              rw [← mj_ws_set (I := I) (R := RR) (J := J) hm (I' := I) (R' := mj_ur RR (a + 1) i.toNatClampNeg (some (v + 1))) (J' := J) (fun b hb => ⟨rfl, by simp [mj_ur, hb], rfl⟩)]
              have hf : (va_up (fun j => (RR (a + 1) j).map (mj_ad w)) i.toNatClampNeg (some (w.2.1 + v))) = (fun j => (va_up (RR (a + 1)) i.toNatClampNeg (some (v + 1)) j).map (mj_ad w)) := by
                funext j
                by_cases hj : j = i.toNatClampNeg <;> simp [va_up, hj, mj_ad]
              rw [hf]
              simp [mj_ce, mj_ur]
            show W p l e R s mi args below meth c H locs cells slots Q (F0 mi pc als (.ref (w.2.1 + v) :: .int i :: .ref (w.2.1 + a) :: st'.map (mj_cv w)))
            have fin : ∀ (H1 : Heap) (locs1 : List Loc), va_P D vwCl ((mj_ws w (m, I, RR, J)).set a (w.2.1 + a, .inl (w.2.2.2.2.2, q, .inr (.inr (.inr (.inr (va_up (fun j => (RR (a + 1) j).map (mj_ad w)) i.toNatClampNeg (some (w.2.1 + v))))))))) H1 → va_D (fun q : Nat => w.2.1 ≤ q) ((mj_ws w (m, I, RR, J)).set a (w.2.1 + a, .inl (w.2.2.2.2.2, q, .inr (.inr (.inr (.inr (va_up (fun j => (RR (a + 1) j).map (mj_ad w)) i.toNatClampNeg (some (w.2.1 + v))))))))) → va_S (fun q : Nat => w.2.1 ≤ q) s.heap H1 locs1 → W p l e R s mi args below meth c H1 locs1 cells slots Q (F0 mi (pc + 1) als (st'.map (mj_cv w))) := by
              intro H1 locs1 hP1 hD1 hS1
              rw [hset] at hP1
              exact mj_close C0 rfl hH0 hP1 hS1 hL hc hs kk
            have hcase : tv = 4 + 10 ∨ tv = 1 + 10 ∨ tv = 2 + 10 ∨ tv = 8 + 10 := by simpa using htv
            rcases hcase with rfl | rfl | rfl | rfl
            · rw [mj_ce_obj] at hav
              exact va_astq (D := D) (A := fun q : Nat => w.2.1 ≤ q) (r := (RX4, TX4, 1)) hx hb hK hP (mj_D w (m, I, RR, J)) hS a 3 v 4 hat rfl hav rfl hin hd fin
            · rw [mj_ce_obj] at hav
              exact va_astqO (D := D) (A := fun q : Nat => w.2.1 ≤ q) (r := (RX1, TX1, 1)) hx hb hK hP (mj_D w (m, I, RR, J)) hS a 3 v 1 hat rfl (hXW.1 _ mj_x1) hav rfl hin hd fin
            · rw [mj_ce_obj] at hav
              exact va_astqO (D := D) (A := fun q : Nat => w.2.1 ≤ q) (r := (RX2, TX2, 1)) hx hb hK hP (mj_D w (m, I, RR, J)) hS a 3 v 2 hat rfl (hXW.1 _ mj_x2) hav rfl hin hd fin
            · rw [mj_ce_obj] at hav
              exact va_astqO (D := D) (A := fun q : Nat => w.2.1 ≤ q) (r := (RX8, TX8, 1)) hx hb hK hP (mj_D w (m, I, RR, J)) hS a 3 v 8 hat rfl (hXW.1 _ mj_x8) hav rfl hin hd fin
def mj_VI (own idx : Nat) (d : List Nat) : Prop := ∃ nm, Cond.classLink (mj_cn own) idx nm ∈ mj_tb ∧ ∀ t b, mj_sel t d = some b → ∃ (ci : Nat) (C : String) (T : u_T) (N : Nat), t = ci + 10 ∧ vwCl[ci]? = some (C, T, N) ∧ ((b = 1 ∧ (C = nm ∨ Cond.castable C nm ∈ mj_xn)) ∨ (b = 0 ∧ (C, nm) ∈ mj_nc))
theorem mj_s_inst (C : mj_Cx p R s mi args meth c w D L xs own nL cc ini n0 u0 nE uE) {pc idx : Nat} {d : List Nat} (hv : mj_VI own idx d) (hd : decode cc pc = .ok (.instanceof idx, 3)) {ls : List (Option Value)} {st : List Value} {m : mjM} {I : mjI} {RR : mjR} {J : mjJ} {o : Option Prop} {cf' : mjC} (hst : mj_inst (pc + 3) d ls st m I RR J = some (o, cf')) (kk : mj_Sim p l e R s mi args below meth c Q w D L xs nL n0 u0 cf') : mj_Sim p l e R s mi args below meth c Q w D L xs nL n0 u0 (pc, ls, st, m, I, RR, J) := by
  obtain ⟨hx, hb, hml, hown, hts, hK, hXW, -, hX, hbB, hsz, hn0, -⟩ := C
  obtain ⟨nm, hlk, hsel⟩ := hv
  unfold mj_inst at hst
  split at hst <;> try (cases hst; done)
  next a st' =>
    cases hm : mj_mt a m with
    | none => simp [hm] at hst
    | some tq =>
      obtain ⟨t, q⟩ := tq
      cases hs2 : mj_sel t d with
      | none => simp [hm, hs2] at hst
      | some b =>
        obtain ⟨ci, Cn, T, N, rfl, hcl, hcase⟩ := hsel t b hs2
        intro H locs als cells slots hH hS hL hc hs
        have hH0 := hH
        obtain ⟨hz, hm0, hx0, hP⟩ := hH
        cases a with
        | zero =>
          exfalso
          have hm0' : mj_mt 0 m = some (0, L) := hm0
          rw [hm] at hm0'
          cases hm0'
        | succ a =>
          have hat := mj_ws_at (w := w) (h := (m, I, RR, J)) hm
          rw [mj_ce_obj] at hat
          have hrec := va_recv hK hP hcl hat
          show W p l e R s mi args below meth c H locs cells slots Q (F0 mi pc als (.ref (w.2.1 + a) :: st'.map (mj_cv w)))
          rcases hcase with ⟨rfl, h9⟩ | ⟨rfl, h9⟩
          · simp only [hm, hs2, Option.some.injEq, Prod.mk.injEq] at hst
            obtain ⟨-, rfl⟩ := hst
            have kk' := kk H locs als cells slots hH0 hS hL hc hs
            rcases h9 with h9 | h9
            · subst h9
              exact va_instS hx hb hown (hts _ hlk) (hK.1 ci _ hcl).2 hrec hd kk'
            · exact va_instY hx hb hown (hts _ hlk) (hXW.1 _ h9) hrec hd kk'
          · simp only [hm, hs2, Option.some.injEq, Prod.mk.injEq] at hst
            obtain ⟨-, rfl⟩ := hst
            have kk' := kk H locs als cells slots hH0 hS hL hc hs
            exact va_instNo hx hb hown (hts _ hlk) (hXW.2.2.2 _ h9) hrec hd kk'
theorem mj_s_copy (C : mj_Cx p R s mi args meth c w D L xs own nL cc ini n0 u0 nE uE) {pc idx : Nat} (hlk : Cond.methodLink (mj_cn own) idx arraycopyName ∈ mj_tb) (hd : decode cc pc = .ok (.invokestatic idx, 3)) {ls : List (Option Value)} {st : List Value} {m : mjM} {I : mjI} {RR : mjR} {J : mjJ} {o : Option Prop} {cf' : mjC} (hst : mj_copy (pc + 3) ls st m I RR J = some (o, cf')) (ho : mj_ok o) (kk : mj_Sim p l e R s mi args below meth c Q w D L xs nL n0 u0 cf') : mj_Sim p l e R s mi args below meth c Q w D L xs nL n0 u0 (pc, ls, st, m, I, RR, J) := by
  have C0 := C
  obtain ⟨hx, hb, hml, hown, hts, hK, hXW, -, hX, hbB, hsz, hn0, hfr, hlo, -⟩ := C
  unfold mj_copy at hst
  split at hst <;> try (cases hst; done)
  next k dp a sp b st' =>
    split at hst <;> try (cases hst; done)
    next q q0 hm hm2 =>
      split at hst <;> try (cases hst; done)
      next hble =>
        simp only [Option.some.injEq, Prod.mk.injEq] at hst
        obtain ⟨rfl, rfl⟩ := hst
        obtain ⟨h1, h2, h3, h4, h5, h6, h7⟩ : ¬ sp < 0 ∧ ¬ dp < 0 ∧ ¬ k < 0 ∧ sp.toNatClampNeg + k.toNatClampNeg ≤ q0 ∧ dp.toNatClampNeg + k.toNatClampNeg ≤ q ∧ 0 < a ∧ 0 < b := ho
        have hsum : mj_sum st' ≤ 8 := Nat.le_of_ble_eq_true hble
        intro H locs als cells slots hH hS hL hc hs
        have hH0 := hH
        obtain ⟨hz, hm0, hx0, hP⟩ := hH
        cases a with
        | zero => exact absurd h6 (Nat.lt_irrefl 0)
        | succ a =>
        cases b with
        | zero => exact absurd h7 (Nat.lt_irrefl 0)
        | succ b =>
          have hat := mj_ws_at (w := w) (h := (m, I, RR, J)) hm
          have hbt := mj_ws_at (w := w) (h := (m, I, RR, J)) hm2
          have hset : (mj_ws w (m, I, RR, J)).set a (w.2.1 + a, .inl (w.2.2.1, q, .inl (va_cpy (I (b + 1)) (I (a + 1)) sp.toNatClampNeg dp.toNatClampNeg k.toNatClampNeg))) = mj_ws w (m, mj_row I (a + 1) (va_cpy (I (b + 1)) (I (a + 1)) sp.toNatClampNeg dp.toNatClampNeg k.toNatClampNeg), RR, J) := by
            rw [← mj_ws_set (I := I) (R := RR) (J := J) hm (I' := mj_row I (a + 1) (va_cpy (I (b + 1)) (I (a + 1)) sp.toNatClampNeg dp.toNatClampNeg k.toNatClampNeg)) (R' := RR) (J' := J) (fun b hb => ⟨by simp [mj_row, hb], rfl, rfl⟩)]
            simp [mj_ce, mj_row]
          show W p l e R s mi args below meth c H locs cells slots Q (F0 mi pc als (.int k :: .int dp :: .ref (w.2.1 + a) :: .int sp :: .ref (w.2.1 + b) :: st'.map (mj_cv w)))
          refine va_copyi (D := D) (A := fun q : Nat => w.2.1 ≤ q) (ty := .int) hx hb (hml.trans hL.2.1.symm) hown (hts _ hlk) (hts _ mj_t3) (hts _ mj_t4) (hts _ mj_t5) hK hP (mj_D w (m, I, RR, J)) hS b a 0 0 hbt hat rfl rfl rfl h1 h2 h3 h4 h5 (fun _ _ => rfl) hfr ?_ hd (fun H1 locs1 hP1 hD1 hS1 => ?_)
          · rw [mj_sum_eq]
            have h9 : nativeFrameWords "java/lang/System" "arraycopy" 5 = 7 := by decide
            rw [h9]
            omega
          · rw [hset] at hP1
            exact mj_close C0 (by simp [mj_row]) hH0 hP1 hS1 hL hc hs kk
theorem mj_s_obj (C : mj_Cx p R s mi args meth c w D L xs own nL cc ini n0 u0 nE uE) {pc idx a : Nat} (hlk : Cond.methodLink (mj_cn own) idx objectInit ∈ mj_tb) (hd : decode cc pc = .ok (.invokespecial idx, 3)) {ls : List (Option Value)} {st : List Value} {h : mjH} (hsum : mj_sum st ≤ 8) (kk : mj_Sim p l e R s mi args below meth c Q w D L xs nL n0 u0 (pc + 3, ls, st, h)) : mj_Sim p l e R s mi args below meth c Q w D L xs nL n0 u0 (pc, ls, .ref a :: st, h) := by
  obtain ⟨hx, hb, hml, hown, hts, hK, hXW, -, hX, hbB, hsz, hn0, hfr, hlo, -⟩ := C
  intro H locs als cells slots hH hS hL hc hs
  show W p l e R s mi args below meth c H locs cells slots Q (F0 mi pc als (.ref (mj_ad w a) :: st.map (mj_cv w)))
  refine W.objInit hx hb hown (hts _ hlk) (hts _ mj_t6) (hts _ mj_t7) rfl (hL.2.1.trans hml.symm) rfl hd hfr ?_ (kk H locs als cells slots hH hS hL hc hs)
  have h8 := lv_room (m := mi) (pc := pc) (ls := als) (rest := .ref (mj_ad w a) :: st.map (mj_cv w)) (st := st.map (mj_cv w)) (by rw [mj_sum_eq]; exact hsum)
  omega
end MJ
