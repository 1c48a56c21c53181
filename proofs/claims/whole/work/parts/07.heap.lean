def mj_tc : FieldType → Nat
  | .int => 0
  | .boolean => 1
  | .object _ => 2
  | .array _ => 2
  | .long => 3
  | _ => 9
theorem mj_cl_nf : ∀ {ci : Nat} {q : vw_C}, vwCl[ci]? = some q → q.2.2 = mj_nf ci
  | 0, _, h => by cases h; rfl
  | 1, _, h => by cases h; rfl
  | 2, _, h => by cases h; rfl
  | 3, _, h => by cases h; rfl
  | 4, _, h => by cases h; rfl
  | 5, _, h => by cases h; rfl
  | 6, _, h => by cases h; rfl
  | 7, _, h => by cases h; rfl
  | 8, _, h => by cases h; rfl
  | 9, _, h => by cases h; rfl
  | 10, _, h => by cases h; rfl
  | 11, _, h => by cases h; rfl
  | 12, _, h => by cases h; rfl
  | n + 13, _, h => by simp [vwCl] at h
theorem mj_cl_ty : ∀ {ci : Nat} {q : vw_C}, vwCl[ci]? = some q → ∀ k, k < q.2.2 → parseFieldDescriptor (q.2.1 k).2.2.1 = some (mj_ty ci k)
  | 0, _, h => by cases h; exact tyX0_ok
  | 1, _, h => by cases h; exact tyX1_ok
  | 2, _, h => by cases h; exact tyX2_ok
  | 3, _, h => by cases h; exact tyX3_ok
  | 4, _, h => by cases h; exact tyX4_ok
  | 5, _, h => by cases h; exact tyX5_ok
  | 6, _, h => by cases h; exact tyX6_ok
  | 7, _, h => by cases h; exact tyX7_ok
  | 8, _, h => by cases h; exact tyX8_ok
  | 9, _, h => by cases h; exact tyX9_ok
  | 10, _, h => by cases h; exact tyX10_ok
  | 11, _, h => by cases h; exact tyX11_ok
  | 12, _, h => by cases h; exact tyX12_ok
  | n + 13, _, h => by simp [vwCl] at h
theorem mj_cl_nm : ∀ {ci : Nat} {q : vw_C}, vwCl[ci]? = some q → ∀ a, a < q.2.2 → ∀ b, b < q.2.2 → a ≠ b → (q.2.1 a).2.1 ≠ (q.2.1 b).2.1
  | 0, _, h => by cases h; exact nmX0
  | 1, _, h => by cases h; exact nmX1
  | 2, _, h => by cases h; exact nmX2
  | 3, _, h => by cases h; exact nmX3
  | 4, _, h => by cases h; exact nmX4
  | 5, _, h => by cases h; exact nmX5
  | 6, _, h => by cases h; exact nmX6
  | 7, _, h => by cases h; exact nmX7
  | 8, _, h => by cases h; exact nmX8
  | 9, _, h => by cases h; exact nmX9
  | 10, _, h => by cases h; exact nmX10
  | 11, _, h => by cases h; exact nmX11
  | 12, _, h => by cases h; exact nmX12
  | n + 13, _, h => by simp [vwCl] at h
set_option maxRecDepth 100000 in
theorem mj_cl_in0 : vwCl.all (fun q => (u_ws q.1 q.2.1 q.2.2).all (fun z => decide (z ∈ mj_tb))) = true := by decide +kernel
theorem mj_cl_in {ci : Nat} {q : vw_C} (h : vwCl[ci]? = some q) : ∀ z ∈ u_ws q.1 q.2.1 q.2.2, z ∈ mj_tb := by
  have h1 := List.all_eq_true.mp mj_cl_in0 q (List.mem_of_getElem? h)
  intro z hz
  exact of_decide_eq_true (List.all_eq_true.mp h1 z hz)
theorem mj_ce_obj (w : mjW) (I : mjI) (R : mjR) (J : mjJ) (a ci n : Nat) : mj_ce w I R J a (ci + 10, n) = .inr (ci, mj_fs w I R J a ci) := by
  have h : ci + 10 - 10 = ci := by omega
  show (Sum.inr (ci + 10 - 10, mj_fs w I R J a (ci + 10 - 10)) : va_E) = _
  rw [h]
theorem mj_fs_at (w : mjW) (I : mjI) (R : mjR) (J : mjJ) (a ci : Nat) {k : Nat} (hk : k < mj_nf ci) : (mj_fs w I R J a ci)[k]? = some (mj_fv w I R J a k (mj_ty ci k)) := by
  simp [mj_fs, hk]
theorem mj_fs_len (w : mjW) (I : mjI) (R : mjR) (J : mjJ) (a ci : Nat) : (mj_fs w I R J a ci).length = mj_nf ci := by simp [mj_fs]
theorem mj_ce_congr {w : mjW} {I I' : mjI} {R R' : mjR} {J J' : mjJ} {b : Nat} (hI : I' b = I b) (hR : R' b = R b) (hJ : J' b = J b) (x : Nat × Nat) : mj_ce w I' R' J' b x = mj_ce w I R J b x := by
  have h : mj_fv w I' R' J' b = mj_fv w I R J b := by
    funext k ty
    cases ty <;> simp [mj_fv, hI, hR, hJ]
  obtain ⟨t, n⟩ := x
  match t with
  | 0 => simp [mj_ce, hI]
  | 1 => simp [mj_ce, hI]
  | 2 => simp [mj_ce, hR]
  | 3 => simp [mj_ce, hR]
  | t + 4 => simp [mj_ce, mj_fs, h]
/-- one cell is changed -/
theorem mj_ws_set {w : mjW} {m : mjM} {I I' : mjI} {R R' : mjR} {J J' : mjJ} {a : Nat} {x : Nat × Nat} (hx : mj_mt (a + 1) m = some x) (ho : ∀ b, b ≠ a + 1 → I' b = I b ∧ R' b = R b ∧ J' b = J b) : (mj_ws w (m, I, R, J)).set a (w.2.1 + a, mj_ce w I' R' J' (a + 1) x) = mj_ws w (m, I', R', J') := by
  rw [mj_mt_eq] at hx
  have h2 : m.tail[a]? = some x := by rw [List.getElem?_tail]; exact hx
  apply List.ext_getElem?
  intro i
  by_cases e : i = a
  · subst e
    have hl : i < (mj_ws w (m, I, R, J)).length := by
      simp only [mj_ws, mj_wc_len]
      exact (List.getElem?_eq_some_iff.mp h2).1
    rw [List.getElem?_set_self hl]
    simp [mj_ws, mj_wc_at, h2]
  · rw [List.getElem?_set_ne (fun q => e q.symm)]
    simp only [mj_ws, mj_wc_at, Nat.zero_add]
    obtain ⟨h3, h4, h5⟩ := ho (i + 1) (by omega)
    congr 1
    funext y
    rw [mj_ce_congr h3 h4 h5]
theorem mj_any_mem {t : Nat} : ∀ {cs : List Nat}, mj_any t cs = true → t ∈ cs
  | [], h => by simp [mj_any] at h
  | c :: cs, h => by
    unfold mj_any at h
    split at h
    next hb => rw [Nat.eq_of_beq_eq_true hb]; exact List.mem_cons_self
    next => exact List.mem_cons_of_mem _ (mj_any_mem h)
/-- a field's link, as the code's data say it -/
def mj_VF (own idx k ty : Nat) (cs : List Nat) : Prop := ∃ ref nm ds, Cond.fieldLink (mj_cn own) idx ref nm ds ∈ mj_tb ∧ ∀ t, t ∈ cs → ∃ (ci : Nat) (C : String) (T : u_T) (N : Nat), t = ci + 10 ∧ vwCl[ci]? = some (C, T, N) ∧ k < N ∧ (T k).2.1 = nm ∧ (T k).2.2.1 = ds ∧ ((T k).1 = ref ∨ Cond.sameField ref (T k).1 nm ds ∈ mj_tb) ∧ mj_tc (mj_ty ci k) = ty
section MJ
variable {p : Program} {l : Launch} {e : Env} {R : Room} {s : State} {mi : MethodId} {args : Array Value} {below : List Frame} {meth : Method} {c : Code} {Q : State → Prop} {w : mjW} {D : va_G} {L : Nat} {xs : Nat → Int32} {own nL : Nat} {cc : ByteArray} {ini : Bool} {n0 u0 nE uE : Nat}
theorem mj_s_gf (C : mj_Cx p R s mi args meth c w D L xs own nL cc ini n0 u0 nE uE) {idx pc n k ty : Nat} {cs : List Nat} (hd : decode cc pc = .ok (.getfield idx, 3)) (hv : mj_VF own idx k ty cs) (hn : n = pc + 3) {ls : List (Option Value)} {st : List Value} {m : mjM} {I : mjI} {RR : mjR} {J : mjJ} {o : Option Prop} {cf' : mjC} (hst : mj_gf n (k :: ty :: cs) ls st m I RR J = some (o, cf')) (kk : mj_Sim p l e R s mi args below meth c Q w D L xs nL n0 u0 cf') : mj_Sim p l e R s mi args below meth c Q w D L xs nL n0 u0 (pc, ls, st, m, I, RR, J) := by
  obtain ⟨hx, hb, hml, hown, hts, hK, -⟩ := C
  obtain ⟨ref, nm, ds, hlk, hcs⟩ := hv
  subst hn
  cases st with
  | nil => simp [mj_gf] at hst
  | cons v st' =>
  cases v with
  | ref a =>
    cases hm : mj_mt a m with
    | none => simp [mj_gf, hm] at hst
    | some tq =>
      obtain ⟨t, q⟩ := tq
      cases hany : mj_any t cs with
      | false => simp [mj_gf, hm, hany] at hst
      | true =>
        obtain ⟨ci, Cn, T, N, rfl, hcl, hk, e1, e2, e3, e4⟩ := hcs t (mj_any_mem hany)
        have hN : N = mj_nf ci := mj_cl_nf hcl
        intro H locs als cells slots hH hS hL hc hs
        obtain ⟨hz, hm0, hx0, hP⟩ := hH
        cases a with
        | zero =>
          exfalso
          have hm0' : mj_mt 0 m = some (0, L) := hm0
          rw [hm] at hm0'
          cases hm0'
        | succ a =>
          have hat := mj_ws_at (w := w) (h := (m, I, RR, J)) hm
          rw [mj_ce_obj] at hat
          have hval := mj_fs_at w I RR J (a + 1) ci (hN ▸ hk)
          have hsame : ∀ x, s.fieldFound? (T k).1 (T k).2.1 (T k).2.2.1 = some x → s.fieldFound? ref (T k).2.1 (T k).2.2.1 = some x := by
            intro x hx9
            rcases e3 with e3 | e3
            · rw [← e3]; exact hx9
            · rw [e1, e2] at hx9 ⊢
              exact u_same (hts _ e3) x hx9
          have hlink : (Cond.fieldLink (mj_cn own) idx ref (T k).2.1 (T k).2.2.1).before args s = true := by rw [e1, e2]; exact hts _ hlk
          show W p l e R s mi args below meth c H locs cells slots Q (F0 mi pc als (.ref (w.2.1 + a) :: st'.map (mj_cv w)))
          refine va_get (D := D) hx hb hts (mj_cl_in hcl) hown hK hP a hat hcl k hk hlink hsame hval hd ?_
          rcases ty with _ | _ | _ | _ | ty
          · simp only [mj_gf, hm, hany, Option.some.injEq, Prod.mk.injEq] at hst
            obtain ⟨-, rfl⟩ := hst
            have h9 : mj_fv w I RR J (a + 1) k (mj_ty ci k) = .int (I (a + 1) k) := by
              cases hty : mj_ty ci k <;> rw [hty] at e4 <;> simp [mj_tc] at e4
              rfl
            rw [h9]
            exact kk H locs als cells slots ⟨hz, hm0, hx0, hP⟩ hS hL hc hs
          · simp only [mj_gf, hm, hany, Option.some.injEq, Prod.mk.injEq] at hst
            obtain ⟨-, rfl⟩ := hst
            have h9 : mj_fv w I RR J (a + 1) k (mj_ty ci k) = .int (I (a + 1) k) := by
              cases hty : mj_ty ci k <;> rw [hty] at e4 <;> simp [mj_tc] at e4
              rfl
            rw [h9]
            exact kk H locs als cells slots ⟨hz, hm0, hx0, hP⟩ hS hL hc hs
          · have h9 : mj_fv w I RR J (a + 1) k (mj_ty ci k) = va_rf ((RR (a + 1) k).map (mj_ad w)) := by
              cases hty : mj_ty ci k <;> rw [hty] at e4 <;> simp [mj_tc] at e4 <;> rfl
            rw [h9]
            cases hR : RR (a + 1) k with
            | none =>
              simp only [mj_gf, hm, hany, hR, Option.some.injEq, Prod.mk.injEq] at hst
              obtain ⟨-, rfl⟩ := hst
              exact kk H locs als cells slots ⟨hz, hm0, hx0, hP⟩ hS hL hc hs
            | some b =>
              simp only [mj_gf, hm, hany, hR, Option.some.injEq, Prod.mk.injEq] at hst
              obtain ⟨-, rfl⟩ := hst
              exact kk H locs als cells slots ⟨hz, hm0, hx0, hP⟩ hS hL hc hs
          · simp only [mj_gf, hm, hany, Option.some.injEq, Prod.mk.injEq] at hst
            obtain ⟨-, rfl⟩ := hst
            have h9 : mj_fv w I RR J (a + 1) k (mj_ty ci k) = .long (J (a + 1) k) := by
              cases hty : mj_ty ci k <;> rw [hty] at e4 <;> simp [mj_tc] at e4
              rfl
            rw [h9]
            exact kk H locs als cells slots ⟨hz, hm0, hx0, hP⟩ hS hL hc hs
          · simp [mj_gf, hm, hany] at hst
  | _ => simp [mj_gf] at hst
end MJ
