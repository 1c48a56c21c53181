theorem mj_fs_set {w : mjW} {I I' : mjI} {R R' : mjR} {J J' : mjJ} {a ci k : Nat} {v : Value} (hv : mj_fv w I' R' J' a k (mj_ty ci k) = v) (ho : ∀ j, j ≠ k → mj_fv w I' R' J' a j = mj_fv w I R J a j) : (mj_fs w I R J a ci).set k v = mj_fs w I' R' J' a ci := by
  apply List.ext_getElem?
  intro j
  by_cases e : j = k
  · subst e
    by_cases hk : j < mj_nf ci
    · rw [List.getElem?_set_self (by rw [mj_fs_len]; exact hk), mj_fs_at _ _ _ _ _ _ hk, hv]
    · rw [List.getElem?_eq_none (by rw [List.length_set, mj_fs_len]; omega), List.getElem?_eq_none (by rw [mj_fs_len]; omega)]
  · rw [List.getElem?_set_ne (fun q => e q.symm)]
    simp only [mj_fs, List.getElem?_map]
    by_cases hk : j < mj_nf ci
    · rw [List.getElem?_range hk]
      simp [ho j e]
    · rw [List.getElem?_eq_none (by rw [List.length_range]; omega)]
      rfl
section MJ
variable {p : Program} {l : Launch} {e : Env} {R : Room} {s : State} {mi : MethodId} {args : Array Value} {below : List Frame} {meth : Method} {c : Code} {Q : State → Prop} {w : mjW} {D : va_G} {L : Nat} {xs : Nat → Int32} {own nL : Nat} {cc : ByteArray} {ini : Bool} {n0 u0 nE uE : Nat}
/-- behind a store -/
theorem mj_close (C : mj_Cx p R s mi args meth c w D L xs own nL cc ini n0 u0 nE uE) {n : Nat} {ls : List (Option Value)} {st : List Value} {m : mjM} {I I' : mjI} {RR R' : mjR} {J J' : mjJ} {H H1 : Heap} {locs1 : List Loc} {als : Array Slot} {cells slots : Nat} (h0 : I' 0 = I 0) (hH : mj_HR w D L xs (m, I, RR, J) H) (hP1 : va_P D vwCl (mj_ws w (m, I', R', J')) H1) (hS1 : va_S (fun q : Nat => w.2.1 ≤ q) s.heap H1 locs1) (hL : mj_LR w nL ls als) (hc : n0 + cells = m.length) (hs : u0 + slots = mj_sl m) (kk : mj_Sim p l e R s mi args below meth c Q w D L xs nL n0 u0 (n, ls, st, m, I', R', J')) : W p l e R s mi args below meth c H1 locs1 cells slots Q (F0 mi n als (st.map (mj_cv w))) := by
  obtain ⟨-, -, -, -, -, -, -, -, -, -, hsz, hn0, -⟩ := C
  obtain ⟨hz, hm0, hx0, -⟩ := hH
  have hlo := mj_P_size (h := (m, I', R', J')) hn0 hsz hS1.1 (by show n0 ≤ m.length; omega) hP1
  have hlo' : w.2.1 + m.length ≤ H1.size + 1 := hlo
  refine mj_Wsz (by omega) (fun h9 => ?_)
  refine kk H1 locs1 als cells slots ⟨?_, hm0, h0.trans hx0, hP1⟩ hS1 hL hc hs
  show H1.size + 1 = w.2.1 + m.length
  omega
def mj_VP (ini : Bool) (own idx k ty : Nat) (cs : List Nat) : Prop := mj_VF own idx k ty cs ∧ ∀ t, t ∈ cs → ∀ (ci : Nat) (q : vw_C), t = ci + 10 → vwCl[ci]? = some q → (q.2.1 k).2.2.2 = false ∨ (ini = true ∧ (q.2.1 k).2.2.2 = true ∧ (q.2.1 k).1 = mj_cn own)
theorem mj_s_put (C : mj_Cx p R s mi args meth c w D L xs own nL cc ini n0 u0 nE uE) {idx pc k ty a ci q : Nat} {cs : List Nat} (hd : decode cc pc = .ok (.putfield idx, 3)) (hv : mj_VP ini own idx k ty cs) {ls : List (Option Value)} {st : List Value} {m : mjM} {I I' : mjI} {RR R' : mjR} {J J' : mjJ} {v : Value} (hm : mj_mt (a + 1) m = some (ci + 10, q)) (hany : mj_any (ci + 10) cs = true)
    (hok : mj_tc (mj_ty ci k) = ty → narrow (mj_ty ci k) (mj_cv w v) = mj_cv w v ∧ fits (mj_ty ci k) (mj_cv w v) = true ∧ mj_fv w I' R' J' (a + 1) k (mj_ty ci k) = mj_cv w v) (ho : ∀ j, j ≠ k → mj_fv w I' R' J' (a + 1) j = mj_fv w I RR J (a + 1) j) (ho2 : ∀ b, b ≠ a + 1 → I' b = I b ∧ R' b = RR b ∧ J' b = J b)
    (kk : mj_Sim p l e R s mi args below meth c Q w D L xs nL n0 u0 (pc + 3, ls, st, m, I', R', J')) : mj_Sim p l e R s mi args below meth c Q w D L xs nL n0 u0 (pc, ls, v :: .ref (a + 1) :: st, m, I, RR, J) := by
  have C0 := C
  obtain ⟨hx, hb, hml, hown, hts, hK, -, hini, -⟩ := C
  obtain ⟨⟨ref, nm, ds, hlk, hcs⟩, hfin⟩ := hv
  obtain ⟨ci', Cn, T, N, he, hcl, hk, e1, e2, e3, e4⟩ := hcs _ (mj_any_mem hany)
  have hci : ci' = ci := by omega
  subst hci
  obtain ⟨o1, o2, o3⟩ := hok e4
  have hN : N = mj_nf ci' := mj_cl_nf hcl
  intro H locs als cells slots hH hS hL hc hs
  have hH0 := hH
  obtain ⟨hz, hm0, hx0, hP⟩ := hH
  have hat := mj_ws_at (w := w) (h := (m, I, RR, J)) hm
  rw [mj_ce_obj] at hat
  have hsame : ∀ x, s.fieldFound? (T k).1 (T k).2.1 (T k).2.2.1 = some x → s.fieldFound? ref (T k).2.1 (T k).2.2.1 = some x := by
    intro x hx9
    rcases e3 with e3 | e3
    · rw [← e3]; exact hx9
    · rw [e1, e2] at hx9 ⊢
      exact u_same (hts _ e3) x hx9
  have hlink : (Cond.fieldLink (mj_cn own) idx ref (T k).2.1 (T k).2.2.1).before args s = true := by rw [e1, e2]; exact hts _ hlk
  have hdesc : parseFieldDescriptor (T k).2.2.1 = some (mj_ty ci' k) := mj_cl_ty hcl k hk
  have hset : (mj_ws w (m, I, RR, J)).set a (w.2.1 + a, .inr (ci', (mj_fs w I RR J (a + 1) ci').set k (mj_cv w v))) = mj_ws w (m, I', R', J') := by
    rw [mj_fs_set o3 ho, ← mj_ce_obj w I' R' J' (a + 1) ci' q]
    exact mj_ws_set hm ho2
  show W p l e R s mi args below meth c H locs cells slots Q (F0 mi pc als (mj_cv w v :: .ref (w.2.1 + a) :: st.map (mj_cv w)))
  rcases hfin _ (mj_any_mem hany) ci' _ rfl hcl with hf | ⟨hi, hf, hde⟩
  · refine va_put (D := D) (A := fun q : Nat => w.2.1 ≤ q) hx hb hts (mj_cl_in hcl) (mj_ty ci') (mj_cl_ty hcl) (mj_cl_nm hcl) hown hK hP (mj_D w (m, I, RR, J)) hS a hat hcl k hk hlink hsame hf hdesc o1 o2 (by rw [mj_fs_len]; omega) hd (fun H1 locs1 hP1 hD1 hS1 => ?_)
    rw [hset] at hP1
    exact mj_close C0 (ho2 0 (by omega)).1 hH0 hP1 hS1 hL hc hs kk
  · refine va_putF (D := D) (A := fun q : Nat => w.2.1 ≤ q) hx hb hts (mj_cl_in hcl) (mj_ty ci') (mj_cl_ty hcl) (mj_cl_nm hcl) hown hK hP (mj_D w (m, I, RR, J)) hS a hat hcl k hk hlink hsame hf (hini hi) hde hdesc o1 o2 (by rw [mj_fs_len]; omega) hd (fun H1 locs1 hP1 hD1 hS1 => ?_)
    rw [hset] at hP1
    exact mj_close C0 (ho2 0 (by omega)).1 hH0 hP1 hS1 hL hc hs kk
theorem mj_s_pf (C : mj_Cx p R s mi args meth c w D L xs own nL cc ini n0 u0 nE uE) {idx pc n k ty : Nat} {cs : List Nat} (hd : decode cc pc = .ok (.putfield idx, 3)) (hv : mj_VP ini own idx k ty cs) (hn : n = pc + 3) {ls : List (Option Value)} {st : List Value} {m : mjM} {I : mjI} {RR : mjR} {J : mjJ} {o : Option Prop} {cf' : mjC} (hst : mj_pf n (k :: ty :: cs) ls st m I RR J = some (o, cf')) (ho : mj_ok o) (kk : mj_Sim p l e R s mi args below meth c Q w D L xs nL n0 u0 cf') : mj_Sim p l e R s mi args below meth c Q w D L xs nL n0 u0 (pc, ls, st, m, I, RR, J) := by
  subst hn
  cases st with
  | nil => simp [mj_pf] at hst
  | cons v st =>
  cases st with
  | nil => simp [mj_pf] at hst
  | cons v2 st' =>
  cases v2 with
  | ref a =>
    cases hm : mj_mt a m with
    | none => simp [mj_pf, hm] at hst
    | some tq =>
      obtain ⟨t, q⟩ := tq
      cases hany : mj_any t cs with
      | false => simp [mj_pf, hm, hany] at hst
      | true =>
        obtain ⟨⟨ref, nm, ds, hlk, hcs⟩, hfin⟩ := id hv
        obtain ⟨ci, Cn, T, N, rfl, hcl, hk, e1, e2, e3, e4⟩ := hcs t (mj_any_mem hany)
        cases a with
        | zero =>
          intro H locs als cells slots hH
          exfalso
          have hm0' : mj_mt 0 m = some (0, L) := hH.2.1
          rw [hm] at hm0'
          cases hm0'
        | succ a =>
          rcases ty with _ | _ | _ | _ | ty
          · cases v <;> simp only [mj_pf, hm, hany, Option.some.injEq, Prod.mk.injEq, reduceCtorEq] at hst
            obtain ⟨-, rfl⟩ := hst
            refine mj_s_put C hd hv hm hany (fun h9 => ?_) (fun j hj => ?_) (fun b hb => ?_) kk
            · cases hty : mj_ty ci k <;> rw [hty] at h9 <;> simp [mj_tc] at h9
              refine ⟨rfl, rfl, ?_⟩
              simp [mj_fv, mj_ui, mj_cv, upd]
            · funext ty
              cases ty <;> simp [mj_fv, mj_ui, upd, hj]
            · simp [mj_ui, hb]
          · cases v <;> simp only [mj_pf, hm, hany, Option.some.injEq, Prod.mk.injEq, reduceCtorEq] at hst
            obtain ⟨rfl, rfl⟩ := hst
            refine mj_s_put C hd hv hm hany (fun h9 => ?_) (fun j hj => ?_) (fun b hb => ?_) kk
            · cases hty : mj_ty ci k <;> rw [hty] at h9 <;> simp [mj_tc] at h9
              have ho' : _ ∨ _ := ho
              refine ⟨?_, ?_, ?_⟩
              · rcases ho' with e | e <;> rw [e] <;> rfl
              · rcases ho' with e | e <;> rw [e] <;> rfl
              · simp [mj_fv, mj_ui, mj_cv, upd]
            · funext ty
              cases ty <;> simp [mj_fv, mj_ui, upd, hj]
            · simp [mj_ui, hb]
          · cases v <;> simp only [mj_pf, hm, hany, Option.some.injEq, Prod.mk.injEq, reduceCtorEq] at hst
            · obtain ⟨-, rfl⟩ := hst
              refine mj_s_put C hd hv hm hany (fun h9 => ?_) (fun j hj => ?_) (fun b hb => ?_) kk
              · cases hty : mj_ty ci k <;> rw [hty] at h9 <;> simp [mj_tc] at h9 <;> exact ⟨rfl, rfl, by simp [mj_fv, mj_ur, mj_cv, va_up, va_rf]⟩
              · funext ty
                cases ty <;> simp [mj_fv, mj_ur, va_up, hj]
              · simp [mj_ur, hb]
            · obtain ⟨-, rfl⟩ := hst
              refine mj_s_put C hd hv hm hany (fun h9 => ?_) (fun j hj => ?_) (fun b hb => ?_) kk
              · cases hty : mj_ty ci k <;> rw [hty] at h9 <;> simp [mj_tc] at h9 <;> exact ⟨rfl, rfl, by simp [mj_fv, mj_ur, mj_cv, va_up, va_rf]⟩
              · funext ty
                cases ty <;> simp [mj_fv, mj_ur, va_up, hj]
              · simp [mj_ur, hb]
          · cases v <;> simp only [mj_pf, hm, hany, Option.some.injEq, Prod.mk.injEq, reduceCtorEq] at hst
            obtain ⟨-, rfl⟩ := hst
            refine mj_s_put C hd hv hm hany (fun h9 => ?_) (fun j hj => ?_) (fun b hb => ?_) kk
            · cases hty : mj_ty ci k <;> rw [hty] at h9 <;> simp [mj_tc] at h9
              refine ⟨rfl, rfl, ?_⟩
              simp [mj_fv, mj_uj, mj_cv, vp_updL]
            · funext ty
              cases ty <;> simp [mj_fv, mj_uj, vp_updL, hj]
            · simp [mj_uj, hb]
          · simp [mj_pf, hm, hany] at hst
  | _ => simp [mj_pf] at hst
end MJ
