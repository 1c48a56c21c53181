abbrev mjY : Type := List (MethodName × ByteArray × Nat × Option FieldType)
def mj_MF (Y : mjY) (l : Launch) (d : Nat) (K : mjK) : Prop := ∀ (k : Nat) (as : List Value) (h : mjH) (v : Option Value) (h' : mjH), K k as h v h' → ∃ (y : MethodName) (cc : ByteArray) (mL : Nat) (ret : Option FieldType), Y[k]? = some (y, cc, mL, ret) ∧ h.1.length ≤ h'.1.length ∧ mj_sl h.1 ≤ mj_sl h'.1 ∧ ∀ (w : mjW) (D : va_G) (L : Nat) (xs : Nat → Int32), Met l y (Cond.code y cc mL ret :: mj_tb) (mj_rm d (h'.1.length - h.1.length) (mj_sl h'.1 - mj_sl h.1)) (mj_Pc w D L xs as h) (mj_Qc w D L xs v h') (h'.1.length - h.1.length) (mj_sl h'.1 - mj_sl h.1) (fun q : Addr => w.2.1 ≤ q)
abbrev mj_hd (y : MethodName) (n : Nat) : Prop := y.cls ≠ "java/lang/invoke/MethodHandle" ∧ y.cls ≠ "java/lang/invoke/VarHandle" ∧ (parseMethodDescriptor y.desc).map (fun d => d.parameters.length) = some n
def mj_VC (Y : mjY) (own : Nat) (ins : Instr) (d : List Nat) : Prop := match ins with
  | .invokestatic i => ∀ n k, d = [0, n, k] → ∃ (y : MethodName) (cc : ByteArray) (mL : Nat) (ret : Option FieldType), Y[k]? = some (y, cc, mL, ret) ∧ Cond.code y cc mL ret ∈ mj_tb ∧ mL ≤ 70 ∧ (Cond.methodLink (mj_cn own) i y ∈ mj_tb ∨ ∃ host, Cond.methodLinkNest (mj_cn own) i y host ∈ mj_xn) ∧ Cond.static y ∈ mj_tb ∧ Cond.initialized y.cls ∈ mj_tb ∧ mj_hd y n
  | .invokespecial i => ∀ n k, d = [2, n, k] → ∃ (y : MethodName) (cc : ByteArray) (mL : Nat), Y[k]? = some (y, cc, mL, none) ∧ Cond.code y cc mL none ∈ mj_tb ∧ mL ≤ 70 ∧ (Cond.methodLink (mj_cn own) i y ∈ mj_tb ∨ ∃ host, Cond.methodLinkNest (mj_cn own) i y host ∈ mj_xn) ∧ Cond.instanceMethod y ∈ mj_tb ∧ Cond.initialized y.cls ∈ mj_tb ∧ mj_hd y n ∧ y.name = "<init>"
  | .invokevirtual i => ∀ n ts, d = 1 :: n :: ts → ∀ t k, mj_sel t ts = some k → ∃ (ci : Nat) (C : String) (T : u_T) (N : Nat) (y : MethodName) (cc : ByteArray) (mL : Nat) (ret : Option FieldType), t = ci + 10 ∧ vwCl[ci]? = some (C, T, N) ∧ Y[k]? = some (y, cc, mL, ret) ∧ Cond.code y cc mL ret ∈ mj_tb ∧ mL ≤ 70 ∧ Cond.instanceMethod y ∈ mj_tb ∧ Cond.initialized y.cls ∈ mj_tb ∧ ((Cond.methodLink (mj_cn own) i y ∈ mj_tb ∧ Cond.selects C y y ∈ mj_tb ∧ mj_hd y n) ∨ ∃ (x : MethodName) (b0 : ByteArray) (m0 : Nat) (r0 : Option FieldType), Cond.methodLink (mj_cn own) i x ∈ mj_tb ∧ Cond.sameMethod x.cls x.cls x.name x.desc ∈ mj_tb ∧ Cond.instanceMethod x ∈ mj_tb ∧ Cond.code x b0 m0 r0 ∈ mj_tb ∧ Cond.selects C x y ∈ mj_tb ∧ mj_hd x n)
  | _ => True
theorem mj_pop_spec {α : Type} : ∀ (n : Nat) (st acc : List Value) (f : List Value → List Value → Option α) (r : α), mj_pop n st acc f = some r → ∃ ys st', st = ys ++ st' ∧ ys.length = n ∧ f (ys.reverse ++ acc) st' = some r
  | 0, st, acc, f, r, h => ⟨[], st, rfl, rfl, h⟩
  | n + 1, [], acc, f, r, h => by simp [mj_pop] at h
  | n + 1, v :: st, acc, f, r, h => by
    obtain ⟨ys, st', h1, h2, h3⟩ := mj_pop_spec n st (v :: acc) f r h
    exact ⟨v :: ys, st', by rw [h1]; rfl, by simp [h2], by simpa using h3⟩
theorem mj_psh_map (w : mjW) (v : Option Value) (st : List Value) : (mj_psh v st).map (mj_cv w) = (v.map (mj_cv w)).toList ++ st.map (mj_cv w) := by cases v <;> rfl
section MJ
variable {p : Program} {l : Launch} {e : Env} {R : Room} {s : State} {mi : MethodId} {args : Array Value} {below : List Frame} {meth : Method} {c : Code} {Q : State → Prop} {w : mjW} {D : va_G} {L : Nat} {xs : Nat → Int32} {own nL : Nat} {cc : ByteArray} {ini : Bool} {n0 u0 nE uE : Nat}
theorem mj_goon {H : Heap} {locs : List Loc} {cells slots mc ms pc : Nat} {ls : Array Slot} {st0 rest : List Value} {v : Option Value} {h' : mjH} {a : Array Value} (hr : va_Run p l e R s mi args below meth c H locs cells slots mc ms (F0 mi pc ls st0) rest (mj_Qc w D L xs v h' a) (fun q : Addr => w.2.1 ≤ q)) (hS : va_S (fun q : Nat => w.2.1 ≤ q) s.heap H locs)
    (kk : ∀ (H1 : Heap) (locs1 : List Loc), mj_HR w D L xs h' H1 → va_S (fun q : Nat => w.2.1 ≤ q) s.heap H1 locs1 → W p l e R s mi args below meth c H1 locs1 (cells + mc) (slots + ms) Q (F0 mi (pc + 3) ls ((v.map (mj_cv w)).toList ++ rest))) : W p l e R s mi args below meth c H locs cells slots Q (F0 mi pc ls st0) := by
  intro T hT X
  obtain ⟨v1, st₀, t, T', L1, h0, X', hL, e1, e2, ⟨hv, hH, hz, hk⟩, st⟩ := hr T hT X
  cases hv
  rw [h0] at hz hk
  obtain ⟨t2, a1, b1⟩ := kk T'.heap (locs ++ L1) (by rw [e1]; exact hH) ⟨Nat.le_trans hS.1 (by rw [e1]; exact hz), fun q h1 h2 => by rw [e1, hk q (Nat.lt_of_lt_of_le h1 hS.1) h2]; exact hS.2.1 q h1 h2, fun q hq => by
    rcases List.mem_append.mp hq with h | h
    · exact hS.2.2 q h
    · exact hL q h⟩ T' rfl X'
  exact ⟨t2, st t2 a1, b1⟩
theorem mj_scall {Y : mjY} {d : Nat} {K : mjK} (C : mj_Cx p R s mi args meth c w D L xs own nL cc ini n0 u0 nE uE) (hMF : mj_MF Y l d K) (hRd : d + 1 ≤ R.frames ∧ 100 * d + 100 ≤ R.locals) {en : mjE} {cf : mjC} {k : Nat} {as st : List Value} {v : Option Value} {h1 : mjH} (hv : mj_VE ini own cc cf.1 en) (hvc : mj_VC Y own en.1 en.2.2) (hinv : mj_inv en cf = some (k, as, st)) (hKc : K k as cf.2.2.2 v h1) (hE : h1.1.length ≤ nE ∧ mj_sl h1.1 ≤ uE) (kk : mj_Sim p l e R s mi args below meth c Q w D L xs nL n0 u0 (en.2.1, cf.2.1, mj_psh v st, h1)) : mj_Sim p l e R s mi args below meth c Q w D L xs nL n0 u0 cf := by
  obtain ⟨ins, n, d9⟩ := en
  obtain ⟨pc, ls, st0, h⟩ := cf
  obtain ⟨⟨k9, hd, hk9⟩, -⟩ := hv
  obtain ⟨y, cy, mL, ret, hY, hl1, hl2, hMet⟩ := hMF _ _ _ _ _ hKc
  have hl1' : h.1.length ≤ h1.1.length := hl1
  have hl2' : mj_sl h.1 ≤ mj_sl h1.1 := hl2
  have C0 := C
  obtain ⟨hx, hb, hml, hown, hts, hK, hXW, hini, hX, hbB, hsz, hn0, hfr, hlo, hRc, hRs⟩ := C
  intro H locs als cells slots hH hS hL hc hs
  have hc' : n0 + cells = h.1.length := hc
  have hs' : u0 + slots = mj_sl h.1 := hs
  have hf : cells + (h1.1.length - h.1.length) ≤ R.cells ∧ slots + (mj_sl h1.1 - mj_sl h.1) ≤ R.slots := by omega
  have hXh : va_X w.1 L xs s H := hX.kept (hS.2.1 w.1 (by omega) (by omega))
  have hpre : ∀ U : State, U.heap = H → s.WarmedH U.vm → mj_Wd w D L xs h U := fun U hU hW => mj_Wd.warm hW hU hH hK hXW hXh hbB (by omega)
  have fin : ∀ (H1 : Heap) (locs1 : List Loc), mj_HR w D L xs h1 H1 → va_S (fun q : Nat => w.2.1 ≤ q) s.heap H1 locs1 → n = pc + 3 → W p l e R s mi args below meth c H1 locs1 (cells + (h1.1.length - h.1.length)) (slots + (mj_sl h1.1 - mj_sl h.1)) Q (F0 mi (pc + 3) als ((v.map (mj_cv w)).toList ++ st.map (mj_cv w))) := by
    intro H1 locs1 hH1 hS1 hn
    subst hn
    rw [← mj_psh_map]
    exact kk H1 locs1 als _ _ hH1 hS1 hL (by show n0 + _ = h1.1.length; omega) (by show u0 + _ = mj_sl h1.1; omega)
  have hrm : ∀ mL : Nat, mL ≤ 70 → (mj_rm d (h1.1.length - h.1.length) (mj_sl h1.1 - mj_sl h.1)).frames + 1 ≤ R.frames ∧ 8 + (mL + 11) + (mj_rm d (h1.1.length - h.1.length) (mj_sl h1.1 - mj_sl h.1)).locals ≤ R.locals := fun mL hm => ⟨hRd.1, by show 8 + (mL + 11) + 100 * d ≤ R.locals; omega⟩
  obtain ⟨h, hheq⟩ : ∃ g, g = h := ⟨h, rfl⟩
  subst hheq
  cases ins with
  | invokestatic i =>
    obtain ⟨rfl, hn⟩ := hk9 rfl
    obtain ⟨mm, II, RR, JJ⟩ := h
    simp only [mj_inv] at hinv
    split at hinv <;> try (cases hinv; done)
    next n9 k9 =>
      obtain ⟨ys, st', e1, e2, e3⟩ := mj_pop_spec _ _ _ _ _ hinv
      split at e3 <;> try (cases e3; done)
      next hble =>
        simp only [Option.some.injEq, Prod.mk.injEq] at e3
        obtain ⟨rfl, rfl, rfl⟩ := e3
        obtain ⟨y', cy', mL', ret', hY', w1, w2, w3, w4, w5, w6⟩ := hvc n9 k9 rfl
        rw [hY] at hY'
        cases hY'
        have hst : (st0.map (mj_cv w)) = (((ys.reverse ++ []).map (mj_cv w)).reverse ++ st'.map (mj_cv w)) := by rw [e1]; simp
        have hW : 2 * (F0 mi pc als (st0.map (mj_cv w))).monitorRoom + ((st'.map (mj_cv w)).map fun v => v.category).sum ≤ 8 := lv_room (by rw [mj_sum_eq]; exact Nat.le_of_ble_eq_true hble)
        have hlen : ((ys.reverse ++ []).map (mj_cv w)).length = n9 := by simp [e2]
        show W p l e R s mi args below meth c H locs cells slots Q (F0 mi pc als (st0.map (mj_cv w)))
        rcases w3 with w3 | ⟨host, w3⟩
        · exact mj_goon (va_runS ⟨hx, hb, hml, hown, hts⟩ (hMet w D L xs) ⟨callB_of n9 hts (mj_goodIn w1) rfl rfl rfl (hts _ w5) (hts _ w3) w6 (hrm _ w2), hts _ w4⟩ ⟨mj_blind w D L xs _ _, fun U hU hW9 => ⟨rfl, hpre U hU hW9⟩⟩ rfl hlen hL.2.1 hst hW hd hf) hS (fun H1 locs1 a b => fin H1 locs1 a b hn)
        · exact mj_goon (va_runSN ⟨hx, hb, hml, hown, hts⟩ (hMet w D L xs) ⟨va_cnB n9 hts (mj_goodIn w1) rfl rfl rfl (hXW.1 _ w3) (hts _ w5) w6 (hrm _ w2), hts _ w4, trivial⟩ ⟨mj_blind w D L xs _ _, fun U hU hW9 => ⟨rfl, hpre U hU hW9⟩⟩ rfl hlen hL.2.1 hst hW hd hf) hS (fun H1 locs1 a b => fin H1 locs1 a b hn)
  | invokespecial i =>
    obtain ⟨rfl, hn⟩ := hk9 rfl
    obtain ⟨mm, II, RR, JJ⟩ := h
    simp only [mj_inv] at hinv
    split at hinv <;> try (cases hinv; done)
    next n9 k9 =>
      obtain ⟨ys, st2, e1, e2, e3⟩ := mj_pop_spec _ _ _ _ _ hinv
      split at e3 <;> try (cases e3; done)
      next a st' =>
        split at e3 <;> try (cases e3; done)
        next hble =>
          simp only [Option.some.injEq, Prod.mk.injEq] at e3
          obtain ⟨rfl, rfl, rfl⟩ := e3
          obtain ⟨y', cy', mL', hY', w1, w2, w3, w4, w5, w6, w7⟩ := hvc n9 k9 rfl
          rw [hY] at hY'
          cases hY'
          have hst : (st0.map (mj_cv w)) = (((ys.reverse ++ []).map (mj_cv w)).reverse ++ .ref (mj_ad w a) :: st'.map (mj_cv w)) := by rw [e1]; simp [mj_cv]
          have hW : 2 * (F0 mi pc als (st0.map (mj_cv w))).monitorRoom + ((st'.map (mj_cv w)).map fun v => v.category).sum ≤ 8 := lv_room (by rw [mj_sum_eq]; exact Nat.le_of_ble_eq_true hble)
          have hlen : ((ys.reverse ++ []).map (mj_cv w)).length = n9 := by simp [e2]
          show W p l e R s mi args below meth c H locs cells slots Q (F0 mi pc als (st0.map (mj_cv w)))
          rcases w3 with w3 | ⟨host, w3⟩
          · exact mj_goon (va_runI ⟨hx, hb, hml, hown, hts⟩ (hMet w D L xs) ⟨callB_of n9 hts (mj_goodIn w1) rfl rfl rfl (hts _ w5) (hts _ w3) w6 (hrm _ w2), w7, hts _ w4⟩ ⟨mj_blind w D L xs _ _, fun U hU hW9 => ⟨rfl, hpre U hU hW9⟩⟩ rfl hlen hL.2.1 hst hW hd hf) hS (fun H1 locs1 a b => fin H1 locs1 a b hn)
          · exact mj_goon (va_runIN ⟨hx, hb, hml, hown, hts⟩ (hMet w D L xs) ⟨va_cnB n9 hts (mj_goodIn w1) rfl rfl rfl (hXW.1 _ w3) (hts _ w5) w6 (hrm _ w2), w7, hts _ w4⟩ ⟨mj_blind w D L xs _ _, fun U hU hW9 => ⟨rfl, hpre U hU hW9⟩⟩ rfl hlen hL.2.1 hst hW hd hf) hS (fun H1 locs1 a b => fin H1 locs1 a b hn)
  | invokevirtual i =>
    obtain ⟨rfl, hn⟩ := hk9 rfl
    obtain ⟨mm, II, RR, JJ⟩ := h
    simp only [mj_inv] at hinv
    split at hinv <;> try (cases hinv; done)
    next n9 ts =>
      obtain ⟨ys, st2, e1, e2, e3⟩ := mj_pop_spec _ _ _ _ _ hinv
      split at e3 <;> try (cases e3; done)
      next a st' =>
        cases hm : mj_mt a mm with
        | none => simp [hm] at e3
        | some tq =>
          obtain ⟨t, q⟩ := tq
          simp only [hm] at e3
          split at e3 <;> try (cases e3; done)
          next k8 hsel hble =>
            simp only [Option.some.injEq, Prod.mk.injEq] at e3
            obtain ⟨rfl, rfl, rfl⟩ := e3
            obtain ⟨ci, Cn, T, N, y', cy', mL', ret', rfl, hcl, hY', w1, w2, w4, w5, w6⟩ := hvc n9 ts rfl t k8 hsel
            rw [hY] at hY'
            cases hY'
            cases a with
            | zero =>
              exfalso
              have hm0' : mj_mt 0 mm = some (0, L) := hH.2.1
              rw [hm] at hm0'
              cases hm0'
            | succ a =>
              have hat := mj_ws_at (w := w) (h := (mm, II, RR, JJ)) hm
              rw [mj_ce_obj] at hat
              have hrec := va_recv hK hH.2.2.2 hcl hat
              have hst : (st0.map (mj_cv w)) = (((ys.reverse ++ []).map (mj_cv w)).reverse ++ .ref (w.2.1 + a) :: st'.map (mj_cv w)) := by rw [e1]; simp [mj_cv, mj_ad]
              have hW : 2 * (F0 mi pc als (st0.map (mj_cv w))).monitorRoom + ((st'.map (mj_cv w)).map fun v => v.category).sum ≤ 8 := lv_room (by rw [mj_sum_eq]; exact Nat.le_of_ble_eq_true hble)
              have hlen : ((ys.reverse ++ []).map (mj_cv w)).length = n9 := by simp [e2]
              show W p l e R s mi args below meth c H locs cells slots Q (F0 mi pc als (st0.map (mj_cv w)))
              rcases w6 with ⟨w6, w7, w8⟩ | ⟨x, b0, m0, r0, w6, w7, w8, w9, w10, w11⟩
              · exact mj_goon (va_runV (C := Cn) ⟨hx, hb, hml, hown, hts⟩ (hMet w D L xs) ⟨callB_of n9 hts (mj_goodIn w1) rfl rfl rfl (hts _ w5) (hts _ w6) w8 (hrm _ w2), hts _ w4, hts _ w7⟩ ⟨mj_blind w D L xs _ _, hrec, fun U hU hW9 => ⟨rfl, hpre U hU hW9⟩⟩ rfl hlen hL.2.1 hst hW hd hf) hS (fun H1 locs1 a b => fin H1 locs1 a b hn)
              · have hCU : va_CU R s args (mj_cn own) Cn x.cls i x y cy mL ret (Cond.code y cy mL ret :: mj_tb) (mj_rm d (h1.1.length - mm.length) (mj_sl h1.1 - mj_sl mm)) (h1.1.length - mm.length) (mj_sl h1.1 - mj_sl mm) n9 := by
                  refine ⟨⟨rfl, rfl, (hrm _ w2).1, (hrm _ w2).2, pay_in hts (mj_goodIn w1), List.mem_cons_self⟩, hts _ w1, hts _ w5, ⟨w11.1, w11.2.1⟩, fun sig h9 => ?_, hts _ w6, hts _ w7, va_Decl.of (hts _ w8) (hts _ w9), hts _ w10, hts _ w4⟩
                  have h8 := w11.2.2
                  rw [h9] at h8
                  exact (Option.some.inj h8).symm
                exact mj_goon (va_runU (C := Cn) ⟨hx, hb, hml, hown, hts⟩ (hMet w D L xs) hCU ⟨mj_blind w D L xs _ _, hrec, fun U hU hW9 => ⟨rfl, hpre U hU hW9⟩⟩ rfl hlen hL.2.1 hst hW hd hf) hS (fun H1 locs1 a b => fin H1 locs1 a b hn)
  | _ => simp [mj_inv] at hinv
end MJ
