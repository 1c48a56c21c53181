section MJ
variable {p : Program} {l : Launch} {e : Env} {R : Room} {s : State} {mi : MethodId} {args : Array Value} {below : List Frame} {meth : Method} {c : Code} {Q : State → Prop} {w : mjW} {D : va_G} {L : Nat} {xs : Nat → Int32} {own nL : Nat} {cc : ByteArray} {ini : Bool} {n0 u0 nE uE : Nat}
theorem mj_s_st1 (C : mj_Cx p R s mi args meth c w D L xs own nL cc ini n0 u0 nE uE) {pc n i : Nat} {v : Value} {ls : List (Option Value)} {st : List Value} {m : mjM} {I : mjI} {RR : mjR} {J : mjJ} {o : Option Prop} {cf' : mjC} (hst : mj_st1 n i v ls st m I RR J = some (o, cf')) {H : Heap} {locs : List Loc} {als : Array Slot} {cells slots : Nat} {g : JFrame}
    (hrow : i < nL → (∀ als' : Array Slot, lv_has als' nL ((i, mj_cv w v) :: (mj_lv w 0 ls).filter (fun q => !(q.1 == i) && !(q.1 + 1 == i && q.2.category == 2))) → W p l e R s mi args below meth c H locs cells slots Q (F0 mi n als' (st.map (mj_cv w)))) → W p l e R s mi args below meth c H locs cells slots Q g)
    (hH : mj_HR w D L xs (m, I, RR, J) H) (hS : va_S (fun q : Nat => w.2.1 ≤ q) s.heap H locs) (hL : mj_LR w nL ls als) (hc : n0 + cells = m.length) (hs : u0 + slots = mj_sl m) (kk : mj_Sim p l e R s mi args below meth c Q w D L xs nL n0 u0 cf') : W p l e R s mi args below meth c H locs cells slots Q g := by
  unfold mj_st1 at hst
  split at hst <;> try (cases hst; done)
  next hp =>
    obtain ⟨ls', h1, h2, h3, h4, h5⟩ := mj_set_spec _ _ _ _ hst
    simp only [Option.some.injEq, Prod.mk.injEq] at h1
    obtain ⟨-, rfl⟩ := h1
    refine hrow (by rw [← hL.1]; exact h3) (fun als' hal => ?_)
    exact kk H locs als' cells slots hH hS (mj_LR.st1 hL.1 h2 h4 h5 hp hal) hc hs
theorem mj_s_st2 (C : mj_Cx p R s mi args meth c w D L xs own nL cc ini n0 u0 nE uE) {pc n i : Nat} {v : Value} {ls : List (Option Value)} {st : List Value} {m : mjM} {I : mjI} {RR : mjR} {J : mjJ} {o : Option Prop} {cf' : mjC} (hst : mj_st2 n i v ls st m I RR J = some (o, cf')) {H : Heap} {locs : List Loc} {als : Array Slot} {cells slots : Nat} {g : JFrame}
    (hrow : i + 1 < nL → (∀ als' : Array Slot, lv_has als' nL ((i, mj_cv w v) :: (mj_lv w 0 ls).filter (fun q => !(q.1 == i) && (!(q.1 == i + 1) && !(q.1 + 1 == i && q.2.category == 2)))) → W p l e R s mi args below meth c H locs cells slots Q (F0 mi n als' (st.map (mj_cv w)))) → W p l e R s mi args below meth c H locs cells slots Q g)
    (hH : mj_HR w D L xs (m, I, RR, J) H) (hS : va_S (fun q : Nat => w.2.1 ≤ q) s.heap H locs) (hL : mj_LR w nL ls als) (hc : n0 + cells = m.length) (hs : u0 + slots = mj_sl m) (kk : mj_Sim p l e R s mi args below meth c Q w D L xs nL n0 u0 cf') : W p l e R s mi args below meth c H locs cells slots Q g := by
  unfold mj_st2 at hst
  split at hst <;> try (cases hst; done)
  next hp =>
    obtain ⟨l1, h1, h2, h3, h4, h5⟩ := mj_set_spec _ _ _ _ hst
    obtain ⟨ls', k1, k2, k3, k4, k5⟩ := mj_set_spec _ _ _ _ h1
    simp only [Option.some.injEq, Prod.mk.injEq] at k1
    obtain ⟨-, rfl⟩ := k1
    refine hrow (by rw [← hL.1, ← h2]; exact k3) (fun als' hal => ?_)
    exact kk H locs als' cells slots hH hS (mj_LR.st2 hL.1 h2 h4 h5 k2 k4 k5 hp hal) hc hs
end MJ
def mj_lkc (pc : Nat) (df : Int) (t : Nat) : List (Int × Int) → List Nat → Prop
  | [], [] => (pc : Int) + df = t
  | (a, b) :: ps, k :: q :: ts => a = k ∧ k < 2 ^ 31 ∧ (pc : Int) + b = q ∧ mj_lkc pc df t ps ts
  | _, _ => False
def mj_VD (ini : Bool) (own pc n : Nat) (ins : Instr) (d : List Nat) : Prop := match ins with
  | .iconst i => ∀ k, d = [k] → Int32.ofInt i = nI k
  | .bipush i => ∀ k, d = [k] → (Int8.ofInt i).toInt32 = nI k
  | .sipush i => ∀ k, d = [k] → (Int16.ofInt i).toInt32 = nI k
  | .ldc i => ∀ v, d = [v] → Cond.constant (mj_cn own) i (nI v) ∈ mj_tb
  | .ldc_w i => ∀ v, d = [v] → Cond.constant (mj_cn own) i (nI v) ∈ mj_tb
  | .ldc2_w i => ∀ v, d = [v] → Cond.constantLong (mj_cn own) i (lN v) ∈ mj_tb
  | .iinc _ k => ∀ q, d = [q] → Int32.ofInt k = nI q
  | .goto off => ∀ t, d = [t] → (pc : Int) + off = (t : Int)
  | .ifnull off => ∀ t, d = [t] → (pc : Int) + off = (t : Int)
  | .ifnonnull off => ∀ t, d = [t] → (pc : Int) + off = (t : Int)
  | .ifCond _ off => ∀ t, d = [t] → (pc : Int) + off = (t : Int)
  | .if_icmp _ off => ∀ t, d = [t] → (pc : Int) + off = (t : Int)
  | .tableswitch df lo hi offs => ∀ t ts, d = t :: ts → (pc : Int) + df = (t : Int) ∧ ts.length = offs.size ∧ hi = lo + offs.size - 1 ∧ ∀ (j : Nat) (q : Nat), ts[j]? = some q → ∃ off, offs[j]? = some off ∧ (pc : Int) + off = (q : Int)
  | .lookupswitch df ps => ∀ t ts, d = t :: ts → (ps.toList.zip (ps.toList.drop 1)).all (fun (a, next) => a.1 < next.1) = true ∧ mj_lkc pc df t ps.toList ts
  | .getfield i => ∀ k ty cs, d = k :: ty :: cs → mj_VF own i k ty cs
  | .putfield i => ∀ k ty cs, d = k :: ty :: cs → mj_VP ini own i k ty cs
  | .anewarray i => Cond.classLink (mj_cn own) i "PointsThrow$Point" ∈ mj_tb
  | .multianewarray i k => k = 2 ∧ Cond.classLink (mj_cn own) i "[[I" ∈ mj_tb
  | .new i => ∀ t k, d = [t, k] → mj_VN own i t k
  | .instanceof i => mj_VI own i d
  | .aastore => d = [14, 11, 12, 18]
  | .invokespecial i => d = [5] → Cond.methodLink (mj_cn own) i objectInit ∈ mj_tb
  | .invokestatic i => d = [6] → Cond.methodLink (mj_cn own) i arraycopyName ∈ mj_tb
  | _ => True
def mj_isw : Instr → Bool
  | .tableswitch .. => true
  | .lookupswitch .. => true
  | _ => false
def mj_VE (ini : Bool) (own : Nat) (cc : ByteArray) (pc : Nat) (en : mjE) : Prop := (∃ k, decode cc pc = .ok (en.1, k) ∧ (mj_isw en.1 = false → k = mj_ln en.1 ∧ en.2.1 = pc + mj_ln en.1)) ∧ mj_VD ini own pc en.2.1 en.1 en.2.2
