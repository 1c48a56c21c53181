theorem mj_ofW {l : Launch} {y : MethodName} {ws ws' : List Cond} {rm : Room} {Pc : Array Value → State → Prop} {Qc : Array Value → State → Outcome → State → Prop} {mc ms : Nat} {free : Addr → Prop} {cc : ByteArray} {maxL : Nat} {ret : Option FieldType}
    (hy : plainFor y = true) (hw : ws = Cond.code y cc maxL ret :: ws')
    (body : ∀ p e s m args below meth c s₁, BodyLoose p l y (headSpec ws rm) cc maxL ret e s m args below meth c s₁ → c.maxLocals = maxL → Pc args s →
      W p l e (headSpec ws rm).room s m args below meth c s.heap [] 0 0 (MQ below Qc args s mc ms free) (entryFrame m args maxL)) : Met l y ws rm Pc Qc mc ms free := by
  refine MetFree.of_bodySF (code := cc) (maxLocals := maxL) (ret := ret) hy ?_ ?_
  · intro args s m h hn
    obtain ⟨meth, c, h1, h2, h3, h4, h5, h6, -, -⟩ := Cond.code_spec hn (atoms_spec (ws := ws) h _ (by rw [hw]; exact List.mem_cons_self))
    exact ⟨meth, c, h1, h2, h3, h4, h5, h6⟩
  · intro p e s m args below meth c s₁ B hml hP _
    have hh0 : s₁.heap = s.heap := by rw [B.state]; rfl
    obtain ⟨t, a1, o, b1, b2, b3⟩ := body p e s m args below meth c s₁ B hml hP s₁ hh0 (Stand.of_body B)
    exact ⟨t, o, a1, b1, b2, ⟨b3.1, b3.2⟩⟩
theorem mj_bindk (x y : Option Nat) (F : Nat → Option Bool) (h : x = y) (g : y.bind F = some true) : x.bind F = some true := by
  rw [h]
  exact g
theorem mj_AOA {u U : State} (hvm : u.vm.Alike U.vm) (h : (Cond.arrayOver (.array .int)).before #[] u = true) : (Cond.arrayOver (.array .int)).before #[] U = true := by
  have hi := fun comp : ClassId => va_idx_bare U.vm comp
  have hj := fun comp : ClassId => va_idx_bare u.vm comp
  unfold Cond.before Cond.holds at h ⊢
  simp only [Cond.value, beq_iff_eq] at h ⊢
  rw [hvm.findClass]
  rw [Option.bind_eq_some_iff] at h ⊢
  obtain ⟨comp, hc, h⟩ := h
  refine ⟨comp, hc, ?_⟩
  have hi := hi comp
  have hj := hj comp
  first | rw [hvm.bare_eq] at hj | rw [← hvm.bare_eq] at hj
  refine mj_bindk _ _ _ (hi.symm.trans hj) ?_
  rw [Option.bind_eq_some_iff] at h ⊢
  obtain ⟨c, h1, h⟩ := h
  refine ⟨c, h1, ?_⟩
  rw [Option.map_eq_some_iff] at h ⊢
  obtain ⟨k, hk, hb⟩ := h
  obtain ⟨k', hk', he⟩ := hvm.2.2 _ _ hk
  refine ⟨k', hk', ?_⟩
  rw [he, hvm.findClass]
  exact hb
theorem mj_XW.warm {s U : State} (hW : s.WarmedH U.vm) (h : mj_XW s) : mj_XW U := by
  obtain ⟨h1, h2, h3, h4⟩ := h
  refine ⟨fun z hz => ?_, h2.moved hW.alike, mj_AOA hW.alike h3, fun q hq => (h4 q hq).moved hW.alike⟩
  have hx := (List.mem_filter.mp hz).2
  have h9 := h1 z hz
  cases z <;> simp [mj_isx] at hx
  · exact va_Nw.warmM hW h9
  · exact va_Nw.warmC hW h9
theorem mj_XW.same {s U : State} (hv : s.vm = U.vm) (h : mj_XW s) : mj_XW U := by
  obtain ⟨h1, h2, h3, h4⟩ := h
  have hA : s.vm.Alike U.vm := by rw [← hv]; exact Vm.Alike.refl s.vm
  refine ⟨fun z hz => ?_, h2.moved hA, mj_AOA hA h3, fun q hq => (h4 q hq).moved hA⟩
  have hx := (List.mem_filter.mp hz).2
  have h9 := h1 z hz
  cases z <;> simp [mj_isx] at hx
  · exact va_Nw.same rfl hv h9
  · exact va_Nw.same rfl hv h9
/-- the world at a state -/
def mj_Wd (w : mjW) (D : va_G) (L : Nat) (xs : Nat → Int32) (h : mjH) (U : State) : Prop := mj_HR w D L xs h U.heap ∧ va_K D vwCl (mj_tys w) U ∧ mj_XW U ∧ va_X w.1 L xs U U.heap ∧ w.1 < w.2.1 ∧ 1 ≤ h.1.length
def mj_Pc (w : mjW) (D : va_G) (L : Nat) (xs : Nat → Int32) (as : List Value) (h : mjH) : Array Value → State → Prop := va_Pc (as.map (mj_cv w)) (fun U => mj_Wd w D L xs h U)
def mj_Qc (w : mjW) (D : va_G) (L : Nat) (xs : Nat → Int32) (v : Option Value) (h' : mjH) : Array Value → State → Outcome → State → Prop := fun _ st oc t => oc = .returned (v.map (mj_cv w)) ∧ mj_HR w D L xs h' t.heap ∧ st.heap.size ≤ t.heap.size ∧ ∀ q : Nat, q < st.heap.size → ¬ w.2.1 ≤ q → t.heap[q]? = st.heap[q]?
theorem mj_Wd.warm {w : mjW} {D : va_G} {L : Nat} {xs : Nat → Int32} {h : mjH} {s U : State} {H : Heap} (hW : s.WarmedH U.vm) (hU : U.heap = H) (hH : mj_HR w D L xs h H) (hK : va_K D vwCl (mj_tys w) s) (hX : mj_XW s) (hx : va_X w.1 L xs s H) (hb : w.1 < w.2.1) (hl : 1 ≤ h.1.length) : mj_Wd w D L xs h U := by
  subst hU
  exact ⟨hH, va_K.moved hW.alike hK, hX.warm hW, hx.moved hW.alike, hb, hl⟩
theorem mj_blind (w : mjW) (D : va_G) (L : Nat) (xs : Nat → Int32) (as : List Value) (h : mjH) : FrameBlind (mj_Pc w D L xs as h) := by
  intro a U g mk hP
  obtain ⟨h1, hH, hK, hX, hx, hb, hl⟩ := hP
  exact ⟨h1, hH, va_K.moved (u := U) (U := U.calling g mk a) (Vm.Alike.refl U.vm) hK, mj_XW.same (s := U) (U := U.calling g mk a) rfl hX, hx.moved (u := U) (U := U.calling g mk a) (Vm.Alike.refl U.vm), hb, hl⟩
def mj_rm (d mc ms : Nat) : Room := { frames := d, cells := mc, slots := ms, locals := 100 * d }
theorem mj_goodIn {y : MethodName} {cc : ByteArray} {maxL : Nat} {ret : Option FieldType} (h : Cond.code y cc maxL ret ∈ mj_tb) : GoodIn mj_tb (Cond.code y cc maxL ret :: mj_tb) := by
  intro z hz
  have hm : z ∈ mj_tb := by
    rcases List.mem_cons.mp hz with e | e
    · rw [e]; exact h
    · exact e
  exact ⟨hm, good_of_word (List.mem_filter.mp hm).2⟩
