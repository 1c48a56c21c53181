theorem mj_mono_nil (m : mjM) : ∃ ys, m = m ++ ys := ⟨[], by simp⟩
theorem mj_st1_heap {n i : Nat} {v : Value} {ls : List (Option Value)} {st : List Value} {m : mjM} {I : mjI} {R : mjR} {J : mjJ} {o : Option Prop} {cf' : mjC} (h : mj_st1 n i v ls st m I R J = some (o, cf')) : cf'.2.2.2.1 = m := by
  unfold mj_st1 at h
  split at h <;> try (cases h; done)
  obtain ⟨ls', h1, -⟩ := mj_set_spec _ _ _ _ h
  cases h1
  rfl
theorem mj_st2_heap {n i : Nat} {v : Value} {ls : List (Option Value)} {st : List Value} {m : mjM} {I : mjI} {R : mjR} {J : mjJ} {o : Option Prop} {cf' : mjC} (h : mj_st2 n i v ls st m I R J = some (o, cf')) : cf'.2.2.2.1 = m := by
  unfold mj_st2 at h
  split at h <;> try (cases h; done)
  obtain ⟨ls', h1, -⟩ := mj_set_spec _ _ _ _ h
  obtain ⟨ls2, h2, -⟩ := mj_set_spec _ _ _ _ h1
  cases h2
  rfl
set_option maxHeartbeats 4000000 in
theorem mj_step_mono {en : mjE} {cf cf' : mjC} {o : Option Prop} (h : mj_step en cf = some (o, cf')) : ∃ ys, cf'.2.2.2.1 = cf.2.2.2.1 ++ ys := by
  obtain ⟨ins, n, d⟩ := en
  obtain ⟨pc, ls, st, m, I, R, J⟩ := cf
  have hs : ∀ {x : mjM}, x = m → ∃ ys, x = m ++ ys := fun e => ⟨[], by rw [e]; simp⟩
  cases ins <;> simp only [mj_step, mj_cst, mj_ild, mj_lld, mj_ald, mj_ist, mj_lst, mj_ast, mj_gf, mj_pf, mj_xld, mj_xst, mj_aald, mj_aast, mj_aln, mj_newa, mj_newq, mj_newm, mj_new, mj_inst, mj_copy, reduceCtorEq] at h
  all_goals (repeat' split at h)
  all_goals (first | (cases h; done) | (cases h; exact hs rfl) | exact hs (mj_st1_heap h) | exact hs (mj_st2_heap h) | (cases h; exact ⟨_, rfl⟩) | skip)
theorem mj_br_heap {en : mjE} {cf c1 c2 : mjC} {P : Prop} (h : mj_br en cf = some (P, c1, c2)) : c1.2.2.2 = cf.2.2.2 ∧ c2.2.2.2 = cf.2.2.2 := by
  obtain ⟨ins, n, d⟩ := en
  obtain ⟨pc, ls, st, m, I, R, J⟩ := cf
  cases ins <;> simp only [mj_br, reduceCtorEq] at h
  all_goals (split at h)
  all_goals (try (cases h; done))
  all_goals (split at h)
  all_goals (first | (cases h; done) | (cases h; exact ⟨rfl, rfl⟩))
theorem mj_ret_heap {rt : Nat} {en : mjE} {cf : mjC} {o : Option Prop} {v : Option Value} {h' : mjH} (h : mj_ret rt en cf = some (o, v, h')) : h' = cf.2.2.2 := by
  obtain ⟨ins, n, d⟩ := en
  obtain ⟨pc, ls, st, hh⟩ := cf
  simp only [mj_ret] at h
  split at h <;> first | (cases h; rfl) | (cases h; done)
theorem mj_mono {K : mjK} {cd : List (Option mjE)} {rt : Nat} (hK : ∀ k as h v h', K k as h v h' → h.1.length ≤ h'.1.length ∧ mj_sl h.1 ≤ mj_sl h'.1) : ∀ (n : Nat) (cf : mjC) (v : Option Value) (h' : mjH), mj_go K cd rt n cf v h' → cf.2.2.2.1.length ≤ h'.1.length ∧ mj_sl cf.2.2.2.1 ≤ mj_sl h'.1
  | 0, _, _, _, h => by cases h
  | n + 1, cf, v, h', h => by
    obtain ⟨en, -, h | h | h | h⟩ := h
    · obtain ⟨o, c', h1, -, h3⟩ := h
      obtain ⟨ys, hy⟩ := mj_step_mono h1
      have ih := mj_mono hK n c' v h' h3
      rw [hy] at ih
      rw [mj_sl_app, List.length_append] at ih
      omega
    · obtain ⟨P, c1, c2, h1, h2, h3⟩ := h
      obtain ⟨e1, e2⟩ := mj_br_heap h1
      by_cases hP : P
      · have ih := mj_mono hK n c1 v h' (h2 hP)
        rw [e1] at ih
        exact ih
      · have ih := mj_mono hK n c2 v h' (h3 hP)
        rw [e2] at ih
        exact ih
    · obtain ⟨k, as, st, w, h1, -, h3, h4⟩ := h
      have ih := mj_mono hK n _ v h' h4
      have h9 := hK _ _ _ _ _ h3
      have ih' : h1.1.length ≤ h'.1.length ∧ mj_sl h1.1 ≤ mj_sl h'.1 := ih
      omega
    · obtain ⟨o, h1, -⟩ := h
      rw [mj_ret_heap h1]
      exact ⟨Nat.le_refl _, Nat.le_refl _⟩
section MJ
variable {p : Program} {l : Launch} {e : Env} {R : Room} {s : State} {mi : MethodId} {args : Array Value} {below : List Frame} {meth : Method} {c : Code} {Q : State → Prop} {w : mjW} {D : va_G} {L : Nat} {xs : Nat → Int32} {own nL : Nat} {cc : ByteArray} {ini : Bool} {n0 u0 nE uE : Nat}
theorem mj_sgo {Y : mjY} {d : Nat} {K : mjK} {cd : List (Option mjE)} {rt : Nat} (C : mj_Cx p R s mi args meth c w D L xs own nL cc ini n0 u0 nE uE) (hMF : mj_MF Y l d K) (hRd : d + 1 ≤ R.frames ∧ 100 * d + 100 ≤ R.locals) (hcd : ∀ pc en, mj_at pc cd = some en → mj_VE ini own cc pc en ∧ mj_VC Y own en.1 en.2.2) {v : Option Value} {h' : mjH} (hE : h'.1.length ≤ nE ∧ mj_sl h'.1 ≤ uE)
    (hret : ∀ pc ls st en o, mj_at pc cd = some en → mj_ret rt en (pc, ls, st, h') = some (o, v, h') → mj_ok o → mj_Sim p l e R s mi args below meth c Q w D L xs nL n0 u0 (pc, ls, st, h')) : ∀ (n : Nat) (cf : mjC), mj_go K cd rt n cf v h' → mj_Sim p l e R s mi args below meth c Q w D L xs nL n0 u0 cf
  | 0, _, h => by cases h
  | n + 1, cf, h => by
    have hK : ∀ k as h v h', K k as h v h' → h.1.length ≤ h'.1.length ∧ mj_sl h.1 ≤ mj_sl h'.1 := fun k as h v h' hk => by
      obtain ⟨_, _, _, _, _, h1, h2, _⟩ := hMF _ _ _ _ _ hk
      exact ⟨h1, h2⟩
    obtain ⟨en, hat, h | h | h | h⟩ := h
    · obtain ⟨o, c', h1, h2, h3⟩ := h
      have hm := mj_mono hK n c' v h' h3
      exact mj_sstep C (hcd _ _ hat).1 h1 h2 (by omega) (mj_sgo C hMF hRd hcd hE hret n c' h3)
    · obtain ⟨P, c1, c2, h1, h2, h3⟩ := h
      exact mj_sbr C (hcd _ _ hat).1 h1 (fun g => mj_sgo C hMF hRd hcd hE hret n c1 (h2 g)) (fun g => mj_sgo C hMF hRd hcd hE hret n c2 (h3 g))
    · obtain ⟨k, as, st, u, h1, g1, g2, g3⟩ := h
      have hm := mj_mono hK n _ v h' g3
      have hm' : h1.1.length ≤ h'.1.length ∧ mj_sl h1.1 ≤ mj_sl h'.1 := hm
      exact mj_scall C hMF hRd (hcd _ _ hat).1 (hcd _ _ hat).2 g1 g2 (by omega) (mj_sgo C hMF hRd hcd hE hret n _ g3)
    · obtain ⟨o, h1, h2⟩ := h
      obtain ⟨pc, ls, st, hh⟩ := cf
      have e9 := mj_ret_heap h1
      have e9' : h' = hh := e9
      subst e9'
      exact hret pc ls st en o hat h1 h2
end MJ
