theorem mj_lk_spec {pc : Nat} {df : Int} {t : Nat} {x : Int32} : ∀ {ps : List (Int × Int)} {ts : List Nat}, mj_lkc pc df t ps ts → (pc : Int) + Op.lookupswitch.offset ps df x.toInt = ((mj_lk t ts x : Nat) : Int)
  | [], [], h => h
  | (a, b) :: ps, k :: q :: ts, h => by
    obtain ⟨h1, h2, h3, h4⟩ := h
    have ih := mj_lk_spec (x := x) h4
    simp only [Op.lookupswitch.offset, mj_lk]
    by_cases e : x = nI k
    · rw [if_pos e, if_pos (by rw [e, nI_toInt h2]; exact h1)]
      exact h3
    · rw [if_neg e, if_neg (fun g => e (by
        rw [← Int32.toInt_inj, nI_toInt h2, ← g]
        exact h1))]
      exact ih
  | [], _ :: _, h => by simp [mj_lkc] at h
  | (_, _) :: _, [], h => by simp [mj_lkc] at h
  | (_, _) :: _, [_], h => by simp [mj_lkc] at h
section MJ
variable {p : Program} {l : Launch} {e : Env} {R : Room} {s : State} {mi : MethodId} {args : Array Value} {below : List Frame} {meth : Method} {c : Code} {Q : State → Prop} {w : mjW} {D : va_G} {L : Nat} {xs : Nat → Int32} {own nL : Nat} {cc : ByteArray} {ini : Bool} {n0 u0 nE uE : Nat}
set_option maxHeartbeats 4000000 in
theorem mj_sstep (C : mj_Cx p R s mi args meth c w D L xs own nL cc ini n0 u0 nE uE) {en : mjE} {cf cf' : mjC} {o : Option Prop} (hv : mj_VE ini own cc cf.1 en) (hst : mj_step en cf = some (o, cf')) (ho : mj_ok o) (hE : cf'.2.2.2.1.length ≤ nE ∧ mj_sl cf'.2.2.2.1 ≤ uE) (kk : mj_Sim p l e R s mi args below meth c Q w D L xs nL n0 u0 cf') : mj_Sim p l e R s mi args below meth c Q w D L xs nL n0 u0 cf := by
  obtain ⟨ins, n, d⟩ := en
  obtain ⟨pc, ls, st, m, I, RR, J⟩ := cf
  obtain ⟨⟨k9, hd, hk9⟩, hvd⟩ := hv
  have C0 := C
  obtain ⟨hx, hb, hml, hown, hts, hK, hXW, hini, hX, hbB, hsz, hn0, hfr, hlo, hRc, hRs⟩ := C
  cases ins with
  | iadd =>
    obtain ⟨rfl, hn⟩ := hk9 rfl
    have hn : n = pc + 1 := hn
    subst hn
    simp only [mj_step] at hst
    split at hst <;> try (cases hst; done)
    next y x st' =>
      cases hst
      intro H locs als cells slots hH hS hL hc hs
      show W p l e R s mi args below meth c H locs cells slots Q (F0 mi pc als (.int y :: .int x :: st'.map (mj_cv w)))
      exact lv_iadd hx hb hd (kk H locs als cells slots hH hS hL hc hs)
  | isub =>
    obtain ⟨rfl, hn⟩ := hk9 rfl
    have hn : n = pc + 1 := hn
    subst hn
    simp only [mj_step] at hst
    split at hst <;> try (cases hst; done)
    next y x st' =>
      cases hst
      intro H locs als cells slots hH hS hL hc hs
      show W p l e R s mi args below meth c H locs cells slots Q (F0 mi pc als (.int y :: .int x :: st'.map (mj_cv w)))
      exact lv_isub hx hb hd (kk H locs als cells slots hH hS hL hc hs)
  | imul =>
    obtain ⟨rfl, hn⟩ := hk9 rfl
    have hn : n = pc + 1 := hn
    subst hn
    simp only [mj_step] at hst
    split at hst <;> try (cases hst; done)
    next y x st' =>
      cases hst
      intro H locs als cells slots hH hS hL hc hs
      show W p l e R s mi args below meth c H locs cells slots Q (F0 mi pc als (.int y :: .int x :: st'.map (mj_cv w)))
      exact lv_imul hx hb hd (kk H locs als cells slots hH hS hL hc hs)
  | iand =>
    obtain ⟨rfl, hn⟩ := hk9 rfl
    have hn : n = pc + 1 := hn
    subst hn
    simp only [mj_step] at hst
    split at hst <;> try (cases hst; done)
    next y x st' =>
      cases hst
      intro H locs als cells slots hH hS hL hc hs
      show W p l e R s mi args below meth c H locs cells slots Q (F0 mi pc als (.int y :: .int x :: st'.map (mj_cv w)))
      exact lv_iand hx hb hd (kk H locs als cells slots hH hS hL hc hs)
  | ior =>
    obtain ⟨rfl, hn⟩ := hk9 rfl
    have hn : n = pc + 1 := hn
    subst hn
    simp only [mj_step] at hst
    split at hst <;> try (cases hst; done)
    next y x st' =>
      cases hst
      intro H locs als cells slots hH hS hL hc hs
      show W p l e R s mi args below meth c H locs cells slots Q (F0 mi pc als (.int y :: .int x :: st'.map (mj_cv w)))
      exact lv_ior hx hb hd (kk H locs als cells slots hH hS hL hc hs)
  | ixor =>
    obtain ⟨rfl, hn⟩ := hk9 rfl
    have hn : n = pc + 1 := hn
    subst hn
    simp only [mj_step] at hst
    split at hst <;> try (cases hst; done)
    next y x st' =>
      cases hst
      intro H locs als cells slots hH hS hL hc hs
      show W p l e R s mi args below meth c H locs cells slots Q (F0 mi pc als (.int y :: .int x :: st'.map (mj_cv w)))
      exact lv_ixor hx hb hd (kk H locs als cells slots hH hS hL hc hs)
  | ishl =>
    obtain ⟨rfl, hn⟩ := hk9 rfl
    have hn : n = pc + 1 := hn
    subst hn
    simp only [mj_step] at hst
    split at hst <;> try (cases hst; done)
    next y x st' =>
      cases hst
      intro H locs als cells slots hH hS hL hc hs
      show W p l e R s mi args below meth c H locs cells slots Q (F0 mi pc als (.int y :: .int x :: st'.map (mj_cv w)))
      exact lv_ishl hx hb hd (kk H locs als cells slots hH hS hL hc hs)
  | ishr =>
    obtain ⟨rfl, hn⟩ := hk9 rfl
    have hn : n = pc + 1 := hn
    subst hn
    simp only [mj_step] at hst
    split at hst <;> try (cases hst; done)
    next y x st' =>
      cases hst
      intro H locs als cells slots hH hS hL hc hs
      show W p l e R s mi args below meth c H locs cells slots Q (F0 mi pc als (.int y :: .int x :: st'.map (mj_cv w)))
      exact lv_ishr hx hb hd (kk H locs als cells slots hH hS hL hc hs)
  | iushr =>
    obtain ⟨rfl, hn⟩ := hk9 rfl
    have hn : n = pc + 1 := hn
    subst hn
    simp only [mj_step] at hst
    split at hst <;> try (cases hst; done)
    next y x st' =>
      cases hst
      intro H locs als cells slots hH hS hL hc hs
      show W p l e R s mi args below meth c H locs cells slots Q (F0 mi pc als (.int y :: .int x :: st'.map (mj_cv w)))
      exact lv_iushr hx hb hd rfl (kk H locs als cells slots hH hS hL hc hs)
  | idiv =>
    obtain ⟨rfl, hn⟩ := hk9 rfl
    have hn : n = pc + 1 := hn
    subst hn
    simp only [mj_step] at hst
    split at hst <;> try (cases hst; done)
    next y x st' =>
      cases hst
      intro H locs als cells slots hH hS hL hc hs
      show W p l e R s mi args below meth c H locs cells slots Q (F0 mi pc als (.int y :: .int x :: st'.map (mj_cv w)))
      exact lv_idiv hx hb hd ho (kk H locs als cells slots hH hS hL hc hs)
  | irem =>
    obtain ⟨rfl, hn⟩ := hk9 rfl
    have hn : n = pc + 1 := hn
    subst hn
    simp only [mj_step] at hst
    split at hst <;> try (cases hst; done)
    next y x st' =>
      cases hst
      intro H locs als cells slots hH hS hL hc hs
      show W p l e R s mi args below meth c H locs cells slots Q (F0 mi pc als (.int y :: .int x :: st'.map (mj_cv w)))
      exact lv_irem hx hb hd ho (kk H locs als cells slots hH hS hL hc hs)
  | ineg =>
    obtain ⟨rfl, hn⟩ := hk9 rfl
    have hn : n = pc + 1 := hn
    subst hn
    simp only [mj_step] at hst
    split at hst <;> try (cases hst; done)
    next x st' =>
      cases hst
      intro H locs als cells slots hH hS hL hc hs
      show W p l e R s mi args below meth c H locs cells slots Q (F0 mi pc als (.int x :: st'.map (mj_cv w)))
      exact lv_ineg hx hb hd (kk H locs als cells slots hH hS hL hc hs)
  | ladd =>
    obtain ⟨rfl, hn⟩ := hk9 rfl
    have hn : n = pc + 1 := hn
    subst hn
    simp only [mj_step] at hst
    split at hst <;> try (cases hst; done)
    next y x st' =>
      cases hst
      intro H locs als cells slots hH hS hL hc hs
      show W p l e R s mi args below meth c H locs cells slots Q (F0 mi pc als (.long y :: .long x :: st'.map (mj_cv w)))
      exact lv_ladd hx hb hd (kk H locs als cells slots hH hS hL hc hs)
  | lmul =>
    obtain ⟨rfl, hn⟩ := hk9 rfl
    have hn : n = pc + 1 := hn
    subst hn
    simp only [mj_step] at hst
    split at hst <;> try (cases hst; done)
    next y x st' =>
      cases hst
      intro H locs als cells slots hH hS hL hc hs
      show W p l e R s mi args below meth c H locs cells slots Q (F0 mi pc als (.long y :: .long x :: st'.map (mj_cv w)))
      exact lv_lmul hx hb hd (kk H locs als cells slots hH hS hL hc hs)
  | land =>
    obtain ⟨rfl, hn⟩ := hk9 rfl
    have hn : n = pc + 1 := hn
    subst hn
    simp only [mj_step] at hst
    split at hst <;> try (cases hst; done)
    next y x st' =>
      cases hst
      intro H locs als cells slots hH hS hL hc hs
      show W p l e R s mi args below meth c H locs cells slots Q (F0 mi pc als (.long y :: .long x :: st'.map (mj_cv w)))
      exact lv_land hx hb hd (kk H locs als cells slots hH hS hL hc hs)
  | lor =>
    obtain ⟨rfl, hn⟩ := hk9 rfl
    have hn : n = pc + 1 := hn
    subst hn
    simp only [mj_step] at hst
    split at hst <;> try (cases hst; done)
    next y x st' =>
      cases hst
      intro H locs als cells slots hH hS hL hc hs
      show W p l e R s mi args below meth c H locs cells slots Q (F0 mi pc als (.long y :: .long x :: st'.map (mj_cv w)))
      exact lv_lor hx hb hd (kk H locs als cells slots hH hS hL hc hs)
  | lshl =>
    obtain ⟨rfl, hn⟩ := hk9 rfl
    have hn : n = pc + 1 := hn
    subst hn
    simp only [mj_step] at hst
    split at hst <;> try (cases hst; done)
    next y x st' =>
      cases hst
      intro H locs als cells slots hH hS hL hc hs
      show W p l e R s mi args below meth c H locs cells slots Q (F0 mi pc als (.int y :: .long x :: st'.map (mj_cv w)))
      exact lv_lshl hx hb hd rfl (kk H locs als cells slots hH hS hL hc hs)
  | lushr =>
    obtain ⟨rfl, hn⟩ := hk9 rfl
    have hn : n = pc + 1 := hn
    subst hn
    simp only [mj_step] at hst
    split at hst <;> try (cases hst; done)
    next y x st' =>
      cases hst
      intro H locs als cells slots hH hS hL hc hs
      show W p l e R s mi args below meth c H locs cells slots Q (F0 mi pc als (.int y :: .long x :: st'.map (mj_cv w)))
      exact lv_lushr hx hb hd rfl (kk H locs als cells slots hH hS hL hc hs)
  | lcmp =>
    obtain ⟨rfl, hn⟩ := hk9 rfl
    have hn : n = pc + 1 := hn
    subst hn
    simp only [mj_step] at hst
    split at hst <;> try (cases hst; done)
    next y x st' =>
      cases hst
      intro H locs als cells slots hH hS hL hc hs
      show W p l e R s mi args below meth c H locs cells slots Q (F0 mi pc als (.long y :: .long x :: st'.map (mj_cv w)))
      exact W.lcmp hx hb hd (kk H locs als cells slots hH hS hL hc hs)
  | i2l =>
    obtain ⟨rfl, hn⟩ := hk9 rfl
    have hn : n = pc + 1 := hn
    subst hn
    simp only [mj_step] at hst
    split at hst <;> try (cases hst; done)
    next x st' =>
      cases hst
      intro H locs als cells slots hH hS hL hc hs
      show W p l e R s mi args below meth c H locs cells slots Q (F0 mi pc als (.int x :: st'.map (mj_cv w)))
      exact lv_i2l hx hb hd rfl (kk H locs als cells slots hH hS hL hc hs)
  | l2i =>
    obtain ⟨rfl, hn⟩ := hk9 rfl
    have hn : n = pc + 1 := hn
    subst hn
    simp only [mj_step] at hst
    split at hst <;> try (cases hst; done)
    next x st' =>
      cases hst
      intro H locs als cells slots hH hS hL hc hs
      show W p l e R s mi args below meth c H locs cells slots Q (F0 mi pc als (.long x :: st'.map (mj_cv w)))
      exact lv_l2i hx hb hd rfl (kk H locs als cells slots hH hS hL hc hs)
  | i2b =>
    obtain ⟨rfl, hn⟩ := hk9 rfl
    have hn : n = pc + 1 := hn
    subst hn
    simp only [mj_step] at hst
    split at hst <;> try (cases hst; done)
    next x st' =>
      cases hst
      intro H locs als cells slots hH hS hL hc hs
      show W p l e R s mi args below meth c H locs cells slots Q (F0 mi pc als (.int x :: st'.map (mj_cv w)))
      exact lv_i2b hx hb hd rfl (kk H locs als cells slots hH hS hL hc hs)
  | dup =>
    obtain ⟨rfl, hn⟩ := hk9 rfl
    have hn : n = pc + 1 := hn
    subst hn
    simp only [mj_step] at hst
    split at hst <;> try (cases hst; done)
    next x st' =>
      cases hst
      intro H locs als cells slots hH hS hL hc hs
      show W p l e R s mi args below meth c H locs cells slots Q (F0 mi pc als (.int x :: st'.map (mj_cv w)))
      exact lv_dup hx hb hd rfl (kk H locs als cells slots hH hS hL hc hs)
    next x st' =>
      cases hst
      intro H locs als cells slots hH hS hL hc hs
      show W p l e R s mi args below meth c H locs cells slots Q (F0 mi pc als (.ref (mj_ad w x) :: st'.map (mj_cv w)))
      exact lv_dup hx hb hd rfl (kk H locs als cells slots hH hS hL hc hs)
  | dup2 =>
    obtain ⟨rfl, hn⟩ := hk9 rfl
    have hn : n = pc + 1 := hn
    subst hn
    simp only [mj_step] at hst
    split at hst <;> try (cases hst; done)
    next x y st' =>
      cases hst
      intro H locs als cells slots hH hS hL hc hs
      show W p l e R s mi args below meth c H locs cells slots Q (F0 mi pc als (.int x :: .ref (mj_ad w y) :: st'.map (mj_cv w)))
      exact lv_dup2_11 hx hb hd rfl rfl (kk H locs als cells slots hH hS hL hc hs)
  | pop =>
    obtain ⟨rfl, hn⟩ := hk9 rfl
    have hn : n = pc + 1 := hn
    subst hn
    simp only [mj_step] at hst
    split at hst <;> try (cases hst; done)
    next x st' =>
      cases hst
      intro H locs als cells slots hH hS hL hc hs
      show W p l e R s mi args below meth c H locs cells slots Q (F0 mi pc als (.int x :: st'.map (mj_cv w)))
      exact lv_pop hx hb hd rfl (kk H locs als cells slots hH hS hL hc hs)
    next x st' =>
      cases hst
      intro H locs als cells slots hH hS hL hc hs
      show W p l e R s mi args below meth c H locs cells slots Q (F0 mi pc als (.ref (mj_ad w x) :: st'.map (mj_cv w)))
      exact lv_pop hx hb hd rfl (kk H locs als cells slots hH hS hL hc hs)
  | iconst i =>
    obtain ⟨rfl, hn⟩ := hk9 rfl
    have hn : n = pc + 1 := hn
    subst hn
    simp only [mj_step, mj_cst] at hst
    split at hst
    next k =>
      cases hst
      intro H locs als cells slots hH hS hL hc hs
      show W p l e R s mi args below meth c H locs cells slots Q (F0 mi pc als (st.map (mj_cv w)))
      exact lv_iconst hx hb hd (hvd k rfl) (kk H locs als cells slots hH hS hL hc hs)
    next =>
      cases hst
      intro H locs als cells slots hH hS hL hc hs
      show W p l e R s mi args below meth c H locs cells slots Q (F0 mi pc als (st.map (mj_cv w)))
      exact lv_iconst hx hb hd rfl (kk H locs als cells slots hH hS hL hc hs)
  | bipush i =>
    obtain ⟨rfl, hn⟩ := hk9 rfl
    have hn : n = pc + 2 := hn
    subst hn
    simp only [mj_step, mj_cst] at hst
    split at hst
    next k =>
      cases hst
      intro H locs als cells slots hH hS hL hc hs
      show W p l e R s mi args below meth c H locs cells slots Q (F0 mi pc als (st.map (mj_cv w)))
      exact lv_bipush hx hb hd (hvd k rfl) (kk H locs als cells slots hH hS hL hc hs)
    next =>
      cases hst
      intro H locs als cells slots hH hS hL hc hs
      show W p l e R s mi args below meth c H locs cells slots Q (F0 mi pc als (st.map (mj_cv w)))
      exact lv_bipush hx hb hd rfl (kk H locs als cells slots hH hS hL hc hs)
  | sipush i =>
    obtain ⟨rfl, hn⟩ := hk9 rfl
    have hn : n = pc + 3 := hn
    subst hn
    simp only [mj_step, mj_cst] at hst
    split at hst
    next k =>
      cases hst
      intro H locs als cells slots hH hS hL hc hs
      show W p l e R s mi args below meth c H locs cells slots Q (F0 mi pc als (st.map (mj_cv w)))
      exact lv_sipush hx hb hd (hvd k rfl) (kk H locs als cells slots hH hS hL hc hs)
    next =>
      cases hst
      intro H locs als cells slots hH hS hL hc hs
      show W p l e R s mi args below meth c H locs cells slots Q (F0 mi pc als (st.map (mj_cv w)))
      exact lv_sipush hx hb hd rfl (kk H locs als cells slots hH hS hL hc hs)
  | lconst i =>
    obtain ⟨rfl, hn⟩ := hk9 rfl
    have hn : n = pc + 1 := hn
    subst hn
    simp only [mj_step] at hst
    cases hst
    intro H locs als cells slots hH hS hL hc hs
    show W p l e R s mi args below meth c H locs cells slots Q (F0 mi pc als (st.map (mj_cv w)))
    exact lv_lconst hx hb hd rfl (kk H locs als cells slots hH hS hL hc hs)
  | aconst_null =>
    obtain ⟨rfl, hn⟩ := hk9 rfl
    have hn : n = pc + 1 := hn
    subst hn
    simp only [mj_step] at hst
    cases hst
    intro H locs als cells slots hH hS hL hc hs
    show W p l e R s mi args below meth c H locs cells slots Q (F0 mi pc als (st.map (mj_cv w)))
    exact lv_null hx hb hd (kk H locs als cells slots hH hS hL hc hs)
  | ldc i =>
    obtain ⟨rfl, hn⟩ := hk9 rfl
    have hn : n = pc + 2 := hn
    subst hn
    simp only [mj_step] at hst
    split at hst <;> try (cases hst; done)
    next v =>
      cases hst
      intro H locs als cells slots hH hS hL hc hs
      show W p l e R s mi args below meth c H locs cells slots Q (F0 mi pc als (st.map (mj_cv w)))
      exact lv_ldc hx hb hown (hts _ (hvd v rfl)) hd (kk H locs als cells slots hH hS hL hc hs)
  | ldc_w i =>
    obtain ⟨rfl, hn⟩ := hk9 rfl
    have hn : n = pc + 3 := hn
    subst hn
    simp only [mj_step] at hst
    split at hst <;> try (cases hst; done)
    next v =>
      cases hst
      intro H locs als cells slots hH hS hL hc hs
      show W p l e R s mi args below meth c H locs cells slots Q (F0 mi pc als (st.map (mj_cv w)))
      exact lv_ldcw hx hb hown (hts _ (hvd v rfl)) hd (kk H locs als cells slots hH hS hL hc hs)
  | ldc2_w i =>
    obtain ⟨rfl, hn⟩ := hk9 rfl
    have hn : n = pc + 3 := hn
    subst hn
    simp only [mj_step] at hst
    split at hst <;> try (cases hst; done)
    next v =>
      cases hst
      intro H locs als cells slots hH hS hL hc hs
      show W p l e R s mi args below meth c H locs cells slots Q (F0 mi pc als (st.map (mj_cv w)))
      exact lv_ldc2 hx hb hown (hts _ (hvd v rfl)) hd (kk H locs als cells slots hH hS hL hc hs)
  | iload i =>
    obtain ⟨rfl, hn⟩ := hk9 rfl
    have hn : n = pc + 2 := hn
    subst hn
    simp only [mj_step, mj_ild] at hst
    split at hst <;> try (cases hst; done)
    next x hg =>
      cases hst
      intro H locs als cells slots hH hS hL hc hs
      show W p l e R s mi args below meth c H locs cells slots Q (F0 mi pc als (st.map (mj_cv w)))
      exact lv_iload hx hb hd (hL.2.2.2 _ _ hg) (kk H locs als cells slots hH hS hL hc hs)
  | iload_n i =>
    obtain ⟨rfl, hn⟩ := hk9 rfl
    have hn : n = pc + 1 := hn
    subst hn
    simp only [mj_step, mj_ild] at hst
    split at hst <;> try (cases hst; done)
    next x hg =>
      cases hst
      intro H locs als cells slots hH hS hL hc hs
      show W p l e R s mi args below meth c H locs cells slots Q (F0 mi pc als (st.map (mj_cv w)))
      exact lv_iload_n hx hb hd rfl (hL.2.2.2 _ _ hg) (kk H locs als cells slots hH hS hL hc hs)
  | lload i =>
    obtain ⟨rfl, hn⟩ := hk9 rfl
    have hn : n = pc + 2 := hn
    subst hn
    simp only [mj_step, mj_lld] at hst
    split at hst <;> try (cases hst; done)
    next x hg =>
      cases hst
      intro H locs als cells slots hH hS hL hc hs
      show W p l e R s mi args below meth c H locs cells slots Q (F0 mi pc als (st.map (mj_cv w)))
      exact lv_lload hx hb hd (hL.2.2.2 _ _ hg) (kk H locs als cells slots hH hS hL hc hs)
  | lload_n i =>
    obtain ⟨rfl, hn⟩ := hk9 rfl
    have hn : n = pc + 1 := hn
    subst hn
    simp only [mj_step, mj_lld] at hst
    split at hst <;> try (cases hst; done)
    next x hg =>
      cases hst
      intro H locs als cells slots hH hS hL hc hs
      show W p l e R s mi args below meth c H locs cells slots Q (F0 mi pc als (st.map (mj_cv w)))
      exact lv_lload_n hx hb hd rfl (hL.2.2.2 _ _ hg) (kk H locs als cells slots hH hS hL hc hs)
  | aload i =>
    obtain ⟨rfl, hn⟩ := hk9 rfl
    have hn : n = pc + 2 := hn
    subst hn
    simp only [mj_step, mj_ald] at hst
    split at hst <;> try (cases hst; done)
    next x hg =>
      cases hst
      intro H locs als cells slots hH hS hL hc hs
      show W p l e R s mi args below meth c H locs cells slots Q (F0 mi pc als (st.map (mj_cv w)))
      exact lv_aload hx hb hd (hL.2.2.2 _ _ hg) (kk H locs als cells slots hH hS hL hc hs)
    next hg =>
      cases hst
      intro H locs als cells slots hH hS hL hc hs
      show W p l e R s mi args below meth c H locs cells slots Q (F0 mi pc als (st.map (mj_cv w)))
      exact lv_aloadN hx hb hd (hL.2.2.2 _ _ hg) (kk H locs als cells slots hH hS hL hc hs)
  | aload_n i =>
    obtain ⟨rfl, hn⟩ := hk9 rfl
    have hn : n = pc + 1 := hn
    subst hn
    simp only [mj_step, mj_ald] at hst
    split at hst <;> try (cases hst; done)
    next x hg =>
      cases hst
      intro H locs als cells slots hH hS hL hc hs
      show W p l e R s mi args below meth c H locs cells slots Q (F0 mi pc als (st.map (mj_cv w)))
      exact lv_aload_n hx hb hd rfl (hL.2.2.2 _ _ hg) (kk H locs als cells slots hH hS hL hc hs)
    next hg =>
      cases hst
      intro H locs als cells slots hH hS hL hc hs
      show W p l e R s mi args below meth c H locs cells slots Q (F0 mi pc als (st.map (mj_cv w)))
      exact lv_aload_nN hx hb hd rfl (hL.2.2.2 _ _ hg) (kk H locs als cells slots hH hS hL hc hs)
  | istore i =>
    obtain ⟨rfl, hn⟩ := hk9 rfl
    have hn : n = pc + 2 := hn
    subst hn
    simp only [mj_step, mj_ist] at hst
    split at hst <;> try (cases hst; done)
    next x st' =>
      intro H locs als cells slots hH hS hL hc hs
      show W p l e R s mi args below meth c H locs cells slots Q (F0 mi pc als (.int x :: st'.map (mj_cv w)))
      exact mj_s_st1 C0 (pc := pc) hst (fun hi kk2 => lv_istore hx hb hd hL.has hi rfl kk2) hH hS hL hc hs kk
  | istore_n i =>
    obtain ⟨rfl, hn⟩ := hk9 rfl
    have hn : n = pc + 1 := hn
    subst hn
    simp only [mj_step, mj_ist] at hst
    split at hst <;> try (cases hst; done)
    next x st' =>
      intro H locs als cells slots hH hS hL hc hs
      show W p l e R s mi args below meth c H locs cells slots Q (F0 mi pc als (.int x :: st'.map (mj_cv w)))
      exact mj_s_st1 C0 (pc := pc) hst (fun hi kk2 => lv_istore_n hx hb hd rfl hL.has hi rfl kk2) hH hS hL hc hs kk
  | lstore i =>
    obtain ⟨rfl, hn⟩ := hk9 rfl
    have hn : n = pc + 2 := hn
    subst hn
    simp only [mj_step, mj_lst] at hst
    split at hst <;> try (cases hst; done)
    next x st' =>
      intro H locs als cells slots hH hS hL hc hs
      show W p l e R s mi args below meth c H locs cells slots Q (F0 mi pc als (.long x :: st'.map (mj_cv w)))
      exact mj_s_st2 C0 (pc := pc) hst (fun hi kk2 => lv_lstore hx hb hd hL.has hi rfl kk2) hH hS hL hc hs kk
  | lstore_n i =>
    obtain ⟨rfl, hn⟩ := hk9 rfl
    have hn : n = pc + 1 := hn
    subst hn
    simp only [mj_step, mj_lst] at hst
    split at hst <;> try (cases hst; done)
    next x st' =>
      intro H locs als cells slots hH hS hL hc hs
      show W p l e R s mi args below meth c H locs cells slots Q (F0 mi pc als (.long x :: st'.map (mj_cv w)))
      exact mj_s_st2 C0 (pc := pc) hst (fun hi kk2 => lv_lstore_n hx hb hd rfl hL.has hi rfl kk2) hH hS hL hc hs kk
  | astore i =>
    obtain ⟨rfl, hn⟩ := hk9 rfl
    have hn : n = pc + 2 := hn
    subst hn
    simp only [mj_step, mj_ast] at hst
    split at hst <;> try (cases hst; done)
    next x st' =>
      intro H locs als cells slots hH hS hL hc hs
      show W p l e R s mi args below meth c H locs cells slots Q (F0 mi pc als (.ref (mj_ad w x) :: st'.map (mj_cv w)))
      exact mj_s_st1 C0 (pc := pc) hst (fun hi kk2 => lv_astore hx hb hd hL.has hi rfl kk2) hH hS hL hc hs kk
    next st' =>
      intro H locs als cells slots hH hS hL hc hs
      show W p l e R s mi args below meth c H locs cells slots Q (F0 mi pc als (.null :: st'.map (mj_cv w)))
      exact mj_s_st1 C0 (pc := pc) hst (fun hi kk2 => lv_astoreN hx hb hd hL.has hi rfl kk2) hH hS hL hc hs kk
  | astore_n i =>
    obtain ⟨rfl, hn⟩ := hk9 rfl
    have hn : n = pc + 1 := hn
    subst hn
    simp only [mj_step, mj_ast] at hst
    split at hst <;> try (cases hst; done)
    next x st' =>
      intro H locs als cells slots hH hS hL hc hs
      show W p l e R s mi args below meth c H locs cells slots Q (F0 mi pc als (.ref (mj_ad w x) :: st'.map (mj_cv w)))
      exact mj_s_st1 C0 (pc := pc) hst (fun hi kk2 => lv_astore_n hx hb hd rfl hL.has hi rfl kk2) hH hS hL hc hs kk
    next st' =>
      intro H locs als cells slots hH hS hL hc hs
      show W p l e R s mi args below meth c H locs cells slots Q (F0 mi pc als (.null :: st'.map (mj_cv w)))
      exact mj_s_st1 C0 (pc := pc) hst (fun hi kk2 => lv_astore_nN hx hb hd rfl hL.has hi rfl kk2) hH hS hL hc hs kk
  | iinc i k =>
    obtain ⟨rfl, hn⟩ := hk9 rfl
    have hn : n = pc + 3 := hn
    subst hn
    simp only [mj_step] at hst
    split at hst <;> try (cases hst; done)
    next x hg =>
      have hmem := mj_lv_to w 0 ls i _ hg
      rw [Nat.zero_add] at hmem
      obtain ⟨j, hj⟩ := List.getElem?_of_mem hmem
      split at hst
      next q =>
        intro H locs als cells slots hH hS hL hc hs
        show W p l e R s mi args below meth c H locs cells slots Q (F0 mi pc als (st.map (mj_cv w)))
        exact mj_s_st1 C0 (pc := pc) hst (fun hi kk2 => lv_iinc hx hb hd hL.has hj (by rw [hvd q rfl]) hi rfl kk2) hH hS hL hc hs kk
      next =>
        intro H locs als cells slots hH hS hL hc hs
        show W p l e R s mi args below meth c H locs cells slots Q (F0 mi pc als (st.map (mj_cv w)))
        exact mj_s_st1 C0 (pc := pc) hst (fun hi kk2 => lv_iinc hx hb hd hL.has hj rfl hi rfl kk2) hH hS hL hc hs kk
  | goto off =>
    obtain ⟨rfl, hn⟩ := hk9 rfl
    have hn : n = pc + 3 := hn
    subst hn
    simp only [mj_step] at hst
    split at hst <;> try (cases hst; done)
    next t =>
      cases hst
      intro H locs als cells slots hH hS hL hc hs
      show W p l e R s mi args below meth c H locs cells slots Q (F0 mi pc als (st.map (mj_cv w)))
      exact lv_goto hx hb hd (hvd t rfl) (kk H locs als cells slots hH hS hL hc hs)
  | ifnull off =>
    obtain ⟨rfl, hn⟩ := hk9 rfl
    have hn : n = pc + 3 := hn
    subst hn
    simp only [mj_step] at hst
    split at hst <;> try (cases hst; done)
    next t x st' =>
      cases hst
      intro H locs als cells slots hH hS hL hc hs
      show W p l e R s mi args below meth c H locs cells slots Q (F0 mi pc als (.ref (mj_ad w x) :: st'.map (mj_cv w)))
      exact lv_ifnull hx hb hd (kk H locs als cells slots hH hS hL hc hs)
    next t st' =>
      cases hst
      intro H locs als cells slots hH hS hL hc hs
      show W p l e R s mi args below meth c H locs cells slots Q (F0 mi pc als (.null :: st'.map (mj_cv w)))
      exact lv_ifnullN hx hb hd (hvd t rfl) (kk H locs als cells slots hH hS hL hc hs)
  | ifnonnull off =>
    obtain ⟨rfl, hn⟩ := hk9 rfl
    have hn : n = pc + 3 := hn
    subst hn
    simp only [mj_step] at hst
    split at hst <;> try (cases hst; done)
    next t x st' =>
      cases hst
      intro H locs als cells slots hH hS hL hc hs
      show W p l e R s mi args below meth c H locs cells slots Q (F0 mi pc als (.ref (mj_ad w x) :: st'.map (mj_cv w)))
      exact lv_ifnonnull hx hb hd (hvd t rfl) (kk H locs als cells slots hH hS hL hc hs)
    next t st' =>
      cases hst
      intro H locs als cells slots hH hS hL hc hs
      show W p l e R s mi args below meth c H locs cells slots Q (F0 mi pc als (.null :: st'.map (mj_cv w)))
      exact lv_ifnonnullN hx hb hd (kk H locs als cells slots hH hS hL hc hs)
  | tableswitch df lo hi offs =>
    simp only [mj_step] at hst
    split at hst <;> try (cases hst; done)
    next t ts x st' =>
      cases hst
      obtain ⟨v1, v2, v3, v4⟩ := hvd t ts rfl
      intro H locs als cells slots hH hS hL hc hs
      show W p l e R s mi args below meth c H locs cells slots Q (F0 mi pc als (.int x :: st'.map (mj_cv w)))
      have kk2 := (kk H locs als cells slots hH hS hL hc hs)
      by_cases h1 : x.toInt < lo
      · refine lv_tableOut hx hb hd (Or.inl h1) v1 ?_
        have h9 : mj_sw lo t ts x = t := by simp [mj_sw, h1]
        rw [← h9]
        exact kk2
      · cases h2 : ts[(x.toInt - lo).toNat]? with
        | none =>
          have h3 : ts.length ≤ (x.toInt - lo).toNat := List.getElem?_eq_none_iff.mp h2
          refine lv_tableOut hx hb hd (Or.inr (by omega)) v1 ?_
          have h9 : mj_sw lo t ts x = t := by simp [mj_sw, h1, h2]
          rw [← h9]
          exact kk2
        | some q =>
          obtain ⟨off, h4, h5⟩ := v4 _ _ h2
          have h6 : (x.toInt - lo).toNat < offs.size := (Array.getElem?_eq_some_iff.mp h4).1
          refine lv_tableIn hx hb hd h1 (by omega) h4 h5 ?_
          have h9 : mj_sw lo t ts x = q := by simp [mj_sw, h1, h2]
          rw [← h9]
          exact kk2
  | lookupswitch df ps =>
    simp only [mj_step] at hst
    split at hst <;> try (cases hst; done)
    next t ts x st' =>
      cases hst
      obtain ⟨v1, v2⟩ := hvd t ts rfl
      intro H locs als cells slots hH hS hL hc hs
      show W p l e R s mi args below meth c H locs cells slots Q (F0 mi pc als (.int x :: st'.map (mj_cv w)))
      exact lv_lookup hx hb hd v1 rfl (mj_lk_spec v2) (kk H locs als cells slots hH hS hL hc hs)
  | getfield i =>
    obtain ⟨rfl, hn⟩ := hk9 rfl
    have hn : n = pc + 3 := hn
    subst hn
    simp only [mj_step] at hst
    cases d with
    | nil => simp [mj_gf] at hst
    | cons k d =>
    cases d with
    | nil => simp [mj_gf] at hst
    | cons ty cs => exact mj_s_gf C0 hd (hvd k ty cs rfl) rfl hst kk
  | putfield i =>
    obtain ⟨rfl, hn⟩ := hk9 rfl
    have hn : n = pc + 3 := hn
    subst hn
    simp only [mj_step] at hst
    cases d with
    | nil => simp [mj_pf] at hst
    | cons k d =>
    cases d with
    | nil => simp [mj_pf] at hst
    | cons ty cs => exact mj_s_pf C0 hd (hvd k ty cs rfl) rfl hst ho kk
  | iaload =>
    obtain ⟨rfl, hn⟩ := hk9 rfl
    have hn : n = pc + 1 := hn
    subst hn
    simp only [mj_step] at hst
    exact mj_s_iald C0 hd hst ho kk
  | baload =>
    obtain ⟨rfl, hn⟩ := hk9 rfl
    have hn : n = pc + 1 := hn
    subst hn
    simp only [mj_step] at hst
    exact mj_s_bald C0 hd hst ho kk
  | iastore =>
    obtain ⟨rfl, hn⟩ := hk9 rfl
    have hn : n = pc + 1 := hn
    subst hn
    simp only [mj_step] at hst
    exact mj_s_iast C0 hd hst ho kk
  | aaload =>
    obtain ⟨rfl, hn⟩ := hk9 rfl
    have hn : n = pc + 1 := hn
    subst hn
    simp only [mj_step] at hst
    exact mj_s_aald C0 hd hst ho kk
  | bastore =>
    obtain ⟨rfl, hn⟩ := hk9 rfl
    have hn : n = pc + 1 := hn
    subst hn
    simp only [mj_step] at hst
    split at hst <;> try (cases hst; done)
    next y st' => exact mj_s_bast C0 hd hst ho kk
  | arraylength =>
    obtain ⟨rfl, hn⟩ := hk9 rfl
    have hn : n = pc + 1 := hn
    subst hn
    simp only [mj_step] at hst
    exact mj_s_aln C0 hd hst kk
  | aastore =>
    obtain ⟨rfl, hn⟩ := hk9 rfl
    have hn : n = pc + 1 := hn
    subst hn
    simp only [mj_step] at hst
    exact mj_s_aast C0 hvd hd hst ho kk
  | newarray aty =>
    obtain ⟨rfl, hn⟩ := hk9 rfl
    have hn : n = pc + 2 := hn
    subst hn
    cases aty with
    | int =>
      simp only [mj_step] at hst
      exact mj_s_newI C0 hd mj_t1 hst ho hE kk
    | byte =>
      simp only [mj_step] at hst
      exact mj_s_newB C0 hd mj_t2 hst ho hE kk
    | _ => simp [mj_step] at hst
  | anewarray i =>
    obtain ⟨rfl, hn⟩ := hk9 rfl
    have hn : n = pc + 3 := hn
    subst hn
    simp only [mj_step] at hst
    exact mj_s_newq C0 hd hvd hst ho hE kk
  | multianewarray i k =>
    obtain ⟨rfl, hn⟩ := hk9 rfl
    have hn : n = pc + 4 := hn
    subst hn
    simp only [mj_step] at hst
    obtain ⟨rfl, v2⟩ := hvd
    exact mj_s_newm C0 hd v2 hst ho hE kk
  | new i =>
    obtain ⟨rfl, hn⟩ := hk9 rfl
    have hn : n = pc + 3 := hn
    subst hn
    simp only [mj_step] at hst
    match d, hst, hvd with
    | [t, k], hst, hvd => exact mj_s_new C0 hd (hvd t k rfl) hst hE kk
    | [], hst, _ => simp [mj_new] at hst
    | [_], hst, _ => simp [mj_new] at hst
    | _ :: _ :: _ :: _, hst, _ => simp [mj_new] at hst
  | instanceof i =>
    obtain ⟨rfl, hn⟩ := hk9 rfl
    have hn : n = pc + 3 := hn
    subst hn
    simp only [mj_step] at hst
    exact mj_s_inst C0 hvd hd hst kk
  | invokespecial i =>
    obtain ⟨rfl, hn⟩ := hk9 rfl
    have hn : n = pc + 3 := hn
    subst hn
    simp only [mj_step] at hst
    split at hst <;> try (cases hst; done)
    next a st' =>
      split at hst <;> try (cases hst; done)
      next hble =>
        cases hst
        exact mj_s_obj C0 (hvd rfl) hd (Nat.le_of_ble_eq_true hble) kk
  | invokestatic i =>
    obtain ⟨rfl, hn⟩ := hk9 rfl
    have hn : n = pc + 3 := hn
    subst hn
    simp only [mj_step] at hst
    split at hst <;> try (cases hst; done)
    next => exact mj_s_copy C0 (hvd rfl) hd hst ho kk
  | _ => simp [mj_step] at hst
theorem mj_sbr (C : mj_Cx p R s mi args meth c w D L xs own nL cc ini n0 u0 nE uE) {en : mjE} {cf c1 c2 : mjC} {P : Prop} (hv : mj_VE ini own cc cf.1 en) (hst : mj_br en cf = some (P, c1, c2)) (k1 : P → mj_Sim p l e R s mi args below meth c Q w D L xs nL n0 u0 c1) (k2 : ¬ P → mj_Sim p l e R s mi args below meth c Q w D L xs nL n0 u0 c2) : mj_Sim p l e R s mi args below meth c Q w D L xs nL n0 u0 cf := by
  obtain ⟨ins, n, d⟩ := en
  obtain ⟨pc, ls, st, m, I, RR, J⟩ := cf
  obtain ⟨⟨k9, hd, hk9⟩, hvd⟩ := hv
  have C0 := C
  obtain ⟨hx, hb, hml, hown, hts, hK, hXW, hini, hX, hbB, hsz, hn0, hfr, hlo, hRc, hRs⟩ := C
  cases ins with
  | ifCond cnd off =>
    obtain ⟨rfl, hn⟩ := hk9 rfl
    have hn : n = pc + 3 := hn
    subst hn
    cases cnd <;> simp only [mj_br] at hst <;> split at hst <;> try (cases hst; done)
    · next t x st' =>
        cases hst
        intro H locs als cells slots hH hS hL hc hs
        show W p l e R s mi args below meth c H locs cells slots Q (F0 mi pc als (.int x :: st'.map (mj_cv w)))
        exact lv_if_eq hx hb hd (hvd t rfl) (fun g => k1 g H locs als cells slots hH hS hL hc hs) (fun g => k2 g H locs als cells slots hH hS hL hc hs)
    · next t x st' =>
        cases hst
        intro H locs als cells slots hH hS hL hc hs
        show W p l e R s mi args below meth c H locs cells slots Q (F0 mi pc als (.int x :: st'.map (mj_cv w)))
        exact lv_if_ne hx hb hd (hvd t rfl) (fun g => k1 g H locs als cells slots hH hS hL hc hs) (fun g => k2 (fun q => q g) H locs als cells slots hH hS hL hc hs)
    · next t x st' =>
        cases hst
        intro H locs als cells slots hH hS hL hc hs
        show W p l e R s mi args below meth c H locs cells slots Q (F0 mi pc als (.int x :: st'.map (mj_cv w)))
        exact lv_if_lt hx hb hd (hvd t rfl) (fun g => k1 g H locs als cells slots hH hS hL hc hs) (fun g => k2 g H locs als cells slots hH hS hL hc hs)
    · next t x st' =>
        cases hst
        intro H locs als cells slots hH hS hL hc hs
        show W p l e R s mi args below meth c H locs cells slots Q (F0 mi pc als (.int x :: st'.map (mj_cv w)))
        exact lv_if_ge hx hb hd (hvd t rfl) (fun g => k1 g H locs als cells slots hH hS hL hc hs) (fun g => k2 g H locs als cells slots hH hS hL hc hs)
    · next t x st' =>
        cases hst
        intro H locs als cells slots hH hS hL hc hs
        show W p l e R s mi args below meth c H locs cells slots Q (F0 mi pc als (.int x :: st'.map (mj_cv w)))
        exact lv_if_gt hx hb hd (hvd t rfl) (fun g => k1 g H locs als cells slots hH hS hL hc hs) (fun g => k2 g H locs als cells slots hH hS hL hc hs)
    · next t x st' =>
        cases hst
        intro H locs als cells slots hH hS hL hc hs
        show W p l e R s mi args below meth c H locs cells slots Q (F0 mi pc als (.int x :: st'.map (mj_cv w)))
        exact lv_if_le hx hb hd (hvd t rfl) (fun g => k1 g H locs als cells slots hH hS hL hc hs) (fun g => k2 g H locs als cells slots hH hS hL hc hs)
  | if_icmp cnd off =>
    obtain ⟨rfl, hn⟩ := hk9 rfl
    have hn : n = pc + 3 := hn
    subst hn
    cases cnd <;> simp only [mj_br] at hst <;> split at hst <;> try (cases hst; done)
    · next t y x st' =>
        cases hst
        intro H locs als cells slots hH hS hL hc hs
        show W p l e R s mi args below meth c H locs cells slots Q (F0 mi pc als (.int y :: .int x :: st'.map (mj_cv w)))
        exact lv_icmp_eq hx hb hd (hvd t rfl) (fun g => k1 g H locs als cells slots hH hS hL hc hs) (fun g => k2 g H locs als cells slots hH hS hL hc hs)
    · next t y x st' =>
        cases hst
        intro H locs als cells slots hH hS hL hc hs
        show W p l e R s mi args below meth c H locs cells slots Q (F0 mi pc als (.int y :: .int x :: st'.map (mj_cv w)))
        exact lv_icmp_ne hx hb hd (hvd t rfl) (fun g => k1 g H locs als cells slots hH hS hL hc hs) (fun g => k2 (fun q => q g) H locs als cells slots hH hS hL hc hs)
    · next t y x st' =>
        cases hst
        intro H locs als cells slots hH hS hL hc hs
        show W p l e R s mi args below meth c H locs cells slots Q (F0 mi pc als (.int y :: .int x :: st'.map (mj_cv w)))
        exact lv_icmp_lt hx hb hd (hvd t rfl) (fun g => k1 g H locs als cells slots hH hS hL hc hs) (fun g => k2 g H locs als cells slots hH hS hL hc hs)
    · next t y x st' =>
        cases hst
        intro H locs als cells slots hH hS hL hc hs
        show W p l e R s mi args below meth c H locs cells slots Q (F0 mi pc als (.int y :: .int x :: st'.map (mj_cv w)))
        exact lv_icmp_ge hx hb hd (hvd t rfl) (fun g => k1 g H locs als cells slots hH hS hL hc hs) (fun g => k2 g H locs als cells slots hH hS hL hc hs)
    · next t y x st' =>
        cases hst
        intro H locs als cells slots hH hS hL hc hs
        show W p l e R s mi args below meth c H locs cells slots Q (F0 mi pc als (.int y :: .int x :: st'.map (mj_cv w)))
        exact lv_icmp_gt hx hb hd (hvd t rfl) (fun g => k1 g H locs als cells slots hH hS hL hc hs) (fun g => k2 g H locs als cells slots hH hS hL hc hs)
    · next t y x st' =>
        cases hst
        intro H locs als cells slots hH hS hL hc hs
        show W p l e R s mi args below meth c H locs cells slots Q (F0 mi pc als (.int y :: .int x :: st'.map (mj_cv w)))
        exact lv_icmp_le hx hb hd (hvd t rfl) (fun g => k1 g H locs als cells slots hH hS hL hc hs) (fun g => k2 g H locs als cells slots hH hS hL hc hs)
  | _ => simp [mj_br] at hst
end MJ
