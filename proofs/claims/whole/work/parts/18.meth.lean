def mj_rok : Nat → Option FieldType → Bool
  | 0, none => true
  | 1, some .int => true
  | 2, some .boolean => true
  | 3, some .long => true
  | 4, some (.object _) => true
  | 4, some (.array _) => true
  | _, _ => false
/-- the tables of the program are right -/
def mj_VPg (P : List mjT) (Y : mjY) : Prop := ∀ (k : Nat) (t : mjT), P[k]? = some t → ∃ (y : MethodName) (cc : ByteArray) (ret : Option FieldType), Y[k]? = some (y, cc, t.2.1, ret) ∧ plainFor y = true ∧ y.cls = mj_cn t.1 ∧ mj_rok t.2.2.1 ret = true ∧ ∀ pc en, mj_at pc t.2.2.2 = some en → mj_VE (y.name == "<init>") t.1 cc pc en ∧ mj_VC Y t.1 en.1 en.2.2
theorem mj_pad_len : ∀ (n : Nat) (ls : List (Option Value)), (mj_pad n ls).length = n
  | 0, _ => rfl
  | n + 1, [] => by simp [mj_pad, mj_pad_len n []]
  | n + 1, x :: xs => by simp [mj_pad, mj_pad_len n xs]
theorem mj_pad_get : ∀ (n : Nat) (ls : List (Option Value)) (i : Nat) (v : Value), mj_get i (mj_pad n ls) = some v → mj_get i ls = some v
  | 0, _, i, v, h => by simp [mj_pad, mj_get] at h
  | n + 1, [], 0, v, h => by simp [mj_pad, mj_get] at h
  | n + 1, [], i + 1, v, h => by
    have := mj_pad_get n [] i v h
    simp [mj_get] at this
  | n + 1, x :: xs, 0, v, h => h
  | n + 1, x :: xs, i + 1, v, h => mj_pad_get n xs i v h
theorem mj_ent_get (w : mjW) : ∀ (as : List Value) (j i : Nat) (v : Value), mj_get i (mj_ent as) = some v → (j + i, mj_cv w v) ∈ lv_args j (as.map (mj_cv w))
  | [], j, i, v, h => by simp [mj_ent, mj_get] at h
  | a :: as, j, i, v, h => by
    by_cases hc : a.category = 2
    · have he : mj_ent (a :: as) = some a :: none :: mj_ent as := by cases a <;> simp [Value.category] at hc <;> rfl
      rw [he] at h
      simp only [List.map_cons, lv_args, mj_cv_cat, hc, if_true]
      match i, h with
      | 0, h =>
        have e : a = v := by simpa [mj_get] using h
        subst e
        exact List.mem_cons_self
      | 1, h => simp [mj_get] at h
      | i + 2, h =>
        have := mj_ent_get w as (j + 2) i v h
        rw [show j + 2 + i = j + (i + 2) by omega] at this
        exact List.mem_cons_of_mem _ this
    · have he : mj_ent (a :: as) = some a :: mj_ent as := by cases a <;> simp [Value.category] at hc <;> rfl
      rw [he] at h
      simp only [List.map_cons, lv_args, mj_cv_cat, hc, if_false]
      match i, h with
      | 0, h =>
        have e : a = v := by simpa [mj_get] using h
        subst e
        exact List.mem_cons_self
      | i + 1, h =>
        have := mj_ent_get w as (j + 1) i v h
        rw [show j + 1 + i = j + (i + 1) by omega] at this
        exact List.mem_cons_of_mem _ this
theorem mj_ent_len (w : mjW) : ∀ (as : List Value), (lg_sl (as.map (mj_cv w))).length = (mj_ent as).length
  | [] => rfl
  | a :: as => by
    have ih := mj_ent_len w as
    by_cases hc : a.category = 2
    · have he : mj_ent (a :: as) = some a :: none :: mj_ent as := by cases a <;> simp [Value.category] at hc <;> rfl
      rw [he]
      simp only [lg_sl, List.map_cons, List.flatMap_cons, mj_cv_cat, hc, if_true] at ih ⊢
      simp [ih]
    · have he : mj_ent (a :: as) = some a :: mj_ent as := by cases a <;> simp [Value.category] at hc <;> rfl
      rw [he]
      simp only [lg_sl, List.map_cons, List.flatMap_cons, mj_cv_cat, hc, if_false] at ih ⊢
      simp [ih]
theorem mj_LR.entry (w : mjW) {nL : Nat} {as : List Value} (h : (mj_ent as).length ≤ nL) {ls : Array Slot} (hl : lv_has ls nL (lv_args 0 (as.map (mj_cv w)))) : mj_LR w nL (mj_pad nL (mj_ent as)) ls := by
  refine mj_LR.of (mj_pad_len _ _) hl (fun i v g => ?_)
  have := mj_ent_get w as 0 i v (mj_pad_get _ _ _ _ g)
  rwa [Nat.zero_add] at this
set_option maxHeartbeats 4000000 in
theorem mj_meth {P : List mjT} {Y : mjY} (hV : mj_VPg P Y) (l : Launch) : ∀ d : Nat, mj_MF Y l d (mj_call P d)
  | 0 => fun _ _ _ _ _ h => by cases h
  | d + 1 => by
    intro k as h v h' hc
    obtain ⟨t, hP, hent, n, hgo⟩ := hc
    obtain ⟨y, cc, ret, hY, hpl, hcls, hrok, hcd⟩ := hV k t hP
    have hMF := mj_meth hV l d
    have hK : ∀ k as h v h', mj_call P d k as h v h' → h.1.length ≤ h'.1.length ∧ mj_sl h.1 ≤ mj_sl h'.1 := fun k as h v h' hk => by
      obtain ⟨_, _, _, _, _, h1, h2, _⟩ := hMF _ _ _ _ _ hk
      exact ⟨h1, h2⟩
    have hm := mj_mono hK n _ v h' hgo
    have hm' : h.1.length ≤ h'.1.length ∧ mj_sl h.1 ≤ mj_sl h'.1 := hm
    refine ⟨y, cc, t.2.1, ret, hY, hm'.1, hm'.2, fun w D L xs => ?_⟩
    refine mj_ofW (cc := cc) (maxL := t.2.1) (ret := ret) hpl rfl ?_
    intro p e s m args below meth c s₁ B hml hv
    obtain ⟨rfl, hH, hKv, hXW, hX, hbB, hl1⟩ := hv
    have hx := B.exec
    have hb := B.bytes
    have hr := B.returns
    have hlocks := B.notSynchronized
    have hts := atoms_spec (ws := Cond.code y cc t.2.1 ret :: mj_tb) B.pre
    have hown : s.vm.findClass (mj_cn t.1) = some m.cls := by rw [← hcls]; exact findClass_of_methodNamed B.named
    have hnm : meth.name = y.name := (name_of_methodNamed B.named B.method).1
    have C : mj_Cx p (headSpec (Cond.code y cc t.2.1 ret :: mj_tb) (mj_rm (d + 1) (h'.1.length - h.1.length) (mj_sl h'.1 - mj_sl h.1))).room s m (as.map (mj_cv w)).toArray meth c w D L xs t.1 t.2.1 cc (y.name == "<init>") h.1.length (mj_sl h.1) h'.1.length (mj_sl h'.1) := by
      refine ⟨hx, hb, hml, hown, fun z hz => hts z (List.mem_cons_of_mem _ hz), hKv, hXW, fun hi => ?_, hX, hbB, hH.1, hl1, ?_, ?_, ?_, ?_⟩
      · rw [hnm]; exact eq_of_beq hi
      · show 1 ≤ d + 1
        omega
      · show 100 ≤ 100 * (d + 1)
        omega
      · show h'.1.length ≤ h.1.length + (h'.1.length - h.1.length)
        omega
      · show mj_sl h'.1 ≤ mj_sl h.1 + (mj_sl h'.1 - mj_sl h.1)
        omega
    have hle : (lg_sl (as.map (mj_cv w))).length ≤ t.2.1 := by rw [mj_ent_len]; exact hent
    have hl := lv_entry (as.map (mj_cv w)) hle
    rw [lg_entry_eq]
    generalize (lg_sl (as.map (mj_cv w)) ++ List.replicate (t.2.1 - (lg_sl (as.map (mj_cv w))).length) Slot.unset).toArray = ls at hl ⊢
    have hLR := mj_LR.entry w hent hl
    have S := mj_sgo (l := l) (e := e) (below := below) (Q := MQ below (mj_Qc w D L xs v h') (as.map (mj_cv w)).toArray s (h'.1.length - h.1.length) (mj_sl h'.1 - mj_sl h.1) (fun q : Addr => w.2.1 ≤ q)) C hMF (by show d + 1 ≤ d + 1 ∧ 100 * d + 100 ≤ 100 * (d + 1); omega) hcd (v := v) (h' := h') ⟨Nat.le_refl _, Nat.le_refl _⟩ ?_ n _ hgo
    · exact S s.heap [] ls 0 0 hH va_S.rf hLR rfl rfl
    · intro pc ls2 st en o hat hret ho
      obtain ⟨⟨⟨k9, hd, hk9⟩, -⟩, -⟩ := hcd pc en hat
      obtain ⟨ins, nx, dd⟩ := en
      intro H locs als cells slots hH2 hS hL hc hs
      have hc' : h.1.length + cells = h'.1.length := hc
      have hs' : mj_sl h.1 + slots = mj_sl h'.1 := hs
      obtain rfl : cells = h'.1.length - h.1.length := by omega
      obtain rfl : slots = mj_sl h'.1 - mj_sl h.1 := by omega
      have hq : ∀ (u : Option Value), u = v → ∀ t9 : State, t9.heap = H → mj_Qc w D L xs v h' (as.map (mj_cv w)).toArray s (.returned (u.map (mj_cv w))) t9 := by
        intro u hu t9 ht9
        refine ⟨by rw [hu], by rw [ht9]; exact hH2, by rw [ht9]; exact hS.1, fun q h1 h2 => by rw [ht9]; exact hS.2.1 q h1 h2⟩
      have hd' : decode cc pc = .ok (ins, k9) := hd
      simp only [mj_ret] at hret
      split at hret <;> try (cases hret; done)
      · next hrt =>
        cases hret
        have e1 : ret = none := by
          cases ret with
          | none => rfl
          | some r => rw [hrt] at hrok; cases r <;> simp [mj_rok] at hrok
        obtain ⟨rfl, -⟩ := hk9 rfl
        exact W.vret hx hb (hr.trans e1) (fun t9 ht9 _ => hq none rfl t9 ht9) hS.2.2 hd'
      · next x hrt =>
        cases hret
        have e1 : ret = some .int := by
          cases ret with
          | none => rw [hrt] at hrok; simp [mj_rok] at hrok
          | some r => rw [hrt] at hrok; cases r <;> simp [mj_rok] at hrok <;> rfl
        obtain ⟨rfl, -⟩ := hk9 rfl
        exact W.iret hx hb (hr.trans e1) (fun t9 ht9 _ => hq (some (.int x)) rfl t9 ht9) hS.2.2 hd'
      · next x hrt =>
        cases hret
        have e1 : ret = some .boolean := by
          cases ret with
          | none => rw [hrt] at hrok; simp [mj_rok] at hrok
          | some r => rw [hrt] at hrok; cases r <;> simp [mj_rok] at hrok <;> rfl
        obtain ⟨rfl, -⟩ := hk9 rfl
        have hx01 : x = 0 ∨ x = 1 := ho
        exact W.zret (ty := .boolean) hx hb (hr.trans e1) (by rcases hx01 with h0 | h0 <;> rw [h0] <;> rfl) (fun t9 ht9 _ => hq (some (.int x)) rfl t9 ht9) hS.2.2 hd'
      · next x hrt =>
        cases hret
        have e1 : ret = some .long := by
          cases ret with
          | none => rw [hrt] at hrok; simp [mj_rok] at hrok
          | some r => rw [hrt] at hrok; cases r <;> simp [mj_rok] at hrok <;> rfl
        obtain ⟨rfl, -⟩ := hk9 rfl
        exact W.lret hx hb (hr.trans e1) (fun t9 ht9 _ => hq (some (.long x)) rfl t9 ht9) hS.2.2 hd'
      · next x hrt =>
        cases hret
        obtain ⟨rfl, -⟩ := hk9 rfl
        cases ret with
        | none => rw [hrt] at hrok; simp [mj_rok] at hrok
        | some r =>
          have e1 : (∃ n, r = .object n) ∨ ∃ t, r = .array t := by
            rw [hrt] at hrok
            cases r <;> simp [mj_rok] at hrok
            · exact Or.inl ⟨_, rfl⟩
            · exact Or.inr ⟨_, rfl⟩
          exact W.aret hx hb hr e1 (Or.inr ⟨_, rfl⟩) (fun t9 ht9 _ => hq (some (.ref x)) rfl t9 ht9) hS.2.2 hd'
      · next hrt =>
        cases hret
        obtain ⟨rfl, -⟩ := hk9 rfl
        cases ret with
        | none => rw [hrt] at hrok; simp [mj_rok] at hrok
        | some r =>
          have e1 : (∃ n, r = .object n) ∨ ∃ t, r = .array t := by
            rw [hrt] at hrok
            cases r <;> simp [mj_rok] at hrok
            · exact Or.inl ⟨_, rfl⟩
            · exact Or.inr ⟨_, rfl⟩
          exact W.aret hx hb hr e1 (Or.inl rfl) (fun t9 ht9 _ => hq (some .null) rfl t9 ht9) hS.2.2 hd'
