/-! the small machine's heap as cells of the Statement's machine: cell 0 is the script (at w.1), cell a + 1 is at w.2.1 + a -/
abbrev mjW : Type := Nat × Nat × Nat × Nat × Nat × Nat
def mj_ad (w : mjW) : Nat → Nat
  | 0 => w.1
  | a + 1 => w.2.1 + a
def mj_cv (w : mjW) : Value → Value
  | .ref a => .ref (mj_ad w a)
  | v => v
def mj_ty : Nat → Nat → FieldType
  | 0 => tyX0
  | 1 => tyX1
  | 2 => tyX2
  | 3 => tyX3
  | 4 => tyX4
  | 5 => tyX5
  | 6 => tyX6
  | 7 => tyX7
  | 8 => tyX8
  | 9 => tyX9
  | 10 => tyX10
  | 11 => tyX11
  | _ => tyX12
def mj_nf : Nat → Nat
  | 0 => 8
  | 1 => 1
  | 2 => 1
  | 3 => 2
  | 4 => 1
  | 5 => 2
  | 6 => 3
  | 7 => 5
  | 8 => 1
  | 9 => 5
  | 10 => 8
  | 11 => 15
  | 12 => 34
  | _ => 0
def mj_fv (w : mjW) (I : mjI) (R : mjR) (J : mjJ) (a k : Nat) : FieldType → Value
  | .int => .int (I a k)
  | .boolean => .int (I a k)
  | .long => .long (J a k)
  | _ => va_rf ((R a k).map (mj_ad w))
def mj_fs (w : mjW) (I : mjI) (R : mjR) (J : mjJ) (a ci : Nat) : List Value := (List.range (mj_nf ci)).map (fun k => mj_fv w I R J a k (mj_ty ci k))
def mj_ce (w : mjW) (I : mjI) (R : mjR) (J : mjJ) (a : Nat) : Nat × Nat → va_E
  | (0, n) => .inl (w.2.2.1, n, .inl (I a))
  | (1, n) => .inl (w.2.2.2.1, n, .inl (I a))
  | (2, n) => .inl (w.2.2.2.2.1, n, .inr (.inr (.inr (.inr (fun j => (R a j).map (mj_ad w))))))
  | (3, n) => .inl (w.2.2.2.2.2, n, .inr (.inr (.inr (.inr (fun j => (R a j).map (mj_ad w))))))
  | (t, _) => .inr (t - 10, mj_fs w I R J a (t - 10))
def mj_wc (w : mjW) (I : mjI) (R : mjR) (J : mjJ) : Nat → List (Nat × Nat) → va_W
  | _, [] => []
  | a, x :: xs => (w.2.1 + a, mj_ce w I R J (a + 1) x) :: mj_wc w I R J (a + 1) xs
def mj_ws (w : mjW) (h : mjH) : va_W := mj_wc w h.2.1 h.2.2.1 h.2.2.2 0 h.1.tail
abbrev mj_tys (w : mjW) : List (ClassId × FieldType) := [(w.2.2.1, .int), (w.2.2.2.1, .byte), (w.2.2.2.2.1, .array .int), (w.2.2.2.2.2, .object "PointsThrow$Point")]
theorem mj_mt_eq : ∀ (a : Nat) (m : mjM), mj_mt a m = m[a]?
  | _, [] => by simp [mj_mt]
  | 0, x :: _ => by simp [mj_mt]
  | a + 1, x :: xs => by simp [mj_mt, mj_mt_eq a xs]
theorem mj_wc_len (w : mjW) (I : mjI) (R : mjR) (J : mjJ) : ∀ (a : Nat) (m : List (Nat × Nat)), (mj_wc w I R J a m).length = m.length
  | _, [] => rfl
  | a, x :: xs => by simp [mj_wc, mj_wc_len w I R J (a + 1) xs]
theorem mj_wc_at (w : mjW) (I : mjI) (R : mjR) (J : mjJ) : ∀ (a : Nat) (m : List (Nat × Nat)) (i : Nat), (mj_wc w I R J a m)[i]? = (m[i]?).map (fun x => (w.2.1 + (a + i), mj_ce w I R J (a + i + 1) x))
  | _, [], i => by simp [mj_wc]
  | a, x :: xs, 0 => by simp [mj_wc]
  | a, x :: xs, i + 1 => by
    simp only [mj_wc, List.getElem?_cons_succ, mj_wc_at w I R J (a + 1) xs i]
    rw [show a + 1 + i = a + (i + 1) by omega]
theorem mj_ws_at {w : mjW} {h : mjH} {a : Nat} {x : Nat × Nat} (hx : mj_mt (a + 1) h.1 = some x) : (mj_ws w h)[a]? = some (w.2.1 + a, mj_ce w h.2.1 h.2.2.1 h.2.2.2 (a + 1) x) := by
  rw [mj_mt_eq] at hx
  have h2 : h.1.tail[a]? = some x := by rw [List.getElem?_tail]; exact hx
  simp [mj_ws, mj_wc_at, h2]
theorem mj_ws_len (w : mjW) (h : mjH) : (mj_ws w h).length = h.1.length - 1 := by simp [mj_ws, mj_wc_len]
theorem mj_ws_adr {w : mjW} {h : mjH} {i : Nat} {q : Nat × va_E} (hq : (mj_ws w h)[i]? = some q) : q.1 = w.2.1 + i := by
  rw [mj_ws, mj_wc_at] at hq
  cases hm : h.1.tail[i]? with
  | none => rw [hm] at hq; cases hq
  | some x => rw [hm] at hq; cases hq; simp
theorem mj_D (w : mjW) (h : mjH) : va_D (fun q : Nat => w.2.1 ≤ q) (mj_ws w h) := by
  refine ⟨fun i j p q hi hj e => ?_, fun k q hk => ?_⟩
  · have h1 := mj_ws_adr hi
    have h2 := mj_ws_adr hj
    omega
  · rw [mj_ws_adr hk]
    exact Nat.le_add_right _ _
/-- the cells of h stand in H, nothing else was made -/
def mj_HR (w : mjW) (D : va_G) (L : Nat) (xs : Nat → Int32) (h : mjH) (H : Heap) : Prop := H.size + 1 = w.2.1 + h.1.length ∧ mj_mt 0 h.1 = some (0, L) ∧ h.2.1 0 = xs ∧ va_P D vwCl (mj_ws w h) H
/-- locals -/
def mj_LR (w : mjW) (nL : Nat) (ls : List (Option Value)) (als : Array Slot) : Prop := ls.length = nL ∧ als.size = nL ∧ lv_wf als ∧ ∀ i v, mj_get i ls = some v → als[i]? = some (.val (mj_cv w v))
def mj_lv (w : mjW) : Nat → List (Option Value) → List (Nat × Value)
  | _, [] => []
  | i, none :: xs => mj_lv w (i + 1) xs
  | i, some v :: xs => (i, mj_cv w v) :: mj_lv w (i + 1) xs
theorem mj_lv_of (w : mjW) : ∀ (j : Nat) (ls : List (Option Value)) (q : Nat × Value), q ∈ mj_lv w j ls → ∃ i v, q = (j + i, mj_cv w v) ∧ mj_get i ls = some v
  | _, [], q, h => by cases h
  | j, none :: xs, q, h => by
    obtain ⟨i, v, e, g⟩ := mj_lv_of w (j + 1) xs q h
    exact ⟨i + 1, v, by rw [e, show j + 1 + i = j + (i + 1) by omega], g⟩
  | j, some u :: xs, q, h => by
    rcases List.mem_cons.mp h with e | h
    · exact ⟨0, u, e, rfl⟩
    · obtain ⟨i, v, e, g⟩ := mj_lv_of w (j + 1) xs q h
      exact ⟨i + 1, v, by rw [e, show j + 1 + i = j + (i + 1) by omega], g⟩
theorem mj_lv_to (w : mjW) : ∀ (j : Nat) (ls : List (Option Value)) (i : Nat) (v : Value), mj_get i ls = some v → (j + i, mj_cv w v) ∈ mj_lv w j ls
  | _, [], i, v, h => by simp [mj_get] at h
  | j, x :: xs, 0, v, h => by
    have e : x = some v := h
    subst e
    exact List.mem_cons_self
  | j, x :: xs, i + 1, v, h => by
    have h1 := mj_lv_to w (j + 1) xs i v h
    rw [show j + 1 + i = j + (i + 1) by omega] at h1
    cases x with
    | none => exact h1
    | some u => exact List.mem_cons_of_mem _ h1
theorem mj_LR.has {w : mjW} {nL : Nat} {ls : List (Option Value)} {als : Array Slot} (h : mj_LR w nL ls als) : lv_has als nL (mj_lv w 0 ls) := by
  refine ⟨h.2.1, h.2.2.1, fun q hq => ?_⟩
  obtain ⟨i, v, e, g⟩ := mj_lv_of w 0 ls q hq
  rw [e, Nat.zero_add]
  exact h.2.2.2 i v g
theorem mj_LR.of {w : mjW} {nL : Nat} {ls : List (Option Value)} {als : Array Slot} {lv : List (Nat × Value)} (hl : ls.length = nL) (h : lv_has als nL lv) (hs : ∀ i v, mj_get i ls = some v → (i, mj_cv w v) ∈ lv) : mj_LR w nL ls als := ⟨hl, h.1, h.2.1, fun i v g => h.2.2 _ (hs i v g)⟩
theorem mj_cv_cat (w : mjW) (v : Value) : (mj_cv w v).category = v.category := by cases v <;> rfl
theorem mj_set_spec {α : Type} {v : Option Value} : ∀ (i : Nat) (ls : List (Option Value)) (k : List (Option Value) → Option α) (r : α), mj_set v i ls k = some r → ∃ ls', k ls' = some r ∧ ls'.length = ls.length ∧ i < ls.length ∧ mj_get i ls' = v ∧ ∀ j, j ≠ i → mj_get j ls' = mj_get j ls
  | _, [], k, r, h => by simp [mj_set] at h
  | 0, x :: xs, k, r, h => by
    refine ⟨v :: xs, h, by simp, by simp, rfl, fun j hj => ?_⟩
    cases j with
    | zero => exact absurd rfl hj
    | succ j => rfl
  | i + 1, x :: xs, k, r, h => by
    obtain ⟨ls', h1, h2, h3, h4, h5⟩ := mj_set_spec i xs (fun ys => k (x :: ys)) r h
    refine ⟨x :: ls', h1, by simp [h2], by simp; omega, h4, fun j hj => ?_⟩
    cases j with
    | zero => rfl
    | succ j => exact h5 j (fun e => hj (by rw [e]))
theorem mj_pl_spec : ∀ (i : Nat) (ls : List (Option Value)), mj_pl (i + 1) ls = true → ∀ v, mj_get i ls = some v → v.category ≠ 2
  | _, [], _, v, h => by simp [mj_get] at h
  | 0, x :: xs, hp, v, h => by
    have e : x = some v := h
    subst e
    cases v <;> simp [mj_pl, mj_lg, Value.category] at hp ⊢
  | i + 1, x :: xs, hp, v, h => mj_pl_spec i xs hp v h
/-- a store of a value of one place -/
theorem mj_LR.st1 {w : mjW} {nL : Nat} {ls ls' : List (Option Value)} {als' : Array Slot} {i : Nat} {v : Value} (h : ls.length = nL) (hl : ls'.length = ls.length) (hg : mj_get i ls' = some v) (ho : ∀ j, j ≠ i → mj_get j ls' = mj_get j ls) (hp : mj_pl i ls = true)
    (hs : lv_has als' nL ((i, mj_cv w v) :: (mj_lv w 0 ls).filter (fun q => !(q.1 == i) && !(q.1 + 1 == i && q.2.category == 2)))) : mj_LR w nL ls' als' := by
  refine mj_LR.of (hl.trans h) hs (fun j u hj => ?_)
  by_cases e : j = i
  · subst e
    rw [hg] at hj
    cases hj
    exact List.mem_cons_self
  · rw [ho j e] at hj
    refine List.mem_cons_of_mem _ (List.mem_filter.mpr ⟨?_, ?_⟩)
    · have := mj_lv_to w 0 ls j u hj
      rwa [Nat.zero_add] at this
    · by_cases e2 : j + 1 = i
      · subst e2
        have hc := mj_pl_spec j ls hp u hj
        simp [mj_cv_cat, hc]
      · simp [e, e2]
/-- a store of a long -/
theorem mj_LR.st2 {w : mjW} {nL : Nat} {ls l1 ls' : List (Option Value)} {als' : Array Slot} {i : Nat} {v : Value} (h : ls.length = nL) (hl : l1.length = ls.length) (hg : mj_get i l1 = some v) (ho : ∀ j, j ≠ i → mj_get j l1 = mj_get j ls) (hl2 : ls'.length = l1.length) (hg2 : mj_get (i + 1) ls' = none) (ho2 : ∀ j, j ≠ i + 1 → mj_get j ls' = mj_get j l1) (hp : mj_pl i ls = true)
    (hs : lv_has als' nL ((i, mj_cv w v) :: (mj_lv w 0 ls).filter (fun q => !(q.1 == i) && (!(q.1 == i + 1) && !(q.1 + 1 == i && q.2.category == 2))))) : mj_LR w nL ls' als' := by
  refine mj_LR.of (hl2.trans (hl.trans h)) hs (fun j u hj => ?_)
  by_cases e : j = i
  · subst e
    rw [ho2 j (by omega), hg] at hj
    cases hj
    exact List.mem_cons_self
  · by_cases e1 : j = i + 1
    · subst e1
      rw [hg2] at hj
      cases hj
    · rw [ho2 j e1, ho j e] at hj
      refine List.mem_cons_of_mem _ (List.mem_filter.mpr ⟨?_, ?_⟩)
      · have := mj_lv_to w 0 ls j u hj
        rwa [Nat.zero_add] at this
      · by_cases e2 : j + 1 = i
        · subst e2
          have hc := mj_pl_spec j ls hp u hj
          simp [mj_cv_cat, hc, e1]
        · simp [e, e1, e2]
