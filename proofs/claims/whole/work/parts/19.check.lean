/-! the tables' check, by places of words in lw_tbl -/
def mj_wd (pos : Nat) (z : Cond) : Bool := match lw_tbl[pos]? with
  | some z' => decide (z' = z) && goodWord z
  | none => false
def mj_wx (pos : Nat) (z : Cond) : Bool := match lw_tbl[pos]? with
  | some z' => decide (z' = z) && mj_isx z
  | none => false
theorem mj_wd_in {pos : Nat} {z : Cond} (h : mj_wd pos z = true) : z ∈ mj_tb := by
  unfold mj_wd at h
  split at h <;> try (cases h; done)
  next z' hz =>
    obtain ⟨h1, h2⟩ := Bool.and_eq_true _ _ ▸ h
    have e := of_decide_eq_true h1
    subst e
    exact List.mem_filter.mpr ⟨List.mem_of_getElem? hz, h2⟩
theorem mj_wx_in {pos : Nat} {z : Cond} (h : mj_wx pos z = true) : z ∈ mj_xn := by
  unfold mj_wx at h
  split at h <;> try (cases h; done)
  next z' hz =>
    obtain ⟨h1, h2⟩ := Bool.and_eq_true _ _ ▸ h
    have e := of_decide_eq_true h1
    subst e
    exact List.mem_filter.mpr ⟨List.mem_of_getElem? hz, h2⟩
/-- a field's tag -/
def mj_cf (ps : Nat) (ref nm ds : String) (k ty t : Nat) : Bool := match vwCl[t - 10]? with
  | some (_, T, N) => Nat.ble 10 t && decide (k < N) && decide ((T k).2.1 = nm) && decide ((T k).2.2.1 = ds) && (decide ((T k).1 = ref) || mj_wd ps (.sameField ref (T k).1 nm ds)) && decide (mj_tc (mj_ty (t - 10) k) = ty)
  | none => false
/-- a link: own's number, index, places, data -/
def mj_lf (own idx : Nat) (ps d : List Nat) : Bool := match d, ps with
  | k :: ty :: cs, [p0, p1] => match lw_tbl[p0]? with
    | some (.fieldLink o i ref nm ds) => decide (o = mj_cn own) && decide (i = idx) && cs.all (mj_cf p1 ref nm ds k ty)
    | _ => false
  | _, _ => false
theorem mj_lf_ok {own idx k ty : Nat} {ps cs : List Nat} (h : mj_lf own idx ps (k :: ty :: cs) = true) : mj_VF own idx k ty cs := by
  unfold mj_lf at h
  split at h <;> try (cases h; done)
  next k' ty' cs' p0 p1 heq =>
    cases heq
    split at h <;> try (cases h; done)
    next o i ref nm ds hz =>
      simp only [Bool.and_eq_true, decide_eq_true_eq] at h
      obtain ⟨⟨h1, h2⟩, h3⟩ := h
      subst h1
      subst h2
      refine ⟨ref, nm, ds, List.mem_filter.mpr ⟨List.mem_of_getElem? hz, rfl⟩, fun t ht => ?_⟩
      have h4 := List.all_eq_true.mp h3 t ht
      unfold mj_cf at h4
      split at h4 <;> try (cases h4; done)
      next C T N hv =>
        simp only [Bool.and_eq_true, Bool.or_eq_true, decide_eq_true_eq] at h4
        obtain ⟨⟨⟨⟨⟨g1, g2⟩, g3⟩, g4⟩, g5⟩, g6⟩ := h4
        have g1 := Nat.le_of_ble_eq_true g1
        exact ⟨t - 10, C, T, N, by omega, hv, g2, g3, g4, g5.imp_right mj_wd_in, g6⟩
def mj_lp (ini : Bool) (own : Nat) (d : List Nat) : Bool := match d with
  | k :: _ :: cs => cs.all (fun t => match vwCl[t - 10]? with
    | some q => !(q.2.1 k).2.2.2 || (ini && (q.2.1 k).2.2.2 && decide ((q.2.1 k).1 = mj_cn own))
    | none => true)
  | _ => false
theorem mj_lp_ok {ini : Bool} {own idx k ty : Nat} {ps cs : List Nat} (h : mj_lf own idx ps (k :: ty :: cs) = true) (h2 : mj_lp ini own (k :: ty :: cs) = true) : mj_VP ini own idx k ty cs := by
  refine ⟨mj_lf_ok h, fun t ht ci q e hq => ?_⟩
  have h3 := List.all_eq_true.mp h2 t ht
  subst e
  simp only [Nat.add_sub_cancel, hq] at h3
  cases hf : (q.2.1 k).2.2.2 with
  | false => exact Or.inl rfl
  | true =>
    simp only [hf, Bool.not_true, Bool.false_or, Bool.and_true, Bool.and_eq_true, decide_eq_true_eq] at h3
    exact Or.inr ⟨h3.1, rfl, h3.2⟩
def mj_lc (own idx : Nat) (ps d : List Nat) : Bool := match ps with
  | [p0] => match lw_tbl[p0]? with
    | some (.constant o i v) => decide (o = mj_cn own) && decide (i = idx) && (match d with
      | [q] => decide (v = nI q)
      | _ => false)
    | _ => false
  | _ => false
theorem mj_lc_ok {own idx q : Nat} {ps : List Nat} (h : mj_lc own idx ps [q] = true) : Cond.constant (mj_cn own) idx (nI q) ∈ mj_tb := by
  unfold mj_lc at h
  split at h <;> try (cases h; done)
  split at h <;> try (cases h; done)
  next o i v hz =>
    simp only [Bool.and_eq_true, decide_eq_true_eq] at h
    obtain ⟨⟨h1, h2⟩, h3⟩ := h
    subst h1
    subst h2
    subst h3
    exact List.mem_filter.mpr ⟨List.mem_of_getElem? hz, rfl⟩
def mj_lj (own idx : Nat) (ps d : List Nat) : Bool := match ps with
  | [p0] => match lw_tbl[p0]? with
    | some (.constantLong o i v) => decide (o = mj_cn own) && decide (i = idx) && (match d with
      | [q] => decide (v = lN q)
      | _ => false)
    | _ => false
  | _ => false
theorem mj_lj_ok {own idx q : Nat} {ps : List Nat} (h : mj_lj own idx ps [q] = true) : Cond.constantLong (mj_cn own) idx (lN q) ∈ mj_tb := by
  unfold mj_lj at h
  split at h <;> try (cases h; done)
  split at h <;> try (cases h; done)
  next o i v hz =>
    simp only [Bool.and_eq_true, decide_eq_true_eq] at h
    obtain ⟨⟨h1, h2⟩, h3⟩ := h
    subst h1
    subst h2
    subst h3
    exact List.mem_filter.mpr ⟨List.mem_of_getElem? hz, rfl⟩
/-- new: [class link, instantiable, initialized], [tag, fields] -/
def mj_ln1 (own idx : Nat) (ps d : List Nat) : Bool := match d, ps with
  | [t, k], [p0, p1, p2] => match vwCl[t - 10]? with
    | some (C, _, N) => Nat.ble 10 t && decide (k = N) && mj_wd p0 (.classLink (mj_cn own) idx C) && mj_wd p1 (.instantiable C N) && mj_wd p2 (.initialized C)
    | none => false
  | _, _ => false
theorem mj_ln1_ok {own idx t k : Nat} {ps : List Nat} (h : mj_ln1 own idx ps [t, k] = true) : mj_VN own idx t k := by
  unfold mj_ln1 at h
  split at h <;> try (cases h; done)
  next t' k' p0 p1 p2 heq =>
    cases heq
    split at h <;> try (cases h; done)
    next C T N hv =>
      simp only [Bool.and_eq_true, decide_eq_true_eq] at h
      obtain ⟨⟨⟨⟨h1, h2⟩, h3⟩, h4⟩, h5⟩ := h
      have h1 := Nat.le_of_ble_eq_true h1
      exact ⟨t - 10, C, T, N, by omega, hv, h2, mj_wd_in h3, mj_wd_in h4, mj_wd_in h5⟩
/-- instanceof: the link's place, then a place for each tag (of the castable word, if there is one) -/
def mj_li1 (nm : String) : List Nat → List Nat → Bool
  | t :: b :: d, p :: ps => (match vwCl[t - 10]? with
    | some (C, _, _) => Nat.ble 10 t && ((decide (b = 1) && (decide (C = nm) || mj_wx p (.castable C nm))) || (decide (b = 0) && decide ((C, nm) ∈ mj_nc)))
    | none => false) && mj_li1 nm d ps
  | [], [] => true
  | _, _ => false
def mj_li (own idx : Nat) (ps d : List Nat) : Bool := match ps with
  | p0 :: ps => match lw_tbl[p0]? with
    | some (.classLink o i nm) => decide (o = mj_cn own) && decide (i = idx) && mj_li1 nm d ps
    | _ => false
  | _ => false
theorem mj_li1_ok {nm : String} : ∀ {d ps : List Nat}, mj_li1 nm d ps = true → ∀ t b, mj_sel t d = some b → ∃ (ci : Nat) (C : String) (T : u_T) (N : Nat), t = ci + 10 ∧ vwCl[ci]? = some (C, T, N) ∧ ((b = 1 ∧ (C = nm ∨ Cond.castable C nm ∈ mj_xn)) ∨ (b = 0 ∧ (C, nm) ∈ mj_nc))
  | t' :: b' :: d, p :: ps, h, t, b, hs => by
    unfold mj_li1 at h
    obtain ⟨h1, h2⟩ := Bool.and_eq_true _ _ ▸ h
    unfold mj_sel at hs
    split at hs
    next hb =>
      cases hs
      have e := Nat.eq_of_beq_eq_true hb
      subst e
      split at h1 <;> try (cases h1; done)
      next C T N hv =>
        simp only [Bool.and_eq_true, Bool.or_eq_true, decide_eq_true_eq] at h1
        obtain ⟨g1, g2⟩ := h1
        have g1 := Nat.le_of_ble_eq_true g1
        refine ⟨t' - 10, C, T, N, by omega, hv, ?_⟩
        rcases g2 with ⟨g2, g3⟩ | ⟨g2, g3⟩
        · exact Or.inl ⟨g2, g3.imp_right mj_wx_in⟩
        · exact Or.inr ⟨g2, g3⟩
    next => exact mj_li1_ok h2 t b hs
  | [], _, _, t, b, hs => by simp [mj_sel] at hs
  | [_], _, _, t, b, hs => by simp [mj_sel] at hs
  | _ :: _ :: _, [], h, t, b, hs => by simp [mj_li1] at h
theorem mj_li_ok {own idx : Nat} {ps d : List Nat} (h : mj_li own idx ps d = true) : mj_VI own idx d := by
  unfold mj_li at h
  split at h <;> try (cases h; done)
  split at h <;> try (cases h; done)
  next o i nm hz =>
    simp only [Bool.and_eq_true, decide_eq_true_eq] at h
    obtain ⟨⟨h1, h2⟩, h3⟩ := h
    subst h1
    subst h2
    exact ⟨nm, List.mem_filter.mpr ⟨List.mem_of_getElem? hz, rfl⟩, mj_li1_ok h3⟩
/-- calls: static [link, static, initialized], a constructor [link, instance, initialized] -/
def mj_lnk (own idx p0 : Nat) (y : MethodName) : Bool := mj_wd p0 (.methodLink (mj_cn own) idx y) || (match lw_tbl[p0]? with
  | some (.methodLinkNest o i y' _) => decide (o = mj_cn own) && decide (i = idx) && decide (y' = y)
  | _ => false)
theorem mj_lnk_ok {own idx p0 : Nat} {y : MethodName} (h : mj_lnk own idx p0 y = true) : Cond.methodLink (mj_cn own) idx y ∈ mj_tb ∨ ∃ host, Cond.methodLinkNest (mj_cn own) idx y host ∈ mj_xn := by
  unfold mj_lnk at h
  rcases Bool.or_eq_true _ _ ▸ h with h | h
  · exact Or.inl (mj_wd_in h)
  · right
    split at h <;> try (cases h; done)
    next o i y' host hz =>
      simp only [Bool.and_eq_true, decide_eq_true_eq] at h
      obtain ⟨⟨h1, h2⟩, h3⟩ := h
      subst h1
      subst h2
      subst h3
      exact ⟨host, List.mem_filter.mpr ⟨List.mem_of_getElem? hz, rfl⟩⟩
def mj_YOK (Y : mjY) : Prop := ∀ (k : Nat) (y : MethodName) (cc : ByteArray) (mL : Nat) (ret : Option FieldType), Y[k]? = some (y, cc, mL, ret) → y.name ≠ "law" → Cond.code y cc mL ret ∈ mj_tb ∧ mL ≤ 70
def mj_ls (Y : mjY) (own idx : Nat) (ps d : List Nat) : Bool := match d, ps with
  | [0, n, k], [p0, p1, p2] => match Y[k]? with
    | some (y, _, _, _) => decide (y.name ≠ "law") && mj_lnk own idx p0 y && mj_wd p1 (.static y) && mj_wd p2 (.initialized y.cls) && decide (mj_hd y n)
    | none => false
  | [6], [p0] => mj_wd p0 (.methodLink (mj_cn own) idx arraycopyName)
  | _, _ => false
def mj_lo (Y : mjY) (own idx : Nat) (ps d : List Nat) : Bool := match d, ps with
  | [2, n, k], [p0, p1, p2] => match Y[k]? with
    | some (y, _, _, none) => decide (y.name = "<init>") && mj_lnk own idx p0 y && mj_wd p1 (.instanceMethod y) && mj_wd p2 (.initialized y.cls) && decide (mj_hd y n)
    | _ => false
  | [5], [p0] => mj_wd p0 (.methodLink (mj_cn own) idx objectInit)
  | _, _ => false
theorem mj_ls_ok {Y : mjY} (hY : mj_YOK Y) {own idx : Nat} {ps d : List Nat} (h : mj_ls Y own idx ps d = true) : mj_VC Y own (.invokestatic idx) d ∧ (d = [6] → Cond.methodLink (mj_cn own) idx arraycopyName ∈ mj_tb) := by
  unfold mj_ls at h
  split at h <;> try (cases h; done)
  next n k p0 p1 p2 =>
    refine ⟨fun n' k' e => ?_, fun e => by cases e⟩
    cases e
    split at h <;> try (cases h; done)
    next y cc mL ret hy =>
      simp only [Bool.and_eq_true, decide_eq_true_eq] at h
      obtain ⟨⟨⟨⟨h0, h1⟩, h2⟩, h3⟩, h4⟩ := h
      obtain ⟨g1, g2⟩ := hY k y cc mL ret hy h0
      exact ⟨y, cc, mL, ret, hy, g1, g2, mj_lnk_ok h1, mj_wd_in h2, mj_wd_in h3, h4⟩
  next p0 =>
    exact ⟨fun n' k' e => by (cases e), fun _ => mj_wd_in h⟩
theorem mj_lo_ok {Y : mjY} (hY : mj_YOK Y) {own idx : Nat} {ps d : List Nat} (h : mj_lo Y own idx ps d = true) : mj_VC Y own (.invokespecial idx) d ∧ (d = [5] → Cond.methodLink (mj_cn own) idx objectInit ∈ mj_tb) := by
  unfold mj_lo at h
  split at h <;> try (cases h; done)
  next n k p0 p1 p2 =>
    refine ⟨fun n' k' e => ?_, fun e => by cases e⟩
    cases e
    split at h <;> try (cases h; done)
    next y cc mL hy =>
      simp only [Bool.and_eq_true, decide_eq_true_eq] at h
      obtain ⟨⟨⟨⟨h0, h1⟩, h2⟩, h3⟩, h4⟩ := h
      obtain ⟨g1, g2⟩ := hY k y cc mL none hy (by rw [h0]; decide)
      exact ⟨y, cc, mL, hy, g1, g2, mj_lnk_ok h1, mj_wd_in h2, mj_wd_in h3, h4, h0⟩
  next p0 =>
    exact ⟨fun n' k' e => by (cases e), fun _ => mj_wd_in h⟩
/-- a virtual call: the link's place, then for each tag seven places: instance, initialized, selects, same, instance of the named, code of the named -/
def mj_lv1 (Y : mjY) (x : MethodName) (n : Nat) : List Nat → List Nat → Bool
  | t :: k :: d, p1 :: p2 :: p3 :: p4 :: p5 :: p6 :: ps => (match vwCl[t - 10]?, Y[k]? with
    | some (C, _, _), some (y, _, _, _) => Nat.ble 10 t && decide (y.name ≠ "law") && mj_wd p1 (.instanceMethod y) && mj_wd p2 (.initialized y.cls) && mj_wd p3 (.selects C x y) && (decide (x = y) || (mj_wd p4 (.sameMethod x.cls x.cls x.name x.desc) && mj_wd p5 (.instanceMethod x) && (match lw_tbl[p6]? with
      | some (.code x' _ _ _) => decide (x' = x)
      | _ => false)))
    | _, _ => false) && mj_lv1 Y x n d ps
  | [], [] => true
  | _, _ => false
def mj_lvt (Y : mjY) (own idx : Nat) (ps d : List Nat) : Bool := match d, ps with
  | 1 :: n :: ts, p0 :: ps => match lw_tbl[p0]? with
    | some (.methodLink o i x) => decide (o = mj_cn own) && decide (i = idx) && decide (mj_hd x n) && mj_lv1 Y x n ts ps
    | _ => false
  | _, _ => false
theorem mj_lv1_ok {Y : mjY} (hY : mj_YOK Y) {x : MethodName} {n own i : Nat} (hx : Cond.methodLink (mj_cn own) i x ∈ mj_tb) (hn : mj_hd x n) : ∀ {d ps : List Nat}, mj_lv1 Y x n d ps = true → ∀ t k, mj_sel t d = some k → ∃ (ci : Nat) (C : String) (T : u_T) (N : Nat) (y : MethodName) (cc : ByteArray) (mL : Nat) (ret : Option FieldType), t = ci + 10 ∧ vwCl[ci]? = some (C, T, N) ∧ Y[k]? = some (y, cc, mL, ret) ∧ Cond.code y cc mL ret ∈ mj_tb ∧ mL ≤ 70 ∧ Cond.instanceMethod y ∈ mj_tb ∧ Cond.initialized y.cls ∈ mj_tb ∧ ((Cond.methodLink (mj_cn own) i y ∈ mj_tb ∧ Cond.selects C y y ∈ mj_tb ∧ mj_hd y n) ∨ ∃ (x : MethodName) (b0 : ByteArray) (m0 : Nat) (r0 : Option FieldType), Cond.methodLink (mj_cn own) i x ∈ mj_tb ∧ Cond.sameMethod x.cls x.cls x.name x.desc ∈ mj_tb ∧ Cond.instanceMethod x ∈ mj_tb ∧ Cond.code x b0 m0 r0 ∈ mj_tb ∧ Cond.selects C x y ∈ mj_tb ∧ mj_hd x n)
  | t' :: k' :: d, p1 :: p2 :: p3 :: p4 :: p5 :: p6 :: ps, h, t, k, hs => by
    unfold mj_lv1 at h
    obtain ⟨h1, h2⟩ := Bool.and_eq_true _ _ ▸ h
    unfold mj_sel at hs
    split at hs
    next hb =>
      cases hs
      have e := Nat.eq_of_beq_eq_true hb
      subst e
      split at h1 <;> try (cases h1; done)
      next C T N y cc mL ret hv hy =>
        simp only [Bool.and_eq_true, Bool.or_eq_true, decide_eq_true_eq] at h1
        obtain ⟨⟨⟨⟨⟨g1, g2⟩, g3⟩, g4⟩, g5⟩, g6⟩ := h1
        have g1 := Nat.le_of_ble_eq_true g1
        obtain ⟨q1, q2⟩ := hY _ y cc mL ret hy g2
        refine ⟨t' - 10, C, T, N, y, cc, mL, ret, by omega, hv, hy, q1, q2, mj_wd_in g3, mj_wd_in g4, ?_⟩
        rcases g6 with g6 | ⟨⟨g6, g7⟩, g8⟩
        · subst g6
          exact Or.inl ⟨hx, mj_wd_in g5, hn⟩
        · split at g8 <;> try (cases g8; done)
          next x' b0 m0 r0 hz =>
            have e9 := of_decide_eq_true g8
            subst e9
            exact Or.inr ⟨x', b0, m0, r0, hx, mj_wd_in g6, mj_wd_in g7, List.mem_filter.mpr ⟨List.mem_of_getElem? hz, rfl⟩, mj_wd_in g5, hn⟩
    next => exact mj_lv1_ok hY hx hn h2 t k hs
  | [], _, _, t, b, hs => by simp [mj_sel] at hs
  | [_], _, _, t, b, hs => by simp [mj_sel] at hs
  | _ :: _ :: _, [], h, t, b, hs => by simp [mj_lv1] at h
  | _ :: _ :: _, [_], h, t, b, hs => by simp [mj_lv1] at h
  | _ :: _ :: _, [_, _], h, t, b, hs => by simp [mj_lv1] at h
  | _ :: _ :: _, [_, _, _], h, t, b, hs => by simp [mj_lv1] at h
  | _ :: _ :: _, [_, _, _, _], h, t, b, hs => by simp [mj_lv1] at h
  | _ :: _ :: _, [_, _, _, _, _], h, t, b, hs => by simp [mj_lv1] at h
theorem mj_lvt_ok {Y : mjY} (hY : mj_YOK Y) {own idx : Nat} {ps d : List Nat} (h : mj_lvt Y own idx ps d = true) : mj_VC Y own (.invokevirtual idx) d := by
  unfold mj_lvt at h
  split at h <;> try (cases h; done)
  next n ts p0 ps' =>
    split at h <;> try (cases h; done)
    next o i x hz =>
      simp only [Bool.and_eq_true, decide_eq_true_eq] at h
      obtain ⟨⟨⟨h1, h2⟩, h3⟩, h4⟩ := h
      subst h1
      subst h2
      intro n' ts' e
      cases e
      exact mj_lv1_ok hY (List.mem_filter.mpr ⟨List.mem_of_getElem? hz, rfl⟩) h3 h4
