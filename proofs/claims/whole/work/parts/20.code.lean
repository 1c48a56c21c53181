abbrev mjX : Type := List (Nat × Nat × List Nat × List Nat)
def mj_lchk (Y : mjY) (own : Nat) : Nat × Nat × List Nat × List Nat → Bool
  | (0, idx, ps, d) => mj_lf own idx ps d
  | (1, idx, ps, d) => mj_lc own idx ps d
  | (2, idx, ps, d) => mj_lj own idx ps d
  | (3, idx, ps, d) => mj_ln1 own idx ps d
  | (4, idx, ps, d) => mj_li own idx ps d
  | (5, idx, ps, d) => mj_ls Y own idx ps d
  | (6, idx, ps, d) => mj_lo Y own idx ps d
  | (7, idx, ps, d) => mj_lvt Y own idx ps d
  | (8, idx, ps, _) => (match ps with
    | [p0] => mj_wd p0 (.classLink (mj_cn own) idx "PointsThrow$Point")
    | _ => false)
  | (9, idx, ps, _) => (match ps with
    | [p0] => mj_wd p0 (.classLink (mj_cn own) idx "[[I")
    | _ => false)
  | _ => false
def mj_has (X : Nat → mjX) (own kind idx : Nat) (d : List Nat) : Bool := (X own).any (fun x => x.1 == kind && x.2.1 == idx && x.2.2.2 == d)
theorem mj_has_ok {Y : mjY} {X : Nat → mjX} (hX : ∀ own, (X own).all (mj_lchk Y own) = true) {own kind idx : Nat} {d : List Nat} (h : mj_has X own kind idx d = true) : ∃ ps, mj_lchk Y own (kind, idx, ps, d) = true := by
  obtain ⟨x, hx, h1⟩ := List.any_eq_true.mp h
  simp only [Bool.and_eq_true, beq_iff_eq] at h1
  obtain ⟨⟨h1, h2⟩, h3⟩ := h1
  have h4 := List.all_eq_true.mp (hX own) x hx
  obtain ⟨a, b, ps, q⟩ := x
  simp only at h1 h2 h3
  subst h1
  subst h2
  subst h3
  exact ⟨ps, h4⟩
def mj_lkb (pc : Nat) (df : Int) (t : Nat) : List (Int × Int) → List Nat → Bool
  | [], [] => decide ((pc : Int) + df = t)
  | (a, b) :: ps, k :: q :: ts => decide (a = k) && decide (k < 2 ^ 31) && decide ((pc : Int) + b = q) && mj_lkb pc df t ps ts
  | _, _ => false
theorem mj_lkb_ok {pc : Nat} {df : Int} {t : Nat} : ∀ {ps : List (Int × Int)} {ts : List Nat}, mj_lkb pc df t ps ts = true → mj_lkc pc df t ps ts
  | [], [], h => by
    have h9 : (pc : Int) + df = t := of_decide_eq_true (show decide ((pc : Int) + df = t) = true from h)
    exact h9
  | (a, b) :: ps, k :: q :: ts, h => by
    simp only [mj_lkb, Bool.and_eq_true, decide_eq_true_eq] at h
    obtain ⟨⟨⟨h1, h2⟩, h3⟩, h4⟩ := h
    exact ⟨h1, h2, h3, mj_lkb_ok h4⟩
  | [], _ :: _, h => by simp [mj_lkb] at h
  | (_, _) :: _, [], h => by simp [mj_lkb] at h
  | (_, _) :: _, [_], h => by simp [mj_lkb] at h
def mj_c1 (d : List Nat) (v : Int32) : Bool := match d with
  | [k] => decide (v = nI k)
  | _ => true
def mj_c2 (pc : Nat) (off : Int) (d : List Nat) : Bool := match d with
  | [t] => decide ((pc : Int) + off = (t : Int))
  | _ => false
theorem mj_c1_ok {d : List Nat} {v : Int32} (h : mj_c1 d v = true) : ∀ k, d = [k] → v = nI k := fun k e => by
  subst e
  exact of_decide_eq_true h
theorem mj_c2_ok {pc : Nat} {off : Int} {d : List Nat} (h : mj_c2 pc off d = true) : ∀ t, d = [t] → (pc : Int) + off = (t : Int) := fun k e => by
  subst e
  exact of_decide_eq_true h
def mj_vd (X : Nat → mjX) (ini : Bool) (own pc : Nat) (ins : Instr) (d : List Nat) : Bool := match ins with
  | .iconst i => mj_c1 d (Int32.ofInt i)
  | .bipush i => mj_c1 d (Int8.ofInt i).toInt32
  | .sipush i => mj_c1 d (Int16.ofInt i).toInt32
  | .ldc i => mj_has X own 1 i d
  | .ldc_w i => mj_has X own 1 i d
  | .ldc2_w i => mj_has X own 2 i d
  | .iinc _ k => mj_c1 d (Int32.ofInt k)
  | .goto off => mj_c2 pc off d
  | .ifnull off => mj_c2 pc off d
  | .ifnonnull off => mj_c2 pc off d
  | .ifCond _ off => mj_c2 pc off d
  | .if_icmp _ off => mj_c2 pc off d
  | .tableswitch df lo hi offs => (match d with
    | t :: ts => decide ((pc : Int) + df = (t : Int)) && decide (ts.length = offs.size) && decide (hi = lo + offs.size - 1) && (ts.zip offs.toList).all (fun q => decide ((pc : Int) + q.2 = (q.1 : Int)))
    | _ => false)
  | .lookupswitch df ps => (match d with
    | t :: ts => (ps.toList.zip (ps.toList.drop 1)).all (fun (a, next) => a.1 < next.1) && mj_lkb pc df t ps.toList ts
    | _ => false)
  | .getfield i => mj_has X own 0 i d
  | .putfield i => mj_has X own 0 i d && mj_lp ini own d
  | .anewarray i => mj_has X own 8 i d
  | .multianewarray i k => decide (k = 2) && mj_has X own 9 i d
  | .new i => mj_has X own 3 i d
  | .instanceof i => mj_has X own 4 i d
  | .aastore => decide (d = [14, 11, 12, 18])
  | .invokestatic i => mj_has X own 5 i d
  | .invokespecial i => mj_has X own 6 i d
  | .invokevirtual i => mj_has X own 7 i d
  | _ => true
theorem mj_vd_ok {Y : mjY} {X : Nat → mjX} (hY : mj_YOK Y) (hX : ∀ own, (X own).all (mj_lchk Y own) = true) {ini : Bool} {own pc n : Nat} {ins : Instr} {d : List Nat} (h : mj_vd X ini own pc ins d = true) : mj_VD ini own pc n ins d ∧ mj_VC Y own ins d := by
  cases ins with
  | iconst i => exact ⟨mj_c1_ok h, trivial⟩
  | bipush i => exact ⟨mj_c1_ok h, trivial⟩
  | sipush i => exact ⟨mj_c1_ok h, trivial⟩
  | ldc i =>
    obtain ⟨ps, h1⟩ := mj_has_ok hX h
    exact ⟨fun v e => by subst e; exact mj_lc_ok h1, trivial⟩
  | ldc_w i =>
    obtain ⟨ps, h1⟩ := mj_has_ok hX h
    exact ⟨fun v e => by subst e; exact mj_lc_ok h1, trivial⟩
  | ldc2_w i =>
    obtain ⟨ps, h1⟩ := mj_has_ok hX h
    exact ⟨fun v e => by subst e; exact mj_lj_ok h1, trivial⟩
  | iinc i k => exact ⟨mj_c1_ok h, trivial⟩
  | goto off => exact ⟨mj_c2_ok h, trivial⟩
  | ifnull off => exact ⟨mj_c2_ok h, trivial⟩
  | ifnonnull off => exact ⟨mj_c2_ok h, trivial⟩
  | ifCond cn off => exact ⟨mj_c2_ok h, trivial⟩
  | if_icmp cn off => exact ⟨mj_c2_ok h, trivial⟩
  | tableswitch df lo hi offs =>
    refine ⟨fun t ts e => ?_, trivial⟩
    subst e
    simp only [mj_vd, Bool.and_eq_true, decide_eq_true_eq] at h
    obtain ⟨⟨⟨h1, h2⟩, h3⟩, h4⟩ := h
    refine ⟨h1, h2, h3, fun j q hj => ?_⟩
    have hlt : j < offs.size := by rw [← h2]; exact (List.getElem?_eq_some_iff.mp hj).1
    refine ⟨offs[j], by simp [hlt], ?_⟩
    have hz : (ts.zip offs.toList)[j]? = some (q, offs[j]) := by
      rw [List.getElem?_zip_eq_some]
      exact ⟨hj, by simp [hlt]⟩
    have h9 := List.all_eq_true.mp h4 _ (List.mem_of_getElem? hz)
    simpa using h9
  | lookupswitch df ps =>
    refine ⟨fun t ts e => ?_, trivial⟩
    subst e
    simp only [mj_vd, Bool.and_eq_true] at h
    exact ⟨h.1, mj_lkb_ok h.2⟩
  | getfield i =>
    obtain ⟨ps, h1⟩ := mj_has_ok hX h
    exact ⟨fun k ty cs e => by subst e; exact mj_lf_ok h1, trivial⟩
  | putfield i =>
    simp only [mj_vd, Bool.and_eq_true] at h
    obtain ⟨ps, h1⟩ := mj_has_ok hX h.1
    exact ⟨fun k ty cs e => by subst e; exact mj_lp_ok h1 h.2, trivial⟩
  | anewarray i =>
    obtain ⟨ps, h1⟩ := mj_has_ok hX h
    simp only [mj_lchk] at h1
    split at h1 <;> try (cases h1; done)
    exact ⟨mj_wd_in h1, trivial⟩
  | multianewarray i k =>
    simp only [mj_vd, Bool.and_eq_true, decide_eq_true_eq] at h
    obtain ⟨ps, h1⟩ := mj_has_ok hX h.2
    simp only [mj_lchk] at h1
    split at h1 <;> try (cases h1; done)
    exact ⟨⟨h.1, mj_wd_in h1⟩, trivial⟩
  | new i =>
    obtain ⟨ps, h1⟩ := mj_has_ok hX h
    exact ⟨fun t k e => by subst e; exact mj_ln1_ok h1, trivial⟩
  | instanceof i =>
    obtain ⟨ps, h1⟩ := mj_has_ok hX h
    exact ⟨mj_li_ok h1, trivial⟩
  | aastore =>
    have h9 : d = [14, 11, 12, 18] := of_decide_eq_true (show decide (d = [14, 11, 12, 18]) = true from h)
    exact ⟨h9, trivial⟩
  | invokestatic i =>
    obtain ⟨ps, h1⟩ := mj_has_ok hX h
    obtain ⟨g1, g2⟩ := mj_ls_ok hY h1
    exact ⟨g2, g1⟩
  | invokespecial i =>
    obtain ⟨ps, h1⟩ := mj_has_ok hX h
    obtain ⟨g1, g2⟩ := mj_lo_ok hY h1
    exact ⟨g2, g1⟩
  | invokevirtual i =>
    obtain ⟨ps, h1⟩ := mj_has_ok hX h
    exact ⟨trivial, mj_lvt_ok hY h1⟩
  | _ => exact ⟨trivial, trivial⟩
def mj_ve (X : Nat → mjX) (ini : Bool) (own : Nat) (cc : ByteArray) (pc : Nat) (en : mjE) : Bool := (match decode cc pc with
  | .ok (i, k) => decide (i = en.1) && (mj_isw en.1 || (decide (k = mj_ln en.1) && decide (en.2.1 = pc + mj_ln en.1)))
  | _ => false) && mj_vd X ini own pc en.1 en.2.2
def mj_vc (X : Nat → mjX) (ini : Bool) (own : Nat) (cc : ByteArray) : Nat → List (Option mjE) → Bool
  | _, [] => true
  | pc, none :: xs => mj_vc X ini own cc (pc + 1) xs
  | pc, some e :: xs => mj_ve X ini own cc pc e && mj_vc X ini own cc (pc + 1) xs
theorem mj_ve_ok {Y : mjY} {X : Nat → mjX} (hY : mj_YOK Y) (hX : ∀ own, (X own).all (mj_lchk Y own) = true) {ini : Bool} {own : Nat} {cc : ByteArray} {pc : Nat} {en : mjE} (h : mj_ve X ini own cc pc en = true) : mj_VE ini own cc pc en ∧ mj_VC Y own en.1 en.2.2 := by
  obtain ⟨h1, h2⟩ := Bool.and_eq_true _ _ ▸ h
  obtain ⟨g1, g2⟩ := mj_vd_ok hY hX (n := en.2.1) h2
  refine ⟨⟨?_, g1⟩, g2⟩
  split at h1 <;> try (cases h1; done)
  next i k hd =>
    simp only [Bool.and_eq_true, Bool.or_eq_true, decide_eq_true_eq] at h1
    obtain ⟨e1, e2⟩ := h1
    subst e1
    refine ⟨k, hd, fun hw => ?_⟩
    rcases e2 with e2 | e2
    · rw [hw] at e2; cases e2
    · exact e2
theorem mj_vc_ok {Y : mjY} {X : Nat → mjX} (hY : mj_YOK Y) (hX : ∀ own, (X own).all (mj_lchk Y own) = true) {ini : Bool} {own : Nat} {cc : ByteArray} : ∀ (pc : Nat) (cd : List (Option mjE)), mj_vc X ini own cc pc cd = true → ∀ i en, mj_at i cd = some en → mj_VE ini own cc (pc + i) en ∧ mj_VC Y own en.1 en.2.2
  | _, [], _, i, en, h => by simp [mj_at] at h
  | pc, none :: xs, hv, i, en, h => by
    cases i with
    | zero => simp [mj_at] at h
    | succ i =>
      have := mj_vc_ok hY hX (pc + 1) xs hv i en h
      rwa [show pc + 1 + i = pc + (i + 1) by omega] at this
  | pc, some e :: xs, hv, i, en, h => by
    obtain ⟨h1, h2⟩ := Bool.and_eq_true _ _ ▸ hv
    cases i with
    | zero =>
      have e9 : e = en := by simpa [mj_at] using h
      subst e9
      exact mj_ve_ok hY hX h1
    | succ i =>
      have := mj_vc_ok hY hX (pc + 1) xs h2 i en h
      rwa [show pc + 1 + i = pc + (i + 1) by omega] at this
/-- one method -/
def mj_vm (X : Nat → mjX) (P : List mjT) (Y : mjY) (k : Nat) : Bool := match P[k]?, Y[k]? with
  | some (own, mL, rt, cd), some (y, cc, mL', ret) => plainFor y && decide (y.cls = mj_cn own) && decide (mL = mL') && mj_rok rt ret && mj_vc X (y.name == "<init>") own cc 0 cd
  | none, _ => true
  | _, _ => false
theorem mj_vm_ok {Y : mjY} {X : Nat → mjX} {P : List mjT} (hY : mj_YOK Y) (hX : ∀ own, (X own).all (mj_lchk Y own) = true) (h : ∀ k, k < P.length → mj_vm X P Y k = true) : mj_VPg P Y := by
  intro k t ht
  have hk := h k (List.getElem?_eq_some_iff.mp ht).1
  unfold mj_vm at hk
  rw [ht] at hk
  obtain ⟨own, mL, rt, cd⟩ := t
  split at hk
  · next own' mL' rt' cd' y cc mL2 ret e1 e2 =>
      cases e1
      simp only [Bool.and_eq_true, decide_eq_true_eq] at hk
      obtain ⟨⟨⟨⟨h1, h2⟩, h3⟩, h4⟩, h5⟩ := hk
      subst h3
      refine ⟨y, cc, ret, e2, h1, h2, h4, fun pc en hat => ?_⟩
      have := mj_vc_ok hY hX 0 cd h5 pc en hat
      rwa [Nat.zero_add] at this
  · next e1 => cases e1
  · cases hk
