/-! ===== the class's state ===== -/
def Cpg (I : mjI) (pn : Nat) (pg : Nat → Nat) : Prop := I 2 1 = nI pn ∧ ∀ i, i < pn → I 3 i = nI (pg i)
def Cyd (m : mjM) (I : mjI) (R : mjR) (y : Option Nat) (n : Nat) (Y : Yd) : Prop := (n = 0 ∧ y = none) ∨ ∃ (ya : Nat) (A B C : Nat → Nat) (ol : Nat) (od : Nat → Nat), y = some ya ∧ CY m I R ya A B C n ol od Y
def Ctr (I : mjI) (t : Nat) (tr : Nat → Nat) : Prop := I 4 2 = nI t ∧ ∀ i, i < t → I 6 i = nI (tr i)
def Ckp (I : mjI) (n : Nat) : Kp → Prop
  | none => I 1 11 = nI 0
  | some (t, tr, T) => I 1 11 = nI 1 ∧ I 7 2 = nI t ∧ (∀ i, i < t → I 9 i = nI (tr i)) ∧ RI I 8 n T
def Cwt (I : mjI) (wn : Nat) (wt : Nat → Nat) : Prop := I 1 12 = nI wn ∧ ∀ i, i < wn → I 42 i = nI (wt i)
def Cct (I : mjI) (yr dn : Nat) : Prop := I 1 13 = nI yr ∧ I 1 14 = nI dn
def CI (m : mjM) (I : mjI) (R : mjR) (y : Option Nat) (pn : Nat) (pg : Nat → Nat) (n : Nat) (Y : Yd) (T : Nat → Nat) (t : Nat) (tr : Nat → Nat) (kp : Kp) (wn : Nat) (wt : Nat → Nat) (yr dn : Nat) : Prop := Cpg I pn pg ∧ Cyd m I R y n Y ∧ RI I 5 n T ∧ Ctr I t tr ∧ Ckp I n kp ∧ Cwt I wn wt ∧ Cct I yr dn
def AB (pn : Nat) (pg : Nat → Nat) (n : Nat) (Y : Yd) (T : Nat → Nat) (t : Nat) (tr : Nat → Nat) (kp : Kp) (wn : Nat) (wt : Nat → Nat) (yr dn : Nat) : Prop := (pn ≤ 50 ∧ ∀ i, i < pn → 1 ≤ pg i ∧ pg i ≤ 126) ∧ YOK n Y ∧ TOK n Y T ∧ (t ≤ 60 ∧ ∀ i, i < t → tr i < 10) ∧ (∀ q, kp = some q → q.1 ≤ 60 ∧ (∀ i, i < q.1 → q.2.1 i < 10) ∧ TOK n Y q.2.2) ∧ (wn ≤ 8 ∧ ∀ i, i < wn → wt i < 10) ∧ yr ≤ 1000 ∧ dn ≤ 20
/-- what isn't the class's is as it was -/
def KM (I I' : mjI) : Prop := ∀ a, a = 0 ∨ (45 ≤ a ∧ a < 65) → I' a = I a
section ST
variable {m m' : mjM} {I I' I'' : mjI} {R R' : mjR} {y : Option Nat} {pn : Nat} {pg : Nat → Nat} {n : Nat} {Y : Yd} {T : Nat → Nat} {t : Nat} {tr : Nat → Nat} {kp : Kp} {wn : Nat} {wt : Nat → Nat} {yr dn : Nat} {as : List Nat}
theorem MI.ab (h : MI I pn pg n Y T t tr kp wn wt yr dn) : AB pn pg n Y T t tr kp wn wt yr dn := by
  obtain ⟨h1, h2, h3, h4, h5, h6, h7⟩ := h
  refine ⟨⟨h1.2.1, fun i hi => (h1.2.2 i hi).2⟩, h2.2.1, h3.2, ⟨h4.2.1, fun i hi => (h4.2.2 i hi).2⟩, fun q hq => ?_, ⟨h6.2.1, fun i hi => (h6.2.2 i hi).2⟩, h7.2.1, h7.2.2.2⟩
  subst hq
  obtain ⟨a, b, c⟩ := q
  exact ⟨h5.2.1, fun i hi => (h5.2.2.2.1 i hi).2, h5.2.2.2.2.2⟩
theorem KM.rf (I : mjI) : KM I I := fun _ _ => rfl
theorem KM.th (f : KM I I') (g : KM I' I'') : KM I I'' := fun a h => (g a h).trans (f a h)
theorem Cf.km (f : Cf as I I') (h : ∀ a, a ∈ as → 1 ≤ a ∧ (a < 45 ∨ 65 ≤ a)) : KM I I' := fun a ha => f a (fun q => by have := h a q; omega)
theorem Cpg.fr (h : Cpg I pn pg) (f : Cf as I I') (ha : 2 ∉ as ∧ 3 ∉ as) : Cpg I' pn pg := by
  unfold Cpg
  rw [f 2 ha.1, f 3 ha.2]
  exact h
theorem Ctr.fr (h : Ctr I t tr) (f : Cf as I I') (ha : 4 ∉ as ∧ 6 ∉ as) : Ctr I' t tr := by
  unfold Ctr
  rw [f 4 ha.1, f 6 ha.2]
  exact h
theorem Ckp.fr (h : Ckp I n kp) (f : Cf as I I') (ha : 1 ∉ as ∧ 7 ∉ as ∧ 8 ∉ as ∧ 9 ∉ as) : Ckp I' n kp := by
  cases kp with
  | none =>
    unfold Ckp at h ⊢
    rw [f 1 ha.1]
    exact h
  | some q =>
    obtain ⟨a, b, c⟩ := q
    unfold Ckp RI at h ⊢
    rw [f 1 ha.1, f 7 ha.2.1, f 8 ha.2.2.1, f 9 ha.2.2.2]
    exact h
theorem Cwt.fr (h : Cwt I wn wt) (f : Cf as I I') (ha : 1 ∉ as ∧ 42 ∉ as) : Cwt I' wn wt := by
  unfold Cwt
  rw [f 1 ha.1, f 42 ha.2]
  exact h
theorem Cct.fr (h : Cct I yr dn) (f : Cf as I I') (ha : 1 ∉ as) : Cct I' yr dn := by
  unfold Cct
  rw [f 1 ha]
  exact h
theorem RI.cf {a : Nat} (h : RI I a n T) (f : Cf as I I') (ha : a ∉ as) : RI I' a n T := fun i hi => by
  rw [f a ha]
  exact h i hi
theorem Cyd.fr (h : Cyd m I R y n Y) (f : Cf as I I') (ha : ∀ a, a ∈ as → a < 65) : Cyd m I' R y n Y := by
  rcases h with h | ⟨ya, A, B, C, ol, od, h1, h2⟩
  · exact Or.inl h
  · exact Or.inr ⟨ya, A, B, C, ol, od, h1, h2.fr (fun a h65 _ => f a (fun q => by have := ha a q; omega))⟩
theorem CI.fr (h : CI m I R y pn pg n Y T t tr kp wn wt yr dn) (f : Cf as I I') (ha : ∀ a, a ∈ as → 10 ≤ a ∧ a ≠ 42 ∧ a < 65) : CI m I' R y pn pg n Y T t tr kp wn wt yr dn := by
  obtain ⟨h1, h2, h3, h4, h5, h6, h7⟩ := h
  have no : ∀ a, a < 10 ∨ a = 42 → a ∉ as := fun a q r => by have := ha a r; omega
  exact ⟨h1.fr f ⟨no _ (by omega), no _ (by omega)⟩, h2.fr f (fun a q => (ha a q).2.2), h3.cf f (no _ (by omega)), h4.fr f ⟨no _ (by omega), no _ (by omega)⟩, h5.fr f ⟨no _ (by omega), no _ (by omega), no _ (by omega), no _ (by omega)⟩, h6.fr f ⟨no _ (by omega), no _ (by omega)⟩, h7.fr f (no _ (by omega))⟩
/-- what the reference did leaves the class as it was -/
theorem CI.ref {ks : List Nat} (h : CI m I R y pn pg n Y T t tr kp wn wt yr dn) (f : Fr ks as I I') (ha : ∀ a, a ∈ as → 45 ≤ a ∧ a < 65) : CI m I' R y pn pg n Y T t tr kp wn wt yr dn := by
  refine h.fr (as := 45 :: as) (fun a q => ?_) (fun a q => ?_)
  · simp at q
    exact f.1 a q.2 q.1
  · simp at q
    rcases q with q | q
    · omega
    · have := ha a q
      omega
theorem MI.km (h : MI I pn pg n Y T t tr kp wn wt yr dn) (f : KM I I') : MI I' pn pg n Y T t tr kp wn wt yr dn := by
  have e : ∀ a, 45 ≤ a → a < 65 → I' a = I a := fun a h1 h2 => f a (Or.inr ⟨h1, h2⟩)
  obtain ⟨h1, h2, h3, h4, h5, h6, h7⟩ := h
  refine ⟨?_, ?_, ?_, ?_, ?_, ?_, ?_⟩
  · unfold Mpg; rw [e 45 (by omega) (by omega), e 46 (by omega) (by omega)]; exact h1
  · exact h2.kept (by rw [e 45 (by omega) (by omega)]) (e 50 (by omega) (by omega)) (e 51 (by omega) (by omega)) (e 52 (by omega) (by omega))
  · unfold Mst RI; rw [e 53 (by omega) (by omega)]; exact h3
  · unfold Mtr; rw [e 45 (by omega) (by omega), e 54 (by omega) (by omega)]; exact h4
  · cases kp with
    | none => unfold Mkp at h5 ⊢; rw [e 45 (by omega) (by omega)]; exact h5
    | some q =>
      obtain ⟨a, b, c⟩ := q
      unfold Mkp RI at h5 ⊢
      rw [e 45 (by omega) (by omega), e 63 (by omega) (by omega), e 64 (by omega) (by omega)]
      exact h5
  · unfold Mwt; rw [e 45 (by omega) (by omega), e 58 (by omega) (by omega)]; exact h6
  · unfold Mct; rw [e 45 (by omega) (by omega)]; exact h7
end ST
section SX
variable {K : mjK} {cd : List (Option mjE)} {rt : Nat} {v : Option Value} {h : mjH} {pc ix n a k t q : Nat} {cs : List Nat} {ls : List (Option Value)} {st : List Value} {m : mjM} {I : mjI} {R : mjR} {J : mjJ}
theorem sx_in1 (he : mj_at pc cd = some (.instanceof ix, n, cs)) (hm : mj_mt a m = some (t, q)) (ha : mj_sel t cs = some 1) (kk : mj_Rd K cd rt (n, ls, .int (nI 1) :: st, m, I, R, J) v h) : mj_Rd K cd rt (pc, ls, .ref a :: st, m, I, R, J) v h :=
  mj_one (o := none) (e := (.instanceof ix, n, cs)) he (by simp only [mj_step, mj_inst, hm, ha]) trivial kk
theorem sx_in0 (he : mj_at pc cd = some (.instanceof ix, n, cs)) (hm : mj_mt a m = some (t, q)) (ha : mj_sel t cs = some 0) (kk : mj_Rd K cd rt (n, ls, .int (nI 0) :: st, m, I, R, J) v h) : mj_Rd K cd rt (pc, ls, .ref a :: st, m, I, R, J) v h :=
  mj_one (o := none) (e := (.instanceof ix, n, cs)) he (by simp only [mj_step, mj_inst, hm, ha]) trivial kk
end SX
section CC
variable {d L : Nat} {dy : mjM} {I : mjI} {y y1 n1 w1 c y2 : Option Nat} {R : mjR} {J : mjJ} {pn : Nat} {pg : Nat → Nat} {n : Nat} {Y : Yd} {T : Nat → Nat} {t : Nat} {tr : Nat → Nat} {kp : Kp} {wn : Nat} {wt : Nat → Nat} {yr dn : Nat}
theorem T_isPoint (h : Cyd (FM L dy) I (FR y y1 n1 w1 c y2 R) y n Y) (x : Int32) : mj_call mj_P (d + 1) kn_T_isPoint [.ref 1, .int x] (HP L dy I y y1 n1 w1 c y2 R J) (some (.int (nI (if 0 ≤ x.toInt ∧ x.toInt < n then 1 else 0)))) (HP L dy I y y1 n1 w1 c y2 R J) := by
  rcases h with ⟨hn, rfl⟩ | ⟨ya, A, B, C, ol, od, rfl, hY⟩
  · subst hn
    rw [if_neg (by omega)]
    refine mj_ci rfl (Nat.le_of_ble_eq_true rfl) ?_
    refine mj_run 4 rfl trivial ?_
    exact mj_end rfl rfl (Or.inl rfl)
  · have hn10 := hY.1.1.1
    refine mj_ci rfl (Nat.le_of_ble_eq_true rfl) ?_
    refine mj_run 4 rfl trivial ?_
    refine mj_bra rfl rfl (fun g => ?_) (fun g => ?_)
    · rw [ii_lt, show (0 : Int32).toInt = 0 from rfl] at g
      rw [if_neg (by omega)]
      refine mj_run 1 rfl trivial ?_
      exact mj_end rfl rfl (Or.inl rfl)
    · rw [ii_lt, show (0 : Int32).toInt = 0 from rfl] at g
      refine mj_run 3 rfl trivial ?_
      refine sx_gi rfl hY.2.2.1.1 rfl ?_
      rw [hY.2.2.2.2.2.1]
      refine mj_bra rfl rfl (fun g2 => ?_) (fun g2 => ?_)
      · rw [ii_le, nI_toInt (by omega)] at g2
        rw [if_neg (by omega)]
        refine mj_run 1 rfl trivial ?_
        exact mj_end rfl rfl (Or.inl rfl)
      · rw [ii_le, nI_toInt (by omega)] at g2
        rw [if_pos (by omega)]
        refine mj_run 2 rfl trivial ?_
        exact mj_end rfl rfl (Or.inr rfl)
theorem T_isSiding (h : mjH) (x : Int32) : mj_call mj_P (d + 1) kn_T_isSiding [.int x] h (some (.int (nI (if 0 ≤ x.toInt ∧ x.toInt < 10 then 1 else 0)))) h := by
  refine mj_ci rfl (Nat.le_of_ble_eq_true rfl) ?_
  refine mj_run 1 rfl trivial ?_
  refine mj_bra rfl rfl (fun g => ?_) (fun g => ?_)
  · rw [ii_lt, show (0 : Int32).toInt = 0 from rfl] at g
    rw [if_neg (by omega)]
    refine mj_run 1 rfl trivial ?_
    exact mj_end rfl rfl (Or.inl rfl)
  · rw [ii_lt, show (0 : Int32).toInt = 0 from rfl] at g
    refine mj_run 2 rfl trivial ?_
    refine mj_bra rfl rfl (fun g2 => ?_) (fun g2 => ?_)
    · rw [ii_le, show (nI 10).toInt = 10 from rfl] at g2
      rw [if_neg (by omega)]
      refine mj_run 1 rfl trivial ?_
      exact mj_end rfl rfl (Or.inl rfl)
    · rw [ii_le, show (nI 10).toInt = 10 from rfl] at g2
      rw [if_pos (by omega)]
      refine mj_run 2 rfl trivial ?_
      exact mj_end rfl rfl (Or.inr rfl)
theorem c_fill {m : mjM} {R : mjR} {a N : Nat} {x : Int32} (hm : mj_mt a m = some (0, N)) (h0 : 0 < a) (hN : N < 100000) : mj_call mj_P (d + 1) kn_Ar_fill [.ref a, .int x] (m, I, R, J) none (m, mj_row I a (fun i => if i < N then x else I a i), R, J) := by
  refine mj_ci rfl (Nat.le_of_ble_eq_true rfl) ?_
  refine mj_run 3 rfl trivial ?_
  refine sx_ln rfl hm rfl ?_
  refine mj_run 1 rfl trivial ?_
  have key := dn_ind N (fun p => mj_Rd (mj_call mj_P d) kc_Ar_fill 0 (5, [some (.ref a), some (.int x), some (.int (nI p)), some (.int (nI N))], [], m, mj_row I a (fun i => if i < p then x else I a i), R, J) none (m, mj_row I a (fun i => if i < N then x else I a i), R, J)) ?_ ?_ 0 (by omega)
  · have e : mj_row I a (fun i => if i < 0 then x else I a i) = I := by
      funext b
      by_cases e : b = a
      · subst e; funext i; simp [mj_row]
      · simp [mj_row, e]
    rw [e] at key
    exact key
  · refine mj_run 2 rfl trivial ?_
    refine mj_brt rfl rfl (by rw [nI_leI (by omega) (by omega)]; omega) ?_
    exact mj_end rfl rfl trivial
  · intro p hp ih
    refine mj_run 2 rfl trivial ?_
    refine mj_brf rfl rfl (by rw [nI_leI (by omega) (by omega)]; omega) ?_
    refine mj_run 3 rfl trivial ?_
    refine sx_st rfl hm (nI_vi hp (by omega)) h0 ?_
    refine mj_run 2 rfl trivial ?_
    rw [nI_nc (by omega), nI_add]
    have e : mj_ui (mj_row I a (fun i => if i < p then x else I a i)) a p x = mj_row I a (fun i => if i < p + 1 then x else I a i) := by
      funext b
      by_cases e : b = a
      · subst e
        funext i
        by_cases e2 : i = p
        · simp [mj_ui, mj_row, upd, e2]
        · by_cases e3 : i < p
          · simp [mj_ui, mj_row, upd, e2, e3, show i < p + 1 by omega]
          · simp [mj_ui, mj_row, upd, e2, e3, show ¬ i < p + 1 by omega]
      · simp [mj_ui, mj_row, e]
    rw [e]
    exact ih
end CC
