/-- what may have changed of the reference: places ks of its own cell, rows as -/
def Fr (ks as : List Nat) (I I' : mjI) : Prop := (∀ a, a ∉ as → a ≠ 45 → I' a = I a) ∧ ∀ k, k ∉ ks → I' 45 k = I 45 k
theorem Fr.rf (I : mjI) : Fr [] [] I I := ⟨fun _ _ _ => rfl, fun _ _ => rfl⟩
theorem Fr.tr {ks as ks' as' : List Nat} {I I' I'' : mjI} (f : Fr ks as I I') (g : Fr ks' as' I' I'') : Fr (ks ++ ks') (as ++ as') I I'' := ⟨fun a h1 h2 => (g.1 a (fun q => h1 (List.mem_append_right _ q)) h2).trans (f.1 a (fun q => h1 (List.mem_append_left _ q)) h2), fun k h => (g.2 k (fun q => h (List.mem_append_right _ q))).trans (f.2 k (fun q => h (List.mem_append_left _ q)))⟩
theorem Fr.u (I : mjI) (k : Nat) (x : Int32) : Fr [k] [] I (mj_ui I 45 k x) := ⟨fun a _ h => by simp [mj_ui, h], fun j h => by simp at h; simp [mj_ui, upd, h]⟩
theorem Fr.a (I : mjI) {a : Nat} (ha : a ≠ 45) (i : Nat) (x : Int32) : Fr [] [a] I (mj_ui I a i x) := ⟨fun b h _ => by simp at h; simp [mj_ui, h], fun j h => by simp [mj_ui, ha.symm]⟩
theorem Fr.c (I : mjI) {dst : Nat} (ha : dst ≠ 45) (src k : Nat) : Fr [] [dst] I (cpI I dst src k) := ⟨fun b h _ => by simp at h; simp [cpI, h], fun j h => by simp [cpI, ha.symm]⟩
theorem GF.fr {I I' : mjI} (g : GF I I') : Fr [19, 20] [55, 56] I I' := ⟨fun a h1 h2 => by simp at h1; exact g.1 a h2 h1.1 h1.2, fun k h => by simp at h; exact g.2 k h.1 h.2⟩
theorem Fr.w {ks as ks' as' : List Nat} {I I' : mjI} (f : Fr ks as I I') (h1 : ∀ k, k ∈ ks → k ∈ ks') (h2 : ∀ k, k ∈ as → k ∈ as') : Fr ks' as' I I' := ⟨fun a h => f.1 a (fun q => h (h2 a q)), fun k h => f.2 k (fun q => h (h1 k q))⟩
def Mpg (I : mjI) (pn : Nat) (pg : Nat → Nat) : Prop := I 45 1 = nI pn ∧ pn ≤ 50 ∧ ∀ i, i < pn → I 46 i = nI (pg i) ∧ 1 ≤ pg i ∧ pg i ≤ 126
def Mst (I : mjI) (n : Nat) (Y : Yd) (T : Nat → Nat) : Prop := RI I 53 n T ∧ TOK n Y T
def Mtr (I : mjI) (t : Nat) (tr : Nat → Nat) : Prop := I 45 15 = nI t ∧ t ≤ 60 ∧ ∀ i, i < t → I 54 i = nI (tr i) ∧ tr i < 10
abbrev Kp : Type := Option (Nat × (Nat → Nat) × (Nat → Nat))
def Mkp (I : mjI) (n : Nat) (Y : Yd) (yr : Nat) : Kp → Prop
  | none => I 45 29 = Int32.ofInt (-1) ∨ ∃ ky, I 45 30 = nI ky ∧ ky < yr
  | some (t, tr, T) => I 45 29 = nI t ∧ t ≤ 60 ∧ I 45 30 = nI yr ∧ (∀ i, i < t → I 64 i = nI (tr i) ∧ tr i < 10) ∧ RI I 63 n T ∧ TOK n Y T
def Mwt (I : mjI) (wn : Nat) (wt : Nat → Nat) : Prop := I 45 22 = nI wn ∧ wn ≤ 8 ∧ ∀ i, i < wn → I 58 i = nI (wt i) ∧ wt i < 10
def Mct (I : mjI) (yr dn : Nat) : Prop := I 45 10 = nI yr ∧ yr ≤ 1000 ∧ I 45 24 = nI dn ∧ dn ≤ 20
theorem Mpg.fr {I I' : mjI} {pn : Nat} {pg : Nat → Nat} {ks as : List Nat} (h : Mpg I pn pg) (f : Fr ks as I I') (hk : 1 ∉ ks ∧ 46 ∉ as) : Mpg I' pn pg := by
  unfold Mpg
  rw [f.2 1 hk.1, f.1 46 hk.2 (by decide)]
  exact h
theorem MY.fr {I I' : mjI} {n : Nat} {Y : Yd} {ks as : List Nat} (h : MY I n Y) (f : Fr ks as I I') (hk : 9 ∉ ks ∧ 50 ∉ as ∧ 51 ∉ as ∧ 52 ∉ as) : MY I' n Y := h.kept (f.2 9 hk.1) (f.1 50 hk.2.1 (by decide)) (f.1 51 hk.2.2.1 (by decide)) (f.1 52 hk.2.2.2 (by decide))
theorem RI.fr {I I' : mjI} {a n : Nat} {T : Nat → Nat} {ks as : List Nat} (h : RI I a n T) (f : Fr ks as I I') (ha : a ≠ 45) (hk : a ∉ as) : RI I' a n T := fun i hi => by
  rw [f.1 a hk ha]
  exact h i hi
theorem Mst.fr {I I' : mjI} {n : Nat} {Y : Yd} {T : Nat → Nat} {ks as : List Nat} (h : Mst I n Y T) (f : Fr ks as I I') (hk : 53 ∉ as) : Mst I' n Y T := ⟨h.1.fr f (by decide) hk, h.2⟩
theorem Mtr.fr {I I' : mjI} {t : Nat} {tr : Nat → Nat} {ks as : List Nat} (h : Mtr I t tr) (f : Fr ks as I I') (hk : 15 ∉ ks ∧ 54 ∉ as) : Mtr I' t tr := by
  unfold Mtr
  rw [f.2 15 hk.1, f.1 54 hk.2 (by decide)]
  exact h
theorem Mkp.fr {I I' : mjI} {n : Nat} {Y : Yd} {yr : Nat} {kp : Kp} {ks as : List Nat} (h : Mkp I n Y yr kp) (f : Fr ks as I I') (hk : 29 ∉ ks ∧ 30 ∉ ks ∧ 63 ∉ as ∧ 64 ∉ as) : Mkp I' n Y yr kp := by
  cases kp with
  | none =>
    unfold Mkp
    rw [f.2 29 hk.1, f.2 30 hk.2.1]
    exact h
  | some q =>
    obtain ⟨t, tr, T⟩ := q
    obtain ⟨h1, h2, h3, h4, h5, h6⟩ := h
    refine ⟨(f.2 29 hk.1).trans h1, h2, (f.2 30 hk.2.1).trans h3, ?_, h5.fr f (by decide) hk.2.2.1, h6⟩
    rw [f.1 64 hk.2.2.2 (by decide)]
    exact h4
theorem Mwt.fr {I I' : mjI} {wn : Nat} {wt : Nat → Nat} {ks as : List Nat} (h : Mwt I wn wt) (f : Fr ks as I I') (hk : 22 ∉ ks ∧ 58 ∉ as) : Mwt I' wn wt := by
  unfold Mwt
  rw [f.2 22 hk.1, f.1 58 hk.2 (by decide)]
  exact h
theorem Mct.fr {I I' : mjI} {yr dn : Nat} {ks as : List Nat} (h : Mct I yr dn) (f : Fr ks as I I') (hk : 10 ∉ ks ∧ 24 ∉ ks) : Mct I' yr dn := by
  unfold Mct
  rw [f.2 10 hk.1, f.2 24 hk.2]
  exact h
def MI (I : mjI) (pn : Nat) (pg : Nat → Nat) (n : Nat) (Y : Yd) (T : Nat → Nat) (t : Nat) (tr : Nat → Nat) (kp : Kp) (wn : Nat) (wt : Nat → Nat) (yr dn : Nat) : Prop := Mpg I pn pg ∧ MY I n Y ∧ Mst I n Y T ∧ Mtr I t tr ∧ Mkp I n Y yr kp ∧ Mwt I wn wt ∧ Mct I yr dn
/-- working places alone have changed -/
abbrev wk : List Nat := [2, 3, 4, 5, 19, 20]
abbrev wa' : List Nat := [47, 48, 49, 55, 56, 57, 59, 60, 61, 62]
theorem MI.work {I I' : mjI} {pn : Nat} {pg : Nat → Nat} {n : Nat} {Y : Yd} {T : Nat → Nat} {t : Nat} {tr : Nat → Nat} {kp : Kp} {wn : Nat} {wt : Nat → Nat} {yr dn : Nat} (h : MI I pn pg n Y T t tr kp wn wt yr dn) (f : Fr wk wa' I I') : MI I' pn pg n Y T t tr kp wn wt yr dn := by
  obtain ⟨h1, h2, h3, h4, h5, h6, h7⟩ := h
  exact ⟨h1.fr f (by decide), h2.fr f (by decide), h3.fr f (by decide), h4.fr f (by decide), h5.fr f (by decide), h6.fr f (by decide), h7.fr f (by decide)⟩
/-- how many trucks are in a siding -/
def cn (tr : Nat → Nat) (s : Nat) : Nat → Nat
  | 0 => 0
  | k + 1 => cn tr s k + if tr k = s then 1 else 0
theorem cn_le (tr : Nat → Nat) (s : Nat) : ∀ k, cn tr s k ≤ k
  | 0 => Nat.le_refl 0
  | k + 1 => by
    have := cn_le tr s k
    unfold cn
    split <;> omega
/-- the i-th truck of a siding, from k on, 'seen' seen already -/
def nx (tr : Nat → Nat) (s i : Nat) : Nat → Nat → Nat → Int32
  | 0, _, _ => Int32.ofInt (-1)
  | f + 1, k, e => if tr k = s then (if e = i then nI k else nx tr s i f (k + 1) (e + 1)) else nx tr s i f (k + 1) e
section MM
variable {d L : Nat} {dy : mjM} {I : mjI} {y y1 n1 w1 c y2 : Option Nat} {R : mjR} {J : mjJ} {pn : Nat} {pg : Nat → Nat} {n : Nat} {Y : Yd} {T : Nat → Nat} {t : Nat} {tr : Nat → Nat} {kp : Kp} {wn : Nat} {wt : Nat → Nat} {yr dn : Nat}
theorem MO_blank (h : MI I pn pg n Y T t tr kp wn wt yr dn) : ∃ I', mj_call mj_P (d + 1) kn_M_blank [.ref 45] (HP L dy I y y1 n1 w1 c y2 R J) (some (.int (nI pn))) (HP L dy I' y y1 n1 w1 c y2 R J) ∧ MI I' 0 pg n Y T t tr kp wn wt yr dn ∧ Fr [1] [] I I' := by
  obtain ⟨h1, h2, h3, h4, h5, h6, h7⟩ := h
  have f := Fr.u I 1 (nI 0)
  refine ⟨mj_ui I 45 1 (nI 0), ?_, ⟨⟨by simp [mj_ui, upd], by omega, fun i hi => by omega⟩, h2.fr f (by decide), h3.fr f (by decide), h4.fr f (by decide), h5.fr f (by decide), h6.fr f (by decide), h7.fr f (by decide)⟩, f⟩
  refine mj_ci rfl (Nat.le_of_ble_eq_true rfl) ?_
  refine mj_run 7 rfl trivial ?_
  rw [h1.1]
  exact mj_end rfl rfl trivial
theorem MO_clear (h : MI I pn pg n Y T t tr kp wn wt yr dn) : ∃ I', mj_call mj_P (d + 1) kn_M_clear [.ref 45] (HP L dy I y y1 n1 w1 c y2 R J) (some (.int (nI wn))) (HP L dy I' y y1 n1 w1 c y2 R J) ∧ MI I' pn pg n Y T t tr kp 0 wt yr dn ∧ Fr [22] [] I I' := by
  obtain ⟨h1, h2, h3, h4, h5, h6, h7⟩ := h
  have f := Fr.u I 22 (nI 0)
  refine ⟨mj_ui I 45 22 (nI 0), ?_, ⟨h1.fr f (by decide), h2.fr f (by decide), h3.fr f (by decide), h4.fr f (by decide), h5.fr f (by decide), ⟨by simp [mj_ui, upd], by omega, fun i hi => by omega⟩, h7.fr f (by decide)⟩, f⟩
  refine mj_ci rfl (Nat.le_of_ble_eq_true rfl) ?_
  refine mj_run 7 rfl trivial ?_
  rw [h6.1]
  exact mj_end rfl rfl trivial
theorem lN9 (x : Int32) : (lN 0 ≤ x.toInt64 ∧ x.toInt64 ≤ lN 9) ↔ (0 ≤ x.toInt ∧ x.toInt < 10) := by
  rw [Int64.le_iff_toInt_le, Int64.le_iff_toInt_le, Int32.toInt_toInt64]
  have e1 : (lN 0).toInt = 0 := rfl
  have e2 : (lN 9).toInt = 9 := rfl
  rw [e1, e2]
  omega
theorem i_nI {x : Int32} {N : Nat} (h : 0 ≤ x.toInt ∧ x.toInt < N) : ∃ j, j < N ∧ x = nI j := by
  refine ⟨x.toInt.toNat, by omega, ?_⟩
  rw [← Int32.toInt_inj, nI_toInt]
  · omega
  · have := Int32.toInt_lt x
    omega
theorem M_manyIn {s : Nat} (hs : s < 10) (h : Mtr I t tr) : mj_call mj_P (d + 1) kn_M_manyIn [.ref 45, .int (nI s)] (HP L dy I y y1 n1 w1 c y2 R J) (some (.int (nI (cn tr s t)))) (HP L dy I y y1 n1 w1 c y2 R J) := by
  obtain ⟨h1, h2, h3⟩ := h
  refine mj_ci rfl (Nat.le_of_ble_eq_true rfl) ?_
  refine mj_run 4 rfl trivial ?_
  refine dn_ind t (fun p => mj_Rd (mj_call mj_P d) kc_M_manyIn 1 (4, [some (.ref 45), some (.int (nI s)), some (.int (nI (cn tr s p))), some (.int (nI p))], [], HP L dy I y y1 n1 w1 c y2 R J) (some (.int (nI (cn tr s t)))) (HP L dy I y y1 n1 w1 c y2 R J)) ?_ ?_ 0 (by omega)
  · refine mj_run 3 rfl trivial ?_
    rw [h1]
    refine mj_brt rfl rfl (by rw [nI_leI (by omega) (by omega)]; omega) ?_
    refine mj_run 1 rfl trivial ?_
    exact mj_end rfl rfl trivial
  · intro p hp ih
    obtain ⟨g1, g2⟩ := h3 p hp
    refine mj_run 3 rfl trivial ?_
    rw [h1]
    refine mj_brf rfl rfl (by rw [nI_leI (by omega) (by omega)]; omega) ?_
    refine mj_run 6 rfl (nI_vi (by omega) (by decide)) ?_
    rw [nI_nc (by omega), g1]
    refine mj_bra rfl rfl (fun g => ?_) (fun g => ?_)
    · rw [nI_e (by omega) (by omega)] at g
      rw [show cn tr s (p + 1) = cn tr s p + 0 by simp [cn, g]] at ih
      refine mj_run 1 rfl trivial ?_
      refine mj_run 4 rfl trivial ?_
      rw [nI_add, nI_add]
      exact ih
    · rw [nI_e (by omega) (by omega)] at g
      rw [show cn tr s (p + 1) = cn tr s p + 1 by simp [cn, Classical.not_not.mp g]] at ih
      refine mj_run 2 rfl trivial ?_
      refine mj_run 4 rfl trivial ?_
      rw [nI_add, nI_add]
      exact ih
theorem MO_many (h : MI I pn pg n Y T t tr kp wn wt yr dn) (x : Int32) : mj_call mj_P (d + 2) kn_M_many [.ref 45, .int x] (HP L dy I y y1 n1 w1 c y2 R J) (some (.int (if 0 ≤ x.toInt ∧ x.toInt < 10 then nI (cn tr x.toNatClampNeg t) else Int32.ofInt (-101)))) (HP L dy I y y1 n1 w1 c y2 R J) := by
  refine mj_ci rfl (Nat.le_of_ble_eq_true rfl) ?_
  refine mj_run 4 rfl trivial ?_
  by_cases g : 0 ≤ x.toInt ∧ x.toInt < 10
  · rw [if_pos g]
    refine mj_cal rfl rfl (M_in_t ((lN9 x).mpr g)) ?_
    refine mj_brf rfl rfl (by decide) ?_
    refine mj_run 2 rfl trivial ?_
    obtain ⟨s, hs, rfl⟩ := i_nI (N := 10) g
    refine mj_cal rfl rfl (M_manyIn hs h.2.2.2.1) ?_
    rw [nI_nc (show s < 2147483648 by omega)]
    refine mj_run 1 rfl trivial ?_
    exact mj_end rfl rfl trivial
  · rw [if_neg g]
    refine mj_cal rfl rfl (M_in_f (fun q => g ((lN9 x).mp q))) ?_
    refine mj_brt rfl rfl (by decide) ?_
    refine mj_run 1 rfl trivial ?_
    exact mj_end rfl rfl trivial
end MM
