/-! codes, once more: units -/
def uf (Y : Yd) (n : Nat) : Nat → Nat
  | 0 => 1
  | j + 1 => uf Y n j * sm Y (n - 1 - j)
def lo (Y : Yd) (n : Nat) (U : Nat → Nat) : Nat → Nat
  | 0 => 0
  | j + 1 => lo Y n U j + U (n - 1 - j) * uf Y n j
theorem lf_uf (Y : Yd) (n cd : Nat) : ∀ j, lf Y n cd j = cd / uf Y n j
  | 0 => by simp [lf, uf]
  | j + 1 => by
    unfold lf uf
    rw [lf_uf Y n cd j, Nat.div_div_eq_div_mul]
theorem ds_uf (Y : Yd) (n cd p : Nat) : ds Y n cd p = cd / uf Y n (n - 1 - p) % sm Y p := by
  unfold ds
  rw [lf_uf]
theorem uf_pos {n : Nat} {Y : Yd} (h : YOK n Y) : ∀ j, j ≤ n → 1 ≤ uf Y n j
  | 0, _ => Nat.le_refl _
  | j + 1, hj => by
    have h1 := uf_pos h j (by omega)
    have h2 := (sm_in h (show n - 1 - j < n by omega)).1
    unfold uf
    have := Nat.mul_le_mul h1 h2
    omega
theorem pd_uf {n : Nat} {Y : Yd} : ∀ j, j ≤ n → pd Y (n - j) * uf Y n j = pd Y n
  | 0, _ => by simp [uf]
  | j + 1, hj => by
    have ih := pd_uf (Y := Y) j (show j ≤ n by omega)
    rw [show n - j = n - (j + 1) + 1 by omega] at ih
    unfold pd at ih
    unfold uf
    rw [show n - 1 - j = n - (j + 1) by omega, Nat.mul_comm (uf Y n j), ← Nat.mul_assoc]
    cases hz : n with
    | zero => omega
    | succ m =>
      rw [hz] at ih
      exact ih
theorem en_lo {n : Nat} {Y : Yd} (U : Nat → Nat) : ∀ j, j ≤ n → en Y U n = en Y U (n - j) * uf Y n j + lo Y n U j
  | 0, _ => by simp [uf, lo]
  | j + 1, hj => by
    have ih := en_lo (Y := Y) U j (show j ≤ n by omega)
    rw [ih, show n - j = n - (j + 1) + 1 by omega]
    rw [show en Y U (n - (j + 1) + 1) = en Y U (n - (j + 1)) * sm Y (n - (j + 1)) + U (n - (j + 1)) from rfl]
    rw [show uf Y n (j + 1) = uf Y n j * sm Y (n - 1 - j) from rfl, show lo Y n U (j + 1) = lo Y n U j + U (n - 1 - j) * uf Y n j from rfl]
    rw [show n - 1 - j = n - (j + 1) by omega, Nat.add_mul, Nat.mul_assoc, Nat.mul_comm (sm Y _) (uf Y n j)]
    omega
theorem lo_lt {n : Nat} {Y : Yd} {U : Nat → Nat} (h : YOK n Y) (hU : TOK n Y U) : ∀ j, j ≤ n → lo Y n U j < uf Y n j
  | 0, _ => by simp [lo, uf]
  | j + 1, hj => by
    have ih := lo_lt h hU j (by omega)
    have hu := hU (n - 1 - j) (by omega)
    show lo Y n U j + U (n - 1 - j) * uf Y n j < uf Y n j * sm Y (n - 1 - j)
    have : (U (n - 1 - j) + 1) * uf Y n j ≤ sm Y (n - 1 - j) * uf Y n j := Nat.mul_le_mul_right _ hu
    rw [Nat.add_mul, Nat.one_mul] at this
    rw [Nat.mul_comm (uf Y n j)]
    omega
theorem en_cg {Y : Yd} {U U' : Nat → Nat} : ∀ k, (∀ p, p < k → U p = U' p) → en Y U k = en Y U' k
  | 0, _ => rfl
  | k + 1, h => by
    unfold en
    rw [en_cg k (fun p hp => h p (by omega)), h k (by omega)]
theorem lo_cg {Y : Yd} {n : Nat} {U U' : Nat → Nat} : ∀ j, j ≤ n → (∀ p, n - j ≤ p → p < n → U p = U' p) → lo Y n U j = lo Y n U' j
  | 0, _, _ => rfl
  | j + 1, hj, h => by
    unfold lo
    rw [lo_cg j (by omega) (fun p hp hp2 => h p (by omega) hp2), h (n - 1 - j) (by omega) (by omega)]
theorem en_at {n : Nat} {Y : Yd} (U : Nat → Nat) {p : Nat} (hp : p < n) : en Y U n = (en Y U p * sm Y p + U p) * uf Y n (n - 1 - p) + lo Y n U (n - 1 - p) := by
  have := en_lo (Y := Y) U (n - 1 - p) (show n - 1 - p ≤ n by omega)
  rw [show n - (n - 1 - p) = p + 1 by omega] at this
  exact this
theorem ds_en {n : Nat} {Y : Yd} (h : YOK n Y) {U : Nat → Nat} (hU : TOK n Y U) {p : Nat} (hp : p < n) : ds Y n (en Y U n) p = U p := by
  have hup := uf_pos h (n - 1 - p) (by omega)
  have hl := lo_lt h hU (n - 1 - p) (by omega)
  rw [ds_uf, en_at U hp, Nat.add_comm, Nat.add_mul_div_right _ _ (by omega), Nat.div_eq_of_lt hl, Nat.zero_add, Nat.add_comm, Nat.add_mul_mod_self_right, Nat.mod_eq_of_lt (hU p hp)]
theorem en_ds {n : Nat} {Y : Yd} : ∀ k, k ≤ n → ∀ cd, en Y (ds Y n cd) k = cd / uf Y n (n - k) % pd Y k
  | 0, _, cd => by simp [en, pd, Nat.mod_one]
  | k + 1, hk, cd => by
    have ih := en_ds (n := n) (Y := Y) k (by omega) cd
    show en Y (ds Y n cd) k * sm Y k + ds Y n cd k = cd / uf Y n (n - (k + 1)) % (pd Y k * sm Y k)
    rw [ih, ds_uf, show n - k = n - (k + 1) + 1 by omega]
    rw [show uf Y n (n - (k + 1) + 1) = uf Y n (n - (k + 1)) * sm Y (n - 1 - (n - (k + 1))) from rfl, show n - 1 - (n - (k + 1)) = k by omega, show n - 1 - k = n - (k + 1) by omega]
    rw [← Nat.div_div_eq_div_mul, Nat.mul_comm (pd Y k), Nat.mod_mul]
    rw [Nat.mul_comm]
    omega
theorem en_dsn {n : Nat} {Y : Yd} {cd : Nat} (hc : cd < pd Y n) : en Y (ds Y n cd) n = cd := by
  rw [en_ds n (Nat.le_refl n), Nat.sub_self]
  simp [uf, Nat.mod_eq_of_lt hc]
theorem en_lt {n : Nat} {Y : Yd} {U : Nat → Nat} (hU : TOK n Y U) : ∀ k, k ≤ n → en Y U k < pd Y k
  | 0, _ => by simp [en, pd]
  | k + 1, hk => by
    have ih := en_lt hU k (by omega)
    have hu := hU k (by omega)
    unfold en pd
    have : (en Y U k + 1) * sm Y k ≤ pd Y k * sm Y k := Nat.mul_le_mul_right _ ih
    rw [Nat.add_mul] at this
    omega
theorem en_fu {n : Nat} {Y : Yd} (U : Nat → Nat) {p : Nat} (hp : p < n) (s : Nat) : en Y (fu U p s) n = en Y (fu U p 0) n + s * uf Y n (n - 1 - p) := by
  rw [en_at (fu U p s) hp, en_at (fu U p 0) hp]
  have e1 : en Y (fu U p s) p = en Y (fu U p 0) p := en_cg p (fun q hq => by simp [fu, show q ≠ p by omega])
  have e2 : lo Y n (fu U p s) (n - 1 - p) = lo Y n (fu U p 0) (n - 1 - p) := lo_cg _ (by omega) (fun q h1 h2 => by simp [fu, show q ≠ p by omega])
  rw [e1, e2]
  simp only [fu, ↓reduceIte, Nat.add_mul, Nat.add_zero, Nat.zero_mul]
  omega
/-! trucks look at the switches of the yard alone -/
theorem ro_cg {n : Nat} {Y : Yd} {q : Option Nat} (h : YOK n Y) : ∀ (k : Nat) (a m : Nat) (U U' : Nat → Nat), a < 10 + n → TOK n Y U → (∀ p, p < n → U p = U' p) → (ro Y q k (a, U, m)).1 = (ro Y q k (a, U', m)).1 ∧ (∀ p, p < n → (ro Y q k (a, U, m)).2.1 p = (ro Y q k (a, U', m)).2.1 p) ∧ (ro Y q k (a, U, m)).2.2 = (ro Y q k (a, U', m)).2.2
  | 0, a, m, U, U', _, _, he => ⟨rfl, he, rfl⟩
  | k + 1, a, m, U, U', ha, hU, he => by
    unfold ro
    by_cases g : a < 10
    · rw [if_pos g, if_pos g]
      exact ⟨rfl, he, rfl⟩
    · rw [if_neg g, if_neg g]
      obtain ⟨g1, g2⟩ := mv_ok (q := q) (s := (a, U, m)) h g ha hU
      have e1 : U (a - 10) = U' (a - 10) := he _ (by omega)
      have := ro_cg (q := q) h k (mv Y q (a, U, m)).1 (m + 1) (mv Y q (a, U, m)).2.1 (mv Y q (a, U', m)).2.1 g1 g2 (fun p hp => by
        simp only [mv, fu]
        rw [e1, he p hp])
      rw [show mv Y q (a, U', m) = ((mv Y q (a, U, m)).1, (mv Y q (a, U', m)).2.1, m + 1) by simp only [mv]; rw [e1]]
      exact this
theorem gt_cg {n : Nat} {Y : Yd} {q : Option Nat} (h : YOK n Y) (hn : 1 ≤ n) {U U' : Nat → Nat} (hU : TOK n Y U) (he : ∀ p, p < n → U p = U' p) : (gt Y q U).1 = (gt Y q U').1 ∧ (∀ p, p < n → (gt Y q U).2.1 p = (gt Y q U').2.1 p) ∧ (gt Y q U).2.2 = (gt Y q U').2.2 := by
  obtain ⟨e1, e2, e3⟩ := ro_cg (q := q) h 500 10 0 U U' (by omega) hU he
  unfold gt
  rw [← e1]
  split
  · exact ⟨rfl, e2, e3⟩
  · exact ⟨rfl, he, e3⟩
/-! plans: throws by hand ahead of each truck -/
def un_cg {T T' U U' : Nat → Nat} : ∀ k, (∀ p, p < k → T p = T' p ∧ U p = U' p) → un T U k = un T' U' k
  | 0, _ => rfl
  | k + 1, h => by
    unfold un
    rw [un_cg k (fun p hp => h p (by omega)), (h k (by omega)).1, (h k (by omega)).2]
def QT (Y : Yd) (n : Nat) (P : (Nat → Nat) → Nat → Prop) (j : Nat) (U : Nat → Nat) (c : Nat) : Prop := ∃ U0 c0, P U0 c0 ∧ (∀ p, p < n → U p = U0 p ∨ (j ≤ p ∧ ∃ w, w < Y.2.1 p ∧ U p = lsd Y p w)) ∧ c = c0 + un U0 U n
def Pl (Y : Yd) (n : Nat) (T wt : Nat → Nat) : Nat → (Nat → Nat) → Nat → Prop
  | 0, U, c => (∀ p, p < n → U p = T p) ∧ c = 0
  | k + 1, U, c => ∃ U0, QT Y n (Pl Y n T wt k) 0 U0 c ∧ (gt Y none U0).1 = some (wt k) ∧ ∀ p, p < n → U p = (gt Y none U0).2.1 p
/-- the fewest throws of all plans -/
def HM (Y : Yd) (n : Nat) (T wt : Nat → Nat) (wn : Nat) : Option Nat → Prop
  | none => ¬ ∃ U c, Pl Y n T wt wn U c
  | some m => (∃ U c, Pl Y n T wt wn U c ∧ c ≤ m) ∧ ∀ U c, Pl Y n T wt wn U c → m ≤ c
theorem HM_one {Y : Yd} {n : Nat} {T wt : Nat → Nat} {wn : Nat} {o o' : Option Nat} (h : HM Y n T wt wn o) (h' : HM Y n T wt wn o') : o = o' := by
  cases o with
  | none =>
    cases o' with
    | none => rfl
    | some m =>
      obtain ⟨⟨U, c, hp, -⟩, -⟩ := h'
      exact absurd ⟨U, c, hp⟩ h
  | some m =>
    cases o' with
    | none =>
      obtain ⟨⟨U, c, hp, -⟩, -⟩ := h
      exact absurd ⟨U, c, hp⟩ h'
    | some m' =>
      obtain ⟨⟨U, c, hp, hc⟩, hm⟩ := h
      obtain ⟨⟨U', c', hp', hc'⟩, hm'⟩ := h'
      have := hm U' c' hp'
      have := hm' U c hp
      congr 1
      omega
def okP (Y : Yd) (n : Nat) (P : (Nat → Nat) → Nat → Prop) : Prop := ∀ U c, P U c → TOK n Y U
def cgP (n : Nat) (P : (Nat → Nat) → Nat → Prop) : Prop := ∀ U U' c, P U c → (∀ p, p < n → U' p = U p) → P U' c
theorem QT_ok {Y : Yd} {n j : Nat} {P : (Nat → Nat) → Nat → Prop} (h : YOK n Y) (hP : okP Y n P) : okP Y n (QT Y n P j) := by
  rintro U c ⟨U0, c0, h0, hU, -⟩ p hp
  rcases hU p hp with e | ⟨-, w, hw, e⟩
  · rw [e]; exact hP U0 c0 h0 p hp
  · rw [e]; exact (lsd_in h hp hw).1
theorem QT_cg {Y : Yd} {n j : Nat} {P : (Nat → Nat) → Nat → Prop} : cgP n (QT Y n P j) := by
  rintro U U' c ⟨U0, c0, h0, hU, hc⟩ he
  refine ⟨U0, c0, h0, fun p hp => by rw [he p hp]; exact hU p hp, ?_⟩
  rw [hc, un_cg (T' := U0) (U' := U') n (fun p hp => ⟨rfl, (he p hp).symm⟩)]
theorem Pl_ok {Y : Yd} {n : Nat} {T wt : Nat → Nat} (h : YOK n Y) (hn : 1 ≤ n) (hT : TOK n Y T) : ∀ k, okP Y n (Pl Y n T wt k)
  | 0 => fun U c hp p hpn => by
    rw [hp.1 p hpn]
    exact hT p hpn
  | k + 1 => by
    rintro U c ⟨U0, h0, -, he⟩ p hp
    rw [he p hp]
    exact (gt_ok h hn (QT_ok h (Pl_ok h hn hT k) U0 c h0)).2.1 p hp
theorem Pl_cg {Y : Yd} {n : Nat} {T wt : Nat → Nat} : ∀ k, cgP n (Pl Y n T wt k)
  | 0 => fun U U' c hp he => ⟨fun p hpn => by rw [he p hpn]; exact hp.1 p hpn, hp.2⟩
  | k + 1 => by
    rintro U U' c ⟨U0, h0, h1, h2⟩ he
    exact ⟨U0, h0, h1, fun p hp => by rw [he p hp]; exact h2 p hp⟩
/-- V holds the least costs of what is reached by P -/
def DI (Y : Yd) (n : Nat) (V : Nat → Nat) (P : (Nat → Nat) → Nat → Prop) : Prop := (∀ c, c < pd Y n → V c ≤ 1000000) ∧ (∀ c, c < pd Y n → V c < 1000000 → ∃ m, m ≤ V c ∧ P (ds Y n c) m) ∧ ∀ U m, P U m → V (en Y U n) ≤ m
def lsm (Y : Yd) (n : Nat) (V : Nat → Nat) (c p : Nat) : Nat → Nat
  | 0 => 1000000
  | s + 1 => min (lsm Y n V c p s) (V (en Y (fu (ds Y n c) p s) n))
def isF (Y : Yd) (p x : Nat) : Nat → Bool
  | 0 => false
  | w + 1 => isF Y p x w || decide (lsd Y p w = x)
def thP (Y : Yd) (n p : Nat) (V : Nat → Nat) (c : Nat) : Nat := if lsm Y n V c p (sm Y p) < 1000000 ∧ isF Y p (ds Y n c p) (Y.2.1 p) = true then min (V c) (lsm Y n V c p (sm Y p) + 1) else V c
theorem isF_iff {Y : Yd} {p x : Nat} : ∀ k, isF Y p x k = true ↔ ∃ w, w < k ∧ x = lsd Y p w
  | 0 => by simp [isF]
  | k + 1 => by
    unfold isF
    rw [Bool.or_eq_true, isF_iff k, decide_eq_true_iff]
    constructor
    · rintro (⟨w, hw, e⟩ | e)
      · exact ⟨w, by omega, e⟩
      · exact ⟨k, by omega, e.symm⟩
    · rintro ⟨w, hw, e⟩
      by_cases g : w = k
      · subst g; exact Or.inr e.symm
      · exact Or.inl ⟨w, by omega, e⟩
theorem lsm_le {Y : Yd} {n : Nat} {V : Nat → Nat} {c p : Nat} : ∀ k s, s < k → lsm Y n V c p k ≤ V (en Y (fu (ds Y n c) p s) n)
  | 0, s, h => by omega
  | k + 1, s, h => by
    unfold lsm
    by_cases e : s = k
    · subst e; exact Nat.min_le_right _ _
    · exact Nat.le_trans (Nat.min_le_left _ _) (lsm_le k s (by omega))
theorem lsm_ex {Y : Yd} {n : Nat} {V : Nat → Nat} {c p : Nat} : ∀ k, lsm Y n V c p k < 1000000 → ∃ s, s < k ∧ lsm Y n V c p k = V (en Y (fu (ds Y n c) p s) n)
  | 0, h => by simp [lsm] at h
  | k + 1, h => by
    unfold lsm at h ⊢
    by_cases e : lsm Y n V c p k ≤ V (en Y (fu (ds Y n c) p k) n)
    · rw [Nat.min_eq_left e] at h ⊢
      obtain ⟨s, hs, es⟩ := lsm_ex k h
      exact ⟨s, by omega, es⟩
    · exact ⟨k, by omega, Nat.min_eq_right (by omega)⟩
theorem thP_le {Y : Yd} {n p : Nat} {V : Nat → Nat} {c : Nat} : thP Y n p V c ≤ V c := by
  unfold thP
  split
  · exact Nat.min_le_left _ _
  · exact Nat.le_refl _
theorem un_fu {T U : Nat → Nat} {p : Nat} : ∀ k, p < k → U p ≠ T p → un T U k = un T (fu U p (T p)) k + 1
  | 0, h, _ => by omega
  | k + 1, h, hne => by
    unfold un
    by_cases e : p = k
    · subst e
      rw [un_cg (T := T) (T' := T) (U := U) (U' := fu U p (T p)) p (fun q hq => ⟨rfl, by simp [fu, show q ≠ p by omega]⟩)]
      simp [fu, hne]
    · have := un_fu (T := T) (U := U) (p := p) k (by omega) hne
      rw [this]
      have : fu U p (T p) k = U k := by simp [fu, Ne.symm e]
      rw [this]
      omega
theorem TOK_fu {n : Nat} {Y : Yd} {U : Nat → Nat} {p s : Nat} (hU : TOK n Y U) (hs : s < sm Y p) : TOK n Y (fu U p s) := fun q hq => by
  unfold fu
  split
  · rename_i e; subst e; exact hs
  · exact hU q hq
theorem DI_thP {Y : Yd} {n p : Nat} {V : Nat → Nat} {P : (Nat → Nat) → Nat → Prop} (h : YOK n Y) (hp : p < n) (hP : okP Y n P) (hD : DI Y n V (QT Y n P (p + 1))) : DI Y n (thP Y n p V) (QT Y n P p) := by
  obtain ⟨d1, d2, d3⟩ := hD
  refine ⟨fun c hc => Nat.le_trans thP_le (d1 c hc), fun c hc hv => ?_, fun U m hq => ?_⟩
  · have hdo := ds_ok h (n := n) c
    have old : V c < 1000000 → V c ≤ thP Y n p V c → ∃ m, m ≤ thP Y n p V c ∧ QT Y n P p (ds Y n c) m := by
      intro g g2
      obtain ⟨m, hm, U0, c0, h0, hU, hcm⟩ := d2 c hc g
      exact ⟨m, by omega, U0, c0, h0, fun q hq => by
        rcases hU q hq with e | ⟨e1, e2⟩
        · exact Or.inl e
        · exact Or.inr ⟨by omega, e2⟩, hcm⟩
    unfold thP at hv old ⊢
    split at hv
    · rename_i g
      rw [if_pos g] at old ⊢
      by_cases e : V c ≤ lsm Y n V c p (sm Y p) + 1
      · exact old (by omega) (by omega)
      · obtain ⟨s, hs, es⟩ := lsm_ex (sm Y p) g.1
        have hTf : TOK n Y (fu (ds Y n c) p s) := TOK_fu hdo hs
        obtain ⟨m, hm, hq⟩ := d2 (en Y (fu (ds Y n c) p s) n) (en_lt hTf n (Nat.le_refl n)) (by omega)
        obtain ⟨U0, c0, h0, hU, hcm⟩ := QT_cg _ (fu (ds Y n c) p s) m hq (fun q hq => (ds_en h hTf hq).symm)
        obtain ⟨w, hw, ew⟩ := (isF_iff _).mp g.2
        refine ⟨c0 + un U0 (ds Y n c) n, ?_, U0, c0, h0, fun q hq => ?_, rfl⟩
        · have hU0 : fu (ds Y n c) p s p = U0 p := by
            rcases hU p hp with e | ⟨e, -⟩
            · exact e
            · omega
          have hs0 : s = U0 p := by rw [← hU0]; simp [fu]
          rw [hs0] at hcm
          have : un U0 (ds Y n c) n ≤ un U0 (fu (ds Y n c) p (U0 p)) n + 1 := by
            by_cases g3 : ds Y n c p = U0 p
            · rw [un_cg (T' := U0) (U' := fu (ds Y n c) p (U0 p)) n (fun q hq => ⟨rfl, by
                by_cases e : q = p
                · subst e; simp [fu, g3]
                · simp [fu, e]⟩)]
              omega
            · rw [un_fu n hp g3]
              exact Nat.le_refl _
          omega
        · by_cases e : q = p
          · subst e
            exact Or.inr ⟨Nat.le_refl _, w, hw, ew⟩
          · rcases hU q hq with e2 | ⟨e2, e3⟩
            · left; rw [← e2]; simp [fu, e]
            · right
              refine ⟨by omega, ?_⟩
              obtain ⟨w', hw', e4⟩ := e3
              exact ⟨w', hw', by rw [← e4]; simp [fu, e]⟩
    · rename_i g
      rw [if_neg g] at old ⊢
      exact old hv (Nat.le_refl _)
  · have hTU := QT_ok h hP U m hq
    obtain ⟨U0, c0, h0, hU, hcm⟩ := hq
    have hT0 := hP U0 c0 h0
    by_cases e : U p = U0 p
    · refine Nat.le_trans thP_le (d3 U m ⟨U0, c0, h0, fun q hq => ?_, hcm⟩)
      by_cases eq : q = p
      · subst eq; exact Or.inl e
      · rcases hU q hq with e2 | ⟨e2, e3⟩
        · exact Or.inl e2
        · exact Or.inr ⟨by omega, e3⟩
    · have hw : ∃ w, w < Y.2.1 p ∧ U p = lsd Y p w := by
        rcases hU p hp with e2 | ⟨-, e3⟩
        · exact absurd e2 e
        · exact e3
      have hun := un_fu (T := U0) (U := U) n hp e
      have hq1 : QT Y n P (p + 1) (fu U p (U0 p)) (c0 + un U0 (fu U p (U0 p)) n) := ⟨U0, c0, h0, fun q hq => by
        by_cases eq : q = p
        · subst eq; left; simp [fu]
        · rcases hU q hq with e2 | ⟨e2, e3⟩
          · left; simp [fu, eq, e2]
          · right; exact ⟨by omega, by simpa [fu, eq] using e3⟩, rfl⟩
      have hv := d3 _ _ hq1
      have hc : en Y U n < pd Y n := en_lt hTU n (Nat.le_refl n)
      have el : en Y (fu (ds Y n (en Y U n)) p (U0 p)) n = en Y (fu U p (U0 p)) n := en_cg n (fun q hq => by
        by_cases eq : q = p
        · subst eq; simp [fu]
        · simp [fu, eq, ds_en h hTU hq])
      have hl := lsm_le (Y := Y) (n := n) (V := V) (c := en Y U n) (p := p) (sm Y p) (U0 p) (hT0 p hp)
      rw [el] at hl
      have hf : isF Y p (ds Y n (en Y U n) p) (Y.2.1 p) = true := by
        rw [ds_en h hTU hp]
        exact (isF_iff _).mpr hw
      unfold thP
      by_cases g : lsm Y n V (en Y U n) p (sm Y p) < 1000000
      · rw [if_pos ⟨g, hf⟩]
        omega
      · rw [if_neg (fun q => g q.1)]
        have := d1 _ hc
        omega
