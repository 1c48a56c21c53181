/-! the yard as a graph -/
def eg (Y : Yd) (n a b : Nat) : Prop := a < n ∧ ∃ w, w < Y.2.1 a ∧ Y.2.2 a w = 10 + b
def pth (Y : Yd) (n : Nat) : Nat → Nat → Nat → Prop
  | 0, a, b => a = b
  | k + 1, a, b => ∃ c, eg Y n a c ∧ pth Y n k c b
theorem pth_snoc {Y : Yd} {n : Nat} : ∀ (k : Nat) (a b c : Nat), pth Y n k a b → eg Y n b c → pth Y n (k + 1) a c
  | 0, a, b, c, h, e => by
    have h' : a = b := h
    subst h'
    exact ⟨c, e, rfl⟩
  | k + 1, a, b, c, h, e => by
    obtain ⟨x, h1, h2⟩ := h
    exact ⟨x, h1, pth_snoc k x b c h2 e⟩
theorem pth_unsnoc {Y : Yd} {n : Nat} : ∀ (k : Nat) (a c : Nat), pth Y n (k + 1) a c → ∃ b, pth Y n k a b ∧ eg Y n b c
  | 0, a, c, h => by
    obtain ⟨x, h1, h2⟩ := h
    have h2' : x = c := h2
    subst h2'
    exact ⟨a, rfl, h1⟩
  | k + 1, a, c, h => by
    obtain ⟨x, h1, h2⟩ := h
    obtain ⟨b, h3, h4⟩ := pth_unsnoc k x c h2
    exact ⟨b, ⟨x, h1, h3⟩, h4⟩
theorem eg_lt {Y : Yd} {n a b : Nat} (h : YOK n Y) (e : eg Y n a b) : b < n := by
  obtain ⟨h1, w, h2, h3⟩ := e
  have := (h.2 a h1).2.2.2 w h2
  omega
/-! sets as bits -/
def sub (m m' : Nat) : Prop := ∀ b, m.testBit b = true → m'.testBit b = true
def ct (m : Nat) : Nat → Nat
  | 0 => 0
  | k + 1 => ct m k + if m.testBit k then 1 else 0
theorem ct_le (m : Nat) : ∀ k, ct m k ≤ k
  | 0 => Nat.le_refl 0
  | k + 1 => by
    have := ct_le m k
    unfold ct
    split <;> omega
theorem ct_sub {m m' : Nat} (h : sub m m') : ∀ k, ct m k ≤ ct m' k
  | 0 => Nat.le_refl 0
  | k + 1 => by
    have ih := ct_sub h k
    unfold ct
    by_cases hb : m.testBit k = true
    · rw [if_pos hb, if_pos (h k hb)]
      omega
    · rw [if_neg hb]
      omega
theorem ct_lt {m m' b : Nat} (h : sub m m') (h1 : m.testBit b = false) (h2 : m'.testBit b = true) : ∀ k, b < k → ct m k < ct m' k
  | 0, hb => by omega
  | k + 1, hb => by
    unfold ct
    by_cases e : b = k
    · subst e
      have := ct_sub h b
      rw [h1, h2]
      simp
      omega
    · have ih := ct_lt h h1 h2 k (by omega)
      by_cases hk : m.testBit k = true
      · rw [if_pos hk, if_pos (h k hk)]
        omega
      · rw [if_neg hk]
        omega
theorem sub_ne {m m' n : Nat} (h : sub m m') (hm' : m' < 2 ^ n) (hne : m' ≠ m) : ∃ b, b < n ∧ m.testBit b = false ∧ m'.testBit b = true := by
  refine Classical.byContradiction (fun hc => hne (Nat.eq_of_testBit_eq (fun b => ?_)))
  cases h1 : m.testBit b with
  | true => exact h b h1
  | false =>
    cases h2 : m'.testBit b with
    | false => rfl
    | true =>
      exfalso
      refine hc ⟨b, ?_, h1, h2⟩
      rcases Nat.lt_or_ge b n with q | q
      · exact q
      · have := Nat.testBit_lt_two_pow (x := m') (i := b) (Nat.lt_of_lt_of_le hm' (Nat.pow_le_pow_right (by decide) q))
        rw [this] at h2
        cases h2
def itr (F : Nat → Nat) (m : Nat) : Nat → Nat
  | 0 => m
  | k + 1 => F (itr F m k)
theorem itr_lt {F : Nat → Nat} {n m : Nat} (hF : ∀ m, m < 2 ^ n → sub m (F m) ∧ F m < 2 ^ n) (hm : m < 2 ^ n) : ∀ k, itr F m k < 2 ^ n
  | 0 => hm
  | k + 1 => (hF _ (itr_lt hF hm k)).2
theorem itr_stab {F : Nat → Nat} {n m : Nat} (hF : ∀ m, m < 2 ^ n → sub m (F m) ∧ F m < 2 ^ n) (hm : m < 2 ^ n) : ∀ k, F (itr F m k) = itr F m k ∨ k ≤ ct (itr F m k) n
  | 0 => Or.inr (Nat.zero_le _)
  | k + 1 => by
    rcases itr_stab hF hm k with h | h
    · left
      exact congrArg F h
    · by_cases e : F (itr F m k) = itr F m k
      · left
        exact congrArg F e
      · right
        obtain ⟨h1, h2⟩ := hF _ (itr_lt hF hm k)
        obtain ⟨b, h3, h4, h5⟩ := sub_ne h1 h2 e
        have := ct_lt h1 h4 h5 n h3
        show k + 1 ≤ ct (F (itr F m k)) n
        omega
theorem itr_fix {F : Nat → Nat} {n m : Nat} (hF : ∀ m, m < 2 ^ n → sub m (F m) ∧ F m < 2 ^ n) (hm : m < 2 ^ n) {k : Nat} (hk : n ≤ k) : F (itr F m k) = itr F m k := by
  have base : F (itr F m n) = itr F m n := by
    rcases itr_stab hF hm (n + 1) with h | h
    · rcases itr_stab hF hm n with g | g
      · exact g
      · refine Classical.byContradiction (fun e => ?_)
        obtain ⟨h1, h2⟩ := hF _ (itr_lt hF hm n)
        obtain ⟨b, h3, h4, h5⟩ := sub_ne h1 h2 e
        have := ct_lt h1 h4 h5 n h3
        have := ct_le (F (itr F m n)) n
        omega
    · have := ct_le (itr F m (n + 1)) n
      omega
  obtain ⟨j, rfl⟩ : ∃ j, k = n + j := ⟨k - n, by omega⟩
  clear hk
  induction j with
  | zero => exact base
  | succ j ih =>
    exact congrArg F ih
/-! the reference's reaching is reaching -/
theorem rW_bit {Y : Yd} {p : Nat} : ∀ (k m b : Nat), (rW Y p k m).testBit b = true ↔ (m.testBit b = true ∨ ∃ w, w < k ∧ Y.2.2 p w = 10 + b)
  | 0, m, b => by
    show m.testBit b = true ↔ _
    refine ⟨Or.inl, fun h => ?_⟩
    rcases h with h | ⟨w, h, -⟩
    · exact h
    · omega
  | k + 1, m, b => by
    have ih := rW_bit (Y := Y) (p := p) k m b
    show (rW Y p k m ||| _).testBit b = true ↔ _
    rw [Nat.testBit_or, Bool.or_eq_true, ih]
    constructor
    · rintro ((h | ⟨w, h1, h2⟩) | h)
      · exact Or.inl h
      · exact Or.inr ⟨w, by omega, h2⟩
      · split at h
        · rename_i h10
          rw [Nat.testBit_two_pow] at h
          have h := of_decide_eq_true h
          exact Or.inr ⟨k, by omega, by omega⟩
        · simp at h
    · rintro (h | ⟨w, h1, h2⟩)
      · exact Or.inl (Or.inl h)
      · by_cases e : w = k
        · subst e
          right
          rw [if_pos (by omega), Nat.testBit_two_pow]
          exact decide_eq_true (by omega)
        · exact Or.inl (Or.inr ⟨w, by omega, h2⟩)
theorem rP_bit {Y : Yd} {n fr p m b : Nat} (hp : p < n) : (rP Y fr p m).testBit b = true ↔ (m.testBit b = true ∨ ((p = fr ∨ m.testBit p = true) ∧ eg Y n p b)) := by
  unfold rP
  split
  · rename_i h
    rw [rW_bit]
    constructor
    · rintro (q | q)
      · exact Or.inl q
      · exact Or.inr ⟨h, hp, q⟩
    · rintro (q | ⟨-, -, q⟩)
      · exact Or.inl q
      · exact Or.inr q
  · rename_i h
    exact ⟨Or.inl, fun q => q.elim id (fun q => absurd q.1 h)⟩
theorem rS_sub {Y : Yd} {n fr : Nat} : ∀ (p m : Nat), p ≤ n → sub m (rS Y fr p m)
  | 0, m, _ => fun _ h => h
  | p + 1, m, hp => fun b h => (rP_bit (n := n) (by omega)).mpr (Or.inl (rS_sub (n := n) p m (by omega) b h))
theorem rS_sub2 {Y : Yd} {n fr m : Nat} {q : Nat} (hq : q ≤ n) : ∀ (p : Nat), p ≤ q → sub (rS Y fr p m) (rS Y fr q m) := by
  intro p hp
  obtain ⟨j, rfl⟩ : ∃ j, q = p + j := ⟨q - p, by omega⟩
  clear hp
  induction j with
  | zero => exact fun _ h => h
  | succ j ih =>
    have ih := ih (by omega)
    exact fun b h => (rP_bit (n := n) (p := p + j) (by omega)).mpr (Or.inl (ih b h))
theorem rS_snd {Y : Yd} {n fr : Nat} : ∀ (p m : Nat), p ≤ n → (∀ b, m.testBit b = true → ∃ k, pth Y n (k + 1) fr b) → ∀ b, (rS Y fr p m).testBit b = true → ∃ k, pth Y n (k + 1) fr b
  | 0, m, _, h => h
  | p + 1, m, hp, h => by
    intro b hb
    have ih := rS_snd p m (by omega) h
    rcases (rP_bit (n := n) (by omega)).mp hb with q | ⟨q, e⟩
    · exact ih b q
    · rcases q with q | q
      · subst q
        exact ⟨0, b, e, rfl⟩
      · obtain ⟨k, hk⟩ := ih p q
        exact ⟨k + 1, pth_snoc _ _ _ _ hk e⟩
theorem rS_bits {Y : Yd} {n : Nat} (h : YOK n Y) {fr : Nat} (m : Nat) (hm : m < 2 ^ n) : sub m (rS Y fr n m) ∧ rS Y fr n m < 2 ^ n := by
  refine ⟨rS_sub (n := n) n m (Nat.le_refl n), ?_⟩
  have key : ∀ p, p ≤ n → ∀ b, n ≤ b → (rS Y fr p m).testBit b = false := by
    intro p
    induction p with
    | zero =>
      intro _ b hb
      exact Nat.testBit_lt_two_pow (Nat.lt_of_lt_of_le hm (Nat.pow_le_pow_right (by decide) hb))
    | succ p ih =>
      intro hp b hb
      cases hc : (rS Y fr (p + 1) m).testBit b with
      | false => rfl
      | true =>
        rcases (rP_bit (n := n) (by omega)).mp hc with q | ⟨-, e⟩
        · rw [ih (by omega) b hb] at q
          cases q
        · have := eg_lt h e
          omega
  exact Nat.lt_pow_two_of_testBit _ (fun b hb => key n (Nat.le_refl n) b hb)
theorem rR_itr (Y : Yd) (n fr : Nat) : ∀ k, rR Y n fr k = itr (rS Y fr n) 0 k
  | 0 => rfl
  | k + 1 => by
    show rS Y fr n (rR Y n fr k) = rS Y fr n (itr (rS Y fr n) 0 k)
    rw [rR_itr Y n fr k]
theorem rch_bit {Y : Yd} {n : Nat} (h : YOK n Y) {fr : Nat} (hfr : fr < n) (b : Nat) : (rch Y n fr).testBit b = true ↔ ∃ k, pth Y n (k + 1) fr b := by
  have snd : ∀ k b, (rR Y n fr k).testBit b = true → ∃ j, pth Y n (j + 1) fr b := by
    intro k
    induction k with
    | zero => intro b hb; simp [rR] at hb
    | succ k ih => exact rS_snd n _ (Nat.le_refl n) ih
  refine ⟨snd _ b, ?_⟩
  rintro ⟨k, hk⟩
  have fix : rS Y fr n (rch Y n fr) = rch Y n fr := by
    unfold rch
    rw [rR_itr]
    exact itr_fix (n := n) (fun m hm => rS_bits h m hm) (Nat.two_pow_pos n) (by omega)
  have clo : ∀ p, p < n → ∀ c, (p = fr ∨ (rch Y n fr).testBit p = true) → eg Y n p c → (rch Y n fr).testBit c = true := by
    intro p hp c hc e
    have h1 : (rS Y fr (p + 1) (rch Y n fr)).testBit c = true := by
      refine (rP_bit (n := n) hp).mpr (Or.inr ⟨?_, e⟩)
      rcases hc with hc | hc
      · exact Or.inl hc
      · exact Or.inr (rS_sub (n := n) p _ (by omega) p hc)
    have h2 := rS_sub2 (Y := Y) (n := n) (fr := fr) (m := rch Y n fr) (Nat.le_refl n) (p + 1) (by omega) c h1
    rw [fix] at h2
    exact h2
  induction k generalizing b with
  | zero =>
    obtain ⟨c, h1, h2⟩ := hk
    have h2' : c = b := h2
    subst h2'
    exact clo fr hfr c (Or.inl rfl) h1
  | succ k ih =>
    obtain ⟨c, h1, h2⟩ := pth_unsnoc _ _ _ hk
    exact clo c h2.1 b (Or.inr (ih c h1)) h2
/-- a truck can come to b -/
def rc (Y : Yd) (n b : Nat) : Prop := ∃ k, pth Y n k 0 b
def strt (Y : Yd) (n : Nat) : Prop := ∀ p, p < n → rc Y n p → ¬ ∃ k, pth Y n (k + 1) p p
theorem rch_come {Y : Yd} {n : Nat} (h : YOK n Y) (hn : 1 ≤ n) (b : Nat) : (rch Y n 0 ||| 1).testBit b = true ↔ rc Y n b := by
  have e1 : (1 : Nat).testBit b = true ↔ b = 0 := by
    have : (1 : Nat) = 2 ^ 0 := rfl
    rw [this, Nat.testBit_two_pow]
    rw [decide_eq_true_iff]
    omega
  rw [Nat.testBit_or, Bool.or_eq_true, rch_bit h hn, e1]
  constructor
  · rintro (⟨k, hk⟩ | hb)
    · exact ⟨k + 1, hk⟩
    · exact ⟨0, hb.symm⟩
  · rintro ⟨k, hk⟩
    cases k with
    | zero => exact Or.inr (Eq.symm hk)
    | succ k => exact Or.inl ⟨k, hk⟩
