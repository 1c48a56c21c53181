/-! reaching, as the class does it -/
def nxo (Y : Yd) (m : Nat) : Nat → Nat
  | 0 => 0
  | i + 1 => if m.testBit i = true then rW Y i (Y.2.1 i) (nxo Y m i) else nxo Y m i
def rF (Y : Yd) (n m : Nat) : Nat := itr (fun m => m ||| nxo Y m n) m n
theorem nxo_bit {Y : Yd} {m n b : Nat} : ∀ k, k ≤ n → ((nxo Y m k).testBit b = true ↔ ∃ a, a < k ∧ m.testBit a = true ∧ eg Y n a b)
  | 0, _ => by
    refine ⟨fun h => ?_, fun ⟨a, h, _⟩ => by omega⟩
    simp [nxo] at h
  | k + 1, hk => by
    have ih := nxo_bit (Y := Y) (m := m) (n := n) (b := b) k (by omega)
    unfold nxo
    by_cases g : m.testBit k = true
    · rw [if_pos g, rW_bit, ih]
      constructor
      · rintro (⟨a, h1, h2, h3⟩ | ⟨w, h1, h2⟩)
        · exact ⟨a, by omega, h2, h3⟩
        · exact ⟨k, by omega, g, by omega, w, h1, h2⟩
      · rintro ⟨a, h1, h2, h3⟩
        by_cases e : a = k
        · subst e
          exact Or.inr h3.2
        · exact Or.inl ⟨a, by omega, h2, h3⟩
    · rw [if_neg g, ih]
      constructor
      · rintro ⟨a, h1, h2, h3⟩
        exact ⟨a, by omega, h2, h3⟩
      · rintro ⟨a, h1, h2, h3⟩
        by_cases e : a = k
        · subst e; exact absurd h2 g
        · exact ⟨a, by omega, h2, h3⟩
theorem nxo_lt {Y : Yd} {m n : Nat} (h : YOK n Y) : nxo Y m n < 2 ^ n := by
  refine Nat.lt_pow_two_of_testBit _ (fun b hb => ?_)
  cases hc : (nxo Y m n).testBit b with
  | false => rfl
  | true =>
    obtain ⟨a, -, -, e⟩ := (nxo_bit n (Nat.le_refl n)).mp hc
    have := eg_lt h e
    omega
theorem nxo_lt' {n : Nat} {Y : Yd} (h : YOK n Y) {m : Nat} : ∀ k, k ≤ n → nxo Y m k < 1024
  | 0, _ => by show (0 : Nat) < 1024; decide
  | k + 1, hk => by
    have ih := nxo_lt' h (m := m) k (by omega)
    unfold nxo
    split
    · exact rW_lt h (by omega) _ _ (Nat.le_refl _) ih
    · exact ih
theorem rF_hF {Y : Yd} {n : Nat} (h : YOK n Y) : ∀ m, m < 2 ^ n → sub m (m ||| nxo Y m n) ∧ (m ||| nxo Y m n) < 2 ^ n := fun m hm => ⟨fun b hb => by rw [Nat.testBit_or, hb]; rfl, Nat.or_lt_two_pow hm (nxo_lt h)⟩
theorem rF_lt {Y : Yd} {n m : Nat} (h : YOK n Y) (hm : m < 2 ^ n) : rF Y n m < 2 ^ n := itr_lt (rF_hF h) hm n
theorem two10 {n : Nat} (h : n ≤ 10) : 2 ^ n ≤ 1024 := Nat.pow_le_pow_right (n := 2) (by decide) h
theorem rF_bit {Y : Yd} {n m : Nat} (h : YOK n Y) (hm : m < 2 ^ n) (b : Nat) : (rF Y n m).testBit b = true ↔ ∃ a, m.testBit a = true ∧ ∃ k, pth Y n k a b := by
  constructor
  · have snd : ∀ j b, (itr (fun m => m ||| nxo Y m n) m j).testBit b = true → ∃ a, m.testBit a = true ∧ ∃ k, pth Y n k a b := by
      intro j
      induction j with
      | zero => exact fun b hb => ⟨b, hb, 0, rfl⟩
      | succ j ih =>
        intro b hb
        have hb' : (itr (fun m => m ||| nxo Y m n) m j ||| nxo Y (itr (fun m => m ||| nxo Y m n) m j) n).testBit b = true := hb
        rw [Nat.testBit_or, Bool.or_eq_true] at hb'
        rcases hb' with g | g
        · exact ih b g
        · obtain ⟨a, -, h2, h3⟩ := (nxo_bit n (Nat.le_refl n)).mp g
          obtain ⟨a0, q1, k, q2⟩ := ih a h2
          exact ⟨a0, q1, k + 1, pth_snoc k a0 a b q2 h3⟩
    exact snd n b
  · rintro ⟨a, ha, k, hk⟩
    have fix : rF Y n m ||| nxo Y (rF Y n m) n = rF Y n m := itr_fix (F := fun m => m ||| nxo Y m n) (rF_hF h) hm (Nat.le_refl n)
    have base : (rF Y n m).testBit a = true := by
      have mono : ∀ j, (itr (fun m => m ||| nxo Y m n) m j).testBit a = true := by
        intro j
        induction j with
        | zero => exact ha
        | succ j ih =>
          show (itr (fun m => m ||| nxo Y m n) m j ||| _).testBit a = true
          rw [Nat.testBit_or, ih]
          rfl
      exact mono n
    clear ha
    induction k generalizing a with
    | zero =>
      have : a = b := hk
      subst this
      exact base
    | succ k ih =>
      obtain ⟨x, e, hx⟩ := hk
      refine ih x hx ?_
      rw [← fix, Nat.testBit_or, Bool.or_eq_true]
      exact Or.inr ((nxo_bit n (Nat.le_refl n)).mpr ⟨a, e.1, base, e⟩)
theorem bit_one {i b : Nat} : (2 ^ i).testBit b = true ↔ i = b := by
  rw [Nat.testBit_two_pow, decide_eq_true_iff]
theorem rF_one {Y : Yd} {n i : Nat} (h : YOK n Y) (hi : i < n) (b : Nat) : (rF Y n (2 ^ i)).testBit b = true ↔ ∃ k, pth Y n k i b := by
  rw [rF_bit h (Nat.pow_lt_pow_right (by decide) hi)]
  constructor
  · rintro ⟨a, ha, q⟩
    rw [bit_one] at ha
    subst ha
    exact q
  · exact fun q => ⟨i, bit_one.mpr rfl, q⟩
theorem rF_come {Y : Yd} {n : Nat} (h : YOK n Y) (hn : 1 ≤ n) (b : Nat) : (rF Y n 1).testBit b = true ↔ rc Y n b := rF_one (i := 0) h hn b
theorem rF_loop {Y : Yd} {n i : Nat} (h : YOK n Y) (hi : i < n) : (rF Y n (nxo Y (2 ^ i) n)).testBit i = true ↔ ∃ k, pth Y n (k + 1) i i := by
  rw [rF_bit h (nxo_lt h)]
  constructor
  · rintro ⟨a, ha, k, hk⟩
    obtain ⟨x, -, h2, h3⟩ := (nxo_bit n (Nat.le_refl n)).mp ha
    rw [bit_one] at h2
    subst h2
    exact ⟨k, a, h3, hk⟩
  · rintro ⟨k, a, e, hk⟩
    exact ⟨a, (nxo_bit n (Nat.le_refl n)).mpr ⟨i, hi, bit_one.mpr rfl, e⟩, k, hk⟩
/-- how many switches one reaches -/
def rk (Y : Yd) (n i : Nat) : Nat := ct (rF Y n (2 ^ i)) 10
theorem ct_up {m n : Nat} (hm : m < 2 ^ n) : ∀ j, ct m (n + j) = ct m n
  | 0 => rfl
  | j + 1 => by
    show ct m (n + j) + (if m.testBit (n + j) then 1 else 0) = _
    rw [ct_up hm j, Nat.testBit_lt_two_pow (Nat.lt_of_lt_of_le hm (Nat.pow_le_pow_right (by decide) (by omega)))]
    rfl
theorem ct_10 {m n : Nat} (hm : m < 2 ^ n) (hn : n ≤ 10) : ct m 10 = ct m n := by
  have := ct_up hm (10 - n)
  rw [show n + (10 - n) = 10 by omega] at this
  exact this
theorem ct_pos {m b : Nat} (h : m.testBit b = true) : ∀ k, b < k → 1 ≤ ct m k
  | 0, hb => by omega
  | k + 1, hb => by
    unfold ct
    by_cases e : b = k
    · subst e
      rw [h]
      simp
    · have := ct_pos h k (by omega)
      omega
theorem rk_in {Y : Yd} {n i : Nat} (h : YOK n Y) (hi : i < n) : 1 ≤ rk Y n i ∧ rk Y n i ≤ n := by
  have hn := h.1
  have hl := rF_lt h (m := 2 ^ i) (Nat.pow_lt_pow_right (by decide) hi)
  unfold rk
  rw [ct_10 hl hn]
  exact ⟨ct_pos ((rF_one h hi i).mpr ⟨0, rfl⟩) n hi, ct_le _ n⟩
theorem rk_lt {Y : Yd} {n p q : Nat} (h : YOK n Y) (hn1 : 1 ≤ n) (hs : strt Y n) (hp : rc Y n p) (e : eg Y n p q) : rk Y n q < rk Y n p := by
  have hn := h.1
  have hpn := e.1
  have hqn := eg_lt h e
  unfold rk
  refine ct_lt (b := p) (fun b hb => ?_) ?_ ((rF_one h hpn p).mpr ⟨0, rfl⟩) 10 (by omega)
  · obtain ⟨k, hk⟩ := (rF_one h hqn b).mp hb
    exact (rF_one h hpn b).mpr ⟨k + 1, q, e, hk⟩
  · cases hb : (rF Y n (2 ^ q)).testBit p with
    | false => rfl
    | true =>
      obtain ⟨k, hk⟩ := (rF_one h hqn p).mp hb
      exact absurd ⟨k, q, e, hk⟩ (hs p hpn hp)
/-! the order: by how many they reach, then by number -/
def prd (cm : Nat) (rr : Nat → Nat) (r i p : Nat) : Bool := cm.testBit p && (decide (r < rr p) || (decide (rr p = r) && decide (p < i)))
def prc (cm : Nat) (rr : Nat → Nat) (n r i : Nat) : Nat := sumT (fun p => if prd cm rr r i p then 1 else 0) n
def bef (rr : Nat → Nat) (p q : Nat) : Prop := rr q < rr p ∨ (rr p = rr q ∧ p < q)
def ODi (cm : Nat) (rr : Nat → Nat) (n r i fl : Nat) (od : Nat → Nat) : Prop := fl = prc cm rr n r i ∧ (∀ k, k < fl → od k < n ∧ prd cm rr r i (od k) = true) ∧ (∀ p, p < n → prd cm rr r i p = true → ∃ k, k < fl ∧ od k = p) ∧ ∀ j k, j < k → k < fl → bef rr (od j) (od k)
theorem sumT_add1 {g g' : Nat → Nat} {p : Nat} (h : ∀ i, i ≠ p → g' i = g i) (h0 : g p = 0) (h1 : g' p = 1) : ∀ k, p < k → sumT g' k = sumT g k + 1
  | 0, hp => by omega
  | k + 1, hp => by
    unfold sumT
    by_cases e : p = k
    · subst e
      rw [sumT_cg (g := g') (g' := g) p (fun i hi => h i (by omega)), h0, h1]
    · rw [sumT_add1 h h0 h1 k (by omega), h k (by omega)]
      omega
theorem prd_s {cm : Nat} {rr : Nat → Nat} {r i p : Nat} (h : p ≠ i) : prd cm rr r (i + 1) p = prd cm rr r i p := by
  unfold prd
  congr 2
  congr 1
  by_cases g : p < i
  · rw [decide_eq_true g, decide_eq_true (show p < i + 1 by omega)]
  · rw [decide_eq_false g, decide_eq_false (show ¬ p < i + 1 by omega)]
theorem prd_i {cm : Nat} {rr : Nat → Nat} {r i : Nat} : prd cm rr r i i = (cm.testBit i && decide (r < rr i)) := by
  unfold prd
  simp
theorem prd_i1 {cm : Nat} {rr : Nat → Nat} {r i : Nat} : prd cm rr r (i + 1) i = (cm.testBit i && decide (r ≤ rr i)) := by
  unfold prd
  by_cases g : r < rr i
  · simp [g, Nat.le_of_lt g]
  · by_cases g2 : rr i = r
    · simp [g2]
    · simp [g, g2, show ¬ r ≤ rr i by omega]
theorem ODi_no {cm : Nat} {rr : Nat → Nat} {n r i fl : Nat} {od : Nat → Nat} (h : ODi cm rr n r i fl od) (hi : i < n) (hno : ¬ (cm.testBit i = true ∧ rr i = r)) : ODi cm rr n r (i + 1) fl od := by
  have e : ∀ p, prd cm rr r (i + 1) p = prd cm rr r i p := by
    intro p
    by_cases g : p = i
    · subst g
      rw [prd_i, prd_i1]
      cases hc : cm.testBit p with
      | false => rfl
      | true =>
        have : rr p ≠ r := fun q => hno ⟨hc, q⟩
        by_cases g : r < rr p
        · simp [g, Nat.le_of_lt g]
        · simp [g, show ¬ r ≤ rr p by omega]
    · exact prd_s g
  obtain ⟨h1, h2, h3, h4⟩ := h
  refine ⟨?_, fun k hk => by rw [e]; exact h2 k hk, fun p hp => by rw [e]; exact h3 p hp, h4⟩
  rw [h1]
  unfold prc
  exact sumT_cg n (fun p _ => by rw [e])
theorem ODi_yes {cm : Nat} {rr : Nat → Nat} {n r i fl : Nat} {od : Nat → Nat} (h : ODi cm rr n r i fl od) (hi : i < n) (hc : cm.testBit i = true) (hr : rr i = r) : ODi cm rr n r (i + 1) (fl + 1) (fu od fl i) := by
  obtain ⟨h1, h2, h3, h4⟩ := h
  have pi0 : prd cm rr r i i = false := by rw [prd_i, hc, hr]; simp
  have pi1 : prd cm rr r (i + 1) i = true := by rw [prd_i1, hc, hr]; simp
  refine ⟨?_, fun k hk => ?_, fun p hp hpp => ?_, fun j k hjk hk => ?_⟩
  · rw [h1]
    unfold prc
    refine (sumT_add1 (p := i) (fun p hp => ?_) ?_ ?_ n hi).symm
    · rw [prd_s hp]
    · rw [pi0]
      rfl
    · rw [pi1]
      rfl
  · by_cases e : k = fl
    · subst e
      simp only [fu, if_true]
      exact ⟨hi, pi1⟩
    · obtain ⟨a, b⟩ := h2 k (by omega)
      have ne : od k ≠ i := fun q => by rw [q, pi0] at b; cases b
      simp only [fu, e, if_false]
      rw [prd_s ne]
      exact ⟨a, b⟩
  · by_cases e : p = i
    · subst e
      exact ⟨fl, by omega, by simp [fu]⟩
    · rw [prd_s e] at hpp
      obtain ⟨k, hk, hk2⟩ := h3 p hp hpp
      exact ⟨k, by omega, by simp [fu, show k ≠ fl by omega, hk2]⟩
  · by_cases e : k = fl
    · subst e
      have ej : fu od k i j = od j := by simp [fu, show j ≠ k by omega]
      have ek : fu od k i k = i := by simp [fu]
      rw [ej, ek]
      obtain ⟨-, b⟩ := h2 j hjk
      unfold prd at b
      rw [Bool.and_eq_true, Bool.or_eq_true, Bool.and_eq_true, decide_eq_true_iff, decide_eq_true_iff, decide_eq_true_iff] at b
      rcases b.2 with g | ⟨g1, g2⟩
      · exact Or.inl (by omega)
      · exact Or.inr ⟨by omega, g2⟩
    · have ej : fu od fl i j = od j := by simp [fu, show j ≠ fl by omega]
      have ek : fu od fl i k = od k := by simp [fu, e]
      rw [ej, ek]
      exact h4 j k hjk (by omega)
theorem ODi_nx {cm : Nat} {rr : Nat → Nat} {n r fl : Nat} {od : Nat → Nat} (h : ODi cm rr n (r + 1) n fl od) : ODi cm rr n r 0 fl od := by
  have e : ∀ p, p < n → prd cm rr r 0 p = prd cm rr (r + 1) n p := by
    intro p hp
    unfold prd
    congr 1
    by_cases g : r + 1 < rr p
    · simp [g, show r < rr p by omega]
    · by_cases g2 : rr p = r + 1
      · simp [g2, hp]
      · simp [g, g2, show ¬ r < rr p by omega]
  obtain ⟨h1, h2, h3, h4⟩ := h
  refine ⟨?_, fun k hk => ?_, fun p hp => by rw [e p hp]; exact h3 p hp, h4⟩
  · rw [h1]
    unfold prc
    exact sumT_cg n (fun p hp => by rw [e p hp])
  · obtain ⟨a, b⟩ := h2 k hk
    exact ⟨a, by rw [e _ a]; exact b⟩
theorem sumT_ct (cm : Nat) : ∀ k, sumT (fun p => if cm.testBit p then 1 else 0) k = ct cm k
  | 0 => rfl
  | k + 1 => by
    unfold sumT ct
    rw [sumT_ct cm k]
theorem ODi_lt {cm : Nat} {rr : Nat → Nat} {n r i fl : Nat} {od : Nat → Nat} (h : ODi cm rr n r i fl od) (hi : i < n) (hc : cm.testBit i = true) (hr : rr i = r) : fl < ct cm n := by
  have := (ODi_yes h hi hc hr).1
  have le : prc cm rr n r (i + 1) ≤ ct cm n := by
    rw [← sumT_ct]
    unfold prc
    refine sumT_le n (fun p _ => ?_)
    split
    · rename_i g
      unfold prd at g
      rw [Bool.and_eq_true] at g
      rw [if_pos g.1]
      exact Nat.le_refl _
    · exact Nat.zero_le _
  omega
theorem ODi_end {Y : Yd} {n fl : Nat} {od : Nat → Nat} (h : YOK n Y) (hn1 : 1 ≤ n) (hO : ODi (rF Y n 1) (rk Y n) n 0 0 fl od) : OD Y n (ct (rF Y n 1) 10) od ∧ fl = ct (rF Y n 1) 10 := by
  have hn := h.1
  have hl : rF Y n 1 < 2 ^ n := rF_lt h (Nat.one_lt_two_pow (by omega))
  obtain ⟨h1, h2, h3, h4⟩ := hO
  have e : ∀ p, p < n → prd (rF Y n 1) (rk Y n) 0 0 p = (rF Y n 1).testBit p := by
    intro p hp
    have := rk_in h hp
    unfold prd
    rw [decide_eq_true (show 0 < rk Y n p by omega)]
    simp
  have hfl : fl = ct (rF Y n 1) 10 := by
    rw [h1, ct_10 hl hn, ← sumT_ct]
    unfold prc
    exact sumT_cg n (fun p hp => by rw [e p hp])
  rw [← hfl]
  refine ⟨⟨?_, fun k hk => ?_, fun p hp => ?_, fun j k hj hk hjk => ?_, fun hs j k hj hk he => ?_⟩, rfl⟩
  · rw [hfl, ct_10 hl hn]
    exact ct_le _ n
  · obtain ⟨a, b⟩ := h2 k hk
    rw [e _ a] at b
    exact (rF_come h hn1 _).mp b
  · have hpn := rc_lt h hn1 hp
    exact h3 p hpn (by rw [e p hpn]; exact (rF_come h hn1 p).mpr hp)
  · rcases Nat.lt_trichotomy j k with g | g | g
    · have := h4 j k g hk
      unfold bef at this
      rw [hjk] at this
      omega
    · exact g
    · have := h4 k j g hj
      unfold bef at this
      rw [hjk] at this
      omega
  · obtain ⟨a, b⟩ := h2 j hj
    rw [e _ a] at b
    have hr := rk_lt h hn1 hs ((rF_come h hn1 _).mp b) he
    rcases Nat.lt_trichotomy j k with g | g | g
    · exact g
    · subst g; omega
    · have := h4 k j g hj
      unfold bef at this
      omega
