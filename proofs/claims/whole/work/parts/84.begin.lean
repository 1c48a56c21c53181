/-! beginnings: what the search finds is the least -/
def lxl (a b : Nat → Nat) (n : Nat) : Prop := ∃ p, p < n ∧ a p < b p ∧ ∀ q, q < p → a q = b q
def eqn (a b : Nat → Nat) (n : Nat) : Prop := ∀ p, p < n → a p = b p
def kle (F : Nat) (b : Nat → Nat) (F' : Nat) (b' : Nat → Nat) (n : Nat) : Prop := F < F' ∨ (F = F' ∧ (lxl b b' n ∨ eqn b b' n))
theorem lxl_tr {a b c : Nat → Nat} {n : Nat} (h : lxl a b n) (g : lxl b c n) : lxl a c n := by
  obtain ⟨p, h1, h2, h3⟩ := h
  obtain ⟨q, g1, g2, g3⟩ := g
  rcases Nat.lt_trichotomy p q with e | e | e
  · exact ⟨p, h1, by rw [← g3 p e]; exact h2, fun r hr => (h3 r hr).trans (g3 r (by omega))⟩
  · subst e
    exact ⟨p, h1, by omega, fun r hr => (h3 r hr).trans (g3 r hr)⟩
  · exact ⟨q, g1, by rw [h3 q e]; exact g2, fun r hr => (h3 r (by omega)).trans (g3 r hr)⟩
theorem lxl_eq {a b c : Nat → Nat} {n : Nat} (h : lxl a b n) (g : eqn b c n) : lxl a c n := by
  obtain ⟨p, h1, h2, h3⟩ := h
  exact ⟨p, h1, by rw [← g p h1]; exact h2, fun r hr => (h3 r hr).trans (g r (by omega))⟩
theorem eq_lxl {a b c : Nat → Nat} {n : Nat} (h : eqn a b n) (g : lxl b c n) : lxl a c n := by
  obtain ⟨p, h1, h2, h3⟩ := g
  exact ⟨p, h1, by rw [h p h1]; exact h2, fun r hr => (h r (by omega)).trans (h3 r hr)⟩
theorem kle_rf {F : Nat} {b : Nat → Nat} {n : Nat} : kle F b F b n := Or.inr ⟨rfl, Or.inr (fun _ _ => rfl)⟩
theorem kle_tr {F G H : Nat} {a b c : Nat → Nat} {n : Nat} (h : kle F a G b n) (g : kle G b H c n) : kle F a H c n := by
  rcases h with h | ⟨rfl, h⟩
  · rcases g with g | ⟨rfl, -⟩
    · exact Or.inl (by omega)
    · exact Or.inl h
  · rcases g with g | ⟨rfl, g⟩
    · exact Or.inl g
    · refine Or.inr ⟨rfl, ?_⟩
      rcases h with h | h
      · rcases g with g | g
        · exact Or.inl (lxl_tr h g)
        · exact Or.inl (lxl_eq h g)
      · rcases g with g | g
        · exact Or.inl (eq_lxl h g)
        · exact Or.inr (fun p hp => (h p hp).trans (g p hp))
theorem lx_tri (a b : Nat → Nat) : ∀ n, lxl a b n ∨ eqn a b n ∨ lxl b a n
  | 0 => Or.inr (Or.inl (fun p hp => by omega))
  | n + 1 => by
    rcases lx_tri a b n with ⟨p, h1, h2, h3⟩ | h | ⟨p, h1, h2, h3⟩
    · exact Or.inl ⟨p, by omega, h2, h3⟩
    · rcases Nat.lt_trichotomy (a n) (b n) with g | g | g
      · exact Or.inl ⟨n, by omega, g, h⟩
      · refine Or.inr (Or.inl (fun p hp => ?_))
        by_cases e : p = n
        · subst e; exact g
        · exact h p (by omega)
      · exact Or.inr (Or.inr ⟨n, by omega, g, fun q hq => (h q hq).symm⟩)
    · exact Or.inr (Or.inr ⟨p, by omega, h2, h3⟩)
theorem un_ge {T U ch : Nat → Nat} : ∀ k, (∀ p, p < k → U p = ch p ∨ ch p = T p) → un T ch k ≤ un T U k ∧ (un T ch k = un T U k → ∀ p, p < k → U p = ch p)
  | 0, _ => ⟨Nat.le_refl _, fun _ p hp => by omega⟩
  | k + 1, h => by
    obtain ⟨h1, h2⟩ := un_ge (T := T) (U := U) (ch := ch) k (fun p hp => h p (by omega))
    have hk := h k (by omega)
    unfold un
    rcases hk with e | e
    · rw [e]
      refine ⟨by omega, fun g p hp => ?_⟩
      by_cases q : p = k
      · subst q; exact e
      · exact h2 (by omega) p (by omega)
    · rw [if_pos e]
      refine ⟨by omega, fun g p hp => ?_⟩
      have g2 : un T ch k = un T U k ∧ U k = T k := by
        by_cases q : U k = T k
        · rw [if_pos q] at g; exact ⟨by omega, q⟩
        · rw [if_neg q] at g; omega
      by_cases q : p = k
      · subst q; rw [g2.2, e]
      · exact h2 g2.1 p (by omega)
/-! trucks from any moment on -/
def okR (Y : Yd) (wt : Nat → Nat) : Nat → Nat → (Nat → Nat) → Prop
  | 0, _, _ => True
  | r + 1, k, U => (gt Y none U).1 = some (wt k) ∧ okR Y wt r (k + 1) (gt Y none U).2.1
def okM (Y : Yd) (wt : Nat → Nat) (r k : Nat) (s : Rs) : Prop := (ro Y none (500 - s.2.2) s).1 < 10 ∧ (ro Y none (500 - s.2.2) s).1 = wt k ∧ okR Y wt r (k + 1) (ro Y none (500 - s.2.2) s).2.1
theorem itF_ok {Y : Yd} {T wt : Nat → Nat} : ∀ f k, itF Y none T wt f k = true ↔ okR Y wt f k (tk Y none T k)
  | 0, k => by simp [itF, okR]
  | f + 1, k => by
    unfold itF okR
    by_cases g : sd Y none T k = some (wt k)
    · rw [if_pos g, itF_ok f (k + 1)]
      exact ⟨fun q => ⟨g, q⟩, fun q => q.2⟩
    · rw [if_neg g]
      exact ⟨fun q => (by cases q), fun q => absurd q.1 g⟩
theorem okR_M {Y : Yd} {wt : Nat → Nat} {r k : Nat} {U : Nat → Nat} : okR Y wt (r + 1) k U ↔ okM Y wt r k (10, U, 0) := by
  show ((gt Y none U).1 = some (wt k) ∧ okR Y wt r (k + 1) (gt Y none U).2.1) ↔ ((ro Y none 500 (10, U, 0)).1 < 10 ∧ (ro Y none 500 (10, U, 0)).1 = wt k ∧ okR Y wt r (k + 1) (ro Y none 500 (10, U, 0)).2.1)
  unfold gt
  by_cases g : (ro Y none 500 (10, U, 0)).1 < 10
  · rw [if_pos g]
    constructor
    · rintro ⟨h1, h2⟩
      exact ⟨g, by injection h1, h2⟩
    · rintro ⟨-, h1, h2⟩
      exact ⟨by rw [h1], h2⟩
  · rw [if_neg g]
    exact ⟨fun q => (by cases q.1), fun q => absurd q.1 g⟩
theorem okM_end {Y : Yd} {wt : Nat → Nat} {r k a m : Nat} {V : Nat → Nat} (ha : a < 10) : okM Y wt r k (a, V, m) ↔ (a = wt k ∧ okR Y wt r (k + 1) V) := by
  have e : ro Y none (500 - m) (a, V, m) = (a, V, m) := by
    cases h : 500 - m with
    | zero => rfl
    | succ j => simp [ro, ha]
  unfold okM
  dsimp only
  rw [e]
  exact ⟨fun q => q.2, fun q => ⟨ha, q⟩⟩
theorem okM_far {Y : Yd} {wt : Nat → Nat} {r k a m : Nat} {V : Nat → Nat} (ha : ¬ a < 10) (hm : 500 ≤ m) : ¬ okM Y wt r k (a, V, m) := by
  intro h
  have h1 := h.1
  dsimp only at h1
  rw [show 500 - m = 0 by omega] at h1
  exact ha h1
theorem okM_mv {Y : Yd} {wt : Nat → Nat} {r k a m : Nat} {V : Nat → Nat} (ha : ¬ a < 10) (hm : m < 500) : okM Y wt r k (a, V, m) ↔ okM Y wt r k (mv Y none (a, V, m)) := by
  have e : ro Y none (500 - m) (a, V, m) = ro Y none (500 - (m + 1)) (mv Y none (a, V, m)) := by
    rw [show 500 - m = (500 - (m + 1)) + 1 by omega]
    show (if a < 10 then _ else _) = _
    rw [if_neg ha]
  unfold okM
  have e2 : (mv Y none (a, V, m)).2.2 = m + 1 := rfl
  rw [e2]
  dsimp only
  rw [e]
theorem ro_lds {n : Nat} {Y : Yd} (h : YOK n Y) : ∀ (f i m : Nat) (V : Nat → Nat), i < n → TOK n Y V → (ro Y none f (10 + i, V, m)).1 < 10 → lds Y n i (ro Y none f (10 + i, V, m)).1
  | 0, i, m, V, _, _, hl => by
    have : 10 + i < 10 := hl
    omega
  | f + 1, i, m, V, hi, hV, hl => by
    have e : ro Y none (f + 1) (10 + i, V, m) = ro Y none f (mv Y none (10 + i, V, m)) := by
      show (if 10 + i < 10 then _ else _) = _
      rw [if_neg (by omega)]
    rw [e] at hl ⊢
    have hs := hV i hi
    have e1 : mv Y none (10 + i, V, m) = (pl Y i (V i), fu V i (tn Y i (V i)), m + 1) := by simp [mv]
    rw [e1] at hl ⊢
    by_cases g : pl Y i (V i) < 10
    · have e2 : ro Y none f (pl Y i (V i), fu V i (tn Y i (V i)), m + 1) = (pl Y i (V i), fu V i (tn Y i (V i)), m + 1) := by
        cases f with
        | zero => rfl
        | succ f => simp [ro, g]
      rw [e2]
      exact ⟨0, i, rfl, hi, wa Y i (V i), wa_in h hi hs, rfl⟩
    · obtain ⟨j, hj⟩ : ∃ j, pl Y i (V i) = 10 + j := ⟨pl Y i (V i) - 10, by omega⟩
      have he := pl_eg h hi hs hj
      have hjn := eg_lt h he
      rw [hj] at hl ⊢
      obtain ⟨k, p, q1, q2, q3⟩ := ro_lds h f j (m + 1) _ hjn (hV.fu (fun _ => tn_in h hi hs)) hl
      exact ⟨k + 1, p, ⟨j, he, q1⟩, q2, q3⟩
/-! what may still come true, the switches of D chosen -/
def mixs (D : Nat) (S U : Nat → Nat) : Nat → Nat := fun p => if D.testBit p then S p else U p
def EB (Y : Yd) (n : Nat) (wt : Nat → Nat) (wn D : Nat) (ch S : Nat → Nat) (k a m : Nat) (U : Nat → Nat) : Prop := TOK n Y U ∧ (∀ p, p < n → D.testBit p = true → U p = ch p) ∧ okM Y wt (wn - 1 - k) k (a, mixs D S U, m)
def BP (T : Nat → Nat) (n : Nat) (E : (Nat → Nat) → Prop) (F : Nat) (b : Nat → Nat) (F' : Nat) (b' : Nat → Nat) : Prop := (∀ U, E U → kle F' b' (un T U n) U n) ∧ ((F' = F ∧ b' = b) ∨ ∃ U, E U ∧ F' = un T U n ∧ eqn b' U n) ∧ kle F' b' F b n
theorem BP_no {T : Nat → Nat} {n : Nat} {E : (Nat → Nat) → Prop} {F : Nat} {b : Nat → Nat} (h : ∀ U, ¬ E U) : BP T n E F b F b := ⟨fun U q => absurd q (h U), Or.inl ⟨rfl, rfl⟩, kle_rf⟩
theorem BP_sub {T : Nat → Nat} {n : Nat} {E E' : (Nat → Nat) → Prop} {F F' : Nat} {b b' : Nat → Nat} (h : BP T n E F b F' b') (e : ∀ U, E U ↔ E' U) : BP T n E' F b F' b' := by
  obtain ⟨h1, h2, h3⟩ := h
  refine ⟨fun U q => h1 U ((e U).mpr q), ?_, h3⟩
  rcases h2 with h2 | ⟨U, q, q2⟩
  · exact Or.inl h2
  · exact Or.inr ⟨U, (e U).mp q, q2⟩
/-- two searches, one behind the other -/
theorem BP_or {T : Nat → Nat} {n : Nat} {E E' : (Nat → Nat) → Prop} {F G H : Nat} {a b c : Nat → Nat} (h : BP T n E F a G b) (g : BP T n E' G b H c) : BP T n (fun U => E U ∨ E' U) F a H c := by
  obtain ⟨h1, h2, h3⟩ := h
  obtain ⟨g1, g2, g3⟩ := g
  refine ⟨fun U q => ?_, ?_, kle_tr g3 h3⟩
  · rcases q with q | q
    · exact kle_tr g3 (h1 U q)
    · exact g1 U q
  · rcases g2 with ⟨e1, e2⟩ | ⟨U, q, q1, q2⟩
    · subst e1
      subst e2
      rcases h2 with h2 | ⟨U, q, q2⟩
      · exact Or.inl h2
      · exact Or.inr ⟨U, Or.inl q, q2⟩
    · exact Or.inr ⟨U, Or.inr q, q1, q2⟩
/-- a stand that is passed over, as it is worse already -/
theorem BP_cut {T : Nat → Nat} {n : Nat} {E : (Nat → Nat) → Prop} {F : Nat} {b ch : Nat → Nat} (hE : ∀ U, E U → ∀ p, p < n → U p = ch p ∨ ch p = T p) (hF : F < un T ch n) : BP T n E F b F b := by
  refine ⟨fun U q => ?_, Or.inl ⟨rfl, rfl⟩, kle_rf⟩
  have := (un_ge (T := T) n (hE U q)).1
  exact Or.inl (by omega)
/-- all came true: the chosen ones are kept, if they are better -/
theorem BP_leaf {T : Nat → Nat} {n : Nat} {E : (Nat → Nat) → Prop} {F : Nat} {b ch : Nat → Nat} (hc : E ch) (hE : ∀ U, E U → ∀ p, p < n → U p = ch p ∨ ch p = T p) : (un T ch n < F ∨ (un T ch n = F ∧ lxl ch b n) → BP T n E F b (un T ch n) ch) ∧ (¬ (un T ch n < F ∨ (un T ch n = F ∧ lxl ch b n)) → BP T n E F b F b) := by
  have all : ∀ U, E U → kle (un T ch n) ch (un T U n) U n := by
    intro U q
    obtain ⟨h1, h2⟩ := un_ge (T := T) n (hE U q)
    rcases Nat.lt_or_ge (un T ch n) (un T U n) with g | g
    · exact Or.inl g
    · have e : un T ch n = un T U n := by omega
      exact Or.inr ⟨e, Or.inr (fun p hp => (h2 e p hp).symm)⟩
  refine ⟨fun g => ⟨all, Or.inr ⟨ch, hc, rfl, fun _ _ => rfl⟩, ?_⟩, fun g => ⟨fun U q => kle_tr ?_ (all U q), Or.inl ⟨rfl, rfl⟩, kle_rf⟩⟩
  · rcases g with g | ⟨g1, g2⟩
    · exact Or.inl g
    · exact Or.inr ⟨g1, Or.inl g2⟩
  · rcases Nat.lt_trichotomy (un T ch n) F with e | e | e
    · exact absurd (Or.inl e) g
    · rcases lx_tri ch b n with q | q | q
      · exact absurd (Or.inr ⟨e, q⟩) g
      · exact Or.inr ⟨e.symm, Or.inr (fun p hp => (q p hp).symm)⟩
      · exact Or.inr ⟨e.symm, Or.inl q⟩
    · exact Or.inl e
section EE
variable {Y : Yd} {n : Nat} {wt : Nat → Nat} {wn D : Nat} {ch S : Nat → Nat} {k a m : Nat}
theorem EB_ne (ha : a < 10) (hw : a ≠ wt k) : ∀ U, ¬ EB Y n wt wn D ch S k a m U := fun U q => hw ((okM_end ha).mp q.2.2).1
theorem EB_far (ha : ¬ a < 10) (hm : 500 ≤ m) : ∀ U, ¬ EB Y n wt wn D ch S k a m U := fun U q => okM_far ha hm q.2.2
theorem mixs_ok {U : Nat → Nat} (hS : ∀ p, p < n → D.testBit p = true → S p < sm Y p) (hU : TOK n Y U) : TOK n Y (mixs D S U) := fun p hp => by
  unfold mixs
  split
  · exact hS p hp ‹_›
  · exact hU p hp
theorem EB_lead (h : YOK n Y) {i : Nat} (hi : i < n) (hS : ∀ p, p < n → D.testBit p = true → S p < sm Y p) (hl : ¬ lds Y n i (wt k)) : ∀ U, ¬ EB Y n wt wn D ch S k (10 + i) m U := fun U q => by
  obtain ⟨q1, q2, q3, q4, -⟩ := q
  have := ro_lds h _ i m _ hi (mixs_ok hS q1) q3
  dsimp only at q4
  rw [q4] at this
  exact hl this
theorem EB_last (ha : a < 10) (hw : a = wt k) (hk : k + 1 = wn) (U : Nat → Nat) : EB Y n wt wn D ch S k a m U ↔ (TOK n Y U ∧ ∀ p, p < n → D.testBit p = true → U p = ch p) := by
  unfold EB
  rw [okM_end ha, show wn - 1 - k = 0 by omega]
  exact ⟨fun q => ⟨q.1, q.2.1⟩, fun q => ⟨q.1, q.2, hw, trivial⟩⟩
theorem EB_next (ha : a < 10) (hw : a = wt k) (hk : k + 1 < wn) (U : Nat → Nat) : EB Y n wt wn D ch S k a m U ↔ EB Y n wt wn D ch S (k + 1) 10 0 U := by
  unfold EB
  rw [okM_end ha, show wn - 1 - k = (wn - 1 - (k + 1)) + 1 by omega, okR_M]
  exact ⟨fun q => ⟨q.1, q.2.1, q.2.2.2⟩, fun q => ⟨q.1, q.2.1, hw, q.2.2⟩⟩
theorem EB_pass {i : Nat} (hD : D.testBit i = true) (hm : m < 500) (U : Nat → Nat) : EB Y n wt wn D ch S k (10 + i) m U ↔ EB Y n wt wn D ch (fu S i (tn Y i (S i))) k (pl Y i (S i)) (m + 1) U := by
  unfold EB
  rw [okM_mv (by omega) hm]
  have e : mv Y none (10 + i, mixs D S U, m) = (pl Y i (S i), mixs D (fu S i (tn Y i (S i))) U, m + 1) := by
    have e1 : mixs D S U i = S i := by unfold mixs; rw [if_pos hD]
    have e2 : fu (mixs D S U) i (tn Y i (S i)) = mixs D (fu S i (tn Y i (S i))) U := by
      funext p
      by_cases g : p = i
      · subst g; simp [fu, mixs, hD]
      · simp [fu, mixs, g]
    simp only [mv, Nat.add_sub_cancel_left, e1]
    rw [if_neg (by simp), e2]
  rw [e]
theorem D_or {i : Nat} (p : Nat) : (D ||| 2 ^ i).testBit p = true ↔ (D.testBit p = true ∨ p = i) := by
  rw [Nat.testBit_or, Bool.or_eq_true, bit_one]
  exact ⟨fun q => q.elim Or.inl (fun q => Or.inr q.symm), fun q => q.elim Or.inl (fun q => Or.inr q.symm)⟩
theorem EB_choose {i : Nat} (hi : i < n) (hD : ¬ D.testBit i = true) (U : Nat → Nat) : EB Y n wt wn D ch S k (10 + i) m U ↔ ∃ s, s < sm Y i ∧ EB Y n wt wn (D ||| 2 ^ i) (fu ch i s) (fu S i s) k (10 + i) m U := by
  have mx : ∀ s, U i = s → mixs (D ||| 2 ^ i) (fu S i s) U = mixs D S U := by
    intro s hs
    funext p
    unfold mixs
    by_cases g : p = i
    · subst g
      rw [if_pos ((D_or p).mpr (Or.inr rfl)), if_neg hD, hs]
      simp [fu]
    · by_cases q : D.testBit p = true
      · rw [if_pos ((D_or p).mpr (Or.inl q)), if_pos q]
        simp [fu, g]
      · rw [if_neg (fun r => by rcases (D_or p).mp r with r | r; exact q r; exact g r), if_neg q]
  constructor
  · rintro ⟨q1, q2, q3⟩
    refine ⟨U i, q1 i hi, q1, fun p hp hb => ?_, by rw [mx _ rfl]; exact q3⟩
    rcases (D_or p).mp hb with r | r
    · have : p ≠ i := fun e => hD (by rw [← e]; exact r)
      simp [fu, this, q2 p hp r]
    · subst r; simp [fu]
  · rintro ⟨s, hs, q1, q2, q3⟩
    have e : U i = s := by
      have := q2 i hi ((D_or i).mpr (Or.inr rfl))
      rw [this]
      simp [fu]
    refine ⟨q1, fun p hp hb => ?_, by rw [mx s e] at q3; exact q3⟩
    have := q2 p hp ((D_or p).mpr (Or.inl hb))
    have ne : p ≠ i := fun e => hD (by rw [← e]; exact hb)
    rw [this]
    simp [fu, ne]
end EE
/-! the reference's answer -/
theorem en_lxl {n : Nat} {Y : Yd} {U V : Nat → Nat} (hU : TOK n Y U) (hV : TOK n Y V) : ∀ k, k ≤ n → lxl U V k → en Y U k < en Y V k
  | 0, _, ⟨p, hp, _⟩ => by omega
  | k + 1, hk, ⟨p, hp, h2, h3⟩ => by
    unfold en
    have hu := hU k (by omega)
    by_cases e : p = k
    · subst e
      rw [en_cg (U := U) (U' := V) p (fun q hq => h3 q hq)]
      omega
    · have ih := en_lxl hU hV k (by omega) ⟨p, by omega, h2, h3⟩
      have : (en Y U k + 1) * sm Y k ≤ en Y V k * sm Y k := Nat.mul_le_mul_right _ ih
      rw [Nat.add_mul] at this
      omega
theorem bgF_spec {Y : Yd} {n : Nat} {T wt : Nat → Nat} {wn : Nat} (hn : n ≤ 6) : ∀ k, match (bgF Y n T wt wn k).1 with
    | none => (bgF Y n T wt wn k).2 = 11 ∧ ∀ c, c < k → ¬ itF Y none (ds Y n c) wt wn 0 = true
    | some b => b < k ∧ itF Y none (ds Y n b) wt wn 0 = true ∧ (bgF Y n T wt wn k).2 = un T (ds Y n b) n ∧ ∀ c, c < k → itF Y none (ds Y n c) wt wn 0 = true → (bgF Y n T wt wn k).2 < un T (ds Y n c) n ∨ ((bgF Y n T wt wn k).2 = un T (ds Y n c) n ∧ b ≤ c)
  | 0 => ⟨rfl, fun c hc => by omega⟩
  | k + 1 => by
    have ih := bgF_spec (Y := Y) (T := T) (wt := wt) (wn := wn) hn k
    have hu := un_le T (ds Y n k) n
    by_cases g : un T (ds Y n k) n < (bgF Y n T wt wn k).2 ∧ itF Y none (ds Y n k) wt wn 0 = true
    · have e : bgF Y n T wt wn (k + 1) = (some k, un T (ds Y n k) n) := by
        show (if _ then _ else _) = _
        rw [if_pos g]
      rw [e]
      refine ⟨by omega, g.2, rfl, fun c hc hct => ?_⟩
      dsimp only
      by_cases q : c = k
      · subst q; exact Or.inr ⟨rfl, Nat.le_refl _⟩
      · cases hb : (bgF Y n T wt wn k).1 with
        | none =>
          rw [hb] at ih
          exact absurd hct (ih.2 c (by omega))
        | some b =>
          rw [hb] at ih
          rcases ih.2.2.2 c (by omega) hct with r | ⟨r, -⟩
          · exact Or.inl (by omega)
          · exact Or.inl (by omega)
    · have e : bgF Y n T wt wn (k + 1) = bgF Y n T wt wn k := by
        show (if _ then _ else _) = _
        rw [if_neg g]
      rw [e]
      cases hb : (bgF Y n T wt wn k).1 with
      | none =>
        rw [hb] at ih
        refine ⟨ih.1, fun c hc hct => ?_⟩
        by_cases q : c = k
        · subst q
          exact g ⟨by rw [ih.1]; omega, hct⟩
        · exact ih.2 c (by omega) hct
      | some b =>
        rw [hb] at ih
        refine ⟨by have := ih.1; omega, ih.2.1, ih.2.2.1, fun c hc hct => ?_⟩
        by_cases q : c = k
        · subst q
          have : (bgF Y n T wt wn c).2 ≤ un T (ds Y n c) n := Nat.le_of_not_lt (fun r => g ⟨r, hct⟩)
          rcases Nat.lt_or_ge (bgF Y n T wt wn c).2 (un T (ds Y n c) n) with r | r
          · exact Or.inl r
          · exact Or.inr ⟨by omega, by have := ih.1; omega⟩
        · exact ih.2.2.2 c (by omega) hct
theorem itF_cg {n : Nat} {Y : Yd} (h : YOK n Y) (hn : 1 ≤ n) {wt : Nat → Nat} : ∀ (r k : Nat) (U V : Nat → Nat), TOK n Y U → (∀ p, p < n → U p = V p) → (okR Y wt r k U ↔ okR Y wt r k V)
  | 0, _, _, _, _, _ => Iff.rfl
  | r + 1, k, U, V, hU, he => by
    obtain ⟨e1, e2, -⟩ := gt_cg (q := none) h hn hU he
    unfold okR
    rw [e1, itF_cg h hn r (k + 1) _ _ (gt_ok h hn hU).2.1 e2]
/-- the search's end and the reference's are one -/
theorem begin_one {n : Nat} {Y : Yd} (h : YOK n Y) (hn1 : 1 ≤ n) (hn6 : n ≤ 6) {T wt b b' : Nat → Nat} {wn F' : Nat} (hB : BP T n (fun U => TOK n Y U ∧ okR Y wt wn 0 U) 11 b F' b') : match (bgF Y n T wt wn (pd Y n)).1 with
    | none => F' = 11
    | some c => F' = (bgF Y n T wt wn (pd Y n)).2 ∧ F' ≤ 6 ∧ eqn b' (ds Y n c) n := by
  have hs := bgF_spec (Y := Y) (T := T) (wt := wt) (wn := wn) hn6 (pd Y n)
  obtain ⟨h1, h2, -⟩ := hB
  have tr : ∀ U, TOK n Y U → okR Y wt wn 0 U → itF Y none (ds Y n (en Y U n)) wt wn 0 = true := by
    intro U hU hk
    rw [itF_ok]
    exact (itF_cg h hn1 wn 0 U _ hU (fun p hp => (ds_en h hU hp).symm)).mp hk
  cases hb : (bgF Y n T wt wn (pd Y n)).1 with
  | none =>
    rw [hb] at hs
    rcases h2 with ⟨e, -⟩ | ⟨U, ⟨q1, q2⟩, -⟩
    · exact e
    · exact absurd (tr U q1 q2) (hs.2 _ (en_lt q1 n (Nat.le_refl n)))
  | some c =>
    rw [hb] at hs
    obtain ⟨s1, s2, s3, s4⟩ := hs
    have hc : TOK n Y (ds Y n c) ∧ okR Y wt wn 0 (ds Y n c) := ⟨ds_ok h c, (itF_ok wn 0).mp s2⟩
    have hk := h1 _ hc
    have hu6 := un_le T (ds Y n c) n
    have hF : F' ≤ un T (ds Y n c) n := by
      rcases hk with q | ⟨q, -⟩ <;> omega
    rcases h2 with ⟨e, -⟩ | ⟨U, ⟨q1, q2⟩, q3, q4⟩
    · omega
    · have hlt := en_lt q1 n (Nat.le_refl n)
      have hun : un T (ds Y n (en Y U n)) n = un T U n := un_cg n (fun p hp => ⟨rfl, ds_en h q1 hp⟩)
      have hr := s4 _ hlt (tr U q1 q2)
      rw [hun] at hr
      have e1 : F' = (bgF Y n T wt wn (pd Y n)).2 := by
        rcases hr with r | ⟨r, -⟩ <;> omega
      refine ⟨e1, by omega, ?_⟩
      have hle : c ≤ en Y U n := by
        rcases hr with r | ⟨-, r⟩
        · omega
        · exact r
      have hb' : lxl b' (ds Y n c) n ∨ eqn b' (ds Y n c) n := by
        rcases hk with q | ⟨-, q⟩
        · omega
        · exact q
      rcases hb' with q | q
      · have := en_lxl (Y := Y) q1 (ds_ok h c) n (Nat.le_refl n) (eq_lxl (fun p hp => (q4 p hp).symm) q)
        rw [en_dsn s1] at this
        omega
      · exact q
