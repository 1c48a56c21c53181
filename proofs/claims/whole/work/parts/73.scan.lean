/-! where each switch stands on the page -/
def oo (K : Nat → Nat) (p : Nat) : Nat := if K p = 0 then 0 else 1
def c59 (pg : Nat → Nat) : Nat → Nat
  | 0 => 0
  | k + 1 => c59 pg k + if pg k = 59 then 1 else 0
def SI (pg : Nat → Nat) (k : Nat) (s : Ps) : Prop := ∃ st : Nat → Nat, st 0 = 0 ∧ (∀ p, p ≤ s.1 → (∀ i, st p ≤ i → i < st p + oo s.2.2.2.2.1 p + s.2.2.2.2.2.1 p → pg i ≠ 59) ∧ (s.2.2.2.2.1 p ≠ 0 ∨ 0 < s.2.2.2.2.2.1 p → sg (pg (st p)) = s.2.2.2.2.1 p) ∧ ∀ w, w < s.2.2.2.2.2.1 p → po (pg (st p + oo s.2.2.2.2.1 p + w)) = some (s.2.2.2.2.2.2 p w)) ∧ (∀ p, p < s.1 → pg (st p + oo s.2.2.2.2.1 p + s.2.2.2.2.2.1 p) = 59 ∧ st (p + 1) = st p + oo s.2.2.2.2.1 p + s.2.2.2.2.2.1 p + 1) ∧ st s.1 + oo s.2.2.2.2.1 s.1 + s.2.2.2.2.2.1 s.1 = k ∧ (s.2.2.1 = true ↔ s.2.2.2.2.1 s.1 ≠ 0)
def SX (pg : Nat → Nat) (k : Nat) (s : Ps) : Prop := (∀ i, i < k → ∀ to, po (pg i) = some to → to ≤ 10 + s.2.2.2.1) ∧ (s.2.2.2.1 = 0 ∨ ∃ i, i < k ∧ po (pg i) = some (10 + s.2.2.2.1)) ∧ (0 < k → (po (pg (k - 1)) = none ↔ s.2.1 = 0)) ∧ c59 pg k = s.1
theorem po_59 : po 59 = none := by decide
theorem po_sgn {c : Nat} (h : 0 < sg c) : po c = none := by
  cases hp : po c with
  | none => rfl
  | some to =>
    have := (po_sg hp).1
    omega
theorem SX_step {pg : Nat → Nat} {k : Nat} {s s' : Ps} (h : PsOK s) (hx : SX pg k s) (hg : goS (pg k) s = some s') : SX pg (k + 1) s' := by
  obtain ⟨m, w, b, mx, K, C, W⟩ := s
  obtain ⟨x1, x2, x3, x4⟩ := hx
  dsimp only at x1 x2 x3 x4
  have hno : po (pg k) = none → (∀ i, i < k + 1 → ∀ to, po (pg i) = some to → to ≤ 10 + mx) ∧ (mx = 0 ∨ ∃ i, i < k + 1 ∧ po (pg i) = some (10 + mx)) := by
    intro hn
    refine ⟨fun i hi to ht => ?_, ?_⟩
    · by_cases e : i = k
      · subst e; rw [hn] at ht; cases ht
      · exact x1 i (by omega) to ht
    · rcases x2 with g | ⟨i, hi, hp⟩
      · exact Or.inl g
      · exact Or.inr ⟨i, by omega, hp⟩
  unfold goS at hg
  dsimp only at hg
  by_cases gs : 0 < sg (pg k)
  · rw [if_pos gs] at hg
    split at hg
    · rename_i g
      cases hg
      obtain ⟨a, e⟩ := hno (po_sgn gs)
      refine ⟨a, e, fun _ => ?_, ?_⟩
      · simp only [Nat.add_sub_cancel]
        exact ⟨fun _ => g.1, fun _ => po_sgn gs⟩
      · have : pg k ≠ 59 := fun q => by rw [q] at gs; exact absurd gs (by decide)
        simp [c59, this, x4]
    · cases hg
  · rw [if_neg gs] at hg
    by_cases g59 : pg k = 59
    · rw [if_pos g59] at hg
      split at hg
      · cases hg
        have hn : po (pg k) = none := by rw [g59]; exact po_59
        obtain ⟨a, e⟩ := hno hn
        refine ⟨a, e, fun _ => ?_, ?_⟩
        · simp only [Nat.add_sub_cancel]
          exact ⟨fun _ => trivial, fun _ => hn⟩
        · simp [c59, g59, x4]
      · cases hg
    · rw [if_neg g59] at hg
      cases hp : po (pg k) with
      | none => rw [hp] at hg; cases hg
      | some to =>
        rw [hp] at hg
        dsimp only at hg
        split at hg
        · cases hg
        · cases hg
          refine ⟨fun i hi t ht => ?_, ?_, fun _ => ?_, ?_⟩
          · dsimp only
            by_cases e : i = k
            · subst e; rw [hp] at ht; cases ht; omega
            · have := x1 i (by omega) t ht
              omega
          · dsimp only
            by_cases g : to - 10 ≤ mx
            · rw [show max mx (to - 10) = mx by omega]
              rcases x2 with q | ⟨i, hi, hq⟩
              · exact Or.inl q
              · exact Or.inr ⟨i, by omega, hq⟩
            · refine Or.inr ⟨k, by omega, ?_⟩
              rw [hp]
              congr 1
              omega
          · simp only [Nat.add_sub_cancel]
            rw [hp]
            exact ⟨fun q => (by cases q), fun q => by omega⟩
          · simp [c59, g59, x4]
theorem SI_step {pg : Nat → Nat} {k : Nat} {s s' : Ps} (h : PsOK s) (hx : SI pg k s) (hg : goS (pg k) s = some s') : SI pg (k + 1) s' := by
  obtain ⟨m, w, b, mx, K, C, W⟩ := s
  obtain ⟨st, x0, x1, x2, x3, x4⟩ := hx
  obtain ⟨h1, h2, h3, h4, h5, h6, h7, h8⟩ := h
  dsimp only at x1 x2 x3 x4 h1 h2 h3 h4 h5 h6 h7 h8
  unfold goS at hg
  dsimp only at hg
  by_cases gs : 0 < sg (pg k)
  · rw [if_pos gs] at hg
    split at hg
    · rename_i g
      cases hg
      obtain ⟨g1, g2⟩ := g
      have hK : K m = 0 := by
        rw [g2] at x4
        exact Classical.byContradiction (fun q => by have := x4.mpr q; cases this)
      have hst : st m = k := by
        rw [h4, g1] at x3
        unfold oo at x3
        rw [if_pos hK] at x3
        omega
      have n59 : pg k ≠ 59 := fun q => by rw [q] at gs; exact absurd gs (by decide)
      have eo : ∀ p, p ≠ m → oo (fu K m (sg (pg k))) p = oo K p := fun p hp => by simp [oo, fu, hp]
      have eK : ∀ p, p ≠ m → fu K m (sg (pg k)) p = K p := fun p hp => by simp [fu, hp]
      have eom : oo (fu K m (sg (pg k))) m = 1 := by simp [oo, fu]; omega
      have eKm : fu K m (sg (pg k)) m = sg (pg k) := by simp [fu]
      refine ⟨st, x0, fun p hp => ?_, fun p hp => ?_, ?_, ?_⟩
      · dsimp only at hp ⊢
        by_cases e : p = m
        · subst e
          rw [eom, eKm, h4, g1, hst]
          refine ⟨fun i i1 i2 => ?_, fun _ => rfl, fun w' hw' => by omega⟩
          have : i = k := by omega
          subst this
          exact n59
        · rw [eo p e, eK p e]
          exact x1 p hp
      · dsimp only at hp ⊢
        rw [eo p (by omega)]
        exact x2 p hp
      · dsimp only
        rw [eom, h4, g1]
        omega
      · dsimp only
        rw [eKm]
        exact ⟨fun _ => by omega, fun _ => rfl⟩
    · cases hg
  · rw [if_neg gs] at hg
    by_cases g59 : pg k = 59
    · rw [if_pos g59] at hg
      split at hg
      · rename_i g
        cases hg
        obtain ⟨c1, c2⟩ := h6 (m + 1) (by omega)
        refine ⟨fu st (m + 1) (k + 1), by simp [fu, x0], fun p hp => ?_, fun p hp => ?_, ?_, ?_⟩
        · dsimp only at hp ⊢
          by_cases e : p = m + 1
          · subst e
            rw [c1, c2]
            have : oo K (m + 1) = 0 := by simp [oo, c1]
            rw [this]
            exact ⟨fun i i1 i2 => by omega, fun q => by omega, fun w' hw' => by omega⟩
          · have : fu st (m + 1) (k + 1) p = st p := by simp [fu, e]
            rw [this]
            exact x1 p (by omega)
        · dsimp only at hp ⊢
          have e1 : fu st (m + 1) (k + 1) p = st p := by simp [fu, show p ≠ m + 1 by omega]
          rw [e1]
          by_cases e : p = m
          · subst e
            rw [x3]
            exact ⟨g59, by simp [fu]⟩
          · have e2 : fu st (m + 1) (k + 1) (p + 1) = st (p + 1) := by simp [fu, show p ≠ m by omega]
            rw [e2]
            exact x2 p (by omega)
        · dsimp only
          have : oo K (m + 1) = 0 := by simp [oo, c1]
          rw [this, c2]
          simp [fu]
        · dsimp only
          rw [c1]
          exact ⟨fun q => (by cases q), fun q => absurd rfl q⟩
      · cases hg
    · rw [if_neg g59] at hg
      cases hp : po (pg k) with
      | none => rw [hp] at hg; cases hg
      | some to =>
        rw [hp] at hg
        dsimp only at hg
        split at hg
        · cases hg
        · rename_i hw3
          cases hg
          have eCm : fu C m (w + 1) m = w + 1 := by simp [fu]
          have eC : ∀ p, p ≠ m → fu C m (w + 1) p = C p := fun p hp => by simp [fu, hp]
          refine ⟨st, x0, fun p hpm => ?_, fun p hpm => ?_, ?_, x4⟩
          · dsimp only at hpm ⊢
            obtain ⟨y1, y2, y3⟩ := x1 p hpm
            by_cases e : p = m
            · subst e
              rw [eCm]
              rw [h4] at x3 y1 y2 y3
              refine ⟨fun i i1 i2 => ?_, fun _ => ?_, fun w' hw' => ?_⟩
              · by_cases e : i = k
                · subst e; exact g59
                · exact y1 i i1 (by omega)
              · by_cases q : K p ≠ 0 ∨ 0 < w
                · exact y2 q
                · have hK : K p = 0 := by omega
                  have : oo K p = 0 := by simp [oo, hK]
                  rw [this] at x3
                  have e : st p = k := by omega
                  rw [e, hK, (po_sg hp).1]
              · have eW : f2 W p w to p w' = if w' = w then to else W p w' := by simp [f2, fu]
                rw [eW]
                by_cases q : w' = w
                · subst q
                  rw [if_pos rfl, x3]
                  exact hp
                · rw [if_neg q]
                  exact y3 w' (by omega)
            · rw [eC p e]
              have eW : f2 W m w to p = W p := by simp [f2, e]
              rw [eW]
              exact ⟨y1, y2, y3⟩
          · dsimp only at hpm ⊢
            rw [eC p (by omega)]
            exact x2 p hpm
          · dsimp only
            rw [eCm]
            rw [h4] at x3
            omega
theorem SI_scan {pg : Nat → Nat} : ∀ f k s s', PsOK s → SI pg k s → SX pg k s → (scF pg f k s).2 = some s' → SI pg (k + f) s' ∧ SX pg (k + f) s'
  | 0, k, s, s', _, h1, h2, e => by
    cases e
    exact ⟨h1, h2⟩
  | f + 1, k, s, s', hp, h1, h2, e => by
    cases hg : goS (pg k) s with
    | none =>
      rw [show scF pg (f + 1) k s = (k, none) by simp [scF, hg]] at e
      cases e
    | some s2 =>
      rw [show scF pg (f + 1) k s = scF pg f (k + 1) s2 by simp [scF, hg]] at e
      have := SI_scan f (k + 1) s2 s' (goS_ok hp hg) (SI_step hp h1 hg) (SX_step hp h2 hg) e
      rw [show k + (f + 1) = k + 1 + f by omega]
      exact this
theorem SI_all {pg : Nat → Nat} {pn : Nat} {s : Ps} (e : (scF pg pn 0 ps0).2 = some s) : SI pg pn s ∧ SX pg pn s := by
  have := SI_scan (pg := pg) pn 0 ps0 s ps0_ok ⟨fun _ => 0, rfl, fun p _ => ⟨fun i _ i2 => by simp [oo, ps0] at i2, fun q => by simp [ps0] at q, fun w hw => by simp [ps0] at hw⟩, fun p hp => by simp [ps0] at hp, rfl, by simp [ps0]⟩ ⟨fun i hi => by omega, Or.inl rfl, fun q => by omega, rfl⟩ e
  rw [Nat.zero_add] at this
  exact this
/-- the class reads a yard just where the reference does -/
theorem yd_test {pg : Nat → Nat} {pn : Nat} {s : Ps} (e : (scF pg pn 0 ps0).2 = some s) : (ydS pg pn = some (s.1 + 1, s.2.2.2.2) ∨ ydS pg pn = none) ∧ (ydS pg pn = none ↔ (s.2.1 = 0 ∨ s.1 < s.2.2.2.1)) := by
  unfold ydS
  rw [e]
  dsimp only
  by_cases g : 0 < s.2.1 ∧ s.2.2.2.1 ≤ s.1
  · rw [if_pos g]
    exact ⟨Or.inl rfl, fun q => (by cases q), fun q => by omega⟩
  · rw [if_neg g]
    exact ⟨Or.inr rfl, fun _ => by omega, fun _ => rfl⟩
