theorem ro_snoc {Y : Yd} {q : Option Nat} : ∀ (k : Nat) (s : Rs), ro Y q (k + 1) s = if (ro Y q k s).1 < 10 then ro Y q k s else mv Y q (ro Y q k s)
  | 0, s => rfl
  | k + 1, s => by
    by_cases g : s.1 < 10
    · have e : ∀ j, ro Y q j s = s := fun j => by
        cases j with
        | zero => rfl
        | succ j => simp [ro, g]
      rw [e, e, if_pos g]
    · have e : ∀ j, ro Y q (j + 1) s = ro Y q j (mv Y q s) := fun j => by
        show (if s.1 < 10 then _ else _) = _
        rw [if_neg g]
      rw [e, e, ro_snoc k (mv Y q s)]
theorem ro_more {Y : Yd} {q : Option Nat} {m : Nat} {s : Rs} (h : (ro Y q m s).1 < 10) : ∀ e, ro Y q (m + e) s = ro Y q m s
  | 0 => rfl
  | e + 1 => by
    have ih := ro_more h e
    rw [← Nat.add_assoc, ro_snoc, ih, if_pos h]
section HH
variable {Y : Yd} {n ol : Nat} {od T wt : Nat → Nat} {g : Nat} {S : (Nat → Nat) → Nat → Prop}
/-- thrown late is thrown ahead: V0 the stands ahead of the truck, c0 their cost -/
def TR (Y : Yd) (n ol : Nat) (od : Nat → Nat) (g : Nat) (V0 : Nat → Nat) (c0 r : Nat) (u : Nat → Nat) (c : Nat) : Prop := ∃ (H : Nat → Nat) (m : Nat), m ≤ r ∧ (∀ p, p < n → H p = V0 p ∨ ∃ w, w < Y.2.1 p ∧ H p = lsd Y p w) ∧ c0 + un V0 H n ≤ c ∧ (∀ j, r ≤ j → j < ol → H (od j) = u j) ∧ ∀ G : Nat → Nat, (∀ j, j < r → j < ol → G (od j) = H (od j)) → ∃ X : Nat → Nat, ro Y none m (10, G, 0) = ((if r < ol then 10 + od r else g), X, m) ∧ (∀ j, j < r → j < ol → X (od j) = u j) ∧ ∀ p, (∀ j, j < r → j < ol → od j ≠ p) → X p = G p
theorem ahead_of (h : YOK n Y) (hn1 : 1 ≤ n) (hst : strt Y n) (hO : OD Y n ol od) (h0 : 0 < ol) (hod0 : od 0 = 0) (hS : ∀ u c, S u c → TKo Y ol od u) : ∀ j, j ≤ ol → ∀ r u c, PJ Y n ol od g S j r u c → r ≤ ol ∧ ∃ u0 c0, S u0 c0 ∧ ∀ V0 : Nat → Nat, (∀ j, j < ol → V0 (od j) = u0 j) → TR Y n ol od g V0 c0 r u c
  | 0, _, r, u, c, hp => by
    obtain ⟨rfl, hs⟩ := hp
    refine ⟨by omega, u, c, hs, fun V0 hV => ⟨V0, 0, by omega, fun p _ => Or.inl rfl, ?_, fun j _ hj => hV j hj, fun G _ => ⟨G, ?_, fun j hj => by omega, fun _ _ => rfl⟩⟩⟩
    · rw [un_self n (fun _ _ => rfl)]
      omega
    · rw [if_pos h0, hod0]
      rfl
  | j + 1, hj, r, u, c, hp => by
    have hodn : ∀ j, j < ol → od j < n := fun j hj => rc_lt h hn1 (hO.2.1 j hj)
    obtain ⟨hrj, hp | ⟨u1, c1, h1, s, δ, ho, hd, hc, hu⟩⟩ := hp
    · exact ahead_of h hn1 hst hO h0 hod0 hS j (by omega) r u c hp
    · obtain ⟨-, u0, c0, hs0, hTR⟩ := ahead_of h hn1 hst hO h0 hod0 hS j (by omega) j u1 c1 h1
      have hu1 := PJ_ok h hodn hS j (by omega) j u1 c1 h1
      have hs := opt_in h hodn (by omega) hu1 ho
      obtain ⟨hjr, hrol⟩ := dst_gt h hO hst hodn (show j < ol by omega) hs hd
      have hjo : j < ol := by omega
      have odinj : ∀ i k, i < ol → k < ol → i ≠ k → od i ≠ od k := fun i k hi hk hne q => hne (hO.2.2.2.1 i k hi hk q)
      refine ⟨hrol, u0, c0, hs0, fun V0 hV => ?_⟩
      obtain ⟨H, m, t1, t2, t3, t4, t5⟩ := hTR V0 hV
      have hHj : H (od j) = u1 j := t4 j (Nat.le_refl j) hjo
      refine ⟨fu H (od j) s, m + 1, by omega, fun p hp => ?_, ?_, fun k hk hko => ?_, fun G hG => ?_⟩
      · by_cases e : p = od j
        · subst e
          have : fu H (od j) s (od j) = s := by simp [fu]
          rw [this]
          rcases ho with ⟨e1, -⟩ | ⟨w, hw, e1, -⟩
          · rw [e1, ← hHj]
            exact t2 _ hp
          · exact Or.inr ⟨w, hw, e1⟩
        · have : fu H (od j) s p = H p := by simp [fu, e]
          rw [this]
          exact t2 p hp
      · rcases ho with ⟨e1, e2⟩ | ⟨w, hw, e1, e2⟩
        · have : fu H (od j) s = H := by
            funext p
            by_cases e : p = od j
            · subst e; simp [fu, e1, hHj]
            · simp [fu, e]
          rw [this]
          omega
        · have := un_fu1 (V := V0) (H := H) (i := od j) (s := s) n
          omega
      · have ne := odinj k j hko hjo (by omega)
        have : fu H (od j) s (od k) = H (od k) := by simp [fu, ne]
        rw [this, t4 k (by omega) hko, hu k hko]
        simp [fu, show k ≠ j by omega]
      · obtain ⟨X, x1, x2, x3⟩ := t5 G (fun k hk hko => by
          rw [hG k (by omega) hko]
          simp [fu, odinj k j hko hjo (by omega)])
        have xj : X (od j) = s := by
          rw [x3 (od j) (fun k hk hko => odinj k j hko hjo (by omega)), hG j hjr hjo]
          simp [fu]
        rw [if_pos hjo] at x1
        refine ⟨fu X (od j) (tn Y (od j) s), ?_, fun k hk hko => ?_, fun p hp => ?_⟩
        · rw [ro_snoc, x1, if_neg (by omega)]
          have e : mv Y none (10 + od j, X, m) = (pl Y (od j) s, fu X (od j) (tn Y (od j) s), m + 1) := by
            simp [mv, xj]
          rw [e]
          rcases hd with ⟨d1, d2⟩ | ⟨d1, d2, -⟩
          · rw [d1, if_neg (by omega)]
          · rw [d2, if_pos d1]
        · rw [hu k hko]
          by_cases e : k = j
          · subst e; simp [fu]
          · have ne := odinj k j hko hjo e
            simp only [fu, e, ne, if_false]
            by_cases e2 : k < j
            · exact x2 k e2 hko
            · rw [x3 (od k) (fun i hi hio => odinj i k hio hko (by omega)), hG k hk hko]
              have : fu H (od j) s (od k) = H (od k) := by simp [fu, ne]
              rw [this]
              exact t4 k (by omega) hko
        · have ne : p ≠ od j := fun q => hp j hjr hjo q.symm
          simp only [fu, ne, if_false]
          exact x3 p (fun k hk hko => hp k (by omega) hko)
theorem pl_of (h : YOK n Y) (hn1 : 1 ≤ n) (hst : strt Y n) (hO : OD Y n ol od) (h0 : 0 < ol) (hod0 : od 0 = 0) (hT : TOK n Y T) {wn : Nat} (hw : ∀ i, i < wn → wt i < 10) : ∀ k, k ≤ wn → ∀ u c, SK Y n ol od T wt k u c → ∃ U c', Pl Y n T wt k U c' ∧ c' ≤ c ∧ ∀ j, j < ol → U (od j) = u j
  | 0, _, u, c, hp => ⟨T, 0, ⟨fun _ _ => rfl, rfl⟩, by omega, fun j hj => (hp.1 j hj).symm⟩
  | k + 1, hk, u, c, hp => by
    have hodn : ∀ j, j < ol → od j < n := fun j hj => rc_lt h hn1 (hO.2.1 j hj)
    obtain ⟨-, u0, c0, hs0, hTR⟩ := ahead_of h hn1 hst hO h0 hod0 (SK_ok h hodn hT k) ol (Nat.le_refl ol) ol u c hp
    obtain ⟨V0, c1, v1, v2, v3⟩ := pl_of h hn1 hst hO h0 hod0 hT hw k (by omega) u0 c0 hs0
    obtain ⟨H, m, t1, t2, t3, t4, t5⟩ := hTR V0 v3
    obtain ⟨X, x1, x2, x3⟩ := t5 H (fun _ _ _ => rfl)
    rw [if_neg (by omega)] at x1
    have hg := hw k (by omega)
    have hol := hO.1
    have hn := h.1
    have e : ro Y none 500 (10, H, 0) = (wt k, X, m) := by
      have := ro_more (Y := Y) (q := none) (m := m) (s := (10, H, 0)) (by rw [x1]; exact hg) (500 - m)
      rw [show m + (500 - m) = 500 by omega] at this
      rw [this, x1]
    have egt : gt Y none H = (some (wt k), X, m) := by
      unfold gt
      rw [e, if_pos hg]
    refine ⟨X, c1 + un V0 H n, ⟨H, ⟨V0, c1, v1, fun p hp => ?_, rfl⟩, by rw [egt], fun p _ => by rw [egt]⟩, by omega, fun j hj => x2 j hj hj⟩
    rcases t2 p hp with q | q
    · exact Or.inl q
    · exact Or.inr ⟨by omega, q⟩
/-! codes of the order's stands -/
theorem Wt_pos (h : YOK n Y) (hod : ∀ j, j < ol → od j < n) : ∀ j, j ≤ ol → 1 ≤ Wt Y od j
  | 0, _ => Nat.le_refl _
  | j + 1, hj => by
    have h1 := Wt_pos h hod j (by omega)
    have h2 := (sm_in h (hod j (by omega))).1
    unfold Wt
    have := Nat.mul_le_mul h1 h2
    omega
theorem Wt_le (h : YOK n Y) (hod : ∀ j, j < ol → od j < n) : ∀ j, j ≤ ol → Wt Y od j ≤ 6 ^ j
  | 0, _ => Nat.le_refl _
  | j + 1, hj => by
    have h1 := Wt_le h hod j (by omega)
    have h2 := (sm_in h (hod j (by omega))).2
    unfold Wt
    rw [Nat.pow_succ]
    exact Nat.mul_le_mul h1 h2
theorem Wt_mono (h : YOK n Y) (hod : ∀ j, j < ol → od j < n) {j : Nat} : ∀ e, j + e ≤ ol → Wt Y od j ∣ Wt Y od (j + e)
  | 0, _ => Nat.dvd_refl _
  | e + 1, he => by
    have := Wt_mono h hod (j := j) e (by omega)
    show Wt Y od j ∣ Wt Y od (j + e) * sm Y (od (j + e))
    exact Nat.dvd_mul_right_of_dvd this _
theorem cdo_lt {u : Nat → Nat} (hu : TKo Y ol od u) : ∀ k, k ≤ ol → cdo Y od u k < Wt Y od k
  | 0, _ => by simp [cdo, Wt]
  | k + 1, hk => by
    have ih := cdo_lt hu k (by omega)
    have h1 := hu k (by omega)
    show cdo Y od u k + u k * Wt Y od k < Wt Y od k * sm Y (od k)
    have : (u k + 1) * Wt Y od k ≤ sm Y (od k) * Wt Y od k := Nat.mul_le_mul_right _ h1
    rw [Nat.add_mul, Nat.one_mul] at this
    rw [Nat.mul_comm (Wt Y od k)]
    omega
theorem cdo_mod (h : YOK n Y) (hod : ∀ j, j < ol → od j < n) {u : Nat → Nat} {j : Nat} (hu : TKo Y ol od u) : ∀ e, j + e ≤ ol → cdo Y od u (j + e) % Wt Y od j = cdo Y od u j
  | 0, he => Nat.mod_eq_of_lt (cdo_lt hu j he)
  | e + 1, he => by
    have ih := cdo_mod h hod (j := j) hu e (by omega)
    show (cdo Y od u (j + e) + u (j + e) * Wt Y od (j + e)) % Wt Y od j = _
    obtain ⟨q, hq⟩ := Wt_mono h hod (j := j) e (by omega)
    rw [hq, Nat.mul_left_comm, Nat.add_mul_mod_self_left]
    exact ih
theorem dgo_cdo (h : YOK n Y) (hod : ∀ j, j < ol → od j < n) {u : Nat → Nat} (hu : TKo Y ol od u) {j : Nat} (hj : j < ol) : dgo Y od (cdo Y od u ol) j = u j := by
  have hw := Wt_pos h hod j (by omega)
  have hm := cdo_mod h hod (j := j + 1) hu (ol - (j + 1)) (by omega)
  rw [show j + 1 + (ol - (j + 1)) = ol by omega] at hm
  unfold dgo
  rw [← Nat.mod_mul_right_div_self]
  have e : Wt Y od (j + 1) = Wt Y od j * sm Y (od j) := rfl
  rw [← e, hm]
  show (cdo Y od u j + u j * Wt Y od j) / Wt Y od j = u j
  rw [Nat.add_mul_div_right _ _ (by omega), Nat.div_eq_of_lt (cdo_lt hu j (by omega)), Nat.zero_add]
theorem cdo_dgo (x : Nat) : ∀ k, cdo Y od (dgo Y od x) k = x % Wt Y od k
  | 0 => by simp [cdo, Wt, Nat.mod_one]
  | k + 1 => by
    show cdo Y od (dgo Y od x) k + dgo Y od x k * Wt Y od k = x % (Wt Y od k * sm Y (od k))
    rw [cdo_dgo x k, Nat.mod_mul]
    unfold dgo
    rw [Nat.mul_comm]
theorem dgo_ok (h : YOK n Y) (hod : ∀ j, j < ol → od j < n) (x : Nat) : TKo Y ol od (dgo Y od x) := fun j hj => Nat.mod_lt _ (by have := (sm_in h (hod j hj)).1; omega)
theorem cdo_cg {u u' : Nat → Nat} : ∀ k, (∀ j, j < k → u j = u' j) → cdo Y od u k = cdo Y od u' k
  | 0, _ => rfl
  | k + 1, h => by
    unfold cdo
    rw [cdo_cg k (fun j hj => h j (by omega)), h k (by omega)]
theorem cdo_fu {u : Nat → Nat} {j s : Nat} : ∀ k, j < k → cdo Y od (fu u j s) k = cdo Y od (fu u j 0) k + s * Wt Y od j
  | 0, h => by omega
  | k + 1, h => by
    unfold cdo
    by_cases e : j = k
    · subst e
      rw [cdo_cg (u := fu u j s) (u' := fu u j 0) j (fun i hi => by simp [fu, show i ≠ j by omega])]
      simp [fu]
    · rw [cdo_fu k (by omega)]
      have : ∀ z, fu u j z k = u k := fun z => by simp [fu, Ne.symm e]
      rw [this, this]
      omega
/-- a table of costs -/
def DZ (Y : Yd) (ol : Nat) (od : Nat → Nat) (V : Nat → Nat → Nat) (P : Nat → (Nat → Nat) → Nat → Prop) : Prop := (∀ r x, V r x ≤ 100) ∧ (∀ r x, r ≤ ol → x < Wt Y od ol → V r x < 100 → ∃ m, m ≤ V r x ∧ P r (dgo Y od x) m) ∧ ∀ r u m, r ≤ ol → P r u m → m < 100 → V r (cdo Y od u ol) ≤ m
end HH
