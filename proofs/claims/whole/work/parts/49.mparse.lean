/-! reading a yard: (switch, its ways, signed, the most, what is read) -/
abbrev Ps : Type := Nat × Nat × Bool × Nat × Yd
def sg (c : Nat) : Nat := if c = 61 then 1 else if c = 126 then 2 else if c = 94 then 3 else 0
def po (c : Nat) : Option Nat := if 48 ≤ c ∧ c ≤ 57 then some (c - 48) else if 97 ≤ c ∧ c ≤ 106 then some (10 + c - 97) else none
def f2 (f : Nat → Nat → Nat) (p k x : Nat) : Nat → Nat → Nat := fun q => if q = p then fu (f p) k x else f q
def goS (c : Nat) (s : Ps) : Option Ps :=
  if 0 < sg c then (if s.2.1 = 0 ∧ s.2.2.1 = false then some (s.1, s.2.1, true, s.2.2.2.1, (fu s.2.2.2.2.1 s.1 (sg c), s.2.2.2.2.2)) else none)
  else if c = 59 then (if 0 < s.2.1 ∧ s.1 < 9 then some (s.1 + 1, 0, false, s.2.2.2.1, s.2.2.2.2) else none)
  else match po c with
    | none => none
    | some to => if s.2.1 = 3 then none else some (s.1, s.2.1 + 1, s.2.2.1, max s.2.2.2.1 (to - 10), (s.2.2.2.2.1, fu s.2.2.2.2.2.1 s.1 (s.2.1 + 1), f2 s.2.2.2.2.2.2 s.1 s.2.1 to))
def PsOK (s : Ps) : Prop := s.1 ≤ 9 ∧ s.2.1 ≤ 3 ∧ s.2.2.2.1 ≤ 9 ∧ s.2.2.2.2.2.1 s.1 = s.2.1 ∧ (∀ p, p < s.1 → 1 ≤ s.2.2.2.2.2.1 p ∧ s.2.2.2.2.2.1 p ≤ 3) ∧ (∀ p, s.1 < p → s.2.2.2.2.1 p = 0 ∧ s.2.2.2.2.2.1 p = 0) ∧ (∀ p, s.2.2.2.2.1 p < 4) ∧ ∀ p w, w < s.2.2.2.2.2.1 p → s.2.2.2.2.2.2 p w ≤ 10 + s.2.2.2.1
def MPs (I : mjI) (s : Ps) : Prop := I 45 2 = nI s.1 ∧ I 45 3 = nI s.2.1 ∧ I 45 4 = nI (if s.2.2.1 then 1 else 0) ∧ I 45 5 = nI s.2.2.2.1 ∧ ∀ p, p ≤ s.1 → I 47 p = nI (s.2.2.2.2.1 p) ∧ (0 < s.2.2.2.2.2.1 p → I 48 p = nI (s.2.2.2.2.2.1 p)) ∧ ∀ w, w < s.2.2.2.2.2.1 p → I 49 (3 * p + w) = nI (s.2.2.2.2.2.2 p w)
def ps0 : Ps := (0, 0, false, 0, (fun _ => 0, fun _ => 0, fun _ _ => 0))
theorem ps0_ok : PsOK ps0 := by
  refine ⟨by decide, by decide, by decide, rfl, fun p hp => absurd hp (Nat.not_lt_zero p), fun p _ => ⟨rfl, rfl⟩, fun p => by show (0 : Nat) < 4; decide, fun p w hw => absurd hw (Nat.not_lt_zero w)⟩
theorem sg_lt (c : Nat) : sg c < 4 := by
  unfold sg
  split
  · decide
  · split
    · decide
    · split <;> decide
theorem po_lt {c z : Nat} (h : po c = some z) : z < 20 := by
  unfold po at h
  split at h
  · cases h; omega
  · split at h
    · cases h; omega
    · cases h
theorem goS_ok {c : Nat} {s s' : Ps} (h : PsOK s) (hg : goS c s = some s') : PsOK s' := by
  obtain ⟨m, w, b, mx, K, C, W⟩ := s
  obtain ⟨h1, h2, h3, h4, h5, h6, h7, h8⟩ := h
  dsimp only at h1 h2 h3 h4 h5 h6 h7 h8
  unfold goS at hg
  dsimp only at hg
  split at hg
  · split at hg
    · cases hg
      refine ⟨h1, h2, h3, h4, h5, fun p hp => ⟨?_, (h6 p hp).2⟩, fun p => ?_, h8⟩
      · dsimp only [fu] at hp ⊢
        rw [if_neg (by omega)]
        exact (h6 p hp).1
      · dsimp only [fu]
        split
        · exact sg_lt c
        · exact h7 p
    · cases hg
  · split at hg
    · split at hg
      · rename_i hw
        cases hg
        refine ⟨by dsimp only; omega, by dsimp only; omega, h3, ?_, fun p hp => ?_, fun p hp => ?_, h7, h8⟩
        · exact (h6 _ (by dsimp only; omega)).2
        · dsimp only at hp ⊢
          by_cases e : p = m
          · subst e; rw [h4]; omega
          · exact h5 p (by omega)
        · exact h6 p (by dsimp only at hp ⊢; omega)
      · cases hg
    · split at hg
      · cases hg
      · rename_i to hto
        have := po_lt hto
        split at hg
        · cases hg
        · cases hg
          refine ⟨h1, by dsimp only; omega, by dsimp only; omega, by simp [fu], fun p hp => ?_, fun p hp => ?_, h7, fun p w' hw' => ?_⟩
          · dsimp only [fu] at hp ⊢
            rw [if_neg (by omega)]
            exact h5 p hp
          · dsimp only [fu] at hp ⊢
            rw [if_neg (by omega)]
            exact h6 p hp
          · dsimp only [fu, f2] at hw' ⊢
            by_cases e : p = m
            · subst e
              rw [if_pos rfl] at hw' ⊢
              dsimp only [fu]
              split
              · omega
              · have := h8 p w' (by omega)
                omega
            · rw [if_neg e] at hw' ⊢
              have := h8 p w' hw'
              omega
def scF (pg : Nat → Nat) : Nat → Nat → Ps → Nat × Option Ps
  | 0, k, s => (k, some s)
  | f + 1, k, s => match goS (pg k) s with
    | none => (k, none)
    | some s' => scF pg f (k + 1) s'
theorem scF_ok {pg : Nat → Nat} : ∀ f k s, PsOK s → (scF pg f k s).1 ≤ k + f ∧ (∀ s', (scF pg f k s).2 = some s' → PsOK s' ∧ (scF pg f k s).1 = k + f) ∧ ((scF pg f k s).2 = none → (scF pg f k s).1 < k + f)
  | 0, k, s, h => ⟨Nat.le_refl _, fun s' e => by cases e; exact ⟨h, rfl⟩, fun e => by cases e⟩
  | f + 1, k, s, h => by
    cases hg : goS (pg k) s with
    | none =>
      rw [show scF pg (f + 1) k s = (k, none) by simp [scF, hg]]
      exact ⟨by dsimp only; omega, fun s' e => (by cases e), fun _ => by dsimp only; omega⟩
    | some s' =>
      rw [show scF pg (f + 1) k s = scF pg f (k + 1) s' by simp [scF, hg]]
      have ih := scF_ok (pg := pg) f (k + 1) s' (goS_ok h hg)
      rw [show k + (f + 1) = k + 1 + f by omega]
      exact ih
/-- the yard that a page holds -/
def ydS (pg : Nat → Nat) (pn : Nat) : Option (Nat × Yd) := match (scF pg pn 0 ps0).2 with
  | none => none
  | some s => if 0 < s.2.1 ∧ s.2.2.2.1 ≤ s.1 then some (s.1 + 1, s.2.2.2.2) else none
theorem ydS_ok {pg : Nat → Nat} {pn n : Nat} {Y : Yd} (h : ydS pg pn = some (n, Y)) : YOK n Y ∧ 1 ≤ n := by
  have hs := (scF_ok (pg := pg) pn 0 ps0 ps0_ok).2.1
  unfold ydS at h
  cases hq : (scF pg pn 0 ps0).2 with
  | none => rw [hq] at h; cases h
  | some s =>
    rw [hq] at h
    dsimp only at h
    obtain ⟨⟨h1, h2, h3, h4, h5, h6, h7, h8⟩, -⟩ := hs s hq
    split at h
    · rename_i hw
      cases h
      refine ⟨⟨by omega, fun p hp => ⟨h7 p, ?_⟩⟩, by omega⟩
      have hc : 1 ≤ s.2.2.2.2.2.1 p ∧ s.2.2.2.2.2.1 p ≤ 3 := by
        by_cases e : p = s.1
        · subst e; rw [h4]; omega
        · exact h5 p (by omega)
      exact ⟨hc.1, hc.2, fun w hw' => by have := h8 p w hw'; omega⟩
    · cases h
theorem i32_z {x : Nat} (hx : x < 2147483648) : nI x ≤ 0 ↔ x = 0 := by
  rw [show (0 : Int32) = nI 0 from rfl, nI_leI hx (by decide)]
  omega
section MM
variable {d L : Nat} {dy : mjM} {I : mjI} {y y1 n1 w1 c y2 : Option Nat} {R : mjR} {J : mjJ} {pn : Nat} {pg : Nat → Nat} {n : Nat} {Y : Yd} {T : Nat → Nat} {t : Nat} {tr : Nat → Nat} {kp : Kp} {wn : Nat} {wt : Nat → Nat} {yr dn : Nat}
theorem M_signOf {x : Nat} {h : mjH} (hx : x ≤ 126) : mj_call mj_P (d + 1) kn_M_signOf [.int (nI x)] h (some (.int (nI (sg x)))) h := by
  unfold sg
  refine mj_ci rfl (Nat.le_of_ble_eq_true rfl) ?_
  refine mj_run 2 rfl trivial ?_
  refine mj_bra rfl rfl (fun g => ?_) (fun g => ?_)
  · rw [nI_e (by omega) (by decide)] at g
    rw [if_neg g]
    refine mj_run 2 rfl trivial ?_
    refine mj_bra rfl rfl (fun g => ?_) (fun g => ?_)
    · rw [nI_e (by omega) (by decide)] at g
      rw [if_neg g]
      refine mj_run 2 rfl trivial ?_
      refine mj_bra rfl rfl (fun g => ?_) (fun g => ?_)
      · rw [nI_e (by omega) (by decide)] at g
        rw [if_neg g]
        refine mj_run 1 rfl trivial ?_
        exact mj_end rfl rfl trivial
      · rw [nI_e (by omega) (by decide)] at g
        rw [if_pos (Classical.not_not.mp g)]
        refine mj_run 2 rfl trivial ?_
        exact mj_end rfl rfl trivial
    · rw [nI_e (by omega) (by decide)] at g
      rw [if_pos (Classical.not_not.mp g)]
      refine mj_run 2 rfl trivial ?_
      exact mj_end rfl rfl trivial
  · rw [nI_e (by omega) (by decide)] at g
    rw [if_pos (Classical.not_not.mp g)]
    refine mj_run 2 rfl trivial ?_
    exact mj_end rfl rfl trivial
theorem lN_in {x lo hi : Nat} (hx : x < 2147483648) (hl : lo < 2147483648) (hh : hi < 2147483648) : (lN lo ≤ (nI x).toInt64 ∧ (nI x).toInt64 ≤ lN hi) ↔ (lo ≤ x ∧ x ≤ hi) := by
  rw [Int64.le_iff_toInt_le, Int64.le_iff_toInt_le, Int32.toInt_toInt64, lN_toInt hl, lN_toInt hh, nI_toInt hx]
  omega
theorem M_go {x : Nat} {s : Ps} (hx : x ≤ 126) (hs : PsOK s) (hM : MPs I s) : ∃ I', mj_call mj_P (d + 2) kn_M_go [.ref 45, .int (nI x)] (HP L dy I y y1 n1 w1 c y2 R J) (some (.int (nI (if (goS x s).isSome then 1 else 0)))) (HP L dy I' y y1 n1 w1 c y2 R J) ∧ Fr [2, 3, 4, 5] [47, 48, 49] I I' ∧ ∀ s', goS x s = some s' → MPs I' s' := by
  obtain ⟨m, w, b, mx, K, C, W⟩ := s
  obtain ⟨h1, h2, h3, h4, h5, h6, h7, h8⟩ := hs
  obtain ⟨e2, e3, e4, e5, eR⟩ := hM
  dsimp only at h1 h2 h3 h4 h5 h6 h7 h8 e2 e3 e4 e5 eR
  have hsg := sg_lt x
  by_cases gs : 0 < sg x
  · have hgo : goS x (m, w, b, mx, K, C, W) = if w = 0 ∧ b = false then some (m, w, true, mx, (fu K m (sg x), C, W)) else none := by
      unfold goS
      rw [if_pos gs]
    have hso : nI (if (goS x (m, w, b, mx, K, C, W)).isSome then 1 else 0) = nI (if w = 0 ∧ b = false then 1 else 0) := by
      rw [hgo]
      by_cases q : w = 0 ∧ b = false
      · simp [q]
      · rw [if_neg q, if_neg q]; rfl
    rw [hso, hgo]
    have fr : Fr ([] ++ [4]) ([47] ++ []) I (mj_ui (mj_ui I 47 m (nI (sg x))) 45 4 (nI 1)) := (Fr.a I (by decide) m _).tr (Fr.u _ 4 _)
    refine ⟨mj_ui (mj_ui I 47 m (nI (sg x))) 45 4 (nI 1), ?_, fr.w (by decide) (by decide), ?_⟩
    · refine mj_ci rfl (Nat.le_of_ble_eq_true rfl) ?_
      refine mj_run 1 rfl trivial ?_
      refine mj_cal rfl rfl (M_signOf hx) ?_
      refine mj_brf rfl rfl (by rw [i32_z (by omega)]; omega) ?_
      have half : ∀ z : Int32, z = nI (if w = 0 ∧ b = false then 1 else 0) → mj_Rd (mj_call mj_P (d + 1)) kc_M_go 2 (26, [some (.ref 45), some (.int (nI x)), none, none], [.int z], HP L dy I y y1 n1 w1 c y2 R J) (some (.int (nI (if w = 0 ∧ b = false then 1 else 0)))) (HP L dy (mj_ui (mj_ui I 47 m (nI (sg x))) 45 4 (nI 1)) y y1 n1 w1 c y2 R J) := by
        intro z hz
        refine mj_run 6 rfl trivial ?_
        rw [e2]
        refine mj_cal rfl rfl (M_signOf hx) ?_
        refine mj_run 5 rfl ⟨⟨nI_vi (by omega) (by decide), by decide⟩, Or.inr rfl⟩ ?_
        rw [nI_nc (by omega)]
        rw [← hz]
        refine mj_end rfl rfl ?_
        rw [hz]
        by_cases q : w = 0 ∧ b = false
        · rw [if_pos q]; exact Or.inr rfl
        · rw [if_neg q]; exact Or.inl rfl
      refine mj_run 2 rfl trivial ?_
      rw [e3]
      refine mj_bra rfl rfl (fun g => ?_) (fun g => ?_)
      · rw [nI_z (by omega)] at g
        refine mj_run 1 rfl trivial ?_
        exact half _ (by rw [if_neg (fun q => g q.1)])
      · rw [nI_z (by omega)] at g
        have g := Classical.not_not.mp g
        refine mj_run 2 rfl trivial ?_
        rw [e4]
        cases b with
        | true =>
          refine mj_brt rfl rfl (show ¬ nI 1 = 0 by decide) ?_
          refine mj_run 1 rfl trivial ?_
          exact half _ (by rw [if_neg (fun q => by cases q.2)])
        | false =>
          refine mj_brf rfl rfl (show ¬ ¬ nI 0 = 0 by decide) ?_
          refine mj_run 2 rfl trivial ?_
          exact half _ (by rw [if_pos ⟨g, rfl⟩])
    · intro s' hs'
      split at hs'
      · cases hs'
        refine ⟨by simp [mj_ui, upd, e2], by simp [mj_ui, upd, e3], by simp [mj_ui, upd], by simp [mj_ui, upd, e5], fun p hp => ?_⟩
        obtain ⟨r1, r2, r3⟩ := eR p hp
        refine ⟨?_, fun hc => by simp [mj_ui]; exact r2 hc, fun w' hw' => by simp [mj_ui]; exact r3 w' hw'⟩
        by_cases e : p = m
        · subst e; simp [mj_ui, upd, fu]
        · simp [mj_ui, upd, fu, e, r1]
      · cases hs'
  · by_cases g59 : x = 59
    · subst g59
      have hgo : goS 59 (m, w, b, mx, K, C, W) = if 0 < w ∧ m < 9 then some (m + 1, 0, false, mx, (K, C, W)) else none := by
        unfold goS
        rw [if_neg gs, if_pos rfl]
      rw [hgo]
      have pre : ∀ (I' : mjI) (v : Option Value), (∀ z : Int32, z = nI (if 0 < w ∧ m < 9 then 1 else 0) → mj_Rd (mj_call mj_P (d + 1)) kc_M_go 2 (74, [some (.ref 45), some (.int (nI 59)), none, none], [.int z], HP L dy I y y1 n1 w1 c y2 R J) v (HP L dy I' y y1 n1 w1 c y2 R J)) → mj_call mj_P (d + 2) kn_M_go [.ref 45, .int (nI 59)] (HP L dy I y y1 n1 w1 c y2 R J) v (HP L dy I' y y1 n1 w1 c y2 R J) := by
        intro I' v half
        refine mj_ci rfl (Nat.le_of_ble_eq_true rfl) ?_
        refine mj_run 1 rfl trivial ?_
        refine mj_cal rfl rfl (M_signOf hx) ?_
        refine mj_brt rfl rfl (by decide) ?_
        refine mj_run 2 rfl trivial ?_
        refine mj_brf rfl rfl (by decide) ?_
        refine mj_run 2 rfl trivial ?_
        rw [e3]
        refine mj_bra rfl rfl (fun g => ?_) (fun g => ?_)
        · rw [i32_z (by omega)] at g
          refine mj_run 1 rfl trivial ?_
          exact half _ (by rw [if_neg (by omega)])
        · rw [i32_z (by omega)] at g
          refine mj_run 3 rfl trivial ?_
          rw [e2]
          refine mj_bra rfl rfl (fun g2 => ?_) (fun g2 => ?_)
          · rw [nI_leI (by decide) (by omega)] at g2
            refine mj_run 1 rfl trivial ?_
            exact half _ (by rw [if_neg (by omega)])
          · rw [nI_leI (by decide) (by omega)] at g2
            refine mj_run 2 rfl trivial ?_
            exact half _ (by rw [if_pos (by omega)])
      by_cases q : 0 < w ∧ m < 9
      · rw [if_pos q] at pre
        rw [if_pos q]
        have fr := (((Fr.u I 2 (nI (m + 1))).tr (Fr.a _ (a := 47) (by decide) (m + 1) (nI 0))).tr (Fr.u _ 3 (nI 0))).tr (Fr.u _ 4 (nI 0))
        refine ⟨mj_ui (mj_ui (mj_ui (mj_ui I 45 2 (nI (m + 1))) 47 (m + 1) (nI 0)) 45 3 (nI 0)) 45 4 (nI 0), pre _ _ ?_, fr.w (by decide) (by decide), ?_⟩
        · intro z hz
          subst hz
          refine mj_run 5 rfl trivial ?_
          refine mj_brf rfl rfl (by decide) ?_
          refine mj_run 2 rfl trivial ?_
          refine mj_run 7 rfl trivial ?_
          rw [e2, nI_add]
          have e2' : mj_ui I 45 2 (nI (m + 1)) 45 2 = nI (m + 1) := by simp [mj_ui, upd]
          rw [e2']
          refine mj_brf rfl rfl (by decide) ?_
          refine mj_run 2 rfl trivial ?_
          refine mj_run 3 rfl ⟨nI_vi (by omega) (by decide), by decide⟩ ?_
          rw [nI_nc (by omega)]
          refine mj_brf rfl rfl (by decide) ?_
          refine mj_run 2 rfl trivial ?_
          refine mj_run 5 rfl (Or.inl rfl) ?_
          exact mj_end rfl rfl (Or.inr rfl)
        · intro s' hs'
          cases hs'
          refine ⟨by simp [mj_ui, upd], by simp [mj_ui, upd], by simp [mj_ui, upd], by simp [mj_ui, upd, e5], fun p hp => ?_⟩
          dsimp only at hp ⊢
          by_cases e : p = m + 1
          · subst e
            obtain ⟨c1, c2⟩ := h6 (m + 1) (by omega)
            rw [c1, c2]
            exact ⟨by simp [mj_ui, upd], fun hc => by omega, fun w' hw' => by omega⟩
          · obtain ⟨r1, r2, r3⟩ := eR p (by omega)
            refine ⟨by simp [mj_ui, upd, e, r1], fun hc => by simp [mj_ui]; exact r2 hc, fun w' hw' => by simp [mj_ui]; exact r3 w' hw'⟩
      · rw [if_neg q] at pre
        rw [if_neg q]
        have fr := (((Fr.u I 2 (nI m)).tr (Fr.a _ (a := 47) (by decide) m (I 47 m))).tr (Fr.u _ 3 (nI w))).tr (Fr.u _ 4 (nI 0))
        refine ⟨mj_ui (mj_ui (mj_ui (mj_ui I 45 2 (nI m)) 47 m (I 47 m)) 45 3 (nI w)) 45 4 (nI 0), pre _ _ ?_, fr.w (by decide) (by decide), fun s' hs' => by cases hs'⟩
        intro z hz
        subst hz
        refine mj_run 5 rfl trivial ?_
        refine mj_brt rfl rfl (by decide) ?_
        refine mj_run 1 rfl trivial ?_
        refine mj_run 7 rfl trivial ?_
        rw [e2, nI_add, show m + 0 = m from rfl]
        have e2' : mj_ui I 45 2 (nI m) 45 2 = nI m := by simp [mj_ui, upd]
        rw [e2']
        refine mj_brt rfl rfl (by decide) ?_
        refine mj_run 5 rfl (by rw [e2']; exact nI_vi (by omega) (by decide)) ?_
        rw [e2']
        refine mj_run 3 rfl ⟨nI_vi (by omega) (by decide), by decide⟩ ?_
        rw [nI_nc (by omega)]
        refine mj_brt rfl rfl (by decide) ?_
        refine mj_run 2 rfl trivial ?_
        refine mj_run 5 rfl (Or.inl rfl) ?_
        have e47 : mj_ui I 45 2 (nI m) 47 m = I 47 m := by simp [mj_ui]
        have e3' : mj_ui (mj_ui I 45 2 (nI m)) 47 m (mj_ui I 45 2 (nI m) 47 m) 45 3 = nI w := by simp [mj_ui, upd, e3]
        rw [e3', e47]
        exact mj_end rfl rfl (Or.inl rfl)
    · have pre : ∀ (I' : mjI) (v : Option Value), (mj_Rd (mj_call mj_P (d + 1)) kc_M_go 2 (180, [some (.ref 45), some (.int (nI x)), some (.int (nI (if 48 ≤ x ∧ x ≤ 57 then 1 else 0))), none], [], HP L dy I y y1 n1 w1 c y2 R J) v (HP L dy I' y y1 n1 w1 c y2 R J) ∨ ((∃ to, po x = some to) ∧ w ≠ 3)) → (mj_Rd (mj_call mj_P (d + 1)) kc_M_go 2 (182, [some (.ref 45), some (.int (nI x)), some (.int (nI (if 48 ≤ x ∧ x ≤ 57 then 1 else 0))), none], [], HP L dy I y y1 n1 w1 c y2 R J) v (HP L dy I' y y1 n1 w1 c y2 R J) ∨ (po x = none ∨ w = 3)) → mj_call mj_P (d + 2) kn_M_go [.ref 45, .int (nI x)] (HP L dy I y y1 n1 w1 c y2 R J) v (HP L dy I' y y1 n1 w1 c y2 R J) := by
        intro I' v k0 k1
        refine mj_ci rfl (Nat.le_of_ble_eq_true rfl) ?_
        refine mj_run 1 rfl trivial ?_
        refine mj_cal rfl rfl (M_signOf hx) ?_
        refine mj_brt rfl rfl (by rw [i32_z (by omega)]; omega) ?_
        refine mj_run 2 rfl trivial ?_
        refine mj_brt rfl rfl (by rw [nI_e (by omega) (by decide)]; exact g59) ?_
        refine mj_run 4 rfl trivial ?_
        have at172 : (∃ to, po x = some to) → mj_Rd (mj_call mj_P (d + 1)) kc_M_go 2 (172, [some (.ref 45), some (.int (nI x)), some (.int (nI (if 48 ≤ x ∧ x ≤ 57 then 1 else 0))), none], [], HP L dy I y y1 n1 w1 c y2 R J) v (HP L dy I' y y1 n1 w1 c y2 R J) := by
          intro hto
          refine mj_run 3 rfl trivial ?_
          rw [e3]
          refine mj_bra rfl rfl (fun g => ?_) (fun g => ?_)
          · rw [nI_e (by omega) (by decide)] at g
            rcases k1 with k1 | k1 | k1
            · exact k1
            · obtain ⟨to, hto⟩ := hto; rw [hto] at k1; cases k1
            · exact absurd k1 g
          · rw [nI_e (by omega) (by decide)] at g
            rcases k0 with k0 | k0
            · exact k0
            · exact absurd k0.2 g
        by_cases gd : 48 ≤ x ∧ x ≤ 57
        · rw [if_pos gd] at at172
          refine mj_cal rfl rfl (M_in_t ((lN_in (by omega) (by decide) (by decide)).mpr gd)) ?_
          refine mj_run 2 rfl trivial ?_
          refine mj_brt rfl rfl (by decide) ?_
          exact at172 ⟨_, by unfold po; rw [if_pos gd]⟩
        · rw [if_neg gd] at at172 k0
          refine mj_cal rfl rfl (M_in_f (fun q => gd ((lN_in (by omega) (by decide) (by decide)).mp q))) ?_
          refine mj_run 2 rfl trivial ?_
          refine mj_brf rfl rfl (by decide) ?_
          refine mj_run 4 rfl trivial ?_
          by_cases ga : 97 ≤ x ∧ x ≤ 106
          · refine mj_cal rfl rfl (M_in_t ((lN_in (by omega) (by decide) (by decide)).mpr ga)) ?_
            refine mj_brf rfl rfl (by decide) ?_
            exact at172 ⟨_, by unfold po; rw [if_neg gd, if_pos ga]⟩
          · refine mj_cal rfl rfl (M_in_f (fun q => ga ((lN_in (by omega) (by decide) (by decide)).mp q))) ?_
            refine mj_brt rfl rfl (by decide) ?_
            rcases k0 with k0 | ⟨⟨to, hto⟩, -⟩
            · exact k0
            · unfold po at hto
              rw [if_neg gd, if_neg ga] at hto
              cases hto
      have bad : mj_Rd (mj_call mj_P (d + 1)) kc_M_go 2 (180, [some (.ref 45), some (.int (nI x)), some (.int (nI (if 48 ≤ x ∧ x ≤ 57 then 1 else 0))), none], [], HP L dy I y y1 n1 w1 c y2 R J) (some (.int (nI 0))) (HP L dy I y y1 n1 w1 c y2 R J) := by
        refine mj_run 1 rfl trivial ?_
        exact mj_end rfl rfl (Or.inl rfl)
      cases hto : po x with
      | none =>
        have hgo : goS x (m, w, b, mx, K, C, W) = none := by
          unfold goS
          rw [if_neg gs, if_neg g59, hto]
        rw [hgo]
        refine ⟨I, pre I _ (Or.inl bad) (Or.inr (Or.inl hto)), (Fr.rf I).w (by simp) (by simp), fun s' hs' => by cases hs'⟩
      | some to =>
        have hto20 := po_lt hto
        have hgo : goS x (m, w, b, mx, K, C, W) = if w = 3 then none else some (m, w + 1, b, max mx (to - 10), (K, fu C m (w + 1), f2 W m w to)) := by
          unfold goS
          rw [if_neg gs, if_neg g59, hto]
        rw [hgo]
        by_cases hw3 : w = 3
        · rw [if_pos hw3]
          refine ⟨I, pre I _ (Or.inl bad) (Or.inr (Or.inr hw3)), (Fr.rf I).w (by simp) (by simp), fun s' hs' => by cases hs'⟩
        · rw [if_neg hw3]
          have fr := (((Fr.a I (a := 49) (by decide) (3 * m + w) (nI to)).tr (Fr.u _ 3 (nI (w + 1)))).tr (Fr.a _ (a := 48) (by decide) m (nI (w + 1)))).tr (Fr.u _ 5 (nI (max mx (to - 10))))
          refine ⟨mj_ui (mj_ui (mj_ui (mj_ui I 49 (3 * m + w) (nI to)) 45 3 (nI (w + 1))) 48 m (nI (w + 1))) 45 5 (nI (max mx (to - 10))), pre _ _ (Or.inr ⟨⟨to, hto⟩, hw3⟩) (Or.inl ?_), fr.w (by decide) (by decide), ?_⟩
          · have rest : ∀ z : Int32, z = nI to → mj_Rd (mj_call mj_P (d + 1)) kc_M_go 2 (200, [some (.ref 45), some (.int (nI x)), some (.int (nI (if 48 ≤ x ∧ x ≤ 57 then 1 else 0))), none], [.int z], HP L dy I y y1 n1 w1 c y2 R J) (some (.int (nI 1))) (HP L dy (mj_ui (mj_ui (mj_ui (mj_ui I 49 (3 * m + w) (nI to)) 45 3 (nI (w + 1))) 48 m (nI (w + 1))) 45 5 (nI (max mx (to - 10)))) y y1 n1 w1 c y2 R J) := by
              intro z hz
              subst hz
              have E1 : nI 3 * I 45 2 + I 45 3 = nI (3 * m + w) := by rw [e2, e3, pk_mul, nI_add]
              have E2 : mj_ui I 49 (3 * m + w) (nI to) 45 3 + nI 1 = nI (w + 1) := by simp [mj_ui, e3, nI_add]
              have E3 : mj_ui (mj_ui I 49 (3 * m + w) (nI to)) 45 3 (nI (w + 1)) 45 2 = nI m := by simp [mj_ui, upd, e2]
              have E4 : mj_ui (mj_ui I 49 (3 * m + w) (nI to)) 45 3 (nI (w + 1)) 45 3 = nI (w + 1) := by simp [mj_ui, upd]
              have E5 : mj_ui (mj_ui (mj_ui I 49 (3 * m + w) (nI to)) 45 3 (nI (w + 1))) 48 m (nI (w + 1)) 45 5 = nI mx := by simp [mj_ui, upd, e5]
              refine mj_run 31 rfl ⟨⟨by rw [E1]; exact nI_vi (by omega) (by decide), by decide⟩, by rw [E1, nI_nc (by omega), E2, E3]; exact nI_vi (by omega) (by decide), by decide⟩ ?_
              rw [E1, nI_nc (show 3 * m + w < 2147483648 by omega), E2, E3, E4, nI_nc (show m < 2147483648 by omega), E5]
              have tl : (nI to - nI 10 ≤ nI mx) ↔ to - 10 ≤ mx := by
                rw [ii_le, pk_sub_toInt (by omega) (by decide), nI_toInt (by omega)]
                omega
              refine mj_bra rfl rfl (fun g => ?_) (fun g => ?_)
              · rw [tl] at g
                refine mj_run 2 rfl trivial ?_
                rw [E5]
                refine mj_run 2 rfl trivial ?_
                rw [show max mx (to - 10) = mx by omega]
                exact mj_end rfl rfl (Or.inr rfl)
              · rw [tl] at g
                refine mj_run 4 rfl trivial ?_
                refine mj_run 2 rfl trivial ?_
                rw [pk_sub (by omega), show max mx (to - 10) = to - 10 by omega]
                exact mj_end rfl rfl (Or.inr rfl)
            by_cases gd : 48 ≤ x ∧ x ≤ 57
            · rw [if_pos gd] at rest ⊢
              have : to = x - 48 := by
                unfold po at hto
                rw [if_pos gd] at hto
                cases hto; rfl
              refine mj_run 1 rfl trivial ?_
              refine mj_brf rfl rfl (by decide) ?_
              refine mj_run 4 rfl trivial ?_
              exact rest _ (by rw [pk_sub (by omega), this])
            · rw [if_neg gd] at rest ⊢
              have hc : (97 ≤ x ∧ x ≤ 106) ∧ to = 10 + x - 97 := by
                unfold po at hto
                rw [if_neg gd] at hto
                split at hto
                · cases hto; exact ⟨‹_›, rfl⟩
                · cases hto
              refine mj_run 1 rfl trivial ?_
              refine mj_brt rfl rfl (by decide) ?_
              refine mj_run 5 rfl trivial ?_
              exact rest _ (by rw [nI_add, pk_sub (by omega), hc.2])
          · intro s' hs'
            cases hs'
            refine ⟨by simp [mj_ui, upd, e2], by simp [mj_ui, upd], by simp [mj_ui, upd, e4], by simp [mj_ui, upd], fun p hp => ?_⟩
            dsimp only at hp ⊢
            obtain ⟨r1, r2, r3⟩ := eR p hp
            refine ⟨by simp [mj_ui, r1], fun hc => ?_, fun w' hw' => ?_⟩
            · dsimp only [fu] at hc ⊢
              by_cases e : p = m
              · subst e; simp [mj_ui, upd]
              · rw [if_neg e] at hc ⊢
                have := r2 hc
                simp [mj_ui, upd, e, this]
            · dsimp only [fu, f2] at hw' ⊢
              by_cases e : p = m
              · subst e
                rw [if_pos rfl] at hw' ⊢
                dsimp only [fu]
                by_cases ew : w' = w
                · subst ew; simp [mj_ui, upd]
                · have := r3 w' (by omega)
                  rw [if_neg ew]
                  simp [mj_ui, upd, ew, this]
              · rw [if_neg e] at hw' ⊢
                have q1 := r3 w' hw'
                have q2 : ¬ (3 * p + w' = 3 * m + w) := by
                  have := (h5 p (by omega)).2
                  omega
                simp [mj_ui, upd, q2, q1]
end MM
