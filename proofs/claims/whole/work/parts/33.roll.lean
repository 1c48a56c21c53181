theorem mj_endI {K : mjK} {cd : List (Option mjE)} {rt : Nat} {v v' : Option Value} {c : mjC} {e : mjE} {o : Option Prop} {m : mjM} {I I' : mjI} {R : mjR} {J : mjJ} (he : mj_at c.1 cd = some e) (hr : mj_ret rt e c = some (o, v', m, I', R, J)) (ho : mj_ok o) (hv : v' = v) (hI : I' = I) : mj_Rd K cd rt c v (m, I, R, J) := by
  subst hv
  subst hI
  exact mj_end he hr ho
theorem dn_ind (N : Nat) (P : Nat → Prop) (h0 : P N) (hs : ∀ p, p < N → P (p + 1) → P p) : ∀ p, p ≤ N → P p := by
  intro p hp
  obtain ⟨k, hk⟩ : ∃ k, p + k = N := ⟨N - p, by omega⟩
  induction k generalizing p with
  | zero =>
    have e : p = N := by omega
    subst e
    exact h0
  | succ k ih => exact hs p (by omega) (ih (p + 1) (by omega) (by omega))
/-- row 'dst' has become row 'src' up to k -/
def cpI (I : mjI) (dst src k : Nat) : mjI := fun a => if a = dst then (fun i => if i < k then I src i else I dst i) else I a
theorem cpI_0 (I : mjI) (dst src : Nat) : cpI I dst src 0 = I := by
  funext a
  by_cases h : a = dst
  · subst h
    simp [cpI]
  · simp [cpI, h]
theorem cpI_s {I : mjI} {dst src k : Nat} (hne : src ≠ dst) : mj_ui (cpI I dst src k) dst k (cpI I dst src k src k) = cpI I dst src (k + 1) := by
  funext a
  by_cases h : a = dst
  · subst h
    funext i
    simp only [mj_ui, cpI, upd, if_true, hne, if_false]
    by_cases h2 : i = k
    · subst h2
      simp
    · by_cases h3 : i < k
      · simp [h2, h3, Nat.lt_succ_of_lt h3]
      · simp [h2, h3, show ¬ i < k + 1 by omega]
  · simp [mj_ui, cpI, h]
theorem cpI_ne {I : mjI} {dst src k a : Nat} (h : a ≠ dst) : cpI I dst src k a = I a := by simp [cpI, h]
theorem cpI_at {I : mjI} {dst src k i : Nat} (h : i < k) : cpI I dst src k dst i = I src i := by simp [cpI, h]
/-- a row holds f -/
def RI (I : mjI) (a n : Nat) (f : Nat → Nat) : Prop := ∀ i, i < n → I a i = nI (f i)
def fu (f : Nat → Nat) (k x : Nat) : Nat → Nat := fun j => if j = k then x else f j
def TOK (n : Nat) (Y : Yd) (T : Nat → Nat) : Prop := ∀ p, p < n → T p < sm Y p
/-! rolling: place, stands, moves -/
abbrev Rs : Type := Nat × (Nat → Nat) × Nat
def mv (Y : Yd) (q : Option Nat) (s : Rs) : Rs := (pl Y (s.1 - 10) (s.2.1 (s.1 - 10)), fu s.2.1 (s.1 - 10) (if q = some (s.1 - 10) then s.2.1 (s.1 - 10) else tn Y (s.1 - 10) (s.2.1 (s.1 - 10))), s.2.2 + 1)
def ro (Y : Yd) (q : Option Nat) : Nat → Rs → Rs
  | 0, s => s
  | k + 1, s => if s.1 < 10 then s else ro Y q k (mv Y q s)
def gt (Y : Yd) (q : Option Nat) (T : Nat → Nat) : Option Nat × (Nat → Nat) × Nat := if (ro Y q 500 (10, T, 0)).1 < 10 then (some (ro Y q 500 (10, T, 0)).1, (ro Y q 500 (10, T, 0)).2) else (none, T, (ro Y q 500 (10, T, 0)).2.2)
def gv : Option Nat → Int32
  | some s => nI s
  | none => Int32.ofInt (-1)
theorem TOK.fu {n : Nat} {Y : Yd} {T : Nat → Nat} (h : TOK n Y T) {p x : Nat} (hx : p < n → x < sm Y p) : TOK n Y (fu T p x) := by
  intro i hi
  unfold _root_.Jvm.Pilot.CPointsThrowLaw_law_r6263_94e852.fu
  split
  · rename_i e
    subst e
    exact hx hi
  · exact h i hi
theorem mv_ok {n : Nat} {Y : Yd} {q : Option Nat} {s : Rs} (h : YOK n Y) (h1 : ¬ s.1 < 10) (h2 : s.1 < 10 + n) (hT : TOK n Y s.2.1) : (mv Y q s).1 < 10 + n ∧ TOK n Y (mv Y q s).2.1 := by
  have hp : s.1 - 10 < n := by omega
  have hs := hT _ hp
  refine ⟨pl_in h hp hs, hT.fu (fun _ => ?_)⟩
  split
  · exact hs
  · exact tn_in h hp hs
theorem ro_ok {n : Nat} {Y : Yd} {q : Option Nat} (h : YOK n Y) : ∀ (k : Nat) (s : Rs), s.1 < 10 + n → TOK n Y s.2.1 → (ro Y q k s).1 < 10 + n ∧ TOK n Y (ro Y q k s).2.1 ∧ (ro Y q k s).2.2 ≤ s.2.2 + k
  | 0, s, h1, h2 => ⟨h1, h2, by simp [ro]⟩
  | k + 1, s, h1, h2 => by
    unfold ro
    split
    · exact ⟨h1, h2, by omega⟩
    · rename_i hs
      obtain ⟨a, b⟩ := mv_ok (q := q) h hs h1 h2
      obtain ⟨c, d, e⟩ := ro_ok h k (mv Y q s) a b
      refine ⟨c, d, ?_⟩
      have : (mv Y q s).2.2 = s.2.2 + 1 := rfl
      omega
theorem gt_ok {n : Nat} {Y : Yd} {q : Option Nat} {T : Nat → Nat} (h : YOK n Y) (hn : 1 ≤ n) (hT : TOK n Y T) : (∀ s, (gt Y q T).1 = some s → s < 10) ∧ TOK n Y (gt Y q T).2.1 ∧ (gt Y q T).2.2 ≤ 500 := by
  obtain ⟨a, b, c⟩ := ro_ok (q := q) h 500 (10, T, 0) (by show 10 < 10 + n; omega) hT
  unfold gt
  split
  · refine ⟨fun s e => ?_, b, by simpa using c⟩
    cases e
    assumption
  · exact ⟨fun s e => (by cases e), hT, by simpa using c⟩
/-- who is stuck, as an int -/
def sq (q : Option Nat) (x : Int32) : Prop := ∀ p, p < 10 → (nI p = x ↔ q = some p)
theorem sq_none : sq none (Int32.ofInt (-1)) := by
  intro p hp
  refine ⟨fun h => ?_, fun h => by cases h⟩
  have := congrArg Int32.toInt h
  rw [nI_toInt (by omega)] at this
  exact absurd this (by have : (Int32.ofInt (-1)).toInt = -1 := rfl; rw [this]; omega)
theorem sq_some {k : Nat} (hk : k < 10) : sq (some k) (nI k) := by
  intro p hp
  rw [nI_e (by omega) (by omega)]
  refine ⟨fun h => by rw [h], fun h => by cases h; rfl⟩
section MM
variable {d L : Nat} {dy : mjM} {I : mjI} {y y1 n1 w1 c y2 : Option Nat} {R : mjR} {J : mjJ} {n : Nat} {Y : Yd}
theorem MY.kept {I I' : mjI} (h : MY I n Y) (h9 : I' 45 9 = I 45 9) (h50 : I' 50 = I 50) (h51 : I' 51 = I 51) (h52 : I' 52 = I 52) : MY I' n Y := by
  obtain ⟨a, b, e⟩ := h
  refine ⟨h9.trans a, b, fun p hp => ?_⟩
  rw [h50, h51, h52]
  exact e p hp
theorem M_layTried : mj_call mj_P (d + 1) kn_M_layTried [.ref 45] (HP L dy I y y1 n1 w1 c y2 R J) none (HP L dy (cpI I 55 53 10) y y1 n1 w1 c y2 R J) := by
  refine mj_ci rfl (Nat.le_of_ble_eq_true rfl) ?_
  refine mj_run 2 rfl trivial ?_
  have key := dn_ind 10 (fun p => mj_Rd (mj_call mj_P d) kc_M_layTried 0 (2, [some (.ref 45), some (.int (nI p))], [], HP L dy (cpI I 55 53 p) y y1 n1 w1 c y2 R J) none (HP L dy (cpI I 55 53 10) y y1 n1 w1 c y2 R J)) ?_ ?_ 0 (by omega)
  · rw [cpI_0] at key
    exact key
  · refine mj_run 2 rfl trivial ?_
    refine mj_brt rfl rfl (by decide) ?_
    exact mj_end rfl rfl trivial
  · intro p hp ih
    refine mj_run 2 rfl trivial ?_
    refine mj_brf rfl rfl (by rw [nI_leI (by decide) (by omega)]; omega) ?_
    refine mj_run 10 rfl ⟨nI_vi (by omega) (by decide), nI_vi (by omega) (by decide), by decide⟩ ?_
    rw [nI_nc (by omega), cpI_s (by decide), nI_add]
    exact ih
theorem M_move {a m : Nat} {T : Nat → Nat} {q : Option Nat} {x : Int32} (hY : MY I n Y) (hp : I 45 19 = nI (10 + a)) (ha : a < n) (hT : RI I 55 n T) (hTK : TOK n Y T) (hq : sq q x) (hm : I 45 20 = nI m) : mj_call mj_P (d + 3) kn_M_move [.ref 45, .int x] (HP L dy I y y1 n1 w1 c y2 R J) none (HP L dy (mj_ui (mj_ui (mj_ui I 45 19 (nI (mv Y q (10 + a, T, m)).1)) 55 a (nI ((mv Y q (10 + a, T, m)).2.1 a))) 45 20 (nI (m + 1))) y y1 n1 w1 c y2 R J) := by
  have hY0 := hY
  obtain ⟨h1, h2, h3⟩ := hY
  have hn : n ≤ 10 := h2.1
  have hsm := sm_in h2 ha
  have hTa := hTK a ha
  have hw := wa_in h2 ha hTa
  obtain ⟨k1, k2, k3, -⟩ := h2.2 a ha
  obtain ⟨e1, e2, e3⟩ := h3 a ha
  have vi : vp_in (nI a) 10 := nI_vi (by omega) (by decide)
  have hc : (nI a).toNatClampNeg = a := nI_nc (by omega)
  have e4 : nI (10 + a) - nI 10 = nI a := by rw [pk_sub (by omega)]; congr 1; omega
  have e9 : (10 + a : Nat) - 10 = a := by omega
  refine mj_ci rfl (Nat.le_of_ble_eq_true rfl) ?_
  refine mj_run 17 rfl (by rw [hp, e4]; exact vi) ?_
  rw [hp, e4, hc, hT a ha]
  refine mj_cal rfl rfl (M_wayAt hY0 ha hTa) ?_
  have e5 : nI 3 * nI a + nI (wa Y a (T a)) = nI (3 * a + wa Y a (T a)) := by rw [pk_mul, nI_add]
  refine mj_run 8 rfl (by rw [e5]; exact nI_vi (by omega) (by decide)) ?_
  rw [e5, nI_nc (by omega), e3 _ (by omega), if_pos hw]
  refine mj_bra rfl rfl (fun g => ?_) (fun g => ?_)
  · refine mj_run 6 rfl vi ?_
    have e6 : mj_ui I 45 19 (nI (Y.2.2 a (wa Y a (T a)))) 55 (nI a).toNatClampNeg = nI (T a) := by
      rw [hc]
      simp [mj_ui, hT a ha]
    rw [e6]
    refine mj_cal rfl rfl (M_turned (I := mj_ui I 45 19 (nI (Y.2.2 a (wa Y a (T a))))) (hY0.kept (by simp [mj_ui, upd]) (by simp [mj_ui]) (by simp [mj_ui]) (by simp [mj_ui])) ha hTa) ?_
    refine mj_run 7 rfl ⟨vi, by decide⟩ ?_
    have g' : ¬ q = some a := fun z => g ((hq a (by omega)).mpr z)
    refine mj_endI rfl rfl trivial rfl ?_
    simp [mv, fu, pl, g', hc, mj_ui, upd, hm, nI_add]
  · have g' : q = some a := (hq a (by omega)).mp (Classical.not_not.mp g)
    refine mj_run 5 rfl vi ?_
    have e6 : mj_ui I 45 19 (nI (Y.2.2 a (wa Y a (T a)))) 55 (nI a).toNatClampNeg = nI (T a) := by
      rw [hc]
      simp [mj_ui, hT a ha]
    rw [e6]
    refine mj_run 7 rfl ⟨vi, by decide⟩ ?_
    refine mj_endI rfl rfl trivial rfl ?_
    simp [mv, fu, pl, g', hc, mj_ui, upd, hm, nI_add]
end MM
