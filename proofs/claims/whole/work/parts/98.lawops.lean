/-! the law's own walk -/
theorem i_sb {a b : Nat} (h : b ≤ a) : nI a - nI b = nI (a - b) := by
  have := i_sac (a := a) (b := b) (e := 0) (by omega)
  have z : ∀ x : Int32, x + nI 0 = x := fun x => by simp [nI]
  rw [z, Nat.add_zero] at this
  exact this
def LwS (L : Nat) (xs : Nat → Int32) (k : Nat) (h : mjH) : Prop := ∃ (dy : mjM) (I : mjI) (y y1 n1 w1 : Option Nat) (ca : Nat) (y2 : Option Nat) (R : mjR) (J : mjJ) (cl pn : Nat) (pg : Nat → Nat) (n : Nat) (Y : Yd) (T : Nat → Nat) (t : Nat) (tr : Nat → Nat) (kp : Kp) (wn : Nat) (wt : Nat → Nat) (yr dn : Nat), h = HP L dy I y y1 n1 w1 (some ca) y2 R J ∧ MI I pn pg n Y T t tr kp wn wt yr dn ∧ CI (FM L dy) I (FR y y1 n1 w1 (some ca) y2 R) y pn pg n Y T t tr kp wn wt yr dn ∧ I 0 = xs ∧ mj_mt ca (FM L dy) = some (1, cl) ∧ cl ≤ 653184 ∧ (ca = 24 ∨ 65 ≤ ca) ∧ dy.length ≤ 30 * k ∧ mj_sl dy ≤ 300 * k + 2 * cl ∧ yr ≤ k
def LwO (L : Nat) (xs : Nat → Int32) (k kT kM : Nat) (as : List Value) (v : Value) (h : mjH) : Prop := ∃ (dy : mjM) (I : mjI) (y y1 n1 w1 c y2 : Option Nat) (R : mjR) (J : mjJ) (h2 : mjH), mj_call mj_P 30 kT (.ref 1 :: as) h (some v) (HP L dy I y y1 n1 w1 c y2 R J) ∧ I 0 = xs ∧ mj_call mj_P 30 kM (.ref 45 :: as) (HP L dy I y y1 n1 w1 c y2 R J) (some v) h2 ∧ LwS L xs (k + 1) h2
theorem LwO.of {L k kT kM : Nat} {xs : Nat → Int32} {as : List Value} {v : Value} {h : mjH} {I : mjI} {pn : Nat} {pg : Nat → Nat} {n : Nat} {Y : Yd} {T : Nat → Nat} {t : Nat} {tr : Nat → Nat} {kp : Kp} {wn : Nat} {wt : Nat → Nat} {yr dn : Nat} {pn' : Nat} {pg' : Nat → Nat} {n' : Nat} {Y' : Yd} {T' : Nat → Nat} {t' : Nat} {tr' : Nat → Nat} {kp' : Kp} {wn' : Nat} {wt' : Nat → Nat} {yr' dn' : Nat} {dy' : mjM} {I' : mjI} {y' y1' n1' w1' y2' : Option Nat} {R' : mjR} {J' : mjJ} {ca' cl' : Nat} {ks : List Nat} (zs : List Nat) (hM : MI I pn pg n Y T t tr kp wn wt yr dn) (hx : I 0 = xs) (hc : mj_call mj_P 30 kT (.ref 1 :: as) h (some v) (HP L dy' I' y' y1' n1' w1' (some ca') y2' R' J')) (hC : CI (FM L dy') I' (FR y' y1' n1' w1' (some ca') y2' R') y' pn' pg' n' Y' T' t' tr' kp' wn' wt' yr' dn') (hK : KM I I') (hm : MI I' pn pg n Y T t tr kp wn wt yr dn → ∃ I2 J2, mj_call mj_P 30 kM (.ref 45 :: as) (HP L dy' I' y' y1' n1' w1' (some ca') y2' R' J') (some v) (HP L dy' I2 y' y1' n1' w1' (some ca') y2' R' J2) ∧ MI I2 pn' pg' n' Y' T' t' tr' kp' wn' wt' yr' dn' ∧ Fr ks zs I' I2) (hz : ∀ a, a ∈ zs → 45 ≤ a ∧ a < 65) (hcm : mj_mt ca' (FM L dy') = some (1, cl')) (hcl : cl' ≤ 653184) (hca : ca' = 24 ∨ 65 ≤ ca') (g1 : dy'.length ≤ 30 * (k + 1)) (g2 : mj_sl dy' ≤ 300 * (k + 1) + 2 * cl') (g3 : yr' ≤ k + 1) : LwO L xs k kT kM as v h := by
  obtain ⟨I2, J2, m1, m2, m3⟩ := hm (hM.km hK)
  have e1 : I' 0 = xs := (hK 0 (Or.inl rfl)).trans hx
  refine ⟨dy', I', y', y1', n1', w1', some ca', y2', R', J', _, hc, e1, m1, dy', I2, y', y1', n1', w1', ca', y2', R', J2, cl', pn', pg', n', Y', T', t', tr', kp', wn', wt', yr', dn', rfl, m2, hC.ref m3 hz, ?_, hcm, hcl, hca, g1, g2, g3⟩
  rw [m3.1 0 (fun q => by have := hz 0 q; omega) (by decide)]
  exact e1
section LO
variable {L k : Nat} {xs : Nat → Int32} {H : mjH}

theorem LO_blank (h : LwS L xs k H) : ∃ v : Int32, LwO L xs k kn_T_blank kn_M_blank [] (.int v) H := by
  obtain ⟨dy, I, y, y1, n1, w1, ca, y2, R, J, cl, pn, pg, n, Y, T, t, tr, kp, wn, wt, yr, dn, rfl, hM, hC, hx, hcm, hcl, hca, g1, g2, g3⟩ := h
  obtain ⟨I1, c1, c2, c3⟩ := CO_blank (d := 28) (J := J) hC
  exact ⟨_, LwO.of [] hM hx c1 c2 c3 (fun q => by obtain ⟨I2, m1, m2, m3⟩ := MO_blank (d := 29) (L := L) (dy := dy) (y := y) (y1 := y1) (n1 := n1) (w1 := w1) (c := some ca) (y2 := y2) (R := R) (J := J) q; exact ⟨I2, J, m1, m2, m3⟩) (by decide) hcm hcl hca (by omega) (by omega) (by omega)⟩
theorem LO_clear (h : LwS L xs k H) : ∃ v : Int32, LwO L xs k kn_T_clear kn_M_clear [] (.int v) H := by
  obtain ⟨dy, I, y, y1, n1, w1, ca, y2, R, J, cl, pn, pg, n, Y, T, t, tr, kp, wn, wt, yr, dn, rfl, hM, hC, hx, hcm, hcl, hca, g1, g2, g3⟩ := h
  obtain ⟨I1, c1, c2, c3⟩ := CO_clear (d := 29) (J := J) hC
  exact ⟨_, LwO.of [] hM hx c1 c2 c3 (fun q => by obtain ⟨I2, m1, m2, m3⟩ := MO_clear (d := 29) (L := L) (dy := dy) (y := y) (y1 := y1) (n1 := n1) (w1 := w1) (c := some ca) (y2 := y2) (R := R) (J := J) q; exact ⟨I2, J, m1, m2, m3⟩) (by decide) hcm hcl hca (by omega) (by omega) (by omega)⟩
theorem LO_many (h : LwS L xs k H) (x : Int32) : ∃ v : Int32, LwO L xs k kn_T_many kn_M_many [.int x] (.int v) H := by
  obtain ⟨dy, I, y, y1, n1, w1, ca, y2, R, J, cl, pn, pg, n, Y, T, t, tr, kp, wn, wt, yr, dn, rfl, hM, hC, hx, hcm, hcl, hca, g1, g2, g3⟩ := h
  exact ⟨_, LwO.of [] hM hx (CO_many (d := 28) hM.ab hC x) hC (KM.rf I) (fun q => ⟨I, J, MO_many (d := 28) q x, q, Fr.rf I⟩) (by decide) hcm hcl hca (by omega) (by omega) (by omega)⟩
theorem LO_truck (h : LwS L xs k H) (x : Int32) (z : Int32) : ∃ v : Int32, LwO L xs k kn_T_truck kn_M_truck [.int x, .int z] (.int v) H := by
  obtain ⟨dy, I, y, y1, n1, w1, ca, y2, R, J, cl, pn, pg, n, Y, T, t, tr, kp, wn, wt, yr, dn, rfl, hM, hC, hx, hcm, hcl, hca, g1, g2, g3⟩ := h
  exact ⟨_, LwO.of [] hM hx (CO_truck (d := 28) hM.ab hC x z) hC (KM.rf I) (fun q => ⟨I, J, MO_truck (d := 28) q x z, q, Fr.rf I⟩) (by decide) hcm hcl hca (by omega) (by omega) (by omega)⟩
theorem LO_want (h : LwS L xs k H) (x : Int32) : ∃ v : Int32, LwO L xs k kn_T_want kn_M_want [.int x] (.int v) H := by
  obtain ⟨dy, I, y, y1, n1, w1, ca, y2, R, J, cl, pn, pg, n, Y, T, t, tr, kp, wn, wt, yr, dn, rfl, hM, hC, hx, hcm, hcl, hca, g1, g2, g3⟩ := h
  obtain ⟨I1, c1, c2, c3⟩ := CO_want (d := 28) (J := J) hM.ab hC x
  by_cases g : (0 ≤ x.toInt ∧ x.toInt < 10) ∧ ¬ wn = 8
  · rw [if_pos g] at c2
    exact ⟨_, LwO.of [58] hM hx c1 c2 c3 (fun q => by obtain ⟨I2, m1, m2, m3⟩ := MO_want (d := 28) (L := L) (dy := dy) (y := y) (y1 := y1) (n1 := n1) (w1 := w1) (c := some ca) (y2 := y2) (R := R) (J := J) q x; rw [if_pos g] at m2; exact ⟨I2, J, m1, m2, m3⟩) (by decide) hcm hcl hca (by omega) (by omega) (by omega)⟩
  · rw [if_neg g] at c2
    exact ⟨_, LwO.of [58] hM hx c1 c2 c3 (fun q => by obtain ⟨I2, m1, m2, m3⟩ := MO_want (d := 28) (L := L) (dy := dy) (y := y) (y1 := y1) (n1 := n1) (w1 := w1) (c := some ca) (y2 := y2) (R := R) (J := J) q x; rw [if_neg g] at m2; exact ⟨I2, J, m1, m2, m3⟩) (by decide) hcm hcl hca (by omega) (by omega) (by omega)⟩
theorem LO_about (h : LwS L xs k H) (x : Int32) (z : Int32) : ∃ v : Int32, LwO L xs k kn_T_about kn_M_about [.int x, .int z] (.int v) H := by
  obtain ⟨dy, I, y, y1, n1, w1, ca, y2, R, J, cl, pn, pg, n, Y, T, t, tr, kp, wn, wt, yr, dn, rfl, hM, hC, hx, hcm, hcl, hca, g1, g2, g3⟩ := h
  exact ⟨_, LwO.of [] hM hx (CO_about (d := 27) hM.ab hC x z) hC (KM.rf I) (fun q => ⟨I, J, MO_about (d := 27) q x z, q, Fr.rf I⟩) (by decide) hcm hcl hca (by omega) (by omega) (by omega)⟩
theorem LO_as (h : LwS L xs k H) (x : Int32) (z : Int32) : ∃ v : Int32, LwO L xs k kn_T_as kn_M_as [.int x, .int z] (.int v) H := by
  obtain ⟨dy, I, y, y1, n1, w1, ca, y2, R, J, cl, pn, pg, n, Y, T, t, tr, kp, wn, wt, yr, dn, rfl, hM, hC, hx, hcm, hcl, hca, g1, g2, g3⟩ := h
  exact ⟨_, LwO.of [] hM hx (CO_as (d := 28) hC x z) hC (KM.rf I) (fun q => ⟨I, J, MO_as (d := 27) q x z, q, Fr.rf I⟩) (by decide) hcm hcl hca (by omega) (by omega) (by omega)⟩
theorem LO_lever (h : LwS L xs k H) (x : Int32) (z : Int32) : ∃ v : Int32, LwO L xs k kn_T_lever kn_M_lever [.int x, .int z] (.int v) H := by
  obtain ⟨dy, I, y, y1, n1, w1, ca, y2, R, J, cl, pn, pg, n, Y, T, t, tr, kp, wn, wt, yr, dn, rfl, hM, hC, hx, hcm, hcl, hca, g1, g2, g3⟩ := h
  obtain ⟨I1, c1, c2, c3⟩ := CO_lever (d := 28) (J := J) hC x z
  exact ⟨_, LwO.of [53] hM hx c1 c2 c3 (fun q => by obtain ⟨I2, m1, m2, m3⟩ := MO_lever (d := 27) (L := L) (dy := dy) (y := y) (y1 := y1) (n1 := n1) (w1 := w1) (c := some ca) (y2 := y2) (R := R) (J := J) q x z; exact ⟨I2, J, m1, m2, m3⟩) (by decide) hcm hcl hca (by omega) (by omega) (by omega)⟩
theorem LO_anew (h : LwS L xs k H) : ∃ v : Int32, LwO L xs k kn_T_anew kn_M_anew [] (.int v) H := by
  obtain ⟨dy, I, y, y1, n1, w1, ca, y2, R, J, cl, pn, pg, n, Y, T, t, tr, kp, wn, wt, yr, dn, rfl, hM, hC, hx, hcm, hcl, hca, g1, g2, g3⟩ := h
  obtain ⟨I1, c1, c2, c3⟩ := CO_anew (d := 27) (J := J) hC
  exact ⟨_, LwO.of [53] hM hx c1 c2 c3 (fun q => by obtain ⟨I2, m1, m2, m3⟩ := MO_anew (d := 28) (L := L) (dy := dy) (y := y) (y1 := y1) (n1 := n1) (w1 := w1) (c := some ca) (y2 := y2) (R := R) (J := J) q; exact ⟨I2, J, m1, m2, m3⟩) (by decide) hcm hcl hca (by omega) (by omega) (by omega)⟩
theorem LO_straight (h : LwS L xs k H) : ∃ v : Int32, LwO L xs k kn_T_straight kn_M_straight [] (.int v) H := by
  obtain ⟨dy, I, y, y1, n1, w1, ca, y2, R, J, cl, pn, pg, n, Y, T, t, tr, kp, wn, wt, yr, dn, rfl, hM, hC, hx, hcm, hcl, hca, g1, g2, g3⟩ := h
  exact ⟨_, LwO.of [] hM hx (CO_straight (d := 29) hC) hC (KM.rf I) (fun q => ⟨I, J, MO_straight (d := 27) q, q, Fr.rf I⟩) (by decide) hcm hcl hca (by omega) (by omega) (by omega)⟩
theorem LO_moves (h : LwS L xs k H) : ∃ v : Int32, LwO L xs k kn_T_moves kn_M_moves [] (.int v) H := by
  obtain ⟨dy, I, y, y1, n1, w1, ca, y2, R, J, cl, pn, pg, n, Y, T, t, tr, kp, wn, wt, yr, dn, rfl, hM, hC, hx, hcm, hcl, hca, g1, g2, g3⟩ := h
  obtain ⟨I1, c1, c2, c3⟩ := CO_moves (d := 26) (J := J) hM.ab hC
  exact ⟨_, LwO.of wa' hM hx c1 c2 c3 (fun q => by obtain ⟨I2, m1, m2, m3⟩ := MO_moves (d := 24) (L := L) (dy := dy) (y := y) (y1 := y1) (n1 := n1) (w1 := w1) (c := some ca) (y2 := y2) (R := R) (J := J) q; exact ⟨I2, J, m1, m2, m3⟩) (by decide) hcm hcl hca (by omega) (by omega) (by omega)⟩
theorem LO_image (h : LwS L xs k H) : ∃ v : Int32, LwO L xs k kn_T_image kn_M_image [] (.int v) H := by
  obtain ⟨dy, I, y, y1, n1, w1, ca, y2, R, J, cl, pn, pg, n, Y, T, t, tr, kp, wn, wt, yr, dn, rfl, hM, hC, hx, hcm, hcl, hca, g1, g2, g3⟩ := h
  obtain ⟨I1, c1, c2, c3⟩ := CO_image (d := 28) (J := J) hM.ab hC
  exact ⟨_, LwO.of [63, 64] hM hx c1 c2 c3 (fun q => by obtain ⟨I2, m1, m2, m3⟩ := MO_image (d := 28) (L := L) (dy := dy) (y := y) (y1 := y1) (n1 := n1) (w1 := w1) (c := some ca) (y2 := y2) (R := R) (J := J) q; exact ⟨I2, J, m1, m2, m3⟩) (by decide) hcm hcl hca (by omega) (by omega) (by omega)⟩
theorem LO_restore (h : LwS L xs k H) : ∃ v : Int32, LwO L xs k kn_T_restore kn_M_restore [] (.int v) H := by
  obtain ⟨dy, I, y, y1, n1, w1, ca, y2, R, J, cl, pn, pg, n, Y, T, t, tr, kp, wn, wt, yr, dn, rfl, hM, hC, hx, hcm, hcl, hca, g1, g2, g3⟩ := h
  cases kp with
  | none =>
    obtain ⟨I1, c1, c2, c3⟩ := CO_restore (d := 28) (J := J) hM.ab hC
    exact ⟨_, LwO.of [53, 54] hM hx c1 c2 c3 (fun q => by obtain ⟨I2, m1, m2, m3⟩ := MO_restore (d := 29) (L := L) (dy := dy) (y := y) (y1 := y1) (n1 := n1) (w1 := w1) (c := some ca) (y2 := y2) (R := R) (J := J) q; exact ⟨I2, J, m1, m2, m3⟩) (by decide) hcm hcl hca (by omega) (by omega) (by omega)⟩
  | some qq =>
    obtain ⟨I1, c1, c2, c3⟩ := CO_restore (d := 28) (J := J) hM.ab hC
    exact ⟨_, LwO.of [53, 54] hM hx c1 c2 c3 (fun q => by obtain ⟨I2, m1, m2, m3⟩ := MO_restore (d := 29) (L := L) (dy := dy) (y := y) (y1 := y1) (n1 := n1) (w1 := w1) (c := some ca) (y2 := y2) (R := R) (J := J) q; exact ⟨I2, J, m1, m2, m3⟩) (by decide) hcm hcl hca (by omega) (by omega) (by omega)⟩
theorem LO_count (h : LwS L xs k H) (x : Int32) : ∃ v : Int32, LwO L xs k kn_T_count kn_M_count [.int x] (.int v) H := by
  obtain ⟨dy, I, y, y1, n1, w1, ca, y2, R, J, cl, pn, pg, n, Y, T, t, tr, kp, wn, wt, yr, dn, rfl, hM, hC, hx, hcm, hcl, hca, g1, g2, g3⟩ := h
  exact ⟨_, LwO.of [] hM hx (T_count (d := 29) hM.ab hC x) hC (KM.rf I) (fun q => ⟨I, J, MO_count (d := 28) q x, q, Fr.rf I⟩) (by decide) hcm hcl hca (by omega) (by omega) (by omega)⟩
theorem LO_down (h : LwS L xs k H) : ∃ v : Int32, LwO L xs k kn_T_down kn_M_down [] (.int v) H := by
  obtain ⟨dy, I, y, y1, n1, w1, ca, y2, R, J, cl, pn, pg, n, Y, T, t, tr, kp, wn, wt, yr, dn, rfl, hM, hC, hx, hcm, hcl, hca, g1, g2, g3⟩ := h
  obtain ⟨I1, c1, c2, c3⟩ := CO_down (d := 26) (J := J) hM.ab hC
  cases g : (if n = 0 ∨ t = 60 then none else (gt Y none T).1) with
  | none =>
    rw [g] at c2
    exact ⟨_, LwO.of [53, 54, 55, 56] hM hx c1 c2 c3 (fun q => by obtain ⟨I2, m1, m2, m3⟩ := MO_down (d := 25) (L := L) (dy := dy) (y := y) (y1 := y1) (n1 := n1) (w1 := w1) (c := some ca) (y2 := y2) (R := R) (J := J) q; rw [g] at m2; exact ⟨I2, J, m1, m2, m3⟩) (by decide) hcm hcl hca (by omega) (by omega) (by omega)⟩
  | some s =>
    rw [g] at c2
    exact ⟨_, LwO.of [53, 54, 55, 56] hM hx c1 c2 c3 (fun q => by obtain ⟨I2, m1, m2, m3⟩ := MO_down (d := 25) (L := L) (dy := dy) (y := y) (y1 := y1) (n1 := n1) (w1 := w1) (c := some ca) (y2 := y2) (R := R) (J := J) q; rw [g] at m2; exact ⟨I2, J, m1, m2, m3⟩) (by decide) hcm hcl hca (by omega) (by omega) (by omega)⟩
theorem LO_round (h : LwS L xs k H) : ∃ v : Int32, LwO L xs k kn_T_round kn_M_round [] (.int v) H := by
  obtain ⟨dy, I, y, y1, n1, w1, ca, y2, R, J, cl, pn, pg, n, Y, T, t, tr, kp, wn, wt, yr, dn, rfl, hM, hC, hx, hcm, hcl, hca, g1, g2, g3⟩ := h
  obtain ⟨I1, c1, c2, c3⟩ := CO_round (d := 26) (J := J) hM.ab hC
  exact ⟨_, LwO.of wa' hM hx c1 c2 c3 (fun q => by obtain ⟨I2, m1, m2, m3⟩ := MO_round (d := 26) (L := L) (dy := dy) (y := y) (y1 := y1) (n1 := n1) (w1 := w1) (c := some ca) (y2 := y2) (R := R) (J := J) q; exact ⟨I2, J, m1, m2, m3⟩) (by decide) hcm hcl hca (by omega) (by omega) (by omega)⟩
theorem LO_empty (h : LwS L xs k H) (x : Int32) : ∃ v : Int32, LwO L xs k kn_T_empty kn_M_empty [.int x] (.int v) H := by
  obtain ⟨dy, I, y, y1, n1, w1, ca, y2, R, J, cl, pn, pg, n, Y, T, t, tr, kp, wn, wt, yr, dn, rfl, hM, hC, hx, hcm, hcl, hca, g1, g2, g3⟩ := h
  obtain ⟨I1, c1, c2, c3⟩ := CO_empty (d := 25) (J := J) hM.ab hC x
  exact ⟨_, LwO.of wa' hM hx c1 c2 c3 (fun q => by obtain ⟨I2, m1, m2, m3⟩ := MO_empty (d := 24) (L := L) (dy := dy) (y := y) (y1 := y1) (n1 := n1) (w1 := w1) (c := some ca) (y2 := y2) (R := R) (J := J) q x; exact ⟨I2, J, m1, m2, m3⟩) (by decide) hcm hcl hca (by omega) (by omega) (by omega)⟩
theorem LO_which (h : LwS L xs k H) : ∃ v : Int32, LwO L xs k kn_T_which kn_M_which [] (.int v) H := by
  obtain ⟨dy, I, y, y1, n1, w1, ca, y2, R, J, cl, pn, pg, n, Y, T, t, tr, kp, wn, wt, yr, dn, rfl, hM, hC, hx, hcm, hcl, hca, g1, g2, g3⟩ := h
  obtain ⟨I1, c1, c2, c3⟩ := CO_which (d := 25) (J := J) hM.ab hC
  exact ⟨_, LwO.of wa' hM hx c1 c2 c3 (fun q => by obtain ⟨I2, m1, m2, m3⟩ := MO_which (d := 24) (L := L) (dy := dy) (y := y) (y1 := y1) (n1 := n1) (w1 := w1) (c := some ca) (y2 := y2) (R := R) (J := J) q; exact ⟨I2, J, m1, m2, m3⟩) (by decide) hcm hcl hca (by omega) (by omega) (by omega)⟩
theorem LO_noticed (h : LwS L xs k H) : ∃ v : Int32, LwO L xs k kn_T_noticed kn_M_noticed [] (.int v) H := by
  obtain ⟨dy, I, y, y1, n1, w1, ca, y2, R, J, cl, pn, pg, n, Y, T, t, tr, kp, wn, wt, yr, dn, rfl, hM, hC, hx, hcm, hcl, hca, g1, g2, g3⟩ := h
  obtain ⟨I1, c1, c2, c3⟩ := CO_noticed (d := 24) (J := J) hM.ab hC
  exact ⟨_, LwO.of wa' hM hx c1 c2 c3 (fun q => by obtain ⟨I2, m1, m2, m3⟩ := MO_noticed (d := 23) (L := L) (dy := dy) (y := y) (y1 := y1) (n1 := n1) (w1 := w1) (c := some ca) (y2 := y2) (R := R) (J := J) q; exact ⟨I2, J, m1, m2, m3⟩) (by decide) hcm hcl hca (by omega) (by omega) (by omega)⟩
theorem LO_apart (h : LwS L xs k H) : ∃ v : Int32, LwO L xs k kn_T_apart kn_M_apart [] (.int v) H := by
  obtain ⟨dy, I, y, y1, n1, w1, ca, y2, R, J, cl, pn, pg, n, Y, T, t, tr, kp, wn, wt, yr, dn, rfl, hM, hC, hx, hcm, hcl, hca, g1, g2, g3⟩ := h
  obtain ⟨I1, c1, c2, c3⟩ := CO_apart (d := 24) (J := J) hM.ab hC
  exact ⟨_, LwO.of wa' hM hx c1 c2 c3 (fun q => by obtain ⟨I2, m1, m2, m3⟩ := MO_apart (d := 23) (L := L) (dy := dy) (y := y) (y1 := y1) (n1 := n1) (w1 := w1) (c := some ca) (y2 := y2) (R := R) (J := J) q; exact ⟨I2, J, m1, m2, m3⟩) (by decide) hcm hcl hca (by omega) (by omega) (by omega)⟩
theorem LO_letters (h : LwS L xs k H) (w : Int64) : ∃ v : Int32, LwO L xs k kn_T_letters kn_M_letters [.long w] (.int v) H := by
  obtain ⟨dy, I, y, y1, n1, w1, ca, y2, R, J, cl, pn, pg, n, Y, T, t, tr, kp, wn, wt, yr, dn, rfl, hM, hC, hx, hcm, hcl, hca, g1, g2, g3⟩ := h
  obtain ⟨I1, c1, c2, c3⟩ := CO_letters (d := 26) (J := J) hM.ab hC w
  exact ⟨_, LwO.of [46] hM hx c1 c2 c3 (fun q => by obtain ⟨I2, m1, m2, m3⟩ := MO_letters (d := 29) (L := L) (dy := dy) (y := y) (y1 := y1) (n1 := n1) (w1 := w1) (c := some ca) (y2 := y2) (R := R) (J := J) q w; exact ⟨I2, J, m1, m2, m3⟩) (by decide) hcm hcl hca (by omega) (by omega) (by omega)⟩
theorem LO_fault (h : LwS L xs k H) : ∃ v : Int32, LwO L xs k kn_T_fault kn_M_fault [] (.int v) H := by
  obtain ⟨dy, I, y, y1, n1, w1, ca, y2, R, J, cl, pn, pg, n, Y, T, t, tr, kp, wn, wt, yr, dn, rfl, hM, hC, hx, hcm, hcl, hca, g1, g2, g3⟩ := h
  exact ⟨_, LwO.of wa' hM hx (CO_fault (d := 27) hM.ab hC) hC (KM.rf I) (fun q => by obtain ⟨I2, m1, m2, m3⟩ := MO_fault (d := 26) (L := L) (dy := dy) (y := y) (y1 := y1) (n1 := n1) (w1 := w1) (c := some ca) (y2 := y2) (R := R) (J := J) q; exact ⟨I2, J, m1, m2, m3⟩) (by decide) hcm hcl hca (by omega) (by omega) (by omega)⟩
theorem LO_yard (h : LwS L xs k H) (hk : k < 1000) : ∃ v : Int32, LwO L xs k kn_T_yard kn_M_yard [] (.int v) H := by
  obtain ⟨dy, I, y, y1, n1, w1, ca, y2, R, J, cl, pn, pg, n, Y, T, t, tr, kp, wn, wt, yr, dn, rfl, hM, hC, hx, hcm, hcl, hca, g1, g2, g3⟩ := h
  have c := CO_yard (d := 22) (J := J) hM.ab hC
  cases g : ydS pg pn with
  | none =>
    rw [g] at c
    exact ⟨_, LwO.of [47, 48, 49, 50, 51, 52, 53] hM hx c hC (KM.rf I) (fun q => by obtain ⟨I2, m1, m2, m3⟩ := MO_yard (d := 26) (L := L) (dy := dy) (y := y) (y1 := y1) (n1 := n1) (w1 := w1) (c := some ca) (y2 := y2) (R := R) (J := J) q (by omega); rw [g] at m1 m2; exact ⟨I2, J, m1, m2, m3⟩) (by decide) hcm hcl hca (by omega) (by omega) (by omega)⟩
  | some s =>
    rw [g] at c
    obtain ⟨e, I1, y', R', J', c1, c2, c3, u1, u2⟩ := c
    exact ⟨_, LwO.of [47, 48, 49, 50, 51, 52, 53] hM hx c1 c2 c3 (fun q => by obtain ⟨I2, m1, m2, m3⟩ := MO_yard (d := 26) (L := L) (dy := dy ++ e) (y := y') (y1 := y1) (n1 := n1) (w1 := w1) (c := some ca) (y2 := y2) (R := R') (J := J') q (by omega); rw [g] at m1 m2; exact ⟨I2, J', m1, m2, m3⟩) (by decide) (by rw [← FM_app]; exact mt_old hcm e) hcl hca (by rw [List.length_append]; omega) (by rw [mj_sl_app]; omega) (by omega)⟩
theorem LO_nth (h : LwS L xs k H) (x : Int32) : ∃ v : Int32, LwO L xs k kn_T_nth kn_M_nth [.int x] (.int v) H := by
  obtain ⟨dy, I, y, y1, n1, w1, ca, y2, R, J, cl, pn, pg, n, Y, T, t, tr, kp, wn, wt, yr, dn, rfl, hM, hC, hx, hcm, hcl, hca, g1, g2, g3⟩ := h
  obtain ⟨I1, c1, c2, c3⟩ := CO_nth (d := 23) (J := J) hM.ab hC x
  exact ⟨_, LwO.of wa' hM hx c1 c2 c3 (fun q => by obtain ⟨I2, m1, m2, m3⟩ := MO_nth (d := 25) (L := L) (dy := dy) (y := y) (y1 := y1) (n1 := n1) (w1 := w1) (c := some ca) (y2 := y2) (R := R) (J := J) q x; exact ⟨I2, J, m1, m2, m3⟩) (by decide) hcm hcl hca (by omega) (by omega) (by omega)⟩
theorem LO_behind (h : LwS L xs k H) (x : Int32) (z : Int32) : ∃ v : Int32, LwO L xs k kn_T_behind kn_M_behind [.int x, .int z] (.int v) H := by
  obtain ⟨dy, I, y, y1, n1, w1, ca, y2, R, J, cl, pn, pg, n, Y, T, t, tr, kp, wn, wt, yr, dn, rfl, hM, hC, hx, hcm, hcl, hca, g1, g2, g3⟩ := h
  obtain ⟨I1, c1, c2, c3⟩ := CO_behind (d := 23) (J := J) hM.ab hC x z
  exact ⟨_, LwO.of wa' hM hx c1 c2 c3 (fun q => by obtain ⟨I2, m1, m2, m3⟩ := MO_behind (d := 25) (L := L) (dy := dy) (y := y) (y1 := y1) (n1 := n1) (w1 := w1) (c := some ca) (y2 := y2) (R := R) (J := J) q x z; exact ⟨I2, J, m1, m2, m3⟩) (by decide) hcm hcl hca (by omega) (by omega) (by omega)⟩
theorem LO_ago (h : LwS L xs k H) (x : Int32) (z : Int32) : ∃ v : Int32, LwO L xs k kn_T_ago kn_M_ago [.int x, .int z] (.int v) H := by
  obtain ⟨dy, I, y, y1, n1, w1, ca, y2, R, J, cl, pn, pg, n, Y, T, t, tr, kp, wn, wt, yr, dn, rfl, hM, hC, hx, hcm, hcl, hca, g1, g2, g3⟩ := h
  obtain ⟨I1, c1, c2, c3⟩ := CO_ago (d := 23) (J := J) hM.ab hC x z
  exact ⟨_, LwO.of wa' hM hx c1 c2 c3 (fun q => by obtain ⟨I2, m1, m2, m3⟩ := MO_ago (d := 25) (L := L) (dy := dy) (y := y) (y1 := y1) (n1 := n1) (w1 := w1) (c := some ca) (y2 := y2) (R := R) (J := J) q x z; exact ⟨I2, J, m1, m2, m3⟩) (by decide) hcm hcl hca (by omega) (by omega) (by omega)⟩
theorem LO_begin (h : LwS L xs k H) (x : Int32) : ∃ v : Int32, LwO L xs k kn_T_begin kn_M_begin [.int x] (.int v) H := by
  obtain ⟨dy, I, y, y1, n1, w1, ca, y2, R, J, cl, pn, pg, n, Y, T, t, tr, kp, wn, wt, yr, dn, rfl, hM, hC, hx, hcm, hcl, hca, g1, g2, g3⟩ := h
  obtain ⟨I1, y1', n1', w1', c1, c2, c3⟩ := CO_begin (DD := 30) (J := J) (by decide) hM.ab hC x
  exact ⟨_, LwO.of wa' hM hx c1 c2 c3 (fun q => by obtain ⟨I2, m1, m2, m3⟩ := MO_begin (d := 24) (L := L) (dy := dy) (y := y) (y1 := y1') (n1 := n1') (w1 := w1') (c := some ca) (y2 := y2) (R := R) (J := J) q x; exact ⟨I2, J, m1, m2, m3⟩) (by decide) hcm hcl hca (by omega) (by omega) (by omega)⟩
theorem LO_hands (h : LwS L xs k H) : ∃ v : Int32, LwO L xs k kn_T_hands kn_M_hands [] (.int v) H := by
  obtain ⟨dy, I, y, y1, n1, w1, ca, y2, R, J, cl, pn, pg, n, Y, T, t, tr, kp, wn, wt, yr, dn, rfl, hM, hC, hx, hcm, hcl, hca, g1, g2, g3⟩ := h
  obtain ⟨e, I1, y2', ca', cl', c1, c2, c3, u1, u2, u3, u4, u5⟩ := CO_hands (d := 25) (J := J) hM.ab hC hcm hcl hca
  exact ⟨_, LwO.of wa' hM hx c1 c2 c3 (fun q => by obtain ⟨I2, m1, m2, m3⟩ := MO_hands (d := 25) (L := L) (dy := dy ++ e) (y := y) (y1 := y1) (n1 := n1) (w1 := w1) (c := some ca') (y2 := y2') (R := R) (J := J) q; exact ⟨I2, J, m1, m2, m3⟩) (by decide) u1 u2 u3 (by rw [List.length_append]; omega) (by rw [mj_sl_app]; omega) (by omega)⟩
theorem LO_digest (h : LwS L xs k H) : ∃ v : Int64, LwO L xs k kn_T_digest kn_M_digest [] (.long v) H := by
  obtain ⟨dy, I, y, y1, n1, w1, ca, y2, R, J, cl, pn, pg, n, Y, T, t, tr, kp, wn, wt, yr, dn, rfl, hM, hC, hx, hcm, hcl, hca, g1, g2, g3⟩ := h
  obtain ⟨I1, c1, c2, c3⟩ := CO_digest (d := 23) (J := J) hM.ab hC
  exact ⟨_, LwO.of wa' hM hx c1 c2 c3 (fun q => MO_digest (d := 22) q) (by decide) hcm hcl hca (by omega) (by omega) (by omega)⟩
end LO
