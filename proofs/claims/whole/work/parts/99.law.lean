def LwB (L : Nat) (c : mjC) : Prop := ∃ h', mj_Rd (mj_call mj_P 30) kc_L_law 2 c (some (.int 1)) h' ∧ h'.1.length ≤ 600001 ∧ mj_sl h'.1 ≤ L + 7302250
abbrev LwC (pc k : Nat) (h : mjH) : mjC := (pc, [some (.ref 0), some (.ref 1), some (.ref 45), some (.int (nI (3 * k)))], [], h)
def wd (a b : Int32) : Int64 := (a.toInt64 <<< ((nI 32).toInt64 &&& 63)) ||| (b.toInt64 &&& lN 4294967295)
theorem lg_self (v : Int64) : lg_cmp v v = 0 := by
  unfold lg_cmp
  rw [if_neg (by rw [gt_iff_lt, Int64.lt_iff_toInt_lt]; omega), if_pos rfl]
theorem FM_sl (L : Nat) (dy : mjM) : mj_sl (FM L dy) = L + mj_sl (FM 0 []) + mj_sl dy := by
  have : FM L dy = FM L [] ++ dy := rfl
  rw [this, mj_sl_app]
  have : mj_sl (FM L []) = L + mj_sl (FM 0 []) := by
    simp [FM, mj_sl]
  rw [this]
set_option maxRecDepth 16000 in
theorem FM0_sl : mj_sl (FM 0 []) ≤ 200000 := by decide
section LC
variable {L k : Nat} {xs : Nat → Int32} {H : mjH}

set_option maxRecDepth 16000 in
theorem LC_letters (hL : L ≤ 1536) (hk : 3 * k + 3 ≤ L) (h : LwS L xs k H) (ih : ∀ h2, LwS L xs (k + 1) h2 → LwB L (LwC 18 (k + 1) h2)) : LwB L (LwC 164 k H) := by
  obtain ⟨v, dy', I', y', y1', n1', w1', c', y2', R', J', h2, c1, e1, c2, l2⟩ := LO_letters h (wd (xs (3 * k + 1)) (xs (3 * k + 2)))
  obtain ⟨h', hr, hb⟩ := ih h2 l2
  obtain ⟨dy, I, y, y1, n1, w1, ca, y2, R, J, cl, pn, pg, n, Y, T, t, tr, kp, wn, wt, yr, dn, rfl, -, -, hx, -⟩ := h
  refine ⟨h', ?_, hb⟩
  refine mj_run 6 rfl (by rw [nI_add]; exact nI_vi (show 3 * k + 1 < L by omega) (by omega)) ?_
  rw [nI_add, nI_nc (by omega), hx]
  refine mj_run 3 rfl trivial ?_
  refine mj_run 5 rfl (by rw [nI_add]; exact nI_vi (show 3 * k + 2 < L by omega) (by omega)) ?_
  rw [nI_add, nI_nc (by omega), hx]
  refine mj_run 4 rfl trivial ?_
  refine mj_cal rfl rfl c1 ?_
  refine mj_run 6 rfl (by rw [nI_add]; exact nI_vi (show 3 * k + 1 < L by omega) (by omega)) ?_
  rw [nI_add, nI_nc (by omega), e1]
  refine mj_run 3 rfl trivial ?_
  refine mj_run 5 rfl (by rw [nI_add]; exact nI_vi (show 3 * k + 2 < L by omega) (by omega)) ?_
  rw [nI_add, nI_nc (by omega), e1]
  refine mj_run 4 rfl trivial ?_
  refine mj_cal rfl rfl c2 ?_
  refine mj_brt rfl rfl rfl ?_
  refine mj_run 2 rfl trivial ?_
  rw [nI_add]
  exact hr
set_option maxRecDepth 16000 in
theorem LC_blank (hL : L ≤ 1536) (hk : 3 * k + 3 ≤ L) (h : LwS L xs k H) (ih : ∀ h2, LwS L xs (k + 1) h2 → LwB L (LwC 18 (k + 1) h2)) : LwB L (LwC 217 k H) := by
  obtain ⟨v, dy', I', y', y1', n1', w1', c', y2', R', J', h2, c1, e1, c2, l2⟩ := LO_blank h
  obtain ⟨h', hr, hb⟩ := ih h2 l2
  obtain ⟨dy, I, y, y1, n1, w1, ca, y2, R, J, cl, pn, pg, n, Y, T, t, tr, kp, wn, wt, yr, dn, rfl, -, -, hx, -⟩ := h
  refine ⟨h', ?_, hb⟩
  refine mj_run 1 rfl trivial ?_
  refine mj_cal rfl rfl c1 ?_
  refine mj_run 1 rfl trivial ?_
  refine mj_cal rfl rfl c2 ?_
  refine mj_brt rfl rfl rfl ?_
  refine mj_run 2 rfl trivial ?_
  rw [nI_add]
  exact hr
set_option maxRecDepth 16000 in
theorem LC_fault (hL : L ≤ 1536) (hk : 3 * k + 3 ≤ L) (h : LwS L xs k H) (ih : ∀ h2, LwS L xs (k + 1) h2 → LwB L (LwC 18 (k + 1) h2)) : LwB L (LwC 230 k H) := by
  obtain ⟨v, dy', I', y', y1', n1', w1', c', y2', R', J', h2, c1, e1, c2, l2⟩ := LO_fault h
  obtain ⟨h', hr, hb⟩ := ih h2 l2
  obtain ⟨dy, I, y, y1, n1, w1, ca, y2, R, J, cl, pn, pg, n, Y, T, t, tr, kp, wn, wt, yr, dn, rfl, -, -, hx, -⟩ := h
  refine ⟨h', ?_, hb⟩
  refine mj_run 1 rfl trivial ?_
  refine mj_cal rfl rfl c1 ?_
  refine mj_run 1 rfl trivial ?_
  refine mj_cal rfl rfl c2 ?_
  refine mj_brt rfl rfl rfl ?_
  refine mj_run 2 rfl trivial ?_
  rw [nI_add]
  exact hr
set_option maxRecDepth 16000 in
theorem LC_yard (hL : L ≤ 1536) (hk : 3 * k + 3 ≤ L) (h : LwS L xs k H) (ih : ∀ h2, LwS L xs (k + 1) h2 → LwB L (LwC 18 (k + 1) h2)) : LwB L (LwC 243 k H) := by
  obtain ⟨v, dy', I', y', y1', n1', w1', c', y2', R', J', h2, c1, e1, c2, l2⟩ := LO_yard h (by omega)
  obtain ⟨h', hr, hb⟩ := ih h2 l2
  obtain ⟨dy, I, y, y1, n1, w1, ca, y2, R, J, cl, pn, pg, n, Y, T, t, tr, kp, wn, wt, yr, dn, rfl, -, -, hx, -⟩ := h
  refine ⟨h', ?_, hb⟩
  refine mj_run 1 rfl trivial ?_
  refine mj_cal rfl rfl c1 ?_
  refine mj_run 1 rfl trivial ?_
  refine mj_cal rfl rfl c2 ?_
  refine mj_brt rfl rfl rfl ?_
  refine mj_run 2 rfl trivial ?_
  rw [nI_add]
  exact hr
set_option maxRecDepth 16000 in
theorem LC_about (hL : L ≤ 1536) (hk : 3 * k + 3 ≤ L) (h : LwS L xs k H) (ih : ∀ h2, LwS L xs (k + 1) h2 → LwB L (LwC 18 (k + 1) h2)) : LwB L (LwC 256 k H) := by
  obtain ⟨v, dy', I', y', y1', n1', w1', c', y2', R', J', h2, c1, e1, c2, l2⟩ := LO_about h (xs (3 * k + 1)) (xs (3 * k + 2))
  obtain ⟨h', hr, hb⟩ := ih h2 l2
  obtain ⟨dy, I, y, y1, n1, w1, ca, y2, R, J, cl, pn, pg, n, Y, T, t, tr, kp, wn, wt, yr, dn, rfl, -, -, hx, -⟩ := h
  refine ⟨h', ?_, hb⟩
  refine mj_run 6 rfl (by rw [nI_add]; exact nI_vi (show 3 * k + 1 < L by omega) (by omega)) ?_
  rw [nI_add, nI_nc (by omega), hx]
  refine mj_run 5 rfl (by rw [nI_add]; exact nI_vi (show 3 * k + 2 < L by omega) (by omega)) ?_
  rw [nI_add, nI_nc (by omega), hx]
  refine mj_cal rfl rfl c1 ?_
  refine mj_run 6 rfl (by rw [nI_add]; exact nI_vi (show 3 * k + 1 < L by omega) (by omega)) ?_
  rw [nI_add, nI_nc (by omega), e1]
  refine mj_run 5 rfl (by rw [nI_add]; exact nI_vi (show 3 * k + 2 < L by omega) (by omega)) ?_
  rw [nI_add, nI_nc (by omega), e1]
  refine mj_cal rfl rfl c2 ?_
  refine mj_brt rfl rfl rfl ?_
  refine mj_run 2 rfl trivial ?_
  rw [nI_add]
  exact hr
set_option maxRecDepth 16000 in
theorem LC_as (hL : L ≤ 1536) (hk : 3 * k + 3 ≤ L) (h : LwS L xs k H) (ih : ∀ h2, LwS L xs (k + 1) h2 → LwB L (LwC 18 (k + 1) h2)) : LwB L (LwC 289 k H) := by
  obtain ⟨v, dy', I', y', y1', n1', w1', c', y2', R', J', h2, c1, e1, c2, l2⟩ := LO_as h (xs (3 * k + 1)) (xs (3 * k + 2))
  obtain ⟨h', hr, hb⟩ := ih h2 l2
  obtain ⟨dy, I, y, y1, n1, w1, ca, y2, R, J, cl, pn, pg, n, Y, T, t, tr, kp, wn, wt, yr, dn, rfl, -, -, hx, -⟩ := h
  refine ⟨h', ?_, hb⟩
  refine mj_run 6 rfl (by rw [nI_add]; exact nI_vi (show 3 * k + 1 < L by omega) (by omega)) ?_
  rw [nI_add, nI_nc (by omega), hx]
  refine mj_run 5 rfl (by rw [nI_add]; exact nI_vi (show 3 * k + 2 < L by omega) (by omega)) ?_
  rw [nI_add, nI_nc (by omega), hx]
  refine mj_cal rfl rfl c1 ?_
  refine mj_run 6 rfl (by rw [nI_add]; exact nI_vi (show 3 * k + 1 < L by omega) (by omega)) ?_
  rw [nI_add, nI_nc (by omega), e1]
  refine mj_run 5 rfl (by rw [nI_add]; exact nI_vi (show 3 * k + 2 < L by omega) (by omega)) ?_
  rw [nI_add, nI_nc (by omega), e1]
  refine mj_cal rfl rfl c2 ?_
  refine mj_brt rfl rfl rfl ?_
  refine mj_run 2 rfl trivial ?_
  rw [nI_add]
  exact hr
set_option maxRecDepth 16000 in
theorem LC_lever (hL : L ≤ 1536) (hk : 3 * k + 3 ≤ L) (h : LwS L xs k H) (ih : ∀ h2, LwS L xs (k + 1) h2 → LwB L (LwC 18 (k + 1) h2)) : LwB L (LwC 322 k H) := by
  obtain ⟨v, dy', I', y', y1', n1', w1', c', y2', R', J', h2, c1, e1, c2, l2⟩ := LO_lever h (xs (3 * k + 1)) (xs (3 * k + 2))
  obtain ⟨h', hr, hb⟩ := ih h2 l2
  obtain ⟨dy, I, y, y1, n1, w1, ca, y2, R, J, cl, pn, pg, n, Y, T, t, tr, kp, wn, wt, yr, dn, rfl, -, -, hx, -⟩ := h
  refine ⟨h', ?_, hb⟩
  refine mj_run 6 rfl (by rw [nI_add]; exact nI_vi (show 3 * k + 1 < L by omega) (by omega)) ?_
  rw [nI_add, nI_nc (by omega), hx]
  refine mj_run 5 rfl (by rw [nI_add]; exact nI_vi (show 3 * k + 2 < L by omega) (by omega)) ?_
  rw [nI_add, nI_nc (by omega), hx]
  refine mj_cal rfl rfl c1 ?_
  refine mj_run 6 rfl (by rw [nI_add]; exact nI_vi (show 3 * k + 1 < L by omega) (by omega)) ?_
  rw [nI_add, nI_nc (by omega), e1]
  refine mj_run 5 rfl (by rw [nI_add]; exact nI_vi (show 3 * k + 2 < L by omega) (by omega)) ?_
  rw [nI_add, nI_nc (by omega), e1]
  refine mj_cal rfl rfl c2 ?_
  refine mj_brt rfl rfl rfl ?_
  refine mj_run 2 rfl trivial ?_
  rw [nI_add]
  exact hr
set_option maxRecDepth 16000 in
theorem LC_anew (hL : L ≤ 1536) (hk : 3 * k + 3 ≤ L) (h : LwS L xs k H) (ih : ∀ h2, LwS L xs (k + 1) h2 → LwB L (LwC 18 (k + 1) h2)) : LwB L (LwC 355 k H) := by
  obtain ⟨v, dy', I', y', y1', n1', w1', c', y2', R', J', h2, c1, e1, c2, l2⟩ := LO_anew h
  obtain ⟨h', hr, hb⟩ := ih h2 l2
  obtain ⟨dy, I, y, y1, n1, w1, ca, y2, R, J, cl, pn, pg, n, Y, T, t, tr, kp, wn, wt, yr, dn, rfl, -, -, hx, -⟩ := h
  refine ⟨h', ?_, hb⟩
  refine mj_run 1 rfl trivial ?_
  refine mj_cal rfl rfl c1 ?_
  refine mj_run 1 rfl trivial ?_
  refine mj_cal rfl rfl c2 ?_
  refine mj_brt rfl rfl rfl ?_
  refine mj_run 2 rfl trivial ?_
  rw [nI_add]
  exact hr
set_option maxRecDepth 16000 in
theorem LC_down (hL : L ≤ 1536) (hk : 3 * k + 3 ≤ L) (h : LwS L xs k H) (ih : ∀ h2, LwS L xs (k + 1) h2 → LwB L (LwC 18 (k + 1) h2)) : LwB L (LwC 368 k H) := by
  obtain ⟨v, dy', I', y', y1', n1', w1', c', y2', R', J', h2, c1, e1, c2, l2⟩ := LO_down h
  obtain ⟨h', hr, hb⟩ := ih h2 l2
  obtain ⟨dy, I, y, y1, n1, w1, ca, y2, R, J, cl, pn, pg, n, Y, T, t, tr, kp, wn, wt, yr, dn, rfl, -, -, hx, -⟩ := h
  refine ⟨h', ?_, hb⟩
  refine mj_run 1 rfl trivial ?_
  refine mj_cal rfl rfl c1 ?_
  refine mj_run 1 rfl trivial ?_
  refine mj_cal rfl rfl c2 ?_
  refine mj_brt rfl rfl rfl ?_
  refine mj_run 2 rfl trivial ?_
  rw [nI_add]
  exact hr
set_option maxRecDepth 16000 in
theorem LC_many (hL : L ≤ 1536) (hk : 3 * k + 3 ≤ L) (h : LwS L xs k H) (ih : ∀ h2, LwS L xs (k + 1) h2 → LwB L (LwC 18 (k + 1) h2)) : LwB L (LwC 381 k H) := by
  obtain ⟨v, dy', I', y', y1', n1', w1', c', y2', R', J', h2, c1, e1, c2, l2⟩ := LO_many h (xs (3 * k + 1))
  obtain ⟨h', hr, hb⟩ := ih h2 l2
  obtain ⟨dy, I, y, y1, n1, w1, ca, y2, R, J, cl, pn, pg, n, Y, T, t, tr, kp, wn, wt, yr, dn, rfl, -, -, hx, -⟩ := h
  refine ⟨h', ?_, hb⟩
  refine mj_run 6 rfl (by rw [nI_add]; exact nI_vi (show 3 * k + 1 < L by omega) (by omega)) ?_
  rw [nI_add, nI_nc (by omega), hx]
  refine mj_cal rfl rfl c1 ?_
  refine mj_run 6 rfl (by rw [nI_add]; exact nI_vi (show 3 * k + 1 < L by omega) (by omega)) ?_
  rw [nI_add, nI_nc (by omega), e1]
  refine mj_cal rfl rfl c2 ?_
  refine mj_brt rfl rfl rfl ?_
  refine mj_run 2 rfl trivial ?_
  rw [nI_add]
  exact hr
set_option maxRecDepth 16000 in
theorem LC_truck (hL : L ≤ 1536) (hk : 3 * k + 3 ≤ L) (h : LwS L xs k H) (ih : ∀ h2, LwS L xs (k + 1) h2 → LwB L (LwC 18 (k + 1) h2)) : LwB L (LwC 404 k H) := by
  obtain ⟨v, dy', I', y', y1', n1', w1', c', y2', R', J', h2, c1, e1, c2, l2⟩ := LO_truck h (xs (3 * k + 1)) (xs (3 * k + 2))
  obtain ⟨h', hr, hb⟩ := ih h2 l2
  obtain ⟨dy, I, y, y1, n1, w1, ca, y2, R, J, cl, pn, pg, n, Y, T, t, tr, kp, wn, wt, yr, dn, rfl, -, -, hx, -⟩ := h
  refine ⟨h', ?_, hb⟩
  refine mj_run 6 rfl (by rw [nI_add]; exact nI_vi (show 3 * k + 1 < L by omega) (by omega)) ?_
  rw [nI_add, nI_nc (by omega), hx]
  refine mj_run 5 rfl (by rw [nI_add]; exact nI_vi (show 3 * k + 2 < L by omega) (by omega)) ?_
  rw [nI_add, nI_nc (by omega), hx]
  refine mj_cal rfl rfl c1 ?_
  refine mj_run 6 rfl (by rw [nI_add]; exact nI_vi (show 3 * k + 1 < L by omega) (by omega)) ?_
  rw [nI_add, nI_nc (by omega), e1]
  refine mj_run 5 rfl (by rw [nI_add]; exact nI_vi (show 3 * k + 2 < L by omega) (by omega)) ?_
  rw [nI_add, nI_nc (by omega), e1]
  refine mj_cal rfl rfl c2 ?_
  refine mj_brt rfl rfl rfl ?_
  refine mj_run 2 rfl trivial ?_
  rw [nI_add]
  exact hr
set_option maxRecDepth 16000 in
theorem LC_moves (hL : L ≤ 1536) (hk : 3 * k + 3 ≤ L) (h : LwS L xs k H) (ih : ∀ h2, LwS L xs (k + 1) h2 → LwB L (LwC 18 (k + 1) h2)) : LwB L (LwC 437 k H) := by
  obtain ⟨v, dy', I', y', y1', n1', w1', c', y2', R', J', h2, c1, e1, c2, l2⟩ := LO_moves h
  obtain ⟨h', hr, hb⟩ := ih h2 l2
  obtain ⟨dy, I, y, y1, n1, w1, ca, y2, R, J, cl, pn, pg, n, Y, T, t, tr, kp, wn, wt, yr, dn, rfl, -, -, hx, -⟩ := h
  refine ⟨h', ?_, hb⟩
  refine mj_run 1 rfl trivial ?_
  refine mj_cal rfl rfl c1 ?_
  refine mj_run 1 rfl trivial ?_
  refine mj_cal rfl rfl c2 ?_
  refine mj_brt rfl rfl rfl ?_
  refine mj_run 2 rfl trivial ?_
  rw [nI_add]
  exact hr
set_option maxRecDepth 16000 in
theorem LC_round (hL : L ≤ 1536) (hk : 3 * k + 3 ≤ L) (h : LwS L xs k H) (ih : ∀ h2, LwS L xs (k + 1) h2 → LwB L (LwC 18 (k + 1) h2)) : LwB L (LwC 450 k H) := by
  obtain ⟨v, dy', I', y', y1', n1', w1', c', y2', R', J', h2, c1, e1, c2, l2⟩ := LO_round h
  obtain ⟨h', hr, hb⟩ := ih h2 l2
  obtain ⟨dy, I, y, y1, n1, w1, ca, y2, R, J, cl, pn, pg, n, Y, T, t, tr, kp, wn, wt, yr, dn, rfl, -, -, hx, -⟩ := h
  refine ⟨h', ?_, hb⟩
  refine mj_run 1 rfl trivial ?_
  refine mj_cal rfl rfl c1 ?_
  refine mj_run 1 rfl trivial ?_
  refine mj_cal rfl rfl c2 ?_
  refine mj_brt rfl rfl rfl ?_
  refine mj_run 2 rfl trivial ?_
  rw [nI_add]
  exact hr
set_option maxRecDepth 16000 in
theorem LC_straight (hL : L ≤ 1536) (hk : 3 * k + 3 ≤ L) (h : LwS L xs k H) (ih : ∀ h2, LwS L xs (k + 1) h2 → LwB L (LwC 18 (k + 1) h2)) : LwB L (LwC 463 k H) := by
  obtain ⟨v, dy', I', y', y1', n1', w1', c', y2', R', J', h2, c1, e1, c2, l2⟩ := LO_straight h
  obtain ⟨h', hr, hb⟩ := ih h2 l2
  obtain ⟨dy, I, y, y1, n1, w1, ca, y2, R, J, cl, pn, pg, n, Y, T, t, tr, kp, wn, wt, yr, dn, rfl, -, -, hx, -⟩ := h
  refine ⟨h', ?_, hb⟩
  refine mj_run 1 rfl trivial ?_
  refine mj_cal rfl rfl c1 ?_
  refine mj_run 1 rfl trivial ?_
  refine mj_cal rfl rfl c2 ?_
  refine mj_brt rfl rfl rfl ?_
  refine mj_run 2 rfl trivial ?_
  rw [nI_add]
  exact hr
set_option maxRecDepth 16000 in
theorem LC_nth (hL : L ≤ 1536) (hk : 3 * k + 3 ≤ L) (h : LwS L xs k H) (ih : ∀ h2, LwS L xs (k + 1) h2 → LwB L (LwC 18 (k + 1) h2)) : LwB L (LwC 476 k H) := by
  obtain ⟨v, dy', I', y', y1', n1', w1', c', y2', R', J', h2, c1, e1, c2, l2⟩ := LO_nth h (xs (3 * k + 1))
  obtain ⟨h', hr, hb⟩ := ih h2 l2
  obtain ⟨dy, I, y, y1, n1, w1, ca, y2, R, J, cl, pn, pg, n, Y, T, t, tr, kp, wn, wt, yr, dn, rfl, -, -, hx, -⟩ := h
  refine ⟨h', ?_, hb⟩
  refine mj_run 6 rfl (by rw [nI_add]; exact nI_vi (show 3 * k + 1 < L by omega) (by omega)) ?_
  rw [nI_add, nI_nc (by omega), hx]
  refine mj_cal rfl rfl c1 ?_
  refine mj_run 6 rfl (by rw [nI_add]; exact nI_vi (show 3 * k + 1 < L by omega) (by omega)) ?_
  rw [nI_add, nI_nc (by omega), e1]
  refine mj_cal rfl rfl c2 ?_
  refine mj_brt rfl rfl rfl ?_
  refine mj_run 2 rfl trivial ?_
  rw [nI_add]
  exact hr
set_option maxRecDepth 16000 in
theorem LC_behind (hL : L ≤ 1536) (hk : 3 * k + 3 ≤ L) (h : LwS L xs k H) (ih : ∀ h2, LwS L xs (k + 1) h2 → LwB L (LwC 18 (k + 1) h2)) : LwB L (LwC 499 k H) := by
  obtain ⟨v, dy', I', y', y1', n1', w1', c', y2', R', J', h2, c1, e1, c2, l2⟩ := LO_behind h (xs (3 * k + 1)) (xs (3 * k + 2))
  obtain ⟨h', hr, hb⟩ := ih h2 l2
  obtain ⟨dy, I, y, y1, n1, w1, ca, y2, R, J, cl, pn, pg, n, Y, T, t, tr, kp, wn, wt, yr, dn, rfl, -, -, hx, -⟩ := h
  refine ⟨h', ?_, hb⟩
  refine mj_run 6 rfl (by rw [nI_add]; exact nI_vi (show 3 * k + 1 < L by omega) (by omega)) ?_
  rw [nI_add, nI_nc (by omega), hx]
  refine mj_run 5 rfl (by rw [nI_add]; exact nI_vi (show 3 * k + 2 < L by omega) (by omega)) ?_
  rw [nI_add, nI_nc (by omega), hx]
  refine mj_cal rfl rfl c1 ?_
  refine mj_run 6 rfl (by rw [nI_add]; exact nI_vi (show 3 * k + 1 < L by omega) (by omega)) ?_
  rw [nI_add, nI_nc (by omega), e1]
  refine mj_run 5 rfl (by rw [nI_add]; exact nI_vi (show 3 * k + 2 < L by omega) (by omega)) ?_
  rw [nI_add, nI_nc (by omega), e1]
  refine mj_cal rfl rfl c2 ?_
  refine mj_brt rfl rfl rfl ?_
  refine mj_run 2 rfl trivial ?_
  rw [nI_add]
  exact hr
set_option maxRecDepth 16000 in
theorem LC_ago (hL : L ≤ 1536) (hk : 3 * k + 3 ≤ L) (h : LwS L xs k H) (ih : ∀ h2, LwS L xs (k + 1) h2 → LwB L (LwC 18 (k + 1) h2)) : LwB L (LwC 532 k H) := by
  obtain ⟨v, dy', I', y', y1', n1', w1', c', y2', R', J', h2, c1, e1, c2, l2⟩ := LO_ago h (xs (3 * k + 1)) (xs (3 * k + 2))
  obtain ⟨h', hr, hb⟩ := ih h2 l2
  obtain ⟨dy, I, y, y1, n1, w1, ca, y2, R, J, cl, pn, pg, n, Y, T, t, tr, kp, wn, wt, yr, dn, rfl, -, -, hx, -⟩ := h
  refine ⟨h', ?_, hb⟩
  refine mj_run 6 rfl (by rw [nI_add]; exact nI_vi (show 3 * k + 1 < L by omega) (by omega)) ?_
  rw [nI_add, nI_nc (by omega), hx]
  refine mj_run 5 rfl (by rw [nI_add]; exact nI_vi (show 3 * k + 2 < L by omega) (by omega)) ?_
  rw [nI_add, nI_nc (by omega), hx]
  refine mj_cal rfl rfl c1 ?_
  refine mj_run 6 rfl (by rw [nI_add]; exact nI_vi (show 3 * k + 1 < L by omega) (by omega)) ?_
  rw [nI_add, nI_nc (by omega), e1]
  refine mj_run 5 rfl (by rw [nI_add]; exact nI_vi (show 3 * k + 2 < L by omega) (by omega)) ?_
  rw [nI_add, nI_nc (by omega), e1]
  refine mj_cal rfl rfl c2 ?_
  refine mj_brt rfl rfl rfl ?_
  refine mj_run 2 rfl trivial ?_
  rw [nI_add]
  exact hr
set_option maxRecDepth 16000 in
theorem LC_want (hL : L ≤ 1536) (hk : 3 * k + 3 ≤ L) (h : LwS L xs k H) (ih : ∀ h2, LwS L xs (k + 1) h2 → LwB L (LwC 18 (k + 1) h2)) : LwB L (LwC 565 k H) := by
  obtain ⟨v, dy', I', y', y1', n1', w1', c', y2', R', J', h2, c1, e1, c2, l2⟩ := LO_want h (xs (3 * k + 1))
  obtain ⟨h', hr, hb⟩ := ih h2 l2
  obtain ⟨dy, I, y, y1, n1, w1, ca, y2, R, J, cl, pn, pg, n, Y, T, t, tr, kp, wn, wt, yr, dn, rfl, -, -, hx, -⟩ := h
  refine ⟨h', ?_, hb⟩
  refine mj_run 6 rfl (by rw [nI_add]; exact nI_vi (show 3 * k + 1 < L by omega) (by omega)) ?_
  rw [nI_add, nI_nc (by omega), hx]
  refine mj_cal rfl rfl c1 ?_
  refine mj_run 6 rfl (by rw [nI_add]; exact nI_vi (show 3 * k + 1 < L by omega) (by omega)) ?_
  rw [nI_add, nI_nc (by omega), e1]
  refine mj_cal rfl rfl c2 ?_
  refine mj_brt rfl rfl rfl ?_
  refine mj_run 2 rfl trivial ?_
  rw [nI_add]
  exact hr
set_option maxRecDepth 16000 in
theorem LC_clear (hL : L ≤ 1536) (hk : 3 * k + 3 ≤ L) (h : LwS L xs k H) (ih : ∀ h2, LwS L xs (k + 1) h2 → LwB L (LwC 18 (k + 1) h2)) : LwB L (LwC 588 k H) := by
  obtain ⟨v, dy', I', y', y1', n1', w1', c', y2', R', J', h2, c1, e1, c2, l2⟩ := LO_clear h
  obtain ⟨h', hr, hb⟩ := ih h2 l2
  obtain ⟨dy, I, y, y1, n1, w1, ca, y2, R, J, cl, pn, pg, n, Y, T, t, tr, kp, wn, wt, yr, dn, rfl, -, -, hx, -⟩ := h
  refine ⟨h', ?_, hb⟩
  refine mj_run 1 rfl trivial ?_
  refine mj_cal rfl rfl c1 ?_
  refine mj_run 1 rfl trivial ?_
  refine mj_cal rfl rfl c2 ?_
  refine mj_brt rfl rfl rfl ?_
  refine mj_run 2 rfl trivial ?_
  rw [nI_add]
  exact hr
set_option maxRecDepth 16000 in
theorem LC_begin (hL : L ≤ 1536) (hk : 3 * k + 3 ≤ L) (h : LwS L xs k H) (ih : ∀ h2, LwS L xs (k + 1) h2 → LwB L (LwC 18 (k + 1) h2)) : LwB L (LwC 601 k H) := by
  obtain ⟨v, dy', I', y', y1', n1', w1', c', y2', R', J', h2, c1, e1, c2, l2⟩ := LO_begin h (xs (3 * k + 1))
  obtain ⟨h', hr, hb⟩ := ih h2 l2
  obtain ⟨dy, I, y, y1, n1, w1, ca, y2, R, J, cl, pn, pg, n, Y, T, t, tr, kp, wn, wt, yr, dn, rfl, -, -, hx, -⟩ := h
  refine ⟨h', ?_, hb⟩
  refine mj_run 6 rfl (by rw [nI_add]; exact nI_vi (show 3 * k + 1 < L by omega) (by omega)) ?_
  rw [nI_add, nI_nc (by omega), hx]
  refine mj_cal rfl rfl c1 ?_
  refine mj_run 6 rfl (by rw [nI_add]; exact nI_vi (show 3 * k + 1 < L by omega) (by omega)) ?_
  rw [nI_add, nI_nc (by omega), e1]
  refine mj_cal rfl rfl c2 ?_
  refine mj_brt rfl rfl rfl ?_
  refine mj_run 2 rfl trivial ?_
  rw [nI_add]
  exact hr
set_option maxRecDepth 16000 in
theorem LC_hands (hL : L ≤ 1536) (hk : 3 * k + 3 ≤ L) (h : LwS L xs k H) (ih : ∀ h2, LwS L xs (k + 1) h2 → LwB L (LwC 18 (k + 1) h2)) : LwB L (LwC 624 k H) := by
  obtain ⟨v, dy', I', y', y1', n1', w1', c', y2', R', J', h2, c1, e1, c2, l2⟩ := LO_hands h
  obtain ⟨h', hr, hb⟩ := ih h2 l2
  obtain ⟨dy, I, y, y1, n1, w1, ca, y2, R, J, cl, pn, pg, n, Y, T, t, tr, kp, wn, wt, yr, dn, rfl, -, -, hx, -⟩ := h
  refine ⟨h', ?_, hb⟩
  refine mj_run 1 rfl trivial ?_
  refine mj_cal rfl rfl c1 ?_
  refine mj_run 1 rfl trivial ?_
  refine mj_cal rfl rfl c2 ?_
  refine mj_brt rfl rfl rfl ?_
  refine mj_run 2 rfl trivial ?_
  rw [nI_add]
  exact hr
set_option maxRecDepth 16000 in
theorem LC_empty (hL : L ≤ 1536) (hk : 3 * k + 3 ≤ L) (h : LwS L xs k H) (ih : ∀ h2, LwS L xs (k + 1) h2 → LwB L (LwC 18 (k + 1) h2)) : LwB L (LwC 637 k H) := by
  obtain ⟨v, dy', I', y', y1', n1', w1', c', y2', R', J', h2, c1, e1, c2, l2⟩ := LO_empty h (xs (3 * k + 1))
  obtain ⟨h', hr, hb⟩ := ih h2 l2
  obtain ⟨dy, I, y, y1, n1, w1, ca, y2, R, J, cl, pn, pg, n, Y, T, t, tr, kp, wn, wt, yr, dn, rfl, -, -, hx, -⟩ := h
  refine ⟨h', ?_, hb⟩
  refine mj_run 6 rfl (by rw [nI_add]; exact nI_vi (show 3 * k + 1 < L by omega) (by omega)) ?_
  rw [nI_add, nI_nc (by omega), hx]
  refine mj_cal rfl rfl c1 ?_
  refine mj_run 6 rfl (by rw [nI_add]; exact nI_vi (show 3 * k + 1 < L by omega) (by omega)) ?_
  rw [nI_add, nI_nc (by omega), e1]
  refine mj_cal rfl rfl c2 ?_
  refine mj_brt rfl rfl rfl ?_
  refine mj_run 2 rfl trivial ?_
  rw [nI_add]
  exact hr
set_option maxRecDepth 16000 in
theorem LC_which (hL : L ≤ 1536) (hk : 3 * k + 3 ≤ L) (h : LwS L xs k H) (ih : ∀ h2, LwS L xs (k + 1) h2 → LwB L (LwC 18 (k + 1) h2)) : LwB L (LwC 660 k H) := by
  obtain ⟨v, dy', I', y', y1', n1', w1', c', y2', R', J', h2, c1, e1, c2, l2⟩ := LO_which h
  obtain ⟨h', hr, hb⟩ := ih h2 l2
  obtain ⟨dy, I, y, y1, n1, w1, ca, y2, R, J, cl, pn, pg, n, Y, T, t, tr, kp, wn, wt, yr, dn, rfl, -, -, hx, -⟩ := h
  refine ⟨h', ?_, hb⟩
  refine mj_run 1 rfl trivial ?_
  refine mj_cal rfl rfl c1 ?_
  refine mj_run 1 rfl trivial ?_
  refine mj_cal rfl rfl c2 ?_
  refine mj_brt rfl rfl rfl ?_
  refine mj_run 2 rfl trivial ?_
  rw [nI_add]
  exact hr
set_option maxRecDepth 16000 in
theorem LC_noticed (hL : L ≤ 1536) (hk : 3 * k + 3 ≤ L) (h : LwS L xs k H) (ih : ∀ h2, LwS L xs (k + 1) h2 → LwB L (LwC 18 (k + 1) h2)) : LwB L (LwC 673 k H) := by
  obtain ⟨v, dy', I', y', y1', n1', w1', c', y2', R', J', h2, c1, e1, c2, l2⟩ := LO_noticed h
  obtain ⟨h', hr, hb⟩ := ih h2 l2
  obtain ⟨dy, I, y, y1, n1, w1, ca, y2, R, J, cl, pn, pg, n, Y, T, t, tr, kp, wn, wt, yr, dn, rfl, -, -, hx, -⟩ := h
  refine ⟨h', ?_, hb⟩
  refine mj_run 1 rfl trivial ?_
  refine mj_cal rfl rfl c1 ?_
  refine mj_run 1 rfl trivial ?_
  refine mj_cal rfl rfl c2 ?_
  refine mj_brt rfl rfl rfl ?_
  refine mj_run 2 rfl trivial ?_
  rw [nI_add]
  exact hr
set_option maxRecDepth 16000 in
theorem LC_apart (hL : L ≤ 1536) (hk : 3 * k + 3 ≤ L) (h : LwS L xs k H) (ih : ∀ h2, LwS L xs (k + 1) h2 → LwB L (LwC 18 (k + 1) h2)) : LwB L (LwC 686 k H) := by
  obtain ⟨v, dy', I', y', y1', n1', w1', c', y2', R', J', h2, c1, e1, c2, l2⟩ := LO_apart h
  obtain ⟨h', hr, hb⟩ := ih h2 l2
  obtain ⟨dy, I, y, y1, n1, w1, ca, y2, R, J, cl, pn, pg, n, Y, T, t, tr, kp, wn, wt, yr, dn, rfl, -, -, hx, -⟩ := h
  refine ⟨h', ?_, hb⟩
  refine mj_run 1 rfl trivial ?_
  refine mj_cal rfl rfl c1 ?_
  refine mj_run 1 rfl trivial ?_
  refine mj_cal rfl rfl c2 ?_
  refine mj_brt rfl rfl rfl ?_
  refine mj_run 2 rfl trivial ?_
  rw [nI_add]
  exact hr
set_option maxRecDepth 16000 in
theorem LC_image (hL : L ≤ 1536) (hk : 3 * k + 3 ≤ L) (h : LwS L xs k H) (ih : ∀ h2, LwS L xs (k + 1) h2 → LwB L (LwC 18 (k + 1) h2)) : LwB L (LwC 699 k H) := by
  obtain ⟨v, dy', I', y', y1', n1', w1', c', y2', R', J', h2, c1, e1, c2, l2⟩ := LO_image h
  obtain ⟨h', hr, hb⟩ := ih h2 l2
  obtain ⟨dy, I, y, y1, n1, w1, ca, y2, R, J, cl, pn, pg, n, Y, T, t, tr, kp, wn, wt, yr, dn, rfl, -, -, hx, -⟩ := h
  refine ⟨h', ?_, hb⟩
  refine mj_run 1 rfl trivial ?_
  refine mj_cal rfl rfl c1 ?_
  refine mj_run 1 rfl trivial ?_
  refine mj_cal rfl rfl c2 ?_
  refine mj_brt rfl rfl rfl ?_
  refine mj_run 2 rfl trivial ?_
  rw [nI_add]
  exact hr
set_option maxRecDepth 16000 in
theorem LC_restore (hL : L ≤ 1536) (hk : 3 * k + 3 ≤ L) (h : LwS L xs k H) (ih : ∀ h2, LwS L xs (k + 1) h2 → LwB L (LwC 18 (k + 1) h2)) : LwB L (LwC 712 k H) := by
  obtain ⟨v, dy', I', y', y1', n1', w1', c', y2', R', J', h2, c1, e1, c2, l2⟩ := LO_restore h
  obtain ⟨h', hr, hb⟩ := ih h2 l2
  obtain ⟨dy, I, y, y1, n1, w1, ca, y2, R, J, cl, pn, pg, n, Y, T, t, tr, kp, wn, wt, yr, dn, rfl, -, -, hx, -⟩ := h
  refine ⟨h', ?_, hb⟩
  refine mj_run 1 rfl trivial ?_
  refine mj_cal rfl rfl c1 ?_
  refine mj_run 1 rfl trivial ?_
  refine mj_cal rfl rfl c2 ?_
  refine mj_brt rfl rfl rfl ?_
  refine mj_run 2 rfl trivial ?_
  rw [nI_add]
  exact hr
set_option maxRecDepth 16000 in
theorem LC_count (hL : L ≤ 1536) (hk : 3 * k + 3 ≤ L) (h : LwS L xs k H) (ih : ∀ h2, LwS L xs (k + 1) h2 → LwB L (LwC 18 (k + 1) h2)) : LwB L (LwC 725 k H) := by
  obtain ⟨v, dy', I', y', y1', n1', w1', c', y2', R', J', h2, c1, e1, c2, l2⟩ := LO_count h (xs (3 * k + 1))
  obtain ⟨h', hr, hb⟩ := ih h2 l2
  obtain ⟨dy, I, y, y1, n1, w1, ca, y2, R, J, cl, pn, pg, n, Y, T, t, tr, kp, wn, wt, yr, dn, rfl, -, -, hx, -⟩ := h
  refine ⟨h', ?_, hb⟩
  refine mj_run 6 rfl (by rw [nI_add]; exact nI_vi (show 3 * k + 1 < L by omega) (by omega)) ?_
  rw [nI_add, nI_nc (by omega), hx]
  refine mj_cal rfl rfl c1 ?_
  refine mj_run 6 rfl (by rw [nI_add]; exact nI_vi (show 3 * k + 1 < L by omega) (by omega)) ?_
  rw [nI_add, nI_nc (by omega), e1]
  refine mj_cal rfl rfl c2 ?_
  refine mj_brt rfl rfl rfl ?_
  refine mj_run 2 rfl trivial ?_
  rw [nI_add]
  exact hr
set_option maxRecDepth 16000 in
theorem LC_digest (hL : L ≤ 1536) (hk : 3 * k + 3 ≤ L) (h : LwS L xs k H) (ih : ∀ h2, LwS L xs (k + 1) h2 → LwB L (LwC 18 (k + 1) h2)) : LwB L (LwC 748 k H) := by
  obtain ⟨v, dy', I', y', y1', n1', w1', c', y2', R', J', h2, c1, e1, c2, l2⟩ := LO_digest h
  obtain ⟨h', hr, hb⟩ := ih h2 l2
  obtain ⟨dy, I, y, y1, n1, w1, ca, y2, R, J, cl, pn, pg, n, Y, T, t, tr, kp, wn, wt, yr, dn, rfl, -, -, hx, -⟩ := h
  refine ⟨h', ?_, hb⟩
  refine mj_run 1 rfl trivial ?_
  refine mj_cal rfl rfl c1 ?_
  refine mj_run 1 rfl trivial ?_
  refine mj_cal rfl rfl c2 ?_
  refine mj_run 1 rfl trivial ?_
  refine mj_brt rfl rfl (lg_self v) ?_
  refine mj_run 2 rfl trivial ?_
  rw [nI_add]
  exact hr
end LC
set_option maxRecDepth 16000 in
theorem law_walk {L : Nat} {xs : Nat → Int32} (hL : L ≤ 1536) : ∀ f k, k + f = 513 → 3 * k ≤ L → ∀ H, LwS L xs k H → LwB L (LwC 18 k H)
  | f, k, hf, hk, H, h => by
    by_cases g : 3 * k + 3 ≤ L
    · have ih : ∀ h2, LwS L xs (k + 1) h2 → LwB L (LwC 18 (k + 1) h2) := fun h2 q => by
        match f, hf with
        | 0, hf => omega
        | f + 1, hf => exact law_walk hL f (k + 1) (by omega) (by omega) h2 q
      have step : ∀ q, mj_sw 0 762 [164, 217, 230, 243, 256, 289, 322, 355, 368, 381, 404, 437, 450, 463, 476, 499, 532, 565, 588, 601, 624, 637, 660, 673, 686, 699, 712, 725, 748] (xs (3 * k) &&& nI 31) = q → LwB L (LwC q k H) → LwB L (LwC 18 k H) := fun q hq hb => by
        obtain ⟨h', hr, hb⟩ := hb
        refine ⟨h', ?_, hb⟩
        obtain ⟨dy, I, y, y1, n1, w1, ca, y2, R, J, cl, pn, pg, n, Y, T, t, tr, kp, wn, wt, yr, dn, rfl, -, -, hx, -⟩ := h
        refine mj_run 5 rfl trivial ?_
        rw [i_sb (by omega)]
        refine mj_brf rfl rfl (by rw [nI_ltI (by omega) (by omega)]; omega) ?_
        refine mj_run 3 rfl (nI_vi (show 3 * k < L by omega) (by omega)) ?_
        rw [nI_nc (by omega), hx]
        refine mj_run 3 rfl trivial ?_
        rw [hq]
        exact hr
      rcases i_cases (xs (3 * k) &&& nI 31) 29 with hx | ⟨j, hj, hx⟩
      · refine step 762 (mj_sw_out hx) ?_
        obtain ⟨dy, I, y, y1, n1, w1, ca, y2, R, J, cl, pn, pg, n, Y, T, t, tr, kp, wn, wt, yr, dn, rfl, hM, hC, hx, hcm, hcl, hca, g1, g2, g3⟩ := h
        obtain ⟨h', hr, hb⟩ := ih _ ⟨dy, I, y, y1, n1, w1, ca, y2, R, J, cl, pn, pg, n, Y, T, t, tr, kp, wn, wt, yr, dn, rfl, hM, hC, hx, hcm, hcl, hca, by omega, by omega, by omega⟩
        refine ⟨h', ?_, hb⟩
        refine mj_run 2 rfl trivial ?_
        rw [nI_add]
        exact hr
      · rw [hx] at step
        match j, hj with
        | 0, _ => exact step 164 (mj_sw_nI (by decide) rfl) (LC_letters hL g h ih)
        | 1, _ => exact step 217 (mj_sw_nI (by decide) rfl) (LC_blank hL g h ih)
        | 2, _ => exact step 230 (mj_sw_nI (by decide) rfl) (LC_fault hL g h ih)
        | 3, _ => exact step 243 (mj_sw_nI (by decide) rfl) (LC_yard hL g h ih)
        | 4, _ => exact step 256 (mj_sw_nI (by decide) rfl) (LC_about hL g h ih)
        | 5, _ => exact step 289 (mj_sw_nI (by decide) rfl) (LC_as hL g h ih)
        | 6, _ => exact step 322 (mj_sw_nI (by decide) rfl) (LC_lever hL g h ih)
        | 7, _ => exact step 355 (mj_sw_nI (by decide) rfl) (LC_anew hL g h ih)
        | 8, _ => exact step 368 (mj_sw_nI (by decide) rfl) (LC_down hL g h ih)
        | 9, _ => exact step 381 (mj_sw_nI (by decide) rfl) (LC_many hL g h ih)
        | 10, _ => exact step 404 (mj_sw_nI (by decide) rfl) (LC_truck hL g h ih)
        | 11, _ => exact step 437 (mj_sw_nI (by decide) rfl) (LC_moves hL g h ih)
        | 12, _ => exact step 450 (mj_sw_nI (by decide) rfl) (LC_round hL g h ih)
        | 13, _ => exact step 463 (mj_sw_nI (by decide) rfl) (LC_straight hL g h ih)
        | 14, _ => exact step 476 (mj_sw_nI (by decide) rfl) (LC_nth hL g h ih)
        | 15, _ => exact step 499 (mj_sw_nI (by decide) rfl) (LC_behind hL g h ih)
        | 16, _ => exact step 532 (mj_sw_nI (by decide) rfl) (LC_ago hL g h ih)
        | 17, _ => exact step 565 (mj_sw_nI (by decide) rfl) (LC_want hL g h ih)
        | 18, _ => exact step 588 (mj_sw_nI (by decide) rfl) (LC_clear hL g h ih)
        | 19, _ => exact step 601 (mj_sw_nI (by decide) rfl) (LC_begin hL g h ih)
        | 20, _ => exact step 624 (mj_sw_nI (by decide) rfl) (LC_hands hL g h ih)
        | 21, _ => exact step 637 (mj_sw_nI (by decide) rfl) (LC_empty hL g h ih)
        | 22, _ => exact step 660 (mj_sw_nI (by decide) rfl) (LC_which hL g h ih)
        | 23, _ => exact step 673 (mj_sw_nI (by decide) rfl) (LC_noticed hL g h ih)
        | 24, _ => exact step 686 (mj_sw_nI (by decide) rfl) (LC_apart hL g h ih)
        | 25, _ => exact step 699 (mj_sw_nI (by decide) rfl) (LC_image hL g h ih)
        | 26, _ => exact step 712 (mj_sw_nI (by decide) rfl) (LC_restore hL g h ih)
        | 27, _ => exact step 725 (mj_sw_nI (by decide) rfl) (LC_count hL g h ih)
        | 28, _ => exact step 748 (mj_sw_nI (by decide) rfl) (LC_digest hL g h ih)
        | j + 29, hj => omega
    · obtain ⟨dy, I, y, y1, n1, w1, ca, y2, R, J, cl, pn, pg, n, Y, T, t, tr, kp, wn, wt, yr, dn, rfl, hM, hC, hx, hcm, hcl, hca, g1, g2, g3⟩ := h
      refine ⟨HP L dy I y y1 n1 w1 (some ca) y2 R J, ?_, ?_, ?_⟩
      rotate_left
      · show (FM L dy).length ≤ 600001
        have := FM_len L dy
        omega
      · show mj_sl (FM L dy) ≤ L + 7302250
        rw [FM_sl]
        have := FM0_sl
        omega
      · refine mj_run 5 rfl trivial ?_
        have e : nI L - nI 3 < nI (3 * k) := by
          by_cases g3 : 3 ≤ L
          · rw [i_sb g3, nI_ltI (by omega) (by omega)]
            omega
          · have : k = 0 := by omega
            subst this
            match L, g3 with
            | 0, _ => decide
            | 1, _ => decide
            | 2, _ => decide
            | L + 3, g3 => omega
        refine mj_brt rfl rfl e ?_
        refine mj_run 1 rfl trivial ?_
        exact mj_end rfl rfl (Or.inr rfl)
theorem mj_main : mj_Main := by
  intro L xs hL
  have h9 : LwS L xs 0 (HP L [] (I9 xs) none none none none (some 24) none R9 J0) := ⟨[], I9 xs, none, none, none, none, 24, none, R9, J0, 0, 0, z0, 0, Y0, z0, 0, z0, none, 0, z0, 0, 0, rfl, MI9 xs, CI9 xs, rfl, rfl, by omega, Or.inl rfl, by simp, by simp [mj_sl], by omega⟩
  obtain ⟨h', hr, hb⟩ := law_walk hL 513 0 (by omega) (by omega) _ h9
  obtain ⟨n, hn⟩ := law_open (xs := xs) hr
  exact ⟨n, h', hn, hb⟩
