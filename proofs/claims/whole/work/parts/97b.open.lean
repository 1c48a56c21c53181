set_option maxHeartbeats 4000000 in
theorem whole_open (hM : mj_Main) {p : Program} {e : Env} {s : State} {m : MethodId} {below : List Frame} {meth : Method} {c : Code} (l : Launch) {b L : Nat} {xs : Nat → Int32} (hL : L ≤ 1536) (C0 : lw_At p s m meth c b L xs) : W p l e room_1 s m #[Value.ref b] below meth c s.heap [] 0 0 (lw_Z below #[Value.ref b] s) (entryFrame m ([Value.ref b] : List Value).toArray 4) := by
  obtain ⟨hx, hb, hr, hml, hown, hts, hX, hbl, hlocks, hgv⟩ := id C0
  have hts2 : ∀ z ∈ mj_tb, z.before #[Value.ref b] s = true := fun z hz => hts z (List.mem_filter.mp hz).1
  have hflat := flat_of_before _ hgv
  -- the classes
  have hcls : ∀ (k : Nat) (q : vw_C), vwCl[k]? = some q → ∃ (cC : ClassId) (iS : Nat → Nat), u_Kn s q.1 q.2.1 q.2.2 cC iS := by
    intro k q hq
    have hi : (Cond.instantiable q.1 q.2.2).before #[Value.ref b] s = true := hts2 _ (mj_inst_in hq)
    exact u_known hts2 (mj_cl_in hq) hi
  obtain ⟨dC, dI, hKc⟩ : ∃ (dC : Nat → ClassId) (dI : Nat → Nat → Nat), ∀ (k : Nat) (q : vw_C), vwCl[k]? = some q → u_Kn s q.1 q.2.1 q.2.2 (dC k) (dI k) := by
    have h2 : ∀ k : Nat, ∃ (cI : ClassId × (Nat → Nat)), ∀ q : vw_C, vwCl[k]? = some q → u_Kn s q.1 q.2.1 q.2.2 cI.1 cI.2 := by
      intro k
      cases hk : vwCl[k]? with
      | none => exact ⟨(0, fun _ => 0), fun q h => by cases h⟩
      | some q =>
        obtain ⟨cC, iS, h⟩ := hcls k q hk
        exact ⟨(cC, iS), fun q' h' => by cases h'; exact h⟩
    exact ⟨fun k => (Classical.choose (h2 k)).1, fun k => (Classical.choose (h2 k)).2, fun k q hq => Classical.choose_spec (h2 k) q hq⟩
  -- the arrays' classes
  obtain ⟨cI, kI, compI, i1, i2, i3⟩ := Cond.arrayClass_spec (hts2 _ mj_t1)
  obtain ⟨cB, kB, compB, b1, b2, b3⟩ := Cond.arrayClass_spec (hts2 _ mj_t2)
  have hAOp : (Cond.arrayOver (.object "PointsThrow$Point")).before #[Value.ref b] s = true := hts _ (List.mem_of_getElem? (i := 316) (by decide +kernel))
  have hAOa : (Cond.arrayOver (.array .int)).before #[Value.ref b] s = true := hts _ (List.mem_of_getElem? (i := 146) (by decide +kernel))
  obtain ⟨compP, cP, kP, p1, p2, p3, p4, p5⟩ := Cond.arrayOver_spec hAOp
  obtain ⟨compG, cG, kG, g1, g2, g3, g4⟩ := Jvm.Cond.arrayOver_specA hAOa
  let w : mjW := (b, s.heap.size, cI, cB, cG, cP)
  have hK : va_K (dC, dI) vwCl (mj_tys w) s := by
    refine ⟨hKc, fun k q hq => ?_⟩
    match k, hq with
    | 0, hq => cases hq; exact ⟨fun n z => ⟨(fun k h => by cases h), kI, i2, compI, i3⟩, i1⟩
    | 1, hq => cases hq; exact ⟨fun n z => ⟨(fun k h => by cases h), kB, b2, compB, b3⟩, b1⟩
    | 2, hq => cases hq; exact ⟨fun n z => ⟨(fun k h => by cases h), kG, g2, compG, g3⟩, g4⟩
    | 3, hq => cases hq; exact ⟨fun n z => ⟨(fun k h => by cases h), kP, p3, compP, p4⟩, kP, compP, p3, p4, p1, p5⟩
    | k + 4, hq => simp [mj_tys] at hq
  have hXW : mj_XW s := by
    refine ⟨fun z hz => va_Nw.of (mj_xn_tabs z hz) (hts z (List.mem_filter.mp hz).1), hAOp, hAOa, fun q hq => va_Nc.of (hflat _ (mj_nc1 q hq))⟩
  obtain ⟨n, h', hgo, hb1, hb2⟩ := hM L xs hL
  have C : mj_Cx p room_1 s m #[Value.ref b] meth c w (dC, dI) L xs 16 4 code false 1 L h'.1.length (mj_sl h'.1) := by
    refine ⟨hx, hb, hml, hown, hts2, hK, hXW, fun hi => by (cases hi), hX, hbl, rfl, Nat.le_refl 1, ?_, ?_, ?_, ?_⟩
    · show 1 ≤ 2048; omega
    · show 100 ≤ 84000; omega
    · show h'.1.length ≤ 1 + 600000; omega
    · show mj_sl h'.1 ≤ L + 7302250; omega
  obtain ⟨y, cc, ret, hY, -, -, -, hcd⟩ := mj_ok_P kn_L_law _ rfl
  cases hY
  have hl := lv_entry ([.ref b]) (n := 4) (Nat.le_of_ble_eq_true rfl)
  rw [lg_entry_eq]
  generalize (lg_sl ([.ref b]) ++ List.replicate (4 - (lg_sl ([.ref b])).length) Slot.unset).toArray = ls at hl ⊢
  have hLR := mj_LR.entry w (nL := 4) (as := [.ref 0]) (by decide) hl
  have S := mj_sgo (l := l) (e := e) (below := below) (Q := lw_Z below #[Value.ref b] s) C (mj_meth mj_ok_P l 30) (by show 30 + 1 ≤ 2048 ∧ 100 * 30 + 100 ≤ 84000; omega) hcd (v := some (.int 1)) (h' := h') ⟨Nat.le_refl _, Nat.le_refl _⟩ ?_ n _ hgo
  · refine S s.heap [] ls 0 0 ⟨rfl, rfl, rfl, fun k q hq => ?_⟩ va_S.rf hLR rfl ?_
    · simp [mj_s0, mj_ws, mj_wc] at hq
    · show L + 0 = mj_sl [(0, L)]
      simp [mj_sl]
  · intro pc ls2 st en o hat hret ho
    obtain ⟨⟨⟨k9, hd, hk9⟩, -⟩, -⟩ := hcd pc en hat
    obtain ⟨ins, nx, dd⟩ := en
    intro H locs als cells slots hH2 hS hLa hc hs
    have hc' : 1 + cells = h'.1.length := hc
    have hs' : L + slots = mj_sl h'.1 := hs
    simp only [mj_ret] at hret
    split at hret <;> try (cases hret; done)
    · next x hrt => exact absurd hrt (by decide)
    · next x hrt =>
      cases hret
      obtain ⟨rfl, -⟩ := hk9 rfl
      refine va_forget (fun q hq => hS.2.2 q hq) ?_
      refine W.widen (k := 600000) (n := 7302250) (by omega) (by omega) ?_
      exact lw_ret hx hb hr hlocks hd
