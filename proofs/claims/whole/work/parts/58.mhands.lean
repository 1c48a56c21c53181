def toC (Y : Yd) (n c : Nat) : Nat := en Y (gt Y none (ds Y n c)).2.1 n
def nxF (Y : Yd) (n : Nat) (V : Nat → Nat) (s : Nat) : Nat → (Nat → Nat)
  | 0 => fun _ => 1000000
  | c + 1 => if V c < 1000000 ∧ (gt Y none (ds Y n c)).1 = some s then fu (nxF Y n V s c) (toC Y n c) (min (V c) (nxF Y n V s c (toC Y n c))) else nxF Y n V s c
theorem nxF_le {Y : Yd} {n : Nat} {V : Nat → Nat} {s : Nat} : ∀ j c, nxF Y n V s j c ≤ 1000000
  | 0, c => Nat.le_refl _
  | j + 1, c => by
    have ih := nxF_le (Y := Y) (n := n) (V := V) (s := s) j
    unfold nxF
    split
    · rename_i g
      unfold fu
      split
      · have := ih (toC Y n j); omega
      · exact ih c
    · exact ih c
theorem nxF_s {Y : Yd} {n : Nat} {V : Nat → Nat} {s : Nat} : ∀ j c2, nxF Y n V s j c2 < 1000000 → ∃ c, c < j ∧ V c < 1000000 ∧ (gt Y none (ds Y n c)).1 = some s ∧ toC Y n c = c2 ∧ V c = nxF Y n V s j c2
  | 0, c2, h => by simp [nxF] at h
  | j + 1, c2, h => by
    have ih := nxF_s (Y := Y) (n := n) (V := V) (s := s) j
    unfold nxF at h ⊢
    split at h
    · rename_i g
      rw [if_pos g]
      unfold fu at h ⊢
      by_cases e : c2 = toC Y n j
      · rw [if_pos e] at h ⊢
        by_cases q : V j ≤ nxF Y n V s j (toC Y n j)
        · exact ⟨j, by omega, g.1, g.2, e.symm, by omega⟩
        · obtain ⟨c, h1, h2, h3, h4, h5⟩ := ih (toC Y n j) (by omega)
          exact ⟨c, by omega, h2, h3, by rw [h4, e], by omega⟩
      · rw [if_neg e] at h ⊢
        obtain ⟨c, h1, h2⟩ := ih c2 h
        exact ⟨c, by omega, h2⟩
    · rename_i g
      rw [if_neg g]
      obtain ⟨c, h1, h2⟩ := ih c2 h
      exact ⟨c, by omega, h2⟩
theorem nxF_mono {Y : Yd} {n : Nat} {V : Nat → Nat} {s j c2 : Nat} : nxF Y n V s (j + 1) c2 ≤ nxF Y n V s j c2 := by
  show (if _ then _ else _ : Nat → Nat) c2 ≤ _
  split
  · simp only [fu]
    split
    · rename_i e; subst e; exact Nat.min_le_right _ _
    · exact Nat.le_refl _
  · exact Nat.le_refl _
theorem nxF_c {Y : Yd} {n : Nat} {V : Nat → Nat} {s : Nat} : ∀ j c, c < j → V c < 1000000 → (gt Y none (ds Y n c)).1 = some s → nxF Y n V s j (toC Y n c) ≤ V c
  | 0, c, h, _, _ => by omega
  | j + 1, c, h, h1, h2 => by
    by_cases e : c = j
    · subst e
      show (if _ then _ else _ : Nat → Nat) _ ≤ _
      rw [if_pos ⟨h1, h2⟩]
      unfold fu
      rw [if_pos rfl]
      exact Nat.min_le_left _ _
    · exact Nat.le_trans nxF_mono (nxF_c j c (by omega) h1 h2)
theorem DI_nx {Y : Yd} {n k : Nat} {V T wt : Nat → Nat} (h : YOK n Y) (hn : 1 ≤ n) (hT : TOK n Y T) (hD : DI Y n V (QT Y n (Pl Y n T wt k) 0)) : DI Y n (nxF Y n V (wt k) (pd Y n)) (Pl Y n T wt (k + 1)) := by
  obtain ⟨d1, d2, d3⟩ := hD
  refine ⟨fun c _ => nxF_le _ c, fun c hc hv => ?_, ?_⟩
  · obtain ⟨c1, h1, h2, h3, h4, h5⟩ := nxF_s _ _ hv
    obtain ⟨m, hm, hq⟩ := d2 c1 h1 h2
    refine ⟨m, by omega, ds Y n c1, hq, h3, fun p hp => ?_⟩
    rw [← h4]
    exact ds_en h (gt_ok h hn (ds_ok h c1)).2.1 hp
  · rintro U m ⟨U0, hq, hs, hU⟩
    have hT0 := QT_ok h (Pl_ok h hn hT k) U0 m hq
    have hc := en_lt hT0 n (Nat.le_refl n)
    have hv := d3 U0 m hq
    obtain ⟨g1, g2, -⟩ := gt_cg (q := none) h hn (ds_ok h (en Y U0 n)) (fun p hp => ds_en h hT0 hp)
    have et : toC Y n (en Y U0 n) = en Y U n := en_cg n (fun p hp => by rw [g2 p hp, hU p hp])
    by_cases g : V (en Y U0 n) < 1000000
    · have := nxF_c (Y := Y) (n := n) (V := V) (s := wt k) (pd Y n) _ hc g (by rw [g1, hs])
      rw [et] at this
      omega
    · have := nxF_le (Y := Y) (n := n) (V := V) (s := wt k) (pd Y n) (en Y U n)
      omega
theorem Pl_le {Y : Yd} {n : Nat} {T wt : Nat → Nat} : ∀ k U c, Pl Y n T wt k U c → c ≤ k * n
  | 0, U, c, h => by rw [h.2]; exact Nat.zero_le _
  | k + 1, U, c, ⟨U0, ⟨U1, c1, h1, _, hc⟩, _⟩ => by
    have := Pl_le k U1 c1 h1
    have := un_le U1 U0 n
    rw [Nat.add_mul]
    omega
def V0 (Y : Yd) (n : Nat) (T : Nat → Nat) : Nat → Nat := fu (fun _ => 1000000) (en Y T n) 0
theorem DI_V0 {Y : Yd} {n : Nat} {T wt : Nat → Nat} (h : YOK n Y) (hT : TOK n Y T) : DI Y n (V0 Y n T) (Pl Y n T wt 0) := by
  refine ⟨fun c _ => by simp only [V0, fu]; split <;> omega, fun c hc hv => ?_, ?_⟩
  · simp only [V0, fu] at hv ⊢
    by_cases e : c = en Y T n
    · subst e
      exact ⟨0, Nat.zero_le _, fun p hp => ds_en h hT hp, rfl⟩
    · rw [if_neg e] at hv
      omega
  · rintro U m ⟨h1, h2⟩
    rw [en_cg n h1]
    unfold V0 fu
    rw [if_pos rfl]
    exact Nat.zero_le _
/-- the costs behind k trucks -/
def VT (Y : Yd) (n : Nat) (T wt : Nat → Nat) : Nat → (Nat → Nat)
  | 0 => V0 Y n T
  | k + 1 => nxF Y n (thD Y n (VT Y n T wt k) n) (wt k) (pd Y n)
theorem DI_VT {Y : Yd} {n : Nat} {T wt : Nat → Nat} (h : YOK n Y) (hn : 1 ≤ n) (hT : TOK n Y T) : ∀ k, DI Y n (VT Y n T wt k) (Pl Y n T wt k)
  | 0 => DI_V0 h hT
  | k + 1 => by
    have := DI_thD h (Pl_ok (wt := wt) h hn hT k) (DI_VT (wt := wt) h hn hT k) n (Nat.le_refl n)
    rw [Nat.sub_self] at this
    exact DI_nx h hn hT this
def lsA (V : Nat → Nat) : Nat → Nat
  | 0 => 1000000
  | c + 1 => min (lsA V c) (V c)
theorem lsA_le {V : Nat → Nat} : ∀ k c, c < k → lsA V k ≤ V c
  | 0, c, h => by omega
  | k + 1, c, h => by
    unfold lsA
    by_cases e : c = k
    · subst e; exact Nat.min_le_right _ _
    · exact Nat.le_trans (Nat.min_le_left _ _) (lsA_le k c (by omega))
theorem lsA_ub {V : Nat → Nat} : ∀ k, lsA V k ≤ 1000000
  | 0 => Nat.le_refl _
  | k + 1 => Nat.le_trans (Nat.min_le_left _ _) (lsA_ub k)
theorem lsA_ex {V : Nat → Nat} : ∀ k, lsA V k < 1000000 → ∃ c, c < k ∧ lsA V k = V c
  | 0, h => by simp [lsA] at h
  | k + 1, h => by
    unfold lsA at h ⊢
    by_cases e : lsA V k ≤ V k
    · rw [Nat.min_eq_left e] at h ⊢
      obtain ⟨c, hc, ec⟩ := lsA_ex k h
      exact ⟨c, by omega, ec⟩
    · exact ⟨k, by omega, Nat.min_eq_right (by omega)⟩
def hdO (Y : Yd) (n : Nat) (T wt : Nat → Nat) (wn : Nat) : Option Nat := if lsA (VT Y n T wt wn) (pd Y n) = 1000000 then none else some (lsA (VT Y n T wt wn) (pd Y n))
theorem hdO_HM {Y : Yd} {n : Nat} {T wt : Nat → Nat} {wn : Nat} (h : YOK n Y) (hn : 1 ≤ n) (hT : TOK n Y T) (hw : wn ≤ 8) : HM Y n T wt wn (hdO Y n T wt wn) := by
  obtain ⟨d1, d2, d3⟩ := DI_VT (wt := wt) h hn hT wn
  have hn10 : n ≤ 10 := h.1
  have hb : ∀ U c, Pl Y n T wt wn U c → lsA (VT Y n T wt wn) (pd Y n) ≤ c ∧ c ≤ 80 := by
    intro U c hp
    have h1 := d3 U c hp
    have h2 := lsA_le (V := VT Y n T wt wn) (pd Y n) (en Y U n) (en_lt (Pl_ok h hn hT wn U c hp) n (Nat.le_refl n))
    have h3 := Pl_le wn U c hp
    have : wn * n ≤ 8 * 10 := Nat.mul_le_mul hw hn10
    omega
  unfold hdO
  split
  · rename_i e
    rintro ⟨U, c, hp⟩
    have := hb U c hp
    omega
  · rename_i e
    have hlt : lsA (VT Y n T wt wn) (pd Y n) < 1000000 := by
      have := lsA_ub (V := VT Y n T wt wn) (pd Y n)
      omega
    obtain ⟨c, hc, ec⟩ := lsA_ex _ hlt
    obtain ⟨m, hm, hp⟩ := d2 c hc (by omega)
    exact ⟨⟨_, m, hp, by omega⟩, fun U c hp => (hb U c hp).1⟩
def hdB (n : Nat) (Y : Yd) (wn dn : Nat) : Bool := decide (n = 0) || (!sb Y n n || (decide (6 < n) || (decide (wn = 0) || decide (dn = 20))))
def hdA (n : Nat) (Y : Yd) (T wt : Nat → Nat) (wn dn : Nat) : Int32 := if hdB n Y wn dn then Int32.ofInt (-103) else gv (hdO Y n T wt wn)
section MM
variable {d L : Nat} {dy : mjM} {I : mjI} {y y1 n1 w1 c y2 : Option Nat} {R : mjR} {J : mjJ} {pn : Nat} {pg : Nat → Nat} {n : Nat} {Y : Yd} {T : Nat → Nat} {t : Nat} {tr : Nat → Nat} {kp : Kp} {wn : Nat} {wt : Nat → Nat} {yr dn : Nat}
/-- one truck of hands: from 130 on -/
theorem M_handsRun {V : Nat → Nat} {k : Nat} (hk8 : k < wn) (hn1 : 1 ≤ n) (hn6 : n ≤ 6) (hw : Mwt I wn wt) (hY : MY I n Y) (hV : ∀ c, c < pd Y n → V c ≤ 1000000) : ∀ (f j : Nat) (X : mjI) (l4 : Option Value), j + f = pd Y n → Fr [19, 20] [55, 56, 61] I X → RI X 60 (pd Y n) V → RI X 61 (pd Y n) (nxF Y n V (wt k) j) → ∃ (I' : mjI) (q4 : Option Value), (Fr [19, 20] [55, 56, 61] I I' ∧ RI I' 60 (pd Y n) V ∧ RI I' 61 (pd Y n) (nxF Y n V (wt k) (pd Y n))) ∧ ∀ (v : Option Value) (h' : mjH), mj_Rd (mj_call mj_P (d + 4)) kc_M_hands 1 (216, [some (.ref 45), some (.int (nI (pd Y n))), some (.int (nI k)), some (.int (nI (pd Y n))), q4], [], HP L dy I' y y1 n1 w1 c y2 R J) v h' → mj_Rd (mj_call mj_P (d + 4)) kc_M_hands 1 (130, [some (.ref 45), some (.int (nI (pd Y n))), some (.int (nI k)), some (.int (nI j)), l4], [], HP L dy X y y1 n1 w1 c y2 R J) v h' := by
  have hO := hY.2.1
  have hpd := pd_46656 hO hn6
  have hw8 := hw.2.1
  intro f
  induction f with
  | zero =>
    intro j X l4 hj hf h60 h61
    have : j = pd Y n := by omega
    subst this
    refine ⟨X, l4, ⟨hf, h60, h61⟩, fun v h' hx => ?_⟩
    refine mj_run 2 rfl trivial ?_
    refine mj_brt rfl rfl (by rw [nI_leI (by omega) (by omega)]; omega) ?_
    exact hx
  | succ f ih =>
    intro j X l4 hj hf h60 h61
    have hYX : MY X n Y := hY.fr hf (by decide)
    have hjp : j < pd Y n := by omega
    have hVj := hV j hjp
    have vj : vp_in (nI j) 46656 := nI_vi (by omega) (by decide)
    by_cases g : V j < 1000000
    · obtain ⟨I1, hc1, hf1, hR1⟩ := M_layStands (d := d + 2) (L := L) (dy := dy) (y := y) (y1 := y1) (n1 := n1) (w1 := w1) (c := c) (y2 := y2) (R := R) (J := J) (k := j) (by omega) hYX
      have hY1 : MY I1 n Y := hYX.fr hf1 (by decide)
      obtain ⟨I2, hc2, hg2, hR2, -⟩ := M_goTruck (d := d) (L := L) (dy := dy) (y := y) (y1 := y1) (n1 := n1) (w1 := w1) (c := c) (y2 := y2) (R := R) (J := J) (q := none) hY1 hn1 hR1 (ds_ok hO j) sq_none
      have f12 := hf1.tr hg2.fr
      have fI2 := (hf.tr f12).w (ks' := [19, 20]) (as' := [55, 56, 61]) (by decide) (by decide)
      have hY2 : MY I2 n Y := hYX.fr f12 (by decide)
      have h60' : RI I2 60 (pd Y n) V := h60.fr f12 (by decide) (by decide)
      have h61' : RI I2 61 (pd Y n) (nxF Y n V (wt k) j) := h61.fr f12 (by decide) (by decide)
      have hgo := gt_ok (q := none) hO hn1 (ds_ok hO j)
      have hto : toC Y n j < pd Y n := en_lt hgo.2.1 n (Nat.le_refl n)
      obtain ⟨w58, w10⟩ := hw.2.2 k hk8
      have e58 : I2 58 k = nI (wt k) := by rw [fI2.1 58 (by decide) (by decide)]; exact w58
      have pre : ∀ (v : Option Value) (h' : mjH), mj_Rd (mj_call mj_P (d + 4)) kc_M_hands 1 (156, [some (.ref 45), some (.int (nI (pd Y n))), some (.int (nI k)), some (.int (nI j)), l4], [.int (gv (gt Y none (ds Y n j)).1)], HP L dy I2 y y1 n1 w1 c y2 R J) v h' → mj_Rd (mj_call mj_P (d + 4)) kc_M_hands 1 (130, [some (.ref 45), some (.int (nI (pd Y n))), some (.int (nI k)), some (.int (nI j)), l4], [], HP L dy X y y1 n1 w1 c y2 R J) v h' := by
        intro v h' hx
        refine mj_run 2 rfl trivial ?_
        refine mj_brf rfl rfl (by rw [nI_leI (by omega) (by omega)]; omega) ?_
        refine mj_run 5 rfl vj ?_
        rw [nI_nc (by omega), h60 j hjp]
        refine mj_brf rfl rfl (by rw [nI_leI (by decide) (by omega)]; omega) ?_
        refine mj_run 2 rfl trivial ?_
        refine mj_cal rfl rfl hc1 ?_
        refine mj_run 2 rfl trivial ?_
        refine mj_cal rfl rfl hc2 ?_
        exact hx
      by_cases gs : (gt Y none (ds Y n j)).1 = some (wt k)
      · have hnx : nxF Y n V (wt k) (j + 1) = fu (nxF Y n V (wt k) j) (toC Y n j) (min (V j) (nxF Y n V (wt k) j (toC Y n j))) := by
          show (if _ then _ else _) = _
          rw [if_pos ⟨g, gs⟩]
        have hle := nxF_le (Y := Y) (n := n) (V := V) (s := wt k) j (toC Y n j)
        obtain ⟨I', q4, hA, hx⟩ := ih (j + 1) (mj_ui I2 61 (toC Y n j) (nI (min (V j) (nxF Y n V (wt k) j (toC Y n j))))) (some (.int (nI (toC Y n j)))) (by omega) ((fI2.tr (Fr.a I2 (a := 61) (by decide) _ _)).w (by decide) (by decide)) (fun c hc => by simp [mj_ui]; exact h60' c hc) (fun c hc => by
          rw [hnx]
          by_cases e : c = toC Y n j
          · subst e; simp [mj_ui, upd, fu]
          · simp [mj_ui, upd, fu, e]; exact h61' c hc)
        refine ⟨I', q4, hA, fun v h' hx' => pre v h' ?_⟩
        have hx2 := hx v h' hx'
        refine mj_run 4 rfl (nI_vi (by omega) (by decide)) ?_
        rw [nI_nc (by omega), e58]
        refine mj_brf rfl rfl (fun q => q ((gv_eq hgo.1 w10).mpr gs)) ?_
        refine mj_run 1 rfl trivial ?_
        refine mj_cal rfl rfl (M_codeOf hY2 hR2) ?_
        rw [show en Y (gt Y none (ds Y n j)).2.1 n = toC Y n j from rfl]
        have vt : vp_in (nI (toC Y n j)) 46656 := nI_vi (by omega) (by decide)
        refine mj_run 12 rfl ⟨vj, vt⟩ ?_
        rw [nI_nc (show j < 2147483648 by omega), nI_nc (show toC Y n j < 2147483648 by omega), h60' j hjp, h61' _ hto]
        have fin : ∀ z : Int32, z = nI (min (V j) (nxF Y n V (wt k) j (toC Y n j))) → mj_Rd (mj_call mj_P (d + 4)) kc_M_hands 1 (209, [some (.ref 45), some (.int (nI (pd Y n))), some (.int (nI k)), some (.int (nI j)), some (.int (nI (toC Y n j)))], [.int z, .int (nI (toC Y n j)), .ref 61], HP L dy I2 y y1 n1 w1 c y2 R J) v h' := by
          intro z hz
          subst hz
          refine mj_run 1 rfl ⟨vt, by decide⟩ ?_
          rw [nI_nc (by omega)]
          refine mj_run 2 rfl trivial ?_
          rw [nI_add]
          exact hx2
        refine mj_bra rfl rfl (fun q => ?_) (fun q => ?_)
        · rw [nI_leI (by omega) (by omega)] at q
          refine mj_run 4 rfl vt ?_
          rw [nI_nc (by omega), h61' _ hto]
          exact fin _ (by rw [Nat.min_eq_right q])
        · rw [nI_leI (by omega) (by omega)] at q
          refine mj_run 5 rfl vj ?_
          rw [nI_nc (by omega), h60' j hjp]
          exact fin _ (by rw [Nat.min_eq_left (by omega)])
      · have hnx : nxF Y n V (wt k) (j + 1) = nxF Y n V (wt k) j := by
          show (if _ then _ else _) = _
          rw [if_neg (fun q => gs q.2)]
        obtain ⟨I', q4, hA, hx⟩ := ih (j + 1) I2 l4 (by omega) fI2 h60' (by rw [hnx]; exact h61')
        refine ⟨I', q4, hA, fun v h' hx' => pre v h' ?_⟩
        refine mj_run 4 rfl (nI_vi (by omega) (by decide)) ?_
        rw [nI_nc (by omega), e58]
        refine mj_brt rfl rfl (fun q => gs ((gv_eq hgo.1 w10).mp q)) ?_
        refine mj_run 2 rfl trivial ?_
        rw [nI_add]
        exact hx v h' hx'
    · have hnx : nxF Y n V (wt k) (j + 1) = nxF Y n V (wt k) j := by
        show (if _ then _ else _) = _
        rw [if_neg (fun q => g q.1)]
      obtain ⟨I', q4, hA, hx⟩ := ih (j + 1) X l4 (by omega) hf h60 (by rw [hnx]; exact h61)
      refine ⟨I', q4, hA, fun v h' hx' => ?_⟩
      refine mj_run 2 rfl trivial ?_
      refine mj_brf rfl rfl (by rw [nI_leI (by omega) (by omega)]; omega) ?_
      refine mj_run 5 rfl vj ?_
      rw [nI_nc (by omega), h60 j hjp]
      refine mj_brt rfl rfl (by rw [nI_leI (by decide) (by omega)]; omega) ?_
      refine mj_run 2 rfl trivial ?_
      rw [nI_add]
      exact hx v h' hx'
/-- the trucks of hands: from 94 on -/
theorem M_handsLoop (hn1 : 1 ≤ n) (hn6 : n ≤ 6) (hT : TOK n Y T) (hw : Mwt I wn wt) (hY : MY I n Y) : ∀ (f k : Nat) (X : mjI) (l3 l4 : Option Value), mj_lg l3 = true → k + f = wn → Fr [19, 20] [55, 56, 60, 61] I X → RI X 60 (pd Y n) (VT Y n T wt k) → ∃ I', Fr [19, 20] [55, 56, 60, 61] I I' ∧ mj_Rd (mj_call mj_P (d + 4)) kc_M_hands 1 (94, [some (.ref 45), some (.int (nI (pd Y n))), some (.int (nI k)), l3, l4], [], HP L dy X y y1 n1 w1 c y2 R J) (some (.int (gv (hdO Y n T wt wn)))) (HP L dy I' y y1 n1 w1 c y2 R J) := by
  have hO := hY.2.1
  have hpd := pd_46656 hO hn6
  have hw8 := hw.2.1
  intro f
  induction f with
  | zero =>
    intro k X l3 l4 _ hk hf h60
    have : k = wn := by omega
    subst this
    have hwX : Mwt X k wt := hw.fr hf (by decide)
    have hV := (DI_VT (wt := wt) hO hn1 hT k).1
    refine ⟨X, hf, ?_⟩
    refine mj_run 3 rfl trivial ?_
    rw [hwX.1]
    refine mj_brt rfl rfl (by rw [nI_leI (by omega) (by omega)]; omega) ?_
    refine mj_run 4 rfl trivial ?_
    refine dn_ind (pd Y n) (fun c' => mj_Rd (mj_call mj_P (d + 4)) kc_M_hands 1 (252, [some (.ref 45), some (.int (nI (pd Y n))), some (.int (nI (lsA (VT Y n T wt k) c'))), some (.int (nI c')), l4], [], HP L dy X y y1 n1 w1 c y2 R J) (some (.int (gv (hdO Y n T wt k)))) (HP L dy X y y1 n1 w1 c y2 R J)) ?_ ?_ 0 (by omega)
    · have hlu := lsA_ub (V := VT Y n T wt k) (pd Y n)
      refine mj_run 2 rfl trivial ?_
      refine mj_brt rfl rfl (by rw [nI_leI (by omega) (by omega)]; omega) ?_
      refine mj_run 2 rfl trivial ?_
      unfold hdO
      refine mj_bra rfl rfl (fun g => ?_) (fun g => ?_)
      · rw [nI_e (by omega) (by decide)] at g
        rw [if_neg g]
        refine mj_run 1 rfl trivial ?_
        exact mj_end rfl rfl trivial
      · rw [nI_e (by omega) (by decide)] at g
        rw [if_pos (Classical.not_not.mp g)]
        refine mj_run 2 rfl trivial ?_
        exact mj_end rfl rfl trivial
    · intro j hj ihj
      have hlu := lsA_ub (V := VT Y n T wt k) j
      have hVj := hV j hj
      have vj : vp_in (nI j) 46656 := nI_vi (by omega) (by decide)
      rw [show lsA (VT Y n T wt k) (j + 1) = min (lsA (VT Y n T wt k) j) (VT Y n T wt k j) from rfl] at ihj
      refine mj_run 2 rfl trivial ?_
      refine mj_brf rfl rfl (by rw [nI_leI (by omega) (by omega)]; omega) ?_
      refine mj_run 5 rfl vj ?_
      rw [nI_nc (by omega), h60 j hj]
      refine mj_bra rfl rfl (fun g => ?_) (fun g => ?_)
      · rw [nI_leI (by omega) (by omega)] at g
        rw [Nat.min_eq_left g] at ihj
        refine mj_run 1 rfl trivial ?_
        refine mj_run 3 rfl trivial ?_
        rw [nI_add]
        exact ihj
      · rw [nI_leI (by omega) (by omega)] at g
        rw [Nat.min_eq_right (by omega)] at ihj
        refine mj_run 5 rfl vj ?_
        rw [nI_nc (by omega), h60 j hj]
        refine mj_run 3 rfl trivial ?_
        rw [nI_add]
        exact ihj
  | succ f ih =>
    intro k X l3 l4 g3 hk hf h60
    have hYX : MY X n Y := hY.fr hf (by decide)
    have hwX : Mwt X wn wt := hw.fr hf (by decide)
    have hV := (DI_VT (wt := wt) hO hn1 hT k).1
    obtain ⟨I1, hc1, hf1, hR1⟩ := M_throwAll (d := d + 1) (L := L) (dy := dy) (y := y) (y1 := y1) (n1 := n1) (w1 := w1) (c := c) (y2 := y2) (R := R) (J := J) hn6 hYX hV h60
    have hV1 : ∀ c, c < pd Y n → thD Y n (VT Y n T wt k) n c ≤ 1000000 := fun c hc => Nat.le_trans (thD_le _ c) (hV c hc)
    generalize hU : thD Y n (VT Y n T wt k) n = U at hR1 hV1
    -- throwsNext is cleared
    have clr := dn_ind (pd Y n) (fun j => ∀ (Z : mjI), Fr [] [61] I1 Z → (∀ i, i < j → Z 61 i = nI 1000000) → ∃ Z', (Fr [] [61] I1 Z' ∧ RI Z' 61 (pd Y n) (fun _ => 1000000)) ∧ ∀ (v : Option Value) (h' : mjH), mj_Rd (mj_call mj_P (d + 4)) kc_M_hands 1 (128, [some (.ref 45), some (.int (nI (pd Y n))), some (.int (nI k)), some (.int (nI (pd Y n))), l4], [], HP L dy Z' y y1 n1 w1 c y2 R J) v h' → mj_Rd (mj_call mj_P (d + 4)) kc_M_hands 1 (109, [some (.ref 45), some (.int (nI (pd Y n))), some (.int (nI k)), some (.int (nI j)), l4], [], HP L dy Z y y1 n1 w1 c y2 R J) v h') ?_ ?_ 0 (by omega)
    · obtain ⟨I2, ⟨hf2, h61⟩, hx2⟩ := clr I1 ((Fr.rf I1).w (by simp) (by simp)) (fun i hi => by omega)
      have f2 : Fr [] [60, 61] X I2 := (hf1.tr hf2).w (by decide) (by decide)
      have h60b : RI I2 60 (pd Y n) U := hR1.fr hf2 (by decide) (by decide)
      obtain ⟨I3, q4, ⟨hf3, h603, h613⟩, hx3⟩ := M_handsRun (d := d) (L := L) (dy := dy) (y := y) (y1 := y1) (n1 := n1) (w1 := w1) (c := c) (y2 := y2) (R := R) (J := J) (I := I2) (V := U) (k := k) (by omega) hn1 hn6 (hwX.fr f2 (by decide)) (hYX.fr f2 (by decide)) hV1 (pd Y n) 0 I2 l4 (by omega) ((Fr.rf I2).w (by simp) (by simp)) h60b h61
      -- and copied
      have cpy := dn_ind (pd Y n) (fun j => ∀ (Z : mjI), Fr [] [60] I3 Z → (∀ i, i < j → Z 60 i = nI (nxF Y n U (wt k) (pd Y n) i)) → ∃ Z', (Fr [] [60] I3 Z' ∧ RI Z' 60 (pd Y n) (nxF Y n U (wt k) (pd Y n))) ∧ ∀ (v : Option Value) (h' : mjH), mj_Rd (mj_call mj_P (d + 4)) kc_M_hands 1 (241, [some (.ref 45), some (.int (nI (pd Y n))), some (.int (nI k)), some (.int (nI (pd Y n))), q4], [], HP L dy Z' y y1 n1 w1 c y2 R J) v h' → mj_Rd (mj_call mj_P (d + 4)) kc_M_hands 1 (218, [some (.ref 45), some (.int (nI (pd Y n))), some (.int (nI k)), some (.int (nI j)), q4], [], HP L dy Z y y1 n1 w1 c y2 R J) v h') ?_ ?_ 0 (by omega)
      · obtain ⟨I4, ⟨hf4, h604⟩, hx4⟩ := cpy I3 ((Fr.rf I3).w (by simp) (by simp)) (fun i hi => by omega)
        have f4 : Fr [19, 20] [55, 56, 60, 61] I I4 := ((hf.tr f2).tr (hf3.tr hf4)).w (by decide) (by decide)
        obtain ⟨I', hA, hx⟩ := ih (k + 1) I4 (some (.int (nI (pd Y n)))) q4 rfl (by omega) f4 (by
          show RI I4 60 (pd Y n) (nxF Y n (thD Y n (VT Y n T wt k) n) (wt k) (pd Y n))
          rw [hU]
          exact h604)
        refine ⟨I', hA, ?_⟩
        refine mj_run 3 rfl trivial ?_
        rw [hwX.1]
        refine mj_brf rfl rfl (by rw [nI_leI (by omega) (by omega)]; omega) ?_
        refine mj_run 2 rfl trivial ?_
        refine mj_cal rfl rfl hc1 ?_
        refine mj_run 2 rfl trivial ?_
        refine hx2 _ _ ?_
        refine mj_run 2 rfl trivial ?_
        refine hx3 _ _ ?_
        refine mj_run 2 rfl trivial ?_
        refine hx4 _ _ ?_
        refine mj_run 2 rfl trivial ?_
        rw [nI_add]
        exact hx
      · intro Z hfZ hZ
        refine ⟨Z, ⟨hfZ, hZ⟩, fun v h' hx => ?_⟩
        refine mj_run 2 rfl trivial ?_
        refine mj_brt rfl rfl (by rw [nI_leI (by omega) (by omega)]; omega) ?_
        exact hx
      · intro j hj ihj Z hfZ hZ
        have vj : vp_in (nI j) 46656 := nI_vi (by omega) (by decide)
        obtain ⟨Z', hA, hx⟩ := ihj (mj_ui Z 60 j (nI (nxF Y n U (wt k) (pd Y n) j))) ((hfZ.tr (Fr.a Z (a := 60) (by decide) _ _)).w (by decide) (by decide)) (fun i hi => by
          by_cases e : i = j
          · subst e; simp [mj_ui, upd]
          · have := hZ i (by omega)
            simp [mj_ui, upd, e, this])
        refine ⟨Z', hA, fun v h' hx' => ?_⟩
        refine mj_run 2 rfl trivial ?_
        refine mj_brf rfl rfl (by rw [nI_leI (by omega) (by omega)]; omega) ?_
        refine mj_run 10 rfl ⟨vj, vj, by decide⟩ ?_
        rw [nI_nc (by omega), nI_add]
        have : Z 61 j = nI (nxF Y n U (wt k) (pd Y n) j) := by rw [hfZ.1 61 (by decide) (by decide)]; exact h613 j hj
        rw [this]
        exact hx v h' hx'
    · intro Z hfZ hZ
      refine ⟨Z, ⟨hfZ, hZ⟩, fun v h' hx => ?_⟩
      refine mj_run 2 rfl trivial ?_
      refine mj_brt rfl rfl (by rw [nI_leI (by omega) (by omega)]; omega) ?_
      exact hx
    · intro j hj ihj Z hfZ hZ
      have vj : vp_in (nI j) 46656 := nI_vi (by omega) (by decide)
      obtain ⟨Z', hA, hx⟩ := ihj (mj_ui Z 61 j (nI 1000000)) ((hfZ.tr (Fr.a Z (a := 61) (by decide) _ _)).w (by decide) (by decide)) (fun i hi => by
        by_cases e : i = j
        · subst e; simp [mj_ui, upd]
        · have := hZ i (by omega)
          simp [mj_ui, upd, e, this])
      refine ⟨Z', hA, fun v h' hx' => ?_⟩
      refine mj_run 2 rfl trivial ?_
      refine mj_brf rfl rfl (by rw [nI_leI (by omega) (by omega)]; omega) ?_
      refine mj_run 7 rfl ⟨vj, by decide⟩ ?_
      rw [nI_nc (by omega), nI_add]
      exact hx v h' hx'
theorem MO_hands (h : MI I pn pg n Y T t tr kp wn wt yr dn) : ∃ I', mj_call mj_P (d + 5) kn_M_hands [.ref 45] (HP L dy I y y1 n1 w1 c y2 R J) (some (.int (hdA n Y T wt wn dn))) (HP L dy I' y y1 n1 w1 c y2 R J) ∧ MI I' pn pg n Y T t tr kp wn wt yr (if hdB n Y wn dn then dn else dn + 1) ∧ Fr (24 :: wk) wa' I I' := by
  have h0 := h
  obtain ⟨h1, h2, h3, h4, h5, h6, h7⟩ := h
  have hn10 : n ≤ 10 := h2.2.1.1
  have hw8 := h6.2.1
  have hd20 := h7.2.2.2
  have bad : mj_Rd (mj_call mj_P (d + 4)) kc_M_hands 1 (39, [some (.ref 45), none, none, none, none], [], HP L dy I y y1 n1 w1 c y2 R J) (some (.int (Int32.ofInt (-103)))) (HP L dy I y y1 n1 w1 c y2 R J) := by
    refine mj_run 1 rfl trivial ?_
    exact mj_end rfl rfl trivial
  have walk : ∀ (v : Option Value) (h' : mjH), (hdB n Y wn dn = true → mj_Rd (mj_call mj_P (d + 4)) kc_M_hands 1 (39, [some (.ref 45), none, none, none, none], [], HP L dy I y y1 n1 w1 c y2 R J) v h') → (hdB n Y wn dn = false → mj_Rd (mj_call mj_P (d + 4)) kc_M_hands 1 (42, [some (.ref 45), none, none, none, none], [], HP L dy I y y1 n1 w1 c y2 R J) v h') → mj_call mj_P (d + 5) kn_M_hands [.ref 45] (HP L dy I y y1 n1 w1 c y2 R J) v h' := by
    intro v h' k1 k0
    refine mj_ci rfl (Nat.le_of_ble_eq_true rfl) ?_
    refine mj_run 1 rfl trivial ?_
    refine mj_cal rfl rfl (M_lacks h2) ?_
    by_cases hn : n = 0
    · rw [if_pos hn]
      exact mj_brt rfl rfl (by decide) (k1 (by simp [hdB, hn]))
    · rw [if_neg hn]
      refine mj_brf rfl rfl (by decide) ?_
      refine mj_run 1 rfl trivial ?_
      refine mj_cal rfl rfl (M_isStraight h2 (by omega)) ?_
      cases hs : sb Y n n with
      | false => exact mj_brt rfl rfl (by decide) (k1 (by simp [hdB, hs]))
      | true =>
        refine mj_brf rfl rfl (by decide) ?_
        refine mj_run 3 rfl trivial ?_
        rw [h2.1]
        refine mj_bra rfl rfl (fun g => ?_) (fun g => ?_)
        · rw [nI_ltI (by decide) (by omega)] at g
          exact k1 (by simp [hdB, g])
        · rw [nI_ltI (by decide) (by omega)] at g
          refine mj_run 2 rfl trivial ?_
          rw [h6.1]
          refine mj_bra rfl rfl (fun g2 => ?_) (fun g2 => ?_)
          · rw [nI_z (by omega)] at g2
            exact k1 (by simp [hdB, g2])
          · rw [nI_z (by omega)] at g2
            refine mj_run 3 rfl trivial ?_
            rw [h7.2.2.1]
            refine mj_bra rfl rfl (fun g3 => ?_) (fun g3 => ?_)
            · rw [nI_e (by omega) (by decide)] at g3
              exact k0 (by simp [hdB, hn, hs, g, g2, g3])
            · rw [nI_e (by omega) (by decide)] at g3
              exact k1 (by simp [hdB, Classical.not_not.mp g3])
  unfold hdA
  cases hb : hdB n Y wn dn with
  | true =>
    rw [hb] at walk
    rw [if_pos rfl, if_pos rfl]
    exact ⟨I, walk _ _ (fun _ => bad) (fun q => by cases q), h0, (Fr.rf I).w (by simp) (by simp)⟩
  | false =>
    rw [hb] at walk
    rw [if_neg (by decide), if_neg (by decide)]
    have hg : ¬ n = 0 ∧ sb Y n n = true ∧ n ≤ 6 ∧ ¬ wn = 0 ∧ ¬ dn = 20 := by
      simp [hdB] at hb
      exact ⟨hb.1, hb.2.1, hb.2.2.1, hb.2.2.2.1, hb.2.2.2.2⟩
    obtain ⟨hn, hs, hn6, hwn, hdn⟩ := hg
    have hn1 : 1 ≤ n := by omega
    have hO := h2.2.1
    have hpd := pd_46656 hO hn6
    have fu1 := Fr.u I 24 (nI (dn + 1))
    have hY1 : MY (mj_ui I 45 24 (nI (dn + 1))) n Y := h2.fr fu1 (by decide)
    have hS1 : Mst (mj_ui I 45 24 (nI (dn + 1))) n Y T := h3.fr fu1 (by decide)
    -- the rows are laid
    have clr := dn_ind (pd Y n) (fun j => ∀ (Z : mjI), Fr [] [60] (mj_ui I 45 24 (nI (dn + 1))) Z → (∀ i, i < j → Z 60 i = nI 1000000) → ∃ Z', (Fr [] [60] (mj_ui I 45 24 (nI (dn + 1))) Z' ∧ RI Z' 60 (pd Y n) (fun _ => 1000000)) ∧ ∀ (v : Option Value) (h' : mjH), mj_Rd (mj_call mj_P (d + 4)) kc_M_hands 1 (78, [some (.ref 45), some (.int (nI (pd Y n))), some (.int (nI (pd Y n))), none, none], [], HP L dy Z' y y1 n1 w1 c y2 R J) v h' → mj_Rd (mj_call mj_P (d + 4)) kc_M_hands 1 (59, [some (.ref 45), some (.int (nI (pd Y n))), some (.int (nI j)), none, none], [], HP L dy Z y y1 n1 w1 c y2 R J) v h') ?_ ?_ 0 (by omega)
    · obtain ⟨I2, ⟨hf2, h602⟩, hx2⟩ := clr _ ((Fr.rf _).w (by simp) (by simp)) (fun i hi => by omega)
      have fc := Fr.c I2 (dst := 55) (by decide) 53 10
      have hT2 : RI (cpI I2 55 53 10) 55 n T := fun i hi => by
        rw [cpI_at (by omega), hf2.1 53 (by decide) (by decide)]
        exact hS1.1 i hi
      have hen := en_lt h3.2 n (Nat.le_refl n)
      have f3 := (hf2.tr fc).tr (Fr.a (cpI I2 55 53 10) (a := 60) (by decide) (en Y T n) (nI 0))
      obtain ⟨I', hA, hx⟩ := M_handsLoop (d := d) (L := L) (dy := dy) (y := y) (y1 := y1) (n1 := n1) (w1 := w1) (c := c) (y2 := y2) (R := R) (J := J) (I := mj_ui I 45 24 (nI (dn + 1))) (T := T) hn1 hn6 h3.2 (h6.fr fu1 (by decide)) hY1 wn 0 (mj_ui (cpI I2 55 53 10) 60 (en Y T n) (nI 0)) none none rfl (by omega) (f3.w (by decide) (by decide)) (fun i hi => by
        show _ = nI (V0 Y n T i)
        unfold V0
        by_cases e : i = en Y T n
        · subst e; simp [mj_ui, upd, fu]
        · have := h602 i hi
          simp [mj_ui, upd, fu, e, cpI, this])
      have ff := fu1.tr hA
      refine ⟨I', walk _ _ (fun q => by cases q) (fun _ => ?_), ⟨h1.fr ff (by decide), h2.fr ff (by decide), h3.fr ff (by decide), h4.fr ff (by decide), h5.fr ff (by decide), h6.fr ff (by decide), ⟨(ff.2 10 (by decide)).trans h7.1, h7.2.1, by rw [hA.2 24 (by decide)]; simp [mj_ui, upd], by omega⟩⟩, ff.w (by decide) (by decide)⟩
      refine mj_run 7 rfl trivial ?_
      rw [h7.2.2.1, nI_add]
      refine mj_cal rfl rfl (M_standsInAll hY1) ?_
      refine mj_run 3 rfl trivial ?_
      refine hx2 _ _ ?_
      refine mj_run 1 rfl trivial ?_
      refine mj_cal rfl rfl M_layTried ?_
      refine mj_run 3 rfl trivial ?_
      refine mj_cal rfl rfl (M_codeOf (U := T) (hY1.fr (hf2.tr fc) (by decide)) hT2) ?_
      refine mj_run 4 rfl ⟨nI_vi (by omega) (by decide), by decide⟩ ?_
      rw [nI_nc (by omega)]
      exact hx
    · intro Z hfZ hZ
      refine ⟨Z, ⟨hfZ, hZ⟩, fun v h' hx => ?_⟩
      refine mj_run 2 rfl trivial ?_
      refine mj_brt rfl rfl (by rw [nI_leI (by omega) (by omega)]; omega) ?_
      exact hx
    · intro j hj ihj Z hfZ hZ
      have vj : vp_in (nI j) 46656 := nI_vi (by omega) (by decide)
      obtain ⟨Z', hA, hx⟩ := ihj (mj_ui Z 60 j (nI 1000000)) ((hfZ.tr (Fr.a Z (a := 60) (by decide) _ _)).w (by decide) (by decide)) (fun i hi => by
        by_cases e : i = j
        · subst e; simp [mj_ui, upd]
        · have := hZ i (by omega)
          simp [mj_ui, upd, e, this])
      refine ⟨Z', hA, fun v h' hx' => ?_⟩
      refine mj_run 2 rfl trivial ?_
      refine mj_brf rfl rfl (by rw [nI_leI (by omega) (by omega)]; omega) ?_
      refine mj_run 7 rfl ⟨vj, by decide⟩ ?_
      rw [nI_nc (by omega), nI_add]
      exact hx v h' hx'
end MM
