def thD (Y : Yd) (n : Nat) (V : Nat → Nat) : Nat → (Nat → Nat)
  | 0 => V
  | j + 1 => thP Y n (n - 1 - j) (thD Y n V j)
theorem thD_le {Y : Yd} {n : Nat} {V : Nat → Nat} : ∀ j c, thD Y n V j c ≤ V c
  | 0, c => Nat.le_refl _
  | j + 1, c => Nat.le_trans thP_le (thD_le j c)
theorem un_self {T U : Nat → Nat} : ∀ k, (∀ p, p < k → U p = T p) → un T U k = 0
  | 0, _ => rfl
  | k + 1, h => by
    unfold un
    rw [un_self k (fun p hp => h p (by omega)), if_pos (h k (by omega))]
theorem DI_0 {Y : Yd} {n : Nat} {V : Nat → Nat} {P : (Nat → Nat) → Nat → Prop} (hD : DI Y n V P) : DI Y n V (QT Y n P n) := by
  obtain ⟨d1, d2, d3⟩ := hD
  refine ⟨d1, fun c hc hv => ?_, ?_⟩
  · obtain ⟨m, hm, hp⟩ := d2 c hc hv
    exact ⟨m, hm, ds Y n c, m, hp, fun p _ => Or.inl rfl, by rw [un_self n (fun _ _ => rfl)]; rfl⟩
  · rintro U m ⟨U0, c0, h0, hU, hc⟩
    have he : ∀ p, p < n → U p = U0 p := fun p hp => by
      rcases hU p hp with e | ⟨e, -⟩
      · exact e
      · omega
    rw [un_self n he] at hc
    rw [en_cg n he, hc]
    exact d3 U0 c0 h0
theorem DI_thD {Y : Yd} {n : Nat} {V : Nat → Nat} {P : (Nat → Nat) → Nat → Prop} (h : YOK n Y) (hP : okP Y n P) (hD : DI Y n V P) : ∀ j, j ≤ n → DI Y n (thD Y n V j) (QT Y n P (n - j))
  | 0, _ => DI_0 hD
  | j + 1, hj => by
    have ih := DI_thD h hP hD j (by omega)
    rw [show n - j = (n - (j + 1)) + 1 by omega] at ih
    unfold thD
    rw [show n - 1 - j = n - (j + 1) by omega]
    exact DI_thP h (by omega) hP ih
/-! the other digits of a code -/
def bs (Y : Yd) (n m c : Nat) : Nat := en Y (fu (ds Y n c) m 0) n
section BS
variable {n : Nat} {Y : Yd} {m c k s : Nat}
theorem fz_ok (h : YOK n Y) (hm : m < n) (hs : s < sm Y m) : TOK n Y (fu (ds Y n c) m s) := TOK_fu (ds_ok h c) hs
theorem bs_lt (h : YOK n Y) (hm : m < n) : bs Y n m c < pd Y n := en_lt (fz_ok h hm (sm_in h hm).1) n (Nat.le_refl n)
theorem bs_ds (h : YOK n Y) (hm : m < n) {q : Nat} (hq : q < n) : ds Y n (bs Y n m c) q = if q = m then 0 else ds Y n c q := by
  unfold bs
  rw [ds_en h (fz_ok h hm (sm_in h hm).1) hq]
  rfl
theorem fib (h : YOK n Y) (hm : m < n) (hc : c < pd Y n) (e : bs Y n m c = k) : c = en Y (fu (ds Y n k) m (ds Y n c m)) n := by
  subst e
  rw [en_cg (U' := ds Y n c) n (fun q hq => by
    unfold fu
    by_cases e : q = m
    · subst e; simp
    · rw [if_neg e, bs_ds h hm hq, if_neg e]), en_dsn hc]
theorem bs_en (h : YOK n Y) (hm : m < n) (hk : k < pd Y n) (h0 : ds Y n k m = 0) (hs : s < sm Y m) : bs Y n m (en Y (fu (ds Y n k) m s) n) = k ∧ ds Y n (en Y (fu (ds Y n k) m s) n) m = s := by
  have hf := fz_ok (c := k) h hm hs
  refine ⟨?_, by rw [ds_en h hf hm]; simp [fu]⟩
  unfold bs
  rw [en_cg (U' := ds Y n k) n (fun q hq => by
    by_cases e : q = m
    · subst e; simp [fu, h0]
    · simp only [fu, if_neg e]
      rw [ds_en h hf hq]
      simp [fu, e]), en_dsn hk]
theorem bs_self (h : YOK n Y) (hm : m < n) (hk : k < pd Y n) (h0 : ds Y n k m = 0) : bs Y n m k = k := by
  unfold bs
  rw [en_cg (U' := ds Y n k) n (fun q hq => by
    by_cases e : q = m
    · subst e; simp [fu, h0]
    · simp [fu, e]), en_dsn hk]
theorem at_en (h : YOK n Y) (hm : m < n) (hk : k < pd Y n) (h0 : ds Y n k m = 0) (s : Nat) : k + s * uf Y n (n - 1 - m) = en Y (fu (ds Y n k) m s) n := by
  rw [en_fu _ hm s]
  have := bs_self h hm hk h0
  unfold bs at this
  rw [this]
theorem lsm_bs (h : YOK n Y) (hm : m < n) {V : Nat → Nat} (e : bs Y n m c = k) : ∀ s, lsm Y n V c m s = lsm Y n V k m s
  | 0 => rfl
  | s + 1 => by
    unfold lsm
    rw [lsm_bs h hm e s]
    congr 2
    refine en_cg n (fun q hq => ?_)
    unfold fu
    by_cases eq : q = m
    · rw [if_pos eq, if_pos eq]
    · rw [if_neg eq, if_neg eq, ← e, bs_ds h hm hq, if_neg eq]
end BS
/-- while the codes up to k are done -/
def Vk (Y : Yd) (n m : Nat) (V : Nat → Nat) (k c : Nat) : Nat := if bs Y n m c < k then thP Y n m V c else V c
def Vw (Y : Yd) (n m : Nat) (V : Nat → Nat) (k w c : Nat) : Nat := if bs Y n m c < k then thP Y n m V c else if bs Y n m c = k ∧ isF Y m (ds Y n c m) w = true then min (V c) (lsm Y n V k m (sm Y m) + 1) else V c
theorem Vk_le {Y : Yd} {n m : Nat} {V : Nat → Nat} {k c : Nat} : Vk Y n m V k c ≤ V c := by
  unfold Vk
  split
  · exact thP_le
  · exact Nat.le_refl _
theorem Vw_le {Y : Yd} {n m : Nat} {V : Nat → Nat} {k w c : Nat} : Vw Y n m V k w c ≤ V c := by
  unfold Vw
  split
  · exact thP_le
  · split
    · exact Nat.min_le_left _ _
    · exact Nat.le_refl _
theorem lsm_ub {Y : Yd} {n : Nat} {V : Nat → Nat} {c p : Nat} : ∀ s, lsm Y n V c p s ≤ 1000000
  | 0 => Nat.le_refl _
  | s + 1 => Nat.le_trans (Nat.min_le_left _ _) (lsm_ub s)
section MM
variable {d L : Nat} {dy : mjM} {I : mjI} {y y1 n1 w1 c y2 : Option Nat} {R : mjR} {J : mjJ} {pn : Nat} {pg : Nat → Nat} {n : Nat} {Y : Yd} {T : Nat → Nat} {t : Nat} {tr : Nat → Nat} {kp : Kp} {wn : Nat} {wt : Nat → Nat} {yr dn : Nat}
/-- one switch of throwAll: its codes -/
theorem M_throwOne {m : Nat} {V : Nat → Nat} (hn6 : n ≤ 6) (hm : m < n) (hY : MY I n Y) (hV : ∀ c, c < pd Y n → V c ≤ 1000000) : ∀ (f k : Nat) (X : mjI) (l6 l7 l8 : Option Value), mj_lg l6 = true → mj_lg l7 = true → k + f = pd Y n → Fr [] [60] I X → RI X 60 (pd Y n) (Vk Y n m V k) → ∃ (I' : mjI) (q6 q7 q8 : Option Value), (Fr [] [60] I I' ∧ RI I' 60 (pd Y n) (thP Y n m V) ∧ mj_lg q6 = true ∧ mj_lg q7 = true) ∧ ∀ (v : Option Value) (h' : mjH), mj_Rd (mj_call mj_P (d + 2)) kc_M_throwAll 0 (171, [some (.ref 45), some (.int (nI (pd Y n))), some (.int (nI (uf Y n (n - 1 - m)))), some (.int (nI m)), some (.int (nI (sm Y m))), some (.int (nI (pd Y n))), q6, q7, q8], [], HP L dy I' y y1 n1 w1 c y2 R J) v h' → mj_Rd (mj_call mj_P (d + 2)) kc_M_throwAll 0 (23, [some (.ref 45), some (.int (nI (pd Y n))), some (.int (nI (uf Y n (n - 1 - m)))), some (.int (nI m)), some (.int (nI (sm Y m))), some (.int (nI k)), l6, l7, l8], [], HP L dy X y y1 n1 w1 c y2 R J) v h' := by
  have hO := hY.2.1
  have hpd := pd_46656 hO hn6
  have hsm := sm_in hO hm
  have hup := uf_pos hO (n - 1 - m) (by omega)
  have hule : uf Y n (n - 1 - m) ≤ pd Y n := by
    have := pd_uf (Y := Y) (n := n) (n - 1 - m) (by omega)
    have hp1 := (pd_le hO (n - (n - 1 - m)) (by omega)).2
    rw [← this]
    have := Nat.mul_le_mul_right (uf Y n (n - 1 - m)) hp1
    omega
  intro f
  induction f with
  | zero =>
    intro k X l6 l7 l8 g6 g7 hk hf hR
    have : k = pd Y n := by omega
    subst this
    refine ⟨X, l6, l7, l8, ⟨hf, fun c hc => ?_, g6, g7⟩, fun v h' hx => ?_⟩
    · rw [hR c hc]
      unfold Vk
      rw [if_pos (bs_lt hO hm)]
    · refine mj_run 2 rfl trivial ?_
      refine mj_brt rfl rfl (by rw [nI_leI (by omega) (by omega)]; omega) ?_
      exact hx
  | succ f ih =>
    intro k X l6 l7 l8 g6 g7 hk hf hR
    have hkp : k < pd Y n := by omega
    have hYX : MY X n Y := hY.fr hf (by decide)
    have eds : k / uf Y n (n - 1 - m) % sm Y m = ds Y n k m := (ds_uf Y n k m).symm
    have nz1 : ¬ nI (uf Y n (n - 1 - m)) = 0 := by rw [nI_z (by omega)]; omega
    have nz2 : ¬ nI (sm Y m) = 0 := by rw [nI_z (by omega)]; omega
    have hdl : ds Y n k m < sm Y m := ds_ok hO k m hm
    have hdiv : k / uf Y n (n - 1 - m) ≤ k := Nat.div_le_self _ _
    by_cases hd0 : ds Y n k m = 0
    · -- the least of its fibre
      have hkk := bs_self hO hm hkp hd0
      have least : ∀ (v : Option Value) (h' : mjH), mj_Rd (mj_call mj_P (d + 2)) kc_M_throwAll 0 (89, [some (.ref 45), some (.int (nI (pd Y n))), some (.int (nI (uf Y n (n - 1 - m)))), some (.int (nI m)), some (.int (nI (sm Y m))), some (.int (nI k)), some (.int (nI (lsm Y n V k m (sm Y m)))), some (.int (nI (sm Y m))), some (.int (nI (V (en Y (fu (ds Y n k) m (sm Y m - 1)) n))))], [], HP L dy X y y1 n1 w1 c y2 R J) v h' → ∀ v8 : Option Value, mj_Rd (mj_call mj_P (d + 2)) kc_M_throwAll 0 (46, [some (.ref 45), some (.int (nI (pd Y n))), some (.int (nI (uf Y n (n - 1 - m)))), some (.int (nI m)), some (.int (nI (sm Y m))), some (.int (nI k)), some (.int (nI (lsm Y n V k m 0))), some (.int (nI 0)), v8], [], HP L dy X y y1 n1 w1 c y2 R J) v h' := by
        intro v h' hx v8
        refine dn_ind (sm Y m) (fun s => ∀ v8 : Option Value, (s = sm Y m → v8 = some (.int (nI (V (en Y (fu (ds Y n k) m (sm Y m - 1)) n))))) → mj_Rd (mj_call mj_P (d + 2)) kc_M_throwAll 0 (46, [some (.ref 45), some (.int (nI (pd Y n))), some (.int (nI (uf Y n (n - 1 - m)))), some (.int (nI m)), some (.int (nI (sm Y m))), some (.int (nI k)), some (.int (nI (lsm Y n V k m s))), some (.int (nI s)), v8], [], HP L dy X y y1 n1 w1 c y2 R J) v h') ?_ ?_ 0 (by omega) v8 (fun q => by omega)
        · intro v8 h8
          rw [h8 rfl]
          refine mj_run 2 rfl trivial ?_
          refine mj_brt rfl rfl (by rw [nI_leI (by omega) (by omega)]; omega) ?_
          exact hx
        · intro s hs ihs v8 _
          have hlu := lsm_ub (Y := Y) (n := n) (V := V) (c := k) (p := m) s
          have hen := en_lt (fz_ok (c := k) hO hm hs) n (Nat.le_refl n)
          have eix : nI k + nI s * nI (uf Y n (n - 1 - m)) = nI (en Y (fu (ds Y n k) m s) n) := by
            rw [pk_mul, nI_add, at_en hO hm hkp hd0]
          have ev : Vk Y n m V k (en Y (fu (ds Y n k) m s) n) = V (en Y (fu (ds Y n k) m s) n) := by
            unfold Vk
            rw [(bs_en hO hm hkp hd0 hs).1, if_neg (by omega)]
          have hVe := hV _ hen
          have ihs' := ihs (some (.int (nI (V (en Y (fu (ds Y n k) m s) n))))) (fun q => by rw [show s = sm Y m - 1 by omega])
          rw [show lsm Y n V k m (s + 1) = min (lsm Y n V k m s) (V (en Y (fu (ds Y n k) m s) n)) from rfl] at ihs'
          refine mj_run 2 rfl trivial ?_
          refine mj_brf rfl rfl (by rw [nI_leI (by omega) (by omega)]; omega) ?_
          refine mj_run 11 rfl (by rw [eix]; exact nI_vi (by omega) (by decide)) ?_
          rw [eix, nI_nc (by omega), hR _ hen, ev]
          refine mj_bra rfl rfl (fun g => ?_) (fun g => ?_)
          · rw [nI_leI (by omega) (by omega)] at g
            rw [Nat.min_eq_left g] at ihs'
            refine mj_run 1 rfl trivial ?_
            refine mj_run 3 rfl trivial ?_
            rw [nI_add]
            exact ihs'
          · rw [nI_leI (by omega) (by omega)] at g
            rw [Nat.min_eq_right (by omega)] at ihs'
            refine mj_run 2 rfl trivial ?_
            refine mj_run 3 rfl trivial ?_
            rw [nI_add]
            exact ihs'
      have start : ∀ (v : Option Value) (h' : mjH), mj_Rd (mj_call mj_P (d + 2)) kc_M_throwAll 0 (92, [some (.ref 45), some (.int (nI (pd Y n))), some (.int (nI (uf Y n (n - 1 - m)))), some (.int (nI m)), some (.int (nI (sm Y m))), some (.int (nI k)), some (.int (nI (lsm Y n V k m (sm Y m)))), some (.int (nI 0)), some (.int (nI (V (en Y (fu (ds Y n k) m (sm Y m - 1)) n))))], [], HP L dy X y y1 n1 w1 c y2 R J) v h' → mj_Rd (mj_call mj_P (d + 2)) kc_M_throwAll 0 (23, [some (.ref 45), some (.int (nI (pd Y n))), some (.int (nI (uf Y n (n - 1 - m)))), some (.int (nI m)), some (.int (nI (sm Y m))), some (.int (nI k)), l6, l7, l8], [], HP L dy X y y1 n1 w1 c y2 R J) v h' := by
        intro v h' hx
        refine mj_run 2 rfl trivial ?_
        refine mj_brf rfl rfl (by rw [nI_leI (by omega) (by omega)]; omega) ?_
        refine mj_run 5 rfl ⟨nz1, nz2⟩ ?_
        rw [pk_div (by omega) (by omega) (by omega), pk_rem (by omega) (by omega) (by omega), eds, hd0]
        refine mj_brf rfl rfl (fun q => q rfl) ?_
        refine mj_run 4 rfl trivial ?_
        refine least v h' ?_ l8
        refine mj_run 2 rfl trivial ?_
        exact hx
      generalize hls : lsm Y n V k m (sm Y m) = ls at start
      have hlu : ls ≤ 1000000 := by rw [← hls]; exact lsm_ub _
      have hcm := hO.2 m hm
      have e51 : ∀ Z, Fr [] [60] I Z → Z 51 m = nI (Y.2.1 m) := fun Z hZ => by
        rw [hZ.1 51 (by decide) (by decide)]
        exact (hY.2.2 m hm).2.1
      by_cases hl : ls < 1000000
      · -- throws
        have key := dn_ind (Y.2.1 m) (fun w => ∀ (Z : mjI) (v8 : Option Value), Fr [] [60] I Z → RI Z 60 (pd Y n) (Vw Y n m V k w) → ∃ (I' : mjI) (q6 q7 q8 : Option Value), (Fr [] [60] I I' ∧ RI I' 60 (pd Y n) (thP Y n m V) ∧ mj_lg q6 = true ∧ mj_lg q7 = true) ∧ ∀ (v : Option Value) (h' : mjH), mj_Rd (mj_call mj_P (d + 2)) kc_M_throwAll 0 (171, [some (.ref 45), some (.int (nI (pd Y n))), some (.int (nI (uf Y n (n - 1 - m)))), some (.int (nI m)), some (.int (nI (sm Y m))), some (.int (nI (pd Y n))), q6, q7, q8], [], HP L dy I' y y1 n1 w1 c y2 R J) v h' → mj_Rd (mj_call mj_P (d + 2)) kc_M_throwAll 0 (92, [some (.ref 45), some (.int (nI (pd Y n))), some (.int (nI (uf Y n (n - 1 - m)))), some (.int (nI m)), some (.int (nI (sm Y m))), some (.int (nI k)), some (.int (nI ls)), some (.int (nI w)), v8], [], HP L dy Z y y1 n1 w1 c y2 R J) v h') ?_ ?_ 0 (by omega)
        · have hz : RI X 60 (pd Y n) (Vw Y n m V k 0) := fun c hc => by
            rw [hR c hc]
            unfold Vk Vw
            split
            · rfl
            · rw [if_neg (fun q => by cases q.2)]
          obtain ⟨I', q6, q7, q8, hA, hx⟩ := key X (some (.int (nI (V (en Y (fu (ds Y n k) m (sm Y m - 1)) n))))) hf hz
          exact ⟨I', q6, q7, q8, hA, fun v h' g => start v h' (hx v h' g)⟩
        · intro Z v8 hfZ hZ
          obtain ⟨I', q6, q7, q8, hA, hx⟩ := ih (k + 1) Z (some (.int (nI ls))) (some (.int (nI (Y.2.1 m)))) v8 rfl rfl (by omega) hfZ (fun c hc => by
            rw [hZ c hc]
            congr 1
            unfold Vk Vw
            by_cases g : bs Y n m c < k
            · rw [if_pos g, if_pos (by omega)]
            · rw [if_neg g]
              by_cases g2 : bs Y n m c = k
              · rw [if_pos (show bs Y n m c < k + 1 by omega)]
                unfold thP
                rw [lsm_bs hO hm g2, hls]
                by_cases g3 : isF Y m (ds Y n c m) (Y.2.1 m) = true
                · rw [if_pos ⟨g2, g3⟩, if_pos ⟨hl, g3⟩]
                · rw [if_neg (fun q => g3 q.2), if_neg (fun q => g3 q.2)]
              · rw [if_neg (fun q => g2 q.1), if_neg (by omega)])
          refine ⟨I', q6, q7, q8, hA, fun v h' g => ?_⟩
          refine mj_run 5 rfl (nI_vi (by omega) (by decide)) ?_
          rw [nI_nc (by omega), e51 Z hfZ]
          refine mj_brt rfl rfl (by rw [nI_leI (by omega) (by omega)]; omega) ?_
          refine mj_run 2 rfl trivial ?_
          rw [nI_add]
          exact hx v h' g
        · intro w hw ihw Z v8 hfZ hZ
          have hYZ : MY Z n Y := hY.fr hfZ (by decide)
          have hli := (lsd_in hO hm hw).1
          have hen := en_lt (fz_ok (c := k) hO hm hli) n (Nat.le_refl n)
          have eix : nI k + nI (lsd Y m w) * nI (uf Y n (n - 1 - m)) = nI (en Y (fu (ds Y n k) m (lsd Y m w)) n) := by
            rw [pk_mul, nI_add, at_en hO hm hkp hd0]
          obtain ⟨b1, b2⟩ := bs_en hO hm hkp hd0 hli
          have hVc := hV _ hen
          have hcur : Vw Y n m V k w (en Y (fu (ds Y n k) m (lsd Y m w)) n) ≤ 1000000 := Nat.le_trans Vw_le hVc
          have hnew : Vw Y n m V k (w + 1) (en Y (fu (ds Y n k) m (lsd Y m w)) n) = min (Vw Y n m V k w (en Y (fu (ds Y n k) m (lsd Y m w)) n)) (ls + 1) := by
            unfold Vw
            rw [b1, b2, if_neg (Nat.lt_irrefl k), if_neg (Nat.lt_irrefl k), hls]
            rw [if_pos ⟨rfl, (isF_iff _).mpr ⟨w, by omega, rfl⟩⟩]
            split <;> omega
          have hoth : ∀ c, c < pd Y n → c ≠ en Y (fu (ds Y n k) m (lsd Y m w)) n → Vw Y n m V k (w + 1) c = Vw Y n m V k w c := by
            intro c hc hne
            unfold Vw
            by_cases g : bs Y n m c < k
            · rw [if_pos g, if_pos g]
            · rw [if_neg g, if_neg g]
              by_cases g2 : bs Y n m c = k
              · have hd : ¬ lsd Y m w = ds Y n c m := fun e => hne (by rw [e]; exact fib hO hm hc g2)
                have : isF Y m (ds Y n c m) (w + 1) = isF Y m (ds Y n c m) w := by
                  show (_ || _) = _
                  rw [decide_eq_false hd, Bool.or_false]
                rw [this]
              · rw [if_neg (fun q => g2 q.1), if_neg (fun q => g2 q.1)]
          obtain ⟨I', q6, q7, q8, hA, hx⟩ := ihw (mj_ui Z 60 (en Y (fu (ds Y n k) m (lsd Y m w)) n) (nI (Vw Y n m V k (w + 1) (en Y (fu (ds Y n k) m (lsd Y m w)) n)))) (some (.int (nI (en Y (fu (ds Y n k) m (lsd Y m w)) n)))) ((hfZ.tr (Fr.a Z (a := 60) (by decide) _ _)).w (by decide) (by decide)) (fun c hc => by
            by_cases e : c = en Y (fu (ds Y n k) m (lsd Y m w)) n
            · subst e; simp [mj_ui, upd]
            · rw [hoth c hc e, ← hZ c hc]
              simp [mj_ui, upd, e])
          refine ⟨I', q6, q7, q8, hA, fun v h' g => ?_⟩
          have hx2 := hx v h' g
          rw [hnew] at hx2
          refine mj_run 5 rfl (nI_vi (by omega) (by decide)) ?_
          rw [nI_nc (by omega), e51 Z hfZ]
          refine mj_brf rfl rfl (by rw [nI_leI (by omega) (by omega)]; omega) ?_
          refine mj_run 2 rfl trivial ?_
          refine mj_brf rfl rfl (by rw [nI_leI (by decide) (by omega)]; omega) ?_
          refine mj_run 4 rfl trivial ?_
          refine mj_cal rfl rfl (M_leastStand hYZ hm hw) ?_
          have vi : vp_in (nI (en Y (fu (ds Y n k) m (lsd Y m w)) n)) 46656 := nI_vi (by omega) (by decide)
          refine mj_run 14 rfl (by rw [eix]; exact vi) ?_
          rw [eix, nI_nc (by omega), hZ _ hen, nI_add]
          refine mj_bra rfl rfl (fun g => ?_) (fun g => ?_)
          · rw [nI_leI (by omega) (by omega)] at g
            rw [Nat.min_eq_left g] at hx2
            refine mj_run 4 rfl vi ?_
            rw [nI_nc (by omega), hZ _ hen]
            refine mj_run 3 rfl ⟨vi, by decide⟩ ?_
            rw [nI_nc (by omega), nI_add]
            exact hx2
          · rw [nI_leI (by omega) (by omega)] at g
            rw [Nat.min_eq_right (by omega)] at hx2
            refine mj_run 4 rfl trivial ?_
            rw [nI_add]
            refine mj_run 3 rfl ⟨vi, by decide⟩ ?_
            rw [nI_nc (by omega), nI_add]
            exact hx2
      · -- none of its fibre is reached
        obtain ⟨I', q6, q7, q8, hA, hx⟩ := ih (k + 1) X (some (.int (nI ls))) (some (.int (nI 0))) (some (.int (nI (V (en Y (fu (ds Y n k) m (sm Y m - 1)) n))))) rfl rfl (by omega) hf (fun c hc => by
          rw [hR c hc]
          congr 1
          unfold Vk
          by_cases g : bs Y n m c < k
          · rw [if_pos g, if_pos (by omega)]
          · rw [if_neg g]
            by_cases g2 : bs Y n m c = k
            · rw [if_pos (show bs Y n m c < k + 1 by omega)]
              unfold thP
              rw [lsm_bs hO hm g2, hls, if_neg (fun q => hl q.1)]
            · rw [if_neg (by omega)])
        refine ⟨I', q6, q7, q8, hA, fun v h' g => start v h' ?_⟩
        refine mj_run 5 rfl (nI_vi (by omega) (by decide)) ?_
        rw [nI_nc (by omega), e51 X hf]
        refine mj_brf rfl rfl (by rw [nI_leI (by omega) (by omega)]; omega) ?_
        refine mj_run 2 rfl trivial ?_
        refine mj_brt rfl rfl (by rw [nI_leI (by decide) (by omega)]; omega) ?_
        refine mj_run 2 rfl trivial ?_
        rw [nI_add]
        exact hx v h' g
    · -- not the first of its fibre
      obtain ⟨I', q6, q7, q8, hA, hx⟩ := ih (k + 1) X l6 l7 l8 g6 g7 (by omega) hf (fun c hc => by
        rw [hR c hc]
        congr 1
        unfold Vk
        have hne : bs Y n m c ≠ k := fun e => hd0 (by rw [← e, bs_ds hO hm hm, if_pos rfl])
        by_cases g : bs Y n m c < k
        · rw [if_pos g, if_pos (by omega)]
        · rw [if_neg g, if_neg (by omega)])
      refine ⟨I', q6, q7, q8, hA, fun v h' g => ?_⟩
      refine mj_run 2 rfl trivial ?_
      refine mj_brf rfl rfl (by rw [nI_leI (by omega) (by omega)]; omega) ?_
      refine mj_run 5 rfl ⟨nz1, nz2⟩ ?_
      rw [pk_div (by omega) (by omega) (by omega), pk_rem (by omega) (by omega) (by omega), eds]
      refine mj_brt rfl rfl (by rw [nI_z (by omega)]; exact hd0) ?_
      refine mj_run 2 rfl trivial ?_
      rw [nI_add]
      exact hx v h' g
theorem M_throwAll {V : Nat → Nat} (hn6 : n ≤ 6) (hY : MY I n Y) (hV : ∀ c, c < pd Y n → V c ≤ 1000000) (hR : RI I 60 (pd Y n) V) : ∃ I', mj_call mj_P (d + 3) kn_M_throwAll [.ref 45, .int (nI (pd Y n))] (HP L dy I y y1 n1 w1 c y2 R J) none (HP L dy I' y y1 n1 w1 c y2 R J) ∧ Fr [] [60] I I' ∧ RI I' 60 (pd Y n) (thD Y n V n) := by
  have key : ∀ (m : Nat) (X : mjI) (l4 l5 l6 l7 l8 : Option Value), mj_lg l4 = true → mj_lg l5 = true → mj_lg l6 = true → mj_lg l7 = true → m ≤ n → Fr [] [60] I X → RI X 60 (pd Y n) (thD Y n V (n - m)) → ∃ I', (Fr [] [60] I I' ∧ RI I' 60 (pd Y n) (thD Y n V n)) ∧ mj_Rd (mj_call mj_P (d + 2)) kc_M_throwAll 0 (9, [some (.ref 45), some (.int (nI (pd Y n))), some (.int (nI (uf Y n (n - m)))), some (.int (nI m - nI 1)), l4, l5, l6, l7, l8], [], HP L dy X y y1 n1 w1 c y2 R J) none (HP L dy I' y y1 n1 w1 c y2 R J) := by
    intro m
    induction m with
    | zero =>
      intro X l4 l5 l6 l7 l8 _ _ _ _ _ hf hX
      refine ⟨X, ⟨hf, hX⟩, ?_⟩
      refine mj_run 1 rfl trivial ?_
      refine mj_brt rfl rfl (by decide) ?_
      exact mj_end rfl rfl trivial
    | succ m ih =>
      intro X l4 l5 l6 l7 l8 g4 g5 g6 g7 hm hf hX
      have hYX : MY X n Y := hY.fr hf (by decide)
      have hmn : m < n := by omega
      have hsm := sm_in hY.2.1 hmn
      have e0 : nI (m + 1) - nI 1 = nI m := by rw [pk_sub (by omega)]; rfl
      have e1 : n - (m + 1) = n - 1 - m := by omega
      rw [e1] at hX
      obtain ⟨I1, q6, q7, q8, ⟨hf1, hR1, k6, k7⟩, hx1⟩ := M_throwOne (d := d) (L := L) (dy := dy) (y := y) (y1 := y1) (n1 := n1) (w1 := w1) (c := c) (y2 := y2) (R := R) (J := J) (m := m) (V := thD Y n V (n - 1 - m)) hn6 hmn hYX (fun c hc => Nat.le_trans (thD_le _ c) (hV c hc)) (pd Y n) 0 X l6 l7 l8 g6 g7 (by omega) ((Fr.rf X).w (by simp) (by simp)) (fun c hc => by
        rw [hX c hc]
        unfold Vk
        rw [if_neg (by omega)])
      have e2 : thD Y n V (n - m) = thP Y n m (thD Y n V (n - 1 - m)) := by
        rw [show n - m = n - 1 - m + 1 by omega]
        show thP Y n (n - 1 - (n - 1 - m)) _ = _
        rw [show n - 1 - (n - 1 - m) = m by omega]
      have e3 : uf Y n (n - m) = uf Y n (n - 1 - m) * sm Y m := by
        rw [show n - m = n - 1 - m + 1 by omega]
        show _ * sm Y (n - 1 - (n - 1 - m)) = _
        rw [show n - 1 - (n - 1 - m) = m by omega]
      obtain ⟨I', hA, hx⟩ := ih I1 (some (.int (nI (sm Y m)))) (some (.int (nI (pd Y n)))) q6 q7 q8 rfl rfl k6 k7 (by omega) ((hf.tr hf1).w (by decide) (by decide)) (by rw [e2]; exact hR1)
      refine ⟨I', hA, ?_⟩
      rw [e0, e1]
      refine mj_run 1 rfl trivial ?_
      refine mj_brf rfl rfl (by rw [show (0 : Int32) = nI 0 from rfl, nI_ltI (by omega) (by decide)]; omega) ?_
      refine mj_run 2 rfl trivial ?_
      refine mj_cal rfl rfl (M_standMany hYX hmn) ?_
      refine mj_run 3 rfl trivial ?_
      refine hx1 _ _ ?_
      refine mj_run 6 rfl trivial ?_
      rw [pk_mul, ← e3]
      rw [show nI m + Int32.ofInt (-1) = nI m - nI 1 by rw [Int32.sub_eq_add_neg]; rfl]
      exact hx
  obtain ⟨I', hA, hx⟩ := key n I none none none none none rfl rfl rfl rfl (Nat.le_refl n) ((Fr.rf I).w (by simp) (by simp)) (by rw [Nat.sub_self]; exact hR)
  refine ⟨I', ?_, hA⟩
  refine mj_ci rfl (Nat.le_of_ble_eq_true rfl) ?_
  refine mj_run 7 rfl trivial ?_
  rw [hY.1]
  rw [Nat.sub_self] at hx
  exact hx
end MM
