def tN (Y : Yd) (T sus : Nat → Nat) : Nat → Nat
  | 0 => 1
  | k + 1 => max (tN Y T sus k) (min (ul Y T (sus k) 10) 41)
def tI (Y : Yd) (T sus : Nat → Nat) (k : Nat) : Nat → Nat → Nat
  | 0, m => m
  | o + 1, m => max (tI Y T sus k o m) (min (ul Y T (sus k) (sus o)) 41)
def tA (Y : Yd) (T sus : Nat → Nat) : Nat → Nat
  | 0 => 1
  | k + 1 => tI Y T sus k k (tA Y T sus k)
theorem tN_le {Y : Yd} {T sus : Nat → Nat} : ∀ k, tN Y T sus k ≤ 41
  | 0 => by show 1 ≤ 41; omega
  | k + 1 => by
    have := tN_le (Y := Y) (T := T) (sus := sus) k
    unfold tN
    omega
theorem tI_le {Y : Yd} {T sus : Nat → Nat} {k m : Nat} (h : m ≤ 41) : ∀ o, tI Y T sus k o m ≤ 41
  | 0 => h
  | o + 1 => by
    have := tI_le (Y := Y) (T := T) (sus := sus) (k := k) h o
    unfold tI
    omega
theorem tA_le {Y : Yd} {T sus : Nat → Nat} : ∀ k, tA Y T sus k ≤ 41
  | 0 => by show 1 ≤ 41; omega
  | k + 1 => tI_le (tA_le k) k
theorem tN_iff {Y : Yd} {T sus : Nat → Nat} {B : Nat} (hB : B ≤ 40) : ∀ k, tN Y T sus k ≤ B ↔ (1 ≤ B ∧ ∀ j, j < k → ul Y T (sus j) 10 ≤ B)
  | 0 => ⟨fun h => ⟨h, fun j hj => by omega⟩, fun h => h.1⟩
  | k + 1 => by
    unfold tN
    rw [Nat.max_le, tN_iff hB k]
    constructor
    · rintro ⟨⟨a, b⟩, e⟩
      refine ⟨a, fun j hj => ?_⟩
      by_cases g : j = k
      · subst g; omega
      · exact b j (by omega)
    · rintro ⟨a, b⟩
      have := b k (by omega)
      exact ⟨⟨a, fun j hj => b j (by omega)⟩, by omega⟩
theorem tI_iff {Y : Yd} {T sus : Nat → Nat} {B k m : Nat} (hB : B ≤ 40) : ∀ o, tI Y T sus k o m ≤ B ↔ (m ≤ B ∧ ∀ j, j < o → ul Y T (sus k) (sus j) ≤ B)
  | 0 => ⟨fun h => ⟨h, fun j hj => by omega⟩, fun h => h.1⟩
  | o + 1 => by
    unfold tI
    rw [Nat.max_le, tI_iff hB o]
    constructor
    · rintro ⟨⟨a, b⟩, e⟩
      refine ⟨a, fun j hj => ?_⟩
      by_cases g : j = o
      · subst g; omega
      · exact b j (by omega)
    · rintro ⟨a, b⟩
      have := b o (by omega)
      exact ⟨⟨a, fun j hj => b j (by omega)⟩, by omega⟩
theorem tA_iff {Y : Yd} {T sus : Nat → Nat} {B : Nat} (hB : B ≤ 40) : ∀ k, tA Y T sus k ≤ B ↔ (1 ≤ B ∧ ∀ j, j < k → ∀ o, o < j → ul Y T (sus j) (sus o) ≤ B)
  | 0 => ⟨fun h => ⟨h, fun j hj => by omega⟩, fun h => h.1⟩
  | k + 1 => by
    unfold tA
    rw [tI_iff hB, tA_iff hB k]
    constructor
    · rintro ⟨⟨a, b⟩, e⟩
      refine ⟨a, fun j hj => ?_⟩
      by_cases g : j = k
      · subst g; exact e
      · exact b j (by omega)
    · rintro ⟨a, b⟩
      exact ⟨⟨a, fun j hj => b j (by omega)⟩, b k (by omega)⟩
section CC
variable {d L : Nat} {dy : mjM} {I : mjI} {y y1 n1 w1 c y2 : Option Nat} {R : mjR} {J : mjJ} {pn : Nat} {pg : Nat → Nat} {n : Nat} {Y : Yd} {T : Nat → Nat} {t : Nat} {tr : Nat → Nat} {kp : Kp} {wn : Nat} {wt : Nat → Nat} {yr dn : Nat} {ya ol : Nat} {A B C od : Nat → Nat} {cnt : Nat} {ix : Nat → Nat}
theorem nts_F (hK : YOK n Y) (hn1 : 1 ≤ n) (hO : OD Y n ol od) (hS : SU I Y T od ol cnt ix) {b : Nat} (hb : b ≤ 40) : tN Y T (fun j => od (ix j)) cnt ≤ b ↔ nts Y n T false b n := by
  obtain ⟨o1, o2, o3, o4, o5⟩ := hO
  obtain ⟨s1, s2, s3, s4, s5⟩ := hS
  rw [tN_iff hb]
  constructor
  · rintro ⟨h1, h2⟩
    refine ⟨h1, fun p hp hd => ⟨?_, fun q => by cases q⟩⟩
    obtain ⟨hr, hp1⟩ := (dtb_iff hK hn1).mp hd
    obtain ⟨e, he, rfl⟩ := o3 p hr
    obtain ⟨j, hj, rfl⟩ := s5 e he hp1
    exact h2 j hj
  · rintro ⟨h1, h2⟩
    refine ⟨h1, fun j hj => ?_⟩
    obtain ⟨a1, a2, a3, a4⟩ := s3 j hj
    have hr := o2 _ a2
    exact (h2 _ (rc_lt hK hn1 hr) ((dtb_iff hK hn1).mpr ⟨hr, a3⟩)).1
theorem nts_T (hK : YOK n Y) (hn1 : 1 ≤ n) (hO : OD Y n ol od) (hS : SU I Y T od ol cnt ix) {b : Nat} (hb : b ≤ 40) : max (tN Y T (fun j => od (ix j)) cnt) (tA Y T (fun j => od (ix j)) cnt) ≤ b ↔ nts Y n T true b n := by
  have hF := nts_F hK hn1 hO hS hb
  obtain ⟨o1, o2, o3, o4, o5⟩ := hO
  obtain ⟨s1, s2, s3, s4, s5⟩ := hS
  rw [Nat.max_le, hF, tA_iff hb]
  constructor
  · rintro ⟨⟨h1, h2⟩, -, h3⟩
    refine ⟨h1, fun p hp hd => ⟨(h2 p hp hd).1, fun _ q hq hdq => ?_⟩⟩
    obtain ⟨hr, hp1⟩ := (dtb_iff hK hn1).mp hd
    obtain ⟨hrq, hq1⟩ := (dtb_iff hK hn1).mp hdq
    obtain ⟨e, he, rfl⟩ := o3 p hr
    obtain ⟨e', he', rfl⟩ := o3 q hrq
    obtain ⟨j, hj, rfl⟩ := s5 e he hp1
    obtain ⟨j', hj', rfl⟩ := s5 e' he' hq1
    have hne : j ≠ j' := fun g => by subst g; omega
    by_cases g : j' < j
    · exact h3 j hj j' g
    · rw [ul_sym]
      exact h3 j' hj' j (by omega)
  · rintro ⟨h1, h2⟩
    refine ⟨⟨h1, fun p hp hd => ⟨(h2 p hp hd).1, fun q => by cases q⟩⟩, h1, fun j hj o ho => ?_⟩
    obtain ⟨a1, a2, a3, a4⟩ := s3 j hj
    obtain ⟨b1, b2, b3, b4⟩ := s3 o (by omega)
    have hr := o2 _ a2
    have hrq := o2 _ b2
    have hd := (dtb_iff hK hn1).mpr ⟨hr, a3⟩
    have hdq := (dtb_iff hK hn1).mpr ⟨hrq, b3⟩
    have hp := rc_lt hK hn1 hr
    have hq := rc_lt hK hn1 hrq
    have hne : od (ix j) ≠ od (ix o) := fun g => by
      have := o4 _ _ a2 b2 g
      have := s4 o j ho hj
      omega
    by_cases g : od (ix o) < od (ix j)
    · exact (h2 _ hp hd).2 rfl _ g hdq
    · rw [ul_sym]
      exact (h2 _ hq hdq).2 rfl _ (by omega) hd
theorem S_notice (hK : YOK n Y) (hn1 : 1 ≤ n) (hTK : TOK n Y T) (hO : OD Y n ol od) (hS : SU I Y T od ol cnt ix) (h10 : RS I Y T 10) : mj_call mj_P (d + 2) kn_Su_trucksToNotice [.ref 27] (HP L dy I y y1 n1 w1 c y2 R J) (some (.int (nI (tN Y T (fun j => od (ix j)) cnt)))) (HP L dy I y y1 n1 w1 c y2 R J) := by
  have hn10 := hK.1
  obtain ⟨o1, o2, o3, o4, o5⟩ := hO
  obtain ⟨s1, s2, s3, s4, s5⟩ := hS
  refine mj_ci rfl (Nat.le_of_ble_eq_true rfl) ?_
  refine mj_run 4 rfl trivial ?_
  refine dn_ind cnt (fun k => mj_Rd (mj_call mj_P (d + 1)) kc_Su_trucksToNotice 1 (4, [some (.ref 27), some (.int (nI (tN Y T (fun j => od (ix j)) k))), some (.int (nI k))], [], HP L dy I y y1 n1 w1 c y2 R J) (some (.int (nI (tN Y T (fun j => od (ix j)) cnt)))) (HP L dy I y y1 n1 w1 c y2 R J)) ?_ ?_ 0 (by omega)
  · refine mj_run 3 rfl trivial ?_
    rw [s1]
    refine mj_brt rfl rfl (by rw [nI_leI (by omega) (by omega)]; omega) ?_
    refine mj_run 1 rfl trivial ?_
    exact mj_end rfl rfl trivial
  · intro k hk ih
    obtain ⟨a1, a2, a3, a4⟩ := s3 k hk
    have hp := rc_lt hK hn1 (o2 _ a2)
    have hN := tN_le (Y := Y) (T := T) (sus := fun j => od (ix j)) k
    refine mj_run 3 rfl trivial ?_
    rw [s1]
    refine mj_brf rfl rfl (by rw [nI_leI (by omega) (by omega)]; omega) ?_
    refine mj_run 7 rfl (nI_vi (show k < 10 by omega) (by decide)) ?_
    rw [nI_nc (by omega), a1]
    refine sx_al (a := 28) rfl rfl rfl (nI_vi (show od (ix k) < 11 by omega) (by decide)) (by rw [nI_nc (by omega)]; exact su_ref (by omega)) ?_
    refine mj_run 4 rfl (nI_vi (by decide) (by decide)) ?_
    refine mj_cal rfl rfl (S_diff (q := 10) hK hn1 hTK (by omega) (by omega) a4 h10) ?_
    refine mj_cal rfl rfl (c_max _ _ (by omega) (by omega)) ?_
    refine mj_run 3 rfl trivial ?_
    rw [nI_add]
    exact ih
theorem S_apart (hK : YOK n Y) (hn1 : 1 ≤ n) (hTK : TOK n Y T) (hO : OD Y n ol od) (hS : SU I Y T od ol cnt ix) : mj_call mj_P (d + 2) kn_Su_trucksToTellApart [.ref 27] (HP L dy I y y1 n1 w1 c y2 R J) (some (.int (nI (tA Y T (fun j => od (ix j)) cnt)))) (HP L dy I y y1 n1 w1 c y2 R J) := by
  have hn10 := hK.1
  obtain ⟨o1, o2, o3, o4, o5⟩ := hO
  obtain ⟨s1, s2, s3, s4, s5⟩ := hS
  refine mj_ci rfl (Nat.le_of_ble_eq_true rfl) ?_
  refine mj_run 4 rfl trivial ?_
  refine dn_ind cnt (fun k => ∀ l3 : Option Value, mj_Rd (mj_call mj_P (d + 1)) kc_Su_trucksToTellApart 1 (4, [some (.ref 27), some (.int (nI (tA Y T (fun j => od (ix j)) k))), some (.int (nI k)), l3], [], HP L dy I y y1 n1 w1 c y2 R J) (some (.int (nI (tA Y T (fun j => od (ix j)) cnt)))) (HP L dy I y y1 n1 w1 c y2 R J)) ?_ ?_ 0 (by omega) none
  · intro l3
    refine mj_run 3 rfl trivial ?_
    rw [s1]
    refine mj_brt rfl rfl (by rw [nI_leI (by omega) (by omega)]; omega) ?_
    refine mj_run 1 rfl trivial ?_
    exact mj_end rfl rfl trivial
  · intro k hk ih l3
    obtain ⟨a1, a2, a3, a4⟩ := s3 k hk
    have hp := rc_lt hK hn1 (o2 _ a2)
    have hA := tA_le (Y := Y) (T := T) (sus := fun j => od (ix j)) k
    refine mj_run 3 rfl trivial ?_
    rw [s1]
    refine mj_brf rfl rfl (by rw [nI_leI (by omega) (by omega)]; omega) ?_
    refine mj_run 2 rfl trivial ?_
    refine dn_ind k (fun o => mj_Rd (mj_call mj_P (d + 1)) kc_Su_trucksToTellApart 1 (14, [some (.ref 27), some (.int (nI (tI Y T (fun j => od (ix j)) k o (tA Y T (fun j => od (ix j)) k)))), some (.int (nI k)), some (.int (nI o))], [], HP L dy I y y1 n1 w1 c y2 R J) (some (.int (nI (tA Y T (fun j => od (ix j)) cnt)))) (HP L dy I y y1 n1 w1 c y2 R J)) ?_ ?_ 0 (by omega)
    · refine mj_run 2 rfl trivial ?_
      refine mj_brt rfl rfl (by rw [nI_leI (by omega) (by omega)]; omega) ?_
      refine mj_run 2 rfl trivial ?_
      rw [nI_add]
      exact ih _
    · intro o ho iho
      obtain ⟨b1, b2, b3, b4⟩ := s3 o (by omega)
      have hq := rc_lt hK hn1 (o2 _ b2)
      have hI := tI_le (Y := Y) (T := T) (sus := fun j => od (ix j)) (k := k) hA o
      refine mj_run 2 rfl trivial ?_
      refine mj_brf rfl rfl (by rw [nI_leI (by omega) (by omega)]; omega) ?_
      refine mj_run 7 rfl (nI_vi (show k < 10 by omega) (by decide)) ?_
      rw [nI_nc (by omega), a1]
      refine sx_al (a := 28) rfl rfl rfl (nI_vi (show od (ix k) < 11 by omega) (by decide)) (by rw [nI_nc (by omega)]; exact su_ref (by omega)) ?_
      refine mj_run 6 rfl (nI_vi (show o < 10 by omega) (by decide)) ?_
      rw [nI_nc (by omega), b1]
      refine sx_al (a := 28) rfl rfl rfl (nI_vi (show od (ix o) < 11 by omega) (by decide)) (by rw [nI_nc (by omega)]; exact su_ref (by omega)) ?_
      refine mj_cal rfl rfl (S_diff hK hn1 hTK (by omega) (by omega) a4 b4) ?_
      refine mj_cal rfl rfl (c_max _ _ (by omega) (by omega)) ?_
      refine mj_run 3 rfl trivial ?_
      rw [nI_add]
      exact iho
theorem S_orNone (h : mjH) (h1 : mj_mt 27 h.1 = some (17, 5)) {m : Nat} (hm : m ≤ 41) : mj_call mj_P (d + 1) kn_Su_orNone [.ref 27, .int (nI m)] h (some (.int (if m ≤ 40 then nI m else Int32.ofInt (-1)))) h := by
  refine mj_ci rfl (Nat.le_of_ble_eq_true rfl) ?_
  refine mj_run 2 rfl trivial ?_
  refine mj_bra rfl rfl (fun g => ?_) (fun g => ?_)
  · rw [nI_ltI (by decide) (by omega)] at g
    rw [if_neg (by omega)]
    refine mj_run 1 rfl trivial ?_
    exact mj_end rfl rfl trivial
  · rw [nI_ltI (by decide) (by omega)] at g
    rw [if_pos (by omega)]
    refine mj_run 2 rfl trivial ?_
    exact mj_end rfl rfl trivial
theorem CO_noticed (ab : AB pn pg n Y T t tr kp wn wt yr dn) (h : CI (FM L dy) I (FR y y1 n1 w1 c y2 R) y pn pg n Y T t tr kp wn wt yr dn) : ∃ I', mj_call mj_P (d + 6) kn_T_noticed [.ref 1] (HP L dy I y y1 n1 w1 c y2 R J) (some (.int (if n = 0 then Int32.ofInt (-103) else noA Y n T false))) (HP L dy I' y y1 n1 w1 c y2 R J) ∧ CI (FM L dy) I' (FR y y1 n1 w1 c y2 R) y pn pg n Y T t tr kp wn wt yr dn ∧ KM I I' := by
  have h0 := h
  obtain ⟨h1, h2, h3, h4, h5, h6, h7⟩ := h
  by_cases hn : n = 0
  · rw [if_pos hn]
    obtain rfl := h2.nul hn
    refine ⟨I, ?_, h0, KM.rf I⟩
    refine mj_ci rfl (Nat.le_of_ble_eq_true rfl) ?_
    refine mj_run 4 rfl trivial ?_
    exact mj_end rfl rfl trivial
  · rw [if_neg hn]
    obtain ⟨ya, A, B, C, ol, od, rfl, hY⟩ := h2.non hn
    obtain ⟨hK, hn1, hO⟩ := hY.1
    obtain ⟨I1, cnt, ix, hc1, hf1, hS, hR⟩ := S_watch (d := d) (J := J) hY h3 ab.2.2.1
    refine ⟨I1, ?_, h0.fr hf1 (by decide), hf1.km (by decide)⟩
    refine mj_ci rfl (Nat.le_of_ble_eq_true rfl) ?_
    refine mj_run 10 rfl trivial ?_
    refine mj_cal rfl rfl hc1 ?_
    refine mj_run 4 rfl trivial ?_
    refine mj_cal rfl rfl (S_notice hK hn1 ab.2.2.1 hO hS hR) ?_
    refine mj_cal rfl rfl (S_orNone _ rfl (tN_le _)) ?_
    rw [noA_of (fun b hb => nts_F hK hn1 hO hS hb)]
    exact mj_end rfl rfl trivial
theorem CO_apart (ab : AB pn pg n Y T t tr kp wn wt yr dn) (h : CI (FM L dy) I (FR y y1 n1 w1 c y2 R) y pn pg n Y T t tr kp wn wt yr dn) : ∃ I', mj_call mj_P (d + 6) kn_T_apart [.ref 1] (HP L dy I y y1 n1 w1 c y2 R J) (some (.int (if n = 0 then Int32.ofInt (-103) else noA Y n T true))) (HP L dy I' y y1 n1 w1 c y2 R J) ∧ CI (FM L dy) I' (FR y y1 n1 w1 c y2 R) y pn pg n Y T t tr kp wn wt yr dn ∧ KM I I' := by
  have h0 := h
  obtain ⟨h1, h2, h3, h4, h5, h6, h7⟩ := h
  by_cases hn : n = 0
  · rw [if_pos hn]
    obtain rfl := h2.nul hn
    refine ⟨I, ?_, h0, KM.rf I⟩
    refine mj_ci rfl (Nat.le_of_ble_eq_true rfl) ?_
    refine mj_run 4 rfl trivial ?_
    exact mj_end rfl rfl trivial
  · rw [if_neg hn]
    obtain ⟨ya, A, B, C, ol, od, rfl, hY⟩ := h2.non hn
    obtain ⟨hK, hn1, hO⟩ := hY.1
    obtain ⟨I1, cnt, ix, hc1, hf1, hS, hR⟩ := S_watch (d := d) (J := J) hY h3 ab.2.2.1
    have t1 := tN_le (Y := Y) (T := T) (sus := fun j => od (ix j)) cnt
    have t2 := tA_le (Y := Y) (T := T) (sus := fun j => od (ix j)) cnt
    refine ⟨I1, ?_, h0.fr hf1 (by decide), hf1.km (by decide)⟩
    refine mj_ci rfl (Nat.le_of_ble_eq_true rfl) ?_
    refine mj_run 10 rfl trivial ?_
    refine mj_cal rfl rfl hc1 ?_
    refine mj_run 4 rfl trivial ?_
    refine mj_cal rfl rfl (S_notice hK hn1 ab.2.2.1 hO hS hR) ?_
    refine mj_run 2 rfl trivial ?_
    refine mj_cal rfl rfl (S_apart hK hn1 ab.2.2.1 hO hS) ?_
    refine mj_cal rfl rfl (c_max _ _ (by omega) (by omega)) ?_
    refine mj_cal rfl rfl (S_orNone _ rfl (by omega)) ?_
    rw [noA_of (fun b hb => nts_T hK hn1 hO hS hb)]
    exact mj_end rfl rfl trivial
end CC
