/-! ===== counts: how many trucks come to each switch of a straight yard ===== -/
def sumT (g : Nat → Nat) : Nat → Nat
  | 0 => 0
  | k + 1 => sumT g k + g k
theorem sumT_cg {g g' : Nat → Nat} : ∀ k, (∀ i, i < k → g i = g' i) → sumT g k = sumT g' k
  | 0, _ => rfl
  | k + 1, h => by
    unfold sumT
    rw [sumT_cg k (fun i hi => h i (by omega)), h k (by omega)]
theorem sumT_le {g g' : Nat → Nat} : ∀ k, (∀ i, i < k → g i ≤ g' i) → sumT g k ≤ sumT g' k
  | 0, _ => Nat.le_refl _
  | k + 1, h => by
    have := sumT_le k (fun i hi => h i (by omega))
    have := h k (by omega)
    unfold sumT
    omega
theorem sumT_add (g g' : Nat → Nat) : ∀ k, sumT (fun i => g i + g' i) k = sumT g k + sumT g' k
  | 0 => rfl
  | k + 1 => by
    have := sumT_add g g' k
    unfold sumT
    omega
theorem sumT_0 {g : Nat → Nat} : ∀ k, (∀ i, i < k → g i = 0) → sumT g k = 0
  | 0, _ => rfl
  | k + 1, h => by
    have := sumT_0 (g := g) k (fun i hi => h i (by omega))
    have := h k (by omega)
    unfold sumT
    omega
theorem sumT_one (v x : Nat) : ∀ k, sumT (fun q => if v = 10 + q then x else 0) k ≤ if v < 10 + k then x else 0
  | 0 => Nat.zero_le _
  | k + 1 => by
    have := sumT_one v x k
    unfold sumT
    split at this <;> split <;> split <;> omega
/-- one place taken out -/
theorem sumT_out {g g' : Nat → Nat} {p : Nat} (h : ∀ i, i ≠ p → g' i = g i) (h0 : g' p = 0) : ∀ k, p < k → sumT g k = sumT g' k + g p
  | 0, hp => by omega
  | k + 1, hp => by
    unfold sumT
    by_cases e : p = k
    · subst e
      rw [sumT_cg (g := g) (g' := g') p (fun i hi => (h i (by omega)).symm), h0]
      omega
    · have := sumT_out h h0 k (by omega)
      rw [h k (by omega)]
      omega
theorem sumT_mem {g : Nat → Nat} {p : Nat} : ∀ k, p < k → g p ≤ sumT g k
  | 0, hp => by omega
  | k + 1, hp => by
    unfold sumT
    by_cases e : p = k
    · subst e; omega
    · have := sumT_mem (g := g) (p := p) k (by omega)
      omega
def per (Y : Yd) (p : Nat) : Nat := if Y.1 p = 1 then 1 else sm Y p
def sh (m a j : Nat) : Nat := m / a + if j < m % a then 1 else 0
def tnk (Y : Yd) (p s : Nat) : Nat → Nat
  | 0 => s
  | k + 1 => tn Y p (tnk Y p s k)
def ctK (Y : Yd) (p s m q : Nat) : Nat → Nat
  | 0 => 0
  | k + 1 => ctK Y p s m q k + if pl Y p (tnk Y p s k) = 10 + q then sh m (per Y p) k else 0
def onn (Y : Yd) (p m : Nat) : Nat := if Y.1 p = 1 then 0 else m % sm Y p
def thn (Y : Yd) (T : Nat → Nat) (ng : Bool) (p m : Nat) : Nat := if ng then (T p + sm Y p - onn Y p m) % sm Y p else (T p + onn Y p m) % sm Y p
def st0 (Y : Yd) (T : Nat → Nat) (ng : Bool) (p m : Nat) : Nat := if ng then thn Y T ng p m else T p
def Gp (Y : Yd) (T : Nat → Nat) (ng : Bool) (p m q : Nat) : Nat := ctK Y p (st0 Y T ng p m) m q (per Y p)
def cm (Y : Yd) (n : Nat) : Nat := rch Y n 0 ||| 1
def cs (Y : Yd) (n : Nat) (T : Nat → Nat) (ng : Bool) (N : Nat) : Nat → Nat → Nat
  | 0, _ => 0
  | f + 1, q => (if q = 0 then N else 0) + sumT (fun p => if (cm Y n).testBit p then Gp Y T ng p (cs Y n T ng N f p) q else 0) n
def cst (Y : Yd) (n : Nat) (T : Nat → Nat) (ng : Bool) (N q : Nat) : Nat := cs Y n T ng N (n + 1) q
theorem tnk_in {n : Nat} {Y : Yd} (h : YOK n Y) {p s : Nat} (hp : p < n) (hs : s < sm Y p) : ∀ k, tnk Y p s k < sm Y p
  | 0 => hs
  | k + 1 => tn_in h hp (tnk_in h hp hs k)
theorem thn_in {n : Nat} {Y : Yd} (h : YOK n Y) {T : Nat → Nat} {ng : Bool} {p m : Nat} (hp : p < n) : thn Y T ng p m < sm Y p := by
  have := (sm_in h hp).1
  unfold thn
  split <;> exact Nat.mod_lt _ (by omega)
theorem st0_in {n : Nat} {Y : Yd} (h : YOK n Y) {T : Nat → Nat} (hT : TOK n Y T) {ng : Bool} {p m : Nat} (hp : p < n) : st0 Y T ng p m < sm Y p := by
  unfold st0
  split
  · exact thn_in h hp
  · exact hT p hp
theorem per_in {n : Nat} {Y : Yd} (h : YOK n Y) {p : Nat} (hp : p < n) : 1 ≤ per Y p ∧ per Y p ≤ 6 := by
  have := sm_in h hp
  unfold per
  split <;> omega
theorem pl_eg {n : Nat} {Y : Yd} (h : YOK n Y) {p s q : Nat} (hp : p < n) (hs : s < sm Y p) (e : pl Y p s = 10 + q) : eg Y n p q := ⟨hp, wa Y p s, wa_in h hp hs, e⟩
theorem ctK_0 {n : Nat} {Y : Yd} (h : YOK n Y) {p s m q : Nat} (hp : p < n) (hs : s < sm Y p) (hne : ¬ eg Y n p q) : ∀ k, ctK Y p s m q k = 0
  | 0 => rfl
  | k + 1 => by
    unfold ctK
    rw [ctK_0 h hp hs hne k, if_neg (fun e => hne (pl_eg h hp (tnk_in h hp hs k) e))]
theorem Gp_0 {n : Nat} {Y : Yd} (h : YOK n Y) {T : Nat → Nat} (hT : TOK n Y T) {ng : Bool} {p m q : Nat} (hp : p < n) (hne : ¬ eg Y n p q) : Gp Y T ng p m q = 0 := ctK_0 h hp (st0_in h hT hp) hne _
theorem sh_sum (m a : Nat) : ∀ k, sumT (sh m a) k = k * (m / a) + min k (m % a)
  | 0 => by simp [sumT]
  | k + 1 => by
    have := sh_sum m a k
    unfold sumT
    rw [this, Nat.succ_mul]
    unfold sh
    split <;> omega
theorem sh_all {m a : Nat} (ha : 0 < a) : sumT (sh m a) a = m := by
  rw [sh_sum]
  have := Nat.mod_lt m ha
  have := Nat.div_add_mod m a
  rw [Nat.min_eq_right (by omega)]
  exact this
theorem ctK_sum {Y : Yd} {p s m n : Nat} : ∀ k, sumT (fun q => ctK Y p s m q k) n ≤ sumT (sh m (per Y p)) k
  | 0 => by rw [sumT_0 (g := fun q => ctK Y p s m q 0) n (fun _ _ => rfl)]; exact Nat.zero_le _
  | k + 1 => by
    have ih := ctK_sum (Y := Y) (p := p) (s := s) (m := m) (n := n) k
    have e : sumT (fun q => ctK Y p s m q (k + 1)) n = sumT (fun q => ctK Y p s m q k) n + sumT (fun q => if pl Y p (tnk Y p s k) = 10 + q then sh m (per Y p) k else 0) n := sumT_add _ _ n
    have o := sumT_one (pl Y p (tnk Y p s k)) (sh m (per Y p) k) n
    rw [e]
    show _ ≤ sumT (sh m (per Y p)) k + sh m (per Y p) k
    have : (if pl Y p (tnk Y p s k) < 10 + n then sh m (per Y p) k else 0) ≤ sh m (per Y p) k := by split <;> omega
    omega
theorem Gp_sum {n : Nat} {Y : Yd} (h : YOK n Y) {T : Nat → Nat} {ng : Bool} {p m : Nat} (hp : p < n) : sumT (fun q => Gp Y T ng p m q) n ≤ m := by
  have := ctK_sum (Y := Y) (p := p) (s := st0 Y T ng p m) (m := m) (n := n) (per Y p)
  rw [sh_all (per_in h hp).1] at this
  exact this
/-! a switch reaches more switches than any that it leads to -/
def mu (Y : Yd) (n p : Nat) : Nat := ct (rch Y n p) n
theorem mu_lt {n : Nat} {Y : Yd} (h : YOK n Y) (hs : strt Y n) {p q : Nat} (hq : rc Y n q) (e : eg Y n q p) : mu Y n p < mu Y n q := by
  have hqn : q < n := e.1
  have hpn : p < n := eg_lt h e
  obtain ⟨k, hk⟩ := hq
  have hp : rc Y n p := ⟨k + 1, pth_snoc k 0 q p hk e⟩
  unfold mu
  refine ct_lt (b := p) (fun b hb => ?_) ?_ ?_ n hpn
  · obtain ⟨j, hj⟩ := (rch_bit h hpn b).mp hb
    exact (rch_bit h hqn b).mpr ⟨j + 1, p, e, hj⟩
  · cases hb : (rch Y n p).testBit p with
    | false => rfl
    | true => exact absurd ((rch_bit h hpn p).mp hb) (hs p hpn hp)
  · exact (rch_bit h hqn p).mpr ⟨0, p, e, rfl⟩
theorem cm_bit {n : Nat} {Y : Yd} (h : YOK n Y) (hn : 1 ≤ n) (b : Nat) : (cm Y n).testBit b = true ↔ rc Y n b := rch_come h hn b
theorem rc_lt {n : Nat} {Y : Yd} (h : YOK n Y) (hn : 1 ≤ n) {b : Nat} (hb : rc Y n b) : b < n := by
  obtain ⟨k, hk⟩ := hb
  cases k with
  | zero => have : 0 = b := hk; omega
  | succ k =>
    obtain ⟨x, -, e⟩ := pth_unsnoc k 0 b hk
    exact eg_lt h e
theorem cs_fix {n : Nat} {Y : Yd} {T : Nat → Nat} {ng : Bool} {N : Nat} (h : YOK n Y) (hn : 1 ≤ n) (hs : strt Y n) (hT : TOK n Y T) : ∀ f q, rc Y n q → n - mu Y n q < f → cs Y n T ng N f q = cs Y n T ng N (f + 1) q
  | 0, q, _, hf => by omega
  | f + 1, q, hq, hf => by
    have e1 : cs Y n T ng N (f + 1) q = (if q = 0 then N else 0) + sumT (fun p => if (cm Y n).testBit p then Gp Y T ng p (cs Y n T ng N f p) q else 0) n := rfl
    have e2 : cs Y n T ng N (f + 1 + 1) q = (if q = 0 then N else 0) + sumT (fun p => if (cm Y n).testBit p then Gp Y T ng p (cs Y n T ng N (f + 1) p) q else 0) n := rfl
    rw [e1, e2]
    congr 1
    refine sumT_cg n (fun p hp => ?_)
    try dsimp only
    split
    · rename_i hb
      have hp' := (cm_bit h hn p).mp hb
      by_cases he : eg Y n p q
      · have hm := mu_lt h hs hp' he
        have hle : mu Y n p ≤ n := ct_le _ n
        rw [cs_fix h hn hs hT f p hp' (by omega)]
      · rw [Gp_0 h hT hp he, Gp_0 h hT hp he]
    · rfl
theorem cst_eq {n : Nat} {Y : Yd} {T : Nat → Nat} {ng : Bool} {N q : Nat} (h : YOK n Y) (hn : 1 ≤ n) (hs : strt Y n) (hT : TOK n Y T) (hq : rc Y n q) : cst Y n T ng N q = (if q = 0 then N else 0) + sumT (fun p => if (cm Y n).testBit p then Gp Y T ng p (cst Y n T ng N p) q else 0) n := by
  unfold cst
  exact cs_fix h hn hs hT (n + 1) q hq (by omega)
/-! what has been handed on while the switches of W wait -/
def acc (Y : Yd) (n : Nat) (T : Nat → Nat) (ng : Bool) (N W q : Nat) : Nat := (if q = 0 then N else 0) + sumT (fun p => if (cm Y n).testBit p && !W.testBit p then Gp Y T ng p (cst Y n T ng N p) q else 0) n
def mass (Y : Yd) (n : Nat) (T : Nat → Nat) (ng : Bool) (N W : Nat) : Nat := sumT (fun q => if W.testBit q then acc Y n T ng N W q else 0) n
def less (W p : Nat) : Nat := W - 2 ^ p
theorem less_bit {W p : Nat} (hW : W < 1024) (hp : W.testBit p = true) (q : Nat) : (less W p).testBit q = (W.testBit q && decide (q ≠ p)) := by
  have hp10 : p < 10 := by
    rcases Nat.lt_or_ge p 10 with g | g
    · exact g
    · have : W < 2 ^ p := Nat.lt_of_lt_of_le hW (show 2 ^ 10 ≤ 2 ^ p from Nat.pow_le_pow_right (by decide) g)
      rw [Nat.testBit_lt_two_pow this] at hp
      cases hp
  have key : ∀ p, p < 10 → ∀ W, W < 1024 → W.testBit p = true → W - 2 ^ p = W ^^^ 2 ^ p := by decide +kernel
  unfold less
  rw [key p hp10 W hW hp, Nat.testBit_xor, Nat.testBit_two_pow]
  by_cases e : q = p
  · subst e
    simp [hp]
  · simp [e, Ne.symm e]
theorem less_lt {W p : Nat} (hW : W < 1024) : less W p < 1024 := Nat.lt_of_le_of_lt (Nat.sub_le _ _) hW
theorem acc_0 {n : Nat} {Y : Yd} {T : Nat → Nat} {ng : Bool} {N q : Nat} : acc Y n T ng N (cm Y n) q = if q = 0 then N else 0 := by
  unfold acc
  rw [sumT_0 n (fun i _ => by cases (cm Y n).testBit i <;> simp)]
  omega
theorem mass_0 {n : Nat} {Y : Yd} {T : Nat → Nat} {ng : Bool} {N : Nat} : mass Y n T ng N (cm Y n) ≤ N := by
  unfold mass
  have : sumT (fun q => if (cm Y n).testBit q then acc Y n T ng N (cm Y n) q else 0) n ≤ sumT (fun q => if 10 = 10 + q then N else 0) n := by
    refine sumT_le n (fun i _ => ?_)
    try dsimp only
    rw [acc_0]
    by_cases e : i = 0
    · subst e; split <;> simp
    · simp [e]
  have := sumT_one 10 N n
  split at this <;> omega
section FLOW
variable {n : Nat} {Y : Yd} {T : Nat → Nat} {ng : Bool} {N W p : Nat}
theorem acc_is (h : YOK n Y) (hn : 1 ≤ n) (hs : strt Y n) (hT : TOK n Y T) (hp : rc Y n p) (hr : ∀ q, q < n → W.testBit q = true → ¬ eg Y n q p) : acc Y n T ng N W p = cst Y n T ng N p := by
  rw [cst_eq h hn hs hT hp]
  unfold acc
  congr 1
  refine sumT_cg n (fun q hq => ?_)
  try dsimp only
  cases hw : W.testBit q with
  | false => simp
  | true =>
    rw [Gp_0 h hT hq (hr q hq hw)]
    simp
theorem acc_step (hW : W < 1024) (hp : W.testBit p = true) (hpn : p < n) (hpc : (cm Y n).testBit p = true) (q : Nat) : acc Y n T ng N (less W p) q = acc Y n T ng N W q + Gp Y T ng p (cst Y n T ng N p) q := by
  unfold acc
  have := sumT_out (g := fun i => if (cm Y n).testBit i && !(less W p).testBit i then Gp Y T ng i (cst Y n T ng N i) q else 0) (g' := fun i => if (cm Y n).testBit i && !W.testBit i then Gp Y T ng i (cst Y n T ng N i) q else 0) (p := p) (fun i hi => by
    try dsimp only
    rw [less_bit hW hp i]
    simp [hi]) (by simp [hp]) n hpn
  rw [this]
  try dsimp only
  rw [less_bit hW hp p]
  simp [hpc]
  omega
theorem mass_step (h : YOK n Y) (hW : W < 1024) (hp : W.testBit p = true) (hpn : p < n) (hpc : (cm Y n).testBit p = true) (he : acc Y n T ng N W p = cst Y n T ng N p) : mass Y n T ng N (less W p) ≤ mass Y n T ng N W := by
  unfold mass
  have o := sumT_out (g := fun q => if W.testBit q then acc Y n T ng N W q else 0) (g' := fun q => if W.testBit q && decide (q ≠ p) then acc Y n T ng N W q else 0) (p := p) (fun i hi => by simp [hi]) (by simp) n hpn
  have l : sumT (fun q => if (less W p).testBit q then acc Y n T ng N (less W p) q else 0) n ≤ sumT (fun q => (if W.testBit q && decide (q ≠ p) then acc Y n T ng N W q else 0) + Gp Y T ng p (cst Y n T ng N p) q) n := by
    refine sumT_le n (fun i _ => ?_)
    try dsimp only
    rw [less_bit hW hp i, acc_step hW hp hpn hpc i]
    split <;> omega
  rw [sumT_add] at l
  have g : sumT (Gp Y T ng p (cst Y n T ng N p)) n ≤ cst Y n T ng N p := Gp_sum h hpn
  rw [o]
  try dsimp only
  rw [if_pos hp, he]
  omega
theorem mass_mem (hp : W.testBit p = true) (hpn : p < n) : acc Y n T ng N W p ≤ mass Y n T ng N W := by
  have := sumT_mem (g := fun q => if W.testBit q then acc Y n T ng N W q else 0) (p := p) n hpn
  try dsimp only at this
  rw [if_pos hp] at this
  exact this
/-- one of those that wait is ready -/
theorem ready_one (h : YOK n Y) (hn : 1 ≤ n) (hs : strt Y n) (hW : ∀ q, W.testBit q = true → rc Y n q) (hne : ∃ q, W.testBit q = true) : ∃ p, W.testBit p = true ∧ ∀ q, q < n → W.testBit q = true → ¬ eg Y n q p := by
  obtain ⟨q0, hq0⟩ := hne
  obtain ⟨k, ⟨p, hp, hk⟩, hmin⟩ := pk_least (fun k => ∃ p, W.testBit p = true ∧ n - mu Y n p = k) ⟨_, q0, hq0, rfl⟩
  refine ⟨p, hp, fun q hqn hq e => ?_⟩
  have hlt := mu_lt h hs (hW q hq) e
  have hle : mu Y n q ≤ n := ct_le _ n
  exact hmin (n - mu Y n q) (by omega) ⟨q, hq, rfl⟩
end FLOW
