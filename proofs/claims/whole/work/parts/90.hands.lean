/-! throws by hand, as late as can be -/
def Wt (Y : Yd) (od : Nat → Nat) : Nat → Nat
  | 0 => 1
  | j + 1 => Wt Y od j * sm Y (od j)
def cdo (Y : Yd) (od u : Nat → Nat) : Nat → Nat
  | 0 => 0
  | k + 1 => cdo Y od u k + u k * Wt Y od k
def dgo (Y : Yd) (od : Nat → Nat) (x j : Nat) : Nat := x / Wt Y od j % sm Y (od j)
def TKo (Y : Yd) (ol : Nat) (od u : Nat → Nat) : Prop := ∀ j, j < ol → u j < sm Y (od j)
def dst (Y : Yd) (n ol : Nat) (od : Nat → Nat) (g j s r : Nat) : Prop := (pl Y (od j) s = g ∧ r = ol) ∨ (r < ol ∧ pl Y (od j) s = 10 + od r ∧ lds Y n (od r) g)
def opt (Y : Yd) (od : Nat → Nat) (j : Nat) (u0 : Nat → Nat) (s δ : Nat) : Prop := (s = u0 j ∧ δ = 0) ∨ (∃ w, w < Y.2.1 (od j) ∧ s = lsd Y (od j) w ∧ δ = 1)
def mvz (Y : Yd) (n ol : Nat) (od : Nat → Nat) (g j : Nat) (u0 : Nat → Nat) (c0 r : Nat) (u : Nat → Nat) (c : Nat) : Prop := ∃ s δ, opt Y od j u0 s δ ∧ dst Y n ol od g j s r ∧ c = c0 + δ ∧ ∀ j', j' < ol → u j' = fu u0 j (tn Y (od j) s) j'
def PJ (Y : Yd) (n ol : Nat) (od : Nat → Nat) (g : Nat) (S : (Nat → Nat) → Nat → Prop) : Nat → Nat → (Nat → Nat) → Nat → Prop
  | 0, r, u, c => r = 0 ∧ S u c
  | j + 1, r, u, c => r ≠ j ∧ (PJ Y n ol od g S j r u c ∨ ∃ u0 c0, PJ Y n ol od g S j j u0 c0 ∧ mvz Y n ol od g j u0 c0 r u c)
def SK (Y : Yd) (n ol : Nat) (od T wt : Nat → Nat) : Nat → (Nat → Nat) → Nat → Prop
  | 0, u, c => (∀ j, j < ol → u j = T (od j)) ∧ c = 0
  | k + 1, u, c => PJ Y n ol od (wt k) (SK Y n ol od T wt k) ol ol u c
theorem un_sum (T U : Nat → Nat) : ∀ n, un T U n = sumT (fun p => if U p = T p then 0 else 1) n
  | 0 => rfl
  | n + 1 => by
    unfold un sumT
    rw [un_sum T U n]
theorem sumT_inj {n : Nat} {od : Nat → Nat} : ∀ (k : Nat) (f : Nat → Nat), (∀ j, j < k → od j < n) → (∀ i j, i < k → j < k → od i = od j → i = j) → sumT (fun j => f (od j)) k ≤ sumT f n
  | 0, f, _, _ => Nat.zero_le _
  | k + 1, f, h1, h2 => by
    have ih := sumT_inj (n := n) (od := od) k (fun p => if p = od k then 0 else f p) (fun j hj => h1 j (by omega)) (fun i j hi hj => h2 i j (by omega) (by omega))
    have ih2 : sumT (fun j => if od j = od k then 0 else f (od j)) k ≤ sumT (fun p => if p = od k then 0 else f p) n := ih
    have e1 : sumT (fun j => if od j = od k then 0 else f (od j)) k = sumT (fun j => f (od j)) k := by
      refine sumT_cg k (fun j hj => ?_)
      have : od j ≠ od k := fun q => by have := h2 j k (by omega) (by omega) q; omega
      simp [this]
    have e2 := sumT_out (g := f) (g' := fun p => if p = od k then 0 else f p) (p := od k) (fun i hi => by simp [hi]) (by simp) n (h1 k (by omega))
    show sumT (fun j => f (od j)) k + f (od k) ≤ sumT f n
    omega
theorem un_od {n ol : Nat} {od : Nat → Nat} {a b : Nat → Nat} (h1 : ∀ j, j < ol → od j < n) (h2 : ∀ i j, i < ol → j < ol → od i = od j → i = j) : un (fun j => a (od j)) (fun j => b (od j)) ol ≤ un a b n := by
  rw [un_sum, un_sum]
  exact sumT_inj (f := fun p => if b p = a p then 0 else 1) ol h1 h2
theorem un_tri {a b c : Nat → Nat} : ∀ n, un a c n ≤ un a b n + un b c n
  | 0 => Nat.le_refl _
  | n + 1 => by
    have := un_tri (a := a) (b := b) (c := c) n
    unfold un
    by_cases h1 : c n = a n <;> by_cases h2 : b n = a n <;> by_cases h3 : c n = b n
    all_goals simp only [h1, h2, h3, if_true, if_false]
    all_goals first
      | omega
      | (exfalso; simp_all; done)
      | (split <;> omega)
      | (split <;> split <;> omega)
theorem un_fu1 {V H : Nat → Nat} {i s : Nat} : ∀ n, un V (fu H i s) n ≤ un V H n + 1
  | 0 => by simp [un]
  | n + 1 => by
    have := un_fu1 (V := V) (H := H) (i := i) (s := s) n
    unfold un
    by_cases e : n = i
    · subst e
      have : un V (fu H n s) n = un V H n := un_cg n (fun p hp => ⟨rfl, by simp [fu, show p ≠ n by omega]⟩)
      rw [this]
      split <;> split <;> omega
    · have : fu H i s n = H n := by simp [fu, e]
      rw [this]
      split <;> omega
section HH
variable {Y : Yd} {n ol : Nat} {od T wt : Nat → Nat} {g : Nat} {S : (Nat → Nat) → Nat → Prop}
theorem opt_in (h : YOK n Y) (hod : ∀ j, j < ol → od j < n) {j s δ : Nat} {u0 : Nat → Nat} (hj : j < ol) (hu : TKo Y ol od u0) (ho : opt Y od j u0 s δ) : s < sm Y (od j) := by
  rcases ho with ⟨e, -⟩ | ⟨w, hw, e, -⟩
  · rw [e]; exact hu j hj
  · rw [e]; exact (lsd_in h (hod j hj) hw).1
theorem dst_gt (h : YOK n Y) (hO : OD Y n ol od) (hst : strt Y n) (hod : ∀ j, j < ol → od j < n) {j s r : Nat} (hj : j < ol) (hs : s < sm Y (od j)) (hd : dst Y n ol od g j s r) : j < r ∧ r ≤ ol := by
  rcases hd with ⟨-, e⟩ | ⟨hr, e, -⟩
  · omega
  · exact ⟨hO.2.2.2.2 hst j r hj hr (pl_eg h (hod j hj) hs e), by omega⟩
theorem PJ_ok (h : YOK n Y) (hod : ∀ j, j < ol → od j < n) (hS : ∀ u c, S u c → TKo Y ol od u) : ∀ j, j ≤ ol → ∀ r u c, PJ Y n ol od g S j r u c → TKo Y ol od u
  | 0, _, r, u, c, hp => hS u c hp.2
  | j + 1, hj, r, u, c, hp => by
    obtain ⟨-, hp | ⟨u0, c0, h0, s, δ, ho, hd, -, hu⟩⟩ := hp
    · exact PJ_ok h hod hS j (by omega) r u c hp
    · have hu0 := PJ_ok h hod hS j (by omega) j u0 c0 h0
      have hs := opt_in h hod (by omega) hu0 ho
      intro j' hj'
      rw [hu j' hj']
      unfold fu
      split
      · rename_i e; subst e; exact tn_in h (hod _ hj') hs
      · exact hu0 j' hj'
theorem SK_ok (h : YOK n Y) (hod : ∀ j, j < ol → od j < n) (hT : TOK n Y T) : ∀ k u c, SK Y n ol od T wt k u c → TKo Y ol od u
  | 0, u, c, hp => fun j hj => by rw [hp.1 j hj]; exact hT _ (hod j hj)
  | k + 1, u, c, hp => PJ_ok h hod (SK_ok h hod hT k) ol (Nat.le_refl ol) ol u c hp
theorem PJ_cg (hS : ∀ u u' c, S u c → (∀ j, j < ol → u' j = u j) → S u' c) : ∀ j r u u' c, PJ Y n ol od g S j r u c → (∀ j, j < ol → u' j = u j) → PJ Y n ol od g S j r u' c
  | 0, r, u, u', c, hp, he => ⟨hp.1, hS u u' c hp.2 he⟩
  | j + 1, r, u, u', c, hp, he => by
    obtain ⟨h1, hp | ⟨u0, c0, h0, s, δ, ho, hd, hc, hu⟩⟩ := hp
    · exact ⟨h1, Or.inl (PJ_cg hS j r u u' c hp he)⟩
    · exact ⟨h1, Or.inr ⟨u0, c0, h0, s, δ, ho, hd, hc, fun j' hj' => (he j' hj').trans (hu j' hj')⟩⟩
theorem SK_cg : ∀ k u u' c, SK Y n ol od T wt k u c → (∀ j, j < ol → u' j = u j) → SK Y n ol od T wt k u' c
  | 0, u, u', c, hp, he => ⟨fun j hj => (he j hj).trans (hp.1 j hj), hp.2⟩
  | k + 1, u, u', c, hp, he => PJ_cg (SK_cg k) ol ol u u' c hp he
theorem PJ_keep {r : Nat} {u : Nat → Nat} {c : Nat} : ∀ e j, j + e ≤ r → PJ Y n ol od g S j r u c → PJ Y n ol od g S (j + e) r u c
  | 0, j, _, hp => hp
  | e + 1, j, he, hp => by
    have := PJ_keep e j (by omega) hp
    exact ⟨show r ≠ j + e by omega, Or.inl this⟩
/-- the reference's truck, thrown ahead; the class's, thrown on its way -/
def rel (Y : Yd) (ol : Nat) (od u U : Nat → Nat) : Prop := ∀ j, j < ol → U (od j) = u j ∨ ∃ w, w < Y.2.1 (od j) ∧ U (od j) = lsd Y (od j) w
theorem lazy_walk (h : YOK n Y) (hn1 : 1 ≤ n) (hst : strt Y n) (hO : OD Y n ol od) (hg : g < 10) : ∀ (f r m : Nat) (u U : Nat → Nat) (c : Nat), r < ol → PJ Y n ol od g S r r u c → TOK n Y U → rel Y ol od u U → (ro Y none f (10 + od r, U, m)).1 = g → ∃ u' c', PJ Y n ol od g S ol ol u' c' ∧ rel Y ol od u' (ro Y none f (10 + od r, U, m)).2.1 ∧ c' + un u' (fun j => (ro Y none f (10 + od r, U, m)).2.1 (od j)) ol ≤ c + un u (fun j => U (od j)) ol
  | 0, r, m, u, U, c, hr, _, _, _, he => by
    have : 10 + od r = g := he
    omega
  | f + 1, r, m, u, U, c, hr, hp, hU, hrel, he => by
    obtain ⟨o1, o2, o3, o4, o5⟩ := id hO
    have hi := rc_lt h hn1 (o2 r hr)
    have e : ro Y none (f + 1) (10 + od r, U, m) = ro Y none f (pl Y (od r) (U (od r)), fu U (od r) (tn Y (od r) (U (od r))), m + 1) := by
      show (if 10 + od r < 10 then _ else _) = _
      rw [if_neg (by omega)]
      simp [mv]
    rw [e] at he ⊢
    have hs := hU (od r) hi
    generalize hsv : U (od r) = s at he hs ⊢
    have hU' : TOK n Y (fu U (od r) (tn Y (od r) s)) := hU.fu (fun _ => tn_in h hi hs)
    have odinj : ∀ j, j < ol → j ≠ r → od j ≠ od r := fun j hj hne q => hne (o4 j r hj hr q)
    have hrel' : rel Y ol od (fu u r (tn Y (od r) s)) (fu U (od r) (tn Y (od r) s)) := by
      intro j hj
      by_cases q : j = r
      · subst q; left; simp [fu]
      · have := odinj j hj q
        rcases hrel j hj with a | ⟨w, a, b⟩
        · left; simp [fu, q, this, a]
        · right; exact ⟨w, a, by simp [fu, this, b]⟩
    -- the cost of this move
    have hopt : ∃ δ, opt Y od r u s δ ∧ δ + un (fu u r (tn Y (od r) s)) (fun j => fu U (od r) (tn Y (od r) s) (od j)) ol ≤ un u (fun j => U (od j)) ol := by
      have base : ∀ k, k ≤ ol → un (fu u r (tn Y (od r) s)) (fun j => fu U (od r) (tn Y (od r) s) (od j)) k + (if r < k ∧ s ≠ u r then 1 else 0) = un u (fun j => U (od j)) k := by
        intro k
        induction k with
        | zero => intro _; simp [un]
        | succ k ih =>
          intro hk
          have ih := ih (by omega)
          unfold un
          by_cases q : k = r
          · subst q
            rw [if_neg (fun z => by omega), Nat.add_zero] at ih
            have eA : fu u k (tn Y (od k) s) k = tn Y (od k) s := by simp [fu]
            have eB : fu U (od k) (tn Y (od k) s) (od k) = tn Y (od k) s := by simp [fu]
            rw [if_pos (eB.trans eA.symm), ih, hsv]
            by_cases z : s = u k
            · rw [if_neg (fun q => q.2 z), if_pos z]
            · rw [if_pos ⟨by omega, z⟩, if_neg z]
          · have ne := odinj k (by omega) q
            have e1 : fu u r (tn Y (od r) s) k = u k := by simp [fu, q]
            have e2 : fu U (od r) (tn Y (od r) s) (od k) = U (od k) := by simp [fu, ne]
            rw [e1, e2, ← ih]
            have : (r < k + 1 ∧ s ≠ u r) ↔ (r < k ∧ s ≠ u r) := ⟨fun z => ⟨by omega, z.2⟩, fun z => ⟨by omega, z.2⟩⟩
            simp only [this]
            omega
      have hb := base ol (Nat.le_refl ol)
      by_cases z : s = u r
      · refine ⟨0, Or.inl ⟨z, rfl⟩, ?_⟩
        rw [if_neg (fun q => q.2 z)] at hb
        omega
      · rw [if_pos ⟨hr, z⟩] at hb
        rcases hrel r hr with a | ⟨w, a, b⟩
        · rw [hsv] at a; exact absurd a z
        · rw [hsv] at b
          exact ⟨1, Or.inr ⟨w, a, b, rfl⟩, by omega⟩
    obtain ⟨δ, ho, hcost⟩ := hopt
    by_cases hl : pl Y (od r) s < 10
    · have e2 : ro Y none f (pl Y (od r) s, fu U (od r) (tn Y (od r) s), m + 1) = (pl Y (od r) s, fu U (od r) (tn Y (od r) s), m + 1) := by
        cases f with
        | zero => rfl
        | succ f => simp [ro, hl]
      rw [e2] at he ⊢
      have he : pl Y (od r) s = g := he
      refine ⟨fu u r (tn Y (od r) s), c + δ, ?_, hrel', by show c + δ + un (fu u r (tn Y (od r) s)) (fun j => fu U (od r) (tn Y (od r) s) (od j)) ol ≤ _; omega⟩
      have := PJ_keep (Y := Y) (n := n) (ol := ol) (od := od) (g := g) (S := S) (r := ol) (u := fu u r (tn Y (od r) s)) (c := c + δ) (ol - (r + 1)) (r + 1) (by omega) ⟨by omega, Or.inr ⟨u, c, hp, s, δ, ho, Or.inl ⟨he, rfl⟩, rfl, fun _ _ => rfl⟩⟩
      rw [show r + 1 + (ol - (r + 1)) = ol by omega] at this
      exact this
    · obtain ⟨q, hq⟩ : ∃ q, pl Y (od r) s = 10 + q := ⟨pl Y (od r) s - 10, by omega⟩
      have heg := pl_eg h hi hs hq
      obtain ⟨kk, hkk⟩ := o2 r hr
      obtain ⟨r2, hr2, hq2⟩ := o3 q ⟨kk + 1, pth_snoc kk 0 (od r) q hkk heg⟩
      subst hq2
      have hlt := o5 hst r r2 hr hr2 heg
      rw [hq] at he ⊢
      have hlds : lds Y n (od r2) g := by
        have := ro_lds h f (od r2) (m + 1) _ (eg_lt h heg) hU' (by rw [he]; exact hg)
        rw [he] at this
        exact this
      have hnext : PJ Y n ol od g S r2 r2 (fu u r (tn Y (od r) s)) (c + δ) := by
        have := PJ_keep (Y := Y) (n := n) (ol := ol) (od := od) (g := g) (S := S) (r := r2) (u := fu u r (tn Y (od r) s)) (c := c + δ) (r2 - (r + 1)) (r + 1) (by omega) ⟨by omega, Or.inr ⟨u, c, hp, s, δ, ho, Or.inr ⟨hr2, hq, hlds⟩, rfl, fun _ _ => rfl⟩⟩
        rw [show r + 1 + (r2 - (r + 1)) = r2 by omega] at this
        exact this
      obtain ⟨u', c', w1, w2, w3⟩ := lazy_walk h hn1 hst hO hg f r2 (m + 1) _ _ _ hr2 hnext hU' hrel' he
      exact ⟨u', c', w1, w2, by omega⟩
theorem lazy_of (h : YOK n Y) (hn1 : 1 ≤ n) (hst : strt Y n) (hO : OD Y n ol od) (h0 : 0 < ol) (hod0 : od 0 = 0) (hT : TOK n Y T) {wn : Nat} (hw : ∀ i, i < wn → wt i < 10) : ∀ k, k ≤ wn → ∀ U c, Pl Y n T wt k U c → ∃ u c', SK Y n ol od T wt k u c' ∧ rel Y ol od u U ∧ c' + un u (fun j => U (od j)) ol ≤ c
  | 0, _, U, c, hp => by
    have hodn : ∀ j, j < ol → od j < n := fun j hj => rc_lt h hn1 (hO.2.1 j hj)
    refine ⟨fun j => T (od j), 0, ⟨fun _ _ => rfl, rfl⟩, fun j hj => Or.inl (hp.1 _ (hodn j hj)), ?_⟩
    rw [un_self ol (fun j hj => hp.1 _ (hodn j hj))]
    omega
  | k + 1, hk, U, c, hp => by
    have hodn : ∀ j, j < ol → od j < n := fun j hj => rc_lt h hn1 (hO.2.1 j hj)
    obtain ⟨U0, ⟨V, c0, hV, hthr, hc⟩, hgt, hUe⟩ := hp
    obtain ⟨v, c1, s1, s2, s3⟩ := lazy_of h hn1 hst hO h0 hod0 hT hw k (by omega) V c0 hV
    have hVok := Pl_ok h hn1 hT k V c0 hV
    have hU0 : TOK n Y U0 := QT_ok h (Pl_ok h hn1 hT k) U0 c ⟨V, c0, hV, hthr, hc⟩
    have hrel0 : rel Y ol od v U0 := by
      intro j hj
      rcases hthr (od j) (hodn j hj) with e | ⟨-, e⟩
      · rw [e]; exact s2 j hj
      · exact Or.inr e
    have hfin : (ro Y none 500 (10, U0, 0)).1 < 10 ∧ (ro Y none 500 (10, U0, 0)).1 = wt k ∧ (gt Y none U0).2.1 = (ro Y none 500 (10, U0, 0)).2.1 := by
      unfold gt at hgt ⊢
      by_cases g : (ro Y none 500 (10, U0, 0)).1 < 10
      · rw [if_pos g] at hgt ⊢
        exact ⟨g, by injection hgt, rfl⟩
      · rw [if_neg g] at hgt
        cases hgt
    have hwalk := lazy_walk (g := wt k) (S := SK Y n ol od T wt k) h hn1 hst hO (hw k (by omega)) 500 0 0 v U0 c1 h0 ⟨rfl, s1⟩ hU0 hrel0
    rw [hod0] at hwalk
    obtain ⟨u', c', w1, w2, w3⟩ := hwalk hfin.2.1
    refine ⟨u', c', w1, fun j hj => ?_, ?_⟩
    · rw [hUe _ (hodn j hj), hfin.2.2]
      exact w2 j hj
    · have e1 : un u' (fun j => U (od j)) ol = un u' (fun j => (ro Y none 500 (10, U0, 0)).2.1 (od j)) ol := un_cg ol (fun j hj => ⟨rfl, by rw [hUe _ (hodn j hj), hfin.2.2]⟩)
      rw [e1]
      have e2 := un_tri (a := v) (b := fun j => V (od j)) (c := fun j => U0 (od j)) ol
      have e3 := un_od (a := V) (b := U0) hodn hO.2.2.2.1
      have w3 : c' + un u' (fun j => (ro Y none 500 (10, U0, 0)).2.1 (od j)) ol ≤ c1 + un v (fun j => U0 (od j)) ol := w3
      omega
end HH
