/-! ===== THE SMALL MACHINE AT WORK: rules ===== -/
def mj_x (cd : List (Option mjE)) : Nat → mjC → Option (Option Prop × mjC)
  | 0, c => some (none, c)
  | n + 1, c => match mj_at c.1 cd with
    | some e => match mj_step e c with
      | some (none, c') => mj_x cd n c'
      | some (some p, c') => match mj_x cd n c' with
        | some (none, c2) => some (some p, c2)
        | some (some q, c2) => some (some (p ∧ q), c2)
        | none => none
      | none => none
    | none => none
def mj_Rd (K : mjK) (cd : List (Option mjE)) (rt : Nat) (c : mjC) (v : Option Value) (h : mjH) : Prop := ∃ n, mj_go K cd rt n c v h
section RULES
variable {K : mjK} {cd : List (Option mjE)} {rt : Nat} {v : Option Value} {h : mjH}
theorem mj_one {c c' : mjC} {e : mjE} {o : Option Prop} (he : mj_at c.1 cd = some e) (hs : mj_step e c = some (o, c')) (ho : mj_ok o) (k : mj_Rd K cd rt c' v h) : mj_Rd K cd rt c v h := by
  obtain ⟨n, hn⟩ := k
  exact ⟨n + 1, e, he, Or.inl ⟨o, c', hs, ho, hn⟩⟩
theorem mj_run : ∀ (n : Nat) {c c' : mjC} {o : Option Prop}, mj_x cd n c = some (o, c') → mj_ok o → mj_Rd K cd rt c' v h → mj_Rd K cd rt c v h
  | 0, c, c', o, hx, ho, k => by
    simp only [mj_x, Option.some.injEq, Prod.mk.injEq] at hx
    rw [hx.2]
    exact k
  | n + 1, c, c', o, hx, ho, k => by
    simp only [mj_x] at hx
    split at hx <;> try (cases hx; done)
    next e he =>
      split at hx <;> try (cases hx; done)
      next c1 hs => exact mj_one he hs trivial (mj_run n hx ho k)
      next p c1 hs =>
        split at hx <;> try (cases hx; done)
        next c2 h2 =>
          cases hx
          exact mj_one he hs ho (mj_run n h2 trivial k)
        next q c2 h2 =>
          cases hx
          have ho' : p ∧ q := ho
          exact mj_one he hs ho'.1 (mj_run n h2 ho'.2 k)
theorem mj_bra {c c1 c2 : mjC} {e : mjE} {P : Prop} (he : mj_at c.1 cd = some e) (hb : mj_br e c = some (P, c1, c2)) (h1 : P → mj_Rd K cd rt c1 v h) (h2 : ¬ P → mj_Rd K cd rt c2 v h) : mj_Rd K cd rt c v h := by
  by_cases hP : P
  · obtain ⟨n, hn⟩ := h1 hP
    exact ⟨n + 1, e, he, Or.inr (Or.inl ⟨P, c1, c2, hb, fun _ => hn, fun q => absurd hP q⟩)⟩
  · obtain ⟨n, hn⟩ := h2 hP
    exact ⟨n + 1, e, he, Or.inr (Or.inl ⟨P, c1, c2, hb, fun q => absurd q hP, fun _ => hn⟩)⟩
/-- a branch whose side is known -/
theorem mj_brt {c c1 c2 : mjC} {e : mjE} {P : Prop} (he : mj_at c.1 cd = some e) (hb : mj_br e c = some (P, c1, c2)) (hP : P) (h1 : mj_Rd K cd rt c1 v h) : mj_Rd K cd rt c v h := mj_bra he hb (fun _ => h1) (fun q => absurd hP q)
theorem mj_brf {c c1 c2 : mjC} {e : mjE} {P : Prop} (he : mj_at c.1 cd = some e) (hb : mj_br e c = some (P, c1, c2)) (hP : ¬ P) (h2 : mj_Rd K cd rt c2 v h) : mj_Rd K cd rt c v h := mj_bra he hb (fun q => absurd q hP) (fun _ => h2)
theorem mj_cal {c : mjC} {n m : Nat} {ins : Instr} {d : List Nat} {as st : List Value} {u : Option Value} {h1 : mjH} (he : mj_at c.1 cd = some (ins, n, d)) (hi : mj_inv (ins, n, d) c = some (m, as, st)) (hk : K m as c.2.2.2 u h1) (k : mj_Rd K cd rt (n, c.2.1, mj_psh u st, h1) v h) : mj_Rd K cd rt c v h := by
  obtain ⟨q, hq⟩ := k
  exact ⟨q + 1, (ins, n, d), he, Or.inr (Or.inr (Or.inl ⟨m, as, st, u, h1, hi, hk, hq⟩))⟩
theorem mj_end {c : mjC} {e : mjE} {o : Option Prop} (he : mj_at c.1 cd = some e) (hr : mj_ret rt e c = some (o, v, h)) (ho : mj_ok o) : mj_Rd K cd rt c v h := ⟨1, e, he, Or.inr (Or.inr (Or.inr ⟨o, hr, ho⟩))⟩
end RULES
theorem mj_ci {P : List mjT} {d k own mL rt : Nat} {cd : List (Option mjE)} {as : List Value} {h h' : mjH} {v : Option Value} (hP : P[k]? = some (own, mL, rt, cd)) (hl : (mj_ent as).length ≤ mL) (hR : mj_Rd (mj_call P d) cd rt (0, mj_pad mL (mj_ent as), [], h) v h') : mj_call P (d + 1) k as h v h' := by
  obtain ⟨n, hn⟩ := hR
  exact ⟨_, hP, hl, n, hn⟩
def FM (L : Nat) (d : mjM) : mjM := (0, L) :: (21, 15) :: (13, 2) :: (0, 50) :: (16, 3) :: (0, 10) :: (0, 60) :: (16, 3) :: (0, 10) :: (0, 60) :: (15, 2) :: (0, 10) :: (10, 8) :: (2, 7) :: (0, 10) :: (0, 10) :: (0, 10) :: (0, 10) :: (0, 10) :: (0, 10) :: (0, 10) :: (0, 10) :: (0, 10) :: (19, 5) :: (1, 0) :: (0, 10) :: (0, 10) :: (17, 5) :: (2, 11) :: (0, 40) :: (0, 40) :: (0, 40) :: (0, 40) :: (0, 40) :: (0, 40) :: (0, 40) :: (0, 40) :: (0, 40) :: (0, 40) :: (0, 40) :: (0, 10) :: (0, 10) :: (0, 8) :: (0, 10) :: (0, 10) :: (22, 34) :: (0, 50) :: (0, 10) :: (0, 10) :: (0, 30) :: (0, 10) :: (0, 10) :: (0, 30) :: (0, 10) :: (0, 60) :: (0, 10) :: (0, 10) :: (0, 10) :: (0, 8) :: (0, 10) :: (0, 46656) :: (0, 46656) :: (0, 440) :: (0, 10) :: (0, 60) :: d
def mj_n1 : Nat → List (Option (Option Nat)) → Option (Option Nat)
  | _, [] => none
  | 0, x :: _ => x
  | i + 1, _ :: xs => mj_n1 i xs
def mj_n2 (k : Nat) : Nat → List (List (Option (Option Nat))) → Option (Option Nat)
  | _, [] => none
  | 0, x :: _ => mj_n1 k x
  | i + 1, _ :: xs => mj_n2 k i xs
def FR (y y1 n1 w1 c y2 : Option Nat) (d : mjR) : mjR := fun a k => match mj_n2 k a [[], [some (some 2), some (some 4), some (some 7), some (some 10), some (some 12), some (some 23), some (some 27), some (some 42), some (some 43), some (some 44), some y], [some (some 3)], [], [some (some 5), some (some 6)], [], [], [some (some 8), some (some 9)], [], [], [some (some 11)], [], [some (some 13), some (some 21), some (some 22), none, some y1, some n1, some w1], [some (some 14), some (some 15), some (some 16), some (some 17), some (some 18), some (some 19), some (some 20)], [], [], [], [], [], [], [], [], [], [some c, some (some 25), some (some 26), some y2], [], [], [], [some (some 10), some (some 28), some (some 40), some (some 41)], [some (some 29), some (some 30), some (some 31), some (some 32), some (some 33), some (some 34), some (some 35), some (some 36), some (some 37), some (some 38), some (some 39)], [], [], [], [], [], [], [], [], [], [], [], [], [], [], [], [], [some (some 46), none, none, none, none, none, some (some 47), some (some 48), some (some 49), none, none, some (some 50), some (some 51), some (some 52), some (some 53), none, some (some 54), some (some 55), some (some 56), none, none, some (some 57), none, some (some 58), none, some (some 59), some (some 60), some (some 61), some (some 62), none, none, some (some 63), some (some 64)], [], [], [], [], [], [], [], [], [], [], [], [], [], [], [], [], [], [], []] with
  | some r => r
  | none => d a k
abbrev HP (L : Nat) (d : mjM) (I : mjI) (y y1 n1 w1 c y2 : Option Nat) (R : mjR) (J : mjJ) : mjH := (FM L d, I, FR y y1 n1 w1 c y2 R, J)
