def mj_x (cd : List (Option mjE)) : Nat → mjC → Option (Option Prop × mjC)
  | 0, c => some (none, c)
  | n + 1, c => match mj_at c.1 cd with
    | some e => match mj_step e c with
      | some (none, c') => mj_x cd n c'
      | some (some p, c') => match mj_x cd n c' with
        | some (none, c2) => some (some p, c2)
        | some (some q, c2) => some (some (p ∧ q), c2)
        | none => none
      | none => none
    | none => none
def mj_Rd (K : mjK) (cd : List (Option mjE)) (rt : Nat) (c : mjC) (v : Option Value) (h : mjH) : Prop := ∃ n, mj_go K cd rt n c v h
theorem mj_run {K : mjK} {cd : List (Option mjE)} {rt : Nat} {v : Option Value} {h : mjH} : ∀ (n : Nat) {c c' : mjC} {o : Option Prop}, mj_x cd n c = some (o, c') → mj_ok o → mj_Rd K cd rt c' v h → mj_Rd K cd rt c v h := by
  sorry
theorem mj_bra {K : mjK} {cd : List (Option mjE)} {rt : Nat} {v : Option Value} {h : mjH} {c c1 c2 : mjC} {e : mjE} {P : Prop} (he : mj_at c.1 cd = some e) (hb : mj_br e c = some (P, c1, c2)) (h1 : P → mj_Rd K cd rt c1 v h) (h2 : ¬ P → mj_Rd K cd rt c2 v h) : mj_Rd K cd rt c v h := by
  sorry
def FM (L : Nat) (d : mjM) : mjM := (0, L) :: (21, 15) :: (13, 2) :: (0, 50) :: (16, 3) :: (0, 10) :: (0, 60) :: (16, 3) :: (0, 10) :: (0, 60) :: (15, 2) :: (0, 10) :: (10, 8) :: (2, 7) :: (0, 10) :: (0, 10) :: (0, 10) :: (0, 10) :: (0, 10) :: (0, 10) :: (0, 10) :: (0, 10) :: (0, 10) :: (19, 5) :: (1, 0) :: (0, 10) :: (0, 10) :: (17, 5) :: (2, 11) :: (0, 40) :: (0, 40) :: (0, 40) :: (0, 40) :: (0, 40) :: (0, 40) :: (0, 40) :: (0, 40) :: (0, 40) :: (0, 40) :: (0, 40) :: (0, 10) :: (0, 10) :: (0, 8) :: (0, 10) :: (0, 10) :: (22, 34) :: (0, 50) :: (0, 10) :: (0, 10) :: (0, 30) :: (0, 10) :: (0, 10) :: (0, 30) :: (0, 10) :: (0, 60) :: (0, 10) :: (0, 10) :: (0, 10) :: (0, 8) :: (0, 10) :: (0, 46656) :: (0, 46656) :: (0, 440) :: (0, 10) :: (0, 60) :: d
def mj_n1 : Nat → List (Option (Option Nat)) → Option (Option Nat)
  | _, [] => none
  | 0, x :: _ => x
  | i + 1, _ :: xs => mj_n1 i xs
def mj_n2 (k : Nat) : Nat → List (List (Option (Option Nat))) → Option (Option Nat)
  | _, [] => none
  | 0, x :: _ => mj_n1 k x
  | i + 1, _ :: xs => mj_n2 k i xs
def FR (y y1 n1 w1 c y2 : Option Nat) (d : mjR) : mjR := fun a k => match mj_n2 k a [[], [some (some 2), some (some 4), some (some 7), some (some 10), some (some 12), some (some 23), some (some 27), some (some 42), some (some 43), some (some 44), some y], [some (some 3)], [], [some (some 5), some (some 6)], [], [], [some (some 8), some (some 9)], [], [], [some (some 11)], [], [some (some 13), some (some 21), some (some 22), none, some y1, some n1, some w1], [some (some 14), some (some 15), some (some 16), some (some 17), some (some 18), some (some 19), some (some 20)], [], [], [], [], [], [], [], [], [], [some c, some (some 25), some (some 26), some y2], [], [], [], [some (some 10), some (some 28), some (some 40), some (some 41)], [some (some 29), some (some 30), some (some 31), some (some 32), some (some 33), some (some 34), some (some 35), some (some 36), some (some 37), some (some 38), some (some 39)], [], [], [], [], [], [], [], [], [], [], [], [], [], [], [], [], [some (some 46), none, none, none, none, none, some (some 47), some (some 48), some (some 49), none, none, some (some 50), some (some 51), some (some 52), some (some 53), none, some (some 54), some (some 55), some (some 56), none, none, some (some 57), none, some (some 58), none, some (some 59), some (some 60), some (some 61), some (some 62), none, none, some (some 63), some (some 64)], [], [], [], [], [], [], [], [], [], [], [], [], [], [], [], [], [], [], []] with
  | some r => r
  | none => d a k

theorem tr_1 (K : mjK) (v : Option Value) (h' : mjH) (L : Nat) (d : mjM) (I : mjI) (R : mjR) (J : mjJ) (y y1 n1 w1 c y2 : Option Nat) (p s : Int32) (hp : vp_in p 10) :
   mj_Rd K kc_M_wayAt 1 (0, mj_pad 4 (mj_ent [.ref 45, .int p, .int s]), [], FM L d, I, FR y y1 n1 w1 c y2 R, J) v h' := by
  refine mj_run 5 rfl ?_ ?_
  · exact hp
  refine mj_run 5 rfl ?_ ?_
  · exact hp
  refine mj_bra rfl rfl (fun h => ?_) (fun h => ?_)
  · refine mj_run 5 rfl ?_ ?_
    · exact hp
    skip
  · sorry
