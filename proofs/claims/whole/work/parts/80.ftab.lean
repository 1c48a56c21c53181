/-! the table of references -/
theorem n2_nil (k : Nat) : ∀ b : Nat, mj_n2 k b [] = none
  | 0 => rfl
  | _ + 1 => rfl
section FF
variable {y y1 n1 w1 c y2 z : Option Nat} {R R' : mjR}
theorem FRd {a : Nat} (h : 65 ≤ a) (k : Nat) : FR y y1 n1 w1 c y2 R a k = R a k := by
  obtain ⟨b, rfl⟩ : ∃ b, a = b + 65 := ⟨a - 65, by omega⟩
  show (match mj_n2 k b [] with | some r => r | none => R (b + 65) k) = R (b + 65) k
  rw [n2_nil]
theorem FR_cases (y y1 n1 w1 c y2 : Option Nat) (a k : Nat) : (∀ R : mjR, FR y y1 n1 w1 c y2 R a k = R a k) ∨ ∃ r, ∀ R : mjR, FR y y1 n1 w1 c y2 R a k = r := by
  cases hq : mj_n2 k a [[], [some (some 2), some (some 4), some (some 7), some (some 10), some (some 12), some (some 23), some (some 27), some (some 42), some (some 43), some (some 44), some y], [some (some 3)], [], [some (some 5), some (some 6)], [], [], [some (some 8), some (some 9)], [], [], [some (some 11)], [], [some (some 13), some (some 21), some (some 22), none, some y1, some n1, some w1], [some (some 14), some (some 15), some (some 16), some (some 17), some (some 18), some (some 19), some (some 20)], [], [], [], [], [], [], [], [], [], [some c, some (some 25), some (some 26), some y2], [], [], [], [some (some 10), some (some 28), some (some 40), some (some 41)], [some (some 29), some (some 30), some (some 31), some (some 32), some (some 33), some (some 34), some (some 35), some (some 36), some (some 37), some (some 38), some (some 39)], [], [], [], [], [], [], [], [], [], [], [], [], [], [], [], [], [some (some 46), none, none, none, none, none, some (some 47), some (some 48), some (some 49), none, none, some (some 50), some (some 51), some (some 52), some (some 53), none, some (some 54), some (some 55), some (some 56), none, none, some (some 57), none, some (some 58), none, some (some 59), some (some 60), some (some 61), some (some 62), none, none, some (some 63), some (some 64)], [], [], [], [], [], [], [], [], [], [], [], [], [], [], [], [], [], [], []] with
  | none => exact Or.inl (fun R => by unfold FR; rw [hq])
  | some r => exact Or.inr ⟨r, fun R => by unfold FR; rw [hq]⟩
theorem FR_self (h : ∀ a, a < 65 → R' a = FR y y1 n1 w1 c y2 R a) : R' = FR y y1 n1 w1 c y2 R' := by
  funext a k
  by_cases g : 65 ≤ a
  · rw [FRd g]
  · rcases FR_cases y y1 n1 w1 c y2 a k with q | ⟨r, q⟩
    · rw [q]
    · rw [q, h a (by omega), q]
theorem FR_y : mj_ur (FR y y1 n1 w1 c y2 R) 1 10 z = FR z y1 n1 w1 c y2 R := by
  funext a k
  match a with
  | 0 => rfl
  | 1 =>
    match k with
    | 0 => rfl
    | 1 => rfl
    | 2 => rfl
    | 3 => rfl
    | 4 => rfl
    | 5 => rfl
    | 6 => rfl
    | 7 => rfl
    | 8 => rfl
    | 9 => rfl
    | 10 => rfl
    | k + 11 => rfl
  | a + 2 => rfl
end FF
