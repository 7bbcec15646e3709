/-! ===== pure: what the class and the reference have in common ===== -/
/-- the land: people, fighters, tasks, tricks in number; the rows -/
def RLand (L M : HC) (P F T R : Nat) : Prop :=
  (P ≤ 6 ∧ F ≤ 5 ∧ T ≤ 6 ∧ R ≤ 4) ∧ (L 0 0 = nI P ∧ M 0 5 = nI P) ∧ (L 0 1 = nI F ∧ M 0 6 = nI F) ∧ (L 0 3 = nI T ∧ M 0 11 = nI T) ∧ (L 0 4 = nI R ∧ M 0 13 = nI R) ∧ L 0 2 = M 0 9 ∧
  (∀ f, f < F → L 1 f = M 4 f ∧ L 2 f = M 5 f ∧ ∃ a, a ≤ 99 ∧ M 5 f = nI a) ∧
  (∀ p, p < P → L 4 p = M 6 p) ∧
  (∀ t, t < T → (L 5 t = M 7 (4 * t) ∧ ∃ a, a < P ∧ M 7 (4 * t) = nI a) ∧ (L 6 t = M 7 (4 * t + 1) ∧ ∃ a, a ≤ 99 ∧ M 7 (4 * t + 1) = nI a) ∧ (L 7 t = M 7 (4 * t + 2) ∧ ∃ a, a ≤ 99 ∧ M 7 (4 * t + 2) = nI a) ∧ (L 8 t = M 7 (4 * t + 3) ∧ ∃ a, a ≤ 20 ∧ M 7 (4 * t + 3) = nI a)) ∧
  (∀ r, r < R → L 9 r = M 8 (3 * r) ∧ (L 10 r = M 8 (3 * r + 1) ∧ ∃ a, a ≤ 99 ∧ M 8 (3 * r + 1) = nI a) ∧ L 11 r = M 8 (3 * r + 2))
/-- what changes by deeds, at place o of the reference's row -/
def RSt (S M : HC) (o F : Nat) : Prop :=
  (∀ f, f < F → (S 1 f = M 1 (o + f) ∧ ∃ a, a ≤ 99 ∧ M 1 (o + f) = nI a) ∧ S 2 f = M 1 (o + 35 + f) ∧ S 3 f = M 1 (o + 40 + f)) ∧
  (∀ k, k < 30 → S 4 k = M 1 (o + 5 + k) ∧ ∃ a, a ≤ 99 ∧ M 1 (o + 5 + k) = nI a) ∧
  S 0 4 = M 1 (o + 45) ∧ S 0 5 = M 1 (o + 46) ∧ ∃ a, a < 2147483648 ∧ M 1 (o + 46) = nI a
def RBook (B M : HC) (P F : Nat) : Prop := ∃ n, n ≤ 15 ∧ B 0 2 = nI n ∧ M 0 16 = nI n ∧ ∀ k, k < n → ∃ p f, p < P ∧ f < F ∧ B 1 k = nI (5 * p + f) ∧ M 9 (3 * k) = nI p ∧ M 9 (3 * k + 1) = nI f ∧ B 2 k = M 9 (3 * k + 2)
def RText (X M : HC) : Prop := X 0 5 = M 0 4 ∧ ∃ n, n ≤ 250 ∧ X 0 1 = nI n ∧ M 0 3 = nI n ∧ ∀ k, k < n → X 1 k = M 3 k
def RImg (S M : HC) (i F : Nat) : Prop := S 0 6 = M 2 i ∧ (M 2 i = 0 ∨ (M 2 i = 1 ∧ RSt S M (47 * (1 + i)) F))
def Rel (C : CC) (M : HC) : Prop := ∃ P F T R, RLand (C 2) M P F T R ∧ RSt (C 4) M 0 F ∧ RImg (C 5) M 0 F ∧ RImg (C 6) M 1 F ∧ RBook (C 7) M P F ∧ RText (C 1) M
