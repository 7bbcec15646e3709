/-! ===== pure: numbers, loops, the small tests ===== -/
theorem nI_mul (a b : Nat) : nI a * nI b = nI (a * b) := (Int32.ofNat_mul a b).symm
theorem inb_nI {k n : Nat} (h : k < n) (hn : n < 2 ^ 31) : inb (nI k) n := ⟨nI_pos' (by omega), by rw [nI_clamp (by omega)]; exact h⟩
theorem exk {p : Int32} {F : Nat} (h : 0 ≤ p.toInt ∧ p.toInt < F) (hF : F < 2 ^ 31) : ∃ k, k < F ∧ p = nI k :=
  ⟨p.toInt.toNat, by omega, Int32.toInt_inj.mp (by rw [nI_toInt (by omega)]; omega)⟩
theorem nI_in01 {k F : Nat} (h : k < F) (hF : F < 2 ^ 31) : 0 ≤ (nI k).toInt ∧ (nI k).toInt < F := by rw [nI_toInt (by omega)]; omega
theorem in_c (p q r : Int64) : f_X7_in p q r = some (if q ≤ p ∧ p ≤ r then 1 else 0) := by
  unfold f_X7_in f_X7_in_j17
  have e1 : (lg_cmp p q < 0) = (¬ q ≤ p) := propext ((lg_cmp_lt p q).trans Int64.not_le.symm)
  have e2 : (0 < lg_cmp p r) = (¬ p ≤ r) := propext ((lg_cmp_gt p r).trans Int64.not_le.symm)
  simp only [e1, e2]
  by_cases h1 : q ≤ p <;> by_cases h2 : p ≤ r <;> simp [h1, h2]
theorem in_z (v : Int32) (x y : Int64) (lo hi : Int) (h1 : x.toInt = lo) (h2 : y.toInt = hi) : f_X7_in v.toInt64 x y = some (if lo ≤ v.toInt ∧ v.toInt ≤ hi then 1 else 0) := by
  rw [in_c]
  simp only [Int64.le_iff_toInt_le, Int32.toInt_toInt64, h1, h2]
theorem bz1 : bz (1 : Int32) := Or.inr rfl
theorem bz0 : bz (0 : Int32) := Or.inl rfl
theorem t_add {x y : Int32} (h1 : -2147483648 ≤ x.toInt + y.toInt) (h2 : x.toInt + y.toInt ≤ 2147483647) : (x + y).toInt = x.toInt + y.toInt := by
  rw [Int32.toInt_add]; unfold Int.bmod; simp only; split <;> omega
theorem t_sub {x y : Int32} (h1 : -2147483648 ≤ x.toInt - y.toInt) (h2 : x.toInt - y.toInt ≤ 2147483647) : (x - y).toInt = x.toInt - y.toInt := by
  rw [Int32.toInt_sub]; unfold Int.bmod; simp only; split <;> omega
theorem t_mul {x y : Int32} (h1 : -2147483648 ≤ x.toInt * y.toInt) (h2 : x.toInt * y.toInt ≤ 2147483647) : (x * y).toInt = x.toInt * y.toInt := by
  rw [Int32.toInt_mul]; unfold Int.bmod; simp only; split <;> omega
theorem nI_sub1 {n : Nat} (h : n < 2 ^ 31) : (nI n - 1).toInt = (n : Int) - 1 := by
  have h1 : (1 : Int32).toInt = 1 := by decide
  rw [t_sub (by rw [nI_toInt h, h1]; omega) (by rw [nI_toInt h, h1]; omega), nI_toInt h, h1]
theorem rng_m {n : Nat} (h : n < 2 ^ 31) (p : Int32) : bd (f_X7_in p.toInt64 (0 : Int64) (nI n - 1).toInt64) (fun (q1 : Int32) => (if bz q1 then some q1 else none)) = some (if 0 ≤ p.toInt ∧ p.toInt < n then 1 else 0) := by
  rw [in_z p _ _ 0 ((n : Int) - 1) rfl (by rw [Int32.toInt_toInt64, nI_sub1 h])]
  by_cases h : 0 ≤ p.toInt ∧ p.toInt < n
  · rw [if_pos h, if_pos (by omega)]; exact if_pos (e := (none : Option Int32)) bz1
  · rw [if_neg h, if_neg (by omega)]; exact if_pos (e := (none : Option Int32)) bz0
theorem isF_m {M : HC} {F : Nat} (h : M 0 6 = nI F) (hF : F ≤ 5) (p : Int32) : f_X7_isFighter M p = some (if 0 ≤ p.toInt ∧ p.toInt < F then 1 else 0) := by
  unfold f_X7_isFighter; rw [h]; exact rng_m (by omega) p
theorem isP_m {M : HC} {P : Nat} (h : M 0 5 = nI P) (hP : P ≤ 6) (p : Int32) : f_X7_isOne M p = some (if 0 ≤ p.toInt ∧ p.toInt < P then 1 else 0) := by
  unfold f_X7_isOne; rw [h]; exact rng_m (by omega) p
theorem isT_m {M : HC} {T : Nat} (h : M 0 11 = nI T) (hT : T ≤ 6) (p : Int32) : f_X7_isTask M p = some (if 0 ≤ p.toInt ∧ p.toInt < T then 1 else 0) := by
  unfold f_X7_isTask; rw [h]; exact rng_m (by omega) p
theorem rng_c {n : Nat} (h : n < 2 ^ 31) (p : Int32) : (if p < 0 then some (0 : Int32) else (if nI n ≤ p then some (0 : Int32) else some (1 : Int32))) = some (if 0 ≤ p.toInt ∧ p.toInt < n then 1 else 0) := by
  simp only [Int32.lt_iff_toInt_lt, Int32.le_iff_toInt_le, nI_toInt h, Int32.toInt_zero]
  by_cases h1 : p.toInt < 0
  · rw [if_pos h1, if_neg (by omega)]
  · rw [if_neg h1]
    by_cases h2 : (n : Int) ≤ p.toInt
    · rw [if_pos h2, if_neg (by omega)]
    · rw [if_neg h2, if_pos (by omega)]
theorem isF_c {C : CC} {F : Nat} (h : C 2 0 1 = nI F) (hF : F ≤ 5) (p : Int32) : f_X6_isFighter C p = some (if 0 ≤ p.toInt ∧ p.toInt < F then 1 else 0) := by
  unfold f_X6_isFighter f_X6_isFighter_j19; rw [h]; exact rng_c (by omega) p
theorem isP_c {C : CC} {P : Nat} (h : C 2 0 0 = nI P) (hP : P ≤ 6) (p : Int32) : f_X6_isPerson C p = some (if 0 ≤ p.toInt ∧ p.toInt < P then 1 else 0) := by
  unfold f_X6_isPerson f_X6_isPerson_j19; rw [h]; exact rng_c (by omega) p
theorem isT_c {C : CC} {T : Nat} (h : C 2 0 3 = nI T) (hT : T ≤ 6) (p : Int32) : f_X6_isTask C p = some (if 0 ≤ p.toInt ∧ p.toInt < T then 1 else 0) := by
  unfold f_X6_isTask f_X6_isTask_j19; rw [h]; exact rng_c (by omega) p
/-- a loop that counts up: a step a round, an end behind the last -/
def itx {σ R : Type} (stp : Nat → σ → σ ⊕ Option R) (fin : σ → Option R) : Nat → Nat → σ → Option R
  | _, 0, s => fin s
  | k, n + 1, s => match stp k s with
    | .inl s' => itx stp fin (k + 1) n s'
    | .inr r => r
theorem lp_up {σ R T : Type} {z : T} {F : T → T} (app : T → Nat → σ → Option R) (N : Nat) (Inv : Nat → σ → Prop) (stp : Nat → σ → σ ⊕ Option R) (fin : σ → Option R)
    (hs : ∀ (rc : T) (k : Nat) (s : σ), Inv k s → k < N → (∃ s', stp k s = .inl s' ∧ app (F rc) k s = app rc (k + 1) s' ∧ Inv (k + 1) s') ∨ (∃ r, stp k s = .inr r ∧ app (F rc) k s = r))
    (hf : ∀ (rc : T) (s : σ), Inv N s → app (F rc) N s = fin s) : ∀ (m n k : Nat) (s : σ), Inv k s → k + n = N → n < m → app (lp z F m) k s = itx stp fin k n s := by
  intro m
  induction m with
  | zero => intro n k s _ _ h; omega
  | succ m ih =>
    intro n k s hi hk hm
    cases n with
    | zero =>
      have : k = N := by omega
      subst this
      exact hf _ s hi
    | succ n =>
      rw [lp_s]
      rcases hs (lp z F m) k s hi (by omega) with ⟨s', h1, h2, h3⟩ | ⟨r, h1, h2⟩
      · rw [h2, ih n (k + 1) s' h3 (by omega) (by omega)]
        simp only [itx, h1]
      · rw [h2]
        simp only [itx, h1]
theorem itx_congr {σ R : Type} {s1 s2 : Nat → σ → σ ⊕ Option R} {fin : σ → Option R} : ∀ (n k : Nat) (s : σ), (∀ j s, k ≤ j → j < k + n → s1 j s = s2 j s) → itx s1 fin k n s = itx s2 fin k n s := by
  intro n
  induction n with
  | zero => intro k s _; rfl
  | succ n ih =>
    intro k s h
    have e := h k s (Nat.le_refl _) (by omega)
    simp only [itx, e]
    cases s2 k s with
    | inl s' => exact ih (k + 1) s' (fun j s h1 h2 => h j s (by omega) (by omega))
    | inr r => rfl
/-- plain folds -/
def itf {σ : Type} (stp : Nat → σ → σ) : Nat → Nat → σ → σ
  | _, 0, s => s
  | k, n + 1, s => itf stp (k + 1) n (stp k s)
theorem lp_for {σ R T : Type} {z : T} {F : T → T} (app : T → Nat → σ → Option R) (N : Nat) (stp : Nat → σ → σ) (fin : σ → Option R)
    (hs : ∀ (rc : T) (k : Nat) (s : σ), k < N → app (F rc) k s = app rc (k + 1) (stp k s))
    (hf : ∀ (rc : T) (s : σ), app (F rc) N s = fin s) : ∀ (m n k : Nat) (s : σ), k + n = N → n < m → app (lp z F m) k s = fin (itf stp k n s) := by
  intro m
  induction m with
  | zero => intro n k s _ h; omega
  | succ m ih =>
    intro n k s hk hm
    cases n with
    | zero =>
      have : k = N := by omega
      subst this
      exact hf _ s
    | succ n =>
      rw [lp_s, hs _ k s (by omega), ih n (k + 1) _ (by omega) (by omega)]
      rfl
theorem itf_congr {σ : Type} {s1 s2 : Nat → σ → σ} : ∀ (n k : Nat) (s : σ), (∀ j s, k ≤ j → j < k + n → s1 j s = s2 j s) → itf s1 k n s = itf s2 k n s := by
  intro n
  induction n with
  | zero => intro k s _; rfl
  | succ n ih =>
    intro k s h
    have e := h k s (Nat.le_refl _) (by omega)
    simp only [itf, e]
    exact ih (k + 1) _ (fun j s h1 h2 => h j s (by omega) (by omega))
theorem itf_inv {σ : Type} {stp : Nat → σ → σ} (I : Nat → σ → Prop) : ∀ (n k : Nat) (s : σ), I k s → (∀ j s, k ≤ j → j < k + n → I j s → I (j + 1) (stp j s)) → I (k + n) (itf stp k n s) := by
  intro n
  induction n with
  | zero => intro k s h _; exact h
  | succ n ih =>
    intro k s h hs
    have := ih (k + 1) (stp k s) (hs k s (Nat.le_refl _) (by omega) h) (fun j s h1 h2 => hs j s (by omega) (by omega))
    rw [show k + (n + 1) = k + 1 + n by omega]
    exact this
theorem FU_gt : 4000 < FU := by decide
/-- is bit k in the set? -/
abbrev hb (s : Int32) (k : Int32) : Prop := ((s >>> (k &&& 31)) &&& (1 : Int32)) = (1 : Int32)
theorem has_c (s k : Int32) : f_X6_has s k = some (if hb s k then 1 else 0) := by
  unfold f_X6_has; split <;> rfl
theorem has_m (s k : Int32) : f_X7_has s k = some (if hb s k then 1 else 0) := by
  unfold f_X7_has; split <;> rfl
