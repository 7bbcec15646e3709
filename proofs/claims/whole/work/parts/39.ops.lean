/-! ===== pure: bits one by one (bt, b_ext, b_or, b_and, s_l, b_sshr: the kit's rows to paste) ===== -/
def bt (x : Int32) (i : Nat) : Bool := x.toBitVec.getLsbD i
theorem b_ext {x y : Int32} (h : ∀ i, i < 32 → bt x i = bt y i) : x = y := Int32.toBitVec_inj.mp (BitVec.eq_of_getLsbD_eq (fun i hi => h i hi))
theorem b_or (x y : Int32) (i : Nat) : bt (x ||| y) i = (bt x i || bt y i) := by unfold bt; rw [Int32.toBitVec_or, BitVec.getLsbD_or]
theorem b_and (x y : Int32) (i : Nat) : bt (x &&& y) i = (bt x i && bt y i) := by unfold bt; rw [Int32.toBitVec_and, BitVec.getLsbD_and]
theorem s_l : ∀ n, n < 32 → ((nI n &&& 31).toBitVec.smod 32).toNat = n := by decide +kernel
theorem b_sshr (n : Nat) (hn : n < 32) (x : Int32) {i : Nat} (hi : i < 32) : bt (x >>> (nI n &&& 31)) i = if n + i < 32 then bt x (n + i) else bt x 31 := by
  unfold bt
  rw [Int32.toBitVec_shiftRight]
  show (x.toBitVec.sshiftRight ((nI n &&& 31).toBitVec.smod 32).toNat).getLsbD i = _
  rw [s_l n hn, BitVec.getLsbD_sshiftRight, BitVec.msb_eq_getLsbD_last]
  simp [hi]
theorem b_1 : ∀ i, i < 32 → bt 1 i = decide (i = 0) := by decide +kernel
theorem hb_bit {k : Nat} (hk : k < 32) (s : Int32) : hb s (nI k) ↔ bt s k = true := by
  have e0 : bt ((s >>> (nI k &&& 31)) &&& (1 : Int32)) 0 = bt s k := by
    rw [b_and, b_sshr k hk s (by omega), b_1 0 (by omega), Nat.add_zero, if_pos hk]
    simp
  constructor
  · intro h
    have h : ((s >>> (nI k &&& 31)) &&& (1 : Int32)) = 1 := h
    rw [← e0, h, b_1 0 (by omega)]
    rfl
  · intro h
    show ((s >>> (nI k &&& 31)) &&& (1 : Int32)) = 1
    refine b_ext fun i hi => ?_
    by_cases h0 : i = 0
    · subst h0
      rw [e0, h, b_1 0 (by omega)]
      rfl
    · rw [b_and, b_1 i hi, decide_eq_false h0, Bool.and_false]
theorem hb_or {k : Nat} (hk : k < 32) (a d : Int32) : hb (a ||| d) (nI k) ↔ hb a (nI k) ∨ hb d (nI k) := by
  rw [hb_bit hk, hb_bit hk, hb_bit hk, b_or, Bool.or_eq_true]
/-! ===== pure: the first that .. ===== -/
def fd (p : Nat → Bool) : Nat → Nat → Nat
  | _, 0 => 0
  | k, n + 1 => if p k = true then k + 1 else fd p (k + 1) n
theorem lp_fd {R T : Type} {z : T} {F : T → T} (app : T → Nat → Option R) (N : Nat) (p : Nat → Bool) (mk : Nat → Option R)
    (hs : ∀ (rc : T) (k : Nat), k < N → app (F rc) k = if p k = true then mk (k + 1) else app rc (k + 1))
    (hf : ∀ (rc : T), app (F rc) N = mk 0) : ∀ (m n k : Nat), k + n = N → n < m → app (lp z F m) k = mk (fd p k n) := by
  intro m
  induction m with
  | zero => intro n k _ h; omega
  | succ m ih =>
    intro n k hk hm
    rw [lp_s]
    cases n with
    | zero =>
      have : k = N := by omega
      subst this
      rw [hf]
      rfl
    | succ n =>
      rw [hs _ k (by omega)]
      show _ = mk (if p k = true then k + 1 else fd p (k + 1) n)
      by_cases h : p k = true
      · rw [if_pos h, if_pos h]
      · rw [if_neg h, if_neg h, ih n (k + 1) (by omega) (by omega)]
theorem fd_le (p : Nat → Bool) : ∀ n k, fd p k n ≤ k + n := by
  intro n
  induction n with
  | zero => intro k; exact Nat.zero_le _
  | succ n ih =>
    intro k
    show (if p k = true then k + 1 else fd p (k + 1) n) ≤ _
    split
    · omega
    · have := ih (k + 1); omega
theorem fd_some {p : Nat → Bool} : ∀ (n k w : Nat), fd p k n = w + 1 → k ≤ w ∧ w < k + n ∧ p w = true := by
  intro n
  induction n with
  | zero => intro k w h; exact absurd (show 0 = w + 1 from h) (by omega)
  | succ n ih =>
    intro k w h
    have h : (if p k = true then k + 1 else fd p (k + 1) n) = w + 1 := h
    by_cases hp : p k = true
    · rw [if_pos hp] at h
      have : w = k := by omega
      subst this
      exact ⟨Nat.le_refl _, by omega, hp⟩
    · rw [if_neg hp] at h
      obtain ⟨h1, h2, h3⟩ := ih (k + 1) w h
      exact ⟨by omega, by omega, h3⟩
theorem fd_none {p : Nat → Bool} : ∀ (m k : Nat), (∀ j, k ≤ j → j < k + m → p j = false) → fd p k m = 0 := by
  intro m
  induction m with
  | zero => intro k _; rfl
  | succ m ih =>
    intro k h
    show (if p k = true then k + 1 else fd p (k + 1) m) = 0
    rw [if_neg (by rw [h k (Nat.le_refl _) (by omega)]; decide)]
    exact ih (k + 1) (fun j h1 h2 => h j (by omega) (by omega))
theorem fd_more {p : Nat → Bool} : ∀ (n k m : Nat), (∀ j, k + n ≤ j → j < k + n + m → p j = false) → fd p k (n + m) = fd p k n := by
  intro n
  induction n with
  | zero => intro k m h; rw [Nat.zero_add]; exact fd_none m k h
  | succ n ih =>
    intro k m h
    rw [show n + 1 + m = (n + m) + 1 by omega]
    show (if p k = true then k + 1 else fd p (k + 1) (n + m)) = (if p k = true then k + 1 else fd p (k + 1) n)
    rw [ih (k + 1) m (fun j h1 h2 => h j (by omega) (by omega))]
theorem wI_iff {w : Nat} (h : w ≤ 100) : wI w = -1 ↔ w = 0 := by
  constructor
  · intro e
    cases w with
    | zero => rfl
    | succ w => exact absurd e (wI_ne (by omega))
  · intro e
    rw [e, wI_0]
/-! ===== pure: the least set of tricks, the next task ===== -/
theorem or_16 : ∀ x, x < 16 → ∀ r, r < 4 → (nI x ||| ((1 : Int32) <<< (nI r &&& 31))) = nI (x ||| (1 <<< r)) ∧ x ||| (1 <<< r) < 16 := by decide +kernel
theorem trS_small (g : Nat → Int32) (t : Int32) {R : Nat} (hR : R ≤ 4) : ∃ x, x < 16 ∧ trS g t R = nI x := by
  have := itf_inv (stp := fun r s => if g r = t then s ||| ((1 : Int32) <<< (nI r &&& 31)) else s) (fun _ (s : Int32) => ∃ x, x < 16 ∧ s = nI x) R 0 0 ⟨0, by omega, rfl⟩ (fun j s h1 h2 hs => by
    obtain ⟨x, x1, rfl⟩ := hs
    obtain ⟨o1, o2⟩ := or_16 x x1 j (by omega)
    by_cases h : g j = t
    · rw [if_pos h]; exact ⟨_, o2, o1⟩
    · rw [if_neg h]; exact ⟨x, x1, rfl⟩)
  exact this
theorem and_small {x : Nat} (hx : x < 16) (V : Int32) : ∃ y, y < 16 ∧ (nI x &&& V) = nI y := by
  have hz : (nI x &&& (-((1 : Int32) <<< (nI 4 &&& 31)))) = 0 := sub_in 4 (by omega) x hx (by omega)
  have h : ((nI x &&& V) &&& (-((1 : Int32) <<< (nI 4 &&& 31)))) = 0 := by
    rw [Int32.and_comm (nI x) V, Int32.and_assoc, hz, Int32.and_zero]
  obtain ⟨h1, h2⟩ := set_no (R := 4) (by omega) h
  have h3 : ((2 ^ 4 : Nat) : Int) = 16 := by decide
  rw [h3] at h2
  exact ⟨(nI x &&& V).toInt.toNat, by omega, Int32.toInt_inj.mp (by rw [nI_toInt (by omega)]; omega)⟩
theorem sub_le : ∀ fr, fr < 16 → ∀ s, s < 16 → fr < s → ¬ (nI s &&& (nI fr ^^^ (-1 : Int32))) = 0 := by decide +kernel
def frS (M : HC) (R f t : Nat) : Int32 := trS (fun r => M 8 (3 * r)) (nI t) R &&& (M 1 (40 + f) ^^^ (-1 : Int32))
def thG (M : HC) (T f t : Nat) (B : Int32) : Int32 := cap9 (M 1 (5 + 5 * (M 7 (4 * t)).toNatClampNeg + f) + sumS (fun t => M 7 (4 * t + 3)) B T)
def pL (M : HC) (R f t : Nat) (FR th : Int32) (s : Nat) : Bool := decide ((nI s &&& (FR ^^^ (-1 : Int32))) = 0) && !decide (pasB M R f t (nI s) th = 0)
def lsN (M : HC) (T R f t : Nat) (B : Int32) : Nat := fd (pL M R f t (frS M R f t) (thG M T f t B)) 0 16
def pX (M : HC) (T R f : Nat) (B : Int32) (t : Nat) : Bool := !decide (hb (M 1 (35 + f)) (nI t)) && (!decide (hb B (nI t)) && !decide (wI (lsN M T R f t B) = -1))
def nxN (M : HC) (T R f : Nat) (B : Int32) : Nat := fd (pX M T R f B) 0 T
theorem lsN_le (M : HC) (T R f t : Nat) (B : Int32) : lsN M T R f t B ≤ 16 := by
  have := fd_le (pL M R f t (frS M R f t) (thG M T f t B)) 16 0
  unfold lsN; omega
theorem nxN_le (M : HC) (T R f : Nat) (B : Int32) : nxN M T R f B ≤ T := by
  have := fd_le (pX M T R f B) T 0
  unfold nxN; omega
theorem leastSet_c {L M : HC} {P F T R : Nat} (hL : RLand L M P F T R) {f t : Nat} (hf : f < F) (ht : t < T) (th : Int32) : f_X3_leastSet L (nI f) (nI t) (frS M R f t) th = some (wI (fd (pL M R f t (frS M R f t) th) 0 16)) := by
  obtain ⟨⟨hP, hF, hT, hRR⟩, -⟩ := id hL
  obtain ⟨fr, fr1, fr2⟩ : ∃ y, y < 16 ∧ frS M R f t = nI y := by
    obtain ⟨x, x1, x2⟩ := trS_small (fun r => M 8 (3 * r)) (nI t) hRR
    unfold frS
    rw [x2]
    exact and_small x1 _
  rw [fr2]
  have h1 := lp_fd (T := Int32 → Option Int32) (z := fun _ => none) (F := f_X3_leastSet_b3 L (nI f) (nI t) (nI fr) th) (fun g k => g (nI k)) (fr + 1) (pL M R f t (nI fr) th) (fun w => some (wI w)) (by
    intro rc k hk
    unfold f_X3_leastSet_b3 f_X3_leastSet_j34 pL
    rw [if_neg (nI_nlt (show k ≤ fr by omega) (by omega)), (passes_cm hL hf ht (nI k) th).1, bd_s, wI_s]
    simp only [nm, nI_1]
    by_cases h1 : (nI k &&& (nI fr ^^^ (-1 : Int32))) = 0
    · rw [if_pos h1, decide_eq_true h1, Bool.true_and]
      by_cases h2 : pasB M R f t (nI k) th = 0
      · rw [if_pos h2, decide_eq_true h2, if_neg (by decide)]
      · rw [if_neg h2, decide_eq_false h2, if_pos (by decide)]
    · rw [if_neg h1, decide_eq_false h1, Bool.false_and, if_neg (by decide)]) (by
    intro rc
    unfold f_X3_leastSet_b3
    rw [if_pos (nI_lt (show fr < fr + 1 by omega) (by omega)), wI_0]) FU (fr + 1) 0 (by omega) (by have := FU_gt; omega)
  have h2 := fd_more (p := pL M R f t (nI fr) th) (fr + 1) 0 (15 - fr) (fun j j1 j2 => by
    unfold pL
    rw [decide_eq_false (sub_le fr fr1 j (by omega) (by omega)), Bool.false_and])
  rw [show fr + 1 + (15 - fr) = 16 by omega] at h2
  rw [h2]
  exact h1
theorem leastTricks_m {L M : HC} {P F T R : Nat} (hL : RLand L M P F T R) {f t : Nat} (hf : f < F) (ht : t < T) (B : Int32) : f_X7_leastTricks M (nI f) (nI t) B = some (wI (lsN M T R f t B)) := by
  obtain ⟨⟨hP, hF, hT, hRR⟩, -, -, ⟨l3, m11⟩, -⟩ := id hL
  obtain ⟨g, g1, g2⟩ := gu_bd hL ht
  have i24 : inb (nI (4 * t)) 24 := inb_nI (by omega) (by omega)
  have c24 : (nI (4 * t)).toNatClampNeg = 4 * t := nI_clamp (by omega)
  have e44 : (4 : Int32) * nI t = nI (4 * t) := ix40 t
  have i40 : inb (nI (40 + f)) 141 := inb_nI (by omega) (by omega)
  have c40 : (nI (40 + f)).toNatClampNeg = 40 + f := nI_clamp (by omega)
  have e40 : (40 : Int32) + nI f = nI (40 + f) := nl 40 f
  have e35 : ∀ th, f_X7_leastTricks_j35 M (nI f) (nI t) th = some (wI (fd (pL M R f t (frS M R f t) th) 0 16)) := by
    intro th
    unfold f_X7_leastTricks_j35
    rw [(tricks_cm hL (nI t)).2, bd_s]
    simp only [nm, e40, if_pos i40, c40]
    exact lp_fd (T := Int32 → Option Int32) (z := fun _ => none) (F := f_X7_leastTricks_b59 M (nI f) (nI t) th (frS M R f t)) (fun g k => g (nI k)) 16 (pL M R f t (frS M R f t) th) (fun w => some (wI w)) (by
      intro rc k hk
      unfold f_X7_leastTricks_b59 f_X7_leastTricks_j92 pL
      rw [if_neg (show ¬ (16 : Int32) ≤ nI k from nI_ge (b := 16) hk (by omega)), (passes_cm hL hf ht (nI k) th).2, bd_s, wI_s]
      simp only [nm, nI_1]
      by_cases h1 : (nI k &&& (frS M R f t ^^^ (-1 : Int32))) = 0
      · rw [if_pos h1, decide_eq_true h1, Bool.true_and]
        by_cases h2 : pasB M R f t (nI k) th = 0
        · rw [if_pos h2, decide_eq_true h2, if_neg (by decide)]
        · rw [if_neg h2, decide_eq_false h2, if_pos (by decide)]
      · rw [if_neg h1, decide_eq_false h1, Bool.false_and, if_neg (by decide)]) (by
      intro rc
      unfold f_X7_leastTricks_b59
      rw [if_pos (show (16 : Int32) ≤ nI 16 from nI_le (a := 16) (b := 16) (by omega) (by omega)), wI_0]) FU 16 0 rfl (by have := FU_gt; omega)
  unfold f_X7_leastTricks lsN thG
  simp only [e44, if_pos i24, c24, g2, thought_m (M := M) (p := g) (f := f) (by omega) (by omega), bd_s, fame_m hT m11, nI_clamp (show g < 2 ^ 31 by omega), nm]
  generalize M 1 (5 + 5 * g + f) + sumS (fun t => M 7 (4 * t + 3)) B T = v
  by_cases h9 : v ≤ 99
  · rw [if_pos h9, e35]
    unfold cap9
    rw [if_pos h9]
  · rw [if_neg h9, e35]
    unfold cap9
    rw [if_neg h9]
theorem pick3 {α : Type} (a b c : Prop) [Decidable a] [Decidable b] [Decidable c] (x y : α) : (if (if a then (1 : Int32) else 0) = 0 then (if (if b then (1 : Int32) else 0) = 0 then (if c then x else y) else x) else x) = if (!decide a && (!decide b && !decide c)) = true then y else x := by
  by_cases ha : a <;> by_cases hb' : b <;> by_cases hc : c <;> simp [ha, hb', hc]
theorem pick3c {α : Type} (a b c e : Prop) [Decidable a] [Decidable b] [Decidable c] [Decidable e] (h : e ↔ b ∨ a) (x y : α) : (if (if e then (1 : Int32) else 0) = 0 then (if c then x else y) else x) = if (!decide a && (!decide b && !decide c)) = true then y else x := by
  by_cases ha : a <;> by_cases hb' : b <;> by_cases hc : c <;> simp [ha, hb', hc, h]
theorem nextTask_m {L M : HC} {P F T R : Nat} (hL : RLand L M P F T R) {f : Nat} (hf : f < F) (B : Int32) : f_X7_nextTask M (nI f) B = some (wI (nxN M T R f B)) := by
  obtain ⟨⟨hP, hF, hT, hRR⟩, -, -, ⟨l3, m11⟩, -⟩ := id hL
  have i35 : inb (nI (35 + f)) 141 := inb_nI (by omega) (by omega)
  have c35 : (nI (35 + f)).toNatClampNeg = 35 + f := nI_clamp (by omega)
  have e35 : (35 : Int32) + nI f = nI (35 + f) := nl 35 f
  unfold f_X7_nextTask nxN
  exact lp_fd (T := Int32 → Option Int32) (z := fun _ => none) (F := f_X7_nextTask_b2 M (nI f) B) (fun g k => g (nI k)) T (pX M T R f B) (fun w => some (wI w)) (by
    intro rc k hk
    unfold f_X7_nextTask_b2 f_X7_nextTask_j47 pX
    rw [m11, if_neg (nI_ge hk (by omega)), wI_s]
    simp only [e35, if_pos i35, c35, has_m, bd_s, leastTricks_m hL hf hk B, nm, nI_1]
    exact pick3 _ _ _ _ _) (by
    intro rc
    unfold f_X7_nextTask_b2
    rw [m11, if_pos (nI_le (Nat.le_refl _) (by omega)), wI_0]) FU T 0 (by omega) (by have := FU_gt; omega)
theorem s10 (X : HC) (i v : Int32) : sa X 1 i v 0 = X 0 := rfl
theorem s20 (X : HC) (i v : Int32) : sa X 2 i v 0 = X 0 := rfl
theorem f23 (X : HC) (v : Int32) : sf X 2 v 0 3 = X 0 3 := by rw [sf_at, if_neg (by omega)]
def stp9 (x : HC) (j : Nat) (B : Int32) (w l : Nat) : HC := if w = 0 then x else sf (sf (sa (sa x 1 (nI j) (wI w)) 2 (nI j) (wI l)) 2 (nI (j + 1))) 3 (B ||| ((1 : Int32) <<< (wI w &&& 31)))
theorem step_c {C : CC} {M : HC} {P F T R : Nat} (h : RelN C M P F T R) {f : Nat} (hf : f < F) (x : HC) (B : Int32) (j : Nat) (hj : j < 6) (x3 : x 0 3 = B) (x2 : x 0 2 = nI j) : f_X3_step x (C 2) (C 4) (nI f) = some (stp9 x j B (nxN M T R f B) (lsN M T R f (nxN M T R f B - 1) B)) := by
  obtain ⟨hL, hS, -⟩ := id h
  obtain ⟨⟨hP, hF, hT, hRR⟩, -, -, ⟨l3, m11⟩, -⟩ := id hL
  have i5 : inb (nI f) 5 := inb_nI (by omega) (by omega)
  have c5 : (nI f).toNatClampNeg = f := nI_clamp (by omega)
  have ij : inb (nI j) 6 := inb_nI (by omega) (by omega)
  unfold f_X3_step
  simp only [if_pos i5, c5, dn_eq hS hf, x3, nm, (fame_cm hL B).1, bd_s]
  unfold nxN
  exact lp_fd (T := Int32 → Option HC) (z := fun _ => none) (F := f_X3_step_b26 x (C 2) (C 4) (nI f) (B ||| M 1 (35 + f)) (sumS (fun t => M 7 (4 * t + 3)) B T)) (fun g k => g (nI k)) T (pX M T R f B) (fun w => some (stp9 x j B w (lsN M T R f (w - 1) B))) (by
    intro rc k hk
    obtain ⟨g, g1, g2⟩ := gu_bd hL hk
    have i6 : inb (nI k) 6 := inb_nI (by omega) (by omega)
    have c6 : (nI k).toNatClampNeg = k := nI_clamp (by omega)
    have i30 : inb (nI (g * 5 + f)) 30 := inb_nI (by omega) (by omega)
    have c30 : (nI (g * 5 + f)).toNatClampNeg = g * 5 + f := nI_clamp (by omega)
    have els : f_X3_leastSet (C 2) (nI f) (nI k) (trS (fun r => M 8 (3 * r)) (nI k) R &&& (M 1 (40 + f) ^^^ (-1 : Int32))) (cap9 (M 1 (5 + 5 * g + f) + sumS (fun t => M 7 (4 * t + 3)) B T)) = some (wI (lsN M T R f k B)) := by
      have e : thG M T f k B = cap9 (M 1 (5 + 5 * g + f) + sumS (fun t => M 7 (4 * t + 3)) B T) := by
        unfold thG
        rw [g2, nI_clamp (by omega)]
      rw [← e]
      exact leastSet_c hL hf hk _
    unfold f_X3_step_b26 f_X3_step_j152 pX
    rw [l3, if_neg (nI_ge hk (by omega)), has_c, bd_s, if_pos i6, c6, gu_eq hL hk, g2, slot_c, bd_s, if_pos i30, c30, th_eq hS (show g < 6 by omega) (show f < 5 by omega), cap9_lt, nm_q, (tricks_cm hL (nI k)).1, bd_s, if_pos i5, c5, us_eq hS hf, els, bd_s, nm_q, x2, if_pos ij, nm_q, s10, x2, if_pos ij, nm_q, s20, s10, x2, nI_1 j, nm_q, f23, s20, s10, x3, nm_q, nI_1 k]
    have e9 : stp9 x j B (k + 1) (lsN M T R f (k + 1 - 1) B) = sf (sf (sa (sa x 1 (nI j) (nI k)) 2 (nI j) (wI (lsN M T R f k B))) 2 (nI (j + 1))) 3 (B ||| ((1 : Int32) <<< (nI k &&& 31))) := by
      unfold stp9
      rw [if_neg (by omega), wI_s, show k + 1 - 1 = k by omega]
    rw [e9]
    exact pick3c _ _ _ _ (hb_or (by omega) B (M 1 (35 + f))) _ _) (by
    intro rc
    unfold f_X3_step_b26 stp9
    rw [l3, if_pos (nI_le (Nat.le_refl _) (by omega)), if_pos rfl]) FU T 0 (by omega) (by have := FU_gt; omega)
