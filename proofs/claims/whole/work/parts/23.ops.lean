/-! ===== pure: what the land and the deeds say ===== -/
theorem slot_c (p f : Nat) : f_X6_slot (nI p) (nI f) = some (nI (p * 5 + f)) := by
  unfold f_X6_slot
  rw [show (5 : Int32) = nI 5 from rfl, nI_mul, nI_add]
theorem ix_m (p f : Nat) : ((5 : Int32) + ((5 : Int32) * nI p)) + nI f = nI (5 + 5 * p + f) := by
  rw [show (5 : Int32) = nI 5 from rfl, nI_mul, nI_add, nI_add]
theorem thought_m {M : HC} {p f : Nat} (hp : p < 6) (hf : f < 5) : f_X7_thought M (nI p) (nI f) = some (M 1 (5 + 5 * p + f)) := by
  unfold f_X7_thought
  rw [ix_m, if_pos (inb_nI (by omega) (by omega)), nI_clamp (by omega)]
theorem th_eq {S M : HC} {F p f : Nat} (h : RSt S M 0 F) (hp : p < 6) (hf : f < 5) : S 4 (p * 5 + f) = M 1 (5 + 5 * p + f) := by
  rw [(h.2.1 (p * 5 + f) (by omega)).1]
  rw [show 0 + 5 + (p * 5 + f) = 5 + 5 * p + f by omega]
theorem th_bd {S M : HC} {F p f : Nat} (h : RSt S M 0 F) (hp : p < 6) (hf : f < 5) : ∃ a, a ≤ 99 ∧ M 1 (5 + 5 * p + f) = nI a := by
  have := (h.2.1 (p * 5 + f) (by omega)).2
  rw [show 0 + 5 + (p * 5 + f) = 5 + 5 * p + f by omega] at this
  exact this
/-- what all think together -/
def allS (g : Nat → Nat → Int32) (P F : Nat) : Int32 := itf (fun p s => itf (fun f s => s + g p f) 0 F s) 0 P 0
theorem all_c {C : CC} {P F : Nat} (hP : P ≤ 6) (hF : F ≤ 5) (l0 : C 2 0 0 = nI P) (l1 : C 2 0 1 = nI F) : f_X6_allThoughts C = some (allS (fun p f => C 4 4 (p * 5 + f)) P F) := by
  have inner : ∀ (rc4 : Int32 → Int32 → Option Int32) (p : Nat) (s : Int32), p < P → lp (fun _ _ => none : Int32 → Int32 → Option (Int32)) (f_X6_allThoughts_b17 C rc4 (nI p)) FU s (nI 0) = rc4 (itf (fun f s => s + C 4 4 (p * 5 + f)) 0 F s) (nI (p + 1)) := by
    intro rc4 p s hp
    refine lp_for (T := Int32 → Int32 → Option Int32) (fun g k s => g s (nI k)) F _ (fun s => rc4 s (nI (p + 1))) ?_ ?_ FU F 0 s (by omega) (by have := FU_gt; omega)
    · intro rc k s hk
      unfold f_X6_allThoughts_b17
      rw [l1, if_neg (nI_ge hk (by omega)), slot_c]
      simp only [bd, nm]
      rw [if_pos (inb_nI (by omega) (by omega)), nI_clamp (by omega), nI_1]
    · intro rc s
      unfold f_X6_allThoughts_b17
      rw [l1, if_pos (nI_le (Nat.le_refl _) (by omega))]
      simp only [nm]
      rw [nI_1]
  unfold f_X6_allThoughts
  refine lp_for (T := Int32 → Int32 → Option Int32) (fun g k s => g s (nI k)) P _ some ?_ ?_ FU P 0 0 (by omega) (by have := FU_gt; omega)
  · intro rc k s hk
    unfold f_X6_allThoughts_b4
    rw [l0, if_neg (nI_ge hk (by omega))]
    exact inner rc k s hk
  · intro rc s
    unfold f_X6_allThoughts_b4
    rw [l0, if_pos (nI_le (Nat.le_refl _) (by omega))]
theorem all_m {M : HC} {P F : Nat} (hP : P ≤ 6) (hF : F ≤ 5) (l0 : M 0 5 = nI P) (l1 : M 0 6 = nI F) : f_X7_allThoughts M = some (allS (fun p f => M 1 (5 + 5 * p + f)) P F) := by
  have inner : ∀ (rc4 : Int32 → Int32 → Option Int32) (p : Nat) (s : Int32), p < P → lp (fun _ _ => none : Int32 → Int32 → Option (Int32)) (f_X7_allThoughts_b14 M rc4 (nI p)) FU s (nI 0) = rc4 (itf (fun f s => s + M 1 (5 + 5 * p + f)) 0 F s) (nI (p + 1)) := by
    intro rc4 p s hp
    refine lp_for (T := Int32 → Int32 → Option Int32) (fun g k s => g s (nI k)) F _ (fun s => rc4 s (nI (p + 1))) ?_ ?_ FU F 0 s (by omega) (by have := FU_gt; omega)
    · intro rc k s hk
      unfold f_X7_allThoughts_b14
      rw [l1, if_neg (nI_ge hk (by omega)), thought_m (by omega) (by omega)]
      simp only [bd, nm]
      rw [nI_1]
    · intro rc s
      unfold f_X7_allThoughts_b14
      rw [l1, if_pos (nI_le (Nat.le_refl _) (by omega))]
      simp only [nm]
      rw [nI_1]
  unfold f_X7_allThoughts
  refine lp_for (T := Int32 → Int32 → Option Int32) (fun g k s => g s (nI k)) P _ some ?_ ?_ FU P 0 0 (by omega) (by have := FU_gt; omega)
  · intro rc k s hk
    unfold f_X7_allThoughts_b4
    rw [l0, if_neg (nI_ge hk (by omega))]
    exact inner rc k s hk
  · intro rc s
    unfold f_X7_allThoughts_b4
    rw [l0, if_pos (nI_le (Nat.le_refl _) (by omega))]
theorem all_eq {C : CC} {M : HC} {P F T R : Nat} (hL : RLand (C 2) M P F T R) (hS : RSt (C 4) M 0 F) : ∃ v, f_X6_allThoughts C = some v ∧ f_X7_allThoughts M = some v := by
  obtain ⟨⟨hP, hF, hT, hRR⟩, ⟨l0, m0⟩, ⟨l1, m1⟩, -⟩ := hL
  refine ⟨_, all_c hP hF l0 l1, ?_⟩
  rw [all_m hP hF m0 m1]
  congr 1
  unfold allS
  exact itf_congr _ _ _ fun p s _ hp => itf_congr _ _ _ fun f s _ hf => by
    show s + M 1 (5 + 5 * p + f) = s + C 4 4 (p * 5 + f)
    rw [th_eq hS (by omega) (by omega)]
theorem op_told {C : CC} {M : HC} (hR : Rel C M) (p1 : Int32) : ∃ (v : Int32), f_X6_told C p1 = some v ∧ f_X7_told M p1 = some v ∧ Rel C M := by
  obtain ⟨P, F, T, R, hL, hS, hI0, hI1, hB, hX⟩ := id hR
  obtain ⟨w, w1, w2⟩ := all_eq hL hS
  obtain ⟨hb, ⟨l0, m0⟩, ⟨l1, m1⟩, ⟨l3, m3⟩, ⟨l4, m4⟩, l2, -⟩ := hL
  obtain ⟨n, -, x1, x2, -⟩ := hX.2
  obtain ⟨nb, -, b1, b2, -⟩ := hB
  have hd := hS.2.2.1
  unfold f_X6_told f_X7_told
  rw [if_pos (show inb (45 : Int32) 141 by decide), show (45 : Int32).toNatClampNeg = 45 by decide]
  rw [w1, w2, l0, m0, l1, m1, l2, l3, m3, l4, m4, x1, x2, b1, b2, hd]
  simp only [bd]
  repeat' split
  all_goals exact ⟨_, rfl, rfl, hR⟩
theorem two_if {p : Int32} {n : Nat} (hn : n < 2 ^ 31) : (∃ k, k < n ∧ p = nI k ∧ (if 0 ≤ p.toInt ∧ p.toInt < n then (1 : Int32) else 0) = 1) ∨ (if 0 ≤ p.toInt ∧ p.toInt < n then (1 : Int32) else 0) = 0 := by
  by_cases h : 0 ≤ p.toInt ∧ p.toInt < n
  · obtain ⟨k, h1, h2⟩ := exk h hn
    exact Or.inl ⟨k, h1, h2, if_pos h⟩
  · exact Or.inr (if_neg h)
/-- a fighter is there for both, or for neither -/
theorem isF {C : CC} {M : HC} {P F T R : Nat} (hL : RLand (C 2) M P F T R) (p : Int32) : (∃ k, k < F ∧ p = nI k ∧ f_X6_isFighter C p = some 1 ∧ f_X7_isFighter M p = some 1) ∨ (f_X6_isFighter C p = some 0 ∧ f_X7_isFighter M p = some 0) := by
  obtain ⟨⟨hP, hF, hT, hRR⟩, ⟨l0, m0⟩, ⟨l1, m1⟩, -⟩ := hL
  rw [isF_c l1 hF, isF_m m1 hF]
  rcases two_if (p := p) (n := F) (by omega) with ⟨k, h1, h2, h3⟩ | h
  · rw [h3]; exact Or.inl ⟨k, h1, h2, rfl, rfl⟩
  · rw [h]; exact Or.inr ⟨rfl, rfl⟩
theorem isP {C : CC} {M : HC} {P F T R : Nat} (hL : RLand (C 2) M P F T R) (p : Int32) : (∃ k, k < P ∧ p = nI k ∧ f_X6_isPerson C p = some 1 ∧ f_X7_isOne M p = some 1) ∨ (f_X6_isPerson C p = some 0 ∧ f_X7_isOne M p = some 0) := by
  obtain ⟨⟨hP, hF, hT, hRR⟩, ⟨l0, m0⟩, ⟨l1, m1⟩, -⟩ := hL
  rw [isP_c l0 hP, isP_m m0 hP]
  rcases two_if (p := p) (n := P) (by omega) with ⟨k, h1, h2, h3⟩ | h
  · rw [h3]; exact Or.inl ⟨k, h1, h2, rfl, rfl⟩
  · rw [h]; exact Or.inr ⟨rfl, rfl⟩
theorem isT {C : CC} {M : HC} {P F T R : Nat} (hL : RLand (C 2) M P F T R) (p : Int32) : (∃ k, k < T ∧ p = nI k ∧ f_X6_isTask C p = some 1 ∧ f_X7_isTask M p = some 1) ∨ (f_X6_isTask C p = some 0 ∧ f_X7_isTask M p = some 0) := by
  obtain ⟨⟨hP, hF, hT, hRR⟩, ⟨l0, m0⟩, ⟨l1, m1⟩, ⟨l3, m3⟩, -⟩ := hL
  rw [isT_c l3 hT, isT_m m3 hT]
  rcases two_if (p := p) (n := T) (by omega) with ⟨k, h1, h2, h3⟩ | h
  · rw [h3]; exact Or.inl ⟨k, h1, h2, rfl, rfl⟩
  · rw [h]; exact Or.inr ⟨rfl, rfl⟩
theorem one_ne0 : ¬ (1 : Int32) = 0 := by decide
theorem op_thinks {C : CC} {M : HC} (hR : Rel C M) (p1 p2 : Int32) : ∃ (v : Int32), f_X6_thinks C p1 p2 = some v ∧ f_X7_thinks M p1 p2 = some v ∧ Rel C M := by
  obtain ⟨P, F, T, R, hL, hS, hI0, hI1, hB, hX⟩ := id hR
  have hb := hL.1
  unfold f_X6_thinks f_X7_thinks f_X7_thinks_j25
  rcases isP hL p1 with ⟨k, k1, rfl, k2, k3⟩ | ⟨k2, k3⟩
  · rw [k2, k3]
    simp only [bd, if_neg one_ne0]
    rcases isF hL p2 with ⟨f, f1, rfl, f2, f3⟩ | ⟨f2, f3⟩
    · rw [f2, f3]
      simp only [if_neg one_ne0]
      rw [slot_c, thought_m (by omega) (by omega)]
      simp only []
      rw [if_pos (inb_nI (by omega) (by omega)), nI_clamp (by omega), th_eq hS (by omega) (by omega)]
      exact ⟨_, rfl, rfl, hR⟩
    · rw [f2, f3]; exact ⟨_, rfl, rfl, hR⟩
  · rw [k2, k3]; exact ⟨_, rfl, rfl, hR⟩
theorem op_chats {C : CC} {M : HC} (hR : Rel C M) (p1 : Int32) : ∃ (v : Int32), f_X6_chats C p1 = some v ∧ f_X7_chats M p1 = some v ∧ Rel C M := by
  obtain ⟨P, F, T, R, hL, hS, hI0, hI1, hB, hX⟩ := id hR
  have hb := hL.1
  unfold f_X6_chats f_X7_chats
  rcases isP hL p1 with ⟨k, k1, rfl, k2, k3⟩ | ⟨k2, k3⟩
  · rw [k2, k3]
    simp only [bd, if_neg one_ne0]
    rw [if_pos (inb_nI (by omega) (by omega)), if_pos (inb_nI (by omega) (by omega)), nI_clamp (by omega), hL.2.2.2.2.2.2.2.1 k k1]
    exact ⟨_, rfl, rfl, hR⟩
  · rw [k2, k3]; exact ⟨_, rfl, rfl, hR⟩
