/-! ===== pure: what stays; the small calls ===== -/
theorem RSt_M {S M M' : HC} {o F : Nat} (hF : F ≤ 5) (h : RSt S M o F) (e : ∀ j, o ≤ j → j < o + 47 → M' 1 j = M 1 j) : RSt S M' o F := by
  obtain ⟨h1, h2, h3, h4, h5⟩ := h
  refine ⟨fun f hf => ?_, fun k hk => ?_, ?_, ?_, ?_⟩
  · rw [e (o + f) (by omega) (by omega), e (o + 35 + f) (by omega) (by omega), e (o + 40 + f) (by omega) (by omega)]; exact h1 f hf
  · rw [e (o + 5 + k) (by omega) (by omega)]; exact h2 k hk
  · rw [e (o + 45) (by omega) (by omega)]; exact h3
  · rw [e (o + 46) (by omega) (by omega)]; exact h4
  · rw [e (o + 46) (by omega) (by omega)]; exact h5
theorem RImg_M {S M M' : HC} {i F : Nat} (hF : F ≤ 5) (h : RImg S M i F) (e2 : M' 2 i = M 2 i) (e : ∀ j, 47 * (1 + i) ≤ j → j < 47 * (1 + i) + 47 → M' 1 j = M 1 j) : RImg S M' i F := by
  obtain ⟨h1, h2⟩ := h
  refine ⟨by rw [e2]; exact h1, ?_⟩
  rw [e2]
  rcases h2 with h2 | ⟨h2, h3⟩
  · exact Or.inl h2
  · exact Or.inr ⟨h2, RSt_M hF h3 e⟩
theorem upd_same (f : Nat → Int32) (k : Nat) (v : Int32) : upd f k v k = v := by simp [upd]
theorem upd_ne (f : Nat → Int32) (k : Nat) (v : Int32) {j : Nat} (h : j ≠ k) : upd f k v j = f j := by simp [upd, h]
theorem nI_ofp {p : Int32} (h : 0 ≤ p) : ∃ a, a < 2147483648 ∧ p = nI a := by
  obtain ⟨j, h1, h2⟩ := nI_of (x := p) (by rw [Int32.not_lt]; exact h)
  exact ⟨j, by simpa using h1, h2⟩
theorem op_fault {C : CC} {M : HC} (hR : Rel C M) : ∃ (v : Int32), f_X6_fault C = some v ∧ f_X7_fault M = some v ∧ Rel C M := by
  obtain ⟨P, F, T, R, hL, hS, hI0, hI1, hB, hX⟩ := id hR
  exact ⟨M 0 4, by unfold f_X6_fault; rw [hX.1], rfl, hR⟩
theorem op_tear {C : CC} {M : HC} (hR : Rel C M) : ∃ (v : Int32) (C2 : CC) (M2 : HC), f_X6_tear C = some (v, C2) ∧ f_X7_tear M = some (v, M2) ∧ Rel C2 M2 := by
  obtain ⟨P, F, T, R, hL, hS, hI0, hI1, hB, hX⟩ := id hR
  obtain ⟨n, hn, b1, b2, b3⟩ := hB
  refine ⟨nI n, va_up C 7 (sf (C 7) 2 0), sf M 16 0, by unfold f_X6_tear; simp only [nm, b1], by unfold f_X7_tear; simp only [nm, b2], ?_⟩
  exact ⟨P, F, T, R, hL, hS, hI0, hI1, ⟨0, by omega, rfl, rfl, fun k h => by omega⟩, hX⟩
theorem op_seed {C : CC} {M : HC} (hR : Rel C M) (p1 : Int32) : ∃ (v : Int32) (C2 : CC) (M2 : HC), f_X6_seed C p1 = some (v, C2) ∧ f_X7_seed M p1 = some (v, M2) ∧ Rel C2 M2 := by
  obtain ⟨P, F, T, R, hL, hS, hI0, hI1, hB, hX⟩ := id hR
  have hF : F ≤ 5 := hL.1.2.1
  unfold f_X6_seed f_X7_seed
  by_cases h : 0 ≤ p1
  · rw [if_pos h, if_pos h, if_pos (show inb (46 : Int32) 141 by decide)]
    simp only [nm]
    rw [if_pos (show inb (46 : Int32) 141 by decide)]
    have e46 : (46 : Int32).toNatClampNeg = 46 := by decide
    refine ⟨_, _, _, rfl, by rw [hS.2.2.2.1, e46], ?_⟩
    have em : ∀ j, j ≠ 46 → (sa M 1 (46 : Int32) p1) 1 j = M 1 j := fun j hj => by
      show upd (M 1) (46 : Int32).toNatClampNeg p1 j = M 1 j
      rw [e46]; exact upd_ne _ _ _ hj
    have em2 : (sa M 1 (46 : Int32) p1) 1 46 = p1 := by
      show upd (M 1) (46 : Int32).toNatClampNeg p1 46 = p1
      rw [e46]; exact upd_same _ _ _
    obtain ⟨s1, s2, s3, s4, s5⟩ := hS
    refine ⟨P, F, T, R, hL, ⟨fun f hf => ?_, fun k hk => ?_, ?_, ?_, ?_⟩, RImg_M hF hI0 rfl (fun j h1 h2 => em j (by omega)), RImg_M hF hI1 rfl (fun j h1 h2 => em j (by omega)), hB, hX⟩
    · rw [em _ (by omega), em _ (by omega), em _ (by omega)]; exact s1 f hf
    · rw [em _ (by omega)]; exact s2 k hk
    · rw [em _ (by omega)]; exact s3
    · rw [em2]; rfl
    · rw [em2]; exact nI_ofp h
  · rw [if_neg h, if_neg h]
    exact ⟨_, _, _, rfl, rfl, hR⟩
