/-! ===== pure: words ===== -/
def wS (a b : Nat) : Nat := if b ≤ a then (a - b) / 10 + 1 else 0
theorem nI_sub {a b : Nat} (h : b ≤ a) (ha : a < 2147483648) : nI a - nI b = nI (a - b) := by
  apply Int32.toInt_inj.mp
  rw [t_sub (by rw [nI_toInt (by omega), nI_toInt (by omega)]; omega) (by rw [nI_toInt (by omega), nI_toInt (by omega)]; omega), nI_toInt (by omega), nI_toInt (by omega), nI_toInt (by omega)]
  omega
theorem words_c {C : CC} {f a b : Nat} (hf : f < 5) (hs : C 2 2 f = nI b) (hb : b ≤ 99) (ha : a ≤ 99) : f_X6_wordsTo C (nI f) (nI a) = some (nI (wS a b)) := by
  unfold f_X6_wordsTo wS
  rw [if_pos (inb_nI (by omega) (by omega)), nI_clamp (by omega), hs]
  simp only [nm]
  by_cases h : b ≤ a
  · rw [if_pos h, nI_sub h (by omega), if_pos (nI_pos' (by omega))]
    have : ∀ d, d ≤ 99 → nI d / 10 + 1 = nI (d / 10 + 1) := by decide +kernel
    rw [this (a - b) (by omega)]
  · rw [if_neg h, if_neg]
    · rfl
    · rw [i_le, t0, t_sub (by rw [nI_toInt (by omega), nI_toInt (by omega)]; omega) (by rw [nI_toInt (by omega), nI_toInt (by omega)]; omega), nI_toInt (by omega), nI_toInt (by omega)]
      omega
theorem words_s {M : HC} {f b : Nat} (hf : f < 5) (hs : M 5 f = nI b) (hb : b ≤ 99) (rc : Int32 → Int32 → Option Int32) (n a : Nat) (ha : a ≤ 99) : f_X7_wordsTo_b5 M (nI f) rc (nI n) (nI a) = if a < b then some (nI n) else rc (nI (n + 1)) (nI (a - 10)) := by
  unfold f_X7_wordsTo_b5 f_X7_wordsTo_j32
  rw [if_pos (inb_nI (by omega) (by omega)), nI_clamp (by omega), hs]
  simp only [nm, nI_1]
  by_cases hl : a < b
  · rw [if_pos (nI_lt hl (by omega)), if_pos hl]
  · rw [if_neg (nI_nlt (by omega) (by omega)), if_neg hl]
    by_cases h10 : 10 ≤ a
    · rw [if_pos (show (10 : Int32) ≤ nI a from nI_le (a := 10) h10 (by omega)), show nI a - 10 = nI (a - 10) from nI_sub (b := 10) h10 (by omega)]
    · rw [if_neg (show ¬ (10 : Int32) ≤ nI a from nI_ge (b := 10) (by omega) (by omega)), show a - 10 = 0 by omega]
      rfl
theorem words_l {M : HC} {f b : Nat} (hf : f < 5) (hs : M 5 f = nI b) (hb : b ≤ 99) (hb1 : 1 ≤ b) : ∀ (m n a : Nat), a < m → a ≤ 99 → lp (fun _ _ => none : Int32 → Int32 → Option (Int32)) (f_X7_wordsTo_b5 M (nI f)) m (nI n) (nI a) = some (nI (n + wS a b)) := by
  intro m
  induction m with
  | zero => intro n a h; omega
  | succ m ih =>
    intro n a h1 h2
    rw [lp_s, words_s hf hs hb _ n a h2]
    by_cases hl : a < b
    · rw [if_pos hl]
      unfold wS
      rw [if_neg (by omega), Nat.add_zero]
    · rw [if_neg hl, ih (n + 1) (a - 10) (by omega) (by omega)]
      congr 2
      unfold wS
      rw [if_pos (show b ≤ a by omega)]
      split <;> omega
theorem words_m {M : HC} {f a b : Nat} (hf : f < 5) (hs : M 5 f = nI b) (hb : b ≤ 99) (hb1 : 1 ≤ b) (ha : a ≤ 99) : f_X7_wordsTo M (nI f) (nI a) = some (nI (wS a b)) := by
  unfold f_X7_wordsTo
  have := words_l hf hs hb hb1 FU 0 a (by have := FU_gt; omega) ha
  rw [Nat.zero_add] at this
  exact this
theorem rdB {C : CC} {M : HC} {P F T R f : Nat} (hL : RLand (C 2) M P F T R) (hS : RSt (C 4) M 0 F) (hf : f < F) : ∃ a, a ≤ 99 ∧ f_X6_readsNow C (nI f) = some (nI a) ∧ f_X7_readsNow M (nI f) = some (nI a) := by
  obtain ⟨b, b1, b2⟩ := be_bd hS hf
  obtain ⟨a, a1, a2⟩ := rd_bd (M 4 f) b1
  refine ⟨a, a1, ?_, ?_⟩
  · rw [(rdN hL hS hf).1, b2, a2]
  · rw [(rdN hL hS hf).2, b2, a2]
theorem op_words {C : CC} {M : HC} (hR : Rel C M) (p1 p2 : Int32) : ∃ (v : Int32), f_X6_words C p1 p2 = some v ∧ f_X7_words M p1 p2 = some v ∧ Rel C M := by
  obtain ⟨P, F, T, R, hL, hS, hI0, hI1, hB, hX⟩ := id hR
  have hb := hL.1
  unfold f_X6_words f_X7_words f_X7_words_j42
  rcases isF hL p1 with ⟨f, f1, rfl, f2, f3⟩ | ⟨f2, f3⟩
  · rw [f2, f3]
    simp only [bd, if_neg one_ne0]
    rcases isF hL p2 with ⟨g, g1, rfl, g2, g3⟩ | ⟨g2, g3⟩
    · rw [g2, g3]
      simp only [if_neg one_ne0]
      obtain ⟨a, a1, a2⟩ := st_bd hL f1
      obtain ⟨b, b1, b2⟩ := st_bd hL g1
      by_cases hfg : nI f = nI g
      · rw [if_pos hfg, if_pos hfg]; exact ⟨_, rfl, rfl, hR⟩
      · rw [if_neg hfg, if_neg hfg, if_pos (inb_nI (k := f) (n := 5) (by omega) (by omega)), if_pos (inb_nI (k := g) (n := 5) (by omega) (by omega)), if_pos (inb_nI (k := f) (n := 5) (by omega) (by omega)), if_pos (inb_nI (k := g) (n := 5) (by omega) (by omega)), nI_clamp (n := f) (by omega), nI_clamp (n := g) (by omega), st_eq hL f1, st_eq hL g1, a2, b2]
        by_cases ha : nI a = 0
        · rw [if_pos ha, if_pos ha]; exact ⟨_, rfl, rfl, hR⟩
        · rw [if_neg ha, if_neg ha]
          by_cases hb0 : nI b = 0
          · rw [if_pos hb0, if_pos hb0]; exact ⟨_, rfl, rfl, hR⟩
          · rw [if_neg hb0, if_neg hb0]
            have ha1 : 1 ≤ a := by
              rcases Nat.eq_zero_or_pos a with h | h
              · exact absurd (by rw [h]; rfl) ha
              · exact h
            have hb1' : 1 ≤ b := by
              rcases Nat.eq_zero_or_pos b with h | h
              · exact absurd (by rw [h]; rfl) hb0
              · exact h
            obtain ⟨x, x1, x2, x3⟩ := rdB hL hS f1
            obtain ⟨y, y1, y2, y3⟩ := rdB hL hS g1
            rw [x2, x3, y2, y3]
            simp only []
            rw [words_c (C := C) (f := f) (a := y) (b := a) (by omega) (by rw [st_eq hL f1, a2]) a1 y1, words_c (C := C) (f := g) (a := x) (b := b) (by omega) (by rw [st_eq hL g1, b2]) b1 x1, words_m (M := M) (f := f) (a := y) (b := a) (by omega) a2 a1 ha1 y1, words_m (M := M) (f := g) (a := x) (b := b) (by omega) b2 b1 hb1' x1]
            exact ⟨_, rfl, rfl, hR⟩
    · rw [g2, g3]; exact ⟨_, rfl, rfl, hR⟩
  · rw [f2, f3]; exact ⟨_, rfl, rfl, hR⟩
