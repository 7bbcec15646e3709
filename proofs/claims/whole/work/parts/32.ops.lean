/-! ===== pure: what a belt tells ===== -/
theorem gcd_c : ∀ n, n < 6 → ∀ a, a < 6 → 1 ≤ n → f_X6_commonDivisor (nI n) (nI a) = some (nI (Nat.gcd n a)) ∧ f_X7_divisor (nI n) (nI a) = some (nI (Nat.gcd n a)) := by decide +kernel
theorem div_0 : ∀ a, a < 6 → 1 ≤ a → f_X7_divisor (nI 0) (nI a) = some (nI a) ∧ nI 0 / nI a = 0 ∧ nI a / nI a = 1 := by decide +kernel
def tStp (rv sv : Nat → Int32) (b s0 : Int32) : Nat → Nat × Nat → Nat × Nat := fun f q => if rv f = b then (q.1 + 1, if sv f < s0 then q.2 else q.2 + 1) else q
theorem tells_bd (rv sv : Nat → Int32) (b s0 : Int32) (F : Nat) : (itf (tStp rv sv b s0) 0 F (0, 0)).2 ≤ (itf (tStp rv sv b s0) 0 F (0, 0)).1 ∧ (itf (tStp rv sv b s0) 0 F (0, 0)).1 ≤ F := by
  have := itf_inv (stp := tStp rv sv b s0) (fun k (q : Nat × Nat) => q.2 ≤ q.1 ∧ q.1 ≤ k) F 0 (0, 0) ⟨Nat.le_refl _, Nat.le_refl _⟩ (fun j s _ _ h => by
    unfold tStp
    by_cases h1 : rv j = b
    · rw [if_pos h1]
      by_cases h2 : sv j < s0
      · rw [if_pos h2]; exact ⟨by dsimp only; omega, by dsimp only; omega⟩
      · rw [if_neg h2]; exact ⟨by dsimp only; omega, by dsimp only; omega⟩
    · rw [if_neg h1]; exact ⟨h.1, by omega⟩)
  rw [Nat.zero_add] at this
  exact this
theorem op_tells {C : CC} {M : HC} (hR : Rel C M) (p1 p2 p3 : Int32) : ∃ (v : Int32), f_X6_tells C p1 p2 p3 = some v ∧ f_X7_tells M p1 p2 p3 = some v ∧ Rel C M := by
  obtain ⟨P, F, T, R, hL, hS, hI0, hI1, hB, hX⟩ := id hR
  obtain ⟨⟨hP, hF, hT, hRR⟩, -, ⟨l1, m1⟩, -⟩ := id hL
  unfold f_X6_tells f_X7_tells
  rw [bnd_c2, bnd_c2, bnd_c, t0, t99, t1, in_z p1 _ _ 0 99 (by decide) (by decide), in_z p2 _ _ 0 99 (by decide) (by decide), in_z p3 _ _ 0 1 (by decide) (by decide)]
  simp only [bd]
  by_cases h1 : 0 ≤ p1.toInt ∧ p1.toInt ≤ 99
  · rw [if_pos h1, if_pos h1, if_neg one_ne0]
    by_cases h2 : 0 ≤ p2.toInt ∧ p2.toInt ≤ 99
    · rw [if_pos h2, if_pos h2, if_neg one_ne0]
      by_cases h3 : 0 ≤ p3.toInt ∧ p3.toInt ≤ 1
      · rw [if_pos h3, if_pos h3, if_neg one_ne0]
        let stp := tStp (fun f => rd (M 4 f) (M 1 f)) (fun f => M 5 f) p1 p2
        obtain ⟨⟨w, s⟩, rc, hi, h⟩ := lp_ex (T := Int32 → Int32 → Int32 → Option Int32) (z := fun _ _ _ => none) (F := f_X6_tells_b41 C p1 p2 p3) (fun g k (q : Nat × Nat) => g (nI q.1) (nI q.2) (nI k)) F (fun k q => q = itf stp 0 k (0, 0)) (by
          intro rc k q hq hk
          refine ⟨stp k q, ?_, by rw [itf_snoc, ← hq, Nat.zero_add]⟩
          unfold f_X6_tells_b41 f_X6_tells_j83
          simp only [l1, if_neg (nI_ge hk (by omega)), (rdN hL hS hk).1, bd, nm, if_pos (inb_nI (k := k) (n := 5) (by omega) (by omega)), nI_clamp (show k < 2 ^ 31 by omega), st_eq hL hk, nI_1]
          show _ = rc (nI (tStp _ _ p1 p2 k q).1) (nI (tStp _ _ p1 p2 k q).2) _
          unfold tStp
          dsimp only
          by_cases e1 : rd (M 4 k) (M 1 k) = p1
          · rw [if_pos e1, if_pos e1]
            by_cases e2 : M 5 k < p2
            · rw [if_pos e2, if_pos e2]
            · rw [if_neg e2, if_neg e2]
          · rw [if_neg e1, if_neg e1]) FU F 0 (0, 0) rfl (by omega) (by have := FU_gt; omega)
        obtain ⟨⟨w2, s2⟩, rc2, hi2, h'⟩ := lp_ex (T := Int32 → Int32 → Int32 → Option Int32) (z := fun _ _ _ => none) (F := f_X7_tells_b46 M p1 p2 p3) (fun g k (q : Nat × Nat) => g (nI q.1) (nI q.2) (nI k)) F (fun k q => q = itf stp 0 k (0, 0)) (by
          intro rc k q hq hk
          refine ⟨stp k q, ?_, by rw [itf_snoc, ← hq, Nat.zero_add]⟩
          unfold f_X7_tells_b46 f_X7_tells_j70 f_X7_tells_j84 f_X7_tells_j109 f_X7_tells_j110
          simp only [m1, if_neg (nI_ge hk (by omega)), (rdN hL hS hk).2, bd, nm, if_pos (inb_nI (k := k) (n := 5) (by omega) (by omega)), nI_clamp (show k < 2 ^ 31 by omega), nI_1, a0, if_neg one_ne0, if_pos]
          show _ = rc (nI (tStp _ _ p1 p2 k q).1) (nI (tStp _ _ p1 p2 k q).2) _
          unfold tStp
          dsimp only
          by_cases e1 : rd (M 4 k) (M 1 k) = p1
          · rw [if_pos e1, if_pos e1]
            by_cases e2 : M 5 k < p2
            · rw [if_pos e2, if_pos e2]
            · rw [if_neg e2, if_neg e2]
          · rw [if_neg e1, if_neg e1]) FU F 0 (0, 0) rfl (by omega) (by have := FU_gt; omega)
        have hww : (w, s) = (w2, s2) := hi.trans hi2.symm
        cases hww
        have hbd := tells_bd (fun f => rd (M 4 f) (M 1 f)) (fun f => M 5 f) p1 p2 F
        rw [show itf (tStp (fun f => rd (M 4 f) (M 1 f)) (fun f => M 5 f) p1 p2) 0 F (0, 0) = (w, s) from hi.symm] at hbd
        dsimp only at hbd
        rw [show lp (fun _ _ _ => none : Int32 → Int32 → Int32 → Option (Int32)) (f_X6_tells_b41 C p1 p2 p3) FU 0 0 0 = f_X6_tells_b41 C p1 p2 p3 rc (nI w) (nI s) (nI F) from h, show lp (fun _ _ _ => none : Int32 → Int32 → Int32 → Option (Int32)) (f_X7_tells_b46 M p1 p2 p3) FU 0 0 0 = f_X7_tells_b46 M p1 p2 p3 rc2 (nI w) (nI s) (nI F) from h']
        unfold f_X6_tells_b41 f_X7_tells_b46 f_X6_tells_j107
        rw [l1, m1, if_pos (nI_le (Nat.le_refl _) (by omega)), if_pos (nI_le (Nat.le_refl _) (by omega))]
        by_cases hs0 : s = 0
        · subst hs0
          rw [if_pos (show nI 0 = (0 : Int32) from rfl)]
          by_cases hw0 : w = 0
          · subst hw0
            rw [if_pos (show nI 0 = (0 : Int32) from rfl)]; exact ⟨_, rfl, rfl, hR⟩
          · obtain ⟨d1, d2, d3⟩ := div_0 w (by omega) (by omega)
            rw [if_neg (nI_ne0 (by omega) (by omega)), d1]
            simp only [bd]
            rw [if_pos (nI_ne0 (by omega) (by omega)), if_pos (nI_ne0 (by omega) (by omega)), d2, d3]
            obtain ⟨j, j1, rfl⟩ := exk (p := p3) (F := 2) (by omega) (by omega)
            rcases (show j = 0 ∨ j = 1 by omega) with rfl | rfl
            · exact ⟨_, rfl, rfl, hR⟩
            · exact ⟨_, rfl, rfl, hR⟩
        · obtain ⟨d1, d2⟩ := gcd_c s (by omega) w (by omega) (by omega)
          have hg : 0 < Nat.gcd s w := Nat.gcd_pos_of_pos_left _ (by omega)
          have hg2 : Nat.gcd s w ≤ s := Nat.gcd_le_left _ (by omega)
          rw [if_neg (nI_ne0 (n := s) (by omega) (by omega)), if_neg (nI_ne0 (n := w) (by omega) (by omega)), d1, d2]
          simp only [bd]
          rw [if_pos (nI_ne0 (by omega) (by omega)), if_pos (nI_ne0 (by omega) (by omega))]
          by_cases hp : p3 = 0
          · rw [if_pos hp]; exact ⟨_, rfl, rfl, hR⟩
          · rw [if_neg hp]; exact ⟨_, rfl, rfl, hR⟩
      · rw [if_neg h3, if_neg h3]; exact ⟨_, rfl, rfl, hR⟩
    · rw [if_neg h2, if_neg h2]; exact ⟨_, rfl, rfl, hR⟩
  · rw [if_neg h1, if_neg h1]; exact ⟨_, rfl, rfl, hR⟩
