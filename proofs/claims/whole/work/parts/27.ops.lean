/-! ===== pure: the book, the images ===== -/
theorem RLand_M {L M M' : HC} {P F T R : Nat} (h : RLand L M P F T R) (e5 : M' 0 5 = M 0 5) (e6 : M' 0 6 = M 0 6) (e9 : M' 0 9 = M 0 9) (e11 : M' 0 11 = M 0 11) (e13 : M' 0 13 = M 0 13) (a4 : M' 4 = M 4) (a5 : M' 5 = M 5) (a6 : M' 6 = M 6) (a7 : M' 7 = M 7) (a8 : M' 8 = M 8) : RLand L M' P F T R := by
  unfold RLand at h ⊢
  rw [e5, e6, e9, e11, e13, a4, a5, a6, a7, a8]
  exact h
theorem sf_ne (X : HC) (k : Nat) (v : Int32) {j : Nat} (h : j ≠ 0) : sf X k v j = X j := by simp [sf, va_up, h]
theorem sf_at (X : HC) (k : Nat) (v : Int32) (m : Nat) : sf X k v 0 m = if m = k then v else X 0 m := by simp [sf, va_up, upd]
theorem sa_ne (X : HC) (j : Nat) (i v : Int32) {j' : Nat} (h : j' ≠ j) : sa X j i v j' = X j' := by simp [sa, va_up, h]
theorem va_ne (C : CC) (c : Nat) (X : HC) {c' : Nat} (h : c' ≠ c) : va_up C c X c' = C c' := by simp [va_up, h]
theorem va_eq (C : CC) (c : Nat) (X : HC) : va_up C c X c = X := by simp [va_up]
/-- the book alone is another -/
theorem rel_book {C : CC} {M M' : HC} {P F T R : Nat} (hL : RLand (C 2) M P F T R) (hS : RSt (C 4) M 0 F) (hI0 : RImg (C 5) M 0 F) (hI1 : RImg (C 6) M 1 F) (hX : RText (C 1) M) (X : HC) (hM : ∀ j, j ≠ 0 → j ≠ 9 → M' j = M j) (h0 : ∀ k, k ≠ 16 → M' 0 k = M 0 k) (hB : RBook X M' P F) : Rel (va_up C 7 X) M' := by
  have hF := hL.1.2.1
  refine ⟨P, F, T, R, RLand_M ?_ (h0 5 (by omega)) (h0 6 (by omega)) (h0 9 (by omega)) (h0 11 (by omega)) (h0 13 (by omega)) (hM 4 (by omega) (by omega)) (hM 5 (by omega) (by omega)) (hM 6 (by omega) (by omega)) (hM 7 (by omega) (by omega)) (hM 8 (by omega) (by omega)), RSt_M hF ?_ (fun j _ _ => by rw [hM 1 (by omega) (by omega)]), RImg_M hF ?_ (by rw [hM 2 (by omega) (by omega)]) (fun j _ _ => by rw [hM 1 (by omega) (by omega)]), RImg_M hF ?_ (by rw [hM 2 (by omega) (by omega)]) (fun j _ _ => by rw [hM 1 (by omega) (by omega)]), ?_, ?_⟩
  · rw [va_ne _ _ _ (by omega)]; exact hL
  · rw [va_ne _ _ _ (by omega)]; exact hS
  · rw [va_ne _ _ _ (by omega)]; exact hI0
  · rw [va_ne _ _ _ (by omega)]; exact hI1
  · rw [va_eq]; exact hB
  · rw [va_ne _ _ _ (by omega)]
    unfold RText
    rw [h0 4 (by omega), h0 3 (by omega), hM 3 (by omega) (by omega)]
    exact hX
theorem op_note {C : CC} {M : HC} (hR : Rel C M) (p1 p2 p3 : Int32) : ∃ (v : Int32) (C2 : CC) (M2 : HC), f_X6_note C p1 p2 p3 = some (v, C2) ∧ f_X7_note M p1 p2 p3 = some (v, M2) ∧ Rel C2 M2 := by
  obtain ⟨P, F, T, R, hL, hS, hI0, hI1, hB, hX⟩ := id hR
  have hb := hL.1
  obtain ⟨n, n1, n2, n3, n4⟩ := hB
  unfold f_X6_note f_X7_note
  rcases isP hL p1 with ⟨k, k1, rfl, k2, k3⟩ | ⟨k2, k3⟩
  · rw [k2, k3]
    simp only [bd, if_neg one_ne0]
    rcases isF hL p2 with ⟨f, f1, rfl, f2, f3⟩ | ⟨f2, f3⟩
    · rw [f2, f3]
      simp only [if_neg one_ne0]
      rw [bnd_c, t0, t99]
      rcases in_lit p3 99 (99 : Int64) (by decide) (by omega) with ⟨j, j1, rfl, j2⟩ | ⟨j1, j2⟩
      · rw [j2, if_pos (by rw [nI_toInt (by omega)]; omega)]
        simp only [if_neg one_ne0]
        rw [slot_c, n3]
        simp only []
        by_cases h2 : n = 15
        · subst h2
          have e6 : f_X1_enter (C 7) (nI (k * 5 + f)) (nI j) = some ((-1000000004 : Int32), C 7) := by
            unfold f_X1_enter
            rw [n2, if_neg (show ¬ nI 15 < (15 : Int32) from nI_nlt (a := 15) (b := 15) (by omega) (by omega))]
          rw [e6, if_pos (show nI 15 = (15 : Int32) from rfl)]
          simp only [nm]
          refine ⟨_, _, _, rfl, rfl, ⟨P, F, T, R, hL, hS, hI0, hI1, ?_, hX⟩⟩
          exact ⟨15, by omega, n2, n3, n4⟩
        · have e6 : f_X1_enter (C 7) (nI (k * 5 + f)) (nI j) = some (nI (n + 1), sf (sa (sa (C 7) 1 (nI n) (nI (k * 5 + f))) 2 (nI n) (nI j)) 2 (nI (n + 1))) := by
            have a1 : ∀ (i v : Int32), sa (C 7) 1 i v 0 2 = nI n := fun _ _ => n2
            have a2 : ∀ (i v i2 v2 : Int32), sa (sa (C 7) 1 i v) 2 i2 v2 0 2 = nI n := fun _ _ _ _ => n2
            have a3 : ∀ (X : HC) (v : Int32), sf X 2 v 0 2 = v := fun _ _ => rfl
            have i15 : inb (nI n) 15 := inb_nI (by omega) (by omega)
            unfold f_X1_enter
            simp only [n2, if_pos (show nI n < (15 : Int32) from nI_lt (b := 15) (by omega) (by omega)), if_pos i15, nm, a1, a2, a3, nI_1]
          have a1 : ∀ (i v : Int32), sa M 9 i v 0 16 = nI n := fun _ _ => n3
          have a2 : ∀ (i v i2 v2 : Int32), sa (sa M 9 i v) 9 i2 v2 0 16 = nI n := fun _ _ _ _ => n3
          have a3 : ∀ (i v i2 v2 i3 v3 : Int32), sa (sa (sa M 9 i v) 9 i2 v2) 9 i3 v3 0 16 = nI n := fun _ _ _ _ _ _ => n3
          have a4 : ∀ (X : HC) (v : Int32), sf X 16 v 0 16 = v := fun _ _ => rfl
          rw [e6]
          simp only [nm, if_neg (show ¬ nI n = (15 : Int32) from fun e => h2 ((nI_eq (a := n) (b := 15) (by omega) (by omega)).mp e)), a1, a2, a3, a4, ix30, nI_1,
            show nI (3 * n) + (1 : Int32) = nI (3 * n + 1) from nI_1 _, show nI (3 * n) + (2 : Int32) = nI (3 * n + 2) from nI_add _ 2,
            if_pos (inb_nI (k := 3 * n) (n := 45) (by omega) (by omega)), if_pos (inb_nI (k := 3 * n + 1) (n := 45) (by omega) (by omega)), if_pos (inb_nI (k := 3 * n + 2) (n := 45) (by omega) (by omega))]
          refine ⟨_, _, _, rfl, rfl, ?_⟩
          refine rel_book hL hS hI0 hI1 hX _ (fun j h1 h2 => by rw [sf_ne _ _ _ h1, sa_ne _ _ _ _ h2, sa_ne _ _ _ _ h2, sa_ne _ _ _ _ h2]) (fun k h1 => by rw [sf_at, if_neg h1, sa_ne _ _ _ _ (by omega), sa_ne _ _ _ _ (by omega), sa_ne _ _ _ _ (by omega)]) ?_
          refine ⟨n + 1, by omega, by rw [sf_at, if_pos rfl], by rw [sf_at, if_pos rfl], fun m hm => ?_⟩
          have w1 : ∀ m, sf (sa (sa (C 7) 1 (nI n) (nI (k * 5 + f))) 2 (nI n) (nI j)) 2 (nI (n + 1)) 1 m = if m = n then nI (k * 5 + f) else C 7 1 m := fun m => by
            rw [sf_ne _ _ _ (by omega), sa_ne _ _ _ _ (by omega), sa_at (by omega)]
          have w2 : ∀ m, sf (sa (sa (C 7) 1 (nI n) (nI (k * 5 + f))) 2 (nI n) (nI j)) 2 (nI (n + 1)) 2 m = if m = n then nI j else C 7 2 m := fun m => by
            rw [sf_ne _ _ _ (by omega), sa_at (by omega), sa_ne _ _ _ _ (by omega)]
          have w3 : ∀ m, (sf (sa (sa (sa M 9 (nI (3 * n)) (nI k)) 9 (nI (3 * n + 1)) (nI f)) 9 (nI (3 * n + 2)) (nI j)) 16 (nI (n + 1))) 9 m = if m = 3 * n + 2 then nI j else if m = 3 * n + 1 then nI f else if m = 3 * n then nI k else M 9 m := fun m => by
            rw [sf_ne _ _ _ (by omega), sa_at (by omega), sa_at (by omega), sa_at (by omega)]
          by_cases h3 : m = n
          · subst h3
            refine ⟨k, f, k1, f1, ?_, ?_, ?_, ?_⟩
            · rw [w1, if_pos rfl, Nat.mul_comm 5 k]
            · rw [w3, if_neg (by omega), if_neg (by omega), if_pos rfl]
            · rw [w3, if_neg (by omega), if_pos rfl]
            · rw [w2, w3, if_pos rfl, if_pos rfl]
          · obtain ⟨p, g, q1, q2, q3, q4, q5, q6⟩ := n4 m (by omega)
            refine ⟨p, g, q1, q2, ?_, ?_, ?_, ?_⟩
            · rw [w1, if_neg h3]; exact q3
            · rw [w3, if_neg (by omega), if_neg (by omega), if_neg (by omega)]; exact q4
            · rw [w3, if_neg (by omega), if_neg (by omega), if_neg (by omega)]; exact q5
            · rw [w2, w3, if_neg h3, if_neg (by omega), if_neg (by omega), if_neg (by omega)]; exact q6
      · rw [j2, if_neg (by exact j1)]; exact ⟨_, _, _, rfl, rfl, hR⟩
    · rw [f2, f3]; exact ⟨_, _, _, rfl, rfl, hR⟩
  · rw [k2, k3]; exact ⟨_, _, _, rfl, rfl, hR⟩
theorem itx_some {σ R : Type} {stp : Nat → σ → σ ⊕ Option R} {fin : σ → Option R} (h1 : ∀ k s r, stp k s = .inr r → ∃ v, r = some v) (h2 : ∀ s, ∃ v, fin s = some v) : ∀ (n k : Nat) (s : σ), ∃ v, itx stp fin k n s = some v := by
  intro n
  induction n with
  | zero => intro k s; exact h2 s
  | succ n ih =>
    intro k s
    simp only [itx]
    cases e : stp k s with
    | inl s' => exact ih (k + 1) s'
    | inr r => exact h1 k s r e
theorem op_judge {C : CC} {M : HC} (hR : Rel C M) : ∃ (v : Int32), f_X6_judge C = some v ∧ f_X7_judge M = some v ∧ Rel C M := by
  obtain ⟨P, F, T, R, hL, hS, hI0, hI1, hB, hX⟩ := id hR
  have hb := hL.1
  obtain ⟨n, n1, n2, n3, n4⟩ := hB
  let stp : Nat → Unit → Unit ⊕ Option Int32 := fun k _ => if (C 4) 4 (Int32.toNatClampNeg ((C 7) 1 k)) = (C 7) 2 k then .inl () else .inr (some (nI k))
  obtain ⟨v, hv⟩ := itx_some (stp := stp) (fin := fun _ => some (-1 : Int32)) (fun k s r h => by
    by_cases h1 : (C 4) 4 (Int32.toNatClampNeg ((C 7) 1 k)) = (C 7) 2 k
    · simp [stp, h1] at h
    · simp [stp, h1] at h; exact ⟨_, h.symm⟩) (fun _ => ⟨_, rfl⟩) n 0 ()
  have e6 : f_X1_firstWrong (C 7) (C 4) = some v := by
    rw [← hv]
    unfold f_X1_firstWrong
    refine lp_up (T := Int32 → Option Int32) (fun g k (_ : Unit) => g (nI k)) n (fun _ _ => True) stp _ ?_ ?_ FU n 0 () trivial (by omega) (by have := FU_gt; omega)
    · intro rc k s _ hk
      obtain ⟨p, f, q1, q2, q3, q4, q5, q6⟩ := n4 k hk
      have i15 : inb (nI k) 15 := inb_nI (by omega) (by omega)
      have i30 : inb (C 7 1 k) 30 := by rw [q3]; exact inb_nI (by omega) (by omega)
      unfold f_X1_firstWrong_b2
      simp only [n2, if_neg (nI_ge hk (by omega)), if_pos i15, nI_clamp (show k < 2 ^ 31 by omega), if_pos i30, nm, nI_1, stp]
      by_cases h1 : (C 4) 4 (Int32.toNatClampNeg ((C 7) 1 k)) = (C 7) 2 k
      · left; exact ⟨(), by rw [if_pos h1], by rw [if_pos h1], trivial⟩
      · right; exact ⟨_, by rw [if_neg h1], by rw [if_neg h1]⟩
    · intro rc s _
      unfold f_X1_firstWrong_b2
      rw [n2, if_pos (nI_le (Nat.le_refl _) (by omega))]
  have e7 : f_X7_judge M = some v := by
    rw [← hv]
    unfold f_X7_judge
    refine lp_up (T := Int32 → Option Int32) (fun g k (_ : Unit) => g (nI k)) n (fun _ _ => True) stp _ ?_ ?_ FU n 0 () trivial (by omega) (by have := FU_gt; omega)
    · intro rc k s _ hk
      obtain ⟨p, f, q1, q2, q3, q4, q5, q6⟩ := n4 k hk
      have et : (C 4) 4 (Int32.toNatClampNeg ((C 7) 1 k)) = M 1 (5 + 5 * p + f) := by
        rw [q3, nI_clamp (by omega), ← th_eq hS (p := p) (f := f) (by omega) (by omega), Nat.mul_comm 5 p]
      unfold f_X7_judge_b2
      simp only [n3, if_neg (nI_ge hk (by omega)), ix30, show nI (3 * k) + (1 : Int32) = nI (3 * k + 1) from nI_1 _, show nI (3 * k) + (2 : Int32) = nI (3 * k + 2) from nI_add _ 2,
        if_pos (inb_nI (k := 3 * k) (n := 45) (by omega) (by omega)), if_pos (inb_nI (k := 3 * k + 1) (n := 45) (by omega) (by omega)), if_pos (inb_nI (k := 3 * k + 2) (n := 45) (by omega) (by omega)),
        nI_clamp (show 3 * k < 2 ^ 31 by omega), nI_clamp (show 3 * k + 1 < 2 ^ 31 by omega), nI_clamp (show 3 * k + 2 < 2 ^ 31 by omega), q4, q5, thought_m (M := M) (p := p) (f := f) (by omega) (by omega), bd, nm, nI_1, stp, et, q6]
      by_cases h1 : M 1 (5 + 5 * p + f) = M 9 (3 * k + 2)
      · left; exact ⟨(), by rw [if_pos h1], by rw [if_pos h1], trivial⟩
      · right; exact ⟨_, by rw [if_neg h1], by rw [if_neg h1]⟩
    · intro rc s _
      unfold f_X7_judge_b2
      rw [n3, if_pos (nI_le (Nat.le_refl _) (by omega))]
  exact ⟨v, by unfold f_X6_judge; rw [e6]; rfl, e7, hR⟩
/-- a state becomes another -/
theorem become_c (x x1 : HC) : ∃ Z, f_X4_become x x1 = some Z ∧ (∀ f, f < 5 → Z 1 f = x1 1 f ∧ Z 2 f = x1 2 f ∧ Z 3 f = x1 3 f) ∧ (∀ k, k < 30 → Z 4 k = x1 4 k) ∧ Z 0 4 = x1 0 4 ∧ Z 0 5 = x1 0 5 ∧ Z 0 6 = x 0 6 := by
  unfold f_X4_become
  obtain ⟨s, rc, ⟨i1, i2⟩, h⟩ := lp_ex (T := Int32 → HC → Option HC) (z := fun _ _ => none) (F := f_X4_become_b2 x1) (fun g k (s : HC) => g (nI k) s) 5 (fun k s => (∀ f, f < k → s 1 f = x1 1 f ∧ s 2 f = x1 2 f ∧ s 3 f = x1 3 f) ∧ s 0 6 = x 0 6) (by
    intro rc k s hi hk
    refine ⟨sa (sa (sa s 1 (nI k) (x1 1 k)) 2 (nI k) (x1 2 k)) 3 (nI k) (x1 3 k), ?_, fun f hf => ?_, hi.2⟩
    · unfold f_X4_become_b2
      simp only [if_neg (show ¬ (5 : Int32) ≤ nI k from nI_ge (b := 5) hk (by omega)), if_pos (inb_nI (k := k) (n := 5) hk (by omega)), nm, nI_clamp (show k < 2 ^ 31 by omega), nI_1]
    · have e1 : sa (sa (sa s 1 (nI k) (x1 1 k)) 2 (nI k) (x1 2 k)) 3 (nI k) (x1 3 k) 1 f = sa s 1 (nI k) (x1 1 k) 1 f := rfl
      have e2 : sa (sa (sa s 1 (nI k) (x1 1 k)) 2 (nI k) (x1 2 k)) 3 (nI k) (x1 3 k) 2 f = sa (sa s 1 (nI k) (x1 1 k)) 2 (nI k) (x1 2 k) 2 f := rfl
      rw [e1, e2, sa_at (by omega), sa_at (by omega), sa_at (by omega)]
      by_cases hfk : f = k
      · subst hfk
        rw [if_pos rfl, if_pos rfl, if_pos rfl]; exact ⟨rfl, rfl, rfl⟩
      · rw [if_neg hfk, if_neg hfk, if_neg hfk]; exact hi.1 f (by omega)) FU 5 0 x ⟨fun f hf => by omega, rfl⟩ (by omega) (by have := FU_gt; omega)
  rw [show lp (fun _ _ => none : Int32 → HC → Option HC) (f_X4_become_b2 x1) FU 0 x = f_X4_become_b2 x1 rc (nI 5) s from h]
  unfold f_X4_become_b2
  rw [if_pos (show (5 : Int32) ≤ nI 5 from nI_le (a := 5) (b := 5) (Nat.le_refl _) (by omega))]
  obtain ⟨s2, rc2, ⟨j1, j2, j3⟩, h2⟩ := lp_ex (T := Int32 → HC → Option HC) (z := fun _ _ => none) (F := f_X4_become_b51 x1) (fun g k (s : HC) => g (nI k) s) 30 (fun k s2 => (∀ f, f < k → s2 4 f = x1 4 f) ∧ (∀ f, s2 1 f = s 1 f ∧ s2 2 f = s 2 f ∧ s2 3 f = s 3 f) ∧ s2 0 6 = s 0 6) (by
    intro rc k s hi hk
    refine ⟨sa s 4 (nI k) (x1 4 k), ?_, fun f hf => ?_, hi.2.1, hi.2.2⟩
    · unfold f_X4_become_b51
      simp only [if_neg (show ¬ (30 : Int32) ≤ nI k from nI_ge (b := 30) hk (by omega)), if_pos (inb_nI (k := k) (n := 30) hk (by omega)), nm, nI_clamp (show k < 2 ^ 31 by omega), nI_1]
    · rw [sa_at (by omega)]
      by_cases hfk : f = k
      · subst hfk
        rw [if_pos rfl]
      · rw [if_neg hfk]; exact hi.1 f (by omega)) FU 30 0 s ⟨fun f hf => by omega, fun f => ⟨rfl, rfl, rfl⟩, rfl⟩ (by omega) (by have := FU_gt; omega)
  rw [show lp (fun _ _ => none : Int32 → HC → Option HC) (f_X4_become_b51 x1) FU 0 s = f_X4_become_b51 x1 rc2 (nI 30) s2 from h2]
  unfold f_X4_become_b51
  rw [if_pos (show (30 : Int32) ≤ nI 30 from nI_le (a := 30) (b := 30) (Nat.le_refl _) (by omega))]
  simp only [nm]
  refine ⟨_, rfl, fun f hf => ?_, fun k hk => j1 k hk, rfl, rfl, ?_⟩
  · obtain ⟨a, b, c⟩ := i1 f hf
    obtain ⟨a2, b2, c2⟩ := j2 f
    exact ⟨a2.trans a, b2.trans b, c2.trans c⟩
  · exact j3.trans i2
theorem copy_m (x : HC) (a b : Nat) (ha : a + 47 ≤ 141) (hb : b + 47 ≤ 141) (hab : a + 47 ≤ b ∨ b + 47 ≤ a) : ∃ Y, f_X7_copyRow x (nI a) (nI b) = some Y ∧ (∀ j, j ≠ 1 → Y j = x j) ∧ (∀ k, k < 47 → Y 1 (b + k) = x 1 (a + k)) ∧ (∀ i, (i < b ∨ b + 47 ≤ i) → Y 1 i = x 1 i) := by
  unfold f_X7_copyRow
  obtain ⟨s, rc, ⟨i1, i2, i3⟩, h⟩ := lp_ex (T := Int32 → HC → Option HC) (z := fun _ _ => none) (F := f_X7_copyRow_b2 (nI a) (nI b)) (fun g k (s : HC) => g (nI k) s) 47 (fun k s => (∀ j, j ≠ 1 → s j = x j) ∧ (∀ i, i < k → s 1 (b + i) = x 1 (a + i)) ∧ (∀ i, (i < b ∨ b + k ≤ i) → s 1 i = x 1 i)) (by
    intro rc k s hi hk
    refine ⟨sa s 1 (nI (b + k)) (s 1 (a + k)), ?_, fun j hj => ?_, fun i hi2 => ?_, fun i hi2 => ?_⟩
    · unfold f_X7_copyRow_b2
      simp only [if_neg (show ¬ (47 : Int32) ≤ nI k from nI_ge (b := 47) hk (by omega)), nI_add, if_pos (inb_nI (k := a + k) (n := 141) (by omega) (by omega)), if_pos (inb_nI (k := b + k) (n := 141) (by omega) (by omega)), nm, nI_clamp (show a + k < 2 ^ 31 by omega), nI_1]
    · show va_up s 1 _ j = _
      rw [← hi.1 j hj]
      simp [va_up, hj]
    · rw [sa_at (by omega)]
      by_cases hik : i = k
      · subst hik
        rw [if_pos rfl, hi.2.2 (a + i) (by omega)]
      · rw [if_neg (by omega)]; exact hi.2.1 i (by omega)
    · rw [sa_at (by omega), if_neg (by omega)]; exact hi.2.2 i (by omega)) FU 47 0 x ⟨fun _ _ => rfl, fun i hi => by omega, fun _ _ => rfl⟩ (by omega) (by have := FU_gt; omega)
  rw [show lp (fun _ _ => none : Int32 → HC → Option HC) (f_X7_copyRow_b2 (nI a) (nI b)) FU 0 x = f_X7_copyRow_b2 (nI a) (nI b) rc (nI 47) s from h]
  unfold f_X7_copyRow_b2
  rw [if_pos (show (47 : Int32) ≤ nI 47 from nI_le (a := 47) (b := 47) (Nat.le_refl _) (by omega))]
  exact ⟨s, rfl, i1, i2, i3⟩
