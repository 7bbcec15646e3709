/-! ===== pure: the whole text ===== -/
theorem hb_0 : ∀ k, k < 30 → ¬ hb (0 : Int32) (nI k) := by decide +kernel
theorem clear_c (L : HC) : ∃ Z, f_X2_clear L = some Z ∧ (∀ k, k < 6 → Z 0 k = 0) ∧ (∀ p, p < 6 → Z 4 p = 0) ∧ (∀ k, k < 30 → Z 12 k = 0) := by
  unfold f_X2_clear
  rw [nm_q, nm_q, nm_q, nm_q, nm_q, nm_q]
  obtain ⟨X0, hX0⟩ : ∃ x, x = sf (sf (sf (sf (sf (sf L 0 0) 1 0) 2 0) 3 0) 4 0) 5 0 := ⟨_, rfl⟩
  rw [← hX0]
  have h0 : ∀ k, k < 6 → X0 0 k = 0 := fun k hk => by
    rw [hX0, sf_at, sf_at, sf_at, sf_at, sf_at, sf_at]
    rcases (show k = 0 ∨ k = 1 ∨ k = 2 ∨ k = 3 ∨ k = 4 ∨ k = 5 by omega) with rfl | rfl | rfl | rfl | rfl | rfl <;> rfl
  obtain ⟨X1, rc1, ⟨i1, i2⟩, h1⟩ := lp_ex (T := Int32 → HC → Option HC) (z := fun _ _ => none) (F := f_X2_clear_b32) (fun g k (s : HC) => g (nI k) s) 6 (fun k s => (∀ j, j ≠ 4 → s j = X0 j) ∧ ∀ p, p < k → s 4 p = 0) (by
    intro rc k s hi hk
    obtain ⟨a1, a2⟩ := hi
    refine ⟨sa s 4 (nI k) 0, ?_, fun j hj => by rw [sa_ne _ _ _ _ hj]; exact a1 j hj, fun p hp => ?_⟩
    · unfold f_X2_clear_b32
      rw [if_neg (show ¬ (6 : Int32) ≤ nI k from nI_ge (b := 6) hk (by omega)), if_pos (inb_nI hk (by omega)), nm_q, nm_q, nI_1]
    · rw [sa_at (by omega)]
      by_cases hpk : p = k
      · rw [if_pos hpk]
      · rw [if_neg hpk]; exact a2 p (by omega)) FU 6 0 X0 ⟨fun _ _ => rfl, fun p hp => by omega⟩ (by omega) (by have := FU_gt; omega)
  rw [show lp (fun _ _ => none : Int32 → HC → Option (HC)) f_X2_clear_b32 FU (0 : Int32) X0 = f_X2_clear_b32 rc1 (nI 6) X1 from h1]
  unfold f_X2_clear_b32
  rw [if_pos (show (6 : Int32) ≤ nI 6 from nI_le (a := 6) (by omega) (by omega))]
  obtain ⟨X2, rc2, ⟨j1, j2⟩, h2⟩ := lp_ex (T := Int32 → HC → Option HC) (z := fun _ _ => none) (F := f_X2_clear_b53) (fun g k (s : HC) => g (nI k) s) 30 (fun k s => (∀ j, j ≠ 12 → s j = X1 j) ∧ ∀ p, p < k → s 12 p = 0) (by
    intro rc k s hi hk
    obtain ⟨a1, a2⟩ := hi
    refine ⟨sa s 12 (nI k) 0, ?_, fun j hj => by rw [sa_ne _ _ _ _ hj]; exact a1 j hj, fun p hp => ?_⟩
    · unfold f_X2_clear_b53
      rw [if_neg (show ¬ (30 : Int32) ≤ nI k from nI_ge (b := 30) hk (by omega)), if_pos (inb_nI hk (by omega)), nm_q, nm_q, nI_1]
    · rw [sa_at (by omega)]
      by_cases hpk : p = k
      · rw [if_pos hpk]
      · rw [if_neg hpk]; exact a2 p (by omega)) FU 30 0 X1 ⟨fun _ _ => rfl, fun p hp => by omega⟩ (by omega) (by have := FU_gt; omega)
  rw [show lp (fun _ _ => none : Int32 → HC → Option (HC)) f_X2_clear_b53 FU (0 : Int32) X1 = f_X2_clear_b53 rc2 (nI 30) X2 from h2]
  unfold f_X2_clear_b53
  rw [if_pos (show (30 : Int32) ≤ nI 30 from nI_le (a := 30) (by omega) (by omega))]
  exact ⟨X2, rfl, fun k hk => by rw [j1 0 (by omega), i1 0 (by omega)]; exact h0 k hk, fun p hp => by rw [j1 4 (by omega)]; exact i2 p hp, j2⟩
def paQ (M0 : HC) (r1 : Int32 × HC × HC) (r2 : Int32 × HC) : Prop := r1.1 = r2.1 ∧ r1.2.1 0 1 = 0 ∧ ((r2.1 = 0 ∧ r1.2.1 0 5 = -1 ∧ DR r1.2.2 r2.2) ∨ (¬ r2.1 = 0 ∧ r1.2.1 0 5 = r2.2 0 18)) ∧ PF M0 r2.2
theorem par_ex {n : Nat} {tx : Nat → Int32} {X L M M0 : HC} {fl : Int32} {k : Nat} (hS : St n tx X M fl k) (hD : fl = 0 → DR L M) (hP : PF M0 M) : ∃ r1, f_X5_parse_j65 X L = some r1 ∧ paQ M0 r1 (fl, M) := by
  have e : f_X5_parse_j65 X L = some (X 0 4, sf X 1 0, L) := by
    unfold f_X5_parse_j65
    rw [nm_q, sf_at, if_neg (by omega)]
  refine ⟨_, e, ?_, by dsimp only; rw [sf_at, if_pos rfl], ?_, hP⟩
  · dsimp only
    rcases hS with ⟨a, h1, h2, h3, h4, h5⟩ | ⟨a, w, h1, h2, h3, h4, h5⟩
    · rw [h3, h4]
    · rw [h3, h4]
  · dsimp only
    rw [sf_at, if_neg (show ¬ 5 = 1 by omega)]
    rcases hS with ⟨a, h1, h2, h3, h4, h5, h6⟩ | ⟨a, w, h1, h2, h3, h4, h5⟩
    · exact Or.inl ⟨h3, h5, hD h3⟩
    · exact Or.inr ⟨by rw [h3]; exact nI_w0 h2, h5⟩
theorem par_lp {n : Nat} {tx : Nat → Int32} {X L M M0 : HC} (hn : n ≤ 250) (hT : TXm n tx M0) (hS : St n tx X M 0 0) (hD : DR L M) (hP : PF M0 M) : ∃ r1 r2, lp (fun _ _ _ => none : Int32 → HC → HC → Option (Int32 × HC × HC)) f_X5_parse_b25 FU (0 : Int32) X L = some r1 ∧ lp (fun _ _ => none : Int32 → HC → Option (Int32 × HC)) f_X7_faultOf_b78 FU (0 : Int32) M = some r2 ∧ paQ M0 r1 r2 := by
  exact lp_rel (T1 := Int32 → HC → HC → Option (Int32 × HC × HC)) (T2 := Int32 → HC → Option (Int32 × HC)) (z1 := fun _ _ _ => none) (z2 := fun _ _ => none) (F1 := f_X5_parse_b25) (F2 := f_X7_faultOf_b78) (fun g k (s : HC × HC) => g (nI k) s.1 s.2) (fun g (_ : Nat) (s : Int32 × HC) => g s.1 s.2) 250 (fun k s1 s2 => St n tx s1.1 s2.2 s2.1 k ∧ (s2.1 = 0 → DR s1.2 s2.2) ∧ PF M0 s2.2) (paQ M0) (by
    intro rc1 rc2 k s1 s2 hi hk
    obtain ⟨X, L⟩ := s1
    obtain ⟨fl, M⟩ := s2
    obtain ⟨hS, hD, hP⟩ := hi
    dsimp only at hS hD hP
    have hT1 := hT.pf hP
    obtain ⟨r1, q1, q2⟩ := par_ex hS hD hP
    dsimp only
    unfold f_X5_parse_b25 f_X7_faultOf_b78
    rw [if_neg (show ¬ (250 : Int32) ≤ nI k from nI_ge (b := 250) hk (by omega))]
    rcases hS with ⟨a, h1, h2, h3, h4, h5, h6⟩ | ⟨a, w, h1, h2, h3, h4, h5⟩
    · have han := h1.2.2.1
      rw [if_pos h4, if_pos h3, h1.1, h1.2.1, hT1.1, h6]
      by_cases hna : n ≤ a
      · right
        rw [if_pos (nI_le hna (by omega)), if_pos (nI_le hna (by omega))]
        exact ⟨_, _, q1, rfl, q2⟩
      · left
        obtain ⟨X2, L2, g, M2, c1, c2, S2, D2, P2⟩ := clause_cm hn h1 (by omega) h4 h5 hT1 h6 (hD h3)
        have hT2 := hT1.pf P2
        have hP2 := hP.trans P2
        rw [if_neg (nI_ge (show a < n by omega) (by omega)), if_neg (nI_ge (show a < n by omega) (by omega)), c1, bd_s, c2, bd_s, p1_e, p2_e, p1_e, nm_q, p2_e]
        rcases S2 with ⟨b, g1, g2, g3, g4, g5, g6⟩ | ⟨b, w, g1, g2, g3, g4, g5⟩
        · obtain ⟨X3, M3, s1, s2, d, d1, d2, d3, d4, d5, d6⟩ := skip_cm hn g1 hT2 g6
          rw [if_pos g3, s1, bd_s, s2, bd_s, nm_q, nI_1]
          refine ⟨(X3, L2), (g, M3), rfl, rfl, Or.inl ⟨d, d2, by omega, g3, by dsimp only; rw [d3 4 (by omega)]; exact g4, by dsimp only; rw [d3 5 (by omega)]; exact g5, d4⟩, fun z => ?_, hP2.trans d6.n.pf⟩
          obtain ⟨P, F, c, T, R, hh⟩ := D2 z
          exact ⟨P, F, c, T, R, hh.fr d6.n⟩
        · obtain ⟨X3, d, s1, d2, d3⟩ := skip_c hn g1
          have hg : ¬ g = 0 := by rw [g3]; exact nI_w0 g2
          rw [if_neg hg, s1, bd_s, nm_q, nI_1]
          exact ⟨(X3, L2), (g, M2), rfl, rfl, Or.inr ⟨d, w, d2, g2, g3, by dsimp only; rw [d3 4 (by omega)]; exact g4, by dsimp only; rw [d3 5 (by omega)]; exact g5⟩, fun z => absurd z hg, hP2⟩
    · right
      have hw := nI_w0 h2
      have h40 : ¬ X 0 4 = 0 := by rw [h4]; exact hw
      have hf0 : ¬ fl = 0 := by rw [h3]; exact hw
      rw [if_neg h40, if_neg hf0]
      exact ⟨_, _, q1, rfl, q2⟩) (by
    intro rc1 rc2 s1 s2 hi
    obtain ⟨X, L⟩ := s1
    obtain ⟨fl, M⟩ := s2
    obtain ⟨hS, hD, hP⟩ := hi
    dsimp only at hS hD hP
    have hT1 := hT.pf hP
    obtain ⟨r1, q1, q2⟩ := par_ex hS hD hP
    dsimp only
    unfold f_X5_parse_b25 f_X7_faultOf_b78
    rw [if_pos (show (250 : Int32) ≤ nI 250 from nI_le (a := 250) (by omega) (by omega))]
    rcases hS with ⟨a, h1, h2, h3, h4, h5, h6⟩ | ⟨a, w, h1, h2, h3, h4, h5⟩
    · have han := h1.2.2.1
      rw [if_pos h3, hT1.1, h6, if_pos (nI_le (show n ≤ a by omega) (by omega))]
      exact ⟨_, _, q1, rfl, q2⟩
    · have hf0 : ¬ fl = 0 := by rw [h3]; exact nI_w0 h2
      rw [if_neg hf0]
      exact ⟨_, _, q1, rfl, q2⟩) FU 250 0 (X, L) (0, M) ⟨hS, fun _ => hD, hP⟩ (by omega) (by have := FU_gt; omega)
theorem parse_cm {X M : HC} (L : HC) (hX : RText X M) : ∃ r1 r2, f_X5_parse X L = some r1 ∧ f_X7_faultOf M = some r2 ∧ paQ M r1 r2 := by
  obtain ⟨x5, n, hn, x1, m3, hk⟩ := hX
  obtain ⟨Z, z1, z2, z3, z4⟩ := clear_c L
  have hT : TXm n (X 1) M := ⟨m3, fun k h => (hk k h).symm⟩
  -- the reference's start
  obtain ⟨M6, hM6⟩ : ∃ x, x = sf (sf (sf (sf (sf (sf M 17 0) 19 0) 20 0) 22 0) 24 0) 26 0 := ⟨_, rfl⟩
  have m6r : ∀ r, r ≠ 0 → M6 r = M r := fun r hr => by rw [hM6, sf_ne _ _ _ hr, sf_ne _ _ _ hr, sf_ne _ _ _ hr, sf_ne _ _ _ hr, sf_ne _ _ _ hr, sf_ne _ _ _ hr]
  have m6f : ∀ k, k < 17 → M6 0 k = M 0 k := fun k hk => by
    rw [hM6, sf_at, if_neg (by omega), sf_at, if_neg (by omega), sf_at, if_neg (by omega), sf_at, if_neg (by omega), sf_at, if_neg (by omega), sf_at, if_neg (by omega)]
  have m6z : M6 0 17 = 0 ∧ M6 0 19 = 0 ∧ M6 0 20 = 0 ∧ M6 0 22 = 0 ∧ M6 0 24 = 0 ∧ M6 0 26 = 0 := by
    rw [hM6]
    refine ⟨?_, ?_, ?_, ?_, ?_, ?_⟩ <;> rw [sf_at, sf_at, sf_at, sf_at, sf_at, sf_at] <;> rfl
  obtain ⟨M7, rc1, ⟨i1, i2⟩, h1⟩ := lp_ex (T := Int32 → HC → Option (Int32 × HC)) (z := fun _ _ => none) (F := f_X7_faultOf_b32) (fun g k (s : HC) => g (nI k) s) 6 (fun k s => (∀ j, j ≠ 11 → s j = M6 j) ∧ ∀ p, p < k → s 11 p = 0) (by
    intro rc k s hi hk
    obtain ⟨a1, a2⟩ := hi
    refine ⟨sa s 11 (nI k) 0, ?_, fun j hj => by rw [sa_ne _ _ _ _ hj]; exact a1 j hj, fun p hp => ?_⟩
    · unfold f_X7_faultOf_b32
      rw [if_neg (show ¬ (6 : Int32) ≤ nI k from nI_ge (b := 6) hk (by omega)), if_pos (inb_nI hk (by omega)), nm_q, nm_q, nI_1]
    · rw [sa_at (by omega)]
      by_cases hpk : p = k
      · rw [if_pos hpk]
      · rw [if_neg hpk]; exact a2 p (by omega)) FU 6 0 M6 ⟨fun _ _ => rfl, fun p hp => by omega⟩ (by omega) (by have := FU_gt; omega)
  obtain ⟨M8, rc2, ⟨j1, j2⟩, h2⟩ := lp_ex (T := Int32 → HC → Option (Int32 × HC)) (z := fun _ _ => none) (F := f_X7_faultOf_b53) (fun g k (s : HC) => g (nI k) s) 30 (fun k s => (∀ j, j ≠ 14 → s j = M7 j) ∧ ∀ p, p < k → s 14 p = -1) (by
    intro rc k s hi hk
    obtain ⟨a1, a2⟩ := hi
    refine ⟨sa s 14 (nI k) (-1), ?_, fun j hj => by rw [sa_ne _ _ _ _ hj]; exact a1 j hj, fun p hp => ?_⟩
    · unfold f_X7_faultOf_b53
      rw [if_neg (show ¬ (30 : Int32) ≤ nI k from nI_ge (b := 30) hk (by omega)), if_pos (inb_nI hk (by omega)), nm_q, nm_q, nI_1]
    · rw [sa_at (by omega)]
      by_cases hpk : p = k
      · rw [if_pos hpk]
      · rw [if_neg hpk]; exact a2 p (by omega)) FU 30 0 M7 ⟨fun _ _ => rfl, fun p hp => by omega⟩ (by omega) (by have := FU_gt; omega)
  have m8r : ∀ r, r ≠ 11 → r ≠ 14 → M8 r = M6 r := fun r h1 h2 => (j1 r h2).trans (i1 r h1)
  have P8 : PF M M8 := ⟨fun j h1 h2 => by rw [m8r j (by omega) (by omega)]; exact m6r j h1, fun k hk => by rw [m8r 0 (by omega) (by omega)]; exact m6f k hk⟩
  have T8 := hT.pf P8
  obtain ⟨X4, hX4⟩ : ∃ x, x = sf (sf (sf X 2 0) 4 0) 5 (-1) := ⟨_, rfl⟩
  have t4 : TXc n (X 1) X4 0 := by
    rw [hX4]
    refine ⟨?_, ?_, Nat.zero_le _, ?_⟩
    · rw [sf_at, if_neg (by omega), sf_at, if_neg (by omega), sf_at, if_neg (by omega)]; exact x1
    · rw [sf_at, if_neg (by omega), sf_at, if_neg (by omega), sf_at, if_pos rfl]; rfl
    · rw [sf_ne _ _ _ (show 1 ≠ 0 by omega), sf_ne _ _ _ (show 1 ≠ 0 by omega), sf_ne _ _ _ (show 1 ≠ 0 by omega)]
  have x44 : X4 0 4 = 0 := by rw [hX4, sf_at, if_neg (by omega), sf_at, if_pos rfl]
  have x45 : X4 0 5 = -1 := by rw [hX4, sf_at, if_pos rfl]
  have m817 : M8 0 17 = nI 0 := by rw [m8r 0 (by omega) (by omega)]; exact m6z.1
  obtain ⟨X5, M9, s1, s2, b, b0, b1, b2, b3, b4, b5⟩ := skip_cm hn t4 T8 m817
  have D8 : DRn Z M8 0 0 0 0 0 := by
    obtain ⟨y0, y1, y2, y3, y4, y5⟩ := m6z
    unfold DRn
    rw [m8r 0 (by omega) (by omega)]
    refine ⟨by omega, ⟨z2 0 (by omega), y1⟩, ⟨z2 1 (by omega), y2⟩, ⟨z2 2 (by omega), y3⟩, ⟨z2 3 (by omega), y4⟩, ⟨z2 4 (by omega), y5⟩, fun f hf => by omega, fun p hp => ?_, fun t ht => by omega, fun r hr => by omega, fun k hk => Or.inl ⟨j2 k hk, ?_, z4 k hk⟩⟩
    · rw [j1 11 (by omega), i2 p hp]; exact z3 p hp
    · rw [z2 5 (by omega)]; exact hb_0 k hk
  obtain ⟨r1, r2, q1, q2, q3⟩ := par_lp (M0 := M) hn hT (X := X5) (M := M9) (L := Z) (Or.inl ⟨b, b1, b0, rfl, by rw [b2 4 (by omega)]; exact x44, by rw [b2 5 (by omega)]; exact x45, b3⟩) ⟨0, 0, 0, 0, 0, D8.fr b5.n⟩ (P8.trans b5.n.pf)
  refine ⟨r1, r2, ?_, ?_, q3⟩
  · unfold f_X5_parse
    rw [z1, bd_s, nm_q, nm_q, nm_q, ← hX4, s1, bd_s]
    exact q1
  · unfold f_X7_faultOf
    rw [nm_q, nm_q, nm_q, nm_q, nm_q, nm_q, ← hM6, show lp (fun _ _ => none : Int32 → HC → Option (Int32 × HC)) f_X7_faultOf_b32 FU (0 : Int32) M6 = f_X7_faultOf_b32 rc1 (nI 6) M7 from h1]
    unfold f_X7_faultOf_b32
    rw [if_pos (show (6 : Int32) ≤ nI 6 from nI_le (a := 6) (by omega) (by omega)), show lp (fun _ _ => none : Int32 → HC → Option (Int32 × HC)) f_X7_faultOf_b53 FU (0 : Int32) M7 = f_X7_faultOf_b53 rc2 (nI 30) M8 from h2]
    unfold f_X7_faultOf_b53
    rw [if_pos (show (30 : Int32) ≤ nI 30 from nI_le (a := 30) (by omega) (by omega)), s2, bd_s]
    exact q2
