/-! ===== pure: clauses of chats, of thoughts ===== -/
theorem hb_shl : ∀ w, w < 30 → ∀ k, k < 30 → (hb ((1 : Int32) <<< (nI w &&& 31)) (nI k) ↔ k = w) := by decide +kernel
theorem i04 : inb (0 : Int32) 4 := by decide
theorem i14 : inb (1 : Int32) 4 := by decide
theorem i24 : inb (2 : Int32) 4 := by decide
theorem c04 : (0 : Int32).toNatClampNeg = 0 := by decide
theorem c14 : (1 : Int32).toNatClampNeg = 1 := by decide
theorem c24 : (2 : Int32).toNatClampNeg = 2 := by decide
theorem vI {v : Int32} {P : Nat} (hP : P ≤ 6) (h : v = 0 ∨ ((0 : Int32).toInt ≤ v.toInt ∧ v.toInt ≤ (nI P - 1).toInt)) : ∃ i, (i = 0 ∨ i < P) ∧ v = nI i := by
  rcases h with h | ⟨h1, h2⟩
  · exact ⟨0, Or.inl rfl, h⟩
  · rw [t0] at h1
    rw [nI_sub1 (by omega)] at h2
    obtain ⟨i, i1, i2⟩ := ofI (H := P - 1) h1 (by omega) (by omega)
    exact ⟨i, Or.inr (by omega), i2⟩
theorem St.ne {n : Nat} {tx : Nat → Int32} {X M : HC} {fl : Int32} {a : Nat} (h : St n tx X M fl a) (hf : ¬ fl = 0) : ¬ X 0 4 = 0 := by
  rcases h with ⟨b, h1, h2, h3, h4⟩ | ⟨b, w, h1, h2, h3, h4, h5⟩
  · exact absurd h3 hf
  · rw [h4]; exact nI_w0 h2
theorem St.ok {n : Nat} {tx : Nat → Int32} {X M : HC} {a : Nat} (h : St n tx X M 0 a) : X 0 4 = 0 ∧ ∃ b, TXc n tx X b := by
  rcases h with ⟨b, h1, h2, h3, h4, h5⟩ | ⟨b, w, h1, h2, h3, h4, h5⟩
  · exact ⟨h4, b, h1⟩
  · exact absurd h3.symm (nI_w0 h2)
theorem chat_cm {n : Nat} {tx : Nat → Int32} {X M L : HC} {a P F c T R : Nat} (hn : n ≤ 250) (hS : St n tx (sf X 2 (X 0 2 + 1)) M 0 a) (hT : TXm n tx M) (hD : DRn L M P F c T R) (hP0 : 0 < P) (hc : c < 10) : ∃ X2 L2 fl M2, f_X5_chatClause X L = some (X2, L2) ∧ f_X7_readsChat M = some (fl, M2) ∧ St n tx X2 M2 fl a ∧ (fl = 0 → DR L2 M2) ∧ PF M M2 := by
  have hP6 : P ≤ 6 := hD.1.1
  obtain ⟨⟨v0, X1⟩, ⟨g1, M1⟩, a1, a2, S1, R1, K1, V1, B1⟩ := num0_cm (k := 0) hn hS hT (0 : Int32) (nI P - 1) (by omega)
  have T1 := hT.fr R1
  obtain ⟨⟨v1, X2⟩, ⟨g2, M2⟩, b1, b2, ⟨S2, R2, K2, V2, B2⟩, Z2⟩ := numOr_cm (k := 1) hn S1 T1 (0 : Int32) (nI P - 1) (by omega)
  have T2 := T1.fr R2
  have RR := R1.trans R2
  dsimp only at b1 b2 S2 V1 V2 Z2 K1 K2 R1 R2 RR B1 B2 T2
  obtain ⟨i, hi, rfl⟩ := vI hP6 B1
  obtain ⟨j, hj, rfl⟩ := vI hP6 B2
  have D2 := hD.fr RR
  have hC : ∀ p, p < 6 → L 4 p = M2 11 p := D2.2.2.2.2.2.2.2.1
  have ii : inb (nI i) 6 := inb_nI (by omega) (by omega)
  have ij : inb (nI j) 6 := inb_nI (by omega) (by omega)
  have ci : (nI i).toNatClampNeg = i := nI_clamp (by omega)
  have cj : (nI j).toNatClampNeg = j := nI_clamp (by omega)
  have a2' : f_X7_number M (0 : Int32) (0 : Int32) (nI P - (1 : Int32)) = some (g1, M1) := a2
  have b2' : f_X7_numberOr M1 g1 (1 : Int32) (0 : Int32) (nI P - (1 : Int32)) = some (g2, M2) := b2
  obtain ⟨sj, hsj⟩ : ∃ x, x = (1 : Int32) <<< (nI j &&& 31) := ⟨_, rfl⟩
  obtain ⟨si, hsi⟩ : ∃ x, x = (1 : Int32) <<< (nI i &&& 31) := ⟨_, rfl⟩
  have fin : ∀ X6 fl6, St n tx X6 M2 fl6 a → (fl6 = 0 → g2 = 0) → ∃ X7 L9 fl M9, f_X5_chatClause_j80 L (nI i) (nI j) X6 = some (X7, L9) ∧ f_X7_readsChat_j69 (g2, M2) fl6 = some (fl, M9) ∧ St n tx X7 M9 fl a ∧ (fl = 0 → DR L9 M9) ∧ PF M M9 := by
    intro X6 fl6 S6 h6
    obtain ⟨X7, ⟨g4, M4⟩, d1, d2, S4, R4, Z4⟩ := semi_cm hn S6 T2
    dsimp only at d1 d2 S4 R4 Z4
    obtain ⟨L8, hL8⟩ : ∃ x, x = sa L 4 (nI i) (L 4 i ||| sj) := ⟨_, rfl⟩
    have l80 : L8 0 = L 0 := by rw [hL8]; exact sa_ne _ _ _ _ (by omega)
    have e6 : f_X5_chatClause_j80 L (nI i) (nI j) X6 = some (X7, sf (sa L8 4 (nI j) (L8 4 j ||| si)) 2 (nI (c + 1))) := by
      unfold f_X5_chatClause_j80
      rw [d1, bd_s, if_pos ii, if_pos ii, ci, ← hsj, ← hL8, nm_q, if_pos ij, if_pos ij, cj, ← hsi, nm_q, nm_q, sa_ne L8 _ _ _ (show 0 ≠ 4 by omega), l80, hD.2.2.2.1.1, nI_1]
    by_cases h0 : g4 = 0
    · subst h0
      have z6 := Z4 rfl
      have zg := h6 z6
      obtain ⟨u1, -, -, -⟩ := V2 zg
      obtain ⟨u0, -, -, -⟩ := V1 (Z2 zg)
      have q0 : M4 15 0 = nI i := by rw [R4.1 15 (by omega), K2 0 (by omega), u0]
      have q1 : M4 15 1 = nI j := by rw [R4.1 15 (by omega), u1]
      have D4 := D2.fr R4.n
      obtain ⟨M8, hM8⟩ : ∃ x, x = sa M4 11 (nI i) (M4 11 i ||| sj) := ⟨_, rfl⟩
      have m8r : ∀ r, r ≠ 11 → M8 r = M4 r := fun r hr => by rw [hM8]; exact sa_ne _ _ _ _ hr
      have e7 : f_X7_readsChat_j69 (g2, M2) fl6 = some (0, sf (sa M8 11 (nI j) (M8 11 j ||| si)) 22 (nI (c + 1))) := by
        unfold f_X7_readsChat_j69
        rw [p2_e, d2, bd_s, p1_e, p2_e, nm_q, if_pos z_z]
        simp only [if_pos i04, if_pos i14, c04, c14, q0, q1, if_pos ii, ci, ← hsj]
        rw [← hM8, nm_q, m8r 15 (by omega), q1, if_pos ij, if_pos ij, cj, q0, ← hsi, nm_q, sa_ne M8 _ _ _ (show 0 ≠ 11 by omega), m8r 0 (by omega), D4.2.2.2.1.2, nm_q, nI_1]
      refine ⟨_, _, _, _, e6, e7, S4.tr (by rw [sf_at, if_neg (by omega), sa_ne _ _ _ _ (show 0 ≠ 11 by omega), m8r 0 (by omega)]) (by rw [sf_at, if_neg (by omega), sa_ne _ _ _ _ (show 0 ≠ 11 by omega), m8r 0 (by omega)]), fun _ => ⟨P, F, c + 1, T, R, ?_⟩, (RR.trans R4.n).pf.trans ⟨fun r h1 h2 => by rw [sf_ne _ _ _ h1, sa_ne _ _ _ _ (show r ≠ 11 by omega), m8r r (by omega)], fun k hk => by rw [sf_at, if_neg (by omega), sa_ne _ _ _ _ (show 0 ≠ 11 by omega), m8r 0 (by omega)]⟩⟩
      obtain ⟨m0, m1, m2, m3, m4, m5, m6, m7, m8, m9, m10⟩ := D4
      have lf : ∀ k, k ≠ 2 → sf (sa L8 4 (nI j) (L8 4 j ||| si)) 2 (nI (c + 1)) 0 k = L 0 k := fun k hk => by rw [sf_at, if_neg hk, sa_ne _ _ _ _ (show 0 ≠ 4 by omega), l80]
      have mf : ∀ k, k ≠ 22 → sf (sa M8 11 (nI j) (M8 11 j ||| si)) 22 (nI (c + 1)) 0 k = M4 0 k := fun k hk => by rw [sf_at, if_neg hk, sa_ne _ _ _ _ (show 0 ≠ 11 by omega), m8r 0 (by omega)]
      have lr : ∀ r, r ≠ 0 → r ≠ 4 → sf (sa L8 4 (nI j) (L8 4 j ||| si)) 2 (nI (c + 1)) r = L r := fun r h1 h2 => by rw [sf_ne _ _ _ h1, sa_ne _ _ _ _ h2, hL8, sa_ne _ _ _ _ h2]
      have mr : ∀ r, r ≠ 0 → r ≠ 11 → sf (sa M8 11 (nI j) (M8 11 j ||| si)) 22 (nI (c + 1)) r = M4 r := fun r h1 h2 => by rw [sf_ne _ _ _ h1, sa_ne _ _ _ _ h2, m8r r h2]
      refine ⟨by omega, ?_, ?_, ?_, ?_, ?_, ?_, fun p hp => ?_, ?_, ?_, ?_⟩
      · rw [lf 0 (by omega), mf 19 (by omega)]; exact m1
      · rw [lf 1 (by omega), mf 20 (by omega)]; exact m2
      · rw [sf_at, if_pos rfl, sf_at, if_pos rfl]; exact ⟨rfl, rfl⟩
      · rw [lf 3 (by omega), mf 24 (by omega)]; exact m4
      · rw [lf 4 (by omega), mf 26 (by omega)]; exact m5
      · unfold DF
        rw [lr 1 (by omega) (by omega), lr 2 (by omega) (by omega), lr 3 (by omega) (by omega), mr 10 (by omega) (by omega)]
        exact m6
      · have h8 : ∀ p, p < 6 → L8 4 p = M8 11 p := fun p hp => by
          rw [hL8, hM8, sa_at (by omega), sa_at (by omega), m7 i (by omega), m7 p hp]
        rw [sf_ne _ _ _ (show 4 ≠ 0 by omega), sf_ne _ _ _ (show 11 ≠ 0 by omega), sa_at (by omega), sa_at (by omega), h8 j (by omega), h8 p hp]
      · unfold DT
        rw [lr 5 (by omega) (by omega), lr 6 (by omega) (by omega), lr 7 (by omega) (by omega), lr 8 (by omega) (by omega), mr 12 (by omega) (by omega)]
        exact m8
      · unfold DK
        rw [lr 9 (by omega) (by omega), lr 10 (by omega) (by omega), lr 11 (by omega) (by omega), mr 13 (by omega) (by omega)]
        exact m9
      · unfold DE
        rw [lf 5 (by omega), lr 12 (by omega) (by omega), mr 14 (by omega) (by omega)]
        exact m10
    · have e7 : f_X7_readsChat_j69 (g2, M2) fl6 = some (g4, M4) := by
        unfold f_X7_readsChat_j69
        rw [p2_e, d2, bd_s, p1_e, p2_e, nm_q, if_neg h0]
      exact ⟨_, _, _, _, e6, e7, S4, fun z => absurd z h0, (RR.trans R4.n).pf⟩
  have e6 : f_X5_chatClause X L = if nI i = nI j then bd (f_X5_fail X2 (4 : Int32) (X2 0 3)) (fun (q11 : HC) => f_X5_chatClause_j80 L (nI i) (nI j) q11) else (if hb (L 4 i) (nI j) then bd (f_X5_fail X2 (4 : Int32) (X2 0 3)) (fun (q11 : HC) => f_X5_chatClause_j80 L (nI i) (nI j) q11) else f_X5_chatClause_j80 L (nI i) (nI j) X2) := by
    unfold f_X5_chatClause f_X5_chatClause_j71
    rw [hD.2.2.2.1.1, if_pos (show nI c < (10 : Int32) from nI_lt (b := 10) hc (by omega)), nm_q, hD.2.1.1, a1, bd_s, p1_e, p2_e, nm_q, b1, bd_s, p1_e, p2_e, nm_q, if_pos ii, ci, has_c, bd_s]
    by_cases h1 : nI i = nI j
    · rw [if_pos h1, if_pos h1]
    · rw [if_neg h1, if_neg h1]
      by_cases h2 : hb (L 4 i) (nI j)
      · rw [if_pos h2, if_neg one_ne0, if_pos h2]
      · rw [if_neg h2, if_pos z_z, if_neg h2]
  have e7 : g2 = 0 → f_X7_readsChat M = if nI i = nI j then f_X7_readsChat_j69 (g2, M2) (4 : Int32) else (if hb (L 4 i) (nI j) then f_X7_readsChat_j69 (g2, M2) (4 : Int32) else f_X7_readsChat_j69 (g2, M2) g2) := by
    intro zg
    obtain ⟨u1, -, -, -⟩ := V2 zg
    obtain ⟨u0, -, -, -⟩ := V1 (Z2 zg)
    have q0 : M2 15 0 = nI i := by rw [K2 0 (by omega), u0]
    unfold f_X7_readsChat f_X7_readsChat_j67
    rw [hD.2.1.2, a2', bd_s, p1_e, p2_e, R1.2 19 (by omega) (by omega), hD.2.1.2, b2', bd_s, p1_e, p2_e, nm_q, if_pos zg]
    have hCi := (hC i (by omega)).symm
    simp only [if_pos i04, if_pos i14, c04, c14, q0, u1, if_pos ii, ci, hCi, has_m, bd_s]
    by_cases h1 : nI i = nI j
    · rw [if_pos h1, if_pos h1]
    · rw [if_neg h1, if_neg h1]
      by_cases h2 : hb (L 4 i) (nI j)
      · rw [if_pos h2, if_neg one_ne0, if_pos h2]
      · rw [if_neg h2, if_pos z_z, if_neg h2]
  by_cases hg : g2 = 0
  · obtain ⟨-, -, -, u3⟩ := V2 hg
    have S2' := S2
    rw [hg] at S2'
    obtain ⟨x4, b, hb1⟩ := S2'.ok
    have hbad : St n tx (sf (sf X2 4 (nI 4)) 5 (X2 0 3)) M2 (nI 4) a := St.bad a hb1 ⟨by omega, by omega⟩ u3.symm
    have efail : f_X5_fail X2 (4 : Int32) (X2 0 3) = some (sf (sf X2 4 (nI 4)) 5 (X2 0 3)) := fail_0 x4 _ _
    have e7 := e7 hg
    rw [efail, bd_s] at e6
    by_cases h1 : nI i = nI j
    · rw [if_pos h1] at e6 e7
      obtain ⟨X7, L9, fl, M9, r1, r2, r3⟩ := fin _ _ hbad (fun z => absurd z (by decide))
      exact ⟨X7, L9, fl, M9, e6.trans r1, e7.trans r2, r3⟩
    · rw [if_neg h1] at e6 e7
      by_cases h2 : hb (L 4 i) (nI j)
      · rw [if_pos h2] at e6 e7
        obtain ⟨X7, L9, fl, M9, r1, r2, r3⟩ := fin _ _ hbad (fun z => absurd z (by decide))
        exact ⟨X7, L9, fl, M9, e6.trans r1, e7.trans r2, r3⟩
      · rw [if_neg h2] at e6 e7
        obtain ⟨X7, L9, fl, M9, r1, r2, r3⟩ := fin _ _ S2 (fun z => z)
        exact ⟨X7, L9, fl, M9, e6.trans r1, e7.trans r2, r3⟩
  · have e7 : f_X7_readsChat M = f_X7_readsChat_j69 (g2, M2) g2 := by
      unfold f_X7_readsChat
      rw [hD.2.1.2, a2', bd_s, p1_e, p2_e, R1.2 19 (by omega) (by omega), hD.2.1.2, b2', bd_s, p1_e, nm_q, if_neg hg]
    rw [fail_1 (S2.ne hg), bd_s] at e6
    have e6' : f_X5_chatClause X L = f_X5_chatClause_j80 L (nI i) (nI j) X2 := by
      rw [e6]
      split
      · rfl
      · split <;> rfl
    obtain ⟨X7, L9, fl, M9, r1, r2, r3⟩ := fin _ _ S2 (fun z => z)
    exact ⟨X7, L9, fl, M9, e6'.trans r1, e7.trans r2, r3⟩
theorem ix5 (i j : Nat) : ((5 : Int32) * nI i) + nI j = nI (i * 5 + j) := by
  rw [show (5 : Int32) = nI 5 from rfl, nI_mul, nI_add, Nat.mul_comm 5 i]
theorem thought_cm {n : Nat} {tx : Nat → Int32} {X M L : HC} {a P F c T R : Nat} (hn : n ≤ 250) (hS : St n tx (sf X 2 (X 0 2 + 1)) M 0 a) (hT : TXm n tx M) (hD : DRn L M P F c T R) (hP0 : 0 < P) : ∃ X2 L2 fl M2, f_X5_thoughtClause X L = some (X2, L2) ∧ f_X7_readsThought M = some (fl, M2) ∧ St n tx X2 M2 fl a ∧ (fl = 0 → DR L2 M2) ∧ PF M M2 := by
  have hP6 : P ≤ 6 := hD.1.1
  have hF5 : F ≤ 5 := hD.1.2.1
  obtain ⟨⟨v0, X1⟩, ⟨g1, M1⟩, a1, a2, S1, R1, K1, V1, B1⟩ := num0_cm (k := 0) hn hS hT (0 : Int32) (nI P - 1) (by omega)
  have T1 := hT.fr R1
  obtain ⟨⟨v1, X2⟩, ⟨g2, M2⟩, b1, b2, ⟨S2, R2, K2, V2, B2⟩, Z2⟩ := numOr_cm (k := 1) hn S1 T1 (0 : Int32) (nI F - 1) (by omega)
  have T2 := T1.fr R2
  have RR := R1.trans R2
  dsimp only at b1 b2 S2 V1 V2 Z2 K1 K2 R1 R2 RR B1 B2 T2
  obtain ⟨i, hi, rfl⟩ := vI hP6 B1
  obtain ⟨j, hj, rfl⟩ := vI (show F ≤ 6 by omega) B2
  have D2 := hD.fr RR
  obtain ⟨q, hq⟩ : ∃ q, q = i * 5 + j := ⟨_, rfl⟩
  have hq30 : q < 30 := by omega
  have iq : inb (nI q) 30 := inb_nI (by omega) (by omega)
  have cq : (nI q).toNatClampNeg = q := nI_clamp (by omega)
  have a2' : f_X7_number M (0 : Int32) (0 : Int32) (nI P - (1 : Int32)) = some (g1, M1) := a2
  have b2' : f_X7_numberOr M1 g1 (1 : Int32) (0 : Int32) (nI F - (1 : Int32)) = some (g2, M2) := b2
  have e6 : f_X5_thoughtClause X L = if hb (L 0 5) (nI q) then bd (f_X5_fail X2 (4 : Int32) (X2 0 3)) (fun (q13 : HC) => f_X5_thoughtClause_j62 L (nI q) q13) else f_X5_thoughtClause_j62 L (nI q) X2 := by
    unfold f_X5_thoughtClause
    rw [nm_q, hD.2.1.1, a1, bd_s, p1_e, p2_e, nm_q, hD.2.2.1.1, b1, bd_s, p1_e, p2_e, nm_q, slot_c, bd_s, ← hq, has_c, bd_s]
    by_cases h2 : hb (L 0 5) (nI q)
    · rw [if_pos h2, if_neg one_ne0, if_pos h2]
    · rw [if_neg h2, if_pos z_z, if_neg h2]
  -- what both do from a state side by side
  have fin : ∀ X6 fl6, St n tx X6 M2 fl6 a → (fl6 = 0 → g2 = 0 ∧ ¬ hb (L 0 5) (nI q)) → ∃ X7 L9 fl M9, f_X5_thoughtClause_j62 L (nI q) X6 = some (X7, L9) ∧ f_X7_readsThought_j55 (g2, M2) fl6 = some (fl, M9) ∧ St n tx X7 M9 fl a ∧ (fl = 0 → DR L9 M9) ∧ PF M M9 := by
    intro X6 fl6 S6 h6
    obtain ⟨⟨v2, X3⟩, ⟨g3, M3⟩, c1, c2, ⟨S3, R3, K3, V3, -⟩, Z3⟩ := numOr_cm (k := 2) hn S6 T2 (0 : Int32) (99 : Int32) (by omega)
    have T3 := T2.fr R3
    obtain ⟨X7, ⟨g4, M4⟩, d1, d2, S4, R4, Z4⟩ := semi_cm hn S3 T3
    dsimp only at c1 c2 d1 d2 S4 R4 Z4 Z3 V3 K3 R3
    have RQ := (RR.trans R3).trans R4.n
    have c2' : f_X7_numberOr M2 fl6 (2 : Int32) (0 : Int32) (99 : Int32) = some (g3, M3) := c2
    have e6 : f_X5_thoughtClause_j62 L (nI q) X6 = some (X7, sf (sa L 12 (nI q) v2) 5 (L 0 5 ||| ((1 : Int32) <<< (nI q &&& 31)))) := by
      unfold f_X5_thoughtClause_j62
      rw [c1, bd_s, p1_e, p2_e, if_pos iq, nm_q, sa_ne _ _ _ _ (show 0 ≠ 12 by omega), nm_q, d1, bd_s]
    by_cases h0 : g4 = 0
    · subst h0
      have z3 := Z4 rfl
      have z6 := Z3 z3
      obtain ⟨zg, hnb⟩ := h6 z6
      obtain ⟨u1, -, -, -⟩ := V2 zg
      obtain ⟨u0, -, -, -⟩ := V1 (Z2 zg)
      obtain ⟨u2, l2, h2, -⟩ := V3 z3
      rw [t0] at l2
      rw [t99] at h2
      obtain ⟨w1, w2, w3⟩ := ofI (H := 99) l2 (by omega) (by omega)
      have q0 : M4 15 0 = nI i := by rw [R4.1 15 (by omega), K3 0 (by omega), K2 0 (by omega), u0]
      have q1 : M4 15 1 = nI j := by rw [R4.1 15 (by omega), K3 1 (by omega), u1]
      have q2 : M4 15 2 = v2 := by rw [R4.1 15 (by omega), u2]
      have D4 := hD.fr RQ
      have e7 : f_X7_readsThought_j55 (g2, M2) fl6 = some (0, sa M4 14 (nI q) v2) := by
        unfold f_X7_readsThought_j55
        rw [p2_e, c2', bd_s, p1_e, p2_e, d2, bd_s, p1_e, p2_e, nm_q, if_pos z_z, if_pos i04, if_pos i14, if_pos i24, c04, c14, c24, q0, q1, q2, ix5, ← hq, if_pos iq, nm_q]
      refine ⟨_, _, _, _, e6, e7, S4.tr (by rw [sa_ne _ _ _ _ (show 0 ≠ 14 by omega)]) (by rw [sa_ne _ _ _ _ (show 0 ≠ 14 by omega)]), fun _ => ⟨P, F, c, T, R, ?_⟩, RQ.pf.trans ⟨fun r h1 h2 => by rw [sa_ne _ _ _ _ (show r ≠ 14 by omega)], fun k hk => by rw [sa_ne _ _ _ _ (show 0 ≠ 14 by omega)]⟩⟩
      obtain ⟨m0, m1, m2, m3, m4, m5, m6, m7, m8, m9, m10⟩ := D4
      have lf : ∀ k, k ≠ 5 → sf (sa L 12 (nI q) v2) 5 (L 0 5 ||| ((1 : Int32) <<< (nI q &&& 31))) 0 k = L 0 k := fun k hk => by rw [sf_at, if_neg hk, sa_ne _ _ _ _ (show 0 ≠ 12 by omega)]
      have lr : ∀ r, r ≠ 0 → r ≠ 12 → sf (sa L 12 (nI q) v2) 5 (L 0 5 ||| ((1 : Int32) <<< (nI q &&& 31))) r = L r := fun r h1 h2 => by rw [sf_ne _ _ _ h1, sa_ne _ _ _ _ h2]
      have mr : ∀ r, r ≠ 14 → sa M4 14 (nI q) v2 r = M4 r := fun r h2 => by rw [sa_ne _ _ _ _ h2]
      unfold DRn
      rw [mr 0 (by omega), lf 0 (by omega), lf 1 (by omega), lf 2 (by omega), lf 3 (by omega), lf 4 (by omega)]
      refine ⟨m0, m1, m2, m3, m4, m5, ?_, ?_, ?_, ?_, fun k hk => ?_⟩
      · unfold DF
        rw [lr 1 (by omega) (by omega), lr 2 (by omega) (by omega), lr 3 (by omega) (by omega), mr 10 (by omega)]
        exact m6
      · unfold DC
        rw [lr 4 (by omega) (by omega), mr 11 (by omega)]
        exact m7
      · unfold DT
        rw [lr 5 (by omega) (by omega), lr 6 (by omega) (by omega), lr 7 (by omega) (by omega), lr 8 (by omega) (by omega), mr 12 (by omega)]
        exact m8
      · unfold DK
        rw [lr 9 (by omega) (by omega), lr 10 (by omega) (by omega), lr 11 (by omega) (by omega), mr 13 (by omega)]
        exact m9
      · rw [sf_at, if_pos rfl, sf_ne _ _ _ (show 12 ≠ 0 by omega), sa_at (by omega), sa_at (by omega)]
        by_cases hkq : k = q
        · right
          rw [if_pos hkq, if_pos hkq]
          exact ⟨(hb_or (by omega) _ _).mpr (Or.inr ((hb_shl q hq30 k hk).mpr hkq)), rfl, w1, w2, w3⟩
        · rw [if_neg hkq, if_neg hkq]
          have hiff : hb (L 0 5 ||| ((1 : Int32) <<< (nI q &&& 31))) (nI k) ↔ hb (L 0 5) (nI k) := by
            rw [hb_or (by omega)]
            exact ⟨fun z => z.elim id (fun z => absurd ((hb_shl q hq30 k hk).mp z) hkq), Or.inl⟩
          rcases m10 k hk with ⟨n1, n2, n3⟩ | ⟨n1, n2, n3⟩
          · exact Or.inl ⟨n1, fun z => n2 (hiff.mp z), n3⟩
          · exact Or.inr ⟨hiff.mpr n1, n2, n3⟩
    · have e7 : f_X7_readsThought_j55 (g2, M2) fl6 = some (g4, M4) := by
        unfold f_X7_readsThought_j55
        rw [p2_e, c2', bd_s, p1_e, p2_e, d2, bd_s, p1_e, p2_e, nm_q, if_neg h0]
      exact ⟨_, _, _, _, e6, e7, S4, fun z => absurd z h0, RQ.pf⟩
  by_cases hg : g2 = 0
  · obtain ⟨u1, -, -, u3⟩ := V2 hg
    obtain ⟨u0, -, -, -⟩ := V1 (Z2 hg)
    have q0 : M2 15 0 = nI i := by rw [K2 0 (by omega), u0]
    have e7 : f_X7_readsThought M = if M2 14 q = -1 then f_X7_readsThought_j55 (g2, M2) g2 else some ((4 : Int32), M2) := by
      unfold f_X7_readsThought
      rw [hD.2.1.2, a2', bd_s, p1_e, p2_e, R1.2 20 (by omega) (by omega), hD.2.2.1.2, b2', bd_s, p1_e, p2_e, nm_q, if_pos hg, if_pos i04, if_pos i14, c04, c14, q0, u1, ix5, ← hq, if_pos iq, cq]
    have S2' := S2
    rw [hg] at S2'
    obtain ⟨x4, b, hb1⟩ := S2'.ok
    rcases D2.2.2.2.2.2.2.2.2.2.2 q hq30 with ⟨n1, n2, n3⟩ | ⟨n1, n2, b2, b3, b4⟩
    · rw [if_neg n2] at e6
      rw [if_pos n1] at e7
      obtain ⟨X7, L9, fl, M9, r1, r2, r3⟩ := fin _ _ S2 (fun z => ⟨z, n2⟩)
      exact ⟨X7, L9, fl, M9, e6.trans r1, e7.trans r2, r3⟩
    · have hne : ¬ M2 14 q = -1 := fun z => by
        have := congrArg Int32.toInt (b4.symm.trans z)
        rw [nI_toInt (by omega), show (-1 : Int32).toInt = -1 by decide] at this
        omega
      have hbad : St n tx (sf (sf X2 4 (nI 4)) 5 (X2 0 3)) M2 (nI 4) a := St.bad a hb1 ⟨by omega, by omega⟩ u3.symm
      have efail : f_X5_fail X2 (4 : Int32) (X2 0 3) = some (sf (sf X2 4 (nI 4)) 5 (X2 0 3)) := fail_0 x4 _ _
      rw [if_pos n1, efail, bd_s] at e6
      rw [if_neg hne] at e7
      have h4 : ¬ nI 4 = (0 : Int32) := by decide
      obtain ⟨X7, L9, fl, M9, r1, r2, r3, r4, r5⟩ := fin _ _ hbad (fun z => absurd z h4)
      have r2' : f_X7_readsThought_j55 (g2, M2) (nI 4) = some (nI 4, M2) := by
        unfold f_X7_readsThought_j55 f_X7_numberOr f_X7_semicolon
        rw [if_neg h4, bd_s, p1_e, p2_e, if_neg h4, bd_s, p1_e, nm_q, if_neg h4]
      have e := Option.some.inj (r2.symm.trans r2')
      have e1 : fl = nI 4 := congrArg Prod.fst e
      have e2 : M9 = M2 := congrArg Prod.snd e
      subst e1
      subst e2
      exact ⟨X7, L9, _, M9, e6.trans r1, e7, r3, r4, r5⟩
  · have e7 : f_X7_readsThought M = f_X7_readsThought_j55 (g2, M2) g2 := by
      unfold f_X7_readsThought
      rw [hD.2.1.2, a2', bd_s, p1_e, p2_e, R1.2 20 (by omega) (by omega), hD.2.2.1.2, b2', bd_s, p1_e, nm_q, if_neg hg]
    rw [fail_1 (S2.ne hg), bd_s] at e6
    have e6' : f_X5_thoughtClause X L = f_X5_thoughtClause_j62 L (nI q) X2 := by
      rw [e6]
      split <;> rfl
    obtain ⟨X7, L9, fl, M9, r1, r2, r3⟩ := fin _ _ S2 (fun z => absurd z hg)
    exact ⟨X7, L9, fl, M9, e6'.trans r1, e7.trans r2, r3⟩
