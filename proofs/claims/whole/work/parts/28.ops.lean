/-! ===== pure: images ===== -/
theorem st_copy {S Z M M' : HC} {o1 o2 F : Nat} (hF : F ≤ 5) (h : RSt S M o1 F) (z1 : ∀ f, f < 5 → Z 1 f = S 1 f ∧ Z 2 f = S 2 f ∧ Z 3 f = S 3 f) (z4 : ∀ k, k < 30 → Z 4 k = S 4 k) (z5 : Z 0 4 = S 0 4) (z6 : Z 0 5 = S 0 5) (e : ∀ k, k < 47 → M' 1 (o2 + k) = M 1 (o1 + k)) : RSt Z M' o2 F := by
  obtain ⟨h1, h2, h3, h4, h5⟩ := h
  refine ⟨fun f hf => ?_, fun k hk => ?_, ?_, ?_, ?_⟩
  · obtain ⟨a, b, c⟩ := z1 f (by omega)
    rw [a, b, c, e f (by omega), Nat.add_assoc o2 35 f, e (35 + f) (by omega), Nat.add_assoc o2 40 f, e (40 + f) (by omega), ← Nat.add_assoc o1 35 f, ← Nat.add_assoc o1 40 f]
    exact h1 f hf
  · rw [z4 k hk, Nat.add_assoc o2 5 k, e (5 + k) (by omega), ← Nat.add_assoc o1 5 k]
    exact h2 k hk
  · rw [z5, e 45 (by omega)]; exact h3
  · rw [z6, e 46 (by omega)]; exact h4
  · rw [e 46 (by omega)]; exact h5
theorem land_fr {L M M' : HC} {P F T R : Nat} (h : RLand L M P F T R) (hM : ∀ j, j ≠ 1 → j ≠ 2 → M' j = M j) : RLand L M' P F T R :=
  RLand_M h (by rw [hM 0 (by omega) (by omega)]) (by rw [hM 0 (by omega) (by omega)]) (by rw [hM 0 (by omega) (by omega)]) (by rw [hM 0 (by omega) (by omega)]) (by rw [hM 0 (by omega) (by omega)]) (hM 4 (by omega) (by omega)) (hM 5 (by omega) (by omega)) (hM 6 (by omega) (by omega)) (hM 7 (by omega) (by omega)) (hM 8 (by omega) (by omega))
theorem book_fr {B M M' : HC} {P F : Nat} (h : RBook B M P F) (hM : ∀ j, j ≠ 1 → j ≠ 2 → M' j = M j) : RBook B M' P F := by
  unfold RBook
  rw [hM 0 (by omega) (by omega), hM 9 (by omega) (by omega)]
  exact h
theorem text_fr {X M M' : HC} (h : RText X M) (hM : ∀ j, j ≠ 1 → j ≠ 2 → M' j = M j) : RText X M' := by
  unfold RText
  rw [hM 0 (by omega) (by omega), hM 3 (by omega) (by omega)]
  exact h
theorem op_keep {C : CC} {M : HC} (hR : Rel C M) (p1 : Int32) : ∃ (v : Int32) (C2 : CC) (M2 : HC), f_X6_keep C p1 = some (v, C2) ∧ f_X7_keep M p1 = some (v, M2) ∧ Rel C2 M2 := by
  obtain ⟨P, F, T, R, hL, hS, hI0, hI1, hB, hX⟩ := id hR
  have hF := hL.1.2.1
  unfold f_X6_keep f_X7_keep
  rw [bnd_c, t0, t1]
  rcases in_lit p1 1 (1 : Int64) (by decide) (by omega) with ⟨j, j1, rfl, j2⟩ | ⟨j1, j2⟩
  · rw [j2, if_pos (by rw [nI_toInt (by omega)]; omega)]
    simp only [bd, if_neg one_ne0, nm]
    rcases (show j = 0 ∨ j = 1 by omega) with rfl | rfl
    · rw [if_pos (show nI 0 = (0 : Int32) from rfl), show (47 : Int32) * ((1 : Int32) + nI 0) = nI 47 by decide]
      obtain ⟨Z, z0, z1, z4, z5, z6, z7⟩ := become_c (C 5) (C 4)
      obtain ⟨Y, y0, y1, y2, y3⟩ := copy_m M 0 47 (by omega) (by omega) (by omega)
      rw [z0, show f_X7_copyRow M 0 (nI 47) = some Y from y0]
      simp only []
      rw [if_pos (inb_nI (by omega) (by omega))]
      have hM : ∀ j, j ≠ 1 → j ≠ 2 → sa Y 2 (nI 0) 1 j = M j := fun j a b => by rw [sa_ne _ _ _ _ b, y1 j a]
      have hm1 : ∀ i, sa Y 2 (nI 0) 1 1 i = Y 1 i := fun i => by rw [sa_ne _ _ _ _ (by omega)]
      refine ⟨_, _, _, rfl, rfl, ⟨P, F, T, R, ?_, ?_, ?_, ?_, ?_, ?_⟩⟩
      · rw [va_ne _ _ _ (by omega), va_ne _ _ _ (by omega)]; exact land_fr hL hM
      · rw [va_ne _ _ _ (by omega), va_ne _ _ _ (by omega)]; exact RSt_M hF hS (fun i a b => by rw [hm1, y3 i (by omega)])
      · rw [va_eq, va_eq]
        refine ⟨by rw [sf_at, if_pos rfl, sa_at (by omega), if_pos rfl], Or.inr ⟨by rw [sa_at (by omega), if_pos rfl], ?_⟩⟩
        refine st_copy hF hS (fun f hf => ?_) (fun k hk => ?_) (by rw [sf_at, if_neg (by omega)]; exact z5) (by rw [sf_at, if_neg (by omega)]; exact z6) (fun k hk => by rw [hm1]; exact y2 k hk)
        · rw [sf_ne _ _ _ (by omega), sf_ne _ _ _ (by omega), sf_ne _ _ _ (by omega)]; exact z1 f hf
        · rw [sf_ne _ _ _ (by omega)]; exact z4 k hk
      · rw [va_ne _ _ _ (by omega), va_ne _ _ _ (by omega)]; exact RImg_M hF hI1 (by rw [sa_at (by omega), if_neg (by omega), y1 2 (by omega)]) (fun i a b => by rw [hm1, y3 i (by omega)])
      · rw [va_ne _ _ _ (by omega), va_ne _ _ _ (by omega)]; exact book_fr hB hM
      · rw [va_ne _ _ _ (by omega), va_ne _ _ _ (by omega)]; exact text_fr hX hM
    · rw [if_neg (show ¬ nI 1 = (0 : Int32) by decide), show (47 : Int32) * ((1 : Int32) + nI 1) = nI 94 by decide]
      obtain ⟨Z, z0, z1, z4, z5, z6, z7⟩ := become_c (C 6) (C 4)
      obtain ⟨Y, y0, y1, y2, y3⟩ := copy_m M 0 94 (by omega) (by omega) (by omega)
      rw [z0, show f_X7_copyRow M 0 (nI 94) = some Y from y0]
      simp only []
      rw [if_pos (inb_nI (by omega) (by omega))]
      have hM : ∀ j, j ≠ 1 → j ≠ 2 → sa Y 2 (nI 1) 1 j = M j := fun j a b => by rw [sa_ne _ _ _ _ b, y1 j a]
      have hm1 : ∀ i, sa Y 2 (nI 1) 1 1 i = Y 1 i := fun i => by rw [sa_ne _ _ _ _ (by omega)]
      refine ⟨_, _, _, rfl, rfl, ⟨P, F, T, R, ?_, ?_, ?_, ?_, ?_, ?_⟩⟩
      · rw [va_ne _ _ _ (by omega), va_ne _ _ _ (by omega)]; exact land_fr hL hM
      · rw [va_ne _ _ _ (by omega), va_ne _ _ _ (by omega)]; exact RSt_M hF hS (fun i a b => by rw [hm1, y3 i (by omega)])
      · rw [va_ne _ _ _ (by omega), va_ne _ _ _ (by omega)]; exact RImg_M hF hI0 (by rw [sa_at (by omega), if_neg (by omega), y1 2 (by omega)]) (fun i a b => by rw [hm1, y3 i (by omega)])
      · rw [va_eq, va_eq]
        refine ⟨by rw [sf_at, if_pos rfl, sa_at (by omega), if_pos rfl], Or.inr ⟨by rw [sa_at (by omega), if_pos rfl], ?_⟩⟩
        refine st_copy hF hS (fun f hf => ?_) (fun k hk => ?_) (by rw [sf_at, if_neg (by omega)]; exact z5) (by rw [sf_at, if_neg (by omega)]; exact z6) (fun k hk => by rw [hm1]; exact y2 k hk)
        · rw [sf_ne _ _ _ (by omega), sf_ne _ _ _ (by omega), sf_ne _ _ _ (by omega)]; exact z1 f hf
        · rw [sf_ne _ _ _ (by omega)]; exact z4 k hk
      · rw [va_ne _ _ _ (by omega), va_ne _ _ _ (by omega)]; exact book_fr hB hM
      · rw [va_ne _ _ _ (by omega), va_ne _ _ _ (by omega)]; exact text_fr hX hM
  · rw [j2, if_neg (by exact j1)]
    exact ⟨_, _, _, rfl, rfl, hR⟩
theorem op_goBack {C : CC} {M : HC} (hR : Rel C M) (p1 : Int32) : ∃ (v : Int32) (C2 : CC) (M2 : HC), f_X6_goBack C p1 = some (v, C2) ∧ f_X7_goBack M p1 = some (v, M2) ∧ Rel C2 M2 := by
  obtain ⟨P, F, T, R, hL, hS, hI0, hI1, hB, hX⟩ := id hR
  have hF := hL.1.2.1
  unfold f_X6_goBack f_X7_goBack
  rw [bnd_c, t0, t1]
  rcases in_lit p1 1 (1 : Int64) (by decide) (by omega) with ⟨j, j1, rfl, j2⟩ | ⟨j1, j2⟩
  · rw [j2, if_pos (by rw [nI_toInt (by omega)]; omega)]
    simp only [bd, if_neg one_ne0, nm]
    rw [if_pos (inb_nI (by omega) (by omega)), nI_clamp (by omega)]
    rcases (show j = 0 ∨ j = 1 by omega) with rfl | rfl
    · rw [if_pos (show nI 0 = (0 : Int32) from rfl), show (47 : Int32) * ((1 : Int32) + nI 0) = nI 47 by decide, hI0.1]
      rcases hI0.2 with h0 | ⟨h1, hs⟩
      · rw [if_pos h0, if_pos h0]; exact ⟨_, _, _, rfl, rfl, hR⟩
      · rw [h1, if_neg one_ne0, if_neg one_ne0]
        obtain ⟨Z, z0, z1, z4, z5, z6, z7⟩ := become_c (C 4) (C 5)
        obtain ⟨Y, y0, y1, y2, y3⟩ := copy_m M 47 0 (by omega) (by omega) (by omega)
        rw [z0, show f_X7_copyRow M (nI 47) 0 = some Y from y0]
        simp only []
        refine ⟨_, _, _, rfl, rfl, ⟨P, F, T, R, ?_, ?_, ?_, ?_, ?_, ?_⟩⟩
        · rw [va_ne _ _ _ (by omega)]; exact land_fr hL (fun j a _ => y1 j a)
        · rw [va_eq]; exact st_copy hF hs z1 z4 z5 z6 (fun k hk => y2 k hk)
        · rw [va_ne _ _ _ (by omega)]; exact RImg_M hF hI0 (by rw [y1 2 (by omega)]) (fun i a b => y3 i (by omega))
        · rw [va_ne _ _ _ (by omega)]; exact RImg_M hF hI1 (by rw [y1 2 (by omega)]) (fun i a b => y3 i (by omega))
        · rw [va_ne _ _ _ (by omega)]; exact book_fr hB (fun j a _ => y1 j a)
        · rw [va_ne _ _ _ (by omega)]; exact text_fr hX (fun j a _ => y1 j a)
    · rw [if_neg (show ¬ nI 1 = (0 : Int32) by decide), show (47 : Int32) * ((1 : Int32) + nI 1) = nI 94 by decide, hI1.1]
      rcases hI1.2 with h0 | ⟨h1, hs⟩
      · rw [if_pos h0, if_pos h0]; exact ⟨_, _, _, rfl, rfl, hR⟩
      · rw [h1, if_neg one_ne0, if_neg one_ne0]
        obtain ⟨Z, z0, z1, z4, z5, z6, z7⟩ := become_c (C 4) (C 6)
        obtain ⟨Y, y0, y1, y2, y3⟩ := copy_m M 94 0 (by omega) (by omega) (by omega)
        rw [z0, show f_X7_copyRow M (nI 94) 0 = some Y from y0]
        simp only []
        refine ⟨_, _, _, rfl, rfl, ⟨P, F, T, R, ?_, ?_, ?_, ?_, ?_, ?_⟩⟩
        · rw [va_ne _ _ _ (by omega)]; exact land_fr hL (fun j a _ => y1 j a)
        · rw [va_eq]; exact st_copy hF hs z1 z4 z5 z6 (fun k hk => y2 k hk)
        · rw [va_ne _ _ _ (by omega)]; exact RImg_M hF hI0 (by rw [y1 2 (by omega)]) (fun i a b => y3 i (by omega))
        · rw [va_ne _ _ _ (by omega)]; exact RImg_M hF hI1 (by rw [y1 2 (by omega)]) (fun i a b => y3 i (by omega))
        · rw [va_ne _ _ _ (by omega)]; exact book_fr hB (fun j a _ => y1 j a)
        · rw [va_ne _ _ _ (by omega)]; exact text_fr hX (fun j a _ => y1 j a)
  · rw [j2, if_neg (by exact j1)]
    exact ⟨_, _, _, rfl, rfl, hR⟩
