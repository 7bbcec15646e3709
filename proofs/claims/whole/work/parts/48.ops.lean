/-! ===== pure: the land that was told ===== -/
theorem begin_c (S L : HC) : ∃ Z, f_X4_begin S L = some Z ∧ (∀ f, f < 5 → Z 1 f = L 3 f ∧ Z 2 f = 0 ∧ Z 3 f = 0) ∧ (∀ k, k < 30 → Z 4 k = L 12 k) ∧ Z 0 4 = 0 ∧ Z 0 5 = S 0 5 := by
  unfold f_X4_begin
  obtain ⟨X1, rc1, ⟨i0, i1⟩, h1⟩ := lp_ex (T := Int32 → HC → Option HC) (z := fun _ _ => none) (F := f_X4_begin_b2 L) (fun g k (s : HC) => g (nI k) s) 5 (fun k s => s 0 = S 0 ∧ ∀ f, f < k → s 1 f = L 3 f ∧ s 2 f = 0 ∧ s 3 f = 0) (by
    intro rc k s hi hk
    obtain ⟨a0, a1⟩ := hi
    have i5 : inb (nI k) 5 := inb_nI (by omega) (by omega)
    have c5 : (nI k).toNatClampNeg = k := nI_clamp (by omega)
    refine ⟨sa (sa (sa s 1 (nI k) (L 3 k)) 2 (nI k) 0) 3 (nI k) 0, ?_, ?_, fun f hf => ?_⟩
    · unfold f_X4_begin_b2
      rw [if_neg (show ¬ (5 : Int32) ≤ nI k from nI_ge (b := 5) hk (by omega)), if_pos i5, if_pos i5, nm_q, if_pos i5, nm_q, if_pos i5, nm_q, nm_q, nI_1, c5]
    · rw [sa_ne _ _ _ _ (show 0 ≠ 3 by omega), sa_ne _ _ _ _ (show 0 ≠ 2 by omega), sa_ne _ _ _ _ (show 0 ≠ 1 by omega)]; exact a0
    · rw [sa_ne _ _ _ _ (show 1 ≠ 3 by omega), sa_ne _ _ _ _ (show 1 ≠ 2 by omega), sa_ne _ _ _ _ (show 2 ≠ 3 by omega), sa_at (by omega), sa_at (by omega), sa_at (by omega), sa_ne _ _ _ _ (show 2 ≠ 1 by omega), sa_ne _ _ _ _ (show 3 ≠ 2 by omega), sa_ne _ _ _ _ (show 3 ≠ 1 by omega)]
      by_cases hfk : f = k
      · rw [if_pos hfk, if_pos hfk, if_pos hfk, hfk]; exact ⟨rfl, rfl, rfl⟩
      · rw [if_neg hfk, if_neg hfk, if_neg hfk]; exact a1 f (by omega)) FU 5 0 S ⟨rfl, fun f hf => by omega⟩ (by omega) (by have := FU_gt; omega)
  rw [show lp (fun _ _ => none : Int32 → HC → Option (HC)) (f_X4_begin_b2 L) FU (0 : Int32) S = f_X4_begin_b2 L rc1 (nI 5) X1 from h1]
  unfold f_X4_begin_b2
  rw [if_pos (show (5 : Int32) ≤ nI 5 from nI_le (a := 5) (by omega) (by omega))]
  obtain ⟨X2, rc2, ⟨j1, j2⟩, h2⟩ := lp_ex (T := Int32 → HC → Option HC) (z := fun _ _ => none) (F := f_X4_begin_b41 L) (fun g k (s : HC) => g (nI k) s) 30 (fun k s => (∀ j, j ≠ 4 → s j = X1 j) ∧ ∀ p, p < k → s 4 p = L 12 p) (by
    intro rc k s hi hk
    obtain ⟨a1, a2⟩ := hi
    have i30 : inb (nI k) 30 := inb_nI (by omega) (by omega)
    have c30 : (nI k).toNatClampNeg = k := nI_clamp (by omega)
    refine ⟨sa s 4 (nI k) (L 12 k), ?_, fun j hj => by rw [sa_ne _ _ _ _ hj]; exact a1 j hj, fun p hp => ?_⟩
    · unfold f_X4_begin_b41
      rw [if_neg (show ¬ (30 : Int32) ≤ nI k from nI_ge (b := 30) hk (by omega)), if_pos i30, if_pos i30, c30, nm_q, nm_q, nI_1]
    · rw [sa_at (by omega)]
      by_cases hpk : p = k
      · rw [if_pos hpk, hpk]
      · rw [if_neg hpk]; exact a2 p (by omega)) FU 30 0 X1 ⟨fun _ _ => rfl, fun p hp => by omega⟩ (by omega) (by have := FU_gt; omega)
  rw [show lp (fun _ _ => none : Int32 → HC → Option (HC)) (f_X4_begin_b41 L) FU (0 : Int32) X1 = f_X4_begin_b41 L rc2 (nI 30) X2 from h2]
  unfold f_X4_begin_b41
  rw [if_pos (show (30 : Int32) ≤ nI 30 from nI_le (a := 30) (by omega) (by omega)), nm_q]
  refine ⟨_, rfl, fun f hf => ?_, fun k hk => ?_, by rw [sf_at, if_pos rfl], by rw [sf_at, if_neg (by omega), j1 0 (by omega), i0]⟩
  · rw [sf_ne _ _ _ (show 1 ≠ 0 by omega), sf_ne _ _ _ (show 2 ≠ 0 by omega), sf_ne _ _ _ (show 3 ≠ 0 by omega), j1 1 (by omega), j1 2 (by omega), j1 3 (by omega)]
    exact i1 f hf
  · rw [sf_ne _ _ _ (show 4 ≠ 0 by omega)]; exact j2 k hk
theorem land_b77 (M : HC) : ∃ Y, lp (fun _ _ => none : Int32 → HC → Option (Int32 × HC)) f_X7_land_b77 FU (0 : Int32) M = lp (fun _ _ => none : Int32 → HC → Option (Int32 × HC)) f_X7_land_b103 FU (0 : Int32) Y ∧ (∀ j, j ≠ 7 → Y j = M j) ∧ (∀ k, k < 24 → Y 7 k = M 12 k) := by
  obtain ⟨Y, rc, ⟨i1, i2⟩, h⟩ := lp_ex (T := Int32 → HC → Option (Int32 × HC)) (z := fun _ _ => none) (F := f_X7_land_b77) (fun g k (s : HC) => g (nI k) s) 24 (fun k s => (∀ j, j ≠ 7 → s j = M j) ∧ ∀ i, i < k → s 7 i = M 12 i) (by
    intro rc k s hi hk
    obtain ⟨a1, a2⟩ := hi
    have ii : inb (nI k) 24 := inb_nI (by omega) (by omega)
    have ci : (nI k).toNatClampNeg = k := nI_clamp (by omega)
    refine ⟨sa s 7 (nI k) (M 12 k), ?_, fun j hj => by rw [sa_ne _ _ _ _ hj]; exact a1 j hj, fun i hi => ?_⟩
    · unfold f_X7_land_b77
      rw [if_neg (show ¬ (24 : Int32) ≤ nI k from nI_ge (b := 24) hk (by omega)), if_pos ii, if_pos ii, ci, a1 12 (by omega), nm_q, nm_q, nI_1]
    · rw [sa_at (by omega)]
      by_cases hik : i = k
      · rw [if_pos hik, hik]
      · rw [if_neg hik]; exact a2 i (by omega)) FU 24 0 M ⟨fun _ _ => rfl, fun i hi => by omega⟩ (by omega) (by have := FU_gt; omega)
  refine ⟨Y, ?_, i1, i2⟩
  rw [show lp (fun _ _ => none : Int32 → HC → Option (Int32 × HC)) f_X7_land_b77 FU (0 : Int32) M = f_X7_land_b77 rc (nI 24) Y from h]
  unfold f_X7_land_b77
  rw [if_pos (show (24 : Int32) ≤ nI 24 from nI_le (a := 24) (by omega) (by omega))]
theorem land_b103 (M : HC) : ∃ Y, lp (fun _ _ => none : Int32 → HC → Option (Int32 × HC)) f_X7_land_b103 FU (0 : Int32) M = lp (fun _ _ => none : Int32 → HC → Option (Int32 × HC)) f_X7_land_b129 FU (0 : Int32) Y ∧ (∀ j, j ≠ 8 → Y j = M j) ∧ (∀ k, k < 12 → Y 8 k = M 13 k) := by
  obtain ⟨Y, rc, ⟨i1, i2⟩, h⟩ := lp_ex (T := Int32 → HC → Option (Int32 × HC)) (z := fun _ _ => none) (F := f_X7_land_b103) (fun g k (s : HC) => g (nI k) s) 12 (fun k s => (∀ j, j ≠ 8 → s j = M j) ∧ ∀ i, i < k → s 8 i = M 13 i) (by
    intro rc k s hi hk
    obtain ⟨a1, a2⟩ := hi
    have ii : inb (nI k) 12 := inb_nI (by omega) (by omega)
    have ci : (nI k).toNatClampNeg = k := nI_clamp (by omega)
    refine ⟨sa s 8 (nI k) (M 13 k), ?_, fun j hj => by rw [sa_ne _ _ _ _ hj]; exact a1 j hj, fun i hi => ?_⟩
    · unfold f_X7_land_b103
      rw [if_neg (show ¬ (12 : Int32) ≤ nI k from nI_ge (b := 12) hk (by omega)), if_pos ii, if_pos ii, ci, a1 13 (by omega), nm_q, nm_q, nI_1]
    · rw [sa_at (by omega)]
      by_cases hik : i = k
      · rw [if_pos hik, hik]
      · rw [if_neg hik]; exact a2 i (by omega)) FU 12 0 M ⟨fun _ _ => rfl, fun i hi => by omega⟩ (by omega) (by have := FU_gt; omega)
  refine ⟨Y, ?_, i1, i2⟩
  rw [show lp (fun _ _ => none : Int32 → HC → Option (Int32 × HC)) f_X7_land_b103 FU (0 : Int32) M = f_X7_land_b103 rc (nI 12) Y from h]
  unfold f_X7_land_b103
  rw [if_pos (show (12 : Int32) ≤ nI 12 from nI_le (a := 12) (by omega) (by omega))]
theorem land_b129 (M : HC) : ∃ Y, lp (fun _ _ => none : Int32 → HC → Option (Int32 × HC)) f_X7_land_b129 FU (0 : Int32) M = lp (fun _ _ => none : Int32 → HC → Option (Int32 × HC)) (f_X7_land_b163 (Y 1 46)) FU (0 : Int32) Y ∧ (∀ j, j ≠ 6 → Y j = M j) ∧ (∀ k, k < 6 → Y 6 k = M 11 k) := by
  obtain ⟨Y, rc, ⟨i1, i2⟩, h⟩ := lp_ex (T := Int32 → HC → Option (Int32 × HC)) (z := fun _ _ => none) (F := f_X7_land_b129) (fun g k (s : HC) => g (nI k) s) 6 (fun k s => (∀ j, j ≠ 6 → s j = M j) ∧ ∀ i, i < k → s 6 i = M 11 i) (by
    intro rc k s hi hk
    obtain ⟨a1, a2⟩ := hi
    have ii : inb (nI k) 6 := inb_nI (by omega) (by omega)
    have ci : (nI k).toNatClampNeg = k := nI_clamp (by omega)
    refine ⟨sa s 6 (nI k) (M 11 k), ?_, fun j hj => by rw [sa_ne _ _ _ _ hj]; exact a1 j hj, fun i hi => ?_⟩
    · unfold f_X7_land_b129
      rw [if_neg (show ¬ (6 : Int32) ≤ nI k from nI_ge (b := 6) hk (by omega)), if_pos ii, if_pos ii, ci, a1 11 (by omega), nm_q, nm_q, nI_1]
    · rw [sa_at (by omega)]
      by_cases hik : i = k
      · rw [if_pos hik, hik]
      · rw [if_neg hik]; exact a2 i (by omega)) FU 6 0 M ⟨fun _ _ => rfl, fun i hi => by omega⟩ (by omega) (by have := FU_gt; omega)
  refine ⟨Y, ?_, i1, i2⟩
  rw [show lp (fun _ _ => none : Int32 → HC → Option (Int32 × HC)) f_X7_land_b129 FU (0 : Int32) M = f_X7_land_b129 rc (nI 6) Y from h]
  unfold f_X7_land_b129
  rw [if_pos (show (6 : Int32) ≤ nI 6 from nI_le (a := 6) (by omega) (by omega))]
  have i46 : inb (46 : Int32) 141 := by decide
  have c46 : (46 : Int32).toNatClampNeg = 46 := by decide
  rw [if_pos i46, c46, nm_q]
theorem land_b163 (M : HC) (v : Int32) : ∃ Y, lp (fun _ _ => none : Int32 → HC → Option (Int32 × HC)) (f_X7_land_b163 v) FU (0 : Int32) M = lp (fun _ _ => none : Int32 → HC → Option (Int32 × HC)) f_X7_land_b192 FU (0 : Int32) Y ∧ (∀ j, j ≠ 1 → Y j = M j) ∧ (∀ k, k < 46 → Y 1 k = 0) ∧ Y 1 46 = v := by
  obtain ⟨Y, rc, ⟨i1, i2⟩, h⟩ := lp_ex (T := Int32 → HC → Option (Int32 × HC)) (z := fun _ _ => none) (F := f_X7_land_b163 v) (fun g k (s : HC) => g (nI k) s) 47 (fun k s => (∀ j, j ≠ 1 → s j = M j) ∧ ∀ i, i < k → s 1 i = 0) (by
    intro rc k s hi hk
    obtain ⟨a1, a2⟩ := hi
    have ii : inb (nI k) 141 := inb_nI (by omega) (by omega)
    refine ⟨sa s 1 (nI k) 0, ?_, fun j hj => by rw [sa_ne _ _ _ _ hj]; exact a1 j hj, fun i hi => ?_⟩
    · unfold f_X7_land_b163
      rw [if_neg (show ¬ (47 : Int32) ≤ nI k from nI_ge (b := 47) hk (by omega)), if_pos ii, nm_q, nm_q, nI_1]
    · rw [sa_at (by omega)]
      by_cases hik : i = k
      · rw [if_pos hik]
      · rw [if_neg hik]; exact a2 i (by omega)) FU 47 0 M ⟨fun _ _ => rfl, fun i hi => by omega⟩ (by omega) (by have := FU_gt; omega)
  refine ⟨sa Y 1 (nI 46) v, ?_, fun j hj => by rw [sa_ne _ _ _ _ hj]; exact i1 j hj, fun k hk => by rw [sa_at (by omega), if_neg (by omega)]; exact i2 k (by omega), by rw [sa_at (by omega), if_pos rfl]⟩
  rw [show lp (fun _ _ => none : Int32 → HC → Option (Int32 × HC)) (f_X7_land_b163 v) FU (0 : Int32) M = f_X7_land_b163 v rc (nI 47) Y from h]
  unfold f_X7_land_b163
  rw [if_pos (show (47 : Int32) ≤ nI 47 from nI_le (a := 47) (by omega) (by omega)), if_pos (show inb (46 : Int32) 141 by decide), nm_q]
  rfl
theorem land_b192 {M : HC} {F : Nat} (hF : F ≤ 5) (h6 : M 0 6 = nI F) : ∃ Y, lp (fun _ _ => none : Int32 → HC → Option (Int32 × HC)) f_X7_land_b192 FU (0 : Int32) M = lp (fun _ _ => none : Int32 → HC → Option (Int32 × HC)) f_X7_land_b256 FU (0 : Int32) Y ∧ (∀ j, j ≠ 1 → j ≠ 4 → j ≠ 5 → Y j = M j) ∧ (∀ f, f < F → Y 4 f = M 10 (3 * f) ∧ Y 5 f = M 10 (3 * f + 1) ∧ Y 1 f = M 10 (3 * f + 2)) ∧ (∀ i, F ≤ i → Y 1 i = M 1 i) := by
  obtain ⟨Y, rc, ⟨i1, i2, i3⟩, h⟩ := lp_ex (T := Int32 → HC → Option (Int32 × HC)) (z := fun _ _ => none) (F := f_X7_land_b192) (fun g k (s : HC) => g (nI k) s) F (fun k s => (∀ j, j ≠ 1 → j ≠ 4 → j ≠ 5 → s j = M j) ∧ (∀ f, f < k → s 4 f = M 10 (3 * f) ∧ s 5 f = M 10 (3 * f + 1) ∧ s 1 f = M 10 (3 * f + 2)) ∧ (∀ i, F ≤ i → s 1 i = M 1 i)) (by
    intro rc k s hi hk
    obtain ⟨a1, a2, a3⟩ := hi
    have i5 : inb (nI k) 5 := inb_nI (by omega) (by omega)
    have i141 : inb (nI k) 141 := inb_nI (by omega) (by omega)
    have x0 : inb (nI (3 * k)) 15 := inb_nI (by omega) (by omega)
    have x1 : inb (nI (3 * k + 1)) 15 := inb_nI (by omega) (by omega)
    have x2 : inb (nI (3 * k + 2)) 15 := inb_nI (by omega) (by omega)
    have y0 : (nI (3 * k)).toNatClampNeg = 3 * k := nI_clamp (by omega)
    have y1 : (nI (3 * k + 1)).toNatClampNeg = 3 * k + 1 := nI_clamp (by omega)
    have y2 : (nI (3 * k + 2)).toNatClampNeg = 3 * k + 2 := nI_clamp (by omega)
    have e1 : nI (3 * k) + (1 : Int32) = nI (3 * k + 1) := nI_add (3 * k) 1
    have e2 : nI (3 * k) + (2 : Int32) = nI (3 * k + 2) := nI_add (3 * k) 2
    refine ⟨sa (sa (sa s 4 (nI k) (M 10 (3 * k))) 5 (nI k) (M 10 (3 * k + 1))) 1 (nI k) (M 10 (3 * k + 2)), ?_, fun j h1 h4 h5 => by rw [sa_ne _ _ _ _ h1, sa_ne _ _ _ _ h5, sa_ne _ _ _ _ h4]; exact a1 j h1 h4 h5, fun f hf => ?_, fun i hi => ?_⟩
    · unfold f_X7_land_b192
      rw [a1 0 (by omega) (by omega) (by omega), h6, if_neg (nI_ge hk (by omega)), ix30, if_pos x0, if_pos i5, y0, a1 10 (by omega) (by omega) (by omega), nm_q, e1, if_pos x1, if_pos i5, y1, sa_ne s _ _ _ (show 10 ≠ 4 by omega), a1 10 (by omega) (by omega) (by omega), nm_q, e2, if_pos x2, n0_add, if_pos i141, y2, sa_ne _ _ _ _ (show 10 ≠ 5 by omega), sa_ne s _ _ _ (show 10 ≠ 4 by omega), a1 10 (by omega) (by omega) (by omega), nm_q, nm_q, nI_1]
    · rw [sa_ne _ _ _ _ (show 4 ≠ 1 by omega), sa_ne _ _ _ _ (show 4 ≠ 5 by omega), sa_ne _ _ _ _ (show 5 ≠ 1 by omega), sa_at (by omega), sa_at (by omega), sa_at (by omega), sa_ne _ _ _ _ (show 5 ≠ 4 by omega), sa_ne _ _ _ _ (show 1 ≠ 5 by omega), sa_ne _ _ _ _ (show 1 ≠ 4 by omega)]
      by_cases hfk : f = k
      · rw [if_pos hfk, if_pos hfk, if_pos hfk, hfk]; exact ⟨rfl, rfl, rfl⟩
      · rw [if_neg hfk, if_neg hfk, if_neg hfk]; exact a2 f (by omega)
    · rw [sa_at (by omega), if_neg (by omega), sa_ne _ _ _ _ (show 1 ≠ 5 by omega), sa_ne _ _ _ _ (show 1 ≠ 4 by omega)]; exact a3 i hi) FU F 0 M ⟨fun _ _ _ _ => rfl, fun f hf => by omega, fun _ _ => rfl⟩ (by omega) (by have := FU_gt; omega)
  refine ⟨Y, ?_, i1, i2, i3⟩
  rw [show lp (fun _ _ => none : Int32 → HC → Option (Int32 × HC)) f_X7_land_b192 FU (0 : Int32) M = f_X7_land_b192 rc (nI F) Y from h]
  unfold f_X7_land_b192
  rw [i1 0 (by omega) (by omega) (by omega), h6, if_pos (nI_le (Nat.le_refl _) (by omega))]
theorem land_b256 (M : HC) : ∃ Y, lp (fun _ _ => none : Int32 → HC → Option (Int32 × HC)) f_X7_land_b256 FU (0 : Int32) M = some (Y 0 5, Y) ∧ (∀ j, j ≠ 0 → j ≠ 1 → j ≠ 2 → Y j = M j) ∧ (∀ k, k ≠ 16 → Y 0 k = M 0 k) ∧ Y 0 16 = 0 ∧ Y 2 0 = 0 ∧ Y 2 1 = 0 ∧ (∀ k, k < 30 → Y 1 (5 + k) = if M 14 k = -1 then 0 else M 14 k) ∧ (∀ i, (i < 5 ∨ 35 ≤ i) → Y 1 i = M 1 i) := by
  obtain ⟨Y, rc, ⟨i1, i2, i3⟩, h⟩ := lp_ex (T := Int32 → HC → Option (Int32 × HC)) (z := fun _ _ => none) (F := f_X7_land_b256) (fun g k (s : HC) => g (nI k) s) 30 (fun k s => (∀ j, j ≠ 1 → s j = M j) ∧ (∀ i, i < k → s 1 (5 + i) = if M 14 i = -1 then 0 else M 14 i) ∧ (∀ i, (i < 5 ∨ 35 ≤ i) → s 1 i = M 1 i)) (by
    intro rc k s hi hk
    obtain ⟨a1, a2, a3⟩ := hi
    have i30 : inb (nI k) 30 := inb_nI (by omega) (by omega)
    have c30 : (nI k).toNatClampNeg = k := nI_clamp (by omega)
    have e5 : (5 : Int32) + nI k = nI (5 + k) := nl 5 k
    have i141 : inb (nI (5 + k)) 141 := inb_nI (by omega) (by omega)
    refine ⟨sa s 1 (nI (5 + k)) (if M 14 k = -1 then 0 else M 14 k), ?_, fun j hj => by rw [sa_ne _ _ _ _ hj]; exact a1 j hj, fun i hi => ?_, fun i hi => ?_⟩
    · unfold f_X7_land_b256
      rw [if_neg (show ¬ (30 : Int32) ≤ nI k from nI_ge (b := 30) hk (by omega)), if_pos i30, if_pos i30, c30, a1 14 (by omega)]
      unfold f_X7_land_j289
      by_cases hm : M 14 k = -1
      · rw [if_pos hm, if_pos hm, e5, if_pos i141, nm_q, nm_q, nI_1]
      · rw [if_neg hm, if_neg hm, e5, if_pos i141, nm_q, nm_q, nI_1]
    · rw [sa_at (by omega)]
      by_cases hik : i = k
      · rw [if_pos (by omega), hik]
      · rw [if_neg (by omega)]; exact a2 i (by omega)
    · rw [sa_at (by omega), if_neg (by omega)]; exact a3 i hi) FU 30 0 M ⟨fun _ _ => rfl, fun i hi => by omega, fun _ _ => rfl⟩ (by omega) (by have := FU_gt; omega)
  rw [show lp (fun _ _ => none : Int32 → HC → Option (Int32 × HC)) f_X7_land_b256 FU (0 : Int32) M = f_X7_land_b256 rc (nI 30) Y from h]
  unfold f_X7_land_b256
  rw [if_pos (show (30 : Int32) ≤ nI 30 from nI_le (a := 30) (by omega) (by omega)), nm_q, if_pos (show inb (0 : Int32) 2 by decide), nm_q, if_pos (show inb (1 : Int32) 2 by decide), nm_q, show (0 : Int32) = nI 0 from rfl, show (1 : Int32) = nI 1 from rfl]
  refine ⟨_, rfl, fun j h0 h1 h2 => ?_, fun k hk => ?_, ?_, ?_, ?_, fun k hk => ?_, fun i hi => ?_⟩
  · rw [sa_ne _ _ _ _ h2, sa_ne _ _ _ _ h2, sf_ne _ _ _ h0]; exact i1 j h1
  · rw [sa_ne _ _ _ _ (show 0 ≠ 2 by omega), sa_ne _ _ _ _ (show 0 ≠ 2 by omega), sf_at, if_neg hk, i1 0 (by omega)]
  · rw [sa_ne _ _ _ _ (show 0 ≠ 2 by omega), sa_ne _ _ _ _ (show 0 ≠ 2 by omega), sf_at, if_pos rfl]
  · rw [sa_at (by omega), if_neg (by omega), sa_at (by omega), if_pos rfl]
  · rw [sa_at (by omega), if_pos rfl]
  · rw [sa_ne _ _ _ _ (show 1 ≠ 2 by omega), sa_ne _ _ _ _ (show 1 ≠ 2 by omega), sf_ne _ _ _ (show 1 ≠ 0 by omega)]; exact i2 k hk
  · rw [sa_ne _ _ _ _ (show 1 ≠ 2 by omega), sa_ne _ _ _ _ (show 1 ≠ 2 by omega), sf_ne _ _ _ (show 1 ≠ 0 by omega)]; exact i3 i hi
theorem op_land {C : CC} {M : HC} (hR : Rel C M) : ∃ (v : Int32) (C2 : CC) (sb : Bool) (M2 : HC), f_X6_land C = some (v, (C2, sb)) ∧ f_X7_land M = some (v, M2) ∧ Rel C2 M2 := by
  obtain ⟨P0, F0, T0, R0, hL, hS, hI0, hI1, hB, hX⟩ := id hR
  obtain ⟨⟨v, X', L'⟩, ⟨fl, M'⟩, q1, q2, e1, e2, e3, e4⟩ := parse_cm (C 3) hX
  dsimp only at e1 e2 e3 e4
  subst e1
  have hF0 : F0 ≤ 5 := hL.1.2.1
  have m46 : M' 1 46 = M 1 46 := by rw [e4.1 1 (by omega) (by omega)]
  by_cases h0 : v = 0
  · -- no fault
    subst h0
    rcases e3 with ⟨-, x5, P, F, c, T, R, hD⟩ | ⟨h, -⟩
    · obtain ⟨⟨hP6, hF5, hc10, hT6, hR4⟩, ⟨l0, m19⟩, ⟨l1, m20⟩, ⟨l2, m22⟩, ⟨l3, m24⟩, ⟨l4, m26⟩, dF, dC, dT, dK, dE⟩ := hD
      -- the reference
      obtain ⟨Ma, hMa⟩ : ∃ x, x = sf (sf (sf (sf (sf (sf (sf M' 3 0) 4 (-1)) 5 (nI P)) 6 (nI F)) 9 (nI c)) 11 (nI T)) 13 (nI R) := ⟨_, rfl⟩
      have mar : ∀ r, r ≠ 0 → Ma r = M' r := fun r hr => by rw [hMa, sf_ne _ _ _ hr, sf_ne _ _ _ hr, sf_ne _ _ _ hr, sf_ne _ _ _ hr, sf_ne _ _ _ hr, sf_ne _ _ _ hr, sf_ne _ _ _ hr]
      have maf : Ma 0 3 = 0 ∧ Ma 0 4 = -1 ∧ Ma 0 5 = nI P ∧ Ma 0 6 = nI F ∧ Ma 0 9 = nI c ∧ Ma 0 11 = nI T ∧ Ma 0 13 = nI R := by
        rw [hMa]
        refine ⟨?_, ?_, ?_, ?_, ?_, ?_, ?_⟩ <;> rw [sf_at, sf_at, sf_at, sf_at, sf_at, sf_at, sf_at] <;> rfl
      obtain ⟨Y1, a1, a2, a3⟩ := land_b77 Ma
      obtain ⟨Y2, b1, b2, b3⟩ := land_b103 Y1
      obtain ⟨Y3, c1, c2, c3⟩ := land_b129 Y2
      obtain ⟨Y4, d1, d2, d3, d4⟩ := land_b163 Y3 (Y3 1 46)
      have y40 : Y4 0 = Ma 0 := by rw [d2 0 (by omega), c2 0 (by omega), b2 0 (by omega), a2 0 (by omega)]
      obtain ⟨Y5, f1, f2, f3, f4⟩ := land_b192 (M := Y4) hF5 (by rw [y40]; exact maf.2.2.2.1)
      obtain ⟨Y, g1, g2, g3, g4, g5, g6, g7, g8⟩ := land_b256 Y5
      have y50 : Y5 0 = Ma 0 := by rw [f2 0 (by omega) (by omega) (by omega), y40]
      have y346 : Y3 1 46 = M 1 46 := by rw [c2 1 (by omega), b2 1 (by omega), a2 1 (by omega), mar 1 (by omega), m46]
      have r10 : Y4 10 = M' 10 := by rw [d2 10 (by omega), c2 10 (by omega), b2 10 (by omega), a2 10 (by omega), mar 10 (by omega)]
      have r14 : Y5 14 = M' 14 := by rw [f2 14 (by omega) (by omega) (by omega), d2 14 (by omega), c2 14 (by omega), b2 14 (by omega), a2 14 (by omega), mar 14 (by omega)]
      have r7 : ∀ k, k < 24 → Y 7 k = M' 12 k := fun k hk => by rw [g2 7 (by omega) (by omega) (by omega), f2 7 (by omega) (by omega) (by omega), d2 7 (by omega), c2 7 (by omega), b2 7 (by omega), a3 k hk, mar 12 (by omega)]
      have r8 : ∀ k, k < 12 → Y 8 k = M' 13 k := fun k hk => by rw [g2 8 (by omega) (by omega) (by omega), f2 8 (by omega) (by omega) (by omega), d2 8 (by omega), c2 8 (by omega), b3 k hk, a2 13 (by omega), mar 13 (by omega)]
      have r6 : ∀ k, k < 6 → Y 6 k = M' 11 k := fun k hk => by rw [g2 6 (by omega) (by omega) (by omega), f2 6 (by omega) (by omega) (by omega), d2 6 (by omega), c3 k hk, b2 11 (by omega), a2 11 (by omega), mar 11 (by omega)]
      have r4 : ∀ f, f < F → Y 4 f = M' 10 (3 * f) ∧ Y 5 f = M' 10 (3 * f + 1) ∧ Y 1 f = M' 10 (3 * f + 2) := fun f hf => by
        rw [g2 4 (by omega) (by omega) (by omega), g2 5 (by omega) (by omega) (by omega), g8 f (by omega), ← r10]
        exact f3 f hf
      have yz : ∀ i, (35 ≤ i ∧ i < 46) → Y 1 i = 0 := fun i hi => by rw [g8 i (by omega), f4 i (by omega), d3 i (by omega)]
      have y46 : Y 1 46 = M 1 46 := by rw [g8 46 (by omega), f4 46 (by omega), d4, y346]
      obtain ⟨n3, n4, n5, n6, n9, n11, n13⟩ := maf
      have e7 : f_X7_land M = some (nI P, Y) := by
        unfold f_X7_land f_X7_land_j23
        rw [q2, bd_s, p1_e, p2_e, nm_q, nm_q, if_pos z_z, nm_q, if_pos z_z, nm_q, nm_q, nm_q, nm_q, nm_q]
        rw [show sf (sf M' 3 0) 4 (-1) 0 19 = nI P from by rw [sf_at, if_neg (by omega), sf_at, if_neg (by omega)]; exact m19]
        rw [show sf (sf (sf M' 3 0) 4 (-1)) 5 (nI P) 0 20 = nI F from by rw [sf_at, if_neg (by omega), sf_at, if_neg (by omega), sf_at, if_neg (by omega)]; exact m20]
        rw [show sf (sf (sf (sf M' 3 0) 4 (-1)) 5 (nI P)) 6 (nI F) 0 22 = nI c from by rw [sf_at, if_neg (by omega), sf_at, if_neg (by omega), sf_at, if_neg (by omega), sf_at, if_neg (by omega)]; exact m22]
        rw [show sf (sf (sf (sf (sf M' 3 0) 4 (-1)) 5 (nI P)) 6 (nI F)) 9 (nI c) 0 24 = nI T from by rw [sf_at, if_neg (by omega), sf_at, if_neg (by omega), sf_at, if_neg (by omega), sf_at, if_neg (by omega), sf_at, if_neg (by omega)]; exact m24]
        rw [show sf (sf (sf (sf (sf (sf M' 3 0) 4 (-1)) 5 (nI P)) 6 (nI F)) 9 (nI c)) 11 (nI T) 0 26 = nI R from by rw [sf_at, if_neg (by omega), sf_at, if_neg (by omega), sf_at, if_neg (by omega), sf_at, if_neg (by omega), sf_at, if_neg (by omega), sf_at, if_neg (by omega)]; exact m26]
        rw [← hMa, a1, b1, c1, d1, f1, g1, g3 5 (by omega), y50, n5]
      -- the class
      obtain ⟨Ca, hCa⟩ : ∃ x, x = sw (va_up (va_up C 1 X') 3 L') := ⟨_, rfl⟩
      have ca1 : Ca 1 = X' := by rw [hCa]; rfl
      have ca2 : Ca 2 = L' := by rw [hCa]; rfl
      have ca4 : Ca 4 = C 4 := by rw [hCa]; rfl
      obtain ⟨S, s1, s2, s3, s4, s5⟩ := begin_c (C 4) L'
      obtain ⟨Cb, hCb⟩ : ∃ x, x = va_up Ca 4 S := ⟨_, rfl⟩
      obtain ⟨Cc, hCc⟩ : ∃ x, x = va_up Cb 5 (sf (Cb 5) 6 0) := ⟨_, rfl⟩
      obtain ⟨Cd, hCd⟩ : ∃ x, x = va_up Cc 6 (sf (Cc 6) 6 0) := ⟨_, rfl⟩
      obtain ⟨Ce, hCe⟩ : ∃ x, x = va_up Cd 7 (sf (Cd 7) 2 0) := ⟨_, rfl⟩
      have w1 : Ce 1 = X' := by rw [hCe, va_ne _ _ _ (by omega), hCd, va_ne _ _ _ (by omega), hCc, va_ne _ _ _ (by omega), hCb, va_ne _ _ _ (by omega), ca1]
      have w2 : Ce 2 = L' := by rw [hCe, va_ne _ _ _ (by omega), hCd, va_ne _ _ _ (by omega), hCc, va_ne _ _ _ (by omega), hCb, va_ne _ _ _ (by omega), ca2]
      have w4 : Ce 4 = S := by rw [hCe, va_ne _ _ _ (by omega), hCd, va_ne _ _ _ (by omega), hCc, va_ne _ _ _ (by omega), hCb, va_eq]
      have w5 : Ce 5 0 6 = 0 := by rw [hCe, va_ne _ _ _ (by omega), hCd, va_ne _ _ _ (by omega), hCc, va_eq, sf_at, if_pos rfl]
      have w6 : Ce 6 0 6 = 0 := by rw [hCe, va_ne _ _ _ (by omega), hCd, va_eq, sf_at, if_pos rfl]
      have w7 : Ce 7 0 2 = 0 := by rw [hCe, va_eq, sf_at, if_pos rfl]
      have e6 : f_X6_land C = some (nI P, (Ce, true)) := by
        unfold f_X6_land
        rw [q1, bd_s, p2_e, p1_e, p2_e, p1_e, nm_q, nm_q, if_pos z_z, nm_q, ← hCa, ca4, ca2, s1, bd_s, nm_q, ← hCb, nm_q, ← hCc, nm_q, ← hCd, nm_q, ← hCe, w2, l0]
      refine ⟨_, Ce, true, Y, e6, e7, P, F, T, R, ?_, ?_, ?_, ?_, ?_, ?_⟩
      · rw [w2]
        refine ⟨⟨hP6, hF5, hT6, hR4⟩, ⟨l0, by rw [g3 5 (by omega), y50]; exact n5⟩, ⟨l1, by rw [g3 6 (by omega), y50]; exact n6⟩, ⟨l3, by rw [g3 11 (by omega), y50]; exact n11⟩, ⟨l4, by rw [g3 13 (by omega), y50]; exact n13⟩, by rw [l2, g3 9 (by omega), y50]; exact n9.symm, fun f hf => ?_, fun p hp => ?_, fun t ht => ?_, fun r hr => ?_⟩
        · obtain ⟨k1, k2, k3⟩ := r4 f hf
          obtain ⟨z1, z2, z3⟩ := dF f hf
          rw [k1, k2]
          exact ⟨z1, z2.1, z2.2⟩
        · rw [r6 p (by omega)]; exact dC p (by omega)
        · rw [r7 (4 * t) (by omega), r7 (4 * t + 1) (by omega), r7 (4 * t + 2) (by omega), r7 (4 * t + 3) (by omega)]
          exact dT t ht
        · rw [r8 (3 * r) (by omega), r8 (3 * r + 1) (by omega), r8 (3 * r + 2) (by omega)]
          exact dK r hr
      · rw [w4]
        refine ⟨fun f hf => ?_, fun k hk => ?_, ?_, ?_, ?_⟩
        · obtain ⟨k1, k2, k3⟩ := r4 f hf
          obtain ⟨z1, z2, z3, z4⟩ := dF f hf
          obtain ⟨t1, t2, t3⟩ := s2 f (by omega)
          rw [Nat.zero_add, k3, yz (0 + 35 + f) (by omega), yz (0 + 40 + f) (by omega), t1, t2, t3]
          exact ⟨⟨z3, z4⟩, rfl, rfl⟩
        · rw [show 0 + 5 + k = 5 + k by omega, g7 k hk, r14, s3 k hk]
          rcases dE k hk with ⟨z1, z2, z3⟩ | ⟨z1, z2, z3, z4, z5⟩
          · rw [if_pos z1, z3]; exact ⟨rfl, 0, by omega, rfl⟩
          · have hne : ¬ M' 14 k = -1 := fun z => by
              have := congrArg Int32.toInt (z5.symm.trans z)
              rw [nI_toInt (by omega), show (-1 : Int32).toInt = -1 by decide] at this
              omega
            rw [if_neg hne, z2]; exact ⟨rfl, z3, z4, z5⟩
        · rw [s4, yz (0 + 45) (by omega)]
        · rw [s5, Nat.zero_add, y46, hS.2.2.2.1, Nat.zero_add]
        · obtain ⟨z, z1, z2⟩ := hS.2.2.2.2
          rw [Nat.zero_add] at z2
          exact ⟨z, z1, by rw [Nat.zero_add, y46]; exact z2⟩
      · exact ⟨by rw [w5, g5], Or.inl g5⟩
      · exact ⟨by rw [w6, g6], Or.inl g6⟩
      · exact ⟨0, by omega, w7, g4, fun k hk => by omega⟩
      · rw [w1]
        exact ⟨by rw [x5, g3 4 (by omega), y50, n4], 0, by omega, e2, by rw [g3 3 (by omega), y50, n3]; rfl, fun k hk => by omega⟩
    · exact absurd rfl h
  · -- a fault
    rcases e3 with ⟨h, -⟩ | ⟨-, x5⟩
    · exact absurd h h0
    · have e6 : f_X6_land C = some ((-10 : Int32) - v, (va_up (va_up C 1 X') 3 L', false)) := by
        unfold f_X6_land
        rw [q1, bd_s, p2_e, p1_e, p2_e, p1_e, nm_q, nm_q, if_neg h0]
      have e7 : f_X7_land M = some ((-10 : Int32) - v, sf (sf M' 3 0) 4 (M' 0 18)) := by
        unfold f_X7_land f_X7_land_j23
        rw [q2, bd_s, p1_e, p2_e, nm_q, nm_q, if_neg h0, sf_at, if_neg (show ¬ 18 = 3 by omega), nm_q, if_neg h0]
      have hr : ∀ j, j ≠ 0 → (j < 10 ∨ 15 < j) → sf (sf M' 3 0) 4 (M' 0 18) j = M j := fun j h1 h2 => by rw [sf_ne _ _ _ h1, sf_ne _ _ _ h1]; exact e4.1 j h1 h2
      have hf : ∀ k, k < 17 → k ≠ 3 → k ≠ 4 → sf (sf M' 3 0) 4 (M' 0 18) 0 k = M 0 k := fun k h1 h2 h3 => by rw [sf_at, if_neg h3, sf_at, if_neg h2]; exact e4.2 k h1
      refine ⟨_, _, _, _, e6, e7, P0, F0, T0, R0, ?_, ?_, ?_, ?_, ?_, ?_⟩
      · rw [va_ne _ _ _ (by omega), va_ne _ _ _ (by omega)]
        exact RLand_M hL (hf 5 (by omega) (by omega) (by omega)) (hf 6 (by omega) (by omega) (by omega)) (hf 9 (by omega) (by omega) (by omega)) (hf 11 (by omega) (by omega) (by omega)) (hf 13 (by omega) (by omega) (by omega)) (hr 4 (by omega) (by omega)) (hr 5 (by omega) (by omega)) (hr 6 (by omega) (by omega)) (hr 7 (by omega) (by omega)) (hr 8 (by omega) (by omega))
      · rw [va_ne _ _ _ (by omega), va_ne _ _ _ (by omega)]
        exact RSt_M hF0 hS (fun j _ _ => by rw [hr 1 (by omega) (by omega)])
      · rw [va_ne _ _ _ (by omega), va_ne _ _ _ (by omega)]
        exact RImg_M hF0 hI0 (by rw [hr 2 (by omega) (by omega)]) (fun j _ _ => by rw [hr 1 (by omega) (by omega)])
      · rw [va_ne _ _ _ (by omega), va_ne _ _ _ (by omega)]
        exact RImg_M hF0 hI1 (by rw [hr 2 (by omega) (by omega)]) (fun j _ _ => by rw [hr 1 (by omega) (by omega)])
      · rw [va_ne _ _ _ (by omega), va_ne _ _ _ (by omega)]
        unfold RBook
        rw [hf 16 (by omega) (by omega) (by omega), hr 9 (by omega) (by omega)]
        exact hB
      · rw [va_ne _ _ _ (by omega), va_eq]
        refine ⟨by rw [sf_at, if_pos rfl]; exact x5, 0, by omega, e2, ?_, fun k hk => by omega⟩
        rw [sf_at, if_neg (by omega), sf_at, if_pos rfl]
        rfl
