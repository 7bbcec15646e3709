/-! ===== pure: the words ===== -/
theorem j33_99 (x x1 : HC) : f_X5_clause_j33 x x1 (99 : Int32) = bd (f_X5_chatClause x x1) (fun (q : HC × HC) => some (q.1, q.2)) := by
  unfold f_X5_clause_j33
  rw [if_pos (show (99 : Int32) = 99 from rfl)]
theorem j33_101 (x x1 : HC) : f_X5_clause_j33 x x1 (101 : Int32) = bd (f_X5_thoughtClause x x1) (fun (q : HC × HC) => some (q.1, q.2)) := by
  unfold f_X5_clause_j33
  rw [if_neg (show ¬ (101 : Int32) = 99 by decide), if_neg (show ¬ (101 : Int32) = 100 by decide), if_pos (show (101 : Int32) = 101 from rfl)]
theorem j33_102 (x x1 : HC) : f_X5_clause_j33 x x1 (102 : Int32) = bd (f_X5_fighterClause x x1) (fun (q : HC × HC) => some (q.1, q.2)) := by
  unfold f_X5_clause_j33
  rw [if_neg (show ¬ (102 : Int32) = 99 by decide), if_neg (show ¬ (102 : Int32) = 100 by decide), if_neg (show ¬ (102 : Int32) = 101 by decide), if_pos (show (102 : Int32) = 102 from rfl)]
theorem j33_112 (x x1 : HC) : f_X5_clause_j33 x x1 (112 : Int32) = bd (f_X5_peopleClause x x1) (fun (q : HC × HC) => some (q.1, q.2)) := by
  unfold f_X5_clause_j33
  rw [if_neg (show ¬ (112 : Int32) = 99 by decide), if_neg (show ¬ (112 : Int32) = 100 by decide), if_neg (show ¬ (112 : Int32) = 101 by decide), if_neg (show ¬ (112 : Int32) = 102 by decide), if_neg (show ¬ (112 : Int32) = 103 by decide), if_neg (show ¬ (112 : Int32) = 104 by decide), if_neg (show ¬ (112 : Int32) = 105 by decide), if_neg (show ¬ (112 : Int32) = 106 by decide), if_neg (show ¬ (112 : Int32) = 107 by decide), if_neg (show ¬ (112 : Int32) = 108 by decide), if_neg (show ¬ (112 : Int32) = 109 by decide), if_neg (show ¬ (112 : Int32) = 110 by decide), if_neg (show ¬ (112 : Int32) = 111 by decide), if_pos (show (112 : Int32) = 112 from rfl)]
theorem j33_114 (x x1 : HC) : f_X5_clause_j33 x x1 (114 : Int32) = bd (f_X5_trickClause x x1) (fun (q : HC × HC) => some (q.1, q.2)) := by
  unfold f_X5_clause_j33
  rw [if_neg (show ¬ (114 : Int32) = 99 by decide), if_neg (show ¬ (114 : Int32) = 100 by decide), if_neg (show ¬ (114 : Int32) = 101 by decide), if_neg (show ¬ (114 : Int32) = 102 by decide), if_neg (show ¬ (114 : Int32) = 103 by decide), if_neg (show ¬ (114 : Int32) = 104 by decide), if_neg (show ¬ (114 : Int32) = 105 by decide), if_neg (show ¬ (114 : Int32) = 106 by decide), if_neg (show ¬ (114 : Int32) = 107 by decide), if_neg (show ¬ (114 : Int32) = 108 by decide), if_neg (show ¬ (114 : Int32) = 109 by decide), if_neg (show ¬ (114 : Int32) = 110 by decide), if_neg (show ¬ (114 : Int32) = 111 by decide), if_neg (show ¬ (114 : Int32) = 112 by decide), if_neg (show ¬ (114 : Int32) = 113 by decide), if_pos (show (114 : Int32) = 114 from rfl)]
theorem j33_116 (x x1 : HC) : f_X5_clause_j33 x x1 (116 : Int32) = bd (f_X5_taskClause x x1) (fun (q : HC × HC) => some (q.1, q.2)) := by
  unfold f_X5_clause_j33
  rw [if_neg (show ¬ (116 : Int32) = 99 by decide), if_neg (show ¬ (116 : Int32) = 100 by decide), if_neg (show ¬ (116 : Int32) = 101 by decide), if_neg (show ¬ (116 : Int32) = 102 by decide), if_neg (show ¬ (116 : Int32) = 103 by decide), if_neg (show ¬ (116 : Int32) = 104 by decide), if_neg (show ¬ (116 : Int32) = 105 by decide), if_neg (show ¬ (116 : Int32) = 106 by decide), if_neg (show ¬ (116 : Int32) = 107 by decide), if_neg (show ¬ (116 : Int32) = 108 by decide), if_neg (show ¬ (116 : Int32) = 109 by decide), if_neg (show ¬ (116 : Int32) = 110 by decide), if_neg (show ¬ (116 : Int32) = 111 by decide), if_neg (show ¬ (116 : Int32) = 112 by decide), if_neg (show ¬ (116 : Int32) = 113 by decide), if_neg (show ¬ (116 : Int32) = 114 by decide), if_neg (show ¬ (116 : Int32) = 115 by decide), if_pos (show (116 : Int32) = 116 from rfl)]
theorem j33_no (x x1 : HC) (w : Int32) (h1 : ¬ w = 99) (h2 : ¬ w = 101) (h3 : ¬ w = 102) (h4 : ¬ w = 112) (h5 : ¬ w = 114) (h6 : ¬ w = 116) : f_X5_clause_j33 x x1 w = bd (f_X5_fail x (1 : Int32) (x 0 2)) (fun (q : HC) => some (q, x1)) := by
  unfold f_X5_clause_j33
  rw [if_neg h1, if_neg h2, if_neg h3, if_neg h4, if_neg h5, if_neg h6]
  simp only [ite_self]
theorem j30_no (X : HC) (w v3 : Int32) (h1 : ¬ w = 99) (h2 : ¬ w = 101) (h3 : ¬ w = 102) (h4 : ¬ w = 112) (h5 : ¬ w = 114) (h6 : ¬ w = 116) : f_X7_clause_j30 w X v3 = some ((1 : Int32), X) := by
  unfold f_X7_clause_j30
  rw [if_neg h4, if_neg h3, if_neg h1, if_neg h6, if_neg h5, if_neg h2]
  unfold f_X7_clause_j72
  rw [if_pos z_z]
  unfold f_X7_clause_j92
  rw [if_pos z_z]
  rfl
theorem j30f_99 (X : HC) : f_X7_clause_j30 (99 : Int32) X (1 : Int32) = some ((1 : Int32), X) := by
  unfold f_X7_clause_j30 f_X7_clause_j67 f_X7_clause_j72
  rw [if_neg (show ¬ (99 : Int32) = 112 by decide), if_neg (show ¬ (99 : Int32) = 102 by decide), if_pos (show (99 : Int32) = 99 from rfl), if_neg one_ne0, if_neg (show ¬ (99 : Int32) = 112 by decide)]
  unfold f_X7_clause_j89
  rw [if_neg one_ne0]
  unfold f_X7_clause_j92
  rw [if_neg one_ne0, if_neg one_ne0]
  rfl
theorem j30r_99 (X : HC) : f_X7_clause_j30 (99 : Int32) X (0 : Int32) = if X 0 22 = (10 : Int32) then some ((3 : Int32), X) else f_X7_clause_j166 (99 : Int32) X := by
  unfold f_X7_clause_j30 f_X7_clause_j67 f_X7_clause_j72
  rw [if_neg (show ¬ (99 : Int32) = 112 by decide), if_neg (show ¬ (99 : Int32) = 102 by decide), if_pos (show (99 : Int32) = 99 from rfl), if_neg one_ne0, if_neg (show ¬ (99 : Int32) = 112 by decide)]
  unfold f_X7_clause_j89
  rw [if_pos z_z, if_neg (show ¬ (99 : Int32) = 102 by decide)]
  unfold f_X7_clause_j120
  rw [if_pos (show (99 : Int32) = 99 from rfl)]
  unfold f_X7_clause_j135
  rw [if_neg (show ¬ (99 : Int32) = 116 by decide)]
  unfold f_X7_clause_j150
  rw [if_neg (show ¬ (99 : Int32) = 114 by decide)]
theorem j166_99 (X : HC) : f_X7_clause_j166 (99 : Int32) X = bd (f_X7_readsChat (sf X 17 ((X 0 17) + (1 : Int32)))) (fun (q : Int32 × HC) => some (q.1, q.2)) := by
  unfold f_X7_clause_j166
  rw [nm_q, if_pos (show (99 : Int32) = 99 from rfl)]
theorem j30f_102 (X : HC) : f_X7_clause_j30 (102 : Int32) X (1 : Int32) = some ((1 : Int32), X) := by
  unfold f_X7_clause_j30 f_X7_clause_j67 f_X7_clause_j72
  rw [if_neg (show ¬ (102 : Int32) = 112 by decide), if_pos (show (102 : Int32) = 102 from rfl), if_neg one_ne0, if_neg (show ¬ (102 : Int32) = 112 by decide)]
  unfold f_X7_clause_j89
  rw [if_neg one_ne0]
  unfold f_X7_clause_j92
  rw [if_neg one_ne0, if_neg one_ne0]
  rfl
theorem j30r_102 (X : HC) : f_X7_clause_j30 (102 : Int32) X (0 : Int32) = if X 0 20 = (5 : Int32) then some ((3 : Int32), X) else f_X7_clause_j166 (102 : Int32) X := by
  unfold f_X7_clause_j30 f_X7_clause_j67 f_X7_clause_j72
  rw [if_neg (show ¬ (102 : Int32) = 112 by decide), if_pos (show (102 : Int32) = 102 from rfl), if_neg one_ne0, if_neg (show ¬ (102 : Int32) = 112 by decide)]
  unfold f_X7_clause_j89
  rw [if_pos z_z, if_pos (show (102 : Int32) = 102 from rfl)]
  unfold f_X7_clause_j120
  rw [if_neg (show ¬ (102 : Int32) = 99 by decide)]
  unfold f_X7_clause_j135
  rw [if_neg (show ¬ (102 : Int32) = 116 by decide)]
  unfold f_X7_clause_j150
  rw [if_neg (show ¬ (102 : Int32) = 114 by decide)]
theorem j166_102 (X : HC) : f_X7_clause_j166 (102 : Int32) X = bd (f_X7_readsFighter (sf X 17 ((X 0 17) + (1 : Int32)))) (fun (q : Int32 × HC) => some (q.1, q.2)) := by
  unfold f_X7_clause_j166
  rw [nm_q, if_neg (show ¬ (102 : Int32) = 99 by decide), if_pos (show (102 : Int32) = 102 from rfl)]
theorem j166_112 (X : HC) : f_X7_clause_j166 (112 : Int32) X = bd (f_X7_readsPeople (sf X 17 ((X 0 17) + (1 : Int32)))) (fun (q : Int32 × HC) => some (q.1, q.2)) := by
  unfold f_X7_clause_j166
  rw [nm_q, if_neg (show ¬ (112 : Int32) = 99 by decide), if_neg (show ¬ (112 : Int32) = 102 by decide), if_pos (show (112 : Int32) = 112 from rfl)]
theorem j30f_114 (X : HC) : f_X7_clause_j30 (114 : Int32) X (1 : Int32) = some ((1 : Int32), X) := by
  unfold f_X7_clause_j30 f_X7_clause_j67 f_X7_clause_j72
  rw [if_neg (show ¬ (114 : Int32) = 112 by decide), if_neg (show ¬ (114 : Int32) = 102 by decide), if_neg (show ¬ (114 : Int32) = 99 by decide), if_neg (show ¬ (114 : Int32) = 116 by decide), if_pos (show (114 : Int32) = 114 from rfl), if_neg one_ne0, if_neg (show ¬ (114 : Int32) = 112 by decide)]
  unfold f_X7_clause_j89
  rw [if_neg one_ne0]
  unfold f_X7_clause_j92
  rw [if_neg one_ne0, if_neg one_ne0]
  rfl
theorem j30r_114 (X : HC) : f_X7_clause_j30 (114 : Int32) X (0 : Int32) = if X 0 26 = (4 : Int32) then some ((3 : Int32), X) else f_X7_clause_j166 (114 : Int32) X := by
  unfold f_X7_clause_j30 f_X7_clause_j67 f_X7_clause_j72
  rw [if_neg (show ¬ (114 : Int32) = 112 by decide), if_neg (show ¬ (114 : Int32) = 102 by decide), if_neg (show ¬ (114 : Int32) = 99 by decide), if_neg (show ¬ (114 : Int32) = 116 by decide), if_pos (show (114 : Int32) = 114 from rfl), if_neg one_ne0, if_neg (show ¬ (114 : Int32) = 112 by decide)]
  unfold f_X7_clause_j89
  rw [if_pos z_z, if_neg (show ¬ (114 : Int32) = 102 by decide)]
  unfold f_X7_clause_j120
  rw [if_neg (show ¬ (114 : Int32) = 99 by decide)]
  unfold f_X7_clause_j135
  rw [if_neg (show ¬ (114 : Int32) = 116 by decide)]
  unfold f_X7_clause_j150
  rw [if_pos (show (114 : Int32) = 114 from rfl)]
theorem j166_114 (X : HC) : f_X7_clause_j166 (114 : Int32) X = bd (f_X7_readsTrick (sf X 17 ((X 0 17) + (1 : Int32)))) (fun (q : Int32 × HC) => some (q.1, q.2)) := by
  unfold f_X7_clause_j166
  rw [nm_q, if_neg (show ¬ (114 : Int32) = 99 by decide), if_neg (show ¬ (114 : Int32) = 102 by decide), if_neg (show ¬ (114 : Int32) = 112 by decide), if_pos (show (114 : Int32) = 114 from rfl)]
theorem j30f_116 (X : HC) : f_X7_clause_j30 (116 : Int32) X (1 : Int32) = some ((1 : Int32), X) := by
  unfold f_X7_clause_j30 f_X7_clause_j67 f_X7_clause_j72
  rw [if_neg (show ¬ (116 : Int32) = 112 by decide), if_neg (show ¬ (116 : Int32) = 102 by decide), if_neg (show ¬ (116 : Int32) = 99 by decide), if_pos (show (116 : Int32) = 116 from rfl), if_neg one_ne0, if_neg (show ¬ (116 : Int32) = 112 by decide)]
  unfold f_X7_clause_j89
  rw [if_neg one_ne0]
  unfold f_X7_clause_j92
  rw [if_neg one_ne0, if_neg one_ne0]
  rfl
theorem j30r_116 (X : HC) : f_X7_clause_j30 (116 : Int32) X (0 : Int32) = if X 0 24 = (6 : Int32) then some ((3 : Int32), X) else f_X7_clause_j166 (116 : Int32) X := by
  unfold f_X7_clause_j30 f_X7_clause_j67 f_X7_clause_j72
  rw [if_neg (show ¬ (116 : Int32) = 112 by decide), if_neg (show ¬ (116 : Int32) = 102 by decide), if_neg (show ¬ (116 : Int32) = 99 by decide), if_pos (show (116 : Int32) = 116 from rfl), if_neg one_ne0, if_neg (show ¬ (116 : Int32) = 112 by decide)]
  unfold f_X7_clause_j89
  rw [if_pos z_z, if_neg (show ¬ (116 : Int32) = 102 by decide)]
  unfold f_X7_clause_j120
  rw [if_neg (show ¬ (116 : Int32) = 99 by decide)]
  unfold f_X7_clause_j135
  rw [if_pos (show (116 : Int32) = 116 from rfl)]
  unfold f_X7_clause_j150
  rw [if_neg (show ¬ (116 : Int32) = 114 by decide)]
theorem j166_116 (X : HC) : f_X7_clause_j166 (116 : Int32) X = bd (f_X7_readsTask (sf X 17 ((X 0 17) + (1 : Int32)))) (fun (q : Int32 × HC) => some (q.1, q.2)) := by
  unfold f_X7_clause_j166
  rw [nm_q, if_neg (show ¬ (116 : Int32) = 99 by decide), if_neg (show ¬ (116 : Int32) = 102 by decide), if_neg (show ¬ (116 : Int32) = 112 by decide), if_neg (show ¬ (116 : Int32) = 114 by decide), if_pos (show (116 : Int32) = 116 from rfl)]
theorem j30f_101 (X : HC) : f_X7_clause_j30 (101 : Int32) X (1 : Int32) = some ((1 : Int32), X) := by
  unfold f_X7_clause_j30 f_X7_clause_j67 f_X7_clause_j72
  rw [if_neg (show ¬ (101 : Int32) = 112 by decide), if_neg (show ¬ (101 : Int32) = 102 by decide), if_neg (show ¬ (101 : Int32) = 99 by decide), if_neg (show ¬ (101 : Int32) = 116 by decide), if_neg (show ¬ (101 : Int32) = 114 by decide), if_pos (show (101 : Int32) = 101 from rfl), if_neg one_ne0, if_neg (show ¬ (101 : Int32) = 112 by decide)]
  unfold f_X7_clause_j89
  rw [if_neg one_ne0]
  unfold f_X7_clause_j92
  rw [if_neg one_ne0, if_neg one_ne0]
  rfl
theorem j30r_101 (X : HC) : f_X7_clause_j30 (101 : Int32) X (0 : Int32) = f_X7_clause_j166 (101 : Int32) X := by
  unfold f_X7_clause_j30 f_X7_clause_j67 f_X7_clause_j72
  rw [if_neg (show ¬ (101 : Int32) = 112 by decide), if_neg (show ¬ (101 : Int32) = 102 by decide), if_neg (show ¬ (101 : Int32) = 99 by decide), if_neg (show ¬ (101 : Int32) = 116 by decide), if_neg (show ¬ (101 : Int32) = 114 by decide), if_pos (show (101 : Int32) = 101 from rfl), if_neg one_ne0, if_neg (show ¬ (101 : Int32) = 112 by decide)]
  unfold f_X7_clause_j89
  rw [if_pos z_z, if_neg (show ¬ (101 : Int32) = 102 by decide)]
  unfold f_X7_clause_j120
  rw [if_neg (show ¬ (101 : Int32) = 99 by decide)]
  unfold f_X7_clause_j135
  rw [if_neg (show ¬ (101 : Int32) = 116 by decide)]
  unfold f_X7_clause_j150
  rw [if_neg (show ¬ (101 : Int32) = 114 by decide)]
theorem j166_101 (X : HC) : f_X7_clause_j166 (101 : Int32) X = bd (f_X7_readsThought (sf X 17 ((X 0 17) + (1 : Int32)))) (fun (q : Int32 × HC) => some (q.1, q.2)) := by
  unfold f_X7_clause_j166
  rw [nm_q, if_neg (show ¬ (101 : Int32) = 99 by decide), if_neg (show ¬ (101 : Int32) = 102 by decide), if_neg (show ¬ (101 : Int32) = 112 by decide), if_neg (show ¬ (101 : Int32) = 114 by decide), if_neg (show ¬ (101 : Int32) = 116 by decide)]
theorem j30p_f (X : HC) : f_X7_clause_j30 (112 : Int32) X (1 : Int32) = f_X7_clause_j166 (112 : Int32) X := by
  unfold f_X7_clause_j30 f_X7_clause_j67 f_X7_clause_j72
  rw [if_pos (show (112 : Int32) = 112 from rfl), if_neg one_ne0, if_pos (show (112 : Int32) = 112 from rfl)]
  unfold f_X7_clause_j89
  rw [if_pos (show (1 : Int32) = 1 from rfl), if_neg (show ¬ (112 : Int32) = 102 by decide)]
  unfold f_X7_clause_j120
  rw [if_neg (show ¬ (112 : Int32) = 99 by decide)]
  unfold f_X7_clause_j135
  rw [if_neg (show ¬ (112 : Int32) = 116 by decide)]
  unfold f_X7_clause_j150
  rw [if_neg (show ¬ (112 : Int32) = 114 by decide)]
theorem j30p_r (X : HC) : f_X7_clause_j30 (112 : Int32) X (0 : Int32) = some ((3 : Int32), X) := by
  unfold f_X7_clause_j30 f_X7_clause_j67 f_X7_clause_j72
  rw [if_pos (show (112 : Int32) = 112 from rfl), if_neg one_ne0, if_pos (show (112 : Int32) = 112 from rfl)]
  unfold f_X7_clause_j89
  rw [if_neg (show ¬ (0 : Int32) = 1 by decide)]
  unfold f_X7_clause_j92
  rw [if_neg one_ne0, if_pos z_z]
theorem clause_cm {n : Nat} {tx : Nat → Int32} {X M L : HC} {a : Nat} (hn : n ≤ 250) (hX : TXc n tx X a) (han : a < n) (h4 : X 0 4 = 0) (h5 : X 0 5 = -1) (hT : TXm n tx M) (hM : M 0 17 = nI a) (hD : DR L M) : ∃ X2 L2 fl M2, f_X5_clause X L = some (X2, L2) ∧ f_X7_clause M = some (fl, M2) ∧ St n tx X2 M2 fl (a + 1) ∧ (fl = 0 → DR L2 M2) ∧ PF M M2 := by
  obtain ⟨P, F, c, T, R, hD⟩ := hD
  obtain ⟨⟨hP6, hF5, hc10, hT6, hR4⟩, ⟨l0, m19⟩, ⟨l1, m20⟩, ⟨l2, m22⟩, ⟨l3, m24⟩, ⟨l4, m26⟩, -⟩ := id hD
  have i250 : inb (nI a) 250 := inb_nI (by omega) (by omega)
  have c250 : (nI a).toNatClampNeg = a := nI_clamp (by omega)
  obtain ⟨w, hw⟩ : ∃ w, w = tx a := ⟨_, rfl⟩
  obtain ⟨M1, hM1⟩ : ∃ x, x = sf M 18 (nI a) := ⟨_, rfl⟩
  have m1r : ∀ r, r ≠ 0 → M1 r = M r := fun r hr => by rw [hM1]; exact sf_ne _ _ _ hr
  have m1f : ∀ k, k ≠ 18 → M1 0 k = M 0 k := fun k hk => by rw [hM1, sf_at, if_neg hk]
  have m118 : M1 0 18 = nI a := by rw [hM1, sf_at, if_pos rfl]
  obtain ⟨M6, hM6⟩ : ∃ x, x = sf M1 17 (nI (a + 1)) := ⟨_, rfl⟩
  have e17 : M1 0 17 + (1 : Int32) = nI (a + 1) := by rw [m1f 17 (by omega), hM, nI_1]
  have F6 : FRn M M6 := ⟨fun j h1 _ => by rw [hM6, sf_ne _ _ _ h1]; exact m1r j h1, fun k h1 h2 => by rw [hM6, sf_at, if_neg h1]; exact m1f k h2⟩
  have F1 : FRn M M1 := ⟨fun j h1 _ => m1r j h1, fun k h1 h2 => m1f k h2⟩
  have T6 := hT.fr F6
  have D6 := hD.fr F6
  have bad : ∀ v, (1 ≤ v ∧ v ≤ 4) → St n tx (sf (sf X 4 (nI v)) 5 (nI a)) M1 (nI v) (a + 1) := fun v hv => St.bad (a + 1) hX hv m118
  have S6 : St n tx (sf X 2 (X 0 2 + 1)) M6 0 (a + 1) := by
    rw [hX.2.1, nI_1]
    exact Or.inl ⟨a + 1, hX.mv (by omega), Nat.le_refl _, rfl, by rw [sf_at, if_neg (by omega)]; exact h4, by rw [sf_at, if_neg (by omega)]; exact h5, by rw [hM6, sf_at, if_pos rfl]⟩
  have ef : ∀ v : Nat, f_X5_fail X (nI v) (X 0 2) = some (sf (sf X 4 (nI v)) 5 (nI a)) := fun v => by rw [fail_0 h4, hX.2.1]
  have ef1 : f_X5_fail X (1 : Int32) (X 0 2) = some (sf (sf X 4 (nI 1)) 5 (nI a)) := ef 1
  have ef3 : f_X5_fail X (3 : Int32) (X 0 2) = some (sf (sf X 4 (nI 3)) 5 (nI a)) := ef 3
  have ec : f_X5_clause X L = if nI P = 0 then (if w = (112 : Int32) then f_X5_clause_j33 X L w else some (sf (sf X 4 (nI 1)) 5 (nI a), L)) else f_X5_clause_j33 X L w := by
    unfold f_X5_clause
    rw [ef1, bd_s, hX.2.1, if_pos i250, c250, hX.2.2.2, ← hw, nm_q, l0]
  have em : f_X7_clause M = if nI P = 0 then f_X7_clause_j30 w M1 (1 : Int32) else f_X7_clause_j30 w M1 (0 : Int32) := by
    unfold f_X7_clause
    rw [hM, if_pos i250, c250, hT.2 a han, ← hw, nm_q, nm_q, ← hM1, m1f 19 (by omega), m19]
  have fin1 : f_X5_clause X L = some (sf (sf X 4 (nI 1)) 5 (nI a), L) → f_X7_clause M = some ((1 : Int32), M1) → ∃ X2 L2 fl M2, f_X5_clause X L = some (X2, L2) ∧ f_X7_clause M = some (fl, M2) ∧ St n tx X2 M2 fl (a + 1) ∧ (fl = 0 → DR L2 M2) ∧ PF M M2 := fun h1 h2 => ⟨_, _, _, _, h1, h2, bad 1 ⟨by omega, by omega⟩, fun z => absurd z one_ne0, F1.pf⟩
  have fin3 : f_X5_clause X L = some (sf (sf X 4 (nI 3)) 5 (nI a), L) → f_X7_clause M = some ((3 : Int32), M1) → ∃ X2 L2 fl M2, f_X5_clause X L = some (X2, L2) ∧ f_X7_clause M = some (fl, M2) ∧ St n tx X2 M2 fl (a + 1) ∧ (fl = 0 → DR L2 M2) ∧ PF M M2 := fun h1 h2 => ⟨_, _, _, _, h1, h2, bad 3 ⟨by omega, by omega⟩, fun z => absurd z (by decide), F1.pf⟩
  have finr : (∃ X2 L2 fl M2, f_X5_clause X L = some (X2, L2) ∧ f_X7_clause M = some (fl, M2) ∧ St n tx X2 M2 fl (a + 1) ∧ (fl = 0 → DR L2 M2) ∧ PF M6 M2) → ∃ X2 L2 fl M2, f_X5_clause X L = some (X2, L2) ∧ f_X7_clause M = some (fl, M2) ∧ St n tx X2 M2 fl (a + 1) ∧ (fl = 0 → DR L2 M2) ∧ PF M M2 := fun ⟨X2, L2, fl, M2, h1, h2, h3, h4, h5⟩ => ⟨X2, L2, fl, M2, h1, h2, h3, h4, F6.pf.trans h5⟩
  by_cases hP : P = 0
  · have zp : nI P = 0 := by rw [hP]; rfl
    rw [if_pos zp] at ec em
    by_cases h112 : w = 112
    · rw [if_pos h112, h112, j33_112] at ec
      rw [h112, j30p_f, j166_112, e17, ← hM6] at em
      have D6' := D6
      rw [hP] at D6'
      obtain ⟨X2, L2, fl, M2, r1, r2, r3⟩ := people_cm hn S6 T6 D6'
      rw [r1, bd_s] at ec
      rw [r2, bd_s] at em
      exact finr ⟨X2, L2, fl, M2, ec, em, r3⟩
    · rw [if_neg h112] at ec
      refine fin1 ec ?_
      rw [em]
      by_cases w1 : w = 99
      · rw [w1, j30f_99]
      · by_cases w2 : w = 101
        · rw [w2, j30f_101]
        · by_cases w3 : w = 102
          · rw [w3, j30f_102]
          · by_cases w5 : w = 114
            · rw [w5, j30f_114]
            · by_cases w6 : w = 116
              · rw [w6, j30f_116]
              · exact j30_no _ _ _ w1 w2 w3 h112 w5 w6
  · have zp : ¬ nI P = 0 := nI_ne0 (by omega) (by omega)
    rw [if_neg zp] at ec em
    by_cases h112 : w = 112
    · rw [h112, j33_112] at ec
      rw [h112, j30p_r] at em
      refine fin3 ?_ em
      rw [ec]
      unfold f_X5_peopleClause
      rw [l0, if_neg (nI_nle (by omega) (by omega)), ef3, bd_s, bd_s]
    · by_cases w1 : w = 99
      · rw [w1, j33_99] at ec
        rw [w1, j30r_99, m1f 22 (by omega), m22] at em
        by_cases hf : c = 10
        · rw [hf, if_pos (show nI 10 = (10 : Int32) from rfl)] at em
          refine fin3 ?_ em
          rw [ec]
          unfold f_X5_chatClause
          rw [l2, hf, if_neg (show ¬ nI 10 < (10 : Int32) by decide), ef3, bd_s, bd_s]
        · rw [if_neg (show ¬ nI c = (10 : Int32) from fun e => by
            have e : nI c = nI 10 := e
            rw [nI_eq (by omega) (by omega)] at e
            omega), j166_99, e17, ← hM6] at em
          obtain ⟨X2, L2, fl, M2, r1, r2, r3⟩ := chat_cm hn S6 T6 D6 (by omega) (by omega)
          rw [r1, bd_s] at ec
          rw [r2, bd_s] at em
          exact finr ⟨X2, L2, fl, M2, ec, em, r3⟩
      · by_cases w2 : w = 101
        · rw [w2, j33_101] at ec
          rw [w2, j30r_101, j166_101, e17, ← hM6] at em
          obtain ⟨X2, L2, fl, M2, r1, r2, r3⟩ := thought_cm hn S6 T6 D6 (by omega)
          rw [r1, bd_s] at ec
          rw [r2, bd_s] at em
          exact finr ⟨X2, L2, fl, M2, ec, em, r3⟩
        · by_cases w3 : w = 102
          · rw [w3, j33_102] at ec
            rw [w3, j30r_102, m1f 20 (by omega), m20] at em
            by_cases hf : F = 5
            · rw [hf, if_pos (show nI 5 = (5 : Int32) from rfl)] at em
              refine fin3 ?_ em
              rw [ec]
              unfold f_X5_fighterClause
              rw [nm_q, l1, hf, if_neg (show ¬ nI 5 < (5 : Int32) by decide), ef3, bd_s, bd_s]
            · rw [if_neg (show ¬ nI F = (5 : Int32) from fun e => by
                have e : nI F = nI 5 := e
                rw [nI_eq (by omega) (by omega)] at e
                omega), j166_102, e17, ← hM6] at em
              obtain ⟨X2, L2, fl, M2, r1, r2, r3⟩ := fighter_cm hn S6 T6 D6 (by omega)
              rw [r1, bd_s] at ec
              rw [r2, bd_s] at em
              exact finr ⟨X2, L2, fl, M2, ec, em, r3⟩
          · by_cases w5 : w = 114
            · rw [w5, j33_114] at ec
              rw [w5, j30r_114, m1f 26 (by omega), m26] at em
              by_cases hf : R = 4
              · rw [hf, if_pos (show nI 4 = (4 : Int32) from rfl)] at em
                refine fin3 ?_ em
                rw [ec]
                unfold f_X5_trickClause
                rw [nm_q, l4, hf, if_neg (show ¬ nI 4 < (4 : Int32) by decide), ef3, bd_s, bd_s]
              · rw [if_neg (show ¬ nI R = (4 : Int32) from fun e => by
                  have e : nI R = nI 4 := e
                  rw [nI_eq (by omega) (by omega)] at e
                  omega), j166_114, e17, ← hM6] at em
                obtain ⟨X2, L2, fl, M2, r1, r2, r3⟩ := trick_cm hn S6 T6 D6 (by omega)
                rw [r1, bd_s] at ec
                rw [r2, bd_s] at em
                exact finr ⟨X2, L2, fl, M2, ec, em, r3⟩
            · by_cases w6 : w = 116
              · rw [w6, j33_116] at ec
                rw [w6, j30r_116, m1f 24 (by omega), m24] at em
                by_cases hf : T = 6
                · rw [hf, if_pos (show nI 6 = (6 : Int32) from rfl)] at em
                  refine fin3 ?_ em
                  rw [ec]
                  unfold f_X5_taskClause
                  rw [nm_q, l3, hf, if_neg (show ¬ nI 6 < (6 : Int32) by decide), ef3, bd_s, bd_s]
                · rw [if_neg (show ¬ nI T = (6 : Int32) from fun e => by
                    have e : nI T = nI 6 := e
                    rw [nI_eq (by omega) (by omega)] at e
                    omega), j166_116, e17, ← hM6] at em
                  obtain ⟨X2, L2, fl, M2, r1, r2, r3⟩ := task_cm hn S6 T6 D6 (by omega)
                  rw [r1, bd_s] at ec
                  rw [r2, bd_s] at em
                  exact finr ⟨X2, L2, fl, M2, ec, em, r3⟩
              · rw [j33_no _ _ _ w1 w2 w3 h112 w5 w6, ef1, bd_s] at ec
                rw [j30_no _ _ _ w1 w2 w3 h112 w5 w6] at em
                exact fin1 ec em
