/-! ===== pure: the draft of a land; rows that are copied ===== -/
def DF (L M : HC) (F : Nat) : Prop := ∀ f, f < F → L 1 f = M 10 (3 * f) ∧ (L 2 f = M 10 (3 * f + 1) ∧ ∃ a, a ≤ 99 ∧ M 10 (3 * f + 1) = nI a) ∧ (L 3 f = M 10 (3 * f + 2) ∧ ∃ a, a ≤ 99 ∧ M 10 (3 * f + 2) = nI a)
def DC (L M : HC) : Prop := ∀ p, p < 6 → L 4 p = M 11 p
def DT (L M : HC) (P T : Nat) : Prop := ∀ t, t < T → (L 5 t = M 12 (4 * t) ∧ ∃ a, a < P ∧ M 12 (4 * t) = nI a) ∧ (L 6 t = M 12 (4 * t + 1) ∧ ∃ a, a ≤ 99 ∧ M 12 (4 * t + 1) = nI a) ∧ (L 7 t = M 12 (4 * t + 2) ∧ ∃ a, a ≤ 99 ∧ M 12 (4 * t + 2) = nI a) ∧ (L 8 t = M 12 (4 * t + 3) ∧ ∃ a, a ≤ 20 ∧ M 12 (4 * t + 3) = nI a)
def DK (L M : HC) (R : Nat) : Prop := ∀ r, r < R → L 9 r = M 13 (3 * r) ∧ (L 10 r = M 13 (3 * r + 1) ∧ ∃ a, a ≤ 99 ∧ M 13 (3 * r + 1) = nI a) ∧ L 11 r = M 13 (3 * r + 2)
def DE (L M : HC) : Prop := ∀ k, k < 30 → (M 14 k = -1 ∧ ¬ hb (L 0 5) (nI k) ∧ L 12 k = 0) ∨ (hb (L 0 5) (nI k) ∧ L 12 k = M 14 k ∧ ∃ a, a ≤ 99 ∧ M 14 k = nI a)
def DRn (L M : HC) (P F c T R : Nat) : Prop := (P ≤ 6 ∧ F ≤ 5 ∧ c ≤ 10 ∧ T ≤ 6 ∧ R ≤ 4) ∧ (L 0 0 = nI P ∧ M 0 19 = nI P) ∧ (L 0 1 = nI F ∧ M 0 20 = nI F) ∧ (L 0 2 = nI c ∧ M 0 22 = nI c) ∧ (L 0 3 = nI T ∧ M 0 24 = nI T) ∧ (L 0 4 = nI R ∧ M 0 26 = nI R) ∧ DF L M F ∧ DC L M ∧ DT L M P T ∧ DK L M R ∧ DE L M
def DR (L M : HC) : Prop := ∃ P F c T R, DRn L M P F c T R
theorem DRn.fr {L M M2 : HC} {P F c T R : Nat} (h : DRn L M P F c T R) (f : FRn M M2) : DRn L M2 P F c T R := by
  obtain ⟨h0, h1, h2, h3, h4, h5, h6, h7, h8, h9, h10⟩ := h
  unfold DRn
  unfold DF DC DT DK DE at *
  rw [f.2 19 (by omega) (by omega), f.2 20 (by omega) (by omega), f.2 22 (by omega) (by omega), f.2 24 (by omega) (by omega), f.2 26 (by omega) (by omega), f.1 10 (by omega) (by omega), f.1 11 (by omega) (by omega), f.1 12 (by omega) (by omega), f.1 13 (by omega) (by omega), f.1 14 (by omega) (by omega)]
  exact ⟨h0, h1, h2, h3, h4, h5, h6, h7, h8, h9, h10⟩
def PF (M M2 : HC) : Prop := (∀ j, j ≠ 0 → (j < 10 ∨ 15 < j) → M2 j = M j) ∧ (∀ k, k < 17 → M2 0 k = M 0 k)
theorem FRn.pf {M M2 : HC} (h : FRn M M2) : PF M M2 := ⟨fun j h1 h2 => h.1 j h1 (by omega), fun k hk => h.2 k (by omega) (by omega)⟩
theorem PF.trans {M M2 M3 : HC} (h : PF M M2) (h2 : PF M2 M3) : PF M M3 := ⟨fun j a b => (h2.1 j a b).trans (h.1 j a b), fun k a => (h2.2 k a).trans (h.2 k a)⟩
theorem TXm.pf {n : Nat} {tx : Nat → Int32} {M M2 : HC} (h : TXm n tx M) (f : PF M M2) : TXm n tx M2 := ⟨by rw [f.2 3 (by omega)]; exact h.1, fun k hk => by rw [f.1 3 (by omega) (by omega)]; exact h.2 k hk⟩
theorem St.tr {n : Nat} {tx : Nat → Int32} {X M M2 : HC} {fl : Int32} {a : Nat} (h : St n tx X M fl a) (h17 : M2 0 17 = M 0 17) (h18 : M2 0 18 = M 0 18) : St n tx X M2 fl a := by
  unfold St at h ⊢
  rw [h17, h18]
  exact h
theorem ofI {v : Int32} {H : Nat} (h0 : 0 ≤ v.toInt) (h1 : v.toInt ≤ (H : Int)) (hH : H < 2 ^ 31) : ∃ a, a ≤ H ∧ v = nI a :=
  ⟨v.toInt.toNat, by omega, Int32.toInt_inj.mp (by rw [nI_toInt (by omega)]; omega)⟩
theorem num0_cm {n : Nat} {tx : Nat → Int32} {X M : HC} {a k : Nat} (hn : n ≤ 250) (hS : St n tx X M 0 a) (hT : TXm n tx M) (lo hi : Int32) (hk : k < 4) : ∃ r1 r2, f_X5_number X lo hi = some r1 ∧ f_X7_number M (nI k) lo hi = some r2 ∧ nuQ n tx a k lo hi M r1 r2 := by
  rcases hS with ⟨b, h1, h2, h3, h4, h5, h6⟩ | ⟨b, w, h1, h2, h3, h4, h5⟩
  · obtain ⟨r1, r2, q1, q2, q3, q4, q5, q6, q7⟩ := number_cm hn h1 h4 h5 hT h6 lo hi hk
    refine ⟨r1, r2, q1, q2, ?_, q4, q5, q6, q7⟩
    rcases q3 with ⟨c, g1, g2, g3⟩ | g
    · exact Or.inl ⟨c, g1, by omega, g3⟩
    · exact Or.inr g
  · exact absurd h3.symm (nI_w0 h2)
theorem i30v : (30 : Int32).toInt = 30 := by decide
theorem tI (k : Nat) (h : k < 1000) : (nI k).toInt = (k : Int) := nI_toInt (by omega)
theorem cpF_0 {M : HC} {F : Nat} (hF : F < 5) (h20 : M 0 20 = nI F) : ∃ Y, lp (fun _ _ => none : Int32 → HC → Option (Int32 × HC)) (f_X7_readsFighter_b30 (0 : Int32)) FU (0 : Int32) M = some (0, Y) ∧ (∀ j, j ≠ 0 → j ≠ 10 → Y j = M j) ∧ (∀ k, k ≠ 20 → Y 0 k = M 0 k) ∧ Y 0 20 = nI (F + 1) ∧ (∀ i, i < 3 → Y 10 (3 * F + i) = M 15 i) ∧ (∀ i, i < 3 * F → Y 10 i = M 10 i) := by
  obtain ⟨X, rc, ⟨i1, i2, i3⟩, h⟩ := lp_ex (T := Int32 → HC → Option (Int32 × HC)) (z := fun _ _ => none) (F := f_X7_readsFighter_b30 (0 : Int32)) (fun g k (s : HC) => g (nI k) s) 3 (fun k X => (∀ j, j ≠ 10 → X j = M j) ∧ (∀ i, i < k → X 10 (3 * F + i) = M 15 i) ∧ (∀ i, i < 3 * F → X 10 i = M 10 i)) (by
    intro rc k X hi hk
    obtain ⟨a1, a2, a3⟩ := hi
    have i4 : inb (nI k) 4 := inb_nI (by omega) (by omega)
    have c4 : (nI k).toNatClampNeg = k := nI_clamp (by omega)
    have i15 : inb (nI (3 * F + k)) 15 := inb_nI (by omega) (by omega)
    refine ⟨sa X 10 (nI (3 * F + k)) (M 15 k), ?_, fun j hj => by rw [sa_ne _ _ _ _ hj]; exact a1 j hj, fun i hi => ?_, fun i hi => ?_⟩
    · unfold f_X7_readsFighter_b30
      rw [if_neg (show ¬ (3 : Int32) ≤ nI k from nI_ge (b := 3) hk (by omega)), if_pos z_z, if_pos i4, a1 0 (by omega), h20, ix3, if_pos i15, c4, a1 15 (by omega), nm_q, nm_q, nI_1]
    · rw [sa_at (by omega)]
      by_cases hik : i = k
      · rw [if_pos (by omega), hik]
      · rw [if_neg (by omega)]; exact a2 i (by omega)
    · rw [sa_at (by omega), if_neg (by omega)]; exact a3 i hi) FU 3 0 M ⟨fun _ _ => rfl, fun i hi => by omega, fun _ _ => rfl⟩ (by omega) (by have := FU_gt; omega)
  rw [show lp (fun _ _ => none : Int32 → HC → Option (Int32 × HC)) (f_X7_readsFighter_b30 (0 : Int32)) FU (0 : Int32) M = f_X7_readsFighter_b30 (0 : Int32) rc (nI 3) X from h]
  unfold f_X7_readsFighter_b30 f_X7_readsFighter_j64 f_X7_readsFighter_j78
  rw [if_pos (show (3 : Int32) ≤ nI 3 from nI_le (a := 3) (by omega) (by omega)), if_pos z_z, nm_q, i1 0 (by omega), h20, nI_1]
  refine ⟨_, rfl, fun j h1 h2 => by rw [sf_ne _ _ _ h1]; exact i1 j h2, fun k hk => by rw [sf_at, if_neg hk, i1 0 (by omega)], by rw [sf_at, if_pos rfl], fun i hi => by rw [sf_ne _ _ _ (show 10 ≠ 0 by omega)]; exact i2 i hi, fun i hi => by rw [sf_ne _ _ _ (show 10 ≠ 0 by omega)]; exact i3 i hi⟩
theorem cpF_1 {M : HC} {v : Int32} (hv : ¬ v = 0) : ∃ Y, lp (fun _ _ => none : Int32 → HC → Option (Int32 × HC)) (f_X7_readsFighter_b30 v) FU (0 : Int32) M = some (v, Y) ∧ (∀ j, j ≠ 0 → Y j = M j) ∧ (∀ k, k ≠ 20 → Y 0 k = M 0 k) := by
  show ∃ Y, lp (fun _ _ => none : Int32 → HC → Option (Int32 × HC)) (f_X7_readsFighter_b30 v) (4999 + 1) (0 : Int32) M = some (v, Y) ∧ _
  rw [lp_s]
  unfold f_X7_readsFighter_b30 f_X7_readsFighter_j64 f_X7_readsFighter_j78
  rw [if_neg (show ¬ (3 : Int32) ≤ 0 by decide), if_neg hv, if_neg hv, nm_q]
  exact ⟨_, rfl, fun j h1 => by rw [sf_ne _ _ _ h1], fun k hk => by rw [sf_at, if_neg hk]⟩
theorem cpK_0 {M : HC} {F : Nat} (hF : F < 4) (h20 : M 0 26 = nI F) : ∃ Y, lp (fun _ _ => none : Int32 → HC → Option (Int32 × HC)) (f_X7_readsTrick_b35 (0 : Int32)) FU (0 : Int32) M = some (0, Y) ∧ (∀ j, j ≠ 0 → j ≠ 13 → Y j = M j) ∧ (∀ k, k ≠ 26 → Y 0 k = M 0 k) ∧ Y 0 26 = nI (F + 1) ∧ (∀ i, i < 3 → Y 13 (3 * F + i) = M 15 i) ∧ (∀ i, i < 3 * F → Y 13 i = M 13 i) := by
  obtain ⟨X, rc, ⟨i1, i2, i3⟩, h⟩ := lp_ex (T := Int32 → HC → Option (Int32 × HC)) (z := fun _ _ => none) (F := f_X7_readsTrick_b35 (0 : Int32)) (fun g k (s : HC) => g (nI k) s) 3 (fun k X => (∀ j, j ≠ 13 → X j = M j) ∧ (∀ i, i < k → X 13 (3 * F + i) = M 15 i) ∧ (∀ i, i < 3 * F → X 13 i = M 13 i)) (by
    intro rc k X hi hk
    obtain ⟨a1, a2, a3⟩ := hi
    have i4 : inb (nI k) 4 := inb_nI (by omega) (by omega)
    have c4 : (nI k).toNatClampNeg = k := nI_clamp (by omega)
    have i15 : inb (nI (3 * F + k)) 12 := inb_nI (by omega) (by omega)
    refine ⟨sa X 13 (nI (3 * F + k)) (M 15 k), ?_, fun j hj => by rw [sa_ne _ _ _ _ hj]; exact a1 j hj, fun i hi => ?_, fun i hi => ?_⟩
    · unfold f_X7_readsTrick_b35
      rw [if_neg (show ¬ (3 : Int32) ≤ nI k from nI_ge (b := 3) hk (by omega)), if_pos z_z, if_pos i4, a1 0 (by omega), h20, ix3, if_pos i15, c4, a1 15 (by omega), nm_q, nm_q, nI_1]
    · rw [sa_at (by omega)]
      by_cases hik : i = k
      · rw [if_pos (by omega), hik]
      · rw [if_neg (by omega)]; exact a2 i (by omega)
    · rw [sa_at (by omega), if_neg (by omega)]; exact a3 i hi) FU 3 0 M ⟨fun _ _ => rfl, fun i hi => by omega, fun _ _ => rfl⟩ (by omega) (by have := FU_gt; omega)
  rw [show lp (fun _ _ => none : Int32 → HC → Option (Int32 × HC)) (f_X7_readsTrick_b35 (0 : Int32)) FU (0 : Int32) M = f_X7_readsTrick_b35 (0 : Int32) rc (nI 3) X from h]
  unfold f_X7_readsTrick_b35 f_X7_readsTrick_j69 f_X7_readsTrick_j83
  rw [if_pos (show (3 : Int32) ≤ nI 3 from nI_le (a := 3) (by omega) (by omega)), if_pos z_z, nm_q, i1 0 (by omega), h20, nI_1]
  refine ⟨_, rfl, fun j h1 h2 => by rw [sf_ne _ _ _ h1]; exact i1 j h2, fun k hk => by rw [sf_at, if_neg hk, i1 0 (by omega)], by rw [sf_at, if_pos rfl], fun i hi => by rw [sf_ne _ _ _ (show 13 ≠ 0 by omega)]; exact i2 i hi, fun i hi => by rw [sf_ne _ _ _ (show 13 ≠ 0 by omega)]; exact i3 i hi⟩
theorem cpK_1 {M : HC} {v : Int32} (hv : ¬ v = 0) : ∃ Y, lp (fun _ _ => none : Int32 → HC → Option (Int32 × HC)) (f_X7_readsTrick_b35 v) FU (0 : Int32) M = some (v, Y) ∧ (∀ j, j ≠ 0 → Y j = M j) ∧ (∀ k, k ≠ 26 → Y 0 k = M 0 k) := by
  show ∃ Y, lp (fun _ _ => none : Int32 → HC → Option (Int32 × HC)) (f_X7_readsTrick_b35 v) (4999 + 1) (0 : Int32) M = some (v, Y) ∧ _
  rw [lp_s]
  unfold f_X7_readsTrick_b35 f_X7_readsTrick_j69 f_X7_readsTrick_j83
  rw [if_neg (show ¬ (3 : Int32) ≤ 0 by decide), if_neg hv, if_neg hv, nm_q]
  exact ⟨_, rfl, fun j h1 => by rw [sf_ne _ _ _ h1], fun k hk => by rw [sf_at, if_neg hk]⟩
theorem cpT_0 {M : HC} {F : Nat} (hF : F < 6) (h20 : M 0 24 = nI F) : ∃ Y, lp (fun _ _ => none : Int32 → HC → Option (Int32 × HC)) (f_X7_readsTask_b45 (0 : Int32)) FU (0 : Int32) M = some (0, Y) ∧ (∀ j, j ≠ 0 → j ≠ 12 → Y j = M j) ∧ (∀ k, k ≠ 24 → Y 0 k = M 0 k) ∧ Y 0 24 = nI (F + 1) ∧ (∀ i, i < 4 → Y 12 (4 * F + i) = M 15 i) ∧ (∀ i, i < 4 * F → Y 12 i = M 12 i) := by
  obtain ⟨X, rc, ⟨i1, i2, i3⟩, h⟩ := lp_ex (T := Int32 → HC → Option (Int32 × HC)) (z := fun _ _ => none) (F := f_X7_readsTask_b45 (0 : Int32)) (fun g k (s : HC) => g (nI k) s) 4 (fun k X => (∀ j, j ≠ 12 → X j = M j) ∧ (∀ i, i < k → X 12 (4 * F + i) = M 15 i) ∧ (∀ i, i < 4 * F → X 12 i = M 12 i)) (by
    intro rc k X hi hk
    obtain ⟨a1, a2, a3⟩ := hi
    have i4 : inb (nI k) 4 := inb_nI (by omega) (by omega)
    have c4 : (nI k).toNatClampNeg = k := nI_clamp (by omega)
    have i15 : inb (nI (4 * F + k)) 24 := inb_nI (by omega) (by omega)
    refine ⟨sa X 12 (nI (4 * F + k)) (M 15 k), ?_, fun j hj => by rw [sa_ne _ _ _ _ hj]; exact a1 j hj, fun i hi => ?_, fun i hi => ?_⟩
    · unfold f_X7_readsTask_b45
      rw [if_neg (show ¬ (4 : Int32) ≤ nI k from nI_ge (b := 4) hk (by omega)), if_pos z_z, if_pos i4, a1 0 (by omega), h20, ix4, if_pos i15, c4, a1 15 (by omega), nm_q, nm_q, nI_1]
    · rw [sa_at (by omega)]
      by_cases hik : i = k
      · rw [if_pos (by omega), hik]
      · rw [if_neg (by omega)]; exact a2 i (by omega)
    · rw [sa_at (by omega), if_neg (by omega)]; exact a3 i hi) FU 4 0 M ⟨fun _ _ => rfl, fun i hi => by omega, fun _ _ => rfl⟩ (by omega) (by have := FU_gt; omega)
  rw [show lp (fun _ _ => none : Int32 → HC → Option (Int32 × HC)) (f_X7_readsTask_b45 (0 : Int32)) FU (0 : Int32) M = f_X7_readsTask_b45 (0 : Int32) rc (nI 4) X from h]
  unfold f_X7_readsTask_b45 f_X7_readsTask_j79 f_X7_readsTask_j93
  rw [if_pos (show (4 : Int32) ≤ nI 4 from nI_le (a := 4) (by omega) (by omega)), if_pos z_z, nm_q, i1 0 (by omega), h20, nI_1]
  refine ⟨_, rfl, fun j h1 h2 => by rw [sf_ne _ _ _ h1]; exact i1 j h2, fun k hk => by rw [sf_at, if_neg hk, i1 0 (by omega)], by rw [sf_at, if_pos rfl], fun i hi => by rw [sf_ne _ _ _ (show 12 ≠ 0 by omega)]; exact i2 i hi, fun i hi => by rw [sf_ne _ _ _ (show 12 ≠ 0 by omega)]; exact i3 i hi⟩
theorem cpT_1 {M : HC} {v : Int32} (hv : ¬ v = 0) : ∃ Y, lp (fun _ _ => none : Int32 → HC → Option (Int32 × HC)) (f_X7_readsTask_b45 v) FU (0 : Int32) M = some (v, Y) ∧ (∀ j, j ≠ 0 → Y j = M j) ∧ (∀ k, k ≠ 24 → Y 0 k = M 0 k) := by
  show ∃ Y, lp (fun _ _ => none : Int32 → HC → Option (Int32 × HC)) (f_X7_readsTask_b45 v) (4999 + 1) (0 : Int32) M = some (v, Y) ∧ _
  rw [lp_s]
  unfold f_X7_readsTask_b45 f_X7_readsTask_j79 f_X7_readsTask_j93
  rw [if_neg (show ¬ (4 : Int32) ≤ 0 by decide), if_neg hv, if_neg hv, nm_q]
  exact ⟨_, rfl, fun j h1 => by rw [sf_ne _ _ _ h1], fun k hk => by rw [sf_at, if_neg hk]⟩
/-! ===== pure: clauses of fighters, tasks, tricks, people ===== -/
theorem fighter_cm {n : Nat} {tx : Nat → Int32} {X M L : HC} {a P F c T R : Nat} (hn : n ≤ 250) (hS : St n tx (sf X 2 (X 0 2 + 1)) M 0 a) (hT : TXm n tx M) (hD : DRn L M P F c T R) (hF : F < 5) : ∃ X2 L2 fl M2, f_X5_fighterClause X L = some (X2, L2) ∧ f_X7_readsFighter M = some (fl, M2) ∧ St n tx X2 M2 fl a ∧ (fl = 0 → DR L2 M2) ∧ PF M M2 := by
  obtain ⟨⟨v0, X1⟩, ⟨g1, M1⟩, a1, a2, S1, R1, K1, V1, -⟩ := num0_cm (k := 0) hn hS hT (0 : Int32) (4 : Int32) (by omega)
  have T1 := hT.fr R1
  obtain ⟨⟨v1, X2⟩, ⟨g2, M2⟩, b1, b2, ⟨S2, R2, K2, V2, -⟩, Z2⟩ := numOr_cm (k := 1) hn S1 T1 (0 : Int32) (99 : Int32) (by omega)
  have T2 := T1.fr R2
  obtain ⟨⟨v2, X3⟩, ⟨g3, M3⟩, c1, c2, ⟨S3, R3, K3, V3, -⟩, Z3⟩ := numOr_cm (k := 2) hn S2 T2 (0 : Int32) (99 : Int32) (by omega)
  have T3 := T2.fr R3
  obtain ⟨X4, ⟨g4, M4⟩, d1, d2, S4, R4, Z4⟩ := semi_cm hn S3 T3
  have RR := ((R1.trans R2).trans R3).trans R4.n
  dsimp only at b1 b2 c1 c2 d1 d2 S4 V1 V2 V3 Z2 Z3 Z4 K1 K2 K3 R1 R2 R3 R4 RR
  have i5 : inb (nI F) 5 := inb_nI (by omega) (by omega)
  have e6 : f_X5_fighterClause X L = some (X4, sf (sa (sa (sa L 1 (nI F) v0) 2 (nI F) v1) 3 (nI F) v2) 1 (nI (F + 1))) := by
    unfold f_X5_fighterClause
    rw [nm_q, hD.2.2.1.1, if_pos (show nI F < (5 : Int32) from nI_lt (b := 5) hF (by omega)), nm_q, a1, bd_s, p1_e, p2_e, if_pos i5, nm_q, b1, bd_s, p1_e, p2_e, if_pos i5, nm_q, c1, bd_s, p1_e, p2_e, if_pos i5, nm_q, d1, bd_s, nm_q, nI_1]
  have a2' : f_X7_number M (0 : Int32) (0 : Int32) (4 : Int32) = some (g1, M1) := a2
  have b2' : f_X7_numberOr M1 g1 (1 : Int32) (0 : Int32) (99 : Int32) = some (g2, M2) := b2
  have c2' : f_X7_numberOr M2 g2 (2 : Int32) (0 : Int32) (99 : Int32) = some (g3, M3) := c2
  have e7 : f_X7_readsFighter M = lp (fun _ _ => none : Int32 → HC → Option (Int32 × HC)) (f_X7_readsFighter_b30 g4) FU (0 : Int32) M4 := by
    unfold f_X7_readsFighter
    rw [a2', bd_s, p1_e, p2_e, b2', bd_s, p1_e, p2_e, c2', bd_s, p1_e, p2_e, d2, bd_s, p1_e, p2_e, nm_q]
  by_cases h0 : g4 = 0
  · subst h0
    have D4 := hD.fr RR
    have z3 := Z4 rfl
    have z2 := Z3 z3
    have z1 := Z2 z2
    obtain ⟨u0, -, -, -⟩ := V1 z1
    obtain ⟨u1, l1, h1, -⟩ := V2 z2
    obtain ⟨u2, l2, h2, -⟩ := V3 z3
    have q0 : M4 15 0 = v0 := by rw [R4.1 15 (by omega), K3 0 (by omega), K2 0 (by omega), u0]
    have q1 : M4 15 1 = v1 := by rw [R4.1 15 (by omega), K3 1 (by omega), u1]
    have q2 : M4 15 2 = v2 := by rw [R4.1 15 (by omega), u2]
    rw [t0] at l1 l2
    rw [t99] at h1 h2
    obtain ⟨w1, w2, w3⟩ := ofI (H := 99) l1 (by omega) (by omega)
    obtain ⟨w4, w5, w6⟩ := ofI (H := 99) l2 (by omega) (by omega)
    obtain ⟨Y, y1, y2, y3, y4, y5, y6⟩ := cpF_0 hF D4.2.2.1.2
    refine ⟨_, _, _, Y, e6, e7.trans y1, S4.tr (y3 17 (by omega)) (y3 18 (by omega)), fun _ => ⟨P, F + 1, c, T, R, ?_⟩, RR.pf.trans ⟨fun j h1 h2 => y2 j h1 (by omega), fun k hk => y3 k (by omega)⟩⟩
    obtain ⟨m0, m1, m2, m3, m4, m5, m6, m7, m8, m9, m10⟩ := D4
    refine ⟨by omega, ?_, ?_, ?_, ?_, ?_, fun f hf => ?_, ?_, ?_, ?_, ?_⟩
    · rw [sf_at, if_neg (by omega), y3 19 (by omega)]; exact m1
    · rw [sf_at, if_pos rfl]; exact ⟨rfl, y4⟩
    · rw [sf_at, if_neg (by omega), y3 22 (by omega)]; exact m3
    · rw [sf_at, if_neg (by omega), y3 24 (by omega)]; exact m4
    · rw [sf_at, if_neg (by omega), y3 26 (by omega)]; exact m5
    · rw [sf_ne _ _ _ (show 1 ≠ 0 by omega), sf_ne _ _ _ (show 2 ≠ 0 by omega), sf_ne _ _ _ (show 3 ≠ 0 by omega), sa_ne _ _ _ _ (show 1 ≠ 3 by omega), sa_ne _ _ _ _ (show 1 ≠ 2 by omega), sa_ne _ _ _ _ (show 2 ≠ 3 by omega), sa_at (by omega), sa_at (by omega), sa_at (by omega), sa_ne _ _ _ _ (show 2 ≠ 1 by omega), sa_ne _ _ _ _ (show 3 ≠ 2 by omega), sa_ne _ _ _ _ (show 3 ≠ 1 by omega)]
      by_cases hff : f = F
      · subst hff
        have k0 := y5 0 (by omega)
        have k1 := y5 1 (by omega)
        have k2 := y5 2 (by omega)
        rw [Nat.add_zero] at k0
        rw [if_pos rfl, if_pos rfl, if_pos rfl, k0, k1, k2, q0, q1, q2]
        exact ⟨rfl, ⟨rfl, w1, w2, w3⟩, rfl, w4, w5, w6⟩
      · rw [if_neg hff, if_neg hff, if_neg hff, y6 (3 * f) (by omega), y6 (3 * f + 1) (by omega), y6 (3 * f + 2) (by omega)]
        exact m6 f (by omega)
    · intro p hp
      rw [sf_ne _ _ _ (show 4 ≠ 0 by omega), sa_ne _ _ _ _ (show 4 ≠ 3 by omega), sa_ne _ _ _ _ (show 4 ≠ 2 by omega), sa_ne _ _ _ _ (show 4 ≠ 1 by omega), y2 11 (by omega) (by omega)]
      exact m7 p hp
    · unfold DT
      rw [y2 12 (by omega) (by omega)]
      exact m8
    · unfold DK
      rw [y2 13 (by omega) (by omega)]
      exact m9
    · unfold DE
      rw [y2 14 (by omega) (by omega), sf_at, if_neg (by omega)]
      exact m10
  · obtain ⟨Y, y1, y2, y3⟩ := cpF_1 (M := M4) h0
    exact ⟨_, _, _, Y, e6, e7.trans y1, S4.tr (y3 17 (by omega)) (y3 18 (by omega)), fun z => absurd z h0, RR.pf.trans ⟨fun j h1 h2 => y2 j h1, fun k hk => y3 k (by omega)⟩⟩
theorem trick_cm {n : Nat} {tx : Nat → Int32} {X M L : HC} {a P F c T R : Nat} (hn : n ≤ 250) (hS : St n tx (sf X 2 (X 0 2 + 1)) M 0 a) (hT : TXm n tx M) (hD : DRn L M P F c T R) (hF : R < 4) : ∃ X2 L2 fl M2, f_X5_trickClause X L = some (X2, L2) ∧ f_X7_readsTrick M = some (fl, M2) ∧ St n tx X2 M2 fl a ∧ (fl = 0 → DR L2 M2) ∧ PF M M2 := by
  obtain ⟨⟨v0, X1⟩, ⟨g1, M1⟩, a1, a2, S1, R1, K1, V1, -⟩ := num0_cm (k := 0) hn hS hT (0 : Int32) (nI T - 1) (by omega)
  have T1 := hT.fr R1
  obtain ⟨⟨v1, X2⟩, ⟨g2, M2⟩, b1, b2, ⟨S2, R2, K2, V2, -⟩, Z2⟩ := numOr_cm (k := 1) hn S1 T1 (1 : Int32) (99 : Int32) (by omega)
  have T2 := T1.fr R2
  obtain ⟨⟨v2, X3⟩, ⟨g3, M3⟩, c1, c2, ⟨S3, R3, K3, V3, -⟩, Z3⟩ := numOr_cm (k := 2) hn S2 T2 (0 : Int32) (99 : Int32) (by omega)
  have T3 := T2.fr R3
  obtain ⟨X4, ⟨g4, M4⟩, d1, d2, S4, R4, Z4⟩ := semi_cm hn S3 T3
  have RR := ((R1.trans R2).trans R3).trans R4.n
  dsimp only at b1 b2 c1 c2 d1 d2 S4 V1 V2 V3 Z2 Z3 Z4 K1 K2 K3 R1 R2 R3 R4 RR
  have i5 : inb (nI R) 4 := inb_nI (by omega) (by omega)
  have e6 : f_X5_trickClause X L = some (X4, sf (sa (sa (sa L 9 (nI R) v0) 10 (nI R) v1) 11 (nI R) v2) 4 (nI (R + 1))) := by
    unfold f_X5_trickClause
    rw [nm_q, hD.2.2.2.2.2.1.1, hD.2.2.2.2.1.1, if_pos (show nI R < (4 : Int32) from nI_lt (b := 4) hF (by omega)), nm_q, a1, bd_s, p1_e, p2_e, if_pos i5, nm_q, b1, bd_s, p1_e, p2_e, if_pos i5, nm_q, c1, bd_s, p1_e, p2_e, if_pos i5, nm_q, d1, bd_s, nm_q, nI_1]
  have a2' : f_X7_number M (0 : Int32) (0 : Int32) (nI T - (1 : Int32)) = some (g1, M1) := a2
  have b2' : f_X7_numberOr M1 g1 (1 : Int32) (1 : Int32) (99 : Int32) = some (g2, M2) := b2
  have c2' : f_X7_numberOr M2 g2 (2 : Int32) (0 : Int32) (99 : Int32) = some (g3, M3) := c2
  have e7 : f_X7_readsTrick M = lp (fun _ _ => none : Int32 → HC → Option (Int32 × HC)) (f_X7_readsTrick_b35 g4) FU (0 : Int32) M4 := by
    unfold f_X7_readsTrick
    rw [hD.2.2.2.2.1.2, a2', bd_s, p1_e, p2_e, b2', bd_s, p1_e, p2_e, c2', bd_s, p1_e, p2_e, d2, bd_s, p1_e, p2_e, nm_q]
  by_cases h0 : g4 = 0
  · subst h0
    have D4 := hD.fr RR
    have z3 := Z4 rfl
    have z2 := Z3 z3
    have z1 := Z2 z2
    obtain ⟨u0, -, -, -⟩ := V1 z1
    obtain ⟨u1, l1, h1, -⟩ := V2 z2
    obtain ⟨u2, l2, h2, -⟩ := V3 z3
    have q0 : M4 15 0 = v0 := by rw [R4.1 15 (by omega), K3 0 (by omega), K2 0 (by omega), u0]
    have q1 : M4 15 1 = v1 := by rw [R4.1 15 (by omega), K3 1 (by omega), u1]
    have q2 : M4 15 2 = v2 := by rw [R4.1 15 (by omega), u2]
    rw [t1] at l1
    rw [t99] at h1
    obtain ⟨w1, w2, w3⟩ := ofI (H := 99) (show 0 ≤ v1.toInt by omega) (by omega) (by omega)
    obtain ⟨Y, y1, y2, y3, y4, y5, y6⟩ := cpK_0 hF D4.2.2.2.2.2.1.2
    refine ⟨_, _, _, Y, e6, e7.trans y1, S4.tr (y3 17 (by omega)) (y3 18 (by omega)), fun _ => ⟨P, F, c, T, R + 1, ?_⟩, RR.pf.trans ⟨fun j h1 h2 => y2 j h1 (by omega), fun k hk => y3 k (by omega)⟩⟩
    obtain ⟨m0, m1, m2, m3, m4, m5, m6, m7, m8, m9, m10⟩ := D4
    refine ⟨by omega, ?_, ?_, ?_, ?_, ?_, ?_, ?_, ?_, fun f hf => ?_, ?_⟩
    · rw [sf_at, if_neg (by omega), y3 19 (by omega)]; exact m1
    · rw [sf_at, if_neg (by omega), y3 20 (by omega)]; exact m2
    · rw [sf_at, if_neg (by omega), y3 22 (by omega)]; exact m3
    · rw [sf_at, if_neg (by omega), y3 24 (by omega)]; exact m4
    · rw [sf_at, if_pos rfl]; exact ⟨rfl, y4⟩
    · unfold DF
      rw [y2 10 (by omega) (by omega)]
      exact m6
    · unfold DC
      rw [y2 11 (by omega) (by omega)]
      exact m7
    · unfold DT
      rw [y2 12 (by omega) (by omega)]
      exact m8
    · rw [sf_ne _ _ _ (show 9 ≠ 0 by omega), sf_ne _ _ _ (show 10 ≠ 0 by omega), sf_ne _ _ _ (show 11 ≠ 0 by omega), sa_ne _ _ _ _ (show 9 ≠ 11 by omega), sa_ne _ _ _ _ (show 9 ≠ 10 by omega), sa_ne _ _ _ _ (show 10 ≠ 11 by omega), sa_at (by omega), sa_at (by omega), sa_at (by omega), sa_ne _ _ _ _ (show 10 ≠ 9 by omega), sa_ne _ _ _ _ (show 11 ≠ 10 by omega), sa_ne _ _ _ _ (show 11 ≠ 9 by omega)]
      by_cases hff : f = R
      · subst hff
        have k0 := y5 0 (by omega)
        have k1 := y5 1 (by omega)
        have k2 := y5 2 (by omega)
        rw [Nat.add_zero] at k0
        rw [if_pos rfl, if_pos rfl, if_pos rfl, k0, k1, k2, q0, q1, q2]
        exact ⟨rfl, ⟨rfl, w1, w2, w3⟩, rfl⟩
      · rw [if_neg hff, if_neg hff, if_neg hff, y6 (3 * f) (by omega), y6 (3 * f + 1) (by omega), y6 (3 * f + 2) (by omega)]
        exact m9 f (by omega)
    · unfold DE
      rw [y2 14 (by omega) (by omega), sf_at, if_neg (by omega)]
      exact m10
  · obtain ⟨Y, y1, y2, y3⟩ := cpK_1 (M := M4) h0
    exact ⟨_, _, _, Y, e6, e7.trans y1, S4.tr (y3 17 (by omega)) (y3 18 (by omega)), fun z => absurd z h0, RR.pf.trans ⟨fun j h1 h2 => y2 j h1, fun k hk => y3 k (by omega)⟩⟩
theorem task_cm {n : Nat} {tx : Nat → Int32} {X M L : HC} {a P F c T R : Nat} (hn : n ≤ 250) (hS : St n tx (sf X 2 (X 0 2 + 1)) M 0 a) (hT : TXm n tx M) (hD : DRn L M P F c T R) (hF : T < 6) : ∃ X2 L2 fl M2, f_X5_taskClause X L = some (X2, L2) ∧ f_X7_readsTask M = some (fl, M2) ∧ St n tx X2 M2 fl a ∧ (fl = 0 → DR L2 M2) ∧ PF M M2 := by
  have hP6 : P ≤ 6 := hD.1.1
  obtain ⟨⟨v0, X1⟩, ⟨g1, M1⟩, a1, a2, S1, R1, K1, V1, -⟩ := num0_cm (k := 0) hn hS hT (0 : Int32) (nI P - 1) (by omega)
  have T1 := hT.fr R1
  obtain ⟨⟨v1, X2⟩, ⟨g2, M2⟩, b1, b2, ⟨S2, R2, K2, V2, -⟩, Z2⟩ := numOr_cm (k := 1) hn S1 T1 (0 : Int32) (99 : Int32) (by omega)
  have T2 := T1.fr R2
  obtain ⟨⟨v2, X3⟩, ⟨g3, M3⟩, c1, c2, ⟨S3, R3, K3, V3, -⟩, Z3⟩ := numOr_cm (k := 2) hn S2 T2 (0 : Int32) (99 : Int32) (by omega)
  have T3 := T2.fr R3
  obtain ⟨⟨v3, X3b⟩, ⟨g3b, M3b⟩, f1, f2, ⟨S3b, R3b, K3b, V3b, -⟩, Z3b⟩ := numOr_cm (k := 3) hn S3 T3 (0 : Int32) (20 : Int32) (by omega)
  have T3b := T3.fr R3b
  obtain ⟨X4, ⟨g4, M4⟩, d1, d2, S4, R4, Z4⟩ := semi_cm hn S3b T3b
  have RR := (((R1.trans R2).trans R3).trans R3b).trans R4.n
  dsimp only at b1 b2 c1 c2 f1 f2 d1 d2 S4 V1 V2 V3 V3b Z2 Z3 Z3b Z4 K1 K2 K3 K3b R1 R2 R3 R3b R4 RR
  have i5 : inb (nI T) 6 := inb_nI (by omega) (by omega)
  have e6 : f_X5_taskClause X L = some (X4, sf (sa (sa (sa (sa L 5 (nI T) v0) 6 (nI T) v1) 7 (nI T) v2) 8 (nI T) v3) 3 (nI (T + 1))) := by
    unfold f_X5_taskClause
    rw [nm_q, hD.2.2.2.2.1.1, hD.2.1.1, if_pos (show nI T < (6 : Int32) from nI_lt (b := 6) hF (by omega)), nm_q, a1, bd_s, p1_e, p2_e, if_pos i5, nm_q, b1, bd_s, p1_e, p2_e, if_pos i5, nm_q, c1, bd_s, p1_e, p2_e, if_pos i5, nm_q, f1, bd_s, p1_e, p2_e, if_pos i5, nm_q, d1, bd_s, nm_q, nI_1]
  have a2' : f_X7_number M (0 : Int32) (0 : Int32) (nI P - (1 : Int32)) = some (g1, M1) := a2
  have b2' : f_X7_numberOr M1 g1 (1 : Int32) (0 : Int32) (99 : Int32) = some (g2, M2) := b2
  have c2' : f_X7_numberOr M2 g2 (2 : Int32) (0 : Int32) (99 : Int32) = some (g3, M3) := c2
  have f2' : f_X7_numberOr M3 g3 (3 : Int32) (0 : Int32) (20 : Int32) = some (g3b, M3b) := f2
  have e7 : f_X7_readsTask M = lp (fun _ _ => none : Int32 → HC → Option (Int32 × HC)) (f_X7_readsTask_b45 g4) FU (0 : Int32) M4 := by
    unfold f_X7_readsTask
    rw [hD.2.1.2, a2', bd_s, p1_e, p2_e, b2', bd_s, p1_e, p2_e, c2', bd_s, p1_e, p2_e, nm_q, f2', bd_s, p1_e, p2_e, d2, bd_s, p1_e, p2_e, nm_q]
  by_cases h0 : g4 = 0
  · subst h0
    have D4 := hD.fr RR
    have z3b := Z4 rfl
    have z3 := Z3b z3b
    have z2 := Z3 z3
    have z1 := Z2 z2
    obtain ⟨u0, l0, h0, -⟩ := V1 z1
    obtain ⟨u1, l1, h1, -⟩ := V2 z2
    obtain ⟨u2, l2, h2, -⟩ := V3 z3
    obtain ⟨u3, l3, h3, -⟩ := V3b z3b
    have q0 : M4 15 0 = v0 := by rw [R4.1 15 (by omega), K3b 0 (by omega), K3 0 (by omega), K2 0 (by omega), u0]
    have q1 : M4 15 1 = v1 := by rw [R4.1 15 (by omega), K3b 1 (by omega), K3 1 (by omega), u1]
    have q2 : M4 15 2 = v2 := by rw [R4.1 15 (by omega), K3b 2 (by omega), u2]
    have q3 : M4 15 3 = v3 := by rw [R4.1 15 (by omega), u3]
    rw [t0] at l0 l1 l2 l3
    rw [t99] at h1 h2
    rw [nI_sub1 (by omega)] at h0
    rw [show (20 : Int32).toInt = 20 by decide] at h3
    obtain ⟨w1, w2, w3⟩ := ofI (H := 99) l1 (by omega) (by omega)
    obtain ⟨w4, w5, w6⟩ := ofI (H := 99) l2 (by omega) (by omega)
    obtain ⟨w7, w8, w9⟩ := ofI (H := 20) l3 (by omega) (by omega)
    obtain ⟨w10, w11, w12⟩ := ofI (H := P - 1) l0 (by omega) (by omega)
    obtain ⟨Y, y1, y2, y3, y4, y5, y6⟩ := cpT_0 hF D4.2.2.2.2.1.2
    refine ⟨_, _, _, Y, e6, e7.trans y1, S4.tr (y3 17 (by omega)) (y3 18 (by omega)), fun _ => ⟨P, F, c, T + 1, R, ?_⟩, RR.pf.trans ⟨fun j h1 h2 => y2 j h1 (by omega), fun k hk => y3 k (by omega)⟩⟩
    obtain ⟨m0, m1, m2, m3, m4, m5, m6, m7, m8, m9, m10⟩ := D4
    refine ⟨by omega, ?_, ?_, ?_, ?_, ?_, ?_, ?_, fun f hf => ?_, ?_, ?_⟩
    · rw [sf_at, if_neg (by omega), y3 19 (by omega)]; exact m1
    · rw [sf_at, if_neg (by omega), y3 20 (by omega)]; exact m2
    · rw [sf_at, if_neg (by omega), y3 22 (by omega)]; exact m3
    · rw [sf_at, if_pos rfl]; exact ⟨rfl, y4⟩
    · rw [sf_at, if_neg (by omega), y3 26 (by omega)]; exact m5
    · unfold DF
      rw [y2 10 (by omega) (by omega)]
      exact m6
    · unfold DC
      rw [y2 11 (by omega) (by omega)]
      exact m7
    · rw [sf_ne _ _ _ (show 5 ≠ 0 by omega), sf_ne _ _ _ (show 6 ≠ 0 by omega), sf_ne _ _ _ (show 7 ≠ 0 by omega), sf_ne _ _ _ (show 8 ≠ 0 by omega), sa_ne _ _ _ _ (show 5 ≠ 8 by omega), sa_ne _ _ _ _ (show 5 ≠ 7 by omega), sa_ne _ _ _ _ (show 5 ≠ 6 by omega), sa_ne _ _ _ _ (show 6 ≠ 8 by omega), sa_ne _ _ _ _ (show 6 ≠ 7 by omega), sa_ne _ _ _ _ (show 7 ≠ 8 by omega), sa_at (by omega), sa_at (by omega), sa_at (by omega), sa_at (by omega), sa_ne _ _ _ _ (show 6 ≠ 5 by omega), sa_ne _ _ _ _ (show 7 ≠ 6 by omega), sa_ne _ _ _ _ (show 7 ≠ 5 by omega), sa_ne _ _ _ _ (show 8 ≠ 7 by omega), sa_ne _ _ _ _ (show 8 ≠ 6 by omega), sa_ne _ _ _ _ (show 8 ≠ 5 by omega)]
      by_cases hff : f = T
      · subst hff
        have k0 := y5 0 (by omega)
        have k1 := y5 1 (by omega)
        have k2 := y5 2 (by omega)
        have k3 := y5 3 (by omega)
        rw [Nat.add_zero] at k0
        rw [if_pos rfl, if_pos rfl, if_pos rfl, if_pos rfl, k0, k1, k2, k3, q0, q1, q2, q3]
        exact ⟨⟨rfl, w10, by omega, w12⟩, ⟨rfl, w1, w2, w3⟩, ⟨rfl, w4, w5, w6⟩, rfl, w7, w8, w9⟩
      · rw [if_neg hff, if_neg hff, if_neg hff, if_neg hff, y6 (4 * f) (by omega), y6 (4 * f + 1) (by omega), y6 (4 * f + 2) (by omega), y6 (4 * f + 3) (by omega)]
        exact m8 f (by omega)
    · unfold DK
      rw [y2 13 (by omega) (by omega)]
      exact m9
    · unfold DE
      rw [y2 14 (by omega) (by omega), sf_at, if_neg (by omega)]
      exact m10
  · obtain ⟨Y, y1, y2, y3⟩ := cpT_1 (M := M4) h0
    exact ⟨_, _, _, Y, e6, e7.trans y1, S4.tr (y3 17 (by omega)) (y3 18 (by omega)), fun z => absurd z h0, RR.pf.trans ⟨fun j h1 h2 => y2 j h1, fun k hk => y3 k (by omega)⟩⟩
theorem people_cm {n : Nat} {tx : Nat → Int32} {X M L : HC} {a F c T R : Nat} (hn : n ≤ 250) (hS : St n tx (sf X 2 (X 0 2 + 1)) M 0 a) (hT : TXm n tx M) (hD : DRn L M 0 F c T R) : ∃ X2 L2 fl M2, f_X5_peopleClause X L = some (X2, L2) ∧ f_X7_readsPeople M = some (fl, M2) ∧ St n tx X2 M2 fl a ∧ (fl = 0 → DR L2 M2) ∧ PF M M2 := by
  obtain ⟨⟨v0, X1⟩, ⟨g1, M1⟩, a1, a2, S1, R1, K1, V1, -⟩ := num0_cm (k := 0) hn hS hT (1 : Int32) (6 : Int32) (by omega)
  have T1 := hT.fr R1
  obtain ⟨X4, ⟨g4, M4⟩, d1, d2, S4, R4, Z4⟩ := semi_cm hn S1 T1
  have RR := R1.trans R4.n
  dsimp only at d1 d2 S4 V1 Z4 K1 R1 R4 RR
  have e6 : f_X5_peopleClause X L = some (X4, sf L 0 v0) := by
    unfold f_X5_peopleClause
    rw [hD.2.1.1, if_pos (show nI 0 ≤ (0 : Int32) from nI_le (a := 0) (b := 0) (by omega) (by omega)), nm_q, a1, bd_s, p1_e, p2_e, nm_q, d1, bd_s, nm_q]
  have a2' : f_X7_number M (0 : Int32) (1 : Int32) (6 : Int32) = some (g1, M1) := a2
  have i04 : inb (0 : Int32) 4 := by decide
  have c04 : (0 : Int32).toNatClampNeg = 0 := by decide
  have e7 : f_X7_readsPeople M = if g4 = 0 then some (g4, sf M4 19 (M4 15 0)) else some (g4, sf M4 19 0) := by
    unfold f_X7_readsPeople
    rw [a2', bd_s, p1_e, p2_e, d2, bd_s, p1_e, p2_e, nm_q, if_pos i04, c04, nm_q, nm_q]
  by_cases h0 : g4 = 0
  · subst h0
    have D4 := hD.fr RR
    have z1 := Z4 rfl
    obtain ⟨u0, l0, h0, -⟩ := V1 z1
    have q0 : M4 15 0 = v0 := by rw [R4.1 15 (by omega), u0]
    rw [t1] at l0
    rw [show (6 : Int32).toInt = 6 by decide] at h0
    obtain ⟨w1, w2, w3⟩ := ofI (H := 6) (show 0 ≤ v0.toInt by omega) h0 (by omega)
    rw [if_pos z_z, q0, w3] at e7
    rw [w3] at e6
    refine ⟨_, _, _, _, e6, e7, S4.tr (by rw [sf_at, if_neg (by omega)]) (by rw [sf_at, if_neg (by omega)]), fun _ => ⟨w1, F, c, T, R, ?_⟩, RR.pf.trans ⟨fun j h1 h2 => by rw [sf_ne _ _ _ h1], fun k hk => by rw [sf_at, if_neg (by omega)]⟩⟩
    obtain ⟨m0, m1, m2, m3, m4, m5, m6, m7, m8, m9, m10⟩ := D4
    refine ⟨by omega, ?_, ?_, ?_, ?_, ?_, ?_, ?_, ?_, ?_, ?_⟩
    · rw [sf_at, if_pos rfl, sf_at, if_pos rfl]; exact ⟨rfl, rfl⟩
    · rw [sf_at, if_neg (by omega), sf_at, if_neg (by omega)]; exact m2
    · rw [sf_at, if_neg (by omega), sf_at, if_neg (by omega)]; exact m3
    · rw [sf_at, if_neg (by omega), sf_at, if_neg (by omega)]; exact m4
    · rw [sf_at, if_neg (by omega), sf_at, if_neg (by omega)]; exact m5
    · unfold DF
      rw [sf_ne M4 _ _ (show 10 ≠ 0 by omega)]
      exact m6
    · unfold DC
      rw [sf_ne M4 _ _ (show 11 ≠ 0 by omega)]
      exact m7
    · intro t ht
      obtain ⟨b, hb, -⟩ := (m8 t ht).1.2
      omega
    · unfold DK
      rw [sf_ne M4 _ _ (show 13 ≠ 0 by omega)]
      exact m9
    · unfold DE
      rw [sf_ne M4 _ _ (show 14 ≠ 0 by omega), sf_at, if_neg (by omega)]
      exact m10
  · rw [if_neg h0] at e7
    exact ⟨_, _, _, _, e6, e7, S4.tr (by rw [sf_at, if_neg (by omega)]) (by rw [sf_at, if_neg (by omega)]), fun z => absurd z h0, RR.pf.trans ⟨fun j h1 h2 => by rw [sf_ne _ _ _ h1], fun k hk => by rw [sf_at, if_neg (by omega)]⟩⟩
