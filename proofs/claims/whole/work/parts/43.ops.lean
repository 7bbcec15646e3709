/-! ===== pure: the text: blanks, numbers, ends of clauses ===== -/
def TXc (n : Nat) (tx : Nat → Int32) (X : HC) (a : Nat) : Prop := X 0 1 = nI n ∧ X 0 2 = nI a ∧ a ≤ n ∧ X 1 = tx
def TXm (n : Nat) (tx : Nat → Int32) (M : HC) : Prop := M 0 3 = nI n ∧ ∀ k, k < n → M 3 k = tx k
def FR0 (M M2 : HC) : Prop := (∀ j, j ≠ 0 → M2 j = M j) ∧ (∀ k, k ≠ 17 → k ≠ 18 → M2 0 k = M 0 k)
def FRn (M M2 : HC) : Prop := (∀ j, j ≠ 0 → j ≠ 15 → M2 j = M j) ∧ (∀ k, k ≠ 17 → k ≠ 18 → M2 0 k = M 0 k)
theorem FR0.n {M M2 : HC} (h : FR0 M M2) : FRn M M2 := ⟨fun j h1 _ => h.1 j h1, h.2⟩
theorem FRn.trans {M M2 M3 : HC} (h : FRn M M2) (h2 : FRn M2 M3) : FRn M M3 := ⟨fun j a b => (h2.1 j a b).trans (h.1 j a b), fun k a b => (h2.2 k a b).trans (h.2 k a b)⟩
theorem FR0.refl (M : HC) : FR0 M M := ⟨fun _ _ => rfl, fun _ _ _ => rfl⟩
theorem FRn.refl (M : HC) : FRn M M := ⟨fun _ _ _ => rfl, fun _ _ _ => rfl⟩
theorem FR0.sf {M M2 : HC} (h : FR0 M M2) {k : Nat} (hk : k = 17 ∨ k = 18) (v : Int32) : FR0 M (sf M2 k v) := ⟨fun j hj => by rw [sf_ne _ _ _ hj]; exact h.1 j hj, fun i h1 h2 => by rw [sf_at, if_neg (by omega)]; exact h.2 i h1 h2⟩
theorem TXm.fr {n : Nat} {tx : Nat → Int32} {M M2 : HC} (h : TXm n tx M) (f : FRn M M2) : TXm n tx M2 := ⟨by rw [f.2 3 (by omega) (by omega)]; exact h.1, fun k hk => by rw [f.1 3 (by omega) (by omega)]; exact h.2 k hk⟩
theorem TXc.mv {n : Nat} {tx : Nat → Int32} {X : HC} {a b : Nat} (h : TXc n tx X a) (hb : b ≤ n) : TXc n tx (sf X 2 (nI b)) b := ⟨by rw [sf_at, if_neg (by omega)]; exact h.1, by rw [sf_at, if_pos rfl], hb, by rw [sf_ne _ _ _ (show 1 ≠ 0 by omega)]; exact h.2.2.2⟩
theorem TXc.fl {n : Nat} {tx : Nat → Int32} {X : HC} {a : Nat} (h : TXc n tx X a) {k : Nat} (hk : 2 < k) (v : Int32) : TXc n tx (sf X k v) a := ⟨by rw [sf_at, if_neg (by omega)]; exact h.1, by rw [sf_at, if_neg (by omega)]; exact h.2.1, h.2.2.1, by rw [sf_ne _ _ _ (show 1 ≠ 0 by omega)]; exact h.2.2.2⟩
/-- class and reference side by side in the text: without a fault at one place, or both with the same fault -/
def St (n : Nat) (tx : Nat → Int32) (X M : HC) (fl : Int32) (a0 : Nat) : Prop :=
  (∃ a, TXc n tx X a ∧ a0 ≤ a ∧ fl = 0 ∧ X 0 4 = 0 ∧ X 0 5 = -1 ∧ M 0 17 = nI a) ∨ (∃ a w, TXc n tx X a ∧ (1 ≤ w ∧ w ≤ 4) ∧ fl = nI w ∧ X 0 4 = nI w ∧ X 0 5 = M 0 18)
theorem skip_cm {n : Nat} {tx : Nat → Int32} {X M : HC} {a : Nat} (hn : n ≤ 250) (hX : TXc n tx X a) (hT : TXm n tx M) (hM : M 0 17 = nI a) : ∃ X2 M2, f_X5_skipBlanks X = some X2 ∧ f_X7_skip M = some M2 ∧ ∃ b, a ≤ b ∧ TXc n tx X2 b ∧ (∀ k, k ≠ 2 → X2 0 k = X 0 k) ∧ M2 0 17 = nI b ∧ M2 0 18 = nI b ∧ FR0 M M2 := by
  have han := hX.2.2.1
  unfold f_X5_skipBlanks f_X7_skip
  exact lp_rel (T1 := HC → Option HC) (T2 := HC → Option HC) (z1 := fun _ => none) (z2 := fun _ => none) (F1 := f_X5_skipBlanks_b0) (F2 := f_X7_skip_b0) (fun g (_ : Nat) (s : HC) => g s) (fun g (_ : Nat) (s : HC) => g s) (n - a) (fun k Y N => TXc n tx Y (a + k) ∧ (∀ j, j ≠ 2 → Y 0 j = X 0 j) ∧ N 0 17 = nI (a + k) ∧ FR0 M N) (fun X2 M2 => ∃ b, a ≤ b ∧ TXc n tx X2 b ∧ (∀ k, k ≠ 2 → X2 0 k = X 0 k) ∧ M2 0 17 = nI b ∧ M2 0 18 = nI b ∧ FR0 M M2) (by
    intro rc1 rc2 k Y N hi hk
    obtain ⟨⟨y1, y2, y3, y4⟩, y5, n1, n2⟩ := id hi
    have hN := hT.fr n2.n
    have i250 : inb (nI (a + k)) 250 := inb_nI (by omega) (by omega)
    have c250 : (nI (a + k)).toNatClampNeg = a + k := nI_clamp (by omega)
    unfold f_X5_skipBlanks_b0 f_X7_skip_b0 f_X7_skip_j38
    rw [y1, y2, hN.1, n1, if_neg (nI_ge (show a + k < n by omega) (by omega)), if_neg (nI_ge (show a + k < n by omega) (by omega)), if_pos i250, if_pos i250, c250, y4, hN.2 (a + k) (by omega), nm_q, nm_q, nm_q, nI_1]
    by_cases hc : tx (a + k) = 32
    · left
      rw [if_pos hc, if_pos hc]
      exact ⟨_, _, rfl, rfl, hi.1.mv (by omega), fun j hj => by rw [sf_at, if_neg hj]; exact y5 j hj, by rw [sf_at, if_pos rfl]; rfl, n2.sf (Or.inl rfl) _⟩
    · right
      rw [if_neg hc, if_neg hc]
      exact ⟨_, _, rfl, rfl, a + k, by omega, hi.1, y5, by rw [sf_at, if_neg (by omega)]; exact n1, by rw [sf_at, if_pos rfl], n2.sf (Or.inr rfl) _⟩) (by
    intro rc1 rc2 Y N hi
    obtain ⟨⟨y1, y2, y3, y4⟩, y5, n1, n2⟩ := id hi
    have hN := hT.fr n2.n
    unfold f_X5_skipBlanks_b0 f_X7_skip_b0 f_X7_skip_j38
    rw [y1, y2, hN.1, n1, if_pos (nI_le (show n ≤ a + (n - a) by omega) (by omega)), if_pos (nI_le (show n ≤ a + (n - a) by omega) (by omega)), nm_q]
    exact ⟨_, _, rfl, rfl, a + (n - a), by omega, hi.1, y5, by rw [sf_at, if_neg (by omega)]; exact n1, by rw [sf_at, if_pos rfl], n2.sf (Or.inr rfl) _⟩) FU (n - a) 0 X M ⟨hX, fun _ _ => rfl, hM, FR0.refl M⟩ (by omega) (by have := FU_gt; omega)
theorem skip_c {n : Nat} {tx : Nat → Int32} {X : HC} {a : Nat} (hn : n ≤ 250) (hX : TXc n tx X a) : ∃ X2 b, f_X5_skipBlanks X = some X2 ∧ TXc n tx X2 b ∧ (∀ k, k ≠ 2 → X2 0 k = X 0 k) := by
  obtain ⟨X2, M2, h1, h2, b, h3, h4, h5, h6⟩ := skip_cm (M := fun j k => if j = 0 then (if k = 3 then nI n else nI a) else tx k) hn hX ⟨rfl, fun k _ => rfl⟩ rfl
  exact ⟨X2, b, h1, h4, h5⟩
def isD (c : Int32) : Prop := 48 ≤ c.toInt ∧ c.toInt ≤ 57
theorem fig_m (c : Int32) : (isD c ∧ f_X7_isFigure c = some 1) ∨ (¬ isD c ∧ f_X7_isFigure c = some 0) := by
  unfold f_X7_isFigure
  rw [in_z c (48 : Int64) (57 : Int64) 48 57 (by decide) (by decide), bd_s]
  by_cases h : 48 ≤ c.toInt ∧ c.toInt ≤ 57
  · rw [if_pos h, if_pos bz1]; exact Or.inl ⟨h, rfl⟩
  · rw [if_neg h, if_pos bz0]; exact Or.inr ⟨h, rfl⟩
theorem fig_c {n : Nat} {tx : Nat → Int32} {X : HC} {a : Nat} (hn : n ≤ 250) (hX : TXc n tx X a) : ((a < n ∧ isD (tx a)) ∧ f_X5_figureAhead X = some 1) ∨ (¬ (a < n ∧ isD (tx a)) ∧ f_X5_figureAhead X = some 0) := by
  obtain ⟨x1, x2, x3, x4⟩ := hX
  unfold f_X5_figureAhead f_X5_figureAhead_j43
  rw [x1, x2]
  by_cases h : a < n
  · have i250 : inb (nI a) 250 := inb_nI (by omega) (by omega)
    have c250 : (nI a).toNatClampNeg = a := nI_clamp (by omega)
    rw [if_neg (nI_ge h (by omega)), if_pos i250, if_pos i250, c250, x4]
    have e48 : (48 : Int32).toInt = 48 := by decide
    have e57 : (57 : Int32).toInt = 57 := by decide
    by_cases h1 : tx a < 48
    · rw [if_pos h1]
      rw [i_lt, e48] at h1
      exact Or.inr ⟨fun z => by have := z.2.1; omega, rfl⟩
    · rw [if_neg h1]
      rw [i_lt, e48] at h1
      by_cases h2 : 57 < tx a
      · rw [if_pos h2]
        rw [i_lt, e57] at h2
        exact Or.inr ⟨fun z => by have := z.2.2; omega, rfl⟩
      · rw [if_neg h2]
        rw [i_lt, e57] at h2
        exact Or.inl ⟨⟨h, by omega, by omega⟩, rfl⟩
  · rw [if_pos (nI_le (by omega) (by omega))]
    exact Or.inr ⟨fun z => h z.1, rfl⟩
theorem fail_0 {X : HC} (h : X 0 4 = 0) (w p : Int32) : f_X5_fail X w p = some (sf (sf X 4 w) 5 p) := by
  unfold f_X5_fail
  rw [if_pos h, nm_q, nm_q]
theorem fail_1 {X : HC} (h : ¬ X 0 4 = 0) (w p : Int32) : f_X5_fail X w p = some X := by
  unfold f_X5_fail
  rw [if_neg h]
theorem St.bad {n : Nat} {tx : Nat → Int32} {X M : HC} {a : Nat} (a0 : Nat) (hX : TXc n tx X a) {w : Nat} (hw : 1 ≤ w ∧ w ≤ 4) {p : Int32} (hM : M 0 18 = p) : St n tx (sf (sf X 4 (nI w)) 5 p) M (nI w) a0 :=
  Or.inr ⟨a, w, (hX.fl (by omega) _).fl (by omega) _, hw, rfl, by rw [sf_at, if_neg (by omega), sf_at, if_pos rfl], by rw [sf_at, if_pos rfl, hM]⟩
def nuQ (n : Nat) (tx : Nat → Int32) (a k : Nat) (lo hi : Int32) (M : HC) (r1 r2 : Int32 × HC) : Prop :=
  St n tx r1.2 r2.2 r2.1 a ∧ FRn M r2.2 ∧ (∀ i, i ≠ k → r2.2 15 i = M 15 i) ∧ (r2.1 = 0 → r2.2 15 k = r1.1 ∧ lo.toInt ≤ r1.1.toInt ∧ r1.1.toInt ≤ hi.toInt ∧ r1.2 0 3 = r2.2 0 18) ∧ (r1.1 = 0 ∨ (lo.toInt ≤ r1.1.toInt ∧ r1.1.toInt ≤ hi.toInt))
theorem nI_w0 {w : Nat} (hw : 1 ≤ w ∧ w ≤ 4) : ¬ nI w = 0 := nI_ne0 (by omega) (by omega)
theorem num_ex {n : Nat} {tx : Nat → Int32} {X M M0 : HC} {a b j k : Nat} (hk : k < 4) (lo hi : Int32) (v : Int32) (hj : j ≤ 250) (hb : b ≤ 250) (hab : a ≤ b) (hX : TXc n tx X (b + j)) (h3 : X 0 3 = nI b) (h4 : X 0 4 = 0) (h5 : X 0 5 = -1) (m17 : M 0 17 = nI (b + j)) (m18 : M 0 18 = nI b) (hF : FR0 M0 M) : ∃ r1 r2, f_X5_number_j97 lo hi v X = some r1 ∧ f_X7_number_j112 (nI k) lo hi v M = some r2 ∧ nuQ n tx a k lo hi M0 r1 r2 := by
  have i4 : inb (nI k) 4 := inb_nI (by omega) (by omega)
  have ed : nI (b + j) - nI b = nI j := by rw [nI_sub (by omega) (by omega), show b + j - b = j by omega]
  have s0 : (sa M 15 (nI k) v) 0 = M 0 := sa_ne _ _ _ _ (by omega)
  have fr : FRn M0 (sa M 15 (nI k) v) := ⟨fun j h1 h2 => by rw [sa_ne _ _ _ _ h2]; exact hF.1 j h1, fun i h1 h2 => by rw [s0]; exact hF.2 i h1 h2⟩
  have f15 : ∀ i, i ≠ k → sa M 15 (nI k) v 15 i = M0 15 i := fun i hi => by rw [sa_at (by omega), if_neg hi, hF.1 15 (by omega)]
  have bad : f_X5_number_j120 X = some (0, sf (sf X 4 (nI 2)) 5 (nI b)) := by
    unfold f_X5_number_j120
    rw [fail_0 h4, bd_s, h3]
    rfl
  have qbad : nuQ n tx a k lo hi M0 (0, sf (sf X 4 (nI 2)) 5 (nI b)) (nI 2, sa M 15 (nI k) v) := ⟨St.bad a hX ⟨by omega, by omega⟩ (by dsimp only; rw [s0]; exact m18), fr, f15, fun z => absurd z (nI_w0 ⟨by omega, by omega⟩), Or.inl rfl⟩
  unfold f_X5_number_j97 f_X7_number_j112 f_X7_number_j146
  rw [if_pos i4, nm_q, s0, m17, m18, hX.2.1, h3, ed, bad, in_z v lo.toInt64 hi.toInt64 lo.toInt hi.toInt (Int32.toInt_toInt64 _) (Int32.toInt_toInt64 _), bd_s]
  by_cases h1 : (3 : Int32) < nI j
  · rw [if_pos h1, if_pos h1]
    exact ⟨_, _, rfl, rfl, qbad⟩
  · rw [if_neg h1, if_neg h1]
    by_cases h2 : lo.toInt ≤ v.toInt ∧ v.toInt ≤ hi.toInt
    · have g1 : ¬ v < lo := by rw [i_lt]; omega
      have g2 : v ≤ hi := by rw [i_le]; omega
      rw [if_neg g1, if_pos g2, if_pos h2, if_neg one_ne0]
      refine ⟨_, _, rfl, rfl, Or.inl ⟨b + j, hX, by omega, rfl, h4, h5, by dsimp only; rw [s0]; exact m17⟩, fr, f15, fun _ => ⟨by dsimp only; rw [sa_at (by omega), if_pos rfl], h2.1, h2.2, by dsimp only; rw [s0, h3, m18]⟩, Or.inr h2⟩
    · rw [if_neg h2, if_pos z_z]
      by_cases g1 : v < lo
      · rw [if_pos g1]; exact ⟨_, _, rfl, rfl, qbad⟩
      · have g2 : ¬ v ≤ hi := by
          rw [i_lt] at g1
          rw [i_le]
          omega
        rw [if_neg g1, if_neg g2]; exact ⟨_, _, rfl, rfl, qbad⟩
theorem number_cm {n : Nat} {tx : Nat → Int32} {X M : HC} {a k : Nat} (hn : n ≤ 250) (hX : TXc n tx X a) (h4 : X 0 4 = 0) (h5 : X 0 5 = -1) (hT : TXm n tx M) (hM : M 0 17 = nI a) (lo hi : Int32) (hk : k < 4) : ∃ r1 r2, f_X5_number X lo hi = some r1 ∧ f_X7_number M (nI k) lo hi = some r2 ∧ nuQ n tx a k lo hi M r1 r2 := by
  obtain ⟨X1, M1, s1, s2, b, hab, hX1, x1, m17, m18, hF⟩ := skip_cm hn hX hT hM
  have g4 : X1 0 4 = 0 := by rw [x1 4 (by omega)]; exact h4
  have g5 : X1 0 5 = -1 := by rw [x1 5 (by omega)]; exact h5
  have hT1 := hT.fr hF.n
  have hbn := hX1.2.2.1
  unfold f_X5_number f_X7_number
  rw [s1, bd_s, s2, bd_s, m17, hT1.1]
  have qbad : nuQ n tx a k lo hi M (0, sf (sf X1 4 (nI 1)) 5 (nI b)) (nI 1, M1) := ⟨St.bad a hX1 ⟨by omega, by omega⟩ m18, hF.n, fun i _ => by show M1 15 i = M 15 i; rw [hF.1 15 (by omega)], fun z => absurd z (nI_w0 ⟨by omega, by omega⟩), Or.inl rfl⟩
  have bad : (bd (f_X5_fail X1 (1 : Int32) (X1 0 2)) (fun (q14 : HC) => f_X5_number_j20 lo hi q14)) = some (0, sf (sf X1 4 (nI 1)) 5 (nI b)) := by
    rw [fail_0 g4, bd_s, hX1.2.1]
    unfold f_X5_number_j20
    rw [if_neg (show ¬ sf (sf X1 4 1) 5 (nI b) 0 4 = 0 by rw [sf_at, if_neg (by omega), sf_at, if_pos rfl]; decide)]
    rfl
  rcases fig_c hn hX1 with ⟨⟨f1, f2⟩, f3⟩ | ⟨f1, f3⟩
  · rw [f3, bd_s, if_neg one_ne0, if_neg (fun e => by rw [nI_eq (by omega) (by omega)] at e; omega)]
    have i250 : inb (nI b) 250 := inb_nI (by omega) (by omega)
    have c250 : (nI b).toNatClampNeg = b := nI_clamp (by omega)
    rw [if_pos i250, c250, hT1.2 b f1]
    rcases fig_m (tx b) with ⟨-, e⟩ | ⟨e, -⟩
    · rw [e, bd_s, if_neg one_ne0]
      unfold f_X5_number_j20
      rw [if_pos g4, hX1.2.1, nm_q]
      exact lp_rel (T1 := Int32 → Int32 → HC → Option (Int32 × HC)) (T2 := Int32 → HC → Option (Int32 × HC)) (z1 := fun _ _ _ => none) (z2 := fun _ _ => none) (F1 := f_X5_number_b42 lo hi) (F2 := f_X7_number_b35 (nI k) lo hi) (fun g j (s : Int32 × HC) => g s.1 (nI j) s.2) (fun g (_ : Nat) (s : Int32 × HC) => g s.1 s.2) (n - b) (fun j s1 s2 => s1.1 = s2.1 ∧ TXc n tx s1.2 (b + j) ∧ s1.2 0 3 = nI b ∧ s1.2 0 4 = 0 ∧ s1.2 0 5 = -1 ∧ s2.2 0 17 = nI (b + j) ∧ s2.2 0 18 = nI b ∧ FR0 M s2.2) (nuQ n tx a k lo hi M) (by
        intro rc1 rc2 j s1 s2 hi2 hj
        obtain ⟨v, Y⟩ := s1
        obtain ⟨v', N⟩ := s2
        obtain ⟨e1, e2, e3, e4, e5, e6, e7, e8⟩ := hi2
        dsimp only at e1 e2 e3 e4 e5 e6 e7 e8
        subst e1
        have hN := hT.fr e8.n
        have i250 : inb (nI (b + j)) 250 := inb_nI (by omega) (by omega)
        have c250 : (nI (b + j)).toNatClampNeg = b + j := nI_clamp (by omega)
        have ed : nI (b + j) - nI b = nI j := by rw [nI_sub (by omega) (by omega), show b + j - b = j by omega]
        dsimp only
        unfold f_X5_number_b42 f_X7_number_b35
        rw [if_neg (show ¬ (250 : Int32) ≤ nI j from nI_ge (b := 250) (by omega) (by omega)), e6, hN.1, if_neg (nI_ge (show b + j < n by omega) (by omega)), if_pos i250, if_pos i250, c250, hN.2 (b + j) (by omega), e7, ed]
        rcases fig_c hn e2 with ⟨⟨f1, f2⟩, f3⟩ | ⟨f1, f3⟩
        · left
          rcases fig_m (tx (b + j)) with ⟨-, q⟩ | ⟨q, -⟩
          · rw [f3, bd_s, if_neg one_ne0, q, bd_s, if_neg one_ne0, e2.2.1, if_pos i250, c250, e2.2.2.2, nm_q]
            unfold f_X5_number_j81 f_X7_number_j97
            rw [nm_q, nm_q, nm_q, e2.2.1, e6, nI_1, nI_1]
            have hmv : ∀ w : Int32, ((w, sf Y 2 (nI (b + j + 1))).1 = (w, sf N 17 (nI (b + j + 1))).1 ∧ TXc n tx (w, sf Y 2 (nI (b + j + 1))).2 (b + (j + 1)) ∧ (w, sf Y 2 (nI (b + j + 1))).2 0 3 = nI b ∧ (w, sf Y 2 (nI (b + j + 1))).2 0 4 = 0 ∧ (w, sf Y 2 (nI (b + j + 1))).2 0 5 = -1 ∧ (w, sf N 17 (nI (b + j + 1))).2 0 17 = nI (b + (j + 1)) ∧ (w, sf N 17 (nI (b + j + 1))).2 0 18 = nI b ∧ FR0 M (w, sf N 17 (nI (b + j + 1))).2) := fun w => by
              dsimp only
              exact ⟨rfl, e2.mv (by omega), by rw [sf_at, if_neg (by omega)]; exact e3, by rw [sf_at, if_neg (by omega)]; exact e4, by rw [sf_at, if_neg (by omega)]; exact e5, by rw [sf_at, if_pos rfl]; rfl, by rw [sf_at, if_neg (by omega)]; exact e7, e8.sf (Or.inl rfl) _⟩
            by_cases h3 : (3 : Int32) ≤ nI j
            · rw [if_pos h3, if_pos h3]
              exact ⟨(v, sf Y 2 (nI (b + j + 1))), (v, sf N 17 (nI (b + j + 1))), rfl, rfl, hmv v⟩
            · rw [if_neg h3, if_neg h3, Int32.mul_comm (10 : Int32) v]
              exact ⟨(_, sf Y 2 (nI (b + j + 1))), (_, sf N 17 (nI (b + j + 1))), rfl, rfl, hmv _⟩
          · exact absurd f2 q
        · right
          rcases fig_m (tx (b + j)) with ⟨q, -⟩ | ⟨-, q⟩
          · exact absurd ⟨by omega, q⟩ f1
          · rw [f3, bd_s, if_pos z_z, q, bd_s, if_pos z_z]
            exact num_ex hk lo hi v (by omega) (by omega) hab e2 e3 e4 e5 e6 e7 e8) (by
        intro rc1 rc2 s1 s2 hi2
        obtain ⟨v, Y⟩ := s1
        obtain ⟨v', N⟩ := s2
        obtain ⟨e1, e2, e3, e4, e5, e6, e7, e8⟩ := hi2
        dsimp only at e1 e2 e3 e4 e5 e6 e7 e8
        subst e1
        have hN := hT.fr e8.n
        have hex := num_ex (a := a) hk lo hi v (show n - b ≤ 250 by omega) (by omega) hab e2 e3 e4 e5 e6 e7 e8
        dsimp only
        unfold f_X5_number_b42 f_X7_number_b35
        rw [e6, hN.1, if_pos (nI_le (show n ≤ b + (n - b) by omega) (by omega))]
        by_cases h250 : (250 : Int32) ≤ nI (n - b)
        · rw [if_pos h250]; exact hex
        · rw [if_neg h250]
          rcases fig_c hn e2 with ⟨⟨f1, f2⟩, f3⟩ | ⟨f1, f3⟩
          · omega
          · rw [f3, bd_s, if_pos z_z]; exact hex) FU (n - b) 0 (0, sf X1 3 (nI b)) (0, M1) ⟨rfl, hX1.fl (by omega) _, by dsimp only; rw [sf_at, if_pos rfl], by dsimp only; rw [sf_at, if_neg (by omega)]; exact g4, by dsimp only; rw [sf_at, if_neg (by omega)]; exact g5, m17, m18, hF⟩ (by omega) (by have := FU_gt; omega)
    · exact absurd f2 e
  · rw [f3, bd_s, if_pos z_z, bad]
    refine ⟨_, _, rfl, ?_, qbad⟩
    by_cases hbn2 : b = n
    · rw [if_pos (by rw [hbn2])]; rfl
    · have i250 : inb (nI b) 250 := inb_nI (by omega) (by omega)
      have c250 : (nI b).toNatClampNeg = b := nI_clamp (by omega)
      rw [if_neg (fun e => by rw [nI_eq (by omega) (by omega)] at e; exact hbn2 e), if_pos i250, c250, hT1.2 b (by omega)]
      rcases fig_m (tx b) with ⟨q, -⟩ | ⟨-, q⟩
      · exact absurd ⟨by omega, q⟩ f1
      · rw [q, bd_s, if_pos z_z]; rfl
theorem number_cf {n : Nat} {tx : Nat → Int32} {X : HC} {a : Nat} (hn : n ≤ 250) (hX : TXc n tx X a) (h4 : ¬ X 0 4 = 0) (lo hi : Int32) : ∃ X2 b, f_X5_number X lo hi = some (0, X2) ∧ TXc n tx X2 b ∧ X2 0 4 = X 0 4 ∧ X2 0 5 = X 0 5 := by
  obtain ⟨X1, b, s1, hX1, x1⟩ := skip_c hn hX
  have g4 : ¬ X1 0 4 = 0 := by rw [x1 4 (by omega)]; exact h4
  refine ⟨X1, b, ?_, hX1, x1 4 (by omega), x1 5 (by omega)⟩
  have e20 : f_X5_number_j20 lo hi X1 = some (0, X1) := by
    unfold f_X5_number_j20
    rw [if_neg g4]
  unfold f_X5_number
  rw [s1, bd_s, fail_1 g4, bd_s, e20]
  rcases fig_c hn hX1 with ⟨-, f3⟩ | ⟨-, f3⟩
  · rw [f3, bd_s, if_neg one_ne0]
  · rw [f3, bd_s, if_pos z_z]
theorem numOr_cm {n : Nat} {tx : Nat → Int32} {X M : HC} {fl : Int32} {a k : Nat} (hn : n ≤ 250) (hS : St n tx X M fl a) (hT : TXm n tx M) (lo hi : Int32) (hk : k < 4) : ∃ r1 r2, f_X5_number X lo hi = some r1 ∧ f_X7_numberOr M fl (nI k) lo hi = some r2 ∧ nuQ n tx a k lo hi M r1 r2 ∧ (r2.1 = 0 → fl = 0) := by
  unfold f_X7_numberOr
  rcases hS with ⟨b, h1, h2, h3, h4, h5, h6⟩ | ⟨b, w, h1, h2, h3, h4, h5⟩
  · obtain ⟨r1, r2, q1, q2, q3, q4, q5, q6, q7⟩ := number_cm hn h1 h4 h5 hT h6 lo hi hk
    rw [h3, if_pos z_z, q2, bd_s]
    refine ⟨r1, r2, q1, rfl, ⟨?_, q4, q5, q6, q7⟩, fun _ => rfl⟩
    rcases q3 with ⟨c, g1, g2, g3⟩ | g
    · exact Or.inl ⟨c, g1, by omega, g3⟩
    · exact Or.inr g
  · have hw := nI_w0 h2
    obtain ⟨X2, c, q1, q2, q3, q4⟩ := number_cf hn h1 (by rw [h4]; exact hw) lo hi
    rw [h3, if_neg hw]
    exact ⟨_, _, q1, rfl, ⟨Or.inr ⟨c, w, q2, h2, rfl, q3.trans h4, q4.trans h5⟩, FRn.refl M, fun _ _ => rfl, fun z => absurd z hw, Or.inl rfl⟩, fun z => absurd z hw⟩
theorem semi_cm {n : Nat} {tx : Nat → Int32} {X M : HC} {fl : Int32} {a : Nat} (hn : n ≤ 250) (hS : St n tx X M fl a) (hT : TXm n tx M) : ∃ X2 r2, f_X5_endOfClause X = some X2 ∧ f_X7_semicolon M fl = some r2 ∧ St n tx X2 r2.2 r2.1 a ∧ FR0 M r2.2 ∧ (r2.1 = 0 → fl = 0) := by
  unfold f_X7_semicolon f_X5_endOfClause
  rcases hS with ⟨b, h1, h2, h3, h4, h5, h6⟩ | ⟨b, w, h1, h2, h3, h4, h5⟩
  · obtain ⟨X1, M1, s1, s2, c, hab, hX1, x1, m17, m18, hF⟩ := skip_cm hn h1 hT h6
    have g4 : X1 0 4 = 0 := by rw [x1 4 (by omega)]; exact h4
    have g5 : X1 0 5 = -1 := by rw [x1 5 (by omega)]; exact h5
    have hT1 := hT.fr hF.n
    have hcn := hX1.2.2.1
    have bad : f_X5_endOfClause_j42 X1 = some (sf (sf X1 4 (nI 1)) 5 (nI c)) := by
      unfold f_X5_endOfClause_j42
      rw [fail_0 g4, bd_s, hX1.2.1]
      rfl
    have qbad : St n tx (sf (sf X1 4 (nI 1)) 5 (nI c)) M1 (nI 1) a := St.bad a hX1 ⟨by omega, by omega⟩ m18
    rw [h3, if_pos z_z, s1, bd_s, s2, bd_s, bad, m17, hT1.1, hX1.1, hX1.2.1]
    by_cases hc : c = n
    · rw [if_pos (nI_le (by omega) (by omega)), if_pos (by rw [hc])]
      exact ⟨_, (nI 1, M1), rfl, rfl, qbad, hF, fun _ => rfl⟩
    · have i250 : inb (nI c) 250 := inb_nI (by omega) (by omega)
      have c250 : (nI c).toNatClampNeg = c := nI_clamp (by omega)
      rw [if_neg (nI_ge (show c < n by omega) (by omega)), if_neg (show ¬ nI c = nI n from fun e => by rw [nI_eq (by omega) (by omega)] at e; exact hc e), if_pos i250, if_pos i250, c250, hX1.2.2.2, hT1.2 c (by omega), nm_q, nm_q, nI_1]
      by_cases h59 : tx c = 59
      · rw [if_pos h59, if_pos h59]
        exact ⟨_, _, rfl, rfl, Or.inl ⟨c + 1, hX1.mv (by omega), by omega, rfl, by rw [sf_at, if_neg (by omega)]; exact g4, by rw [sf_at, if_neg (by omega)]; exact g5, by dsimp only; rw [sf_at, if_pos rfl]⟩, hF.sf (Or.inl rfl) _, fun _ => rfl⟩
      · rw [if_neg h59, if_neg h59]
        exact ⟨_, (nI 1, M1), rfl, rfl, qbad, hF, fun _ => rfl⟩
  · have hw := nI_w0 h2
    obtain ⟨X1, c, s1, hX1, x1⟩ := skip_c hn h1
    have g4 : ¬ X1 0 4 = 0 := by rw [x1 4 (by omega), h4]; exact hw
    have hcn := hX1.2.2.1
    have bad : f_X5_endOfClause_j42 X1 = some X1 := by
      unfold f_X5_endOfClause_j42
      rw [fail_1 g4, bd_s]
    have q0 : St n tx X1 M fl a := Or.inr ⟨c, w, hX1, h2, h3, by rw [x1 4 (by omega), h4], by rw [x1 5 (by omega), h5]⟩
    rw [h3] at q0
    rw [h3, if_neg hw, s1, bd_s, bad, hX1.1, hX1.2.1]
    by_cases hc : c = n
    · rw [if_pos (nI_le (by omega) (by omega))]
      exact ⟨_, _, rfl, rfl, q0, FR0.refl M, fun z => absurd z hw⟩
    · have i250 : inb (nI c) 250 := inb_nI (by omega) (by omega)
      have c250 : (nI c).toNatClampNeg = c := nI_clamp (by omega)
      rw [if_neg (nI_ge (show c < n by omega) (by omega)), if_pos i250, c250, hX1.2.2.2, nm_q, nI_1]
      by_cases h59 : tx c = 59
      · rw [if_pos h59]
        refine ⟨_, _, rfl, rfl, Or.inr ⟨c + 1, w, hX1.mv (by omega), h2, rfl, by rw [sf_at, if_neg (by omega), x1 4 (by omega), h4], by rw [sf_at, if_neg (by omega), x1 5 (by omega), h5]⟩, FR0.refl M, fun z => absurd z hw⟩
      · rw [if_neg h59]
        exact ⟨_, _, rfl, rfl, q0, FR0.refl M, fun z => absurd z hw⟩
