/-! ===== pure: the row of tasks that both walk ===== -/
def sq (M : HC) (T R f : Nat) : Nat → Nat
  | 0 => 0
  | k + 1 => if nxN M T R f (nI (sq M T R f k)) = 0 then sq M T R f k else sq M T R f k ||| (1 <<< (nxN M T R f (nI (sq M T R f k)) - 1))
def nxK (M : HC) (T R f k : Nat) : Nat := nxN M T R f (nI (sq M T R f k))
def lsK (M : HC) (T R f k : Nat) : Nat := lsN M T R f (nxK M T R f k - 1) (nI (sq M T R f k))
theorem sq_s {M : HC} {T R f k w : Nat} (h : nxK M T R f k = w + 1) : sq M T R f (k + 1) = sq M T R f k ||| (1 <<< w) := by
  have h : nxN M T R f (nI (sq M T R f k)) = w + 1 := h
  show (if nxN M T R f (nI (sq M T R f k)) = 0 then sq M T R f k else sq M T R f k ||| (1 <<< (nxN M T R f (nI (sq M T R f k)) - 1))) = _
  rw [if_neg (by omega), h, show w + 1 - 1 = w by omega]
theorem nx_facts {M : HC} {T R f k w : Nat} (h : nxK M T R f k = w + 1) : w < T ∧ ¬ hb (nI (sq M T R f k)) (nI w) ∧ ¬ hb (M 1 (35 + f)) (nI w) ∧ ¬ wI (lsN M T R f w (nI (sq M T R f k))) = -1 := by
  obtain ⟨h1, h2, h3⟩ := fd_some (p := pX M T R f (nI (sq M T R f k))) T 0 w h
  unfold pX at h3
  simp only [Bool.and_eq_true, Bool.not_eq_true', decide_eq_false_iff_not] at h3
  exact ⟨by omega, h3.2.1, h3.1, h3.2.2⟩
theorem sq_lt {M : HC} {T R f : Nat} (hT : T ≤ 6) : ∀ k, sq M T R f k < 64 := by
  intro k
  induction k with
  | zero => show 0 < 64; omega
  | succ k ih =>
    cases hw : nxK M T R f k with
    | zero =>
      have hw : nxN M T R f (nI (sq M T R f k)) = 0 := hw
      show (if nxN M T R f (nI (sq M T R f k)) = 0 then sq M T R f k else _) < 64
      rw [if_pos hw]; exact ih
    | succ w =>
      rw [sq_s hw]
      have := (nx_facts hw).1
      exact (bit_or _ ih w (by omega)).2
def pcb (b : Nat) : Nat := (if hb (nI b) (nI 0) then 1 else 0) + (if hb (nI b) (nI 1) then 1 else 0) + (if hb (nI b) (nI 2) then 1 else 0) + (if hb (nI b) (nI 3) then 1 else 0) + (if hb (nI b) (nI 4) then 1 else 0) + (if hb (nI b) (nI 5) then 1 else 0)
theorem pc_or : ∀ b, b < 64 → ∀ t, t < 6 → ¬ hb (nI b) (nI t) → pcb (b ||| (1 <<< t)) = pcb b + 1 := by decide +kernel
theorem pc_le : ∀ b, b < 64 → pcb b ≤ 6 := by decide +kernel
theorem pc_0 : pcb 0 = 0 := by decide +kernel
theorem pc_sq {M : HC} {T R f : Nat} (hT : T ≤ 6) : ∀ k, (∀ j, j < k → ¬ nxK M T R f j = 0) → pcb (sq M T R f k) = k := by
  intro k
  induction k with
  | zero => intro _; exact pc_0
  | succ k ih =>
    intro h
    cases hw : nxK M T R f k with
    | zero => exact absurd hw (h k (by omega))
    | succ w =>
      obtain ⟨h1, h2, h3⟩ := nx_facts hw
      rw [sq_s hw, pc_or _ (sq_lt hT k) w (by omega) h2, ih (fun j hj => h j (by omega))]
theorem sq_end {M : HC} {T R f : Nat} (hT : T ≤ 6) (h : ∀ j, j < 6 → ¬ nxK M T R f j = 0) : nxK M T R f 6 = 0 := by
  cases hw : nxK M T R f 6 with
  | zero => rfl
  | succ w =>
    exfalso
    obtain ⟨h1, h2, h3⟩ := nx_facts hw
    have e1 := pc_or _ (sq_lt (M := M) (T := T) (R := R) (f := f) hT 6) w (by omega) h2
    have e2 := pc_le _ (bit_or _ (sq_lt (M := M) (T := T) (R := R) (f := f) hT 6) w (by omega)).2
    have e3 := pc_sq (M := M) (T := T) (R := R) (f := f) hT 6 h
    omega
/-- what the walk has laid into the planner's rows, k steps of it -/
def Wk (M : HC) (T R f n : Nat) (X : HC) : Prop := X 0 2 = nI n ∧ X 0 3 = nI (sq M T R f n) ∧ ∀ i, i < n → ¬ nxK M T R f i = 0 ∧ X 1 i = wI (nxK M T R f i) ∧ X 2 i = wI (lsK M T R f i)
theorem walk_c {C : CC} {M : HC} {P F T R : Nat} (h : RelN C M P F T R) {f : Nat} (hf : f < F) : ∃ Y, f_X3_walk (C 8) (C 2) (C 4) (nI f) = some Y ∧ ∃ n, n ≤ 6 ∧ Wk M T R f n Y ∧ nxK M T R f n = 0 := by
  have hT : T ≤ 6 := h.1.1.2.2.1
  unfold f_X3_walk
  simp only [nm]
  exact lp_q (T := Int32 → HC → Option HC) (z := fun _ _ => none) (F := f_X3_walk_b13 (C 2) (C 4) (nI f)) (fun g k (s : HC) => g (nI k) s) 6 (fun k X => ∃ j, j ≤ k ∧ Wk M T R f j X ∧ (j = k ∨ (j + 1 = k ∧ nxK M T R f j = 0))) (fun Y => ∃ n, n ≤ 6 ∧ Wk M T R f n Y ∧ nxK M T R f n = 0) (by
    intro rc k X hi hk
    obtain ⟨j, j1, ⟨x1, x2, x3⟩, j2⟩ := hi
    unfold f_X3_walk_b13
    rw [if_neg (show ¬ (6 : Int32) ≤ nI k from nI_ge (b := 6) hk (by omega)), x1]
    rcases j2 with rfl | ⟨j2, j3⟩
    · left
      rw [if_pos rfl, step_c h hf X (nI (sq M T R f j)) j hk x2 x1, bd_s]
      simp only [nm, nI_1]
      refine ⟨_, rfl, ?_⟩
      cases hw : nxK M T R f j with
      | zero =>
        have hw' : nxN M T R f (nI (sq M T R f j)) = 0 := hw
        refine ⟨j, by omega, ?_, Or.inr ⟨rfl, hw⟩⟩
        rw [hw']
        exact ⟨x1, x2, x3⟩
      | succ w =>
        have hw' : nxN M T R f (nI (sq M T R f j)) = w + 1 := hw
        obtain ⟨g1, g2, g3, g4⟩ := nx_facts hw
        have hlt := sq_lt (M := M) (T := T) (R := R) (f := f) hT j
        refine ⟨j + 1, by omega, ?_, Or.inl rfl⟩
        rw [hw']
        unfold stp9
        rw [if_neg (by omega), wI_s, (bit_or _ hlt w (by omega)).1]
        refine ⟨?_, ?_, fun i hi => ?_⟩
        · rw [sf_at, if_neg (by omega), sf_at, if_pos rfl]
        · rw [sf_at, if_pos rfl, sq_s hw]
        · rw [sf_ne _ _ _ (show 1 ≠ 0 by omega), sf_ne _ _ _ (show 1 ≠ 0 by omega), sf_ne _ _ _ (show 2 ≠ 0 by omega), sf_ne _ _ _ (show 2 ≠ 0 by omega), sa_ne _ _ _ _ (show 1 ≠ 2 by omega), sa_at (by omega), sa_at (by omega), sa_ne _ _ _ _ (show 2 ≠ 1 by omega)]
          by_cases hij : i = j
          · subst hij
            refine ⟨by omega, by rw [if_pos rfl, hw, wI_s], ?_⟩
            rw [if_pos rfl]
            unfold lsK
            rw [hw]
          · rw [if_neg hij, if_neg hij]
            exact x3 i (by omega)
    · right
      rw [if_neg (fun e => by rw [nI_eq (by omega) (by omega)] at e; omega)]
      exact ⟨X, rfl, j, by omega, ⟨x1, x2, x3⟩, j3⟩) (by
    intro rc X hi
    obtain ⟨j, j1, ⟨x1, x2, x3⟩, j2⟩ := hi
    refine ⟨X, ?_, j, j1, ⟨x1, x2, x3⟩, ?_⟩
    · unfold f_X3_walk_b13
      rw [if_pos (show (6 : Int32) ≤ nI 6 from nI_le (a := 6) (b := 6) (by omega) (by omega))]
    · rcases j2 with rfl | ⟨j2, j3⟩
      · exact sq_end hT (fun i hi => (x3 i hi).1)
      · exact j3) FU 6 0 _ ⟨0, Nat.le_refl _, ⟨by rw [sf_at, if_neg (by omega), sf_at, if_pos rfl]; rfl, by rw [sf_at, if_pos rfl]; rfl, fun i hi => by omega⟩, Or.inl rfl⟩ (by omega) (by have := FU_gt; omega)
theorem passable_m {L M : HC} {P F T R : Nat} (hL : RLand L M P F T R) {f n : Nat} (hf : f < F) (hn : n ≤ 6) (h1 : ∀ i, i < n → ¬ nxK M T R f i = 0) (h2 : nxK M T R f n = 0) : f_X7_passable M (nI f) = some (nI (sq M T R f n)) := by
  have hT : T ≤ 6 := hL.1.2.2.1
  unfold f_X7_passable
  rw [show (0 : Int32) = nI (sq M T R f 0) from rfl, nextTask_m hL hf, bd_s]
  obtain ⟨s, rc, -, h⟩ := lp_ex (T := Int32 → Int32 → Option Int32) (z := fun _ _ => none) (F := f_X7_passable_b9 M (nI f)) (fun g k (s : Unit) => g (nI (sq M T R f k)) (wI (nxN M T R f (nI (sq M T R f k))))) n (fun _ _ => True) (by
    intro rc k s _ hk
    refine ⟨(), ?_, trivial⟩
    cases hw : nxK M T R f k with
    | zero => exact absurd hw (h1 k hk)
    | succ w =>
      have hw' : nxN M T R f (nI (sq M T R f k)) = w + 1 := hw
      obtain ⟨g1, g2, g3, g4⟩ := nx_facts hw
      have hlt := sq_lt (M := M) (T := T) (R := R) (f := f) hT k
      unfold f_X7_passable_b9
      rw [hw', if_neg (wI_ne (by omega)), wI_s, (bit_or _ hlt w (by omega)).1, ← sq_s hw]
      simp only [nm]
      rw [nextTask_m hL hf, bd_s]) FU n 0 () trivial (by omega) (by have := FU_gt; omega)
  have h2' : nxN M T R f (nI (sq M T R f n)) = 0 := h2
  rw [show lp (fun _ _ => none : Int32 → Int32 → Option (Int32)) (f_X7_passable_b9 M (nI f)) FU (nI (sq M T R f 0)) (wI (nxN M T R f (nI (sq M T R f 0)))) = f_X7_passable_b9 M (nI f) rc (nI (sq M T R f n)) (wI (nxN M T R f (nI (sq M T R f n)))) from h]
  unfold f_X7_passable_b9
  rw [h2', if_pos wI_0]
theorem v82 (C : CC) (Y : HC) : va_up C 8 Y 2 = C 2 := rfl
theorem v84 (C : CC) (Y : HC) : va_up C 8 Y 4 = C 4 := rfl
theorem v88 (C : CC) (Y : HC) : va_up C 8 Y 8 = Y := rfl
theorem rel_8 {C : CC} {M : HC} (hR : Rel C M) (Y : HC) : Rel (va_up C 8 Y) M := by
  obtain ⟨P, F, T, R, hL, hS, hI0, hI1, hB, hX⟩ := hR
  refine ⟨P, F, T, R, ?_, ?_, ?_, ?_, ?_, ?_⟩
  · rw [va_ne _ _ _ (by omega)]; exact hL
  · rw [va_ne _ _ _ (by omega)]; exact hS
  · rw [va_ne _ _ _ (by omega)]; exact hI0
  · rw [va_ne _ _ _ (by omega)]; exact hI1
  · rw [va_ne _ _ _ (by omega)]; exact hB
  · rw [va_ne _ _ _ (by omega)]; exact hX
theorem op_stops {C : CC} {M : HC} (hR : Rel C M) (p1 : Int32) : ∃ (v : Int32) (C2 : CC), f_X6_stops C p1 = some (v, C2) ∧ f_X7_stops M p1 = some v ∧ Rel C2 M := by
  obtain ⟨P, F, T, R, hN⟩ := id hR
  obtain ⟨hL, hS, -⟩ := id hN
  obtain ⟨⟨hP, hF, hT, hRR⟩, -, -, ⟨l3, m11⟩, -⟩ := id hL
  unfold f_X6_stops f_X7_stops
  rcases isF hL p1 with ⟨f, f1, rfl, f2, f3⟩ | ⟨f2, f3⟩
  · rw [f2, f3, bd_s, bd_s, if_neg one_ne0, if_neg one_ne0]
    obtain ⟨Y, y1, n, n1, ⟨y2, y3, y4⟩, n2⟩ := walk_c hN f1
    have i5 : inb (nI f) 5 := inb_nI (by omega) (by omega)
    have c5 : (nI f).toNatClampNeg = f := nI_clamp (by omega)
    have i35 : inb (nI (35 + f)) 141 := inb_nI (by omega) (by omega)
    have c35 : (nI (35 + f)).toNatClampNeg = 35 + f := nI_clamp (by omega)
    have e35 : (35 : Int32) + nI f = nI (35 + f) := nl 35 f
    rw [y1, bd_s, passable_m hL f1 n1 (fun i hi => (y4 i hi).1) n2, bd_s]
    simp only [nm, v82, v84, v88, y3, if_pos i5, c5, dn_eq hS f1, e35, if_pos i35, c35]
    generalize nI (sq M T R f n) ||| M 1 (35 + f) = V
    have hC := lp_fd (T := Int32 → Option (Int32 × CC)) (z := fun _ => none) (F := f_X6_stops_b47 (va_up C 8 Y) V) (fun g k => g (nI k)) T (fun t => !decide (hb V (nI t))) (fun w => some (wI w, va_up C 8 Y)) (by
      intro rc k hk
      unfold f_X6_stops_b47
      rw [v82, l3, if_neg (nI_ge hk (by omega)), has_c, bd_s, wI_s]
      simp only [nm, nI_1]
      by_cases h1 : hb V (nI k)
      · rw [if_pos h1, if_neg one_ne0, decide_eq_true h1, if_neg (by decide)]
      · rw [if_neg h1, if_pos z_z, decide_eq_false h1, if_pos (by decide)]) (by
      intro rc
      unfold f_X6_stops_b47
      rw [v82, l3, if_pos (nI_le (Nat.le_refl _) (by omega)), wI_0]) FU T 0 (by omega) (by have := FU_gt; omega)
    have hM := lp_fd (T := Int32 → Option Int32) (z := fun _ => none) (F := f_X7_stops_b29 M V) (fun g k => g (nI k)) T (fun t => !decide (hb V (nI t))) (fun w => some (wI w)) (by
      intro rc k hk
      unfold f_X7_stops_b29
      rw [m11, if_neg (nI_ge hk (by omega)), has_m, bd_s, wI_s]
      simp only [nm, nI_1]
      by_cases h1 : hb V (nI k)
      · rw [if_pos h1, if_neg one_ne0, decide_eq_true h1, if_neg (by decide)]
      · rw [if_neg h1, if_pos z_z, decide_eq_false h1, if_pos (by decide)]) (by
      intro rc
      unfold f_X7_stops_b29
      rw [m11, if_pos (nI_le (Nat.le_refl _) (by omega)), wI_0]) FU T 0 (by omega) (by have := FU_gt; omega)
    exact ⟨_, _, hC, hM, rel_8 hR Y⟩
  · rw [f2, f3]; exact ⟨_, _, rfl, rfl, hR⟩
/-! ===== pure: what a plan is worth ===== -/
def sN (g : Nat → Nat) (b T : Nat) : Nat := itf (fun t s => if hb (nI b) (nI t) then s + g t else s) 0 T 0
theorem sN_s (g : Nat → Nat) (b k : Nat) : sN g b (k + 1) = if hb (nI b) (nI k) then sN g b k + g k else sN g b k := by
  unfold sN
  rw [itf_snoc, Nat.zero_add]
theorem sumS_sN {g : Nat → Int32} (gN : Nat → Nat) {T b : Nat} (h : ∀ t, t < T → g t = nI (gN t) ∧ gN t ≤ 99) : ∀ k, k ≤ T → sumS g (nI b) k = nI (sN gN b k) ∧ sN gN b k ≤ 99 * k := by
  intro k
  induction k with
  | zero => intro _; exact ⟨rfl, Nat.le_refl _⟩
  | succ k ih =>
    intro hk
    obtain ⟨i1, i2⟩ := ih (by omega)
    obtain ⟨h1, h2⟩ := h k (by omega)
    rw [sN_s]
    unfold sumS at i1 ⊢
    rw [itf_snoc, i1, Nat.zero_add]
    by_cases hh : hb (nI b) (nI k)
    · rw [if_pos hh, if_pos hh, h1, nI_add]; exact ⟨rfl, by omega⟩
    · rw [if_neg hh, if_neg hh]; exact ⟨rfl, by omega⟩
theorem sN_or (g : Nat → Nat) {b w : Nat} (hb64 : b < 64) (hw : w < 6) (hn : ¬ hb (nI b) (nI w)) : ∀ k, k ≤ 6 → sN g (b ||| (1 <<< w)) k = sN g b k + if w < k then g w else 0 := by
  intro k
  induction k with
  | zero => intro _; rfl
  | succ k ih =>
    intro hk
    have hbh := bit_hb b hb64 w hw k (by omega)
    rw [sN_s, sN_s, ih (by omega)]
    by_cases hkw : k = w
    · subst hkw
      rw [if_pos (hbh.mpr (Or.inr rfl)), if_neg hn, if_neg (by omega), if_pos (by omega)]
      omega
    · by_cases hh : hb (nI b) (nI k)
      · rw [if_pos (hbh.mpr (Or.inl hh)), if_pos hh]
        by_cases hlt : w < k
        · rw [if_pos hlt, if_pos (by omega)]; omega
        · rw [if_neg hlt, if_neg (by omega)]; omega
      · rw [if_neg (fun z => (hbh.mp z).elim hh hkw), if_neg hh]
        by_cases hlt : w < k
        · rw [if_pos hlt, if_pos (by omega)]
        · rw [if_neg hlt, if_neg (by omega)]
def woN (M : HC) (t : Nat) : Nat := (M 7 (4 * t + 2)).toNatClampNeg
theorem wo_n {L M : HC} {P F T R t : Nat} (hL : RLand L M P F T R) (ht : t < T) : M 7 (4 * t + 2) = nI (woN M t) ∧ woN M t ≤ 99 := by
  obtain ⟨a, a1, a2⟩ := wo_bd hL ht
  have : woN M t = a := by
    unfold woN
    rw [a2, nI_clamp (by omega)]
  rw [this]; exact ⟨a2, a1⟩
theorem worth_n {L M : HC} {P F T R : Nat} (hL : RLand L M P F T R) (b : Nat) : f_X2_worthOf L (nI b) = some (nI (sN (woN M) b T)) ∧ f_X7_worthOf M (nI b) = some (nI (sN (woN M) b T)) ∧ sN (woN M) b T ≤ 600 := by
  have hT : T ≤ 6 := hL.1.2.2.1
  obtain ⟨h1, h2⟩ := worth_cm hL (nI b)
  obtain ⟨h3, h4⟩ := sumS_sN (g := fun t => M 7 (4 * t + 2)) (woN M) (T := T) (b := b) (fun t ht => wo_n hL ht) T (Nat.le_refl _)
  rw [h1, h2, h3]
  exact ⟨rfl, rfl, by omega⟩
def wK (M : HC) (T R f k : Nat) : Nat := sN (woN M) (sq M T R f k) T
theorem wK_s {L M : HC} {P F T R : Nat} (hL : RLand L M P F T R) {f k w : Nat} (h : nxK M T R f k = w + 1) : wK M T R f (k + 1) = wK M T R f k + woN M w := by
  have hT : T ≤ 6 := hL.1.2.2.1
  obtain ⟨g1, g2, g3, g4⟩ := nx_facts h
  unfold wK
  rw [sq_s h, sN_or (woN M) (sq_lt hT k) (by omega) g2 T hT, if_pos g1]
theorem wK_mono {L M : HC} {P F T R : Nat} (hL : RLand L M P F T R) {f n : Nat} (h1 : ∀ i, i < n → ¬ nxK M T R f i = 0) : ∀ d k, k + d ≤ n → wK M T R f k ≤ wK M T R f (k + d) := by
  intro d
  induction d with
  | zero => intro k _; exact Nat.le_refl _
  | succ d ih =>
    intro k hk
    have := ih k (by omega)
    cases hw : nxK M T R f (k + d) with
    | zero => exact absurd hw (h1 _ (by omega))
    | succ w =>
      have e := wK_s hL hw
      rw [show k + (d + 1) = k + d + 1 by omega]
      omega
theorem wK_flat {L M : HC} {P F T R : Nat} (hL : RLand L M P F T R) {f n len : Nat} (h1 : ∀ i, i < n → ¬ nxK M T R f i = 0) (h2 : ∀ i, len ≤ i → i < n → woN M (nxK M T R f i - 1) = 0) : ∀ d, len + d ≤ n → wK M T R f (len + d) = wK M T R f len := by
  intro d
  induction d with
  | zero => intro _; rfl
  | succ d ih =>
    intro hk
    have := ih (by omega)
    cases hw : nxK M T R f (len + d) with
    | zero => exact absurd hw (h1 _ (by omega))
    | succ w =>
      have e := wK_s hL hw
      have e2 := h2 (len + d) (by omega) (by omega)
      rw [hw, show w + 1 - 1 = w by omega] at e2
      rw [show len + (d + 1) = len + d + 1 by omega]
      omega
theorem length_c {L M Y : HC} {P F T R : Nat} (hL : RLand L M P F T R) {f n : Nat} (hn : n ≤ 6) (hW : Wk M T R f n Y) : ∃ r, f_X3_lengthOfPlan Y L = some r ∧ ∃ len, len ≤ n ∧ r = nI len ∧ (∀ i, len ≤ i → i < n → woN M (nxK M T R f i - 1) = 0) ∧ (∀ l, len = l + 1 → 0 < woN M (nxK M T R f l - 1)) := by
  have hT : T ≤ 6 := hL.1.2.2.1
  obtain ⟨y2, y3, y4⟩ := hW
  unfold f_X3_lengthOfPlan
  rw [y2]
  simp only [nm]
  exact lp_q (T := Int32 → Option Int32) (z := fun _ => none) (F := f_X3_lengthOfPlan_b5 Y L) (fun g k (_ : Unit) => g (nI (n - k))) n (fun k _ => ∀ i, n - k ≤ i → i < n → woN M (nxK M T R f i - 1) = 0) (fun r => ∃ len, len ≤ n ∧ r = nI len ∧ (∀ i, len ≤ i → i < n → woN M (nxK M T R f i - 1) = 0) ∧ (∀ l, len = l + 1 → 0 < woN M (nxK M T R f l - 1))) (by
    intro rc k s hi hk
    obtain ⟨m, hm⟩ : ∃ m, n - k = m + 1 := ⟨n - k - 1, by omega⟩
    rw [hm] at hi
    obtain ⟨z1, z2, z3⟩ := y4 m (by omega)
    cases hw : nxK M T R f m with
    | zero => exact absurd hw z1
    | succ w =>
      obtain ⟨g1, g2, g3, g4⟩ := nx_facts hw
      rw [hw, wI_s] at z2
      obtain ⟨o1, o2⟩ := wo_n hL g1
      have im : inb (nI m) 6 := inb_nI (by omega) (by omega)
      have cm : (nI m).toNatClampNeg = m := nI_clamp (by omega)
      have iw : inb (nI w) 6 := inb_nI (by omega) (by omega)
      have cw : (nI w).toNatClampNeg = w := nI_clamp (by omega)
      have e1 : nI (m + 1) + (-1 : Int32) = nI m := by rw [← nI_pred m, Int32.sub_eq_add_neg]
      unfold f_X3_lengthOfPlan_b5
      rw [hm, if_neg (nI_nle (by omega) (by omega)), nI_pred]
      simp only [if_pos im, cm, z2, if_pos iw, cw, wo_eq hL g1, o1, nm, e1]
      by_cases h0 : woN M w = 0
      · left
        refine ⟨(), ?_, fun i hi2 hi3 => ?_⟩
        · rw [h0, if_pos (show nI 0 ≤ (0 : Int32) from nI_le (a := 0) (b := 0) (by omega) (by omega)), show n - (k + 1) = m by omega]
        · by_cases him : i = m
          · subst him
            rw [hw]; exact h0
          · exact hi i (by omega) hi3
      · right
        refine ⟨_, by rw [if_neg (nI_nle (by omega) (by omega))], m + 1, by omega, rfl, hi, fun l hl => ?_⟩
        rw [show l = m by omega, hw]
        show 0 < woN M w
        omega) (by
    intro rc s hi
    refine ⟨0, ?_, 0, Nat.zero_le _, rfl, fun i hi1 hi2 => hi i (by omega) hi2, fun l hl => by omega⟩
    unfold f_X3_lengthOfPlan_b5
    rw [Nat.sub_self, if_pos (show nI 0 ≤ (0 : Int32) from nI_le (a := 0) (b := 0) (by omega) (by omega))]) FU n 0 () (fun i hi1 hi2 => by omega) (by omega) (by have := FU_gt; omega)
theorem op_plan {C : CC} {M : HC} (hR : Rel C M) (p1 p2 p3 : Int32) : ∃ (v : Int32) (C2 : CC), f_X6_plan C p1 p2 p3 = some (v, C2) ∧ f_X7_plan M p1 p2 p3 = some v ∧ Rel C2 M := by
  obtain ⟨P, F, T, R, hN⟩ := id hR
  obtain ⟨hL, hS, -⟩ := id hN
  obtain ⟨⟨hP, hF, hT, hRR⟩, -, -, ⟨l3, m11⟩, -⟩ := id hL
  have tm : (-1 : Int32).toInt = -1 := by decide
  unfold f_X6_plan f_X7_plan
  rcases isF hL p1 with ⟨f, f1, rfl, f2, f3⟩ | ⟨f2, f3⟩
  · rw [f2, f3, bd_s, bd_s, if_neg one_ne0, if_neg one_ne0, bnd_c, t0, t1]
    rcases in_lit p3 1 (1 : Int64) (by decide) (by omega) with ⟨q, q1, rfl, q2⟩ | ⟨q1, q2⟩
    · rw [q2, bd_s, if_neg one_ne0, if_pos (by rw [nI_toInt (by omega)]; omega)]
      obtain ⟨Y, y1, n, n1, hW, n2⟩ := walk_c hN f1
      obtain ⟨y2, y3, y4⟩ := id hW
      have h1 : ∀ i, i < n → ¬ nxK M T R f i = 0 := fun i hi => (y4 i hi).1
      rw [y1, bd_s, passable_m hL f1 n1 h1 n2, bd_s, (worth_n hL (sq M T R f n)).2.1, bd_s]
      simp only [nm, v82, v88, y3, (worth_n hL (sq M T R f n)).1, bd_s]
      by_cases hm1 : p2 = -1
      · rw [if_pos hm1, if_neg (by rw [i_lt, hm1]; omega), if_pos hm1]
        exact ⟨_, _, rfl, rfl, rel_8 hR Y⟩
      · rw [if_neg hm1]
        by_cases hneg : p2 < 0
        · have hneg2 : ¬ (-1 : Int32) < p2 := by
            rw [i_lt, tm]
            rw [i_lt, t0] at hneg
            omega
          rw [if_pos hneg, if_neg hneg2, if_neg hm1]
          exact ⟨_, _, rfl, rfl, rel_8 hR Y⟩
        · have hpos : (-1 : Int32) < p2 := by
            rw [i_lt, tm]
            rw [i_lt, t0] at hneg
            omega
          obtain ⟨i, hi, rfl⟩ := nI_of hneg
          rw [if_neg hneg, if_pos hpos]
          obtain ⟨r, r1, len, r2, rfl, r3, r4⟩ := length_c hL n1 hW
          rw [r1, bd_s]
          have hmost : wK M T R f n = wK M T R f len := by
            have := wK_flat hL h1 r3 (n - len) (by omega)
            rwa [show len + (n - len) = n by omega] at this
          obtain ⟨x, x1, x2⟩ := lp_q (T := Int32 → Int32 → Option Int32) (z := fun _ _ => none) (F := f_X7_plan_b58 M (nI f) (nI i) (nI q) (nI (sN (woN M) (sq M T R f n) T))) (fun g k (_ : Unit) => g (nI (sq M T R f k)) (nI k)) len (fun k _ => k ≤ i) (fun r => r = if i < len then (if nI q = 0 then wI (nxK M T R f i) else wI (lsK M T R f i)) else -1) (by
            intro rc k s hki hk
            cases hw : nxK M T R f k with
            | zero => exact absurd hw (h1 k (by omega))
            | succ w =>
              have hw' : nxN M T R f (nI (sq M T R f k)) = w + 1 := hw
              obtain ⟨g1, g2, g3, g4⟩ := nx_facts hw
              have hlt := sq_lt (M := M) (T := T) (R := R) (f := f) hT k
              have hless : wK M T R f k < wK M T R f n := by
                rw [hmost]
                have m1 := wK_mono hL h1 (len - 1 - k) k (by omega)
                rw [show k + (len - 1 - k) = len - 1 by omega] at m1
                cases hw2 : nxK M T R f (len - 1) with
                | zero => exact absurd hw2 (h1 _ (by omega))
                | succ w2 =>
                  have e := wK_s hL hw2
                  have e2 := r4 (len - 1) (by omega)
                  rw [hw2, show w2 + 1 - 1 = w2 by omega] at e2
                  rw [show len - 1 + 1 = len by omega] at e
                  omega
              have hlen : ¬ nI (sN (woN M) (sq M T R f n) T) ≤ nI (sN (woN M) (sq M T R f k) T) := nI_ge hless (by have := (worth_n hL (sq M T R f n)).2.2; omega)
              unfold f_X7_plan_b58
              rw [(worth_n hL (sq M T R f k)).2.1, bd_s, if_neg hlen, nextTask_m hL f1, bd_s, hw', wI_s]
              by_cases hki2 : k = i
              · right
                subst hki2
                rw [if_pos rfl]
                by_cases hq : nI q = 0
                · rw [if_pos hq, if_pos (by omega), if_pos hq, hw, wI_s]
                  exact ⟨_, rfl, rfl⟩
                · rw [if_neg hq, if_pos (by omega), if_neg hq, leastTricks_m hL f1 g1, bd_s]
                  refine ⟨_, rfl, ?_⟩
                  unfold lsK
                  rw [hw]
                  rfl
              · left
                refine ⟨(), ?_, by omega⟩
                rw [if_neg (fun e => by rw [nI_eq (by omega) (by omega)] at e; exact hki2 e), (bit_or _ hlt w (by omega)).1, ← sq_s hw]
                simp only [nm, nI_1]) (by
            intro rc s hki
            refine ⟨-1, ?_, by rw [if_neg (by omega)]⟩
            unfold f_X7_plan_b58
            have hle : nI (sN (woN M) (sq M T R f n) T) ≤ nI (sN (woN M) (sq M T R f len) T) := nI_le (Nat.le_of_eq hmost) (by have := (worth_n hL (sq M T R f len)).2.2; omega)
            rw [(worth_n hL (sq M T R f len)).2.1, bd_s, if_pos hle]) FU len 0 () (Nat.zero_le _) (by omega) (by have := FU_gt; omega)
          refine ⟨x, va_up C 8 Y, ?_, x1, rel_8 hR Y⟩
          rw [x2]
          by_cases hil : i < len
          · rw [if_pos (nI_lt hil (by omega)), if_pos hil, if_pos (inb_nI (by omega) (by omega)), if_pos (inb_nI (by omega) (by omega)), nI_clamp hi, (y4 i (by omega)).2.1, (y4 i (by omega)).2.2]
            split <;> rfl
          · rw [if_neg (nI_nlt (by omega) hi), if_neg hil]
    · rw [q2, bd_s, if_pos z_z, if_neg (by exact q1)]; exact ⟨_, _, rfl, rfl, hR⟩
  · rw [f2, f3]; exact ⟨_, _, rfl, rfl, hR⟩
