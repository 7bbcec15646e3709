/-! ===== pure: a rumour goes about ===== -/
theorem itf_snoc {σ : Type} (stp : Nat → σ → σ) : ∀ (n k : Nat) (s : σ), itf stp k (n + 1) s = stp (k + n) (itf stp k n s) := by
  intro n
  induction n with
  | zero => intro k s; rfl
  | succ n ih =>
    intro k s
    show itf stp (k + 1) (n + 1) (stp k s) = _
    rw [ih (k + 1) (stp k s), show k + 1 + n = k + (n + 1) by omega]
    rfl
/-- what all people think of one fighter is new -/
theorem rel_th {C C2 : CC} {M M2 : HC} {P F T R f : Nat} (h : RelN C M P F T R) (hf : f < F) (mo : Nat → Int32) (hmo : ∀ j, j < P → ∃ a, a ≤ 99 ∧ mo j = nI a)
    (c1 : ∀ c, c ≠ 0 → c ≠ 4 → C2 c = C c) (c2 : ∀ j, j ≠ 4 → C2 4 j = C 4 j) (c3 : ∀ j, j < P → C2 4 4 (j * 5 + f) = mo j) (c4 : ∀ i, (∀ j, j < P → i ≠ j * 5 + f) → C2 4 4 i = C 4 4 i)
    (m1 : ∀ j, j ≠ 1 → j ≠ 16 → M2 j = M j) (m3 : ∀ j, j < P → M2 1 (5 + 5 * j + f) = mo j) (m4 : ∀ i, (∀ j, j < P → i ≠ 5 + 5 * j + f) → M2 1 i = M 1 i) : RelN C2 M2 P F T R := by
  obtain ⟨hL, hS, hI0, hI1, hB, hX⟩ := h
  have hb := hL.1
  have hF := hb.2.1
  obtain ⟨s1, s2, s3, s4, s5⟩ := hS
  refine ⟨?_, ⟨fun g hg => ?_, fun k hk => ?_, ?_, ?_, ?_⟩, ?_, ?_, ?_, ?_⟩
  · rw [c1 2 (by omega) (by omega)]
    exact RLand_M hL (by rw [m1 0 (by omega) (by omega)]) (by rw [m1 0 (by omega) (by omega)]) (by rw [m1 0 (by omega) (by omega)]) (by rw [m1 0 (by omega) (by omega)]) (by rw [m1 0 (by omega) (by omega)]) (m1 4 (by omega) (by omega)) (m1 5 (by omega) (by omega)) (m1 6 (by omega) (by omega)) (m1 7 (by omega) (by omega)) (m1 8 (by omega) (by omega))
  · rw [c2 1 (by omega), c2 2 (by omega), c2 3 (by omega), m4 (0 + g) (fun j hj => by omega), m4 (0 + 35 + g) (fun j hj => by omega), m4 (0 + 40 + g) (fun j hj => by omega)]
    exact s1 g hg
  · by_cases hk2 : ∃ j, j < P ∧ k = j * 5 + f
    · obtain ⟨j, hj, rfl⟩ := hk2
      rw [c3 j hj, show 0 + 5 + (j * 5 + f) = 5 + 5 * j + f by omega, m3 j hj]
      exact ⟨rfl, hmo j hj⟩
    · rw [c4 k (fun j hj e => hk2 ⟨j, hj, e⟩), m4 (0 + 5 + k) (fun j hj e => hk2 ⟨j, hj, by omega⟩)]
      exact s2 k hk
  · rw [c2 0 (by omega), m4 (0 + 45) (fun j hj => by omega)]; exact s3
  · rw [c2 0 (by omega), m4 (0 + 46) (fun j hj => by omega)]; exact s4
  · rw [m4 (0 + 46) (fun j hj => by omega)]; exact s5
  · rw [c1 5 (by omega) (by omega)]; exact RImg_M hF hI0 (by rw [m1 2 (by omega) (by omega)]) (fun i a b => m4 i (fun j hj => by omega))
  · rw [c1 6 (by omega) (by omega)]; exact RImg_M hF hI1 (by rw [m1 2 (by omega) (by omega)]) (fun i a b => m4 i (fun j hj => by omega))
  · rw [c1 7 (by omega) (by omega)]
    unfold RBook
    rw [m1 0 (by omega) (by omega), m1 9 (by omega) (by omega)]
    exact hB
  · rw [c1 1 (by omega) (by omega)]
    unfold RText
    rw [m1 0 (by omega) (by omega), m1 3 (by omega) (by omega)]
    exact hX
def moStp (th : Nat → Int32) (ch : Int32) : Nat → Int32 → Int32 := fun q s => if hb ch (nI q) then (if s < th q then th q else s) else s
def moS (th : Nat → Int32) (ch : Int32) (P p : Nat) : Int32 := itf (moStp th ch) 0 P (th p)
theorem moS_bd {th : Nat → Int32} {ch : Int32} {P p : Nat} (hp : p < P) (h : ∀ q, q < P → ∃ a, a ≤ 99 ∧ th q = nI a) : ∃ a b, a ≤ 99 ∧ b ≤ a ∧ moS th ch P p = nI a ∧ th p = nI b := by
  obtain ⟨b, hb1, hb2⟩ := h p hp
  have key : ∃ a, a ≤ 99 ∧ b ≤ a ∧ itf (moStp th ch) 0 P (th p) = nI a := by
    have := itf_inv (stp := moStp th ch) (fun _ (s : Int32) => ∃ a, a ≤ 99 ∧ b ≤ a ∧ s = nI a) P 0 (th p) ⟨b, hb1, Nat.le_refl _, hb2⟩ (fun j s h1 h2 hs => by
      obtain ⟨a, a1, a2, rfl⟩ := hs
      obtain ⟨c, c1, c2⟩ := h j (by omega)
      unfold moStp
      rw [c2]
      by_cases hh : hb ch (nI j)
      · rw [if_pos hh]
        by_cases hl : a < c
        · rw [if_pos (nI_lt hl (by omega))]; exact ⟨c, c1, by omega, rfl⟩
        · rw [if_neg (nI_nlt (by omega) (by omega))]; exact ⟨a, a1, a2, rfl⟩
      · rw [if_neg hh]; exact ⟨a, a1, a2, rfl⟩)
    exact this
  obtain ⟨a, a1, a2, a3⟩ := key
  exact ⟨a, b, a1, a2, a3, hb2⟩
theorem moS_congr {th th' : Nat → Int32} {ch : Int32} {P p : Nat} (hp : p < P) (h : ∀ q, q < P → th q = th' q) : moS th ch P p = moS th' ch P p := by
  unfold moS
  rw [h p hp]
  refine itf_congr _ _ _ fun q s _ hq => ?_
  unfold moStp
  rw [h q (by omega)]
theorem most_c {C : CC} {P p f : Nat} (hP : P ≤ 6) (l0 : C 2 0 0 = nI P) (hp : p < P) (hf : f < 5) : f_X6_mostAround C (nI p) (nI f) = some (moS (fun q => C 4 4 (q * 5 + f)) (C 2 4 p) P p) := by
  unfold f_X6_mostAround
  rw [slot_c]
  simp only [bd, nm]
  rw [if_pos (inb_nI (by omega) (by omega)), nI_clamp (by omega)]
  refine lp_for (T := Int32 → Int32 → Option Int32) (fun g k s => g s (nI k)) P _ some ?_ ?_ FU P 0 _ (by omega) (by have := FU_gt; omega)
  · intro rc k s hk
    unfold f_X6_mostAround_b17 f_X6_mostAround_j65 moStp
    rw [l0, if_neg (nI_ge hk (by omega)), if_pos (inb_nI (by omega) (by omega)), nI_clamp (by omega), has_c, slot_c]
    simp only [bd, nm]
    by_cases h : hb (C 2 4 p) (nI k)
    · rw [if_pos h, if_neg one_ne0, if_pos (inb_nI (by omega) (by omega)), nI_clamp (by omega), nI_1, if_pos h]
    · rw [if_neg h, if_pos rfl, nI_1, if_neg h]
  · intro rc s
    unfold f_X6_mostAround_b17
    rw [l0, if_pos (nI_le (Nat.le_refl _) (by omega))]
def cntStp (th mo : Nat → Int32) : Nat → Int32 → Int32 := fun p n => if mo p ≤ th p then n else n + 1
theorem spread_c {C : CC} {P f : Nat} (hP : P ≤ 6) (l0 : C 2 0 0 = nI P) (hf : f < 5) (th mo : Nat → Int32) (hth : th = fun q => C 4 4 (q * 5 + f)) (hmo : mo = fun p => moS th (C 2 4 p) P p) (hge : ∀ p, p < P → mo p ≤ th p → mo p = th p) :
    ∃ C2, f_X6_spread C (nI f) = some (itf (cntStp th mo) 0 P 0, C2) ∧ (∀ c, c ≠ 0 → c ≠ 4 → C2 c = C c) ∧ (∀ j, j ≠ 4 → C2 4 j = C 4 j) ∧ (∀ j, j < P → C2 4 4 (j * 5 + f) = mo j) ∧ (∀ i, (∀ j, j < P → i ≠ j * 5 + f) → C2 4 4 i = C 4 4 i) := by
  unfold f_X6_spread
  obtain ⟨X, rc, ⟨i1, i2⟩, h⟩ := lp_ex (T := Int32 → CC → Option (Int32 × CC)) (z := fun _ _ => none) (F := f_X6_spread_b2 (nI f)) (fun g k (s : CC) => g (nI k) s) P (fun k X => (∀ c, c ≠ 0 → X c = C c) ∧ (∀ j, j < k → X 0 1 j = mo j)) (by
    intro rc k X hi hk
    refine ⟨va_up X 0 (sa (X 0) 1 (nI k) (mo k)), ?_, fun c hc => ?_, fun j hj => ?_⟩
    · unfold f_X6_spread_b2
      rw [hi.1 2 (by omega), l0, if_neg (nI_ge hk (by omega)), most_c (C := X) hP (by rw [hi.1 2 (by omega)]; exact l0) hk hf, hi.1 2 (by omega), hi.1 4 (by omega)]
      simp only [bd, nm]
      rw [if_pos (inb_nI (by omega) (by omega)), nI_1, hmo, hth]
    · rw [va_ne _ _ _ hc]; exact hi.1 c hc
    · rw [va_eq, sa_at (by omega)]
      by_cases hjk : j = k
      · rw [if_pos hjk, hjk]
      · rw [if_neg hjk]; exact hi.2 j (by omega)) FU P 0 C ⟨fun _ _ => rfl, fun j hj => by omega⟩ (by omega) (by have := FU_gt; omega)
  rw [show lp (fun _ _ => none : Int32 → CC → Option (Int32 × CC)) (f_X6_spread_b2 (nI f)) FU 0 C = f_X6_spread_b2 (nI f) rc (nI P) X from h]
  unfold f_X6_spread_b2
  rw [i1 2 (by omega), l0, if_pos (nI_le (Nat.le_refl _) (by omega))]
  obtain ⟨⟨n, Y⟩, rc2, ⟨j0, j1, j2, j3, j4, j5⟩, h2⟩ := lp_ex (T := Int32 → Int32 → CC → Option (Int32 × CC)) (z := fun _ _ _ => none) (F := f_X6_spread_b35 (nI f)) (fun g k (s : Int32 × CC) => g s.1 (nI k) s.2) P (fun k s => s.1 = itf (cntStp th mo) 0 k 0 ∧ (∀ c, c ≠ 0 → c ≠ 4 → s.2 c = C c) ∧ (∀ j, j ≠ 4 → s.2 4 j = C 4 j) ∧ (∀ j, j < P → s.2 0 1 j = mo j) ∧ (∀ j, j < k → s.2 4 4 (j * 5 + f) = mo j) ∧ (∀ i, (∀ j, j < k → i ≠ j * 5 + f) → s.2 4 4 i = C 4 4 i)) (by
    intro rc k s hi hk
    obtain ⟨n, X⟩ := s
    obtain ⟨a0, a1, a2, a3, a4, a5⟩ := hi
    dsimp only at a0 a1 a2 a3 a4 a5
    have et : X 4 4 (k * 5 + f) = th k := by rw [a5 _ (fun j hj => by omega), hth]
    have hstart : f_X6_spread_b35 (nI f) rc n (nI k) X = if mo k ≤ th k then rc n (nI (k + 1)) X else rc (n + 1) (nI (k + 1)) (va_up X 4 (sa (X 4) 4 (nI (k * 5 + f)) (mo k))) := by
      unfold f_X6_spread_b35 f_X6_spread_j91
      rw [a1 2 (by omega) (by omega), l0, if_neg (nI_ge hk (by omega)), slot_c]
      simp only [bd, nm, if_pos (inb_nI (k := k) (n := 6) (by omega) (by omega)), if_pos (inb_nI (k := k * 5 + f) (n := 30) (by omega) (by omega)), nI_clamp (show k < 2 ^ 31 by omega), nI_clamp (show k * 5 + f < 2 ^ 31 by omega), a3 k hk, et, nI_1]
    by_cases hc : mo k ≤ th k
    · refine ⟨(n, X), by dsimp only; rw [hstart, if_pos hc], ?_, a1, a2, a3, fun j hj => ?_, fun i hi => a5 i (fun j hj => hi j (by omega))⟩
      · rw [itf_snoc, ← a0]; unfold cntStp; rw [if_pos (by rw [Nat.zero_add]; exact hc)]
      · by_cases hjk : j = k
        · subst hjk; dsimp only; rw [et]; exact (hge j hk hc).symm
        · exact a4 j (by omega)
    · refine ⟨(n + 1, va_up X 4 (sa (X 4) 4 (nI (k * 5 + f)) (mo k))), by dsimp only; rw [hstart, if_neg hc], ?_, fun c c0 c4 => ?_, fun j hj => ?_, fun j hj => ?_, fun j hj => ?_, fun i hi => ?_⟩
      · rw [itf_snoc, ← a0]; unfold cntStp; rw [if_neg (by rw [Nat.zero_add]; exact hc)]
      · dsimp only; rw [va_ne _ _ _ c4]; exact a1 c c0 c4
      · dsimp only; rw [va_eq, sa_ne _ _ _ _ hj]; exact a2 j hj
      · dsimp only; rw [va_ne _ _ _ (by omega)]; exact a3 j hj
      · dsimp only; rw [va_eq, sa_at (by omega)]
        by_cases hjk : j = k
        · rw [if_pos (by omega), hjk]
        · rw [if_neg (by omega)]; exact a4 j (by omega)
      · dsimp only; rw [va_eq, sa_at (by omega), if_neg (hi k (by omega))]; exact a5 i (fun j hj => hi j (by omega))) FU P 0 (0, X) ⟨rfl, fun c c0 _ => i1 c c0, fun j _ => by dsimp only; rw [i1 4 (by omega)], i2, fun j hj => by omega, fun i _ => by dsimp only; rw [i1 4 (by omega)]⟩ (by omega) (by have := FU_gt; omega)
  rw [show lp (fun _ _ _ => none : Int32 → Int32 → CC → Option (Int32 × CC)) (f_X6_spread_b35 (nI f)) FU 0 0 X = f_X6_spread_b35 (nI f) rc2 n (nI P) Y from h2]
  dsimp only at j0 j1 j2 j3 j4 j5
  unfold f_X6_spread_b35
  rw [j1 2 (by omega) (by omega), l0, if_pos (nI_le (Nat.le_refl _) (by omega)), j0]
  exact ⟨Y, rfl, j1, j2, j4, j5⟩
theorem rumour_in {M X : HC} {P f p : Nat} (hP : P ≤ 6) (l0 : M 0 5 = nI P) (hf : f < 5) (hp : p < P) (hX : ∀ j, j ≠ 16 → X j = M j) (th : Nat → Int32) (hth : th = fun q => M 1 (5 + 5 * q + f)) (h0 : X 16 p = th p) (rc4 : Int32 → Int32 → HC → Option (Int32 × HC)) (n : Int32) :
    ∃ Y, lp (fun _ _ => none : Int32 → HC → Option (Int32 × HC)) (f_X7_doRumour_b27 (nI f) rc4 n (nI p)) FU 0 X = rc4 (cntStp th (fun p => moS th (M 6 p) P p) p n) (nI (p + 1)) Y ∧ (∀ j, j ≠ 16 → Y j = M j) ∧ Y 16 p = moS th (M 6 p) P p ∧ (∀ i, i ≠ p → Y 16 i = X 16 i) := by
  obtain ⟨Y, rc, ⟨i1, i2, i3⟩, h⟩ := lp_ex (T := Int32 → HC → Option (Int32 × HC)) (z := fun _ _ => none) (F := f_X7_doRumour_b27 (nI f) rc4 n (nI p)) (fun g k (s : HC) => g (nI k) s) P (fun k Y => (∀ j, j ≠ 16 → Y j = M j) ∧ Y 16 p = itf (moStp th (M 6 p)) 0 k (th p) ∧ (∀ i, i ≠ p → Y 16 i = X 16 i)) (by
    intro rc k Y hi hk
    obtain ⟨a1, a2, a3⟩ := hi
    have i6 : inb (nI p) 6 := inb_nI (by omega) (by omega)
    have cp : (nI p).toNatClampNeg = p := nI_clamp (by omega)
    have et : f_X7_thought Y (nI k) (nI f) = some (th k) := by rw [thought_m (by omega) hf, a1 1 (by omega), hth]
    have es : f_X7_doRumour_b27 (nI f) rc4 n (nI p) rc (nI k) Y = rc (nI (k + 1)) (sa Y 16 (nI p) (moStp th (M 6 p) k (Y 16 p))) := by
      unfold f_X7_doRumour_b27 f_X7_doRumour_j81 f_X7_doRumour_j87 moStp
      rw [a1 0 (by omega), l0, if_neg (nI_ge hk (by omega)), a1 6 (by omega), has_m]
      simp only [bd, nm, if_pos i6, cp, et, nI_1]
      by_cases hh : hb (M 6 p) (nI k)
      · simp only [if_pos hh, if_neg one_ne0]
        by_cases hl : Y 16 p < th k
        · rw [if_neg (by rw [i_lt] at hl; rw [i_le]; omega), if_pos hl]
        · rw [if_pos (by rw [i_lt] at hl; rw [i_le]; omega), if_neg hl]
      · simp only [if_neg hh, if_pos]
    refine ⟨_, es, fun j hj => by rw [sa_ne _ _ _ _ hj]; exact a1 j hj, ?_, fun i hi => by rw [sa_at (by omega), if_neg hi]; exact a3 i hi⟩
    rw [sa_at (by omega), if_pos rfl, itf_snoc, ← a2, Nat.zero_add]) FU P 0 X ⟨hX, h0, fun _ _ => rfl⟩ (by omega) (by have := FU_gt; omega)
  rw [show lp (fun _ _ => none : Int32 → HC → Option (Int32 × HC)) (f_X7_doRumour_b27 (nI f) rc4 n (nI p)) FU 0 X = f_X7_doRumour_b27 (nI f) rc4 n (nI p) rc (nI P) Y from h]
  refine ⟨Y, ?_, i1, i2, i3⟩
  have i6 : inb (nI p) 6 := inb_nI (by omega) (by omega)
  have cp : (nI p).toNatClampNeg = p := nI_clamp (by omega)
  have et : f_X7_thought Y (nI p) (nI f) = some (th p) := by rw [thought_m (by omega) hf, i1 1 (by omega), hth]
  unfold f_X7_doRumour_b27 f_X7_doRumour_j115 cntStp
  rw [i1 0 (by omega), l0, if_pos (nI_le (Nat.le_refl _) (by omega)), if_pos i6, et, cp]
  simp only [bd, nm, nI_1]
  rw [show Y 16 p = moS th (M 6 p) P p from i2, a0]
  split <;> rfl
theorem rumour_m {M : HC} {P f : Nat} (hP : P ≤ 6) (l0 : M 0 5 = nI P) (hf : f < 5) (th mo : Nat → Int32) (hth : th = fun q => M 1 (5 + 5 * q + f)) (hmo : mo = fun p => moS th (M 6 p) P p) (hbd : ∀ p, p < P → ∃ a, a ≤ 99 ∧ mo p = nI a) :
    ∃ M2, f_X7_doRumour M (nI f) = some (itf (cntStp th mo) 0 P 0, M2) ∧ (∀ j, j ≠ 1 → j ≠ 16 → M2 j = M j) ∧ (∀ j, j < P → M2 1 (5 + 5 * j + f) = mo j) ∧ (∀ i, (∀ j, j < P → i ≠ 5 + 5 * j + f) → M2 1 i = M 1 i) := by
  unfold f_X7_doRumour
  obtain ⟨⟨n, X⟩, rc, ⟨i0, i1, i2⟩, h⟩ := lp_ex (T := Int32 → Int32 → HC → Option (Int32 × HC)) (z := fun _ _ _ => none) (F := f_X7_doRumour_b4 (nI f)) (fun g k (s : Int32 × HC) => g s.1 (nI k) s.2) P (fun k s => s.1 = itf (cntStp th mo) 0 k 0 ∧ (∀ j, j ≠ 16 → s.2 j = M j) ∧ (∀ j, j < k → s.2 16 j = mo j)) (by
    intro rc k s hi hk
    obtain ⟨n, X⟩ := s
    obtain ⟨a0', a1, a2⟩ := hi
    dsimp only at a0' a1 a2
    have et : f_X7_thought X (nI k) (nI f) = some (th k) := by rw [thought_m (by omega) hf, a1 1 (by omega), hth]
    obtain ⟨Y, y1, y2, y3, y4⟩ := rumour_in (X := sa X 16 (nI k) (th k)) hP l0 hf hk (fun j hj => by rw [sa_ne _ _ _ _ hj]; exact a1 j hj) th hth (by rw [sa_at (by omega), if_pos rfl]) rc n
    refine ⟨(cntStp th mo k n, Y), ?_, ?_, y2, fun j hj => ?_⟩
    · dsimp only
      unfold f_X7_doRumour_b4
      rw [a1 0 (by omega), l0, if_neg (nI_ge hk (by omega)), et]
      simp only [bd, nm]
      rw [if_pos (inb_nI (by omega) (by omega)), y1, hmo]
    · rw [itf_snoc, ← a0', Nat.zero_add]
    · dsimp only
      by_cases hjk : j = k
      · rw [hjk, y3, hmo]
      · rw [y4 j hjk, sa_at (by omega), if_neg hjk]; exact a2 j (by omega)) FU P 0 (0, M) ⟨rfl, fun _ _ => rfl, fun j hj => by omega⟩ (by omega) (by have := FU_gt; omega)
  rw [show lp (fun _ _ _ => none : Int32 → Int32 → HC → Option (Int32 × HC)) (f_X7_doRumour_b4 (nI f)) FU 0 0 M = f_X7_doRumour_b4 (nI f) rc n (nI P) X from h]
  dsimp only at i0 i1 i2
  unfold f_X7_doRumour_b4
  rw [i1 0 (by omega), l0, if_pos (nI_le (Nat.le_refl _) (by omega))]
  obtain ⟨Y, rc2, ⟨j1, j2, j3, j4⟩, h2⟩ := lp_ex (T := Int32 → HC → Option (Int32 × HC)) (z := fun _ _ => none) (F := f_X7_doRumour_b125 (nI f) n) (fun g k (s : HC) => g (nI k) s) P (fun k Y => (∀ j, j ≠ 1 → j ≠ 16 → Y j = M j) ∧ (∀ j, j < P → Y 16 j = mo j) ∧ (∀ j, j < k → Y 1 (5 + 5 * j + f) = mo j) ∧ (∀ i, (∀ j, j < k → i ≠ 5 + 5 * j + f) → Y 1 i = M 1 i)) (by
    intro rc k Y hi hk
    obtain ⟨a1, a2, a3, a4⟩ := hi
    obtain ⟨a, b1, b2⟩ := hbd k hk
    refine ⟨sa Y 1 (nI (5 + 5 * k + f)) (nI a), ?_, fun j j1 j2 => by rw [sa_ne _ _ _ _ j1]; exact a1 j j1 j2, fun j hj => by rw [sa_ne _ _ _ _ (by omega)]; exact a2 j hj, fun j hj => ?_, fun i hi => ?_⟩
    · unfold f_X7_doRumour_b125
      rw [a1 0 (by omega) (by omega), l0, if_neg (nI_ge hk (by omega)), if_pos (inb_nI (by omega) (by omega)), nI_clamp (by omega), a2 k hk, b2, think_m (by omega) hf b1]
      simp only [bd, nm]
      rw [nI_1]
    · rw [sa_at (by omega)]
      by_cases hjk : j = k
      · rw [if_pos (by omega), hjk, b2]
      · rw [if_neg (by omega)]; exact a3 j (by omega)
    · rw [sa_at (by omega), if_neg (hi k (by omega))]; exact a4 i (fun j hj => hi j (by omega))) FU P 0 X ⟨fun j _ j2 => i1 j j2, i2, fun j hj => by omega, fun i _ => by rw [i1 1 (by omega)]⟩ (by omega) (by have := FU_gt; omega)
  rw [show lp (fun _ _ => none : Int32 → HC → Option (Int32 × HC)) (f_X7_doRumour_b125 (nI f) n) FU 0 X = f_X7_doRumour_b125 (nI f) n rc2 (nI P) Y from h2]
  unfold f_X7_doRumour_b125
  rw [j1 0 (by omega) (by omega), l0, if_pos (nI_le (Nat.le_refl _) (by omega)), i0]
  exact ⟨Y, rfl, j1, j3, j4⟩
theorem rumour_cm {C : CC} {M : HC} {P F T R f : Nat} (h : RelN C M P F T R) (hf : f < F) : ∃ v C2 M2, f_X6_spread C (nI f) = some (v, C2) ∧ f_X7_doRumour M (nI f) = some (v, M2) ∧ RelN C2 M2 P F T R := by
  obtain ⟨hL, hS, -⟩ := id h
  obtain ⟨⟨hP, hF, hT, hRR⟩, ⟨l0, m0⟩, -, -, -, -, -, hch, -⟩ := id hL
  have eth : ∀ q, q < P → C 4 4 (q * 5 + f) = M 1 (5 + 5 * q + f) := fun q hq => th_eq hS (by omega) (by omega)
  have bth : ∀ q, q < P → ∃ a, a ≤ 99 ∧ M 1 (5 + 5 * q + f) = nI a := fun q hq => th_bd hS (by omega) (by omega)
  have emo : ∀ p, p < P → moS (fun q => C 4 4 (q * 5 + f)) (C 2 4 p) P p = moS (fun q => M 1 (5 + 5 * q + f)) (M 6 p) P p := fun p hp => by
    rw [hch p hp]; exact moS_congr hp eth
  have bmo : ∀ p, p < P → ∃ a b, a ≤ 99 ∧ b ≤ a ∧ moS (fun q => M 1 (5 + 5 * q + f)) (M 6 p) P p = nI a ∧ M 1 (5 + 5 * p + f) = nI b := fun p hp => moS_bd (th := fun q => M 1 (5 + 5 * q + f)) hp bth
  obtain ⟨C2, c0, c1, c2, c3, c4⟩ := spread_c (C := C) hP l0 (f := f) (by omega) _ _ rfl rfl (fun p hp hle => by
    rw [emo p hp, eth p hp] at hle ⊢
    obtain ⟨a, b, h1, h2, h3, h4⟩ := bmo p hp
    rw [h3, h4] at hle ⊢
    rw [nI_leI (by omega) (by omega)] at hle
    congr 1
    omega)
  obtain ⟨M2, d0, d1, d3, d4⟩ := rumour_m (M := M) hP m0 (f := f) (by omega) _ _ rfl rfl (fun p hp => by
    obtain ⟨a, b, h1, h2, h3, h4⟩ := bmo p hp
    exact ⟨a, h1, h3⟩)
  refine ⟨_, C2, M2, c0, ?_, rel_th h hf (fun p => moS (fun q => M 1 (5 + 5 * q + f)) (M 6 p) P p) (fun p hp => by
    obtain ⟨a, b, h1, h2, h3, h4⟩ := bmo p hp
    exact ⟨a, h1, h3⟩) c1 c2 (fun j hj => by rw [c3 j hj]; exact emo j hj) c4 d1 d3 d4⟩
  rw [d0]
  congr 2
  refine itf_congr _ _ _ fun p s _ hp => ?_
  exact ite_congr (by
    show (moS (fun q => M 1 (5 + 5 * q + f)) (M 6 p) P p ≤ M 1 (5 + 5 * p + f)) = (moS (fun q => C 4 4 (q * 5 + f)) (C 2 4 p) P p ≤ C 4 4 (p * 5 + f))
    rw [emo p (by omega), eth p (by omega)]) (fun _ => rfl) (fun _ => rfl)
theorem op_rumour {C : CC} {M : HC} (hR : Rel C M) (p1 : Int32) : ∃ (v : Int32) (C2 : CC) (M2 : HC), f_X6_rumour C p1 = some (v, C2) ∧ f_X7_rumour M p1 = some (v, M2) ∧ Rel C2 M2 := by
  obtain ⟨P, F, T, R, hN⟩ := id hR
  unfold f_X6_rumour f_X7_rumour
  rcases isF hN.1 p1 with ⟨f, f1, rfl, f2, f3⟩ | ⟨f2, f3⟩
  · rw [f2, f3]
    simp only [bd, if_neg one_ne0]
    obtain ⟨v, C2, M2, a1, a2, a3⟩ := rumour_cm (P := P) (F := F) (T := T) (R := R) hN f1
    rw [a1, a2]
    exact ⟨_, _, _, rfl, rfl, a3.rel⟩
  · rw [f2, f3]; exact ⟨_, _, _, rfl, rfl, hR⟩
