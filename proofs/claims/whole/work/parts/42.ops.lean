/-! ===== pure: what to write on a belt: the reference; both ===== -/
theorem would_m {C : CC} {M : HC} {P F T R : Nat} (h : RelN C M P F T R) {Z : HC} {bl : Nat → Nat} (hbl : ∀ g, bl g ≤ 99) (hZ : ∀ j, j ≠ 17 → Z j = M j) {p g : Nat} (hp : p < P) (hg : g < F) (hB : Z 17 g = nI (bl g)) : f_X7_wouldThink Z (nI p) (nI g) = some (nI (tvN M bl p g)) := by
  obtain ⟨hL, hS, -⟩ := id h
  obtain ⟨⟨hP, hF, hT, hRR⟩, -⟩ := id hL
  have i5 : inb (nI g) 5 := inb_nI (by omega) (by omega)
  have c5 : (nI g).toNatClampNeg = g := nI_clamp (by omega)
  obtain ⟨q1, q2⟩ := rq_e M g (hbl g)
  obtain ⟨e1, e2⟩ := tq_e hS (p := p) (g := g) (by omega) (by omega)
  have et : f_X7_thought Z (nI p) (nI g) = some (nI (tqN M p g)) := by rw [thought_m (by omega) (by omega), hZ 1 (by omega), e1]
  unfold f_X7_wouldThink tvN
  rw [if_pos i5, c5, hB, reads_m _ i5, c5, hZ 4 (by omega), q1, bd_s, et, bd_s, bd_s, ← mx_nI2 (by omega) (by omega)]
  split <;> rfl
theorem gain_in {C : CC} {M : HC} {P F T R : Nat} (h : RelN C M P F T R) {Z : HC} {bl : Nat → Nat} (hbl : ∀ g, bl g ≤ 99) (hZ : ∀ j, j ≠ 17 → Z j = M j) (hB : ∀ g, g < F → Z 17 g = nI (bl g)) {f p : Nat} (hf : f < F) (hp : p < P) (rc : Int32 → Int32 → Option Int32) (n : Nat) : lp (fun _ _ => none : Int32 → Int32 → Option (Int32)) (f_X7_gainOf_b18 Z (nI f) rc (nI n) (nI p)) FU (1 : Int32) (0 : Int32) = rc (nI (n + if rvN M bl f p F ≤ tvN M bl p f then 1 else 0)) (nI (p + 1)) := by
  obtain ⟨hL, hS, -⟩ := id h
  obtain ⟨⟨hP, hF, hT, hRR⟩, -, ⟨l1, m6⟩, -⟩ := id hL
  have m6' : Z 0 6 = nI F := by rw [hZ 0 (by omega)]; exact m6
  have ho := tv_le (p := p) (g := f) hS hbl (by omega) (by omega)
  obtain ⟨c, rc2, hi, hh⟩ := lp_ex (T := Int32 → Int32 → Option Int32) (z := fun _ _ => none) (F := f_X7_gainOf_b18 Z (nI f) rc (nI n) (nI p)) (fun g j (c : Nat) => g (nI c) (nI j)) F (fun j c => c = if rvN M bl f p j ≤ tvN M bl p f then 1 else 0) (by
    intro rc2 j c hi hj
    have hr := rv_le (f := f) (p := p) hS hbl (by omega) j (by omega)
    have htj := tv_le (p := p) (g := j) hS hbl (by omega) (by omega)
    have hs : rvN M bl f p (j + 1) = rvStp M bl f p j (rvN M bl f p j) := by unfold rvN; rw [itf_snoc, Nat.zero_add]
    unfold rvStp at hs
    refine ⟨_, ?_, rfl⟩
    unfold f_X7_gainOf_b18 f_X7_gainOf_j58 f_X7_gainOf_j54 f_X7_gainOf_j59
    rw [m6', if_neg (nI_ge hj (by omega)), would_m h hbl hZ hp hf (hB f hf), bd_s, would_m h hbl hZ hp hj (hB j hj), bd_s, nm_q, nm_q, nI_1]
    by_cases hc : rvN M bl f p j ≤ tvN M bl p f
    · rw [if_pos hc] at hi
      rw [hi, if_neg (show ¬ nI 1 = (0 : Int32) by decide)]
      by_cases hjf : j = f
      · rw [if_pos hjf] at hs
        rw [if_pos (by rw [hjf]), hs, if_pos hc]
        rfl
      · rw [if_neg hjf] at hs
        rw [if_neg (fun e => by rw [nI_eq (by omega) (by omega)] at e; exact hjf e), hs]
        by_cases hle : tvN M bl p f ≤ tvN M bl p j
        · rw [if_pos (nI_le hle (by omega)), if_neg (by unfold mxN; split <;> omega)]
          rfl
        · rw [if_neg (nI_ge (by omega) (by omega)), if_pos (mxN_le hc (by omega))]
          rfl
    · rw [if_neg hc] at hi
      rw [hi, if_pos (show nI 0 = (0 : Int32) from rfl), if_neg (by
        rw [hs]
        split
        · exact hc
        · unfold mxN; split <;> omega)]
      rfl) FU F 0 1 (by rw [if_pos (show rvN M bl f p 0 ≤ _ from Nat.zero_le _)]) (by omega) (by have := FU_gt; omega)
  rw [show lp (fun _ _ => none : Int32 → Int32 → Option (Int32)) (f_X7_gainOf_b18 Z (nI f) rc (nI n) (nI p)) FU (1 : Int32) (0 : Int32) = f_X7_gainOf_b18 Z (nI f) rc (nI n) (nI p) rc2 (nI c) (nI F) from hh]
  unfold f_X7_gainOf_b18 f_X7_gainOf_j78
  rw [m6', if_pos (nI_le (Nat.le_refl _) (by omega)), hi]
  by_cases hc : rvN M bl f p F ≤ tvN M bl p f
  · rw [if_pos hc, if_neg (show ¬ nI 1 = (0 : Int32) by decide), nm_q, nm_q, nI_1, nI_1]
  · rw [if_neg hc, if_pos (show nI 0 = (0 : Int32) from rfl), nm_q, nm_q, nI_1, a0]
    rfl
theorem gain_m {C : CC} {M : HC} {P F T R : Nat} (h : RelN C M P F T R) {Z : HC} {bl : Nat → Nat} (hbl : ∀ g, bl g ≤ 99) (hZ : ∀ j, j ≠ 17 → Z j = M j) (hB : ∀ g, g < F → Z 17 g = nI (bl g)) {f : Nat} (hf : f < F) : f_X7_gainOf Z (nI f) = some (gaI M bl f F P (bl f)) := by
  obtain ⟨hL, hS, -⟩ := id h
  obtain ⟨⟨hP, hF, hT, hRR⟩, ⟨l0, m5⟩, -⟩ := id hL
  have m5' : Z 0 5 = nI P := by rw [hZ 0 (by omega)]; exact m5
  have i5 : inb (nI f) 5 := inb_nI (by omega) (by omega)
  have c5 : (nI f).toNatClampNeg = f := nI_clamp (by omega)
  obtain ⟨q1, q2⟩ := rq_e M f (hbl f)
  unfold f_X7_gainOf
  obtain ⟨n, rc, hi, hh⟩ := lp_ex (T := Int32 → Int32 → Option Int32) (z := fun _ _ => none) (F := f_X7_gainOf_b4 Z (nI f)) (fun g k (n : Nat) => g (nI n) (nI k)) P (fun k n => n = foN M bl f F k (bl f)) (by
    intro rc k n hi hk
    refine ⟨foStp M bl f F (bl f) k n, ?_, by rw [hi]; unfold foN; rw [itf_snoc, Nat.zero_add]⟩
    unfold f_X7_gainOf_b4
    rw [m5', if_neg (nI_ge hk (by omega)), gain_in h hbl hZ hB hf hk]
    unfold foStp tvN
    by_cases hc : rvN M bl f k F ≤ mxN (tqN M k f) (rqN M f (bl f))
    · rw [if_pos hc, if_pos hc]
    · rw [if_neg hc, if_neg hc, Nat.add_zero]) FU P 0 0 rfl (by omega) (by have := FU_gt; omega)
  rw [show lp (fun _ _ => none : Int32 → Int32 → Option (Int32)) (f_X7_gainOf_b4 Z (nI f)) FU 0 0 = f_X7_gainOf_b4 Z (nI f) rc (nI n) (nI P) from hh]
  unfold f_X7_gainOf_b4 gaI
  rw [m5', if_pos (nI_le (Nat.le_refl _) (by omega))]
  simp only [if_pos i5, c5]
  rw [hB f hf, reads_m _ i5, c5, hZ 4 (by omega), q1, bd_s, hZ 5 (by omega), nm_q, hi]
  generalize nI (rqN M f (bl f)) - M 5 f = d
  by_cases hd : d ≤ 0
  · have hd2 : ¬ (0 : Int32) < d := by rw [i_lt]; rw [i_le] at hd; omega
    rw [if_pos hd, if_neg hd2, show (3 : Int32) * ((0 : Int32) / (10 : Int32)) = 0 by decide]
  · have hd2 : (0 : Int32) < d := by rw [i_lt]; rw [i_le] at hd; omega
    rw [if_neg hd, if_pos hd2]
theorem best_m {C : CC} {M : HC} {P F T R : Nat} (h : RelN C M P F T R) {Z : HC} {bl : Nat → Nat} (hbl : ∀ g, bl g ≤ 99) (hZ : ∀ j, j ≠ 17 → Z j = M j) (hB : ∀ g, g < F → Z 17 g = nI (bl g)) {f : Nat} (hf : f < F) (rc : Int32 → Int32 → HC → Option (Int32 × HC)) (c : Nat) (hc1 : c ≤ 1) : ∃ Z2, lp (fun _ _ _ _ => none : Int32 → Int32 → Int32 → HC → Option (Int32 × HC)) (f_X7_writes_b30 rc (nI c) (nI f) (nI (bl f))) FU (0 : Int32) (-1000 : Int32) (0 : Int32) Z = rc (nI (if c = 0 then (if bsN M bl f F P = bl f then 0 else 1) else 1)) (nI (f + 1)) Z2 ∧ (∀ j, j ≠ 17 → Z2 j = M j) ∧ (∀ g, g < F → Z2 17 g = nI (if g = f then bsN M bl f F P else bl g)) := by
  obtain ⟨hL, hS, -⟩ := id h
  obtain ⟨⟨hP, hF, hT, hRR⟩, -⟩ := id hL
  have i5 : inb (nI f) 5 := inb_nI (by omega) (by omega)
  obtain ⟨⟨⟨b, g⟩, X⟩, rc2, ⟨i1, i2, i3⟩, hh⟩ := lp_ex (T := Int32 → Int32 → Int32 → HC → Option (Int32 × HC)) (z := fun _ _ _ _ => none) (F := f_X7_writes_b30 rc (nI c) (nI f) (nI (bl f))) (fun g k (s : (Nat × Int32) × HC) => g (nI s.1.1) s.1.2 (nI (10 * k)) s.2) 10 (fun k s => s.1 = itf (bsStp M bl f F P) 0 k (0, -1000) ∧ (∀ j, j ≠ 17 → s.2 j = M j) ∧ (∀ g, g < F → g ≠ f → s.2 17 g = nI (bl g))) (by
    intro rc2 k s hi hk
    obtain ⟨⟨b, y⟩, X⟩ := s
    obtain ⟨a1, a2, a3⟩ := hi
    dsimp only at a1 a2 a3
    have hbl' : ∀ g, (fun g => if g = f then 10 * k else bl g) g ≤ 99 := fun g => by
      have := hbl g
      dsimp only
      split <;> omega
    have hg := gain_m h (Z := sa X 17 (nI f) (nI (10 * k))) (bl := fun g => if g = f then 10 * k else bl g) hbl' (fun j hj => by rw [sa_ne _ _ _ _ hj]; exact a2 j hj) (fun g hg => by
      rw [sa_at (by omega)]
      by_cases hgf : g = f
      · rw [if_pos hgf, if_pos hgf]
      · rw [if_neg hgf, if_neg hgf]; exact a3 g hg hgf) hf
    rw [if_pos rfl, gaI_congr (bl' := bl) (fun g hg => if_neg hg)] at hg
    refine ⟨(bsStp M bl f F P k (b, y), sa X 17 (nI f) (nI (10 * k))), ?_, ?_, fun j hj => by dsimp only; rw [sa_ne _ _ _ _ hj]; exact a2 j hj, fun g hg hgf => by dsimp only; rw [sa_at (by omega), if_neg hgf]; exact a3 g hg hgf⟩
    · dsimp only
      have e10 : nI (10 * k) + (10 : Int32) = nI (10 * (k + 1)) := nI_add (10 * k) 10
      unfold f_X7_writes_b30 f_X7_writes_j66 f_X7_writes_j82 bsStp
      rw [if_neg (show ¬ (100 : Int32) ≤ nI (10 * k) from nI_ge (b := 100) (by omega) (by omega)), if_pos i5, nm_q, hg, bd_s]
      by_cases hc : gaI M bl f F P (10 * k) ≤ y
      · rw [if_pos hc, if_pos hc, nm_q, e10, if_pos hc]
      · rw [if_neg hc, if_neg hc, nm_q, e10, if_neg hc]
    · dsimp only
      rw [itf_snoc, ← a1, Nat.zero_add]) FU 10 0 ((0, -1000), Z) ⟨rfl, hZ, fun g hg _ => hB g hg⟩ (by omega) (by have := FU_gt; omega)
  rw [show lp (fun _ _ _ _ => none : Int32 → Int32 → Int32 → HC → Option (Int32 × HC)) (f_X7_writes_b30 rc (nI c) (nI f) (nI (bl f))) FU (0 : Int32) (-1000 : Int32) (0 : Int32) Z = f_X7_writes_b30 rc (nI c) (nI f) (nI (bl f)) rc2 (nI b) g (nI (10 * 10)) X from hh]
  dsimp only at i1 i2 i3
  have hbs : b = bsN M bl f F P := by
    obtain ⟨a, ha1, ha2⟩ := st_bd hL hf
    have e : itf (bsStp M bl f F P) 0 10 (0, -1000) = itf (bsStp M bl f F P) 1 9 (bsStp M bl f F P 0 (0, -1000)) := rfl
    have e2 : bsStp M bl f F P 0 (0, -1000) = (0, gaI M bl f F P 0) := by
      unfold bsStp
      dsimp only
      rw [Nat.mul_zero, if_neg (ga_0 hP ha2 ha1)]
    rw [e, e2] at i1
    unfold bsN
    rw [← i1]
  have hb1 := bs_bd M bl f F P
  have hb2 := hbl f
  refine ⟨sa X 17 (nI f) (nI b), ?_, fun j hj => by rw [sa_ne _ _ _ _ hj]; exact i2 j hj, fun g hg => ?_⟩
  · unfold f_X7_writes_b30 f_X7_writes_j108 f_X7_writes_j113
    rw [if_pos (show (100 : Int32) ≤ nI (10 * 10) from nI_le (a := 100) (by omega) (by omega)), if_pos i5, nm_q, nm_q, nm_q, nI_1, hbs]
    rcases (show c = 0 ∨ c = 1 by omega) with rfl | rfl
    · rw [if_pos (show nI 0 = (0 : Int32) from rfl), if_pos (show (0 : Nat) = 0 from rfl)]
      by_cases he : bsN M bl f F P = bl f
      · rw [if_pos (by rw [he]), if_pos he]; rfl
      · rw [if_neg (fun e => by rw [nI_eq (by omega) (by omega)] at e; exact he e), if_neg he]; rfl
    · rw [if_neg (show ¬ nI 1 = (0 : Int32) by decide), if_neg (show ¬ (1 : Nat) = 0 by omega)]; rfl
  · rw [sa_at (by omega)]
    by_cases hgf : g = f
    · rw [if_pos hgf, if_pos hgf, hbs]
    · rw [if_neg hgf, if_neg hgf]; exact i3 g hg hgf
theorem writes_m {C : CC} {M : HC} {P F T R : Nat} (h : RelN C M P F T R) {Z : HC} {bl : Nat → Nat} (hbl : ∀ g, bl g ≤ 99) (hZ : ∀ j, j ≠ 17 → Z j = M j) (hB : ∀ g, g < F → Z 17 g = nI (bl g)) : ∃ Z2, f_X7_writes Z = some (nI (rnS M F P F bl).1, Z2) ∧ (∀ j, j ≠ 17 → Z2 j = M j) ∧ (∀ g, g < F → Z2 17 g = nI ((rnS M F P F bl).2 g)) := by
  obtain ⟨hL, hS, -⟩ := id h
  obtain ⟨⟨hP, hF, hT, hRR⟩, -, ⟨l1, m6⟩, -⟩ := id hL
  unfold f_X7_writes
  obtain ⟨⟨c, X2⟩, rc, ⟨i1, i2, i3⟩, hh⟩ := lp_ex (T := Int32 → Int32 → HC → Option (Int32 × HC)) (z := fun _ _ _ => none) (F := f_X7_writes_b4) (fun g k (s : Nat × HC) => g (nI s.1) (nI k) s.2) F (fun k s => s.1 = (rnS M F P k bl).1 ∧ (∀ j, j ≠ 17 → s.2 j = M j) ∧ ∀ g, g < F → s.2 17 g = nI ((rnS M F P k bl).2 g)) (by
    intro rc k s hi hk
    obtain ⟨c, X⟩ := s
    obtain ⟨a1, a2, a3⟩ := hi
    dsimp only at a1 a2 a3
    obtain ⟨b1, b2⟩ := rn_bd M F P hbl k
    have hs := rn_s M F P k bl
    generalize rnS M F P k bl = q at a1 a3 b1 b2 hs
    obtain ⟨Z2, z1, z2, z3⟩ := best_m h b2 a2 a3 hk rc c (by omega)
    have i5 : inb (nI k) 5 := inb_nI (by omega) (by omega)
    have c5 : (nI k).toNatClampNeg = k := nI_clamp (by omega)
    refine ⟨((rnS M F P (k + 1) bl).1, Z2), ?_, rfl, z2, fun g hg => ?_⟩
    · dsimp only
      unfold f_X7_writes_b4
      rw [a2 0 (by omega), m6, if_neg (nI_ge hk (by omega)), if_pos i5, c5, a3 k hk, nm_q, z1, hs]
      unfold rnStp
      rw [a1]
    · dsimp only
      rw [z3 g hg, hs]
      unfold rnStp
      rfl) FU F 0 (0, Z) ⟨rfl, hZ, hB⟩ (by omega) (by have := FU_gt; omega)
  rw [show lp (fun _ _ _ => none : Int32 → Int32 → HC → Option (Int32 × HC)) f_X7_writes_b4 FU 0 0 Z = f_X7_writes_b4 rc (nI c) (nI F) X2 from hh]
  dsimp only at i1 i2 i3
  unfold f_X7_writes_b4
  rw [i2 0 (by omega), m6, if_pos (nI_le (Nat.le_refl _) (by omega)), i1, if_pos (bz_01 (rn_bd M F P hbl F).1)]
  exact ⟨X2, rfl, i2, i3⟩
theorem v99 (C : CC) (Y : HC) : va_up C 9 Y 9 = Y := rfl
theorem rel_917 {C : CC} {M M2 : HC} {P F T R : Nat} (h : RelN C M P F T R) (X : HC) (hM : ∀ j, j ≠ 17 → M2 j = M j) : Rel (va_up C 9 X) M2 := by
  obtain ⟨hL, hS, hI0, hI1, hB, hX⟩ := h
  have hF := hL.1.2.1
  have e0 := hM 0 (by omega)
  refine ⟨P, F, T, R, ?_, ?_, ?_, ?_, ?_, ?_⟩
  · rw [va_ne _ _ _ (by omega)]
    exact RLand_M hL (by rw [e0]) (by rw [e0]) (by rw [e0]) (by rw [e0]) (by rw [e0]) (hM 4 (by omega)) (hM 5 (by omega)) (hM 6 (by omega)) (hM 7 (by omega)) (hM 8 (by omega))
  · rw [va_ne _ _ _ (by omega)]; exact RSt_M hF hS (fun j _ _ => by rw [hM 1 (by omega)])
  · rw [va_ne _ _ _ (by omega)]; exact RImg_M hF hI0 (by rw [hM 2 (by omega)]) (fun j _ _ => by rw [hM 1 (by omega)])
  · rw [va_ne _ _ _ (by omega)]; exact RImg_M hF hI1 (by rw [hM 2 (by omega)]) (fun j _ _ => by rw [hM 1 (by omega)])
  · rw [va_ne _ _ _ (by omega)]
    unfold RBook
    rw [e0, hM 9 (by omega)]
    exact hB
  · rw [va_ne _ _ _ (by omega)]
    unfold RText
    rw [e0, hM 3 (by omega)]
    exact hX
theorem write_cm {C : CC} {M : HC} {P F T R : Nat} (h : RelN C M P F T R) {p1 : Int32} (hp : p1 = -1 ∨ ∃ f, f < F ∧ p1 = nI f) : ∃ v C2 M2, f_X6_write_j16 C p1 = some (v, C2) ∧ f_X7_write_j16 M p1 = some (v, M2) ∧ Rel C2 M2 := by
  obtain ⟨hL, hS, -⟩ := id h
  obtain ⟨⟨hP, hF, hT, hRR⟩, -⟩ := id hL
  let bl0 : Nat → Nat := fun g => if g < F then (M 1 g).toNatClampNeg else 0
  have hbl0 : ∀ g, bl0 g ≤ 99 := fun g => by
    show (if g < F then (M 1 g).toNatClampNeg else 0) ≤ 99
    by_cases hg : g < F
    · obtain ⟨a, a1, a2⟩ := be_bd hS hg
      rw [if_pos hg, a2, nI_clamp (by omega)]; exact a1
    · rw [if_neg hg]; omega
  have ebl : ∀ g, g < F → M 1 g = nI (bl0 g) := fun g hg => by
    obtain ⟨a, a1, a2⟩ := be_bd hS hg
    show _ = nI (if g < F then (M 1 g).toNatClampNeg else 0)
    rw [if_pos hg, a2, nI_clamp (by omega)]
  -- the class takes the belts over
  obtain ⟨X, rc, x1, hh⟩ := lp_ex (T := Int32 → HC → Option (Int32 × HC)) (z := fun _ _ => none) (F := f_X0_settle_b2 (C 2) (C 4)) (fun g k (s : HC) => g (nI k) s) 5 (fun k s => ∀ g, g < k → s 1 g = C 4 1 g) (by
    intro rc k s hi hk
    have i5 : inb (nI k) 5 := inb_nI (by omega) (by omega)
    have c5 : (nI k).toNatClampNeg = k := nI_clamp (by omega)
    refine ⟨sa s 1 (nI k) (C 4 1 k), ?_, fun g hg => ?_⟩
    · unfold f_X0_settle_b2
      rw [if_neg (show ¬ (5 : Int32) ≤ nI k from nI_ge (b := 5) hk (by omega)), if_pos i5, if_pos i5, c5, nm_q, nm_q, nI_1]
    · rw [sa_at (by omega)]
      by_cases hgk : g = k
      · rw [if_pos hgk, hgk]
      · rw [if_neg hgk]; exact hi g (by omega)) FU 5 0 (C 9) (fun g hg => by omega) (by omega) (by have := FU_gt; omega)
  obtain ⟨Z, rcz, ⟨z1, z2⟩, hhz⟩ := lp_ex (T := Int32 → HC → Option (Int32 × HC)) (z := fun _ _ => none) (F := f_X7_write_b18 p1) (fun g k (s : HC) => g (nI k) s) 5 (fun k s => (∀ j, j ≠ 17 → s j = M j) ∧ ∀ g, g < k → s 17 g = M 1 g) (by
    intro rc k s hi hk
    obtain ⟨a1, a2⟩ := hi
    have i5 : inb (nI k) 5 := inb_nI (by omega) (by omega)
    have i141 : inb (nI k) 141 := inb_nI (by omega) (by omega)
    have c5 : (nI k).toNatClampNeg = k := nI_clamp (by omega)
    refine ⟨sa s 17 (nI k) (M 1 k), ?_, fun j hj => by rw [sa_ne _ _ _ _ hj]; exact a1 j hj, fun g hg => ?_⟩
    · unfold f_X7_write_b18
      rw [if_neg (show ¬ (5 : Int32) ≤ nI k from nI_ge (b := 5) hk (by omega)), n0_add, if_pos i141, if_pos i5, c5, a1 1 (by omega), nm_q, nm_q, nI_1]
    · rw [sa_at (by omega)]
      by_cases hgk : g = k
      · rw [if_pos hgk, hgk]
      · rw [if_neg hgk]; exact a2 g (by omega)) FU 5 0 M ⟨fun _ _ => rfl, fun g hg => by omega⟩ (by omega) (by have := FU_gt; omega)
  obtain ⟨r1, r2, q1, q2, q3, q4⟩ := lp_rel (T1 := Int32 → HC → Option (Int32 × HC)) (T2 := Int32 → HC → Option (Int32 × HC)) (z1 := fun _ _ => none) (z2 := fun _ _ => none) (F1 := f_X0_settle_b27 (C 2) (C 4)) (F2 := f_X7_write_b45 p1) (fun g k (s : HC) => g (nI k) s) (fun g k (s : HC) => g (nI k) s) 20 (fun _ X Z => ∃ bl : Nat → Nat, (∀ g, bl g ≤ 99) ∧ (∀ g, g < F → X 1 g = nI (bl g)) ∧ (∀ j, j ≠ 17 → Z j = M j) ∧ (∀ g, g < F → Z 17 g = nI (bl g))) (fun r1 r2 => (∀ j, j ≠ 17 → r2.2 j = M j) ∧ r2.1 = if r1.1 = -1 then -1 else (if p1 = -1 then r1.1 else r1.2 1 p1.toNatClampNeg)) (by
    intro rc1 rc2 k X Z hi hk
    obtain ⟨bl, b1, b2, b3, b4⟩ := hi
    obtain ⟨X2, x1, x2⟩ := round_c h b1 b2
    obtain ⟨Z2, z1, z2, z3⟩ := writes_m h b1 b3 b4
    obtain ⟨n1, n2⟩ := rn_bd M F P b1 F
    generalize rnS M F P F bl = q at x1 x2 z1 z3 n1 n2
    unfold f_X0_settle_b27 f_X7_write_b45
    rw [if_neg (show ¬ (20 : Int32) ≤ nI k from nI_ge (b := 20) hk (by omega)), if_neg (show ¬ (20 : Int32) ≤ nI k from nI_ge (b := 20) hk (by omega)), x1, bd_s, z1, bd_s]
    dsimp only
    rcases (show q.1 = 0 ∨ q.1 = 1 by omega) with hq | hq
    · right
      rw [hq, if_pos (show nI 0 = (0 : Int32) from rfl), if_pos (show nI 0 = (0 : Int32) from rfl)]
      unfold f_X7_write_j64
      have k20 : ¬ nI k = (20 : Int32) := fun e => by
        have e : nI k = nI 20 := e
        rw [nI_eq (by omega) (by omega)] at e
        omega
      have km1 : ¬ nI k = (-1 : Int32) := fun e => by
        have := congrArg Int32.toInt e
        rw [nI_toInt (by omega), show (-1 : Int32).toInt = -1 by decide] at this
        omega
      rw [if_neg k20]
      by_cases hp1 : p1 = -1
      · rw [if_pos hp1]
        exact ⟨_, _, rfl, rfl, z2, by dsimp only; rw [if_neg km1, if_pos hp1]⟩
      · rw [if_neg hp1]
        rcases hp with hp | ⟨f, hf, rfl⟩
        · exact absurd hp hp1
        · have i5 : inb (nI f) 5 := inb_nI (by omega) (by omega)
          rw [if_pos i5]
          refine ⟨_, _, rfl, rfl, z2, ?_⟩
          dsimp only
          rw [if_neg km1, if_neg hp1, nI_clamp (by omega), x2 f hf, z3 f hf]
    · left
      rw [hq, if_neg (show ¬ nI 1 = (0 : Int32) by decide), if_neg (show ¬ nI 1 = (0 : Int32) by decide), nm_q, nm_q, nI_1]
      exact ⟨X2, Z2, rfl, rfl, q.2, n2, x2, z2, z3⟩) (by
    intro rc1 rc2 X Z hi
    obtain ⟨bl, b1, b2, b3, b4⟩ := hi
    unfold f_X0_settle_b27 f_X7_write_b45 f_X7_write_j64
    rw [if_pos (show (20 : Int32) ≤ nI 20 from nI_le (a := 20) (by omega) (by omega)), if_pos (show (20 : Int32) ≤ nI 20 from nI_le (a := 20) (by omega) (by omega)), if_pos (show nI 20 = (20 : Int32) from rfl)]
    exact ⟨_, _, rfl, rfl, b3, by rw [if_pos rfl]⟩) FU 20 0 X Z ⟨bl0, hbl0, fun g hg => by rw [x1 g (by omega), be_eq hS hg]; exact ebl g hg, z1, fun g hg => by rw [z2 g (by omega)]; exact ebl g hg⟩ (by omega) (by have := FU_gt; omega)
  obtain ⟨v, X9⟩ := r1
  obtain ⟨w, M2⟩ := r2
  dsimp only at q3 q4
  have e6 : f_X0_settle (C 9) (C 2) (C 4) = some (v, X9) := by
    unfold f_X0_settle
    rw [show lp (fun _ _ => none : Int32 → HC → Option (Int32 × HC)) (f_X0_settle_b2 (C 2) (C 4)) FU 0 (C 9) = f_X0_settle_b2 (C 2) (C 4) rc (nI 5) X from hh]
    unfold f_X0_settle_b2
    rw [if_pos (show (5 : Int32) ≤ nI 5 from nI_le (a := 5) (by omega) (by omega))]
    exact q1
  have e7 : f_X7_write_j16 M p1 = some (w, M2) := by
    unfold f_X7_write_j16
    rw [show lp (fun _ _ => none : Int32 → HC → Option (Int32 × HC)) (f_X7_write_b18 p1) FU 0 M = f_X7_write_b18 p1 rcz (nI 5) Z from hhz]
    unfold f_X7_write_b18
    rw [if_pos (show (5 : Int32) ≤ nI 5 from nI_le (a := 5) (by omega) (by omega))]
    exact q2
  refine ⟨w, va_up C 9 X9, M2, ?_, e7, rel_917 h X9 q3⟩
  unfold f_X6_write_j16
  rw [e6, bd_s, p2_e, p1_e, nm_q, nm_q, q4]
  by_cases hv : v = -1
  · rw [if_pos hv, if_pos hv, hv]
  · rw [if_neg hv, if_neg hv]
    by_cases hp1 : p1 = -1
    · rw [if_pos hp1, if_pos hp1]
    · rw [if_neg hp1, if_neg hp1]
      rcases hp with hp | ⟨f, hf, rfl⟩
      · exact absurd hp hp1
      · rw [if_pos (inb_nI (by omega) (by omega)), v99]
theorem op_write {C : CC} {M : HC} (hR : Rel C M) (p1 : Int32) : ∃ (v : Int32) (C2 : CC) (M2 : HC), f_X6_write C p1 = some (v, C2) ∧ f_X7_write M p1 = some (v, M2) ∧ Rel C2 M2 := by
  obtain ⟨P, F, T, R, hN⟩ := id hR
  unfold f_X6_write f_X7_write
  by_cases hp : p1 = -1
  · rw [if_pos hp, if_pos hp]
    exact write_cm hN (Or.inl hp)
  · rw [if_neg hp, if_neg hp]
    rcases isF hN.1 p1 with ⟨f, f1, rfl, f2, f3⟩ | ⟨f2, f3⟩
    · rw [f2, f3, bd_s, bd_s, if_neg one_ne0, if_neg one_ne0]
      exact write_cm hN (Or.inr ⟨f, f1, rfl⟩)
    · rw [f2, f3]; exact ⟨_, _, _, rfl, rfl, hR⟩
