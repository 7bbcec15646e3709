/-! ===== pure: tasks, tricks, belts; one reads, one inspects ===== -/
theorem in_n {n : Nat} (h : n < 2 ^ 31) (p : Int32) : f_X7_in p.toInt64 (0 : Int64) (nI n - 1).toInt64 = some (if 0 ≤ p.toInt ∧ p.toInt < n then 1 else 0) := by
  rw [in_z p _ _ 0 ((n : Int) - 1) rfl (by rw [Int32.toInt_toInt64, nI_sub1 h])]
  by_cases h : 0 ≤ p.toInt ∧ p.toInt < n
  · rw [if_pos h, if_pos (by omega)]
  · rw [if_neg h, if_neg (by omega)]
theorem in_lit (p : Int32) (n : Nat) (y : Int64) (hy : y.toInt = (n : Int)) (hn : n + 1 < 2 ^ 31) : (∃ k, k ≤ n ∧ p = nI k ∧ f_X7_in p.toInt64 (0 : Int64) y = some 1) ∨ (¬ (0 ≤ p.toInt ∧ p.toInt ≤ n) ∧ f_X7_in p.toInt64 (0 : Int64) y = some 0) := by
  rw [in_z p _ _ 0 (n : Int) rfl hy]
  by_cases h : 0 ≤ p.toInt ∧ p.toInt ≤ n
  · obtain ⟨k, h1, h2⟩ := exk (p := p) (F := n + 1) (by omega) (by omega)
    exact Or.inl ⟨k, by omega, h2, by rw [if_pos h]⟩
  · exact Or.inr ⟨h, by rw [if_neg h]⟩
theorem ne_lit {p : Int32} {n : Nat} (h : ¬ (0 ≤ p.toInt ∧ p.toInt ≤ n)) {c : Int32} (hc : 0 ≤ c.toInt ∧ c.toInt ≤ n) : ¬ p = c := fun e => h (e ▸ hc)
theorem gu_eq {L M : HC} {P F T R t : Nat} (h : RLand L M P F T R) (ht : t < T) : L 5 t = M 7 (4 * t) := (h.2.2.2.2.2.2.2.2.1 t ht).1.1
theorem gu_bd {L M : HC} {P F T R t : Nat} (h : RLand L M P F T R) (ht : t < T) : ∃ a, a < P ∧ M 7 (4 * t) = nI a := (h.2.2.2.2.2.2.2.2.1 t ht).1.2
theorem da_eq {L M : HC} {P F T R t : Nat} (h : RLand L M P F T R) (ht : t < T) : L 6 t = M 7 (4 * t + 1) := (h.2.2.2.2.2.2.2.2.1 t ht).2.1.1
theorem da_bd {L M : HC} {P F T R t : Nat} (h : RLand L M P F T R) (ht : t < T) : ∃ a, a ≤ 99 ∧ M 7 (4 * t + 1) = nI a := (h.2.2.2.2.2.2.2.2.1 t ht).2.1.2
theorem wo_eq {L M : HC} {P F T R t : Nat} (h : RLand L M P F T R) (ht : t < T) : L 7 t = M 7 (4 * t + 2) := (h.2.2.2.2.2.2.2.2.1 t ht).2.2.1.1
theorem wo_bd {L M : HC} {P F T R t : Nat} (h : RLand L M P F T R) (ht : t < T) : ∃ a, a ≤ 99 ∧ M 7 (4 * t + 2) = nI a := (h.2.2.2.2.2.2.2.2.1 t ht).2.2.1.2
theorem fa_eq {L M : HC} {P F T R t : Nat} (h : RLand L M P F T R) (ht : t < T) : L 8 t = M 7 (4 * t + 3) := (h.2.2.2.2.2.2.2.2.1 t ht).2.2.2.1
theorem fa_bd {L M : HC} {P F T R t : Nat} (h : RLand L M P F T R) (ht : t < T) : ∃ a, a ≤ 20 ∧ M 7 (4 * t + 3) = nI a := (h.2.2.2.2.2.2.2.2.1 t ht).2.2.2.2
theorem tt_eq {L M : HC} {P F T R r : Nat} (h : RLand L M P F T R) (hr : r < R) : L 9 r = M 8 (3 * r) := (h.2.2.2.2.2.2.2.2.2 r hr).1
theorem lo_eq {L M : HC} {P F T R r : Nat} (h : RLand L M P F T R) (hr : r < R) : L 10 r = M 8 (3 * r + 1) := (h.2.2.2.2.2.2.2.2.2 r hr).2.1.1
theorem lo_bd {L M : HC} {P F T R r : Nat} (h : RLand L M P F T R) (hr : r < R) : ∃ a, a ≤ 99 ∧ M 8 (3 * r + 1) = nI a := (h.2.2.2.2.2.2.2.2.2 r hr).2.1.2
theorem ne_eq {L M : HC} {P F T R r : Nat} (h : RLand L M P F T R) (hr : r < R) : L 11 r = M 8 (3 * r + 2) := (h.2.2.2.2.2.2.2.2.2 r hr).2.2
theorem op_task {C : CC} {M : HC} (hR : Rel C M) (p1 p2 : Int32) : ∃ (v : Int32), f_X6_task C p1 p2 = some v ∧ f_X7_task M p1 p2 = some v ∧ Rel C M := by
  obtain ⟨P, F, T, R, hL, hS, hI0, hI1, hB, hX⟩ := id hR
  have hb := hL.1
  unfold f_X6_task f_X7_task
  rcases isT hL p1 with ⟨t, t1, rfl, t2, t3⟩ | ⟨t2, t3⟩
  · rw [t2, t3]
    simp only [bd, if_neg one_ne0]
    have ht6 : t < 6 := by omega
    rw [if_pos (inb_nI ht6 (by omega)), if_pos (inb_nI ht6 (by omega)), if_pos (inb_nI ht6 (by omega)), if_pos (inb_nI ht6 (by omega)), nI_clamp (n := t) (by omega), (tricks_cm hL _).1, (tricks_cm hL _).2, gu_eq hL t1, da_eq hL t1, wo_eq hL t1, fa_eq hL t1]
    simp only []
    rcases in_lit p2 3 (3 : Int64) (by decide) (by omega) with ⟨j, j1, rfl, j2⟩ | ⟨j1, j2⟩
    · rw [j2]
      simp only [if_neg one_ne0]
      rw [ix4, if_pos (inb_nI (by omega) (by omega)), nI_clamp (by omega)]
      refine ⟨_, ?_, rfl, hR⟩
      rcases (show j = 0 ∨ j = 1 ∨ j = 2 ∨ j = 3 by omega) with rfl | rfl | rfl | rfl
      · rfl
      · rfl
      · rfl
      · rfl
    · rw [j2, if_neg (ne_lit j1 (by decide)), if_neg (ne_lit j1 (by decide)), if_neg (ne_lit j1 (by decide)), if_neg (ne_lit j1 (by decide))]
      simp only [if_pos]
      split
      · exact ⟨_, rfl, rfl, hR⟩
      · exact ⟨_, rfl, rfl, hR⟩
  · rw [t2, t3]; exact ⟨_, rfl, rfl, hR⟩
theorem op_trick {C : CC} {M : HC} (hR : Rel C M) (p1 p2 : Int32) : ∃ (v : Int32), f_X6_trick C p1 p2 = some v ∧ f_X7_trick M p1 p2 = some v ∧ Rel C M := by
  obtain ⟨P, F, T, R, hL, hS, hI0, hI1, hB, hX⟩ := id hR
  obtain ⟨hb, -, -, -, ⟨l4, m4⟩, -⟩ := id hL
  unfold f_X6_trick f_X7_trick
  rw [l4, m4, in_n (by omega)]
  simp only [bd]
  by_cases h : 0 ≤ p1.toInt ∧ p1.toInt < (R : Int)
  · obtain ⟨r, r1, rfl⟩ := exk h (by omega)
    rw [if_pos h, if_neg one_ne0, if_neg (nI_pos (by omega)), if_pos (nI_lt r1 (by omega))]
    have hr4 : r < 4 := by omega
    rw [if_pos (inb_nI hr4 (by omega)), if_pos (inb_nI hr4 (by omega)), if_pos (inb_nI hr4 (by omega)), nI_clamp (n := r) (by omega), tt_eq hL r1, lo_eq hL r1, ne_eq hL r1]
    rcases in_lit p2 2 (2 : Int64) (by decide) (by omega) with ⟨j, j1, rfl, j2⟩ | ⟨j1, j2⟩
    · rw [j2]
      simp only [if_neg one_ne0]
      rw [ix3, if_pos (inb_nI (by omega) (by omega)), nI_clamp (by omega)]
      refine ⟨_, ?_, rfl, hR⟩
      rcases (show j = 0 ∨ j = 1 ∨ j = 2 by omega) with rfl | rfl | rfl
      · rfl
      · rfl
      · rfl
    · rw [j2, if_neg (ne_lit j1 (by decide)), if_neg (ne_lit j1 (by decide)), if_neg (ne_lit j1 (by decide))]
      exact ⟨_, rfl, rfl, hR⟩
  · rw [if_neg h, if_pos rfl]
    refine ⟨_, ?_, rfl, hR⟩
    by_cases h1 : p1 < 0
    · rw [if_pos h1]
    · rw [if_neg h1, if_neg]
      intro h2
      rw [Int32.lt_iff_toInt_lt] at h1 h2
      rw [nI_toInt (by omega)] at h2
      rw [Int32.toInt_zero] at h1
      omega
theorem sa_at {x : HC} {j i k : Nat} {v : Int32} (hi : i < 2 ^ 31) : sa x j (nI i) v j k = if k = i then v else x j k := by
  simp [sa, va_up, upd, nI_clamp hi]
theorem sa_self {x : HC} {j i : Nat} (hi : i < 2 ^ 31) : sa x j (nI i) (x j i) = x := by
  funext a b
  by_cases h : a = j
  · subst h
    rw [sa_at hi]
    split
    · rename_i h; rw [h]
    · rfl
  · simp [sa, va_up, h]
/-- with numbers: the relation at P, F, T, R -/
def RelN (C : CC) (M : HC) (P F T R : Nat) : Prop := RLand (C 2) M P F T R ∧ RSt (C 4) M 0 F ∧ RImg (C 5) M 0 F ∧ RImg (C 6) M 1 F ∧ RBook (C 7) M P F ∧ RText (C 1) M
theorem RelN.rel {C : CC} {M : HC} {P F T R : Nat} (h : RelN C M P F T R) : Rel C M := ⟨P, F, T, R, h⟩
/-- a person thinks a (0 .. 99) of a fighter -/
theorem RelN.think {C : CC} {M : HC} {P F T R : Nat} (h : RelN C M P F T R) {p f a : Nat} (hp : p < P) (hf : f < F) (ha : a ≤ 99) : RelN (va_up C 4 (sa (C 4) 4 (nI (p * 5 + f)) (nI a))) (sa M 1 (nI (5 + 5 * p + f)) (nI a)) P F T R := by
  obtain ⟨hL, hS, hI0, hI1, hB, hX⟩ := h
  have hb := hL.1
  have em : ∀ j, j ≠ 5 + 5 * p + f → sa M 1 (nI (5 + 5 * p + f)) (nI a) 1 j = M 1 j := fun j hj => by rw [sa_at (by omega), if_neg hj]
  obtain ⟨s1, s2, s3, s4, s5⟩ := hS
  refine ⟨hL, ⟨fun g hg => ?_, fun k hk => ?_, ?_, ?_, ?_⟩, RImg_M hb.2.1 hI0 rfl (fun j h1 h2 => em j (by omega)), RImg_M hb.2.1 hI1 rfl (fun j h1 h2 => em j (by omega)), hB, hX⟩
  · rw [em _ (by omega), em _ (by omega), em _ (by omega)]; exact s1 g hg
  · show sa (C 4) 4 (nI (p * 5 + f)) (nI a) 4 k = _ ∧ _
    rw [sa_at (by omega), sa_at (by omega)]
    by_cases hk2 : k = p * 5 + f
    · rw [if_pos hk2, if_pos (by omega)]; exact ⟨rfl, a, ha, rfl⟩
    · rw [if_neg hk2, if_neg (by omega)]; exact s2 k hk
  · rw [em _ (by omega)]; exact s3
  · rw [em _ (by omega)]; exact s4
  · rw [em _ (by omega)]; exact s5
/-- a fighter wears b -/
theorem RelN.belt {C : CC} {M : HC} {P F T R : Nat} (h : RelN C M P F T R) {f a : Nat} (hf : f < F) (ha : a ≤ 99) : RelN (va_up C 4 (sa (C 4) 1 (nI f) (nI a))) (sa M 1 (nI f) (nI a)) P F T R := by
  obtain ⟨hL, hS, hI0, hI1, hB, hX⟩ := h
  have hb := hL.1
  have em : ∀ j, j ≠ f → sa M 1 (nI f) (nI a) 1 j = M 1 j := fun j hj => by rw [sa_at (by omega), if_neg hj]
  obtain ⟨s1, s2, s3, s4, s5⟩ := hS
  refine ⟨hL, ⟨fun g hg => ?_, fun k hk => ?_, ?_, ?_, ?_⟩, RImg_M hb.2.1 hI0 rfl (fun j h1 h2 => em j (by omega)), RImg_M hb.2.1 hI1 rfl (fun j h1 h2 => em j (by omega)), hB, hX⟩
  · show (sa (C 4) 1 (nI f) (nI a) 1 g = _ ∧ _) ∧ _
    rw [em (0 + 35 + g) (by omega), em (0 + 40 + g) (by omega), sa_at (by omega), sa_at (by omega)]
    by_cases hk2 : g = f
    · rw [if_pos hk2, if_pos (by omega)]; exact ⟨⟨rfl, a, ha, rfl⟩, (s1 g hg).2⟩
    · rw [if_neg hk2, if_neg (by omega)]; exact s1 g hg
  · rw [em _ (by omega)]; exact s2 k hk
  · rw [em _ (by omega)]; exact s3
  · rw [em _ (by omega)]; exact s4
  · rw [em _ (by omega)]; exact s5
theorem le99 {a : Nat} (ha : a ≤ 99) : nI a ≤ (99 : Int32) := nI_le (b := 99) ha (by omega)
theorem think_m {M : HC} {p f : Nat} (hp : p < 6) (hf : f < 5) {a : Nat} (ha : a ≤ 99) : f_X7_think M (nI p) (nI f) (nI a) = some (sa M 1 (nI (5 + 5 * p + f)) (nI a)) := by
  unfold f_X7_think
  rw [if_pos (le99 ha), ix_m, if_pos (inb_nI (by omega) (by omega))]
  rfl
theorem think_cap {M : HC} {p f : Nat} (hp : p < 6) (hf : f < 5) {v : Int32} (hv : ¬ v ≤ 99) : f_X7_think M (nI p) (nI f) v = some (sa M 1 (nI (5 + 5 * p + f)) (nI 99)) := by
  unfold f_X7_think
  rw [if_neg hv, ix_m, if_pos (inb_nI (by omega) (by omega))]
  rfl
theorem rd_bd (k : Int32) {a : Nat} (ha : a ≤ 99) : ∃ b, b ≤ 99 ∧ rd k (nI a) = nI b := by
  unfold rd
  by_cases h1 : k = 1
  · rw [if_pos h1]; exact ⟨0, by omega, rfl⟩
  · rw [if_neg h1]
    by_cases h2 : k = 2
    · rw [if_pos h2]
      have e : nI a + nI a / 2 = nI (a + a / 2) := by
        have : ∀ a, a ≤ 99 → nI a + nI a / 2 = nI (a + a / 2) := by decide +kernel
        exact this a ha
      rw [e]
      by_cases h3 : a + a / 2 < 99
      · rw [if_pos (show nI (a + a / 2) < (99 : Int32) from nI_lt (b := 99) h3 (by omega))]; exact ⟨_, by omega, rfl⟩
      · rw [if_neg (show ¬ nI (a + a / 2) < (99 : Int32) from nI_nlt (a := a + a / 2) (b := 99) (by omega) (by omega))]; exact ⟨99, by omega, rfl⟩
    · rw [if_neg h2]; exact ⟨a, ha, rfl⟩
theorem be_bd {S M : HC} {F f : Nat} (h : RSt S M 0 F) (hf : f < F) : ∃ a, a ≤ 99 ∧ M 1 f = nI a := by
  have := (h.1 f hf).1.2
  rwa [Nat.zero_add] at this
theorem read_cm {C : CC} {M : HC} {P F T R : Nat} (h : RelN C M P F T R) {p f : Nat} (hp : p < P) (hf : f < F) : ∃ a, a ≤ 99 ∧ f_X6_readBelt C (nI p) (nI f) = some (nI a, va_up C 4 (sa (C 4) 4 (nI (p * 5 + f)) (nI a))) ∧ f_X7_doRead M (nI p) (nI f) = some (sa M 1 (nI (5 + 5 * p + f)) (nI a)) := by
  obtain ⟨hL, hS, -⟩ := id h
  have hb := hL.1
  obtain ⟨b, b1, b2⟩ := be_bd hS hf
  obtain ⟨c, c1, c2⟩ := rd_bd (M 4 f) b1
  obtain ⟨a, a1, a2⟩ := th_bd hS (p := p) (f := f) (by omega) (by omega)
  refine ⟨if a < c then c else a, by split <;> omega, ?_, ?_⟩
  · unfold f_X6_readBelt
    rw [slot_c]
    simp only [bd, nm]
    rw [if_pos (inb_nI (by omega) (by omega)), (rdN hL hS hf).1, b2, c2]
    simp only []
    rw [if_pos (inb_nI (by omega) (by omega)), if_pos (inb_nI (by omega) (by omega)), nI_clamp (by omega), th_eq hS (by omega) (by omega), a2]
    have e : (if nI a < nI c then nI c else nI a) = nI (if a < c then c else a) := by
      by_cases h1 : a < c
      · rw [if_pos h1, if_pos (nI_lt h1 (by omega))]
      · rw [if_neg h1, if_neg (nI_nlt (by omega) (by omega))]
    rw [e]
    show some (sa (C 4) 4 (nI (p * 5 + f)) _ 4 (p * 5 + f), _) = _
    rw [sa_at (by omega), if_pos rfl]
  · unfold f_X7_doRead
    rw [thought_m (by omega) (by omega), (rdN hL hS hf).2, b2, c2, a2]
    simp only [bd]
    by_cases h1 : a < c
    · rw [if_pos h1, if_pos (nI_le (by omega) (by omega)), think_m (by omega) (by omega) c1]
    · rw [if_neg h1]
      by_cases h2 : nI a ≤ nI c
      · have : a = c := by
          rw [nI_leI (by omega) (by omega)] at h2
          omega
        subst this
        rw [if_pos h2, think_m (by omega) (by omega) c1]
      · rw [if_neg h2, think_m (by omega) (by omega) a1]
theorem op_read {C : CC} {M : HC} (hR : Rel C M) (p1 p2 : Int32) : ∃ (v : Int32) (C2 : CC) (M2 : HC), f_X6_read C p1 p2 = some (v, C2) ∧ f_X7_read M p1 p2 = some (v, M2) ∧ Rel C2 M2 := by
  obtain ⟨P, F, T, R, hN⟩ := id hR
  have hL := hN.1
  have hb := hL.1
  unfold f_X6_read f_X7_read
  rcases isP hL p1 with ⟨k, k1, rfl, k2, k3⟩ | ⟨k2, k3⟩
  · rw [k2, k3]
    simp only [bd, if_neg one_ne0]
    rcases isF hL p2 with ⟨f, f1, rfl, f2, f3⟩ | ⟨f2, f3⟩
    · rw [f2, f3]
      simp only [if_neg one_ne0]
      obtain ⟨a, a1, a2, a3⟩ := read_cm (P := P) (F := F) (T := T) (R := R) hN k1 f1
      rw [a2, a3]
      simp only []
      rw [thought_m (by omega) (by omega), sa_at (by omega), if_pos rfl]
      exact ⟨_, _, _, rfl, rfl, (RelN.think (P := P) (F := F) (T := T) (R := R) hN k1 f1 a1).rel⟩
    · rw [f2, f3]; exact ⟨_, _, _, rfl, rfl, hR⟩
  · rw [k2, k3]; exact ⟨_, _, _, rfl, rfl, hR⟩
