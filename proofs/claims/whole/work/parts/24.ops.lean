/-! ===== pure: what belts read, sets of tasks and tricks ===== -/
def rd (k b : Int32) : Int32 := if k = 1 then 0 else if k = 2 then (if b + b / 2 < 99 then b + b / 2 else 99) else b
theorem readsAs_c {x : HC} {p : Int32} (b : Int32) (h : inb p 5) : f_X2_readsAs x p b = some (rd (x 1 p.toNatClampNeg) b) := by
  unfold f_X2_readsAs rd
  rw [if_pos h, if_pos h]
  by_cases h1 : x 1 p.toNatClampNeg = 1
  · rw [if_pos h1, if_pos h1]
  · rw [if_neg h1, if_neg h1]
    by_cases h2 : x 1 p.toNatClampNeg = 2
    · rw [if_pos h2, if_pos h2]
    · rw [if_neg h2, if_neg h2]
theorem reads_m {x : HC} {p : Int32} (b : Int32) (h : inb p 5) : f_X7_reads x p b = some (rd (x 4 p.toNatClampNeg) b) := by
  unfold f_X7_reads rd
  simp only [nm]
  rw [if_pos h, if_pos h]
  by_cases h1 : x 4 p.toNatClampNeg = 1
  · rw [if_pos h1, if_pos h1]
  · rw [if_neg h1, if_neg h1]
    by_cases h2 : x 4 p.toNatClampNeg = 2
    · rw [if_pos h2, if_pos h2]
      by_cases h3 : b + b / 2 < 99
      · rw [if_pos h3, if_pos (Int32.le_iff_toInt_le.mpr (Int.le_of_lt (Int32.lt_iff_toInt_lt.mp h3)))]
      · rw [if_neg h3]
        by_cases h4 : b + b / 2 ≤ 99
        · rw [if_pos h4]
          congr 1
          exact Int32.toInt_inj.mp (by
            rw [Int32.lt_iff_toInt_lt] at h3
            rw [Int32.le_iff_toInt_le] at h4
            omega)
        · rw [if_neg h4]
    · rw [if_neg h2, if_neg h2]
theorem readsNow_c {C : CC} {f : Nat} (hf : f < 5) : f_X6_readsNow C (nI f) = some (rd (C 2 1 f) (C 4 1 f)) := by
  unfold f_X6_readsNow
  rw [if_pos (inb_nI hf (by omega)), readsAs_c _ (inb_nI hf (by omega)), nI_clamp (by omega)]
  rfl
theorem n0_add (f : Nat) : (0 : Int32) + nI f = nI f := by
  rw [show (0 : Int32) = nI 0 from rfl, nI_add, Nat.zero_add]
theorem readsNow_m {M : HC} {f : Nat} (hf : f < 5) : f_X7_readsNow M (nI f) = some (rd (M 4 f) (M 1 f)) := by
  unfold f_X7_readsNow
  rw [n0_add, if_pos (inb_nI (by omega) (by omega)), reads_m _ (inb_nI hf (by omega)), nI_clamp (by omega)]
  rfl
theorem be_eq {S M : HC} {F f : Nat} (h : RSt S M 0 F) (hf : f < F) : S 1 f = M 1 f := by
  have := (h.1 f hf).1.1
  rwa [Nat.zero_add] at this
theorem dn_eq {S M : HC} {F f : Nat} (h : RSt S M 0 F) (hf : f < F) : S 2 f = M 1 (35 + f) := by
  have := (h.1 f hf).2.1
  rwa [Nat.zero_add] at this
theorem us_eq {S M : HC} {F f : Nat} (h : RSt S M 0 F) (hf : f < F) : S 3 f = M 1 (40 + f) := by
  have := (h.1 f hf).2.2
  rwa [Nat.zero_add] at this
theorem kd_eq {L M : HC} {P F T R f : Nat} (h : RLand L M P F T R) (hf : f < F) : L 1 f = M 4 f := (h.2.2.2.2.2.2.1 f hf).1
theorem st_eq {L M : HC} {P F T R f : Nat} (h : RLand L M P F T R) (hf : f < F) : L 2 f = M 5 f := (h.2.2.2.2.2.2.1 f hf).2.1
theorem st_bd {L M : HC} {P F T R f : Nat} (h : RLand L M P F T R) (hf : f < F) : ∃ a, a ≤ 99 ∧ M 5 f = nI a := (h.2.2.2.2.2.2.1 f hf).2.2
theorem rdN {C : CC} {M : HC} {P F T R f : Nat} (hL : RLand (C 2) M P F T R) (hS : RSt (C 4) M 0 F) (hf : f < F) : f_X6_readsNow C (nI f) = some (rd (M 4 f) (M 1 f)) ∧ f_X7_readsNow M (nI f) = some (rd (M 4 f) (M 1 f)) := by
  have hF : F ≤ 5 := hL.1.2.1
  refine ⟨?_, readsNow_m (by omega)⟩
  rw [readsNow_c (by omega), kd_eq hL hf, be_eq hS hf]
/-- worth or fame of a set of tasks -/
def sumS (g : Nat → Int32) (set : Int32) (T : Nat) : Int32 := itf (fun t s => if hb set (nI t) then s + g t else s) 0 T 0
theorem sumS_congr {g h : Nat → Int32} {set : Int32} {T : Nat} (e : ∀ t, t < T → g t = h t) : sumS g set T = sumS h set T := by
  unfold sumS
  refine itf_congr _ _ _ fun t s _ ht => ?_
  rw [e t (by omega)]
theorem worth_c {x : HC} {T : Nat} (hT : T ≤ 6) (l : x 0 3 = nI T) (set : Int32) : f_X2_worthOf x set = some (sumS (x 7) set T) := by
  unfold f_X2_worthOf f_X2_together_7
  rw [show lp (fun _ _ => none : Int32 → Int32 → Option (Int32)) (f_X2_together_7_b5 x set) FU 0 0 = some (sumS (x 7) set T) from ?_]
  · rfl
  refine lp_for (T := Int32 → Int32 → Option Int32) (fun g k s => g s (nI k)) T _ some ?_ ?_ FU T 0 0 (by omega) (by have := FU_gt; omega)
  · intro rc k s hk
    unfold f_X2_together_7_b5 f_X2_together_7_j30
    rw [l, if_neg (nI_ge hk (by omega)), has_c]
    simp only [bd, nm]
    by_cases h : hb set (nI k)
    · rw [if_pos h, if_neg one_ne0, if_pos (inb_nI (by omega) (by omega)), nI_clamp (by omega), nI_1, if_pos h]
    · rw [if_neg h, if_pos rfl, nI_1, if_neg h]
  · intro rc s
    unfold f_X2_together_7_b5
    rw [l, if_pos (nI_le (Nat.le_refl _) (by omega))]
theorem fame_c {x : HC} {T : Nat} (hT : T ≤ 6) (l : x 0 3 = nI T) (set : Int32) : f_X2_fameOf x set = some (sumS (x 8) set T) := by
  unfold f_X2_fameOf f_X2_together_8
  rw [show lp (fun _ _ => none : Int32 → Int32 → Option (Int32)) (f_X2_together_8_b5 x set) FU 0 0 = some (sumS (x 8) set T) from ?_]
  · rfl
  refine lp_for (T := Int32 → Int32 → Option Int32) (fun g k s => g s (nI k)) T _ some ?_ ?_ FU T 0 0 (by omega) (by have := FU_gt; omega)
  · intro rc k s hk
    unfold f_X2_together_8_b5 f_X2_together_8_j30
    rw [l, if_neg (nI_ge hk (by omega)), has_c]
    simp only [bd, nm]
    by_cases h : hb set (nI k)
    · rw [if_pos h, if_neg one_ne0, if_pos (inb_nI (by omega) (by omega)), nI_clamp (by omega), nI_1, if_pos h]
    · rw [if_neg h, if_pos rfl, nI_1, if_neg h]
  · intro rc s
    unfold f_X2_together_8_b5
    rw [l, if_pos (nI_le (Nat.le_refl _) (by omega))]
theorem ix4 (t c : Nat) : ((4 : Int32) * nI t) + nI c = nI (4 * t + c) := by
  rw [show (4 : Int32) = nI 4 from rfl, nI_mul, nI_add]
theorem a0 (s : Int32) : s + 0 = s := by simp
theorem worth_m {x : HC} {T : Nat} (hT : T ≤ 6) (l : x 0 11 = nI T) (set : Int32) : f_X7_worthOf x set = some (sumS (fun t => x 7 (4 * t + 2)) set T) := by
  unfold f_X7_worthOf
  refine lp_for (T := Int32 → Int32 → Option Int32) (fun g k s => g s (nI k)) T _ some ?_ ?_ FU T 0 0 (by omega) (by have := FU_gt; omega)
  · intro rc k s hk
    unfold f_X7_worthOf_b4 f_X7_worthOf_j35
    rw [l, if_neg (nI_ge hk (by omega)), has_m, show (2 : Int32) = nI 2 from rfl, ix4]
    simp only [bd, nm]
    by_cases h : hb set (nI k)
    · rw [if_pos h, if_neg one_ne0, if_pos (inb_nI (by omega) (by omega)), nI_clamp (by omega), nI_1, if_pos h]
    · rw [if_neg h, if_pos rfl, nI_1, if_neg h, a0]
  · intro rc s
    unfold f_X7_worthOf_b4
    rw [l, if_pos (nI_le (Nat.le_refl _) (by omega))]
theorem fame_m {x : HC} {T : Nat} (hT : T ≤ 6) (l : x 0 11 = nI T) (set : Int32) : f_X7_fameOf x set = some (sumS (fun t => x 7 (4 * t + 3)) set T) := by
  unfold f_X7_fameOf
  refine lp_for (T := Int32 → Int32 → Option Int32) (fun g k s => g s (nI k)) T _ some ?_ ?_ FU T 0 0 (by omega) (by have := FU_gt; omega)
  · intro rc k s hk
    unfold f_X7_fameOf_b4 f_X7_fameOf_j35
    rw [l, if_neg (nI_ge hk (by omega)), has_m, show (3 : Int32) = nI 3 from rfl, ix4]
    simp only [bd, nm]
    by_cases h : hb set (nI k)
    · rw [if_pos h, if_neg one_ne0, if_pos (inb_nI (by omega) (by omega)), nI_clamp (by omega), nI_1, if_pos h]
    · rw [if_neg h, if_pos rfl, nI_1, if_neg h, a0]
  · intro rc s
    unfold f_X7_fameOf_b4
    rw [l, if_pos (nI_le (Nat.le_refl _) (by omega))]
theorem worth_cm {L M : HC} {P F T R : Nat} (hL : RLand L M P F T R) (set : Int32) : f_X2_worthOf L set = some (sumS (fun t => M 7 (4 * t + 2)) set T) ∧ f_X7_worthOf M set = some (sumS (fun t => M 7 (4 * t + 2)) set T) := by
  obtain ⟨⟨hP, hF, hT, hRR⟩, -, -, ⟨l3, m3⟩, -, -, -, -, ht, -⟩ := hL
  refine ⟨?_, worth_m hT m3 set⟩
  rw [worth_c hT l3, sumS_congr fun t h => (ht t h).2.2.1.1]
theorem fame_cm {L M : HC} {P F T R : Nat} (hL : RLand L M P F T R) (set : Int32) : f_X2_fameOf L set = some (sumS (fun t => M 7 (4 * t + 3)) set T) ∧ f_X7_fameOf M set = some (sumS (fun t => M 7 (4 * t + 3)) set T) := by
  obtain ⟨⟨hP, hF, hT, hRR⟩, -, -, ⟨l3, m3⟩, -, -, -, -, ht, -⟩ := hL
  refine ⟨?_, fame_m hT m3 set⟩
  rw [fame_c hT l3, sumS_congr fun t h => (ht t h).2.2.2.1]
/-- the tricks of a task -/
def trS (g : Nat → Int32) (t : Int32) (R : Nat) : Int32 := itf (fun r s => if g r = t then s ||| ((1 : Int32) <<< (nI r &&& 31)) else s) 0 R 0
theorem tricks_c {x : HC} {R : Nat} (hR : R ≤ 4) (l : x 0 4 = nI R) (t : Int32) : f_X2_tricksOf x t = some (trS (x 9) t R) := by
  unfold f_X2_tricksOf
  refine lp_for (T := Int32 → Int32 → Option Int32) (fun g k s => g s (nI k)) R _ some ?_ ?_ FU R 0 0 (by omega) (by have := FU_gt; omega)
  · intro rc k s hk
    unfold f_X2_tricksOf_b4 f_X2_tricksOf_j28
    rw [l, if_neg (nI_ge hk (by omega)), if_pos (inb_nI (by omega) (by omega)), nI_clamp (by omega)]
    simp only [nm]
    rw [nI_1]
    split <;> rfl
  · intro rc s
    unfold f_X2_tricksOf_b4
    rw [l, if_pos (nI_le (Nat.le_refl _) (by omega))]
theorem ix3 (t c : Nat) : ((3 : Int32) * nI t) + nI c = nI (3 * t + c) := by
  rw [show (3 : Int32) = nI 3 from rfl, nI_mul, nI_add]
theorem ix30 (t : Nat) : ((3 : Int32) * nI t) = nI (3 * t) := by
  rw [show (3 : Int32) = nI 3 from rfl, nI_mul]
theorem ix40 (t : Nat) : ((4 : Int32) * nI t) = nI (4 * t) := by
  rw [show (4 : Int32) = nI 4 from rfl, nI_mul]
theorem o0 (s : Int32) : s ||| 0 = s := by simp
theorem tricks_m {x : HC} {R : Nat} (hR : R ≤ 4) (l : x 0 13 = nI R) (t : Int32) : f_X7_tricksOf x t = some (trS (fun r => x 8 (3 * r)) t R) := by
  unfold f_X7_tricksOf
  refine lp_for (T := Int32 → Int32 → Option Int32) (fun g k s => g s (nI k)) R _ some ?_ ?_ FU R 0 0 (by omega) (by have := FU_gt; omega)
  · intro rc k s hk
    unfold f_X7_tricksOf_b4 f_X7_tricksOf_j32
    rw [l, if_neg (nI_ge hk (by omega)), ix30, if_pos (inb_nI (by omega) (by omega)), nI_clamp (by omega)]
    simp only [nm]
    rw [nI_1, o0]
    split <;> rfl
  · intro rc s
    unfold f_X7_tricksOf_b4
    rw [l, if_pos (nI_le (Nat.le_refl _) (by omega))]
theorem trS_congr {g h : Nat → Int32} {t : Int32} {R : Nat} (e : ∀ r, r < R → g r = h r) : trS g t R = trS h t R := by
  unfold trS
  refine itf_congr _ _ _ fun r s _ hr => ?_
  rw [e r (by omega)]
theorem tricks_cm {L M : HC} {P F T R : Nat} (hL : RLand L M P F T R) (t : Int32) : f_X2_tricksOf L t = some (trS (fun r => M 8 (3 * r)) t R) ∧ f_X7_tricksOf M t = some (trS (fun r => M 8 (3 * r)) t R) := by
  obtain ⟨⟨hP, hF, hT, hRR⟩, -, -, -, ⟨l4, m4⟩, -, -, -, -, hr⟩ := hL
  refine ⟨?_, tricks_m hRR m4 t⟩
  rw [tricks_c hRR l4, trS_congr fun r h => (hr r h).1]
theorem nl (c f : Nat) : nI c + nI f = nI (c + f) := nI_add c f
theorem op_fighter {C : CC} {M : HC} (hR : Rel C M) (p1 p2 : Int32) : ∃ (v : Int32), f_X6_fighter C p1 p2 = some v ∧ f_X7_fighter M p1 p2 = some v ∧ Rel C M := by
  obtain ⟨P, F, T, R, hL, hS, hI0, hI1, hB, hX⟩ := id hR
  have hb := hL.1
  unfold f_X6_fighter f_X7_fighter
  rcases isF hL p1 with ⟨f, f1, rfl, f2, f3⟩ | ⟨f2, f3⟩
  · rw [f2, f3]
    simp only [bd, if_neg one_ne0]
    have hf5 : f < 5 := by omega
    rw [n0_add, show (35 : Int32) = nI 35 from rfl, show (40 : Int32) = nI 40 from rfl, nl, nl]
    rw [if_pos (inb_nI hf5 (by omega)), if_pos (inb_nI hf5 (by omega)), if_pos (inb_nI hf5 (by omega)), if_pos (inb_nI hf5 (by omega)), if_pos (inb_nI hf5 (by omega)), if_pos (inb_nI hf5 (by omega))]
    rw [if_pos (inb_nI hf5 (by omega)), if_pos (inb_nI hf5 (by omega))]
    rw [if_pos (inb_nI (k := f) (n := 141) (by omega) (by omega)), if_pos (inb_nI (k := 35 + f) (n := 141) (by omega) (by omega)), if_pos (inb_nI (k := 40 + f) (n := 141) (by omega) (by omega)), if_pos (inb_nI (k := 35 + f) (n := 141) (by omega) (by omega))]
    rw [nI_clamp (n := f) (by omega), nI_clamp (n := 35 + f) (by omega), nI_clamp (n := 40 + f) (by omega), (rdN hL hS f1).1, (rdN hL hS f1).2, kd_eq hL f1, st_eq hL f1, be_eq hS f1, dn_eq hS f1, us_eq hS f1, (worth_cm hL _).1, (worth_cm hL _).2]
    simp only []
    repeat' split
    all_goals exact ⟨_, rfl, rfl, hR⟩
  · rw [f2, f3]; exact ⟨_, rfl, rfl, hR⟩
