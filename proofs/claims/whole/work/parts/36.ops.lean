/-! ===== pure: sets of tricks as they are given ===== -/
theorem sub_all : ∀ r, r < 5 → ∀ k, k < 32 → (-((1 : Int32) <<< (nI r &&& 31))).toBitVec.getLsbD k = decide (r ≤ k) := by decide +kernel
theorem sub_in : ∀ r, r < 5 → ∀ s, s < 16 → s < 2 ^ r → (nI s &&& (-((1 : Int32) <<< (nI r &&& 31)))) = 0 := by decide +kernel
theorem sub_top : ∀ r, r < 5 → (((1 : Int32) <<< (nI r &&& 31)) - (1 : Int32)).toInt64.toInt = ((2 ^ r : Nat) : Int) - 1 := by decide +kernel
theorem pow_16 {R : Nat} (hR : R ≤ 4) : 2 ^ R ≤ 16 := by
  have := Nat.pow_le_pow_right (n := 2) (by omega) hR
  omega
theorem set_no {R : Nat} (hR : R ≤ 4) {p : Int32} (h : (p &&& (-((1 : Int32) <<< (nI R &&& 31)))) = 0) : 0 ≤ p.toInt ∧ p.toInt < ((2 ^ R : Nat) : Int) := by
  have hb : ∀ i, i ≥ R → p.toBitVec.toNat.testBit i = false := by
    intro i hi
    by_cases h32 : i < 32
    · have e := congrArg (fun z : Int32 => z.toBitVec.getLsbD i) h
      simp only [Int32.toBitVec_and, BitVec.getLsbD_and] at e
      rw [sub_all R (by omega) i h32, decide_eq_true hi, Bool.and_true] at e
      rw [BitVec.testBit_toNat, e]
      simp
    · rw [BitVec.testBit_toNat]
      exact BitVec.getLsbD_of_ge _ _ (by omega)
  have hl := Nat.lt_pow_two_of_testBit _ hb
  have h4 := pow_16 hR
  have e : p.toInt = p.toBitVec.toNat := by
    show p.toBitVec.toInt = _
    rw [BitVec.toInt_eq_toNat_cond, if_pos (by omega)]
  rw [e]
  omega
theorem set_two {R : Nat} (hR : R ≤ 4) (p : Int32) : (∃ s, s < 16 ∧ p = nI s ∧ (p &&& (-((1 : Int32) <<< (nI R &&& 31)))) = 0 ∧ f_X7_in p.toInt64 (0 : Int64) (((1 : Int32) <<< (nI R &&& 31)) - (1 : Int32)).toInt64 = some 1) ∨ (¬ (p &&& (-((1 : Int32) <<< (nI R &&& 31)))) = 0 ∧ f_X7_in p.toInt64 (0 : Int64) (((1 : Int32) <<< (nI R &&& 31)) - (1 : Int32)).toInt64 = some 0) := by
  have h4 := pow_16 hR
  have e := in_z p (0 : Int64) (((1 : Int32) <<< (nI R &&& 31)) - (1 : Int32)).toInt64 0 (((2 ^ R : Nat) : Int) - 1) rfl (sub_top R (by omega))
  by_cases h : 0 ≤ p.toInt ∧ p.toInt < ((2 ^ R : Nat) : Int)
  · left
    have ep : p = nI p.toInt.toNat := Int32.toInt_inj.mp (by rw [nI_toInt (by omega)]; omega)
    refine ⟨p.toInt.toNat, by omega, ep, ?_, by rw [e, if_pos (by omega)]⟩
    have := sub_in R (by omega) p.toInt.toNat (by omega) (by omega)
    rw [← ep] at this
    exact this
  · right
    exact ⟨fun z => h (set_no hR z), by rw [e, if_neg (by omega)]⟩
theorem z_bits (x : Int32) : x = 0 ↔ ∀ i, i < 32 → x.toBitVec.getLsbD i = false := by
  constructor
  · intro h i _
    rw [h]
    simp
  · intro h
    exact Int32.toBitVec_inj.mp (BitVec.eq_of_getLsbD_eq fun i hi => by rw [h i hi]; simp)
theorem m1_bit : ∀ i, i < 32 → (-1 : Int32).toBitVec.getLsbD i = true := by decide +kernel
theorem free_eq (s t u : Int32) : ((s &&& ((t &&& (u ^^^ (-1 : Int32))) ^^^ (-1 : Int32))) = 0) = ((s &&& (t ^^^ (-1 : Int32))) = 0 ∧ (s &&& u) = 0) := by
  have key : ∀ a b c : Bool, (a && ((b && (c ^^ true)) ^^ true)) = ((a && (b ^^ true)) || (a && c)) := by decide
  have e : ∀ i, i < 32 → (s &&& ((t &&& (u ^^^ (-1 : Int32))) ^^^ (-1 : Int32))).toBitVec.getLsbD i = ((s &&& (t ^^^ (-1 : Int32))).toBitVec.getLsbD i || (s &&& u).toBitVec.getLsbD i) := by
    intro i hi
    simp only [Int32.toBitVec_and, Int32.toBitVec_xor, BitVec.getLsbD_and, BitVec.getLsbD_xor, m1_bit i hi]
    exact key _ _ _
  refine propext ⟨fun h => ⟨(z_bits _).mpr fun i hi => ?_, (z_bits _).mpr fun i hi => ?_⟩, fun h => (z_bits _).mpr fun i hi => ?_⟩
  · have z := (z_bits _).mp h i hi
    rw [e i hi, Bool.or_eq_false_iff] at z
    exact z.1
  · have z := (z_bits _).mp h i hi
    rw [e i hi, Bool.or_eq_false_iff] at z
    exact z.2
  · rw [e i hi, (z_bits _).mp h.1 i hi, (z_bits _).mp h.2 i hi]
    rfl
/-! ===== pure: a task is tried ===== -/
def pasB (M : HC) (R f t : Nat) (set th : Int32) : Int32 := paS (M 4 f) (M 5 f) (itf (dlStp (fun r => (M 8 (3 * r + 1)).toNatClampNeg) (fun r => M 8 (3 * r + 2)) set th) 0 R (M 7 (4 * t + 1)).toNatClampNeg) (M 7 (4 * t + 1)).toNatClampNeg th
theorem passes_cm {L M : HC} {P F T R : Nat} (hL : RLand L M P F T R) {f t : Nat} (hf : f < F) (ht : t < T) (set th : Int32) : f_X2_passes L (nI f) (nI t) set th = some (pasB M R f t set th) ∧ f_X7_passes M (nI f) (nI t) set th = some (pasB M R f t set th) := by
  obtain ⟨⟨hP, hF, hT, hRR⟩, -, -, -, ⟨l4, m13⟩, -⟩ := id hL
  obtain ⟨a, a1, a2⟩ := st_bd hL hf
  obtain ⟨d, d1, d2⟩ := da_bd hL ht
  have ed : (M 7 (4 * t + 1)).toNatClampNeg = d := by rw [d2, nI_clamp (by omega)]
  have hlo : ∀ r, r < R → M 8 (3 * r + 1) = nI (M 8 (3 * r + 1)).toNatClampNeg ∧ (M 8 (3 * r + 1)).toNatClampNeg ≤ 99 := fun r hr => by
    obtain ⟨b, b1, b2⟩ := lo_bd hL hr
    rw [b2, nI_clamp (by omega)]
    exact ⟨rfl, b1⟩
  unfold pasB
  rw [ed]
  refine ⟨?_, ?_⟩
  · rw [passes_c (L := L) (R := R) (f := f) (t := t) (d := d) (a := a) hRR l4 (by omega) (by omega) (by rw [da_eq hL ht, d2]) d1 (by rw [st_eq hL hf, a2]) (fun r => (M 8 (3 * r + 1)).toNatClampNeg) (fun r => M 8 (3 * r + 2)) (fun r hr => ⟨by rw [lo_eq hL hr]; exact (hlo r hr).1, (hlo r hr).2, ne_eq hL hr⟩) set th, kd_eq hL hf, a2]
  · rw [passes_m (M := M) (R := R) (f := f) (t := t) (d := d) (a := a) hRR m13 (by omega) (by omega) d2 d1 a2 a1 (fun r => (M 8 (3 * r + 1)).toNatClampNeg) (fun r => M 8 (3 * r + 2)) (fun r hr => ⟨(hlo r hr).1, (hlo r hr).2, rfl⟩) set th, a2]
theorem RelN.used {C : CC} {M : HC} {P F T R : Nat} (h : RelN C M P F T R) {f : Nat} (hf : f < F) (v : Int32) : RelN (va_up C 4 (sa (C 4) 3 (nI f) v)) (sa M 1 (nI (40 + f)) v) P F T R := by
  obtain ⟨hL, hS, hI0, hI1, hB, hX⟩ := h
  have hb := hL.1
  have em : ∀ j, j ≠ 40 + f → sa M 1 (nI (40 + f)) v 1 j = M 1 j := fun j hj => by rw [sa_at (by omega), if_neg hj]
  obtain ⟨s1, s2, s3, s4, s5⟩ := hS
  refine ⟨hL, ⟨fun g hg => ?_, fun k hk => ?_, ?_, ?_, ?_⟩, RImg_M hb.2.1 hI0 rfl (fun j h1 h2 => em j (by omega)), RImg_M hb.2.1 hI1 rfl (fun j h1 h2 => em j (by omega)), hB, hX⟩
  · rw [em (0 + g) (by omega), em (0 + 35 + g) (by omega)]
    refine ⟨(s1 g hg).1, (s1 g hg).2.1, ?_⟩
    show sa (C 4) 3 (nI f) v 3 g = _
    rw [sa_at (by omega), sa_at (by omega)]
    by_cases hk2 : g = f
    · rw [if_pos hk2, if_pos (by omega)]
    · rw [if_neg hk2, if_neg (by omega)]; exact (s1 g hg).2.2
  · rw [em _ (by omega)]; exact s2 k hk
  · rw [em _ (by omega)]; exact s3
  · rw [em _ (by omega)]; exact s4
  · rw [em _ (by omega)]; exact s5
theorem RelN.done {C : CC} {M : HC} {P F T R : Nat} (h : RelN C M P F T R) {f : Nat} (hf : f < F) (v : Int32) : RelN (va_up C 4 (sa (C 4) 2 (nI f) v)) (sa M 1 (nI (35 + f)) v) P F T R := by
  obtain ⟨hL, hS, hI0, hI1, hB, hX⟩ := h
  have hb := hL.1
  have em : ∀ j, j ≠ 35 + f → sa M 1 (nI (35 + f)) v 1 j = M 1 j := fun j hj => by rw [sa_at (by omega), if_neg hj]
  obtain ⟨s1, s2, s3, s4, s5⟩ := hS
  refine ⟨hL, ⟨fun g hg => ?_, fun k hk => ?_, ?_, ?_, ?_⟩, RImg_M hb.2.1 hI0 rfl (fun j h1 h2 => em j (by omega)), RImg_M hb.2.1 hI1 rfl (fun j h1 h2 => em j (by omega)), hB, hX⟩
  · rw [em (0 + g) (by omega), em (0 + 40 + g) (by omega)]
    refine ⟨(s1 g hg).1, ?_, (s1 g hg).2.2⟩
    show sa (C 4) 2 (nI f) v 2 g = _
    rw [sa_at (by omega), sa_at (by omega)]
    by_cases hk2 : g = f
    · rw [if_pos hk2, if_pos (by omega)]
    · rw [if_neg hk2, if_neg (by omega)]; exact (s1 g hg).2.1
  · rw [em _ (by omega)]; exact s2 k hk
  · rw [em _ (by omega)]; exact s3
  · rw [em _ (by omega)]; exact s4
  · rw [em _ (by omega)]; exact s5
theorem cap_eq (v : Nat) (hv : v < 2 ^ 31) : (if nI v < (99 : Int32) then nI v else (99 : Int32)) = nI (if v < 99 then v else 99) := by
  by_cases hc : v < 99
  · rw [if_pos (show nI v < (99 : Int32) from nI_lt (b := 99) hc (by omega)), if_pos hc]
  · rw [if_neg (show ¬ nI v < (99 : Int32) from nI_nlt (b := 99) (by omega) (by omega)), if_neg hc]; rfl
theorem think_any {M : HC} {p f v : Nat} (hp : p < 6) (hf : f < 5) (hv : v < 2 ^ 31) : f_X7_think M (nI p) (nI f) (nI v) = some (sa M 1 (nI (5 + 5 * p + f)) (nI (if v < 99 then v else 99))) := by
  by_cases h : v ≤ 99
  · rw [think_m hp hf h]
    by_cases h2 : v < 99
    · rw [if_pos h2]
    · rw [if_neg h2, show v = 99 by omega]
  · rw [think_cap hp hf (show ¬ nI v ≤ (99 : Int32) from nI_ge (a := 99) (by omega) hv), if_neg (by omega)]
theorem grow_c {C : CC} {P f a : Nat} (hP : P ≤ 6) (l0 : C 2 0 0 = nI P) (hf : f < 5) (ha : a ≤ 20) (th : Nat → Nat) (hth : ∀ p, p < P → C 4 4 (p * 5 + f) = nI (th p) ∧ th p ≤ 99) : ∃ C2, f_X6_grow C (nI f) (nI a) = some C2 ∧ (∀ c, c ≠ 4 → C2 c = C c) ∧ (∀ j, j ≠ 4 → C2 4 j = C 4 j) ∧ (∀ j, j < P → C2 4 4 (j * 5 + f) = nI (if th j + a < 99 then th j + a else 99)) ∧ (∀ i, (∀ j, j < P → i ≠ j * 5 + f) → C2 4 4 i = C 4 4 i) := by
  unfold f_X6_grow
  obtain ⟨X, rc, ⟨i1, i2, i3, i4⟩, h⟩ := lp_ex (T := Int32 → CC → Option CC) (z := fun _ _ => none) (F := f_X6_grow_b2 (nI f) (nI a)) (fun g k (s : CC) => g (nI k) s) P (fun k X => (∀ c, c ≠ 4 → X c = C c) ∧ (∀ j, j ≠ 4 → X 4 j = C 4 j) ∧ (∀ j, j < k → X 4 4 (j * 5 + f) = nI (if th j + a < 99 then th j + a else 99)) ∧ (∀ i, (∀ j, j < k → i ≠ j * 5 + f) → X 4 4 i = C 4 4 i)) (by
    intro rc k X hi hk
    obtain ⟨a1, a2, a3, a4⟩ := hi
    obtain ⟨e1, e2⟩ := hth k hk
    have et : X 4 4 (k * 5 + f) = nI (th k) := by rw [a4 _ (fun j hj => by omega), e1]
    have i30 : inb (nI (k * 5 + f)) 30 := inb_nI (by omega) (by omega)
    have c30 : (nI (k * 5 + f)).toNatClampNeg = k * 5 + f := nI_clamp (by omega)
    refine ⟨va_up X 4 (sa (X 4) 4 (nI (k * 5 + f)) (nI (if th k + a < 99 then th k + a else 99))), ?_, fun c hc => ?_, fun j hj => ?_, fun j hj => ?_, fun i hi => ?_⟩
    · unfold f_X6_grow_b2
      rw [a1 2 (by omega), l0, if_neg (nI_ge hk (by omega)), slot_c]
      simp only [bd, nm, if_pos i30, c30, et, nI_add, cap_eq _ (show th k + a < 2 ^ 31 by omega), nI_1]
    · rw [va_ne _ _ _ hc]; exact a1 c hc
    · rw [va_eq, sa_ne _ _ _ _ hj]; exact a2 j hj
    · rw [va_eq, sa_at (by omega)]
      by_cases hjk : j = k
      · rw [if_pos (by omega), hjk]
      · rw [if_neg (by omega)]; exact a3 j (by omega)
    · rw [va_eq, sa_at (by omega), if_neg (hi k (by omega))]; exact a4 i (fun j hj => hi j (by omega))) FU P 0 C ⟨fun _ _ => rfl, fun _ _ => rfl, fun j hj => by omega, fun i _ => rfl⟩ (by omega) (by have := FU_gt; omega)
  rw [show lp (fun _ _ => none : Int32 → CC → Option (CC)) (f_X6_grow_b2 (nI f) (nI a)) FU 0 C = f_X6_grow_b2 (nI f) (nI a) rc (nI P) X from h]
  unfold f_X6_grow_b2
  rw [i1 2 (by omega), l0, if_pos (nI_le (Nat.le_refl _) (by omega))]
  exact ⟨X, rfl, i1, i2, i3, i4⟩
theorem grow_m {M : HC} {P f t a : Nat} (hP : P ≤ 6) (m5 : M 0 5 = nI P) (hf : f < 5) (ht : t < 6) (ha : a ≤ 20) (h7 : M 7 (4 * t + 3) = nI a) (th : Nat → Nat) (hth : ∀ p, p < P → M 1 (5 + 5 * p + f) = nI (th p) ∧ th p ≤ 99) : ∃ M2, lp (fun _ _ => none : Int32 → HC → Option (Int32 × HC)) (f_X7_attempt_b159 (nI f) (nI t)) FU (0 : Int32) M = some (1, M2) ∧ (∀ j, j ≠ 1 → M2 j = M j) ∧ (∀ j, j < P → M2 1 (5 + 5 * j + f) = nI (if th j + a < 99 then th j + a else 99)) ∧ (∀ i, (∀ j, j < P → i ≠ 5 + 5 * j + f) → M2 1 i = M 1 i) := by
  obtain ⟨X, rc, ⟨i1, i2, i3⟩, h⟩ := lp_ex (T := Int32 → HC → Option (Int32 × HC)) (z := fun _ _ => none) (F := f_X7_attempt_b159 (nI f) (nI t)) (fun g k (s : HC) => g (nI k) s) P (fun k X => (∀ j, j ≠ 1 → X j = M j) ∧ (∀ j, j < k → X 1 (5 + 5 * j + f) = nI (if th j + a < 99 then th j + a else 99)) ∧ (∀ i, (∀ j, j < k → i ≠ 5 + 5 * j + f) → X 1 i = M 1 i)) (by
    intro rc k X hi hk
    obtain ⟨a1, a2, a3⟩ := hi
    obtain ⟨e1, e2⟩ := hth k hk
    have et : f_X7_thought X (nI k) (nI f) = some (nI (th k)) := by rw [thought_m (by omega) hf, a3 _ (fun j hj => by omega), e1]
    have i24 : inb (nI (4 * t + 3)) 24 := inb_nI (by omega) (by omega)
    have c24 : (nI (4 * t + 3)).toNatClampNeg = 4 * t + 3 := nI_clamp (by omega)
    have e43 : ((4 : Int32) * nI t) + (3 : Int32) = nI (4 * t + 3) := ix4 t 3
    refine ⟨sa X 1 (nI (5 + 5 * k + f)) (nI (if th k + a < 99 then th k + a else 99)), ?_, fun j hj => ?_, fun j hj => ?_, fun i hi => ?_⟩
    · unfold f_X7_attempt_b159
      rw [a1 0 (by omega), m5, if_neg (nI_ge hk (by omega)), et, e43]
      simp only [bd, nm, if_pos i24, c24, a1 7 (show 7 ≠ 1 by omega), h7, nI_add]
      rw [think_any (by omega) hf (by omega), ← nI_1]
    · rw [sa_ne _ _ _ _ hj]; exact a1 j hj
    · rw [sa_at (by omega)]
      by_cases hjk : j = k
      · rw [if_pos (by omega), hjk]
      · rw [if_neg (by omega)]; exact a2 j (by omega)
    · rw [sa_at (by omega), if_neg (hi k (by omega))]; exact a3 i (fun j hj => hi j (by omega))) FU P 0 M ⟨fun _ _ => rfl, fun j hj => by omega, fun i _ => rfl⟩ (by omega) (by have := FU_gt; omega)
  rw [show lp (fun _ _ => none : Int32 → HC → Option (Int32 × HC)) (f_X7_attempt_b159 (nI f) (nI t)) FU 0 M = f_X7_attempt_b159 (nI f) (nI t) rc (nI P) X from h]
  unfold f_X7_attempt_b159
  rw [i1 0 (by omega), m5, if_pos (nI_le (Nat.le_refl _) (by omega))]
  exact ⟨X, rfl, i1, i2, i3⟩
theorem grow_cm {C : CC} {M : HC} {P F T R f t : Nat} (h : RelN C M P F T R) (hf : f < F) (ht : t < T) : ∃ C2 M2, f_X6_grow C (nI f) (M 7 (4 * t + 3)) = some C2 ∧ lp (fun _ _ => none : Int32 → HC → Option (Int32 × HC)) (f_X7_attempt_b159 (nI f) (nI t)) FU (0 : Int32) M = some (1, M2) ∧ RelN C2 M2 P F T R := by
  obtain ⟨hL, hS, -⟩ := id h
  obtain ⟨⟨hP, hF, hT, hRR⟩, ⟨l0, m5⟩, -⟩ := id hL
  obtain ⟨a, a1, a2⟩ := fa_bd hL ht
  let th : Nat → Nat := fun p => (M 1 (5 + 5 * p + f)).toNatClampNeg
  have hm : ∀ p, p < P → M 1 (5 + 5 * p + f) = nI (th p) ∧ th p ≤ 99 := fun p hp => by
    obtain ⟨b, b1, b2⟩ := th_bd hS (p := p) (f := f) (by omega) (by omega)
    have : th p = b := by
      show (M 1 (5 + 5 * p + f)).toNatClampNeg = b
      rw [b2, nI_clamp (by omega)]
    rw [this]; exact ⟨b2, b1⟩
  obtain ⟨C2, c0, c1, c2, c3, c4⟩ := grow_c (C := C) hP l0 (f := f) (by omega) a1 th (fun p hp => by rw [th_eq hS (by omega) (by omega)]; exact hm p hp)
  obtain ⟨M2, d0, d1, d3, d4⟩ := grow_m (M := M) hP m5 (f := f) (t := t) (by omega) (by omega) a1 a2 th hm
  refine ⟨C2, M2, by rw [a2]; exact c0, d0, rel_th h hf (fun j => nI (if th j + a < 99 then th j + a else 99)) (fun j hj => ⟨_, by split <;> omega, rfl⟩) (fun c _ hc => c1 c hc) c2 c3 c4 (fun j hj _ => d1 j hj) d3 d4⟩
