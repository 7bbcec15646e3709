/-! ===== pure: does he pass? ===== -/
/-- what tricks leave of the danger -/
def dlStp (lo : Nat → Nat) (ne : Nat → Int32) (set th : Int32) : Nat → Nat → Nat := fun r c => if hb set (nI r) ∧ ¬ th < ne r then c - lo r else c
theorem danger_c {L : HC} {R t d : Nat} (hR : R ≤ 4) (l4 : L 0 4 = nI R) (ht : t < 6) (hd : L 6 t = nI d) (hd9 : d ≤ 99) (lo : Nat → Nat) (ne : Nat → Int32) (hlo : ∀ r, r < R → L 10 r = nI (lo r) ∧ lo r ≤ 99 ∧ L 11 r = ne r) (set th : Int32) : f_X2_dangerLeft L (nI t) set th = some (nI (itf (dlStp lo ne set th) 0 R d)) ∧ itf (dlStp lo ne set th) 0 R d ≤ d := by
  unfold f_X2_dangerLeft
  rw [if_pos (inb_nI (by omega) (by omega)), nI_clamp (by omega), hd]
  simp only [nm]
  obtain ⟨c, rc, ⟨i1, i2⟩, h⟩ := lp_ex (T := Int32 → Int32 → Option Int32) (z := fun _ _ => none) (F := f_X2_dangerLeft_b11 L set th) (fun g k (c : Nat) => g (nI c) (nI k)) R (fun k c => c = itf (dlStp lo ne set th) 0 k d ∧ c ≤ d) (by
    intro rc k c hi hk
    obtain ⟨h1, h2⟩ := hi
    obtain ⟨e1, e2, e3⟩ := hlo k hk
    refine ⟨dlStp lo ne set th k c, ?_, by rw [itf_snoc, ← h1, Nat.zero_add], by unfold dlStp; split <;> omega⟩
    unfold f_X2_dangerLeft_b11 f_X2_dangerLeft_j56 dlStp
    simp only [l4, if_neg (nI_ge hk (by omega)), has_c, bd, if_pos (inb_nI (k := k) (n := 4) (by omega) (by omega)), nI_clamp (show k < 2 ^ 31 by omega), nm, nI_1, e1, e3]
    by_cases hh : hb set (nI k)
    · rw [if_pos hh, if_neg one_ne0]
      by_cases hn : th < ne k
      · rw [if_pos hn, if_neg (show ¬ (hb set (nI k) ∧ ¬ th < ne k) from fun z => z.2 hn)]
      · rw [if_neg hn, if_pos (show hb set (nI k) ∧ ¬ th < ne k from ⟨hh, hn⟩)]
        by_cases hl : lo k < c
        · rw [nI_sub (show lo k ≤ c by omega) (by omega), if_pos (show (0 : Int32) < nI (c - lo k) from nI_lt (a := 0) (by omega) (by omega))]
        · have e : ¬ (0 : Int32) < nI c - nI (lo k) := by
            rw [i_lt, t0, t_sub (by rw [nI_toInt (by omega), nI_toInt (by omega)]; omega) (by rw [nI_toInt (by omega), nI_toInt (by omega)]; omega), nI_toInt (by omega), nI_toInt (by omega)]
            omega
          rw [if_neg e, show c - lo k = 0 by omega]
          rfl
    · rw [if_neg hh, if_pos rfl, if_neg (show ¬ (hb set (nI k) ∧ ¬ th < ne k) from fun z => hh z.1)]) FU R 0 d ⟨rfl, Nat.le_refl _⟩ (by omega) (by have := FU_gt; omega)
  rw [show lp (fun _ _ => none : Int32 → Int32 → Option (Int32)) (f_X2_dangerLeft_b11 L set th) FU (nI d) 0 = f_X2_dangerLeft_b11 L set th rc (nI c) (nI R) from h]
  unfold f_X2_dangerLeft_b11
  rw [l4, if_pos (nI_le (Nat.le_refl _) (by omega)), i1]
  exact ⟨rfl, by rw [← i1]; exact i2⟩
/-- what the reference has left: whole, perhaps below 0 -/
def dzStp (lo : Nat → Nat) (ne : Nat → Int32) (set th : Int32) : Nat → Int → Int := fun r z => if hb set (nI r) ∧ ¬ th < ne r then z - lo r else z
theorem dz_dl (lo : Nat → Nat) (ne : Nat → Int32) (set th : Int32) (d : Nat) : ∀ k, (itf (dzStp lo ne set th) 0 k (d : Int)).toNat = itf (dlStp lo ne set th) 0 k d := by
  intro k
  induction k with
  | zero => exact Int.toNat_natCast d
  | succ k ih =>
    rw [itf_snoc, itf_snoc, ← ih, Nat.zero_add]
    generalize itf (dzStp lo ne set th) 0 k (d : Int) = z
    unfold dzStp dlStp
    by_cases h : hb set (nI k) ∧ ¬ th < ne k
    · rw [if_pos h, if_pos h]; omega
    · rw [if_neg h, if_neg h]
/-- passes, as both say it -/
def paS (kind st : Int32) (left d : Nat) (th : Int32) : Int32 := if kind = 4 then 0 else if nI d < th then 1 else if st < nI left then 0 else 1
theorem passes_m {M : HC} {R f t d a : Nat} (hR : R ≤ 4) (m13 : M 0 13 = nI R) (hf : f < 5) (ht : t < 6) (hd : M 7 (4 * t + 1) = nI d) (hd9 : d ≤ 99) (ha : M 5 f = nI a) (ha9 : a ≤ 99) (lo : Nat → Nat) (ne : Nat → Int32) (hlo : ∀ r, r < R → M 8 (3 * r + 1) = nI (lo r) ∧ lo r ≤ 99 ∧ M 8 (3 * r + 2) = ne r) (set th : Int32) : f_X7_passes M (nI f) (nI t) set th = some (paS (M 4 f) (nI a) (itf (dlStp lo ne set th) 0 R d) d th) := by
  unfold f_X7_passes
  rw [show (1 : Int32) = nI 1 from rfl, ix4, if_pos (inb_nI (by omega) (by omega)), nI_clamp (by omega), hd]
  simp only [nm]
  obtain ⟨v, rc, ⟨i1, i2, i3⟩, h⟩ := lp_ex (T := Int32 → Int32 → Option Int32) (z := fun _ _ => none) (F := f_X7_passes_b19 M (nI f) set th (nI d)) (fun g k (v : Int32) => g v (nI k)) R (fun k v => v.toInt = itf (dzStp lo ne set th) 0 k (d : Int) ∧ -(100 * k : Int) ≤ v.toInt ∧ v.toInt ≤ d) (by
    intro rc k v hi hk
    obtain ⟨h1, h2, h3⟩ := hi
    obtain ⟨e1, e2, e3⟩ := hlo k hk
    have es : f_X7_passes_b19 M (nI f) set th (nI d) rc v (nI k) = if hb set (nI k) ∧ ¬ th < ne k then rc (v - nI (lo k)) (nI (k + 1)) else rc v (nI (k + 1)) := by
      unfold f_X7_passes_b19 f_X7_passes_j69 f_X7_passes_j70
      simp only [m13, if_neg (nI_ge hk (by omega)), has_m, show (2 : Int32) = nI 2 from rfl, show ((3 : Int32) * nI k) + (1 : Int32) = nI (3 * k + 1) from ix3 k 1, ix3, bd, if_pos (inb_nI (k := 3 * k + 2) (n := 12) (by omega) (by omega)), if_pos (inb_nI (k := 3 * k + 1) (n := 12) (by omega) (by omega)), nI_clamp (show 3 * k + 2 < 2 ^ 31 by omega), nI_clamp (show 3 * k + 1 < 2 ^ 31 by omega), nm, nI_1, e1, e3, show v - (0 : Int32) = v by simp]
      by_cases hh : hb set (nI k)
      · rw [if_pos hh, if_neg one_ne0]
        by_cases hn : th < ne k
        · rw [if_pos hn, if_neg (show ¬ (hb set (nI k) ∧ ¬ th < ne k) from fun z => z.2 hn)]
        · rw [if_neg hn, if_pos (show hb set (nI k) ∧ ¬ th < ne k from ⟨hh, hn⟩)]
      · rw [if_neg hh, if_pos rfl, if_neg (show ¬ (hb set (nI k) ∧ ¬ th < ne k) from fun z => hh z.1)]
    by_cases hc : hb set (nI k) ∧ ¬ th < ne k
    · have ev : (v - nI (lo k)).toInt = v.toInt - lo k := by
        rw [t_sub (by rw [nI_toInt (by omega)]; omega) (by rw [nI_toInt (by omega)]; omega), nI_toInt (by omega)]
      refine ⟨v - nI (lo k), by rw [es, if_pos hc], ?_, by rw [ev]; omega, by rw [ev]; omega⟩
      rw [itf_snoc, ← h1, Nat.zero_add, ev]
      unfold dzStp
      rw [if_pos hc]
    · refine ⟨v, by rw [es, if_neg hc], ?_, by omega, h3⟩
      rw [itf_snoc, ← h1, Nat.zero_add]
      unfold dzStp
      rw [if_neg hc]) FU R 0 (nI d) ⟨nI_toInt (by omega), by rw [nI_toInt (by omega)]; omega, by rw [nI_toInt (by omega)]; omega⟩ (by omega) (by have := FU_gt; omega)
  rw [show lp (fun _ _ => none : Int32 → Int32 → Option (Int32)) (f_X7_passes_b19 M (nI f) set th (nI d)) FU (nI d) 0 = f_X7_passes_b19 M (nI f) set th (nI d) rc v (nI R) from h]
  have hl := dz_dl lo ne set th d R
  rw [← i1] at hl
  unfold f_X7_passes_b19
  rw [m13, if_pos (nI_le (Nat.le_refl _) (by omega))]
  have j90 : ∀ n : Nat, n ≤ 99 → n = v.toInt.toNat → f_X7_passes_j90 M (nI f) th (nI d) (nI n) = some (paS (M 4 f) (nI a) (itf (dlStp lo ne set th) 0 R d) d th) := by
    intro n hn e
    unfold f_X7_passes_j90 f_X7_passes_j120 f_X7_passes_j124 paS
    rw [if_pos (inb_nI hf (by omega)), if_pos (inb_nI hf (by omega)), nI_clamp (by omega), ha, ← hl, ← e]
    by_cases hk : M 4 f = 4
    · rw [if_pos hk, if_pos hk]
    · rw [if_neg hk, if_neg hk]
      by_cases h1 : n ≤ a
      · rw [if_pos (nI_le h1 (by omega)), if_neg (show ¬ nI a < nI n from nI_nlt h1 (by omega))]
        split <;> rfl
      · rw [if_neg (nI_ge (by omega) (by omega)), if_pos (show nI a < nI n from nI_lt (by omega) (by omega))]
        by_cases h2 : nI d < th
        · rw [if_neg (by rw [i_lt] at h2; rw [i_le]; omega), if_pos h2]
        · rw [if_pos (by rw [i_lt] at h2; rw [i_le]; omega), if_neg h2]
  by_cases hz : 0 ≤ v
  · rw [if_pos hz]
    have hz2 : 0 ≤ v.toInt := by rw [i_le, t0] at hz; exact hz
    have ev : v = nI v.toInt.toNat := Int32.toInt_inj.mp (by rw [nI_toInt (by omega)]; omega)
    rw [ev]
    exact j90 _ (by omega) rfl
  · rw [if_neg hz]
    have hz2 : ¬ 0 ≤ v.toInt := by rw [i_le, t0] at hz; exact hz
    exact j90 0 (by omega) (by omega)
theorem passes_c {L : HC} {R f t d a : Nat} (hR : R ≤ 4) (l4 : L 0 4 = nI R) (hf : f < 5) (ht : t < 6) (hd : L 6 t = nI d) (hd9 : d ≤ 99) (ha : L 2 f = nI a) (lo : Nat → Nat) (ne : Nat → Int32) (hlo : ∀ r, r < R → L 10 r = nI (lo r) ∧ lo r ≤ 99 ∧ L 11 r = ne r) (set th : Int32) : f_X2_passes L (nI f) (nI t) set th = some (paS (L 1 f) (nI a) (itf (dlStp lo ne set th) 0 R d) d th) := by
  unfold f_X2_passes f_X2_passes_j40 paS
  rw [if_pos (inb_nI hf (by omega)), if_pos (inb_nI ht (by omega)), if_pos (inb_nI hf (by omega)), nI_clamp (n := f) (by omega), nI_clamp (n := t) (by omega), hd, ha, (danger_c hR l4 ht hd hd9 lo ne hlo set th).1]
  simp only [bd]
  by_cases hk : L 1 f = 4
  · rw [if_pos hk, if_pos hk]
  · rw [if_neg hk, if_neg hk]
    by_cases h2 : nI d < th
    · rw [if_pos h2, if_pos h2]
    · rw [if_neg h2, if_neg h2]
      split <;> rfl
