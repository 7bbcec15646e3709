/-! ===== pure: does he pass? ===== -/
/-- what tricks leave of the danger -/
def dlStp (lo : Nat → Nat) (ne : Nat → Int32) (set th : Int32) : Nat → Nat → Nat := fun r c => if hb set (nI r) ∧ ¬ th < ne r then c - lo r else c
theorem danger_c {L : HC} {R t d : Nat} (hR : R ≤ 4) (l4 : L 0 4 = nI R) (ht : t < 6) (hd : L 6 t = nI d) (hd9 : d ≤ 99) (lo : Nat → Nat) (ne : Nat → Int32) (hlo : ∀ r, r < R → L 10 r = nI (lo r) ∧ lo r ≤ 99 ∧ L 11 r = ne r) (set th : Int32) : f_X2_dangerLeft L (nI t) set th = some (nI (itf (dlStp lo ne set th) 0 R d)) ∧ itf (dlStp lo ne set th) 0 R d ≤ d := by
  unfold f_X2_dangerLeft
  rw [if_pos (inb_nI (by omega) (by omega)), nI_clamp (by omega), hd]
  simp only [nm]
  obtain ⟨c, rc, ⟨i1, i2⟩, h⟩ := lp_ex (T := Int32 → Int32 → Option Int32) (z := fun _ _ => none) (F := f_X2_dangerLeft_b11 L set th) (fun g k (c : Nat) => g (nI c) (nI k)) R (fun k c => c = itf (dlStp lo ne set th) 0 k d ∧ c ≤ d) (by
    intro rc k c hi hk
    obtain ⟨h1, h2⟩ := hi
    obtain ⟨e1, e2, e3⟩ := hlo k hk
    refine ⟨dlStp lo ne set th k c, ?_, by rw [itf_snoc, ← h1, Nat.zero_add], by unfold dlStp; split <;> omega⟩
    unfold f_X2_dangerLeft_b11 f_X2_dangerLeft_j56 dlStp
    simp only [l4, if_neg (nI_ge hk (by omega)), has_c, bd, if_pos (inb_nI (k := k) (n := 4) (by omega) (by omega)), nI_clamp (show k < 2 ^ 31 by omega), nm, nI_1, e1, e3]
    by_cases hh : hb set (nI k)
    · rw [if_pos hh, if_neg one_ne0]
      by_cases hn : th < ne k
      · rw [if_pos hn, if_neg (show ¬ (hb set (nI k) ∧ ¬ th < ne k) from fun z => z.2 hn)]
      · rw [if_neg hn, if_pos (show hb set (nI k) ∧ ¬ th < ne k from ⟨hh, hn⟩)]
        by_cases hl : lo k < c
        · rw [nI_sub (show lo k ≤ c by omega) (by omega), if_pos (show (0 : Int32) < nI (c - lo k) from nI_lt (a := 0) (by omega) (by omega))]
        · have e : ¬ (0 : Int32) < nI c - nI (lo k) := by
            rw [i_lt, t0, t_sub (by rw [nI_toInt (by omega), nI_toInt (by omega)]; omega) (by rw [nI_toInt (by omega), nI_toInt (by omega)]; omega), nI_toInt (by omega), nI_toInt (by omega)]
            omega
          rw [if_neg e, show c - lo k = 0 by omega]
          rfl
    · rw [if_neg hh, if_pos rfl, if_neg (show ¬ (hb set (nI k) ∧ ¬ th < ne k) from fun z => hh z.1)]) FU R 0 d ⟨rfl, Nat.le_refl _⟩ (by omega) (by have := FU_gt; omega)
  rw [show lp (fun _ _ => none : Int32 → Int32 → Option (Int32)) (f_X2_dangerLeft_b11 L set th) FU (nI d) 0 = f_X2_dangerLeft_b11 L set th rc (nI c) (nI R) from h]
  unfold f_X2_dangerLeft_b11
  rw [l4, if_pos (nI_le (Nat.le_refl _) (by omega)), i1]
  exact ⟨rfl, by rw [← i1]; exact i2⟩
