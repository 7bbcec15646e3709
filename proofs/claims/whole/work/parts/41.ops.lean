/-! ===== pure: what to write on a belt: the numbers ===== -/
def tqN (M : HC) (p g : Nat) : Nat := (M 1 (5 + 5 * p + g)).toNatClampNeg
def rqN (M : HC) (g b : Nat) : Nat := (rd (M 4 g) (nI b)).toNatClampNeg
def mxN (a c : Nat) : Nat := if a < c then c else a
def tvN (M : HC) (bl : Nat → Nat) (p g : Nat) : Nat := mxN (tqN M p g) (rqN M g (bl g))
def rvStp (M : HC) (bl : Nat → Nat) (f p : Nat) : Nat → Nat → Nat := fun g r => if g = f then r else mxN r (tvN M bl p g + 1)
def rvN (M : HC) (bl : Nat → Nat) (f p k : Nat) : Nat := itf (rvStp M bl f p) 0 k 0
def foStp (M : HC) (bl : Nat → Nat) (f F b : Nat) : Nat → Nat → Nat := fun p n => if rvN M bl f p F ≤ mxN (tqN M p f) (rqN M f b) then n + 1 else n
def foN (M : HC) (bl : Nat → Nat) (f F P b : Nat) : Nat := itf (foStp M bl f F b) 0 P 0
def gaI (M : HC) (bl : Nat → Nat) (f F P b : Nat) : Int32 := (10 : Int32) * nI (foN M bl f F P b) - (3 : Int32) * ((if (0 : Int32) < nI (rqN M f b) - M 5 f then nI (rqN M f b) - M 5 f else (0 : Int32)) / (10 : Int32))
def bsStp (M : HC) (bl : Nat → Nat) (f F P : Nat) : Nat → Nat × Int32 → Nat × Int32 := fun j s => if gaI M bl f F P (10 * j) ≤ s.2 then s else (10 * j, gaI M bl f F P (10 * j))
def bsN (M : HC) (bl : Nat → Nat) (f F P : Nat) : Nat := (itf (bsStp M bl f F P) 1 9 (0, gaI M bl f F P 0)).1
def rnStp (M : HC) (F P : Nat) : Nat → Nat × (Nat → Nat) → Nat × (Nat → Nat) := fun f s => (if s.1 = 0 then (if bsN M s.2 f F P = s.2 f then 0 else 1) else 1, fun g => if g = f then bsN M s.2 f F P else s.2 g)
def rnS (M : HC) (F P k : Nat) (bl : Nat → Nat) : Nat × (Nat → Nat) := itf (rnStp M F P) 0 k (0, bl)
theorem rq_e (M : HC) (g : Nat) {b : Nat} (hb : b ≤ 99) : rd (M 4 g) (nI b) = nI (rqN M g b) ∧ rqN M g b ≤ 99 := by
  obtain ⟨c, c1, c2⟩ := rd_bd (M 4 g) hb
  unfold rqN
  rw [c2, nI_clamp (by omega)]
  exact ⟨rfl, c1⟩
theorem tq_e {S M : HC} {F p g : Nat} (hS : RSt S M 0 F) (hp : p < 6) (hg : g < 5) : M 1 (5 + 5 * p + g) = nI (tqN M p g) ∧ tqN M p g ≤ 99 := by
  obtain ⟨a, a1, a2⟩ := th_bd hS hp hg
  unfold tqN
  rw [a2, nI_clamp (by omega)]
  exact ⟨rfl, a1⟩
theorem mxN_le {a c n : Nat} (ha : a ≤ n) (hc : c ≤ n) : mxN a c ≤ n := by
  unfold mxN
  split <;> omega
theorem mx_nI {a c : Nat} (ha : a < 2 ^ 31) (hc : c < 2 ^ 31) : (if nI a < nI c then nI c else nI a) = nI (mxN a c) := by
  unfold mxN
  by_cases h : a < c
  · rw [if_pos (nI_lt h hc), if_pos h]
  · rw [if_neg (nI_nlt (by omega) ha), if_neg h]
theorem mx_nI2 {a c : Nat} (ha : a < 2 ^ 31) (hc : c < 2 ^ 31) : (if nI c ≤ nI a then nI a else nI c) = nI (mxN a c) := by
  unfold mxN
  by_cases h : a < c
  · rw [if_neg (nI_ge h hc), if_pos h]
  · rw [if_pos (nI_le (by omega) ha), if_neg h]
theorem le_wI {v r : Nat} (hv : v < 1000) (hr : r < 1000) : nI v ≤ wI r ↔ v < r := by
  cases r with
  | zero =>
    rw [wI_0, i_le, nI_toInt (by omega), show (-1 : Int32).toInt = -1 by decide]
    omega
  | succ r =>
    rw [wI_s, nI_leI (by omega) (by omega)]
    omega
theorem lt_wI {v r : Nat} (hv : v < 1000) (hr : r < 1000) : wI r < nI v ↔ r ≤ v := by
  have := le_wI hv hr
  rw [i_le] at this
  rw [i_lt]
  omega
theorem mx_wI {r t : Nat} (hr : r < 1000) (ht : t < 999) : (if wI r < nI t then nI t else wI r) = wI (mxN r (t + 1)) := by
  unfold mxN
  by_cases h : r ≤ t
  · rw [if_pos ((lt_wI (by omega) hr).mpr h), if_pos (by omega), wI_s]
  · rw [if_neg (fun z => h ((lt_wI (by omega) hr).mp z)), if_neg (by omega)]
theorem tv_le {S M : HC} {F p g : Nat} {bl : Nat → Nat} (hS : RSt S M 0 F) (hbl : ∀ g, bl g ≤ 99) (hp : p < 6) (hg : g < 5) : tvN M bl p g ≤ 99 := mxN_le (tq_e hS hp hg).2 (rq_e M g (hbl g)).2
theorem rv_le {S M : HC} {F p f : Nat} {bl : Nat → Nat} (hS : RSt S M 0 F) (hbl : ∀ g, bl g ≤ 99) (hp : p < 6) : ∀ k, k ≤ 5 → rvN M bl f p k ≤ 100 := by
  intro k
  induction k with
  | zero => intro _; exact Nat.zero_le _
  | succ k ih =>
    intro hk
    have i := ih (by omega)
    have t := tv_le (p := p) (g := k) hS hbl hp (by omega)
    unfold rvN at i ⊢
    rw [itf_snoc, Nat.zero_add]
    unfold rvStp at i ⊢
    split
    · exact i
    · exact mxN_le i (by omega)
theorem fo_le (M : HC) (bl : Nat → Nat) (f F b : Nat) : ∀ P, foN M bl f F P b ≤ P := by
  intro P
  induction P with
  | zero => exact Nat.le_refl _
  | succ P ih =>
    unfold foN at ih ⊢
    rw [itf_snoc, Nat.zero_add]
    generalize itf (foStp M bl f F b) 0 P 0 = n at ih ⊢
    unfold foStp
    split <;> omega
theorem rvN_congr {M : HC} {bl bl' : Nat → Nat} {f p : Nat} (h : ∀ g, g ≠ f → bl g = bl' g) (k : Nat) : rvN M bl f p k = rvN M bl' f p k := by
  unfold rvN
  refine itf_congr _ _ _ fun g r _ _ => ?_
  unfold rvStp tvN
  by_cases hg : g = f
  · rw [if_pos hg, if_pos hg]
  · rw [if_neg hg, if_neg hg, h g hg]
theorem gaI_congr {M : HC} {bl bl' : Nat → Nat} {f F P : Nat} (h : ∀ g, g ≠ f → bl g = bl' g) (b : Nat) : gaI M bl f F P b = gaI M bl' f F P b := by
  unfold gaI
  have : foN M bl f F P b = foN M bl' f F P b := by
    unfold foN
    refine itf_congr _ _ _ fun p n _ _ => ?_
    unfold foStp
    rw [rvN_congr h F]
  rw [this]
theorem ga_0 {M : HC} {bl : Nat → Nat} {f F P a : Nat} (hP : P ≤ 6) (h5 : M 5 f = nI a) (ha : a ≤ 99) : ¬ gaI M bl f F P 0 ≤ (-1000 : Int32) := by
  have hr : rqN M f 0 = 0 := by
    unfold rqN rd
    by_cases h1 : M 4 f = 1
    · rw [if_pos h1]; rfl
    · rw [if_neg h1]
      by_cases h2 : M 4 f = 2
      · rw [if_pos h2]; decide
      · rw [if_neg h2]; rfl
  have hn := fo_le M bl f F 0 P
  unfold gaI
  have hd : ¬ (0 : Int32) < nI 0 - nI a := by
    rw [i_lt, t0, t_sub (by rw [nI_toInt (by omega), nI_toInt (by omega)]; omega) (by rw [nI_toInt (by omega), nI_toInt (by omega)]; omega), nI_toInt (by omega), nI_toInt (by omega)]
    omega
  rw [hr, h5, if_neg hd, show (3 : Int32) * ((0 : Int32) / (10 : Int32)) = 0 by decide, show (10 : Int32) = nI 10 from rfl, nI_mul, Int32.sub_zero, i_le, nI_toInt (by omega), show (-1000 : Int32).toInt = -1000 by decide]
  omega
theorem bs_bd (M : HC) (bl : Nat → Nat) (f F P : Nat) : bsN M bl f F P ≤ 90 := by
  have := itf_inv (stp := bsStp M bl f F P) (fun k (s : Nat × Int32) => s.1 ≤ 90) 9 1 (0, gaI M bl f F P 0) (by dsimp only; omega) (fun j s h1 h2 hs => by
    unfold bsStp
    split
    · exact hs
    · dsimp only; omega)
  exact this
theorem rn_bd (M : HC) (F P : Nat) {bl : Nat → Nat} (hbl : ∀ g, bl g ≤ 99) (k : Nat) : (rnS M F P k bl).1 ≤ 1 ∧ ∀ g, (rnS M F P k bl).2 g ≤ 99 := by
  have := itf_inv (stp := rnStp M F P) (fun k (s : Nat × (Nat → Nat)) => s.1 ≤ 1 ∧ ∀ g, s.2 g ≤ 99) k 0 (0, bl) ⟨by dsimp only; omega, hbl⟩ (fun j s h1 h2 hs => by
    unfold rnStp
    refine ⟨?_, fun g => ?_⟩
    · dsimp only
      split
      · split <;> omega
      · omega
    · dsimp only
      have := bs_bd M s.2 j F P
      have := hs.2 g
      split <;> omega)
  exact this
theorem rn_s (M : HC) (F P k : Nat) (bl : Nat → Nat) : rnS M F P (k + 1) bl = rnStp M F P k (rnS M F P k bl) := by
  unfold rnS
  rw [itf_snoc, Nat.zero_add]
/-! ===== pure: what to write on a belt: the class ===== -/
theorem rival_c {C : CC} {M : HC} {P F T R : Nat} (h : RelN C M P F T R) {X : HC} {bl : Nat → Nat} (hbl : ∀ g, bl g ≤ 99) (hX : ∀ g, g < F → X 1 g = nI (bl g)) {p f : Nat} (hp : p < P) (hf : f < F) : f_X0_strongestRival X (C 2) (C 4) (nI p) (nI f) = some (wI (rvN M bl f p F)) := by
  obtain ⟨hL, hS, -⟩ := id h
  obtain ⟨⟨hP, hF, hT, hRR⟩, -, ⟨l1, m6⟩, -⟩ := id hL
  unfold f_X0_strongestRival
  obtain ⟨r, rc, hi, hh⟩ := lp_ex (T := Int32 → Int32 → Option Int32) (z := fun _ _ => none) (F := f_X0_strongestRival_b6 X (C 2) (C 4) (nI p) (nI f)) (fun g k (r : Nat) => g (wI r) (nI k)) F (fun k r => r = rvN M bl f p k) (by
    intro rc k r hi hk
    have hr := rv_le (f := f) (p := p) hS hbl (by omega) k (by omega)
    rw [← hi] at hr
    refine ⟨rvStp M bl f p k r, ?_, by rw [hi]; unfold rvN; rw [itf_snoc, Nat.zero_add]⟩
    unfold f_X0_strongestRival_b6 f_X0_strongestRival_j60 rvStp
    rw [l1, if_neg (nI_ge hk (by omega))]
    simp only [nm, nI_1]
    by_cases hkf : k = f
    · rw [if_pos (by rw [hkf]), if_pos hkf]
    · rw [if_neg (fun e => by rw [nI_eq (by omega) (by omega)] at e; exact hkf e), if_neg hkf, slot_c, bd_s]
      obtain ⟨e1, e2⟩ := tq_e hS (p := p) (g := k) (by omega) (by omega)
      obtain ⟨q1, q2⟩ := rq_e M k (hbl k)
      have i30 : inb (nI (p * 5 + k)) 30 := inb_nI (by omega) (by omega)
      have c30 : (nI (p * 5 + k)).toNatClampNeg = p * 5 + k := nI_clamp (by omega)
      have i5 : inb (nI k) 5 := inb_nI (by omega) (by omega)
      have c5 : (nI k).toNatClampNeg = k := nI_clamp (by omega)
      have hm : mxN (tqN M p k) (rqN M k (bl k)) ≤ 99 := mxN_le e2 q2
      simp only [if_pos i30, if_pos i5, readsAs_c _ i5, c5, c30, bd_s, hX k hk, kd_eq hL hk, q1, th_eq hS (show p < 6 by omega) (show k < 5 by omega), e1, mx_nI (show tqN M p k < 2 ^ 31 by omega) (show rqN M k (bl k) < 2 ^ 31 by omega), mx_wI (show r < 1000 by omega) (show mxN (tqN M p k) (rqN M k (bl k)) < 999 by omega)]
      rfl) FU F 0 0 rfl (by omega) (by have := FU_gt; omega)
  rw [show lp (fun _ _ => none : Int32 → Int32 → Option (Int32)) (f_X0_strongestRival_b6 X (C 2) (C 4) (nI p) (nI f)) FU (-1) 0 = f_X0_strongestRival_b6 X (C 2) (C 4) (nI p) (nI f) rc (wI r) (nI F) from hh]
  unfold f_X0_strongestRival_b6
  rw [l1, if_pos (nI_le (Nat.le_refl _) (by omega)), hi]
theorem gain_c {C : CC} {M : HC} {P F T R : Nat} (h : RelN C M P F T R) {X : HC} {bl : Nat → Nat} (hbl : ∀ g, bl g ≤ 99) {f b : Nat} (hf : f < F) (hX : ∀ p, p < P → X 2 p = wI (rvN M bl f p F)) (hb : b ≤ 99) : f_X0_gain X (C 2) (C 4) (nI f) (nI b) = some (gaI M bl f F P b) := by
  obtain ⟨hL, hS, -⟩ := id h
  obtain ⟨⟨hP, hF, hT, hRR⟩, ⟨l0, m5⟩, -⟩ := id hL
  have i5 : inb (nI f) 5 := inb_nI (by omega) (by omega)
  have c5 : (nI f).toNatClampNeg = f := nI_clamp (by omega)
  obtain ⟨q1, q2⟩ := rq_e M f hb
  unfold f_X0_gain
  rw [readsAs_c _ i5, bd_s, c5, kd_eq hL hf, q1]
  obtain ⟨n, rc, hi, hh⟩ := lp_ex (T := Int32 → Int32 → Option Int32) (z := fun _ _ => none) (F := f_X0_gain_b15 X (C 2) (C 4) (nI f) (nI (rqN M f b))) (fun g k (n : Nat) => g (nI n) (nI k)) P (fun k n => n = foN M bl f F k b) (by
    intro rc k n hi hk
    refine ⟨foStp M bl f F b k n, ?_, by rw [hi]; unfold foN; rw [itf_snoc, Nat.zero_add]⟩
    have hr := rv_le (f := f) (p := k) hS hbl (by omega) F (by omega)
    obtain ⟨e1, e2⟩ := tq_e hS (p := k) (g := f) (by omega) (by omega)
    have i30 : inb (nI (k * 5 + f)) 30 := inb_nI (by omega) (by omega)
    have c30 : (nI (k * 5 + f)).toNatClampNeg = k * 5 + f := nI_clamp (by omega)
    have i6 : inb (nI k) 6 := inb_nI (by omega) (by omega)
    have c6 : (nI k).toNatClampNeg = k := nI_clamp (by omega)
    have hm : mxN (tqN M k f) (rqN M f b) ≤ 99 := mxN_le e2 q2
    unfold f_X0_gain_b15 f_X0_gain_j53 foStp
    rw [l0, if_neg (nI_ge hk (by omega)), slot_c, bd_s]
    simp only [if_pos i30, if_pos i6, c30, c6, th_eq hS (show k < 6 by omega) (show f < 5 by omega), e1, mx_nI (show tqN M k f < 2 ^ 31 by omega) (show rqN M f b < 2 ^ 31 by omega), hX k hk, nm, nI_1]
    by_cases hc : rvN M bl f k F ≤ mxN (tqN M k f) (rqN M f b)
    · rw [if_neg (fun z => by have := (le_wI (by omega) (by omega)).mp z; omega), if_pos hc]
    · rw [if_pos ((le_wI (by omega) (by omega)).mpr (by omega)), if_neg hc]) FU P 0 0 rfl (by omega) (by have := FU_gt; omega)
  rw [show lp (fun _ _ => none : Int32 → Int32 → Option (Int32)) (f_X0_gain_b15 X (C 2) (C 4) (nI f) (nI (rqN M f b))) FU 0 0 = f_X0_gain_b15 X (C 2) (C 4) (nI f) (nI (rqN M f b)) rc (nI n) (nI P) from hh]
  unfold f_X0_gain_b15 gaI
  rw [l0, if_pos (nI_le (Nat.le_refl _) (by omega)), if_pos i5, c5, st_eq hL hf, hi]
theorem best_c {C : CC} {M : HC} {P F T R : Nat} (h : RelN C M P F T R) {X : HC} {bl : Nat → Nat} (hbl : ∀ g, bl g ≤ 99) (hX : ∀ g, g < F → X 1 g = nI (bl g)) {f : Nat} (hf : f < F) : ∃ X2, f_X0_bestBelt X (C 2) (C 4) (nI f) = some (nI (bsN M bl f F P), X2) ∧ X2 1 = X 1 := by
  obtain ⟨hL, hS, -⟩ := id h
  obtain ⟨⟨hP, hF, hT, hRR⟩, ⟨l0, m5⟩, -⟩ := id hL
  unfold f_X0_bestBelt
  obtain ⟨X2, rc, ⟨i1, i2⟩, hh⟩ := lp_ex (T := Int32 → HC → Option (Int32 × HC)) (z := fun _ _ => none) (F := f_X0_bestBelt_b3 (C 2) (C 4) (nI f)) (fun g k (s : HC) => g (nI k) s) P (fun k s => s 1 = X 1 ∧ ∀ p, p < k → s 2 p = wI (rvN M bl f p F)) (by
    intro rc k s hi hk
    obtain ⟨a1, a2⟩ := hi
    refine ⟨sa s 2 (nI k) (wI (rvN M bl f k F)), ?_, by rw [sa_ne _ _ _ _ (show 1 ≠ 2 by omega)]; exact a1, fun p hp => ?_⟩
    · unfold f_X0_bestBelt_b3
      rw [l0, if_neg (nI_ge hk (by omega)), rival_c h hbl (fun g hg => by rw [a1]; exact hX g hg) hk hf, bd_s, if_pos (inb_nI (by omega) (by omega))]
      simp only [nm, nI_1]
    · rw [sa_at (by omega)]
      by_cases hpk : p = k
      · rw [if_pos hpk, hpk]
      · rw [if_neg hpk]; exact a2 p (by omega)) FU P 0 X ⟨rfl, fun p hp => by omega⟩ (by omega) (by have := FU_gt; omega)
  rw [show lp (fun _ _ => none : Int32 → HC → Option (Int32 × HC)) (f_X0_bestBelt_b3 (C 2) (C 4) (nI f)) FU 0 X = f_X0_bestBelt_b3 (C 2) (C 4) (nI f) rc (nI P) X2 from hh]
  unfold f_X0_bestBelt_b3
  rw [l0, if_pos (nI_le (Nat.le_refl _) (by omega)), show (0 : Int32) = nI 0 from rfl, gain_c h hbl hf i2 (by omega), bd_s]
  obtain ⟨s, rc2, hi, hh2⟩ := lp_ex (T := Int32 → Int32 → Int32 → Option (Int32 × HC)) (z := fun _ _ _ => none) (F := f_X0_bestBelt_b51 (C 2) (C 4) (nI f) X2) (fun g k (s : Nat × Int32) => g (nI s.1) s.2 (nI (10 * k))) 10 (fun k s => ∃ n, k = 1 + n ∧ s = itf (bsStp M bl f F P) 1 n (0, gaI M bl f F P 0)) (by
    intro rc k s hi hk
    obtain ⟨n, hn, hi⟩ := hi
    refine ⟨bsStp M bl f F P k s, ?_, n + 1, by omega, by rw [itf_snoc, ← hi, hn]⟩
    unfold f_X0_bestBelt_b51 f_X0_bestBelt_j84 bsStp
    rw [if_neg (show ¬ (90 : Int32) < nI (10 * k) from nI_nlt (a := 90) (by omega) (by omega)), gain_c h hbl hf i2 (by omega), bd_s]
    have e10 : nI (10 * k) + (10 : Int32) = nI (10 * (k + 1)) := nI_add (10 * k) 10
    simp only [nm, e10]
    by_cases hc : gaI M bl f F P (10 * k) ≤ s.2
    · rw [if_pos hc, if_pos hc]
    · rw [if_neg hc, if_neg hc]) FU 9 1 (0, gaI M bl f F P 0) ⟨0, rfl, rfl⟩ (by omega) (by have := FU_gt; omega)
  obtain ⟨n, hn, hi⟩ := hi
  have hn : n = 9 := by omega
  subst hn
  rw [show lp (fun _ _ _ => none : Int32 → Int32 → Int32 → Option (Int32 × HC)) (f_X0_bestBelt_b51 (C 2) (C 4) (nI f) X2) FU (nI 0) (gaI M bl f F P 0) (10 : Int32) = f_X0_bestBelt_b51 (C 2) (C 4) (nI f) X2 rc2 (nI s.1) s.2 (nI (10 * 10)) from hh2]
  unfold f_X0_bestBelt_b51
  rw [if_pos (show (90 : Int32) < nI (10 * 10) from nI_lt (a := 90) (by omega) (by omega))]
  refine ⟨X2, ?_, i1⟩
  rw [hi]
  rfl
theorem bz_01 {c : Nat} (h : c ≤ 1) : bz (nI c) := by
  rcases (show c = 0 ∨ c = 1 by omega) with rfl | rfl
  · exact Or.inl rfl
  · exact Or.inr rfl
theorem round_c {C : CC} {M : HC} {P F T R : Nat} (h : RelN C M P F T R) {X : HC} {bl : Nat → Nat} (hbl : ∀ g, bl g ≤ 99) (hX : ∀ g, g < F → X 1 g = nI (bl g)) : ∃ X2, f_X0_roundChanges X (C 2) (C 4) = some (nI (rnS M F P F bl).1, X2) ∧ ∀ g, g < F → X2 1 g = nI ((rnS M F P F bl).2 g) := by
  obtain ⟨hL, hS, -⟩ := id h
  obtain ⟨⟨hP, hF, hT, hRR⟩, -, ⟨l1, m6⟩, -⟩ := id hL
  unfold f_X0_roundChanges
  obtain ⟨⟨c, X2⟩, rc, ⟨i1, i2⟩, hh⟩ := lp_ex (T := Int32 → Int32 → HC → Option (Int32 × HC)) (z := fun _ _ _ => none) (F := f_X0_roundChanges_b5 (C 2) (C 4)) (fun g k (s : Nat × HC) => g (nI s.1) (nI k) s.2) F (fun k s => s.1 = (rnS M F P k bl).1 ∧ ∀ g, g < F → s.2 1 g = nI ((rnS M F P k bl).2 g)) (by
    intro rc k s hi hk
    obtain ⟨c, Z⟩ := s
    obtain ⟨a1, a2⟩ := hi
    dsimp only at a1 a2
    obtain ⟨b1, b2⟩ := rn_bd M F P hbl k
    have hs := rn_s M F P k bl
    generalize rnS M F P k bl = q at a1 a2 b1 b2 hs
    obtain ⟨Z2, z1, z2⟩ := best_c h b2 a2 hk
    have hbs := bs_bd M q.2 k F P
    have hbk := b2 k
    have i5 : inb (nI k) 5 := inb_nI (by omega) (by omega)
    have c5 : (nI k).toNatClampNeg = k := nI_clamp (by omega)
    refine ⟨((rnS M F P (k + 1) bl).1, sa Z2 1 (nI k) (nI (bsN M q.2 k F P))), ?_, rfl, fun g hg => ?_⟩
    · dsimp only
      unfold f_X0_roundChanges_b5 f_X0_roundChanges_j42
      rw [l1, if_neg (nI_ge hk (by omega)), z1, bd_s]
      simp only [nm, if_pos i5, c5, z2, a2 k hk, nI_1]
      rw [hs]
      unfold rnStp
      dsimp only
      rw [a1]
      have o00 : nI 0 ||| (0 : Int32) = nI 0 := by decide
      have o01 : nI 0 ||| (1 : Int32) = nI 1 := by decide
      have o10 : nI 1 ||| (0 : Int32) = nI 1 := by decide
      have o11 : nI 1 ||| (1 : Int32) = nI 1 := by decide
      rcases (show q.1 = 0 ∨ q.1 = 1 by omega) with hq | hq
      · rw [hq, if_pos (show (0 : Nat) = 0 from rfl), o00, o01]
        by_cases hc : bsN M q.2 k F P = q.2 k
        · rw [if_pos (by rw [hc]), if_pos hc]
        · rw [if_neg (fun e => by rw [nI_eq (by omega) (by omega)] at e; exact hc e), if_neg hc]
      · rw [hq, if_neg (show ¬ (1 : Nat) = 0 by omega), o10, o11]
        split <;> rfl
    · dsimp only
      rw [sa_at (by omega), hs]
      unfold rnStp
      dsimp only
      by_cases hgk : g = k
      · rw [if_pos hgk, if_pos hgk]
      · rw [if_neg hgk, if_neg hgk, z2]; exact a2 g hg) FU F 0 (0, X) ⟨rfl, hX⟩ (by omega) (by have := FU_gt; omega)
  rw [show lp (fun _ _ _ => none : Int32 → Int32 → HC → Option (Int32 × HC)) (f_X0_roundChanges_b5 (C 2) (C 4)) FU 0 0 X = f_X0_roundChanges_b5 (C 2) (C 4) rc (nI c) (nI F) X2 from hh]
  dsimp only at i1 i2
  unfold f_X0_roundChanges_b5
  rw [l1, if_pos (nI_le (Nat.le_refl _) (by omega)), i1, if_pos (bz_01 (rn_bd M F P hbl F).1)]
  exact ⟨X2, rfl, i2⟩
