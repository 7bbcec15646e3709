/-! ===== pure: who hires whom, the reference; both ===== -/
def exOf (w : Nat) : Nat := if w = 0 then 1000 else w - 1
def nbOf (b w : Nat) : Nat := if w = 0 then b else b ||| (1 <<< (w - 1))
theorem j83_eq (rc : Int32 → Int32 → Int32 → Int32 → Option Int32) (v7 : Int32) {s m k x : Nat} (hs : s ≤ 99) (hm : m ≤ 99) (hx : x ≤ 99) : f_X7_hire_j83 rc v7 (nI s) (nI m) (nI k) (nI x) = if x ≤ m then rc v7 (nI (if x ≤ s then s else x)) (nI m) (nI (k + 1)) else rc (nI k) (nI m) (nI x) (nI (k + 1)) := by
  unfold f_X7_hire_j83 f_X7_hire_j111 f_X7_hire_j127 f_X7_hire_j143
  simp only [nm, nI_1]
  by_cases h : x ≤ m
  · simp only [if_pos (nI_le h (show m < 2 ^ 31 by omega)), if_pos h]
    by_cases h2 : x ≤ s
    · rw [if_pos (nI_le h2 (by omega)), if_pos h2]
    · rw [if_neg (nI_ge (by omega) (by omega)), if_neg h2]
  · simp only [if_neg (nI_ge (show m < x by omega) (show x < 2 ^ 31 by omega)), if_neg h]
theorem hire_in {M : HC} {P g b : Nat} (hP : P ≤ 6) (m0 : M 0 5 = nI P) (hg : g < 5) (hb64 : b < 64) (bd_ : Nat → Nat) (hbd : ∀ p, p < P → M 1 (5 + 5 * p + g) = nI (bd_ p) ∧ bd_ p ≤ 99) (rc35 : Int32 → Int32 → Int32 → Int32 → Option Int32) :
    lp (fun _ _ _ _ => none : Int32 → Int32 → Int32 → Int32 → Option (Int32)) (f_X7_hire_b53 M rc35 (nI b) (nI g)) FU (-1) 0 0 0 = rc35 (nI (nbOf b (itf (tbStp bd_ b) 0 P (0, 0)).1)) (wI (itf (tbStp bd_ b) 0 P (0, 0)).1) (nI (itf (mxStp bd_ b (exOf (itf (tbStp bd_ b) 0 P (0, 0)).1)) 0 P 0)) (nI (g + 1)) := by
  obtain ⟨⟨w, s, m⟩, rc, ⟨i1, i2, i3, i4, i5⟩, h⟩ := lp_ex (T := Int32 → Int32 → Int32 → Int32 → Option Int32) (z := fun _ _ _ _ => none) (F := f_X7_hire_b53 M rc35 (nI b) (nI g)) (fun rc k (q : Nat × Nat × Nat) => rc (wI q.1) (nI q.2.1) (nI q.2.2) (nI k)) P (fun k q => (q.1, q.2.2) = itf (tbStp bd_ b) 0 k (0, 0) ∧ q.2.1 = itf (mxStp bd_ b (exOf q.1)) 0 k 0 ∧ q.2.2 ≤ 99 ∧ q.2.1 ≤ 99 ∧ q.1 ≤ k) (by
    intro rc k q hq hk
    obtain ⟨w, s, m⟩ := q
    obtain ⟨a1, a2, a3, a4, a5⟩ := hq
    dsimp only at a1 a2 a3 a4 a5
    obtain ⟨e1, e2⟩ := hbd k hk
    have hs : f_X7_hire_b53 M rc35 (nI b) (nI g) rc (wI w) (nI s) (nI m) (nI k) = if hb (nI b) (nI k) then rc (wI w) (nI s) (nI m) (nI (k + 1)) else if bd_ k ≤ m then rc (wI w) (nI (if bd_ k ≤ s then s else bd_ k)) (nI m) (nI (k + 1)) else rc (nI k) (nI m) (nI (bd_ k)) (nI (k + 1)) := by
      unfold f_X7_hire_b53
      rw [m0, if_neg (nI_ge hk (by omega)), has_m, thought_m (by omega) hg, e1]
      simp only [bd]
      by_cases hh : hb (nI b) (nI k)
      · rw [if_pos hh, if_neg one_ne0, if_pos hh, show (0 : Int32) = nI 0 from rfl, j83_eq rc _ a4 a3 (by omega), if_pos (by omega), if_pos (by omega)]
      · rw [if_neg hh, if_pos rfl, if_neg hh, j83_eq rc _ a4 a3 e2]
    have hex : exOf w ≠ k := by
      unfold exOf
      split <;> omega
    by_cases hh : hb (nI b) (nI k)
    · refine ⟨(w, s, m), by dsimp only; rw [hs, if_pos hh], ?_, ?_, a3, a4, by dsimp only; omega⟩
      · dsimp only; rw [itf_snoc, ← a1, Nat.zero_add]; unfold tbStp; rw [if_pos hh]
      · dsimp only; rw [itf_snoc, ← a2, Nat.zero_add]; unfold mxStp; rw [if_pos (Or.inl hh)]
    · by_cases hl : bd_ k ≤ m
      · refine ⟨(w, if bd_ k ≤ s then s else bd_ k, m), by dsimp only; rw [hs, if_neg hh, if_pos hl], ?_, ?_, a3, ?_, by dsimp only; omega⟩
        · dsimp only; rw [itf_snoc, ← a1, Nat.zero_add]; unfold tbStp; rw [if_neg hh, if_neg (by dsimp only; omega)]
        · dsimp only; rw [itf_snoc, ← a2, Nat.zero_add]; unfold mxStp
          rw [if_neg (show ¬ (hb (nI b) (nI k) ∨ k = exOf w) from fun z => z.elim hh (fun z => hex z.symm))]
          by_cases h3 : bd_ k ≤ s
          · rw [if_pos h3, if_neg (by omega)]
          · rw [if_neg h3, if_pos (by omega)]
        · dsimp only; split <;> omega
      · refine ⟨(k + 1, m, bd_ k), by dsimp only; rw [hs, if_neg hh, if_neg hl, wI_s], ?_, ?_, e2, a3, by dsimp only; omega⟩
        · dsimp only; rw [itf_snoc, ← a1, Nat.zero_add]; unfold tbStp; rw [if_neg hh, if_pos (by dsimp only; omega)]
        · dsimp only
          have e3 : exOf (k + 1) = k := rfl
          rw [e3, itf_snoc, Nat.zero_add]
          have e4 : itf (mxStp bd_ b k) 0 k 0 = m := by
            have hm : m = (itf (tbStp bd_ b) 0 k (0, 0)).2 := by rw [← a1]
            rw [hm]
            rcases tb_mx bd_ b k with e | e
            · rw [e]
              refine itf_congr _ _ _ fun p n _ hp => ?_
              unfold mxStp
              refine ite_congr (propext ?_) (fun _ => rfl) (fun _ => rfl)
              constructor
              · intro z; rcases z with z | z
                · exact Or.inl z
                · omega
              · intro z; rcases z with z | z
                · exact Or.inl z
                · omega
            · omega
          rw [e4]
          unfold mxStp
          rw [if_pos (Or.inr rfl)]) FU P 0 (0, 0, 0) ⟨rfl, rfl, Nat.zero_le _, Nat.zero_le _, Nat.le_refl _⟩ (by omega) (by have := FU_gt; omega)
  rw [show lp (fun _ _ _ _ => none : Int32 → Int32 → Int32 → Int32 → Option (Int32)) (f_X7_hire_b53 M rc35 (nI b) (nI g)) FU (-1) 0 0 0 = f_X7_hire_b53 M rc35 (nI b) (nI g) rc (wI w) (nI s) (nI m) (nI P) from h, ← i1]
  dsimp only at i1 i2 i3 i4 i5 ⊢
  rw [← i2]
  unfold f_X7_hire_b53 f_X7_hire_j166 nbOf
  rw [m0, if_pos (nI_le (Nat.le_refl _) (by omega))]
  simp only [nm, nI_1]
  cases w with
  | zero => rw [if_pos wI_0, if_pos rfl, o0]
  | succ w => rw [if_neg (wI_ne (by omega)), if_neg (by omega), wI_s, (bit_or b hb64 w (by omega)).1]; rfl
theorem nb_lt {b w : Nat} (hb64 : b < 64) (hw : w ≤ 6) : nbOf b w < 64 := by
  unfold nbOf
  split
  · exact hb64
  · exact (bit_or b hb64 (w - 1) (by omega)).2
def bzS (bdf : Nat → Nat → Nat) (P : Nat) : Nat → Nat → Nat := fun g b => nbOf b (itf (tbStp (bdf g) b) 0 P (0, 0)).1
theorem op_hire {C : CC} {M : HC} (hR : Rel C M) (p1 p2 : Int32) : ∃ (v : Int32), f_X6_hire C p1 p2 = some v ∧ f_X7_hire M p1 p2 = some v ∧ Rel C M := by
  obtain ⟨P, F, T, R, hL, hS, hI0, hI1, hB, hX⟩ := id hR
  obtain ⟨⟨hP, hF, hT, hRR⟩, ⟨l0, m0⟩, -⟩ := id hL
  unfold f_X6_hire f_X7_hire
  rcases isF hL p1 with ⟨f, f1, rfl, f2, f3⟩ | ⟨f2, f3⟩
  · rw [f2, f3]
    simp only [bd, if_neg one_ne0]
    rw [bnd_c, t0, t1]
    rcases in_lit p2 1 (1 : Int64) (by decide) (by omega) with ⟨j, j1, rfl, j2⟩ | ⟨j1, j2⟩
    · rw [j2, if_pos (by rw [nI_toInt (by omega)]; omega)]
      simp only [if_neg one_ne0]
      let bdf : Nat → Nat → Nat := fun g p => (M 1 (5 + 5 * p + g)).toNatClampNeg
      have hm : ∀ g, g < F → ∀ p, p < P → M 1 (5 + 5 * p + g) = nI (bdf g p) ∧ bdf g p ≤ 99 := fun g hg p hp => by
        obtain ⟨a, a1, a2⟩ := th_bd hS (p := p) (f := g) (by omega) (by omega)
        have : bdf g p = a := by
          show (M 1 (5 + 5 * p + g)).toNatClampNeg = a
          rw [a2, nI_clamp (by omega)]
        rw [this]; exact ⟨a2, a1⟩
      have hc : ∀ g, g < F → ∀ p, p < P → C 4 4 (p * 5 + g) = nI (bdf g p) ∧ bdf g p ≤ 99 := fun g hg p hp => by
        rw [th_eq hS (by omega) (by omega)]; exact hm g hg p hp
      obtain ⟨b, rc, ⟨i1, i2⟩, h⟩ := lp_ex (T := Int32 → Int32 → Option Int32) (z := fun _ _ => none) (F := f_X6_hire_b28 C (nI f) (nI j)) (fun rc k (b : Nat) => rc (nI b) (nI k)) f (fun k b => b = itf (bzS bdf P) 0 k 0 ∧ b < 64) (by
        intro rc k b hi hk
        obtain ⟨h1, h2⟩ := hi
        have hw := (tb_facts (bdf k) b P).1
        refine ⟨bzS bdf P k b, ?_, by rw [itf_snoc, ← h1, Nat.zero_add], nb_lt h2 (by omega)⟩
        unfold f_X6_hire_b28 f_X6_hire_j56 bzS nbOf
        rw [if_neg (nI_ge hk (by omega)), top_c hP l0 (by omega) (bdf k) (hc k (by omega))]
        simp only [bd, nm, nI_1]
        cases hwe : (itf (tbStp (bdf k) b) 0 P (0, 0)).1 with
        | zero => rw [if_pos wI_0, if_pos rfl]
        | succ w => rw [if_neg (wI_ne (by omega)), if_neg (by omega), wI_s, (bit_or b h2 w (by omega)).1]; rfl) FU f 0 0 ⟨rfl, by omega⟩ (by omega) (by have := FU_gt; omega)
      obtain ⟨⟨b2, w2, s2⟩, rc2, ⟨q1, q2, q3⟩, h'⟩ := lp_ex (T := Int32 → Int32 → Int32 → Int32 → Option Int32) (z := fun _ _ _ _ => none) (F := f_X7_hire_b35 M (nI f) (nI j)) (fun rc k (q : Nat × Nat × Nat) => rc (nI q.1) (wI q.2.1) (nI q.2.2) (nI k)) (f + 1) (fun k q => q.1 = itf (bzS bdf P) 0 k 0 ∧ q.1 < 64 ∧ ∀ k', k = k' + 1 → q.2.1 = (itf (tbStp (bdf k') (itf (bzS bdf P) 0 k' 0)) 0 P (0, 0)).1 ∧ q.2.2 = itf (mxStp (bdf k') (itf (bzS bdf P) 0 k' 0) (exOf q.2.1)) 0 P 0) (by
        intro rc k q hi hk
        obtain ⟨b, w, s⟩ := q
        obtain ⟨h1, h2, h3⟩ := hi
        dsimp only at h1 h2 h3
        have hw := (tb_facts (bdf k) b P).1
        refine ⟨(bzS bdf P k b, (itf (tbStp (bdf k) b) 0 P (0, 0)).1, itf (mxStp (bdf k) b (exOf (itf (tbStp (bdf k) b) 0 P (0, 0)).1)) 0 P 0), ?_, by dsimp only; rw [itf_snoc, ← h1, Nat.zero_add], nb_lt h2 (by omega), fun k' hk' => ?_⟩
        · dsimp only
          unfold f_X7_hire_b35
          rw [if_neg (nI_nlt (by omega) (by omega)), hire_in hP m0 (by omega) h2 (bdf k) (hm k (by omega))]
          rfl
        · have : k' = k := by omega
          subst this
          dsimp only
          rw [← h1]
          exact ⟨rfl, rfl⟩) FU (f + 1) 0 (0, 0, 0) ⟨rfl, by dsimp only; omega, fun k' hk' => by omega⟩ (by omega) (by have := FU_gt; omega)
      obtain ⟨q4, q5⟩ := q3 f rfl
      dsimp only at q1 q2 q4 q5
      rw [← i1] at q4 q5
      rw [show lp (fun _ _ => none : Int32 → Int32 → Option (Int32)) (f_X6_hire_b28 C (nI f) (nI j)) FU 0 0 = f_X6_hire_b28 C (nI f) (nI j) rc (nI b) (nI f) from h, show lp (fun _ _ _ _ => none : Int32 → Int32 → Int32 → Int32 → Option (Int32)) (f_X7_hire_b35 M (nI f) (nI j)) FU 0 (-1) 0 0 = f_X7_hire_b35 M (nI f) (nI j) rc2 (nI b2) (wI w2) (nI s2) (nI (f + 1)) from h']
      unfold f_X6_hire_b28 f_X7_hire_b35
      rw [if_pos (nI_le (Nat.le_refl _) (by omega)), if_pos (nI_lt (by omega) (by omega)), top_c hP l0 (by omega) (bdf f) (hc f f1), ← q4]
      simp only [bd]
      have hw := (tb_facts (bdf f) b P).1
      rw [← q4] at hw
      cases w2 with
      | zero => rw [if_pos wI_0, if_pos wI_0, wI_0]; exact ⟨_, rfl, rfl, hR⟩
      | succ w =>
        rw [if_neg (wI_ne (by omega)), if_neg (wI_ne (by omega)), wI_s]
        rcases (show j = 0 ∨ j = 1 by omega) with rfl | rfl
        · rw [if_pos (show nI 0 = (0 : Int32) from rfl), if_pos (show nI 0 = (0 : Int32) from rfl)]; exact ⟨_, rfl, rfl, hR⟩
        · rw [if_neg (show ¬ nI 1 = (0 : Int32) by decide), if_neg (show ¬ nI 1 = (0 : Int32) by decide)]
          obtain ⟨o1, o2⟩ := bit_or b i2 w (by omega)
          rw [o1, top_c hP l0 (by omega) (bdf f) (hc f f1)]
          simp only []
          obtain ⟨g1, g2, g3⟩ := tb_facts (bdf f) (b ||| (1 <<< w)) P
          have e2 : (itf (tbStp (bdf f) (b ||| (1 <<< w))) 0 P (0, 0)).2 = s2 := by
            rcases tb_mx (bdf f) (b ||| (1 <<< w)) P with e | e
            · rw [e, mx_or (bdf f) i2 (by omega) P hP, q5]; rfl
            · omega
          cases hwe : (itf (tbStp (bdf f) (b ||| (1 <<< w))) 0 P (0, 0)).1 with
          | zero =>
            rw [if_pos wI_0]
            have : s2 = 0 := by rw [← e2]; exact g2 hwe
            rw [this]; exact ⟨_, rfl, rfl, hR⟩
          | succ x =>
            rw [if_neg (wI_ne (by omega)), wI_s, slot_c]
            simp only []
            rw [if_pos (inb_nI (by omega) (by omega)), nI_clamp (by omega), (hc f f1 x (by omega)).1, g3 x hwe, e2]
            exact ⟨_, rfl, rfl, hR⟩
    · rw [j2, if_neg (by exact j1)]; exact ⟨_, rfl, rfl, hR⟩
  · rw [f2, f3]; exact ⟨_, rfl, rfl, hR⟩
