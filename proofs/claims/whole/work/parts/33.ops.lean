/-! ===== pure: who hires whom ===== -/
theorem bit_or : ∀ b, b < 64 → ∀ w, w < 6 → (nI b ||| ((1 : Int32) <<< (nI w &&& 31))) = nI (b ||| (1 <<< w)) ∧ b ||| (1 <<< w) < 64 := by decide +kernel
theorem bit_hb : ∀ b, b < 64 → ∀ w, w < 6 → ∀ p, p < 6 → (hb (nI (b ||| (1 <<< w))) (nI p) ↔ hb (nI b) (nI p) ∨ p = w) := by decide +kernel
/-- the greatest bid of those who are free, but of one -/
def mxStp (bd : Nat → Nat) (b ex : Nat) : Nat → Nat → Nat := fun p m => if hb (nI b) (nI p) ∨ p = ex then m else if m < bd p then bd p else m
/-- winner (one more than his number; 0: nobody), and his bid -/
def tbStp (bd : Nat → Nat) (b : Nat) : Nat → Nat × Nat → Nat × Nat := fun p q => if hb (nI b) (nI p) then q else if q.2 < bd p then (p + 1, bd p) else q
def wI (w : Nat) : Int32 := nI w - 1
theorem wI_0 : wI 0 = -1 := by decide
theorem wI_s (w : Nat) : wI (w + 1) = nI w := nI_pred w
theorem wI_ne {w : Nat} (h : w < 100) : ¬ wI (w + 1) = -1 := by
  rw [wI_s]
  intro e
  have := congrArg Int32.toInt e
  rw [nI_toInt (by omega)] at this
  have h1 : (-1 : Int32).toInt = -1 := by decide
  omega
theorem top_c {C : CC} {P g b : Nat} (hP : P ≤ 6) (l0 : C 2 0 0 = nI P) (hg : g < 5) (bd_ : Nat → Nat) (hbd : ∀ p, p < P → C 4 4 (p * 5 + g) = nI (bd_ p) ∧ bd_ p ≤ 99) : f_X6_topBidder C (nI g) (nI b) = some (wI (itf (tbStp bd_ b) 0 P (0, 0)).1) := by
  unfold f_X6_topBidder
  obtain ⟨⟨w, m⟩, rc, ⟨hi, hm⟩, h⟩ := lp_ex (T := Int32 → Int32 → Int32 → Option Int32) (z := fun _ _ _ => none) (F := f_X6_topBidder_b8 C (nI g) (nI b)) (fun rc k (q : Nat × Nat) => rc (wI q.1) (nI q.2) (nI k)) P (fun k q => q = itf (tbStp bd_ b) 0 k (0, 0) ∧ q.2 ≤ 99) (by
    intro rc k q hq hk
    obtain ⟨hq, hq2⟩ := hq
    obtain ⟨e1, e2⟩ := hbd k hk
    refine ⟨tbStp bd_ b k q, ?_, by rw [itf_snoc, ← hq, Nat.zero_add], ?_⟩
    · unfold f_X6_topBidder_b8 f_X6_topBidder_j59 tbStp
      simp only [l0, if_neg (nI_ge hk (by omega)), slot_c, bd, if_pos (inb_nI (k := k * 5 + g) (n := 30) (by omega) (by omega)), nI_clamp (show k * 5 + g < 2 ^ 31 by omega), nm, has_c, e1, nI_1]
      by_cases hh : hb (nI b) (nI k)
      · rw [if_pos hh, if_neg one_ne0, if_pos hh]
      · rw [if_neg hh, if_pos rfl, if_neg hh]
        by_cases hl : q.2 < bd_ k
        · rw [if_neg (nI_ge hl (by omega)), if_pos hl, wI_s]
        · rw [if_pos (nI_le (by omega) (by omega)), if_neg hl]
    · unfold tbStp
      split
      · exact hq2
      · split
        · exact e2
        · exact hq2) FU P 0 (0, 0) ⟨rfl, by omega⟩ (by omega) (by have := FU_gt; omega)
  rw [show lp (fun _ _ _ => none : Int32 → Int32 → Int32 → Option (Int32)) (f_X6_topBidder_b8 C (nI g) (nI b)) FU (-1) 0 0 = f_X6_topBidder_b8 C (nI g) (nI b) rc (wI w) (nI m) (nI P) from h, ← hi]
  unfold f_X6_topBidder_b8
  rw [l0, if_pos (nI_le (Nat.le_refl _) (by omega))]
/-- what the winner bids, and that he is one of them -/
theorem tb_facts (bd_ : Nat → Nat) (b P : Nat) : (itf (tbStp bd_ b) 0 P (0, 0)).1 ≤ P ∧ ((itf (tbStp bd_ b) 0 P (0, 0)).1 = 0 → (itf (tbStp bd_ b) 0 P (0, 0)).2 = 0) ∧ (∀ w, (itf (tbStp bd_ b) 0 P (0, 0)).1 = w + 1 → bd_ w = (itf (tbStp bd_ b) 0 P (0, 0)).2) := by
  have := itf_inv (stp := tbStp bd_ b) (fun k (q : Nat × Nat) => q.1 ≤ k ∧ (q.1 = 0 → q.2 = 0) ∧ (∀ w, q.1 = w + 1 → bd_ w = q.2)) P 0 (0, 0) ⟨by omega, fun _ => rfl, fun w h => by dsimp only at h; omega⟩ (fun j s _ _ h => by
    unfold tbStp
    split
    · exact ⟨by omega, h.2.1, h.2.2⟩
    · split
      · exact ⟨by dsimp only; omega, fun h0 => by dsimp only at h0; omega, fun w hw => by
          dsimp only at hw ⊢
          rw [show w = j by omega]⟩
      · exact ⟨by omega, h.2.1, h.2.2⟩)
  rw [Nat.zero_add] at this
  exact this
theorem tb_mx (bd_ : Nat → Nat) (b : Nat) : ∀ P, (itf (tbStp bd_ b) 0 P (0, 0)).2 = itf (mxStp bd_ b 1000) 0 P 0 ∨ 1000 < P := by
  intro P
  induction P with
  | zero => exact Or.inl rfl
  | succ P ih =>
    rcases ih with ih | ih
    · by_cases hP : 1000 < P + 1
      · exact Or.inr hP
      · left
        rw [itf_snoc, itf_snoc, ← ih, Nat.zero_add]
        generalize itf (tbStp bd_ b) 0 P (0, 0) = q
        unfold tbStp mxStp
        by_cases hh : hb (nI b) (nI P)
        · rw [if_pos hh, if_pos (Or.inl hh)]
        · rw [if_neg hh, if_neg (show ¬ (hb (nI b) (nI P) ∨ P = 1000) from fun z => z.elim hh (fun z => by omega))]
          by_cases hl : q.2 < bd_ P
          · rw [if_pos hl, if_pos hl]
          · rw [if_neg hl, if_neg hl]
    · exact Or.inr (by omega)
theorem mx_or (bd_ : Nat → Nat) {b w : Nat} (hb64 : b < 64) (hw : w < 6) : ∀ P, P ≤ 6 → itf (mxStp bd_ (b ||| (1 <<< w)) 1000) 0 P 0 = itf (mxStp bd_ b w) 0 P 0 := by
  intro P hP
  refine itf_congr _ _ _ fun p m _ hp => ?_
  unfold mxStp
  refine ite_congr (propext ?_) (fun _ => rfl) (fun _ => rfl)
  rw [bit_hb b hb64 w hw p (by omega)]
  constructor
  · intro q
    rcases q with q | q
    · exact q
    · omega
  · intro q
    exact Or.inl q
