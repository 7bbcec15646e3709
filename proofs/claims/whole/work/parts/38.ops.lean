/-! ===== pure: what the doubter had seen ===== -/
def cn (g : Nat → Bool) : Nat → Nat
  | 0 => 0
  | k + 1 => if g k = true then cn g k + 1 else cn g k
def an (g : Nat → Bool) : Nat → Int32
  | 0 => -1
  | k + 1 => if g k = true then an g k &&& nI k else an g k
theorem cn_le (g : Nat → Bool) : ∀ k, cn g k ≤ k := by
  intro k
  induction k with
  | zero => exact Nat.le_refl _
  | succ k ih => unfold cn; split <;> omega
theorem an_0 (g : Nat → Bool) : ∀ k, cn g k = 0 → an g k = -1 := by
  intro k
  induction k with
  | zero => intro _; rfl
  | succ k ih =>
    intro h
    unfold cn at h
    unfold an
    by_cases hg : g k = true
    · rw [if_pos hg] at h; omega
    · rw [if_neg hg] at h
      rw [if_neg hg]
      exact ih h
theorem an_sub (g : Nat → Bool) (D : Int32) (hD : ∀ j, g j = true → D &&& nI j = nI j) : ∀ k, ¬ cn g k = 0 → D &&& an g k = an g k := by
  intro k
  induction k with
  | zero => intro h; exact absurd rfl h
  | succ k ih =>
    intro h
    unfold cn at h
    unfold an
    by_cases hg : g k = true
    · rw [if_pos hg, Int32.and_comm (an g k) (nI k), ← Int32.and_assoc, hD k hg]
    · rw [if_neg hg] at h
      rw [if_neg hg]
      exact ih h
theorem sub_of (s D : Int32) (h : (s &&& (D ^^^ (-1 : Int32))) = 0) : D &&& s = s := by
  have key : ∀ a b : Bool, (a && (b ^^ true)) = false → (b && a) = a := by decide
  refine Int32.toBitVec_inj.mp (BitVec.eq_of_getLsbD_eq fun i hi => ?_)
  have z := (z_bits _).mp h i hi
  simp only [Int32.toBitVec_and, Int32.toBitVec_xor, BitVec.getLsbD_and, BitVec.getLsbD_xor, m1_bit i hi] at z ⊢
  exact key _ _ z
def cap9 (v : Int32) : Int32 := if v ≤ 99 then v else 99
theorem cap9_lt (v : Int32) : (if v < (99 : Int32) then v else (99 : Int32)) = cap9 v := by
  unfold cap9
  by_cases h : v < 99
  · rw [if_pos h, if_pos (by rw [i_lt] at h; rw [i_le]; omega)]
  · rw [if_neg h]
    by_cases h2 : v ≤ 99
    · rw [if_pos h2]
      rw [i_lt] at h
      rw [i_le] at h2
      exact Int32.toInt_inj.mp (by omega)
    · rw [if_neg h2]
/-- is the set one of the ways? r: what he had read -/
def gd9 (fa : Nat → Int32) (T : Nat) (D th r : Int32) (k : Nat) : Bool := decide ((nI k &&& (D ^^^ (-1 : Int32))) = 0) && decide (cap9 (r + sumS fa (nI k) T) = th)
theorem saw_c {C : CC} {T f p j : Nat} (hf : f < 5) (hT : T ≤ 6) (l3 : C 2 0 3 = nI T) (fa : Nat → Int32) (hfa : ∀ t, t < T → C 2 8 t = fa t) (D th rv : Int32) (hD : C 4 2 f = D) (hrv : f_X6_readsNow C (nI f) = some rv) (p3 : Int32) :
    lp (fun _ _ _ => none : Int32 → Int32 → Int32 → Option (Int32)) (f_X6_saw_b63 C (nI f) p3 th) FU (0 : Int32) D (0 : Int32) = some (if p3 = 0 then nI (cn (gd9 fa T D th 0) 64 + cn (gd9 fa T D th rv) 64) else (if nI (cn (gd9 fa T D th 0) 64 + cn (gd9 fa T D th rv) 64) = 0 then 0 else D &&& (an (gd9 fa T D th 0) 64 &&& an (gd9 fa T D th rv) 64))) := by
  have i5 : inb (nI f) 5 := inb_nI hf (by omega)
  have c5 : (nI f).toNatClampNeg = f := nI_clamp (by omega)
  have efa : ∀ set, f_X2_fameOf (C 2) set = some (sumS fa set T) := fun set => by rw [fame_c hT l3, sumS_congr hfa]
  obtain ⟨⟨n, s⟩, rc, ⟨i1, i2⟩, h⟩ := lp_ex (T := Int32 → Int32 → Int32 → Option Int32) (z := fun _ _ _ => none) (F := f_X6_saw_b63 C (nI f) p3 th) (fun g k (q : Nat × Int32) => g (nI q.1) q.2 (nI k)) 64 (fun k q => q.1 = cn (gd9 fa T D th 0) k + cn (gd9 fa T D th rv) k ∧ q.2 = D &&& (an (gd9 fa T D th 0) k &&& an (gd9 fa T D th rv) k)) (by
    intro rc k q hi hk
    obtain ⟨n, s⟩ := q
    obtain ⟨a1, a2⟩ := hi
    dsimp only at a1 a2
    have b0 := cn_le (gd9 fa T D th 0) k
    have b1 := cn_le (gd9 fa T D th rv) k
    have j104 : ∀ b : Nat, b ≤ 2 → f_X6_saw_j104 rc (nI n) s (nI k) (nI b) = rc (nI (n + b)) (if b = 0 then s else s &&& nI k) (nI (k + 1)) := by
      intro b hb
      unfold f_X6_saw_j104 f_X6_saw_j125
      simp only [nm, nI_add, nI_1]
      by_cases h0 : b = 0
      · rw [if_pos h0, h0, if_pos (show nI 0 ≤ (0 : Int32) from nI_le (a := 0) (b := 0) (by omega) (by omega))]
      · rw [if_neg h0, if_neg (nI_nle (by omega) (by omega))]
    have es : f_X6_saw_b63 C (nI f) p3 th rc (nI n) s (nI k) = rc (nI (n + ((if gd9 fa T D th 0 k = true then 1 else 0) + (if gd9 fa T D th rv k = true then 1 else 0)))) (if ((if gd9 fa T D th 0 k = true then 1 else 0) + (if gd9 fa T D th rv k = true then 1 else 0)) = 0 then s else s &&& nI k) (nI (k + 1)) := by
      unfold f_X6_saw_b63
      rw [if_neg (show ¬ (64 : Int32) ≤ nI k from nI_ge (b := 64) hk (by omega)), if_pos i5, c5, hD]
      by_cases hs : (nI k &&& (D ^^^ (-1 : Int32))) = 0
      · rw [if_pos hs, hrv, bd_s]
        have ew : f_X6_waysBy C (nI k) rv th = some (nI ((if gd9 fa T D th 0 k = true then 1 else 0) + (if gd9 fa T D th rv k = true then 1 else 0))) := by
          unfold f_X6_waysBy f_X6_waysBy_j26 gd9
          rw [efa, bd_s, cap9_lt, cap9_lt]
          have e0 : (0 : Int32) + sumS fa (nI k) T = sumS fa (nI k) T := Int32.zero_add _
          rw [e0, decide_eq_true hs, Bool.true_and, Bool.true_and]
          by_cases h1 : cap9 (sumS fa (nI k) T) = th <;> by_cases h2 : cap9 (rv + sumS fa (nI k) T) = th
          · rw [if_pos h1, if_pos h2, if_pos (decide_eq_true h1), if_pos (decide_eq_true h2)]; rfl
          · rw [if_pos h1, if_neg h2, if_pos (decide_eq_true h1), if_neg (by rw [decide_eq_false h2]; decide)]; rfl
          · rw [if_neg h1, if_pos h2, if_neg (by rw [decide_eq_false h1]; decide), if_pos (decide_eq_true h2)]; rfl
          · rw [if_neg h1, if_neg h2, if_neg (by rw [decide_eq_false h1]; decide), if_neg (by rw [decide_eq_false h2]; decide)]; rfl
        rw [ew, bd_s]
        exact j104 _ (by split <;> split <;> omega)
      · rw [if_neg hs]
        have g0 : ∀ r, ¬ gd9 fa T D th r k = true := fun r => by
          unfold gd9
          rw [decide_eq_false hs, Bool.false_and]
          decide
        rw [if_neg (g0 0), if_neg (g0 rv)]
        exact j104 0 (by omega)
    refine ⟨(n + ((if gd9 fa T D th 0 k = true then 1 else 0) + (if gd9 fa T D th rv k = true then 1 else 0)), if ((if gd9 fa T D th 0 k = true then 1 else 0) + (if gd9 fa T D th rv k = true then 1 else 0)) = 0 then s else s &&& nI k), es, ?_, ?_⟩
    · dsimp only
      show _ = cn (gd9 fa T D th 0) (k + 1) + cn (gd9 fa T D th rv) (k + 1)
      unfold cn
      by_cases h1 : gd9 fa T D th 0 k = true <;> by_cases h2 : gd9 fa T D th rv k = true
      · simp only [if_pos h1, if_pos h2]; omega
      · simp only [if_pos h1, if_neg h2]; omega
      · simp only [if_neg h1, if_pos h2]; omega
      · simp only [if_neg h1, if_neg h2]; omega
    · dsimp only
      show _ = D &&& (an (gd9 fa T D th 0) (k + 1) &&& an (gd9 fa T D th rv) (k + 1))
      rw [a2]
      generalize hA : gd9 fa T D th 0 = ga
      generalize hB : gd9 fa T D th rv = gb
      show _ = D &&& ((if ga k = true then an ga k &&& nI k else an ga k) &&& (if gb k = true then an gb k &&& nI k else an gb k))
      generalize an ga k = A
      generalize an gb k = B
      have key : ∀ a b d x : Bool, (d && (a && b) && x) = (d && ((a && x) && (b && x))) ∧ (d && (a && b) && x) = (d && ((a && x) && b)) ∧ (d && (a && b) && x) = (d && (a && (b && x))) := by decide
      have k1 : (D &&& (A &&& B)) &&& nI k = D &&& ((A &&& nI k) &&& (B &&& nI k)) := Int32.toBitVec_inj.mp (BitVec.eq_of_getLsbD_eq fun i hi => by
        simp only [Int32.toBitVec_and, BitVec.getLsbD_and]; exact (key _ _ _ _).1)
      have k2 : (D &&& (A &&& B)) &&& nI k = D &&& ((A &&& nI k) &&& B) := Int32.toBitVec_inj.mp (BitVec.eq_of_getLsbD_eq fun i hi => by
        simp only [Int32.toBitVec_and, BitVec.getLsbD_and]; exact (key _ _ _ _).2.1)
      have k3 : (D &&& (A &&& B)) &&& nI k = D &&& (A &&& (B &&& nI k)) := Int32.toBitVec_inj.mp (BitVec.eq_of_getLsbD_eq fun i hi => by
        simp only [Int32.toBitVec_and, BitVec.getLsbD_and]; exact (key _ _ _ _).2.2)
      by_cases h1 : ga k = true <;> by_cases h2 : gb k = true
      · simp only [if_pos h1, if_pos h2]; rw [if_neg (by omega)]; exact k1
      · simp only [if_pos h1, if_neg h2]; rw [if_neg (by omega)]; exact k2
      · simp only [if_neg h1, if_pos h2]; rw [if_neg (by omega)]; exact k3
      · simp only [if_neg h1, if_neg h2]; rfl) FU 64 0 (0, D) ⟨rfl, by
    dsimp only
    show D = D &&& (-1 &&& -1)
    rw [Int32.and_neg_one, Int32.and_neg_one]⟩ (by omega) (by have := FU_gt; omega)
  rw [show lp (fun _ _ _ => none : Int32 → Int32 → Int32 → Option (Int32)) (f_X6_saw_b63 C (nI f) p3 th) FU (0 : Int32) D (0 : Int32) = f_X6_saw_b63 C (nI f) p3 th rc (nI n) s (nI 64) from h]
  dsimp only at i1 i2
  unfold f_X6_saw_b63
  rw [if_pos (show (64 : Int32) ≤ nI 64 from nI_le (a := 64) (b := 64) (by omega) (by omega)), i1, i2]
  by_cases h0 : p3 = 0
  · rw [if_pos h0, if_pos h0]
  · rw [if_neg h0, if_neg h0]
    split <;> rfl
theorem saw_in {M : HC} {T f p v : Nat} (hf : f < 5) (hp : p < 6) (hT : T ≤ 6) (l3 : M 0 11 = nI T) (fa : Nat → Int32) (hfa : fa = fun t => M 7 (4 * t + 3)) (D th rv : Int32) (hD : M 1 (35 + f) = D) (hth : M 1 (5 + 5 * p + f) = th) (hv : (v = 0 ∧ rv = 0) ∨ (v = 1 ∧ f_X7_readsNow M (nI f) = some rv)) (rc41 : Int32 → Int32 → Int32 → Option Int32) (n0 : Nat) (hn0 : n0 ≤ 64) (s0 : Int32) :
    lp (fun _ _ _ => none : Int32 → Int32 → Int32 → Option (Int32)) (f_X7_saw_b50 M (nI p) (nI f) rc41 (nI v)) FU (nI n0) s0 (0 : Int32) = rc41 (nI (n0 + cn (gd9 fa T D th rv) 64)) (if cn (gd9 fa T D th rv) 64 = 0 then s0 else (if n0 = 0 then an (gd9 fa T D th rv) 64 else s0 &&& an (gd9 fa T D th rv) 64)) (nI (v + 1)) := by
  have i35 : inb (nI (35 + f)) 141 := inb_nI (by omega) (by omega)
  have c35 : (nI (35 + f)).toNatClampNeg = 35 + f := nI_clamp (by omega)
  have e35 : (35 : Int32) + nI f = nI (35 + f) := nl 35 f
  generalize hg : gd9 fa T D th rv = g
  obtain ⟨⟨n, s⟩, rc, ⟨i1, i2⟩, h⟩ := lp_ex (T := Int32 → Int32 → Int32 → Option Int32) (z := fun _ _ _ => none) (F := f_X7_saw_b50 M (nI p) (nI f) rc41 (nI v)) (fun g k (q : Nat × Int32) => g (nI q.1) q.2 (nI k)) 64 (fun k q => q.1 = n0 + cn g k ∧ q.2 = if cn g k = 0 then s0 else (if n0 = 0 then an g k else s0 &&& an g k)) (by
    intro rc k q hi hk
    obtain ⟨n, s⟩ := q
    obtain ⟨a1, a2⟩ := hi
    dsimp only at a1 a2
    have b0 := cn_le g k
    have e95 : ∀ x, x = cap9 (rv + sumS fa (nI k) T) → f_X7_saw_j95 M (nI p) (nI f) rc (nI n) s (nI k) x = if g k = true then rc (nI (n + 1)) (if n = 0 then nI k else s &&& nI k) (nI (k + 1)) else rc (nI n) s (nI (k + 1)) := by
      intro x hx
      unfold f_X7_saw_j95 f_X7_saw_j140 f_X7_saw_j145
      rw [e35, if_pos i35, c35, hD, thought_m hp hf, hth, bd_s, ← hg]
      unfold gd9
      rw [← hx]
      simp only [nm, nI_1]
      by_cases h1 : (nI k &&& (D ^^^ (-1 : Int32))) = 0
      · rw [if_pos h1, decide_eq_true h1, Bool.true_and]
        by_cases h2 : x = th
        · rw [if_pos h2, if_pos (decide_eq_true h2)]
          by_cases h3 : n = 0
          · rw [if_pos h3, h3, if_pos (show nI 0 = (0 : Int32) from rfl)]
          · rw [if_neg h3, if_neg (nI_ne0 (by omega) (by omega))]
        · rw [if_neg h2, if_neg (by rw [decide_eq_false h2]; decide)]
      · rw [if_neg h1, decide_eq_false h1, Bool.false_and, if_neg (by decide)]
    have e72 : f_X7_saw_j72 M (nI p) (nI f) rc (nI n) s (nI k) rv = if g k = true then rc (nI (n + 1)) (if n = 0 then nI k else s &&& nI k) (nI (k + 1)) else rc (nI n) s (nI (k + 1)) := by
      unfold f_X7_saw_j72
      rw [fame_m hT l3, bd_s, ← hfa]
      simp only [nm]
      by_cases h9 : rv + sumS fa (nI k) T ≤ 99
      · rw [if_pos h9]; exact e95 _ (by unfold cap9; rw [if_pos h9])
      · rw [if_neg h9]; exact e95 _ (by unfold cap9; rw [if_neg h9])
    have es : f_X7_saw_b50 M (nI p) (nI f) rc41 (nI v) rc (nI n) s (nI k) = if g k = true then rc (nI (n + 1)) (if n = 0 then nI k else s &&& nI k) (nI (k + 1)) else rc (nI n) s (nI (k + 1)) := by
      unfold f_X7_saw_b50
      rw [if_neg (show ¬ (64 : Int32) ≤ nI k from nI_ge (b := 64) hk (by omega))]
      rcases hv with ⟨rfl, hv⟩ | ⟨rfl, hv⟩
      · rw [if_neg (show ¬ nI 0 = (1 : Int32) by decide), ← hv]; exact e72
      · rw [if_pos (show nI 1 = (1 : Int32) from rfl), hv, bd_s]; exact e72
    by_cases hgk : g k = true
    · refine ⟨(n + 1, if n = 0 then nI k else s &&& nI k), by rw [es, if_pos hgk], ?_, ?_⟩
      · dsimp only
        show n + 1 = n0 + cn g (k + 1)
        unfold cn
        rw [if_pos hgk]; omega
      · dsimp only
        show _ = if cn g (k + 1) = 0 then s0 else (if n0 = 0 then an g (k + 1) else s0 &&& an g (k + 1))
        have e1 : cn g (k + 1) = cn g k + 1 := by show (if g k = true then cn g k + 1 else cn g k) = _; rw [if_pos hgk]
        have e2 : an g (k + 1) = an g k &&& nI k := by show (if g k = true then an g k &&& nI k else an g k) = _; rw [if_pos hgk]
        rw [if_neg (show ¬ cn g (k + 1) = 0 by omega), e2, a2]
        by_cases h0 : cn g k = 0
        · rw [if_pos h0, an_0 g k h0, Int32.neg_one_and]
          by_cases h3 : n0 = 0
          · rw [if_pos h3, if_pos (by omega)]
          · rw [if_neg h3, if_neg (by omega)]
        · rw [if_neg h0, if_neg (show ¬ n = 0 by omega)]
          by_cases h3 : n0 = 0
          · rw [if_pos h3, if_pos h3]
          · rw [if_neg h3, if_neg h3, Int32.and_assoc]
    · refine ⟨(n, s), by rw [es, if_neg hgk], ?_, ?_⟩
      · dsimp only
        show n = n0 + cn g (k + 1)
        unfold cn
        rw [if_neg hgk]; omega
      · dsimp only
        show _ = if cn g (k + 1) = 0 then s0 else (if n0 = 0 then an g (k + 1) else s0 &&& an g (k + 1))
        have e1 : cn g (k + 1) = cn g k := by show (if g k = true then cn g k + 1 else cn g k) = _; rw [if_neg hgk]
        have e2 : an g (k + 1) = an g k := by show (if g k = true then an g k &&& nI k else an g k) = _; rw [if_neg hgk]
        rw [e1, e2, a2]) FU 64 0 (n0, s0) ⟨rfl, by
    dsimp only
    show s0 = if (0 : Nat) = 0 then s0 else _
    rw [if_pos rfl]⟩ (by omega) (by have := FU_gt; omega)
  rw [show lp (fun _ _ _ => none : Int32 → Int32 → Int32 → Option (Int32)) (f_X7_saw_b50 M (nI p) (nI f) rc41 (nI v)) FU (nI n0) s0 (0 : Int32) = f_X7_saw_b50 M (nI p) (nI f) rc41 (nI v) rc (nI n) s (nI 64) from h]
  dsimp only at i1 i2
  unfold f_X7_saw_b50
  rw [if_pos (show (64 : Int32) ≤ nI 64 from nI_le (a := 64) (b := 64) (by omega) (by omega)), i1, i2]
  simp only [nm, nI_1]
theorem op_saw {C : CC} {M : HC} (hR : Rel C M) (p1 p2 p3 : Int32) : ∃ (v : Int32), f_X6_saw C p1 p2 p3 = some v ∧ f_X7_saw M p1 p2 p3 = some v ∧ Rel C M := by
  obtain ⟨P, F, T, R, hN⟩ := id hR
  obtain ⟨hL, hS, -⟩ := id hN
  obtain ⟨⟨hP, hF, hT, hRR⟩, -, -, ⟨l3, m11⟩, -⟩ := id hL
  unfold f_X6_saw f_X7_saw
  rcases isP hL p1 with ⟨p, hp1, rfl, hp2, hp3⟩ | ⟨hp2, hp3⟩
  · rw [hp2, hp3, bd_s, bd_s, if_neg one_ne0, if_neg one_ne0]
    rcases isF hL p2 with ⟨f, f1, rfl, f2, f3⟩ | ⟨f2, f3⟩
    · rw [f2, f3, bd_s, bd_s, if_neg one_ne0, if_neg one_ne0, bnd_c, t0, t1]
      rcases in_lit p3 1 (1 : Int64) (by decide) (by omega) with ⟨j, j1, rfl, j2⟩ | ⟨j1, j2⟩
      · rw [j2, bd_s, if_neg one_ne0, if_pos (by rw [nI_toInt (by omega)]; omega), slot_c, bd_s]
        have i30 : inb (nI (p * 5 + f)) 30 := inb_nI (by omega) (by omega)
        have c30 : (nI (p * 5 + f)).toNatClampNeg = p * 5 + f := nI_clamp (by omega)
        have i5 : inb (nI f) 5 := inb_nI (by omega) (by omega)
        have c5 : (nI f).toNatClampNeg = f := nI_clamp (by omega)
        have eth := th_eq hS (p := p) (f := f) (by omega) (by omega)
        obtain ⟨r1, r2⟩ := rdN hL hS f1
        rw [if_pos i30, c30, eth]
        simp only [nm, if_pos i5, c5, dn_eq hS f1]
        obtain ⟨th, hth⟩ : ∃ x, x = M 1 (5 + 5 * p + f) := ⟨_, rfl⟩
        obtain ⟨D, hD⟩ : ∃ x, x = M 1 (35 + f) := ⟨_, rfl⟩
        obtain ⟨rv, hrv⟩ : ∃ x, x = rd (M 4 f) (M 1 f) := ⟨_, rfl⟩
        rw [← hrv] at r1 r2
        rw [← hth, ← hD]
        obtain ⟨fa, hfa⟩ : ∃ x : Nat → Int32, x = fun t => M 7 (4 * t + 3) := ⟨_, rfl⟩
        rw [saw_c (C := C) (p := p) (j := j) (by omega) hT l3 fa (fun t ht => by rw [hfa]; exact fa_eq hL ht) D th rv (by rw [dn_eq hS f1, hD]) r1 (nI j)]
        have b0 := cn_le (gd9 fa T D th 0) 64
        have b1 := cn_le (gd9 fa T D th rv) 64
        have hsub : ∀ r j, gd9 fa T D th r j = true → D &&& nI j = nI j := fun r j h => by
          unfold gd9 at h
          rw [Bool.and_eq_true] at h
          exact sub_of _ _ (of_decide_eq_true h.1)
        have e7 : lp (fun _ _ _ => none : Int32 → Int32 → Int32 → Option (Int32)) (f_X7_saw_b41 M (nI p) (nI f) (nI j)) FU (0 : Int32) (0 : Int32) (0 : Int32) = some (if nI j = 0 then nI (cn (gd9 fa T D th 0) 64 + cn (gd9 fa T D th rv) 64) else (if nI (cn (gd9 fa T D th 0) 64 + cn (gd9 fa T D th rv) 64) = 0 then 0 else D &&& (an (gd9 fa T D th 0) 64 &&& an (gd9 fa T D th rv) 64))) := by
          show lp (fun _ _ _ => none : Int32 → Int32 → Int32 → Option (Int32)) (f_X7_saw_b41 M (nI p) (nI f) (nI j)) (4999 + 1) (nI 0) (0 : Int32) (nI 0) = _
          rw [lp_s]
          unfold f_X7_saw_b41
          rw [if_neg (show ¬ (2 : Int32) ≤ nI 0 by decide), saw_in (v := 0) (by omega) (by omega) hT m11 fa hfa D th 0 hD.symm hth.symm (Or.inl ⟨rfl, rfl⟩) _ 0 (by omega)]
          show lp (fun _ _ _ => none : Int32 → Int32 → Int32 → Option (Int32)) (f_X7_saw_b41 M (nI p) (nI f) (nI j)) (4998 + 1) _ _ _ = _
          rw [lp_s]
          unfold f_X7_saw_b41
          rw [if_neg (show ¬ (2 : Int32) ≤ nI (0 + 1) by decide), saw_in (v := 1) (by omega) (by omega) hT m11 fa hfa D th rv hD.symm hth.symm (Or.inr ⟨rfl, r2⟩) _ (0 + cn (gd9 fa T D th 0) 64) (by omega)]
          show lp (fun _ _ _ => none : Int32 → Int32 → Int32 → Option (Int32)) (f_X7_saw_b41 M (nI p) (nI f) (nI j)) (4997 + 1) _ _ _ = _
          rw [lp_s]
          unfold f_X7_saw_b41
          rw [if_pos (show (2 : Int32) ≤ nI (1 + 1) by decide), Nat.zero_add]
          by_cases hj : nI j = 0
          · rw [if_pos hj, if_pos hj]
          · rw [if_neg hj, if_neg hj]
            congr 1
            have s0 := an_sub (gd9 fa T D th 0) D (hsub 0) 64
            have s1 := an_sub (gd9 fa T D th rv) D (hsub rv) 64
            have z0 := an_0 (gd9 fa T D th 0) 64
            have z1 := an_0 (gd9 fa T D th rv) 64
            generalize cn (gd9 fa T D th 0) 64 = x0 at *
            generalize cn (gd9 fa T D th rv) 64 = x1 at *
            generalize an (gd9 fa T D th 0) 64 = y0 at *
            generalize an (gd9 fa T D th rv) 64 = y1 at *
            by_cases h1 : x1 = 0 <;> by_cases h0 : x0 = 0
            · rw [if_pos h1, if_pos h0, if_pos (by rw [h0, h1]; rfl)]
            · rw [if_pos h1, if_neg h0, if_neg (nI_ne0 (by omega) (by omega)), z1 h1, Int32.and_neg_one, s0 h0]; rfl
            · rw [if_neg h1, if_pos h0, if_neg (nI_ne0 (by omega) (by omega)), z0 h0, Int32.neg_one_and, s1 h1]
            · rw [if_neg h1, if_neg h0, if_neg h0, if_neg (nI_ne0 (by omega) (by omega)), ← Int32.and_assoc, s0 h0]; rfl
        exact ⟨_, rfl, e7, hR⟩
      · rw [j2, bd_s, if_pos z_z, if_neg (by exact j1)]; exact ⟨_, rfl, rfl, hR⟩
    · rw [f2, f3]; exact ⟨_, rfl, rfl, hR⟩
  · rw [hp2, hp3]; exact ⟨_, rfl, rfl, hR⟩
