/-! ===== pure: belts, inspections, odds, the book, letters ===== -/
theorem lp_ex {σ R T : Type} {z : T} {F : T → T} (app : T → Nat → σ → Option R) (N : Nat) (Inv : Nat → σ → Prop)
    (hs : ∀ (rc : T) (k : Nat) (s : σ), Inv k s → k < N → ∃ s', app (F rc) k s = app rc (k + 1) s' ∧ Inv (k + 1) s') : ∀ (m n k : Nat) (s : σ), Inv k s → k + n = N → n < m → ∃ (s' : σ) (rc : T), Inv N s' ∧ app (lp z F m) k s = app (F rc) N s' := by
  intro m
  induction m with
  | zero => intro n k s _ _ h; omega
  | succ m ih =>
    intro n k s hi hk hm
    cases n with
    | zero =>
      have : k = N := by omega
      subst this
      exact ⟨s, lp z F m, hi, rfl⟩
    | succ n =>
      obtain ⟨s', h1, h2⟩ := hs (lp z F m) k s hi (by omega)
      obtain ⟨s2, rc, h3, h4⟩ := ih n (k + 1) s' h2 (by omega) (by omega)
      exact ⟨s2, rc, h3, by rw [lp_s, h1, h4]⟩
theorem i_lt (x y : Int32) : (x < y) = (x.toInt < y.toInt) := propext Int32.lt_iff_toInt_lt
theorem i_le (x y : Int32) : (x ≤ y) = (x.toInt ≤ y.toInt) := propext Int32.le_iff_toInt_le
/-- the class's two tests of a bound, the reference's one -/
theorem bnd_c {α : Type} {p lo hi : Int32} {a b : α} : (if p < lo then a else (if p ≤ hi then b else a)) = if lo.toInt ≤ p.toInt ∧ p.toInt ≤ hi.toInt then b else a := by
  simp only [i_lt, i_le]
  by_cases h1 : p.toInt < lo.toInt
  · rw [if_pos h1, if_neg (by omega)]
  · rw [if_neg h1]
    by_cases h2 : p.toInt ≤ hi.toInt
    · rw [if_pos h2, if_pos (by omega)]
    · rw [if_neg h2, if_neg (by omega)]
theorem bnd_c2 {α : Type} {p lo hi : Int32} {a b : α} : (if p < lo then a else (if hi < p then a else b)) = if lo.toInt ≤ p.toInt ∧ p.toInt ≤ hi.toInt then b else a := by
  simp only [i_lt]
  by_cases h1 : p.toInt < lo.toInt
  · rw [if_pos h1, if_neg (by omega)]
  · rw [if_neg h1]
    by_cases h2 : hi.toInt < p.toInt
    · rw [if_pos h2, if_neg (by omega)]
    · rw [if_neg h2, if_pos (by omega)]
theorem t0 : (0 : Int32).toInt = 0 := by decide
theorem t1 : (1 : Int32).toInt = 1 := by decide
theorem t9 : (9 : Int32).toInt = 9 := by decide
theorem t99 : (99 : Int32).toInt = 99 := by decide
theorem t100 : (100 : Int32).toInt = 100 := by decide
theorem t255 : (255 : Int32).toInt = 255 := by decide
theorem op_belt {C : CC} {M : HC} (hR : Rel C M) (p1 p2 : Int32) : ∃ (v : Int32) (C2 : CC) (M2 : HC), f_X6_belt C p1 p2 = some (v, C2) ∧ f_X7_belt M p1 p2 = some (v, M2) ∧ Rel C2 M2 := by
  obtain ⟨P, F, T, R, hN⟩ := id hR
  have hL := hN.1
  have hb := hL.1
  unfold f_X6_belt f_X7_belt
  rcases isF hL p1 with ⟨f, f1, rfl, f2, f3⟩ | ⟨f2, f3⟩
  · rw [f2, f3]
    simp only [bd, if_neg one_ne0]
    rw [bnd_c, t0, t99]
    rcases in_lit p2 99 (99 : Int64) (by decide) (by omega) with ⟨j, j1, rfl, j2⟩ | ⟨j1, j2⟩
    · rw [j2, if_pos (by rw [nI_toInt (by omega)]; omega)]
      simp only [if_neg one_ne0, nm]
      rw [n0_add, if_pos (inb_nI (by omega) (by omega)), if_pos (inb_nI (by omega) (by omega)), if_pos (inb_nI (by omega) (by omega)), if_pos (inb_nI (by omega) (by omega)), nI_clamp (by omega), be_eq hN.2.1 f1]
      exact ⟨_, _, _, rfl, rfl, (RelN.belt (P := P) (F := F) (T := T) (R := R) hN f1 j1).rel⟩
    · rw [j2, if_neg (by exact j1)]
      exact ⟨_, _, _, rfl, rfl, hR⟩
  · rw [f2, f3]; exact ⟨_, _, _, rfl, rfl, hR⟩
theorem look_cm {C : CC} {M : HC} {P F T R : Nat} (h : RelN C M P F T R) {p f : Nat} (hp : p < P) (hf : f < F) : ∃ C2 M2, f_X6_lookClosely C (nI p) (nI f) = some (M 5 f, C2) ∧ f_X7_doInspect M (nI p) (nI f) = some M2 ∧ M2 5 f = M 5 f ∧ RelN C2 M2 P F T R := by
  obtain ⟨hL, hS, -⟩ := id h
  have hb := hL.1
  obtain ⟨a, a1, a2⟩ := st_bd hL hf
  have hT := RelN.think (P := P) (F := F) (T := T) (R := R) h hp hf a1
  have c5 : (nI f).toNatClampNeg = f := nI_clamp (by omega)
  have i5 : inb (nI f) 5 := inb_nI (by omega) (by omega)
  have i30 : inb (nI (p * 5 + f)) 30 := inb_nI (by omega) (by omega)
  have i141 : inb (nI f) 141 := inb_nI (by omega) (by omega)
  have e6 : f_X6_lookClosely C (nI p) (nI f) = some (M 5 f, if M 4 f = 3 then va_up (va_up C 4 (sa (C 4) 4 (nI (p * 5 + f)) (nI a))) 4 (sa (sa (C 4) 4 (nI (p * 5 + f)) (nI a)) 1 (nI f) (nI 0)) else va_up C 4 (sa (C 4) 4 (nI (p * 5 + f)) (nI a))) := by
    have k1 : ∀ X : HC, (va_up C 4 X) 2 = C 2 := fun _ => rfl
    have k2 : ∀ X Y : HC, (va_up (va_up C 4 X) 4 Y) 2 = C 2 := fun _ _ => rfl
    have k3 : ∀ X : HC, (va_up C 4 X) 4 = X := fun _ => rfl
    unfold f_X6_lookClosely f_X6_lookClosely_j45
    simp only [slot_c, bd, nm, if_pos i5, if_pos i30, c5, k1, k2, k3, kd_eq hL hf, st_eq hL hf, a2]
    split <;> rfl
  have e7 : f_X7_doInspect M (nI p) (nI f) = some (if M 4 f = 3 then sa (sa M 1 (nI (5 + 5 * p + f)) (nI a)) 1 (nI f) (nI 0) else sa M 1 (nI (5 + 5 * p + f)) (nI a)) := by
    have k1 : ∀ v : Int32, (sa M 1 (nI (5 + 5 * p + f)) v) 4 = M 4 := fun _ => rfl
    unfold f_X7_doInspect
    simp only [bd, nm, if_pos i5, c5, a2, think_m (M := M) (p := p) (f := f) (by omega) (by omega) a1, n0_add, if_pos i141, k1, sa_self (x := sa M 1 (nI (5 + 5 * p + f)) (nI a)) (j := 1) (i := f) (by omega)]
    split <;> rfl
  refine ⟨_, _, e6, e7, ?_, ?_⟩
  · split <;> rfl
  · split
    · exact RelN.belt (P := P) (F := F) (T := T) (R := R) hT hf (a := 0) (by omega)
    · exact hT
theorem op_inspect {C : CC} {M : HC} (hR : Rel C M) (p1 p2 : Int32) : ∃ (v : Int32) (C2 : CC) (M2 : HC), f_X6_inspect C p1 p2 = some (v, C2) ∧ f_X7_inspect M p1 p2 = some (v, M2) ∧ Rel C2 M2 := by
  obtain ⟨P, F, T, R, hN⟩ := id hR
  have hL := hN.1
  have hb := hL.1
  unfold f_X6_inspect f_X7_inspect
  rcases isP hL p1 with ⟨k, k1, rfl, k2, k3⟩ | ⟨k2, k3⟩
  · rw [k2, k3]
    simp only [bd, if_neg one_ne0]
    rcases isF hL p2 with ⟨f, f1, rfl, f2, f3⟩ | ⟨f2, f3⟩
    · rw [f2, f3]
      simp only [if_neg one_ne0]
      obtain ⟨C2, M2, a1, a2, a3, a4⟩ := look_cm (P := P) (F := F) (T := T) (R := R) hN k1 f1
      rw [a1, a2]
      simp only []
      rw [if_pos (inb_nI (by omega) (by omega)), nI_clamp (by omega), a3]
      exact ⟨_, _, _, rfl, rfl, a4.rel⟩
    · rw [f2, f3]; exact ⟨_, _, _, rfl, rfl, hR⟩
  · rw [k2, k3]; exact ⟨_, _, _, rfl, rfl, hR⟩
theorem op_hides {C : CC} {M : HC} (hR : Rel C M) (p1 p2 : Int32) : ∃ (v : Int32), f_X6_hides C p1 p2 = some v ∧ f_X7_hides M p1 p2 = some v ∧ Rel C M := by
  have loop : ∀ n, n ≤ 9 → ∃ v, lp (fun _ _ => none : Int64 → Int32 → Option (Int32)) (f_X6_hides_b31 (nI n) p2) FU (1000000000 : Int64) 0 = some v := by
    intro n hn
    refine ⟨_, lp_for (T := Int64 → Int32 → Option Int32) (fun g k s => g s (nI k)) n (fun _ v => (v * (Int32.toInt64 ((100 : Int32) - p2))) / (100 : Int64)) (fun s => some (Int64.toInt32 s)) ?_ ?_ FU n 0 1000000000 (by omega) (by have := FU_gt; omega)⟩
    · intro rc k s hk
      unfold f_X6_hides_b31
      rw [if_neg (nI_ge hk (by omega))]
      simp only [nm]
      rw [nI_1]
    · intro rc s
      unfold f_X6_hides_b31
      rw [if_pos (nI_le (Nat.le_refl _) (by omega))]
  have same : f_X7_hides_b34 = f_X6_hides_b31 := rfl
  unfold f_X6_hides f_X7_hides
  rw [bnd_c2, bnd_c, t1, t9, t0, t100, in_z p1 _ _ 1 9 (by decide) (by decide), in_z p2 _ _ 0 100 (by decide) (by decide), same]
  simp only [bd]
  by_cases h1 : 1 ≤ p1.toInt ∧ p1.toInt ≤ 9
  · rw [if_pos h1, if_pos h1, if_neg one_ne0]
    by_cases h2 : 0 ≤ p2.toInt ∧ p2.toInt ≤ 100
    · rw [if_pos h2, if_pos h2, if_neg one_ne0]
      obtain ⟨n, n1, rfl⟩ := exk (p := p1) (F := 10) (by omega) (by omega)
      obtain ⟨v, hv⟩ := loop n (by omega)
      exact ⟨v, hv, hv, hR⟩
    · rw [if_neg h2, if_neg h2]; exact ⟨_, rfl, rfl, hR⟩
  · rw [if_neg h1, if_neg h1]; exact ⟨_, rfl, rfl, hR⟩
theorem op_feed {C : CC} {M : HC} (hR : Rel C M) (p1 : Int32) : ∃ (v : Int32) (C2 : CC) (M2 : HC), f_X6_feed C p1 = some (v, C2) ∧ f_X7_feed M p1 = some (v, M2) ∧ Rel C2 M2 := by
  obtain ⟨P, F, T, R, hL, hS, hI0, hI1, hB, hX⟩ := id hR
  obtain ⟨x0, n, n1, n2, n3, n4⟩ := hX
  unfold f_X6_feed f_X7_feed f_X5_append
  rw [bnd_c, t0, t255, in_z p1 _ _ 0 255 (by decide) (by decide), n2, n3]
  simp only [bd]
  by_cases h1 : 0 ≤ p1.toInt ∧ p1.toInt ≤ 255
  · rw [if_pos h1, if_pos h1, if_neg one_ne0]
    by_cases h2 : n = 250
    · subst h2
      rw [if_neg (show ¬ nI 250 < (250 : Int32) from nI_nlt (a := 250) (b := 250) (by omega) (by omega)), if_pos (show nI 250 = (250 : Int32) from rfl)]
      refine ⟨_, _, _, rfl, rfl, ⟨P, F, T, R, hL, hS, hI0, hI1, hB, x0, 250, by omega, n2, n3, n4⟩⟩
    · have e1 : nI n < (250 : Int32) := nI_lt (b := 250) (by omega) (by omega)
      have e2 : ¬ nI n = (250 : Int32) := fun e => h2 ((nI_eq (a := n) (b := 250) (by omega) (by omega)).mp e)
      rw [if_pos e1, if_neg e2, if_pos (inb_nI (by omega) (by omega)), if_pos (inb_nI (by omega) (by omega))]
      simp only [nm]
      rw [show sa (C 1) 1 (nI n) p1 0 1 = C 1 0 1 from rfl, show sa M 3 (nI n) p1 0 3 = M 0 3 from rfl, n2, n3, nI_1]
      refine ⟨_, _, _, rfl, rfl, ⟨P, F, T, R, hL, hS, hI0, hI1, hB, x0, n + 1, by omega, rfl, rfl, fun k hk => ?_⟩⟩
      show sa (C 1) 1 (nI n) p1 1 k = sa M 3 (nI n) p1 3 k
      rw [sa_at (by omega), sa_at (by omega)]
      by_cases h3 : k = n
      · rw [if_pos h3, if_pos h3]
      · rw [if_neg h3, if_neg h3]; exact n4 k (by omega)
  · rw [if_neg h1, if_neg h1]
    exact ⟨_, _, _, rfl, rfl, hR⟩
