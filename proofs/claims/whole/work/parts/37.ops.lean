/-! ===== pure: attempt; days ===== -/
theorem v42 (C : CC) (Y : HC) : va_up C 4 Y 2 = C 2 := rfl
theorem v44 (C : CC) (Y : HC) : va_up C 4 Y 4 = Y := rfl
theorem s34 (X : HC) (i v : Int32) : sa X 3 i v 4 = X 4 := rfl
theorem s32 (X : HC) (i v : Int32) : sa X 3 i v 2 = X 2 := rfl
theorem s15 (X : HC) (i v : Int32) : sa X 1 i v 5 = X 5 := rfl
theorem z_z : (0 : Int32) = 0 := rfl
theorem op_attempt {C : CC} {M : HC} (hR : Rel C M) (p1 p2 p3 : Int32) : ∃ (v : Int32) (C2 : CC) (M2 : HC), f_X6_attempt C p1 p2 p3 = some (v, C2) ∧ f_X7_attempt M p1 p2 p3 = some (v, M2) ∧ Rel C2 M2 := by
  obtain ⟨P, F, T, R, hN⟩ := id hR
  obtain ⟨hL, hS, -⟩ := id hN
  obtain ⟨⟨hP, hF, hT, hRR⟩, ⟨l0, m5⟩, -, -, ⟨l4, m13⟩, -⟩ := id hL
  unfold f_X6_attempt f_X7_attempt
  rcases isF hL p1 with ⟨f, f1, rfl, f2, f3⟩ | ⟨f2, f3⟩
  · rw [f2, f3, bd_s, bd_s, if_neg one_ne0, if_neg one_ne0]
    rcases isT hL p2 with ⟨t, ht1, rfl, ht2, ht3⟩ | ⟨ht2, ht3⟩
    · rw [ht2, ht3, bd_s, bd_s, if_neg one_ne0, if_neg one_ne0, l4, m13]
      rcases set_two hRR p3 with ⟨s, s1, rfl, s2, s3⟩ | ⟨s2, s3⟩
      · rw [s3, bd_s, if_neg one_ne0, if_pos s2]
        obtain ⟨g, g1, g2⟩ := gu_bd hL ht1
        obtain ⟨a, a1, a2⟩ := st_bd hL f1
        have i5 : inb (nI f) 5 := inb_nI (by omega) (by omega)
        have i6 : inb (nI t) 6 := inb_nI (by omega) (by omega)
        have i30 : inb (nI (g * 5 + f)) 30 := inb_nI (by omega) (by omega)
        have i35 : inb (nI (35 + f)) 141 := inb_nI (by omega) (by omega)
        have i40 : inb (nI (40 + f)) 141 := inb_nI (by omega) (by omega)
        have i24 : inb (nI (4 * t)) 24 := inb_nI (by omega) (by omega)
        have c5 : (nI f).toNatClampNeg = f := nI_clamp (by omega)
        have c6 : (nI t).toNatClampNeg = t := nI_clamp (by omega)
        have c30 : (nI (g * 5 + f)).toNatClampNeg = g * 5 + f := nI_clamp (by omega)
        have c35 : (nI (35 + f)).toNatClampNeg = 35 + f := nI_clamp (by omega)
        have c40 : (nI (40 + f)).toNatClampNeg = 40 + f := nI_clamp (by omega)
        have c24 : (nI (4 * t)).toNatClampNeg = 4 * t := nI_clamp (by omega)
        have e35 : (35 : Int32) + nI f = nI (35 + f) := nl 35 f
        have e40 : (40 : Int32) + nI f = nI (40 + f) := nl 40 f
        have e44 : (4 : Int32) * nI t = nI (4 * t) := ix40 t
        have edn := dn_eq hS f1
        have eus := us_eq hS f1
        have est := st_eq hL f1
        have efa := fa_eq hL ht1
        have egu := gu_eq hL ht1
        have eth := th_eq hS (p := g) (f := f) (by omega) (by omega)
        have etm := thought_m (M := M) (p := g) (f := f) (by omega) (by omega)
        have etr1 := (tricks_cm hL (nI t)).1
        have etr2 := (tricks_cm hL (nI t)).2
        have epa := fun set th => (passes_cm hL f1 ht1 set th).1
        have epb := fun set th => (passes_cm hL f1 ht1 set th).2
        have e1 : ∀ w : Int32, sa M 1 (nI (40 + f)) w 1 (35 + f) = M 1 (35 + f) := fun w => by rw [sa_at (by omega), if_neg (by omega)]
        simp only [etr1, etr2, bd_s, if_pos i5, if_pos i35, e35, c5, c35, edn, eus, nm, has_c, has_m]
        by_cases hh : hb (M 1 (35 + f)) (nI t)
        · rw [if_pos hh, if_neg one_ne0, if_neg one_ne0]
          exact ⟨_, _, _, rfl, rfl, hR⟩
        · rw [if_neg hh, if_pos z_z, if_pos z_z]
          by_cases hA : (nI s &&& (trS (fun r => M 8 (3 * r)) (nI t) R ^^^ (-1 : Int32))) = 0
          · rw [if_pos hA]
            simp only [e40, if_pos i40, c40]
            by_cases hB : (nI s &&& M 1 (40 + f)) = 0
            · have hfree : (nI s &&& ((trS (fun r => M 8 (3 * r)) (nI t) R &&& (M 1 (40 + f) ^^^ (-1 : Int32))) ^^^ (-1 : Int32))) = 0 := by rw [free_eq]; exact ⟨hA, hB⟩
              rw [if_pos hB, if_pos hfree]
              simp only [if_pos i6, e44, if_pos i24, c6, c24, v42, v44, s34, s32, egu, g2, slot_c, bd_s, if_pos i30, c30, eth, etm, epa, epb, est, a2, edn, s15, e1, efa]
              have hU := RelN.used hN f1 (M 1 (40 + f) ||| nI s)
              by_cases hp : pasB M R f t (nI s) (M 1 (5 + 5 * g + f)) = 0
              · rw [if_pos hp, if_pos hp, think_m (by omega) (by omega) a1, bd_s]
                exact ⟨_, _, _, rfl, rfl, (RelN.think hU g1 f1 a1).rel⟩
              · rw [if_neg hp, if_neg hp]
                have hD := RelN.done hU f1 (M 1 (35 + f) ||| ((1 : Int32) <<< (nI t &&& 31)))
                obtain ⟨C2, M2, c1, d1, h2⟩ := grow_cm hD f1 ht1
                refine ⟨1, C2, M2, ?_, d1, h2.rel⟩
                have c1' : f_X6_grow (va_up (va_up C 4 (sa (C 4) 3 (nI f) (M 1 (40 + f) ||| nI s))) 4 (sa (sa (C 4) 3 (nI f) (M 1 (40 + f) ||| nI s)) 2 (nI f) (M 1 (35 + f) ||| ((1 : Int32) <<< (nI t &&& 31))))) (nI f) (M 7 (4 * t + 3)) = some C2 := c1
                rw [c1', bd_s]
            · have hfree : ¬ (nI s &&& ((trS (fun r => M 8 (3 * r)) (nI t) R &&& (M 1 (40 + f) ^^^ (-1 : Int32))) ^^^ (-1 : Int32))) = 0 := by rw [free_eq]; exact fun z => hB z.2
              rw [if_neg hB, if_neg hfree]
              exact ⟨_, _, _, rfl, rfl, hR⟩
          · have hfree : ¬ (nI s &&& ((trS (fun r => M 8 (3 * r)) (nI t) R &&& (M 1 (40 + f) ^^^ (-1 : Int32))) ^^^ (-1 : Int32))) = 0 := by rw [free_eq]; exact fun z => hA z.1
            rw [if_neg hA, if_neg hfree]
            exact ⟨_, _, _, rfl, rfl, hR⟩
      · rw [s3, bd_s, if_pos z_z, if_neg s2]
        exact ⟨_, _, _, rfl, rfl, hR⟩
    · rw [ht2, ht3]; exact ⟨_, _, _, rfl, rfl, hR⟩
  · rw [f2, f3]; exact ⟨_, _, _, rfl, rfl, hR⟩
/-! two loops side by side; one that may end early -/
theorem lp_rel {σ1 σ2 R1 R2 T1 T2 : Type} {z1 : T1} {F1 : T1 → T1} {z2 : T2} {F2 : T2 → T2} (app1 : T1 → Nat → σ1 → Option R1) (app2 : T2 → Nat → σ2 → Option R2) (N : Nat) (Inv : Nat → σ1 → σ2 → Prop) (Q : R1 → R2 → Prop)
    (hs : ∀ (rc1 : T1) (rc2 : T2) (k : Nat) (s1 : σ1) (s2 : σ2), Inv k s1 s2 → k < N → (∃ s1' s2', app1 (F1 rc1) k s1 = app1 rc1 (k + 1) s1' ∧ app2 (F2 rc2) k s2 = app2 rc2 (k + 1) s2' ∧ Inv (k + 1) s1' s2') ∨ (∃ r1 r2, app1 (F1 rc1) k s1 = some r1 ∧ app2 (F2 rc2) k s2 = some r2 ∧ Q r1 r2))
    (hf : ∀ (rc1 : T1) (rc2 : T2) (s1 : σ1) (s2 : σ2), Inv N s1 s2 → ∃ r1 r2, app1 (F1 rc1) N s1 = some r1 ∧ app2 (F2 rc2) N s2 = some r2 ∧ Q r1 r2) :
    ∀ (m n k : Nat) (s1 : σ1) (s2 : σ2), Inv k s1 s2 → k + n = N → n < m → ∃ r1 r2, app1 (lp z1 F1 m) k s1 = some r1 ∧ app2 (lp z2 F2 m) k s2 = some r2 ∧ Q r1 r2 := by
  intro m
  induction m with
  | zero => intro n k s1 s2 _ _ h; omega
  | succ m ih =>
    intro n k s1 s2 hi hk hm
    cases n with
    | zero =>
      have : k = N := by omega
      subst this
      exact hf _ _ s1 s2 hi
    | succ n =>
      rcases hs (lp z1 F1 m) (lp z2 F2 m) k s1 s2 hi (by omega) with ⟨s1', s2', h1, h2, h3⟩ | h
      · rw [lp_s, lp_s, h1, h2]
        exact ih n (k + 1) s1' s2' h3 (by omega) (by omega)
      · exact h
theorem lp_q {σ R T : Type} {z : T} {F : T → T} (app : T → Nat → σ → Option R) (N : Nat) (Inv : Nat → σ → Prop) (Q : R → Prop)
    (hs : ∀ (rc : T) (k : Nat) (s : σ), Inv k s → k < N → (∃ s', app (F rc) k s = app rc (k + 1) s' ∧ Inv (k + 1) s') ∨ (∃ r, app (F rc) k s = some r ∧ Q r))
    (hf : ∀ (rc : T) (s : σ), Inv N s → ∃ r, app (F rc) N s = some r ∧ Q r) :
    ∀ (m n k : Nat) (s : σ), Inv k s → k + n = N → n < m → ∃ r, app (lp z F m) k s = some r ∧ Q r := by
  intro m
  induction m with
  | zero => intro n k s _ _ h; omega
  | succ m ih =>
    intro n k s hi hk hm
    cases n with
    | zero =>
      have : k = N := by omega
      subst this
      exact hf _ s hi
    | succ n =>
      rcases hs (lp z F m) k s hi (by omega) with ⟨s', h1, h3⟩ | h
      · rw [lp_s, h1]
        exact ih n (k + 1) s' h3 (by omega) (by omega)
      · exact h
/-! a day -/
theorem RelN.seed {C : CC} {M : HC} {P F T R : Nat} (h : RelN C M P F T R) {v : Nat} (hv : v < 2147483648) : RelN (va_up C 4 (sf (C 4) 5 (nI v))) (sa M 1 (nI 46) (nI v)) P F T R := by
  obtain ⟨hL, hS, hI0, hI1, hB, hX⟩ := h
  have hb := hL.1
  have em : ∀ j, j ≠ 46 → sa M 1 (nI 46) (nI v) 1 j = M 1 j := fun j hj => by rw [sa_at (by omega), if_neg hj]
  have e46 : sa M 1 (nI 46) (nI v) 1 46 = nI v := by rw [sa_at (by omega), if_pos rfl]
  obtain ⟨s1, s2, s3, s4, s5⟩ := hS
  refine ⟨hL, ⟨fun g hg => ?_, fun k hk => ?_, ?_, ?_, ?_⟩, RImg_M hb.2.1 hI0 rfl (fun j h1 h2 => em j (by omega)), RImg_M hb.2.1 hI1 rfl (fun j h1 h2 => em j (by omega)), hB, hX⟩
  · rw [em (0 + g) (by omega), em (0 + 35 + g) (by omega), em (0 + 40 + g) (by omega)]; exact s1 g hg
  · rw [em _ (by omega)]; exact s2 k hk
  · rw [em _ (by omega)]; exact s3
  · rw [e46]; rfl
  · rw [e46]; exact ⟨v, hv, rfl⟩
theorem RelN.day {C : CC} {M : HC} {P F T R : Nat} (h : RelN C M P F T R) (v : Int32) : RelN (va_up C 4 (sf (C 4) 4 v)) (sa M 1 (nI 45) v) P F T R := by
  obtain ⟨hL, hS, hI0, hI1, hB, hX⟩ := h
  have hb := hL.1
  have em : ∀ j, j ≠ 45 → sa M 1 (nI 45) v 1 j = M 1 j := fun j hj => by rw [sa_at (by omega), if_neg hj]
  have e45 : sa M 1 (nI 45) v 1 45 = v := by rw [sa_at (by omega), if_pos rfl]
  obtain ⟨s1, s2, s3, s4, s5⟩ := hS
  refine ⟨hL, ⟨fun g hg => ?_, fun k hk => ?_, ?_, ?_, ?_⟩, RImg_M hb.2.1 hI0 rfl (fun j h1 h2 => em j (by omega)), RImg_M hb.2.1 hI1 rfl (fun j h1 h2 => em j (by omega)), hB, hX⟩
  · rw [em (0 + g) (by omega), em (0 + 35 + g) (by omega), em (0 + 40 + g) (by omega)]; exact s1 g hg
  · rw [em _ (by omega)]; exact s2 k hk
  · rw [e45]; rfl
  · rw [em _ (by omega)]; exact s4
  · rw [em _ (by omega)]; exact s5
theorem draw_cm {C : CC} {M : HC} {P F T R n : Nat} (h : RelN C M P F T R) (hn : 0 < n) (hn2 : n < 100) : ∃ v s, v < n ∧ f_X4_draw (C 4) (nI n) = some (nI v, sf (C 4) 5 (nI s)) ∧ f_X7_draw M (nI n) = some (nI v, sa M 1 (nI 46) (nI s)) ∧ RelN (va_up C 4 (sf (C 4) 5 (nI s))) (sa M 1 (nI 46) (nI s)) P F T R := by
  obtain ⟨-, ⟨s1, s2, s3, s4, s5⟩, -⟩ := id h
  obtain ⟨s, hs, hs2⟩ := s5
  rw [Nat.zero_add] at hs2 s4
  refine ⟨nxt s / 65536 % n, nxt s, Nat.mod_lt _ hn, draw_c hs (by rw [s4, hs2]) hn hn2, draw_m hs hs2 hn hn2, RelN.seed h (nxt_lt s)⟩
theorem sa_comm (M : HC) {i j : Nat} (hi : i < 2 ^ 31) (hj : j < 2 ^ 31) (h : i ≠ j) (x y : Int32) : sa (sa M 1 (nI i) x) 1 (nI j) y = sa (sa M 1 (nI j) y) 1 (nI i) x := by
  funext a b
  by_cases ha : a = 1
  · subst ha
    rw [sa_at hj, sa_at hi, sa_at hi, sa_at hj]
    by_cases h1 : b = j
    · rw [if_pos h1, if_neg (by omega), if_pos h1]
    · rw [if_neg h1, if_neg h1]
  · rw [sa_ne _ _ _ _ ha, sa_ne _ _ _ _ ha, sa_ne _ _ _ _ ha, sa_ne _ _ _ _ ha]
def rdV (M : HC) (p f : Nat) : Int32 := if (if M 1 (5 + 5 * p + f) ≤ rd (M 4 f) (M 1 f) then rd (M 4 f) (M 1 f) else M 1 (5 + 5 * p + f)) ≤ 99 then (if M 1 (5 + 5 * p + f) ≤ rd (M 4 f) (M 1 f) then rd (M 4 f) (M 1 f) else M 1 (5 + 5 * p + f)) else 99
theorem think_v {M : HC} {p f : Nat} (hp : p < 6) (hf : f < 5) (v : Int32) : f_X7_think M (nI p) (nI f) v = some (sa M 1 (nI (5 + 5 * p + f)) (if v ≤ 99 then v else 99)) := by
  by_cases h : v ≤ 99
  · unfold f_X7_think
    rw [if_pos h, ix_m, if_pos (inb_nI (by omega) (by omega)), if_pos h]
    rfl
  · rw [think_cap hp hf h, if_neg h]; rfl
theorem doRead_e {M : HC} {p f : Nat} (hp : p < 6) (hf : f < 5) : f_X7_doRead M (nI p) (nI f) = some (sa M 1 (nI (5 + 5 * p + f)) (rdV M p f)) := by
  unfold f_X7_doRead rdV
  rw [thought_m hp hf, readsNow_m hf]
  simp only [bd]
  by_cases h : M 1 (5 + 5 * p + f) ≤ rd (M 4 f) (M 1 f)
  · simp only [if_pos h]
    rw [think_v hp hf]
  · simp only [if_neg h]
    rw [think_v hp hf]
theorem doInspect_e {M : HC} {p f a : Nat} (hp : p < 6) (hf : f < 5) (h5 : M 5 f = nI a) (ha : a ≤ 99) : f_X7_doInspect M (nI p) (nI f) = some (if M 4 f = 3 then sa (sa M 1 (nI (5 + 5 * p + f)) (nI a)) 1 (nI f) (nI 0) else sa M 1 (nI (5 + 5 * p + f)) (nI a)) := by
  have k1 : ∀ v : Int32, (sa M 1 (nI (5 + 5 * p + f)) v) 4 = M 4 := fun _ => rfl
  unfold f_X7_doInspect
  simp only [bd, nm, if_pos (inb_nI (k := f) (n := 5) hf (by omega)), nI_clamp (show f < 2 ^ 31 by omega), h5, think_m (M := M) (p := p) (f := f) hp hf ha, n0_add, if_pos (inb_nI (k := f) (n := 141) (by omega) (by omega)), k1, sa_self (x := sa M 1 (nI (5 + 5 * p + f)) (nI a)) (j := 1) (i := f) (by omega)]
  split <;> rfl
theorem read_d {C : CC} {M : HC} {P F T R p f : Nat} {d : Int32} (h : RelN C (sa M 1 (nI 45) d) P F T R) (hp : p < P) (hf : f < F) : ∃ v C2 M2, f_X6_readBelt C (nI p) (nI f) = some (v, C2) ∧ f_X7_doRead M (nI p) (nI f) = some M2 ∧ M2 1 45 = M 1 45 ∧ RelN C2 (sa M2 1 (nI 45) d) P F T R := by
  have hb := h.1.1
  obtain ⟨a, a1, a2, a3⟩ := read_cm h hp hf
  have hT := RelN.think h hp hf a1
  have e1 : ∀ i, i ≠ 45 → sa M 1 (nI 45) d 1 i = M 1 i := fun i hi => by rw [sa_at (by omega), if_neg hi]
  have e2 : rdV (sa M 1 (nI 45) d) p f = rdV M p f := by
    unfold rdV
    rw [e1 _ (by omega), e1 _ (by omega), sa_ne _ _ _ _ (show 4 ≠ 1 by omega)]
  rw [doRead_e (by omega) (by omega), e2] at a3
  have e3 : rdV M p f = nI a := by
    have := congrFun (congrFun (Option.some.inj a3) 1) (5 + 5 * p + f)
    rw [sa_at (by omega), if_pos rfl, sa_at (by omega), if_pos rfl] at this
    exact this
  refine ⟨_, _, _, a2, doRead_e (by omega) (by omega), by rw [sa_at (by omega), if_neg (by omega)], ?_⟩
  rw [e3, sa_comm M (by omega) (by omega) (by omega)]
  exact hT
theorem look_d {C : CC} {M : HC} {P F T R p f : Nat} {d : Int32} (h : RelN C (sa M 1 (nI 45) d) P F T R) (hp : p < P) (hf : f < F) : ∃ v C2 M2, f_X6_lookClosely C (nI p) (nI f) = some (v, C2) ∧ f_X7_doInspect M (nI p) (nI f) = some M2 ∧ M2 1 45 = M 1 45 ∧ RelN C2 (sa M2 1 (nI 45) d) P F T R := by
  have hb := h.1.1
  obtain ⟨a, a1, a2⟩ := st_bd h.1 hf
  obtain ⟨C2, M2, b1, b2, b3, b4⟩ := look_cm h hp hf
  have a2' : M 5 f = nI a := by rw [← a2, sa_ne _ _ _ _ (show 5 ≠ 1 by omega)]
  rw [doInspect_e (by omega) (by omega) a2 a1, sa_ne _ _ _ _ (show 4 ≠ 1 by omega)] at b2
  have b2 := Option.some.inj b2
  refine ⟨_, C2, _, b1, doInspect_e (by omega) (by omega) a2' a1, ?_, ?_⟩
  · split
    · rw [sa_at (by omega), if_neg (by omega), sa_at (by omega), if_neg (by omega)]
    · rw [sa_at (by omega), if_neg (by omega)]
  · rw [← b2] at b4
    by_cases hk : M 4 f = 3
    · rw [if_pos hk] at b4 ⊢
      rw [sa_comm _ (show f < 2 ^ 31 by omega) (by omega) (by omega), sa_comm M (show 5 + 5 * p + f < 2 ^ 31 by omega) (by omega) (by omega)]
      exact b4
    · rw [if_neg hk] at b4 ⊢
      rw [sa_comm M (show 5 + 5 * p + f < 2 ^ 31 by omega) (by omega) (by omega)]
      exact b4
theorem rumour_d {C : CC} {M : HC} {P F T R f : Nat} {d : Int32} (h : RelN C (sa M 1 (nI 45) d) P F T R) (hf : f < F) : ∃ v w C2 M2, f_X6_spread C (nI f) = some (v, C2) ∧ f_X7_doRumour M (nI f) = some (w, M2) ∧ M2 1 45 = M 1 45 ∧ RelN C2 (sa M2 1 (nI 45) d) P F T R := by
  obtain ⟨hL, hS, -⟩ := id h
  obtain ⟨⟨hP, hF, hT, hRR⟩, ⟨l0, m0⟩, -, -, -, -, -, hch, -⟩ := id hL
  have e1 : ∀ i, i ≠ 45 → sa M 1 (nI 45) d 1 i = M 1 i := fun i hi => by rw [sa_at (by omega), if_neg hi]
  have e2 : ∀ j, j ≠ 1 → sa M 1 (nI 45) d j = M j := fun j hj => sa_ne _ _ _ _ hj
  rw [e2 0 (by omega)] at m0
  have eth : ∀ q, q < P → C 4 4 (q * 5 + f) = M 1 (5 + 5 * q + f) := fun q hq => by rw [th_eq hS (by omega) (by omega), e1 _ (by omega)]
  have bth : ∀ q, q < P → ∃ a, a ≤ 99 ∧ M 1 (5 + 5 * q + f) = nI a := fun q hq => by
    rw [← e1 _ (show 5 + 5 * q + f ≠ 45 by omega)]
    exact th_bd hS (by omega) (by omega)
  have emo : ∀ p, p < P → moS (fun q => C 4 4 (q * 5 + f)) (C 2 4 p) P p = moS (fun q => M 1 (5 + 5 * q + f)) (M 6 p) P p := fun p hp => by
    rw [hch p hp, e2 6 (by omega)]; exact moS_congr hp eth
  have bmo : ∀ p, p < P → ∃ a b, a ≤ 99 ∧ b ≤ a ∧ moS (fun q => M 1 (5 + 5 * q + f)) (M 6 p) P p = nI a ∧ M 1 (5 + 5 * p + f) = nI b := fun p hp => moS_bd (th := fun q => M 1 (5 + 5 * q + f)) hp bth
  obtain ⟨C2, c0, c1, c2, c3, c4⟩ := spread_c (C := C) hP l0 (f := f) (by omega) _ _ rfl rfl (fun p hp hle => by
    rw [emo p hp, eth p hp] at hle ⊢
    obtain ⟨a, b, h1, h2, h3, h4⟩ := bmo p hp
    rw [h3, h4] at hle ⊢
    rw [nI_leI (by omega) (by omega)] at hle
    congr 1
    omega)
  obtain ⟨M2, d0, d1, d3, d4⟩ := rumour_m (M := M) hP m0 (f := f) (by omega) _ _ rfl rfl (fun p hp => by
    obtain ⟨a, b, h1, h2, h3, h4⟩ := bmo p hp
    exact ⟨a, h1, h3⟩)
  refine ⟨_, _, C2, M2, c0, d0, d4 45 (fun j hj => by omega), rel_th h hf (fun p => moS (fun q => M 1 (5 + 5 * q + f)) (M 6 p) P p) (fun p hp => by
    obtain ⟨a, b, h1, h2, h3, h4⟩ := bmo p hp
    exact ⟨a, h1, h3⟩) c1 c2 (fun j hj => by rw [c3 j hj]; exact emo j hj) c4 (fun j h1 h2 => ?_) (fun j hj => ?_) (fun i hi => ?_)⟩
  · rw [sa_ne _ _ _ _ h1, e2 j h1]; exact d1 j h1 h2
  · rw [sa_at (by omega), if_neg (by omega)]; exact d3 j hj
  · rw [sa_at (by omega), sa_at (by omega)]
    by_cases h45 : i = 45
    · rw [if_pos h45, if_pos h45]
    · rw [if_neg h45, if_neg h45]; exact d4 i hi
theorem j118_e (rc : Int32 → HC → Option (Int32 × HC)) (k : Nat) (X : HC) : f_X7_drift_j118 rc (nI k) X = rc (nI (k + 1)) (sa X 1 (nI 45) (X 1 45 + 1)) := by
  unfold f_X7_drift_j118
  simp only [show (45 : Int32) = nI 45 from rfl, nm, if_pos (inb_nI (k := 45) (n := 141) (by omega) (by omega)), nI_clamp (show 45 < 2 ^ 31 by omega), nI_1]
theorem nm_q {α β : Type} (a : α) (f : α → β) : nm a f = f a := rfl
theorem p1_e {α β : Type} (a : α) (b : β) : (a, b).1 = a := rfl
theorem p2_e {α β : Type} (a : α) (b : β) : (a, b).2 = b := rfl
theorem day_c {C C1 C2 C3 C4 : CC} {A1 A2 A3 : HC} {P F v v2 v3 : Nat} (lP : C 2 0 0 = nI P) (a1 : f_X4_draw (C 4) (nI P) = some (nI v, A1)) (eC1 : va_up C 4 A1 = C1) (lF : C1 2 0 1 = nI F) (b1 : f_X4_draw (C1 4) (nI F) = some (nI v2, A2)) (eC2 : va_up C1 4 A2 = C2) (c1 : f_X4_draw (C2 4) (3 : Int32) = some (nI v3, A3)) (eC3 : va_up C2 4 A3 = C3) (eC4 : va_up C3 4 (sf (C3 4) 4 (C3 4 0 4 + 1)) = C4) : f_X6_liveOneDay C = (if nI v3 = 0 then bd (f_X6_readBelt C4 (nI v) (nI v2)) (fun (q13 : Int32 × CC) => some q13.2) else (if nI v3 = (1 : Int32) then bd (f_X6_spread C4 (nI v2)) (fun (q12 : Int32 × CC) => some q12.2) else bd (f_X6_lookClosely C4 (nI v) (nI v2)) (fun (q11 : Int32 × CC) => some q11.2))) := by
  unfold f_X6_liveOneDay
  rw [lP, a1, bd_s, p2_e, p1_e, eC1, nm_q, nm_q, lF, b1, bd_s, p2_e, p1_e, eC2, nm_q, nm_q, c1, bd_s, p2_e, p1_e, eC3, nm_q, nm_q, eC4, nm_q]
theorem day_m {M M1 M2 M3 : HC} {P F v v2 v3 n k : Nat} (hk : k < n) (hn : n < 1000) (mP : M 0 5 = nI P) (a2 : f_X7_draw M (nI P) = some (nI v, M1)) (mF : M1 0 6 = nI F) (b2 : f_X7_draw M1 (nI F) = some (nI v2, M2)) (c2 : f_X7_draw M2 (3 : Int32) = some (nI v3, M3)) (rc : Int32 → HC → Option (Int32 × HC)) : f_X7_drift_b49 (nI n) rc (nI k) M = (if nI v3 = 0 then bd (f_X7_doRead M3 (nI v) (nI v2)) (fun (q15 : HC) => f_X7_drift_j118 rc (nI k) q15) else (if nI v3 = (1 : Int32) then bd (f_X7_doRumour M3 (nI v2)) (fun (q14 : Int32 × HC) => f_X7_drift_j118 rc (nI k) q14.2) else bd (f_X7_doInspect M3 (nI v) (nI v2)) (fun (q13 : HC) => f_X7_drift_j118 rc (nI k) q13))) := by
  unfold f_X7_drift_b49
  rw [if_neg (nI_ge hk (by omega)), mP, a2, bd_s, p2_e, p1_e, nm_q, mF, b2, bd_s, p2_e, p1_e, nm_q, c2, bd_s, p2_e, p1_e, nm_q]
theorem day_cm {C : CC} {M : HC} {P F T R : Nat} (h : RelN C M P F T R) (hP : 0 < P) (hF : 0 < F) {n k : Nat} (hk : k < n) (hn : n < 1000) : ∃ C2 M2, f_X6_liveOneDay C = some C2 ∧ (∀ rc, f_X7_drift_b49 (nI n) rc (nI k) M = rc (nI (k + 1)) M2) ∧ RelN C2 M2 P F T R := by
  have hb := h.1.1
  obtain ⟨v, s, hv, a1, a2, h1⟩ := draw_cm h hP (by omega)
  generalize eA1 : sf (C 4) 5 (nI s) = A1 at a1 h1
  generalize eC1 : va_up C 4 A1 = C1 at h1
  generalize eM1 : sa M 1 (nI 46) (nI s) = M1 at a2 h1
  obtain ⟨v2, s2, hv2, b1, b2, h2⟩ := draw_cm h1 hF (by omega)
  generalize eA2 : sf (C1 4) 5 (nI s2) = A2 at b1 h2
  generalize eC2 : va_up C1 4 A2 = C2 at h2
  generalize eM2 : sa M1 1 (nI 46) (nI s2) = M2 at b2 h2
  obtain ⟨v3, s3, hv3, c1, c2, h3⟩ := draw_cm (n := 3) h2 (by omega) (by omega)
  generalize eA3 : sf (C2 4) 5 (nI s3) = A3 at c1 h3
  generalize eC3 : va_up C2 4 A3 = C3 at h3
  generalize eM3 : sa M2 1 (nI 46) (nI s3) = M3 at c2 h3
  have e45 : C3 4 0 4 = M3 1 45 := by have := h3.2.1.2.2.1; rwa [Nat.zero_add] at this
  have h4 := RelN.day h3 (M3 1 45 + 1)
  rw [← e45] at h4
  generalize eC4 : va_up C3 4 (sf (C3 4) 4 (C3 4 0 4 + 1)) = C4 at h4
  have eD := day_c h.1.2.1.1 a1 eC1 h1.1.2.2.1.1 b1 eC2 c1 eC3 eC4
  have eM := day_m hk hn h.1.2.1.2 a2 h1.1.2.2.1.2 b2 c2
  clear eC4 eM3 eC3 eA3 eM2 eC2 eA2 eM1 eC1 eA1 a1 a2 b1 b2 c1 c2
  rw [e45] at h4
  rcases (show v3 = 0 ∨ v3 = 1 ∨ v3 = 2 by omega) with h0 | h0 | h0
  · obtain ⟨w, X, Y, x1, x2, x3, x4⟩ := read_d h4 hv hv2
    rw [h0, if_pos (show nI 0 = (0 : Int32) from rfl), x1, bd_s] at eD
    refine ⟨X, _, eD, fun rc => ?_, x4⟩
    rw [eM, h0, if_pos (show nI 0 = (0 : Int32) from rfl), x2, bd_s, j118_e, x3]
  · obtain ⟨w, w2, X, Y, x1, x2, x3, x4⟩ := rumour_d h4 hv2
    rw [h0, if_neg (show ¬ nI 1 = (0 : Int32) by decide), if_pos (show nI 1 = (1 : Int32) from rfl), x1, bd_s] at eD
    refine ⟨X, _, eD, fun rc => ?_, x4⟩
    rw [eM, h0, if_neg (show ¬ nI 1 = (0 : Int32) by decide), if_pos (show nI 1 = (1 : Int32) from rfl), x2, bd_s]
    dsimp only
    rw [j118_e, x3]
  · obtain ⟨w, X, Y, x1, x2, x3, x4⟩ := look_d h4 hv hv2
    rw [h0, if_neg (show ¬ nI 2 = (0 : Int32) by decide), if_neg (show ¬ nI 2 = (1 : Int32) by decide), x1, bd_s] at eD
    refine ⟨X, _, eD, fun rc => ?_, x4⟩
    rw [eM, h0, if_neg (show ¬ nI 2 = (0 : Int32) by decide), if_neg (show ¬ nI 2 = (1 : Int32) by decide), x2, bd_s, j118_e, x3]
theorem op_drift {C : CC} {M : HC} (hR : Rel C M) (p1 : Int32) : ∃ (v : Int32) (C2 : CC) (M2 : HC), f_X6_drift C p1 = some (v, C2) ∧ f_X7_drift M p1 = some (v, M2) ∧ Rel C2 M2 := by
  obtain ⟨P, F, T, R, hN⟩ := id hR
  have hb := hN.1.1
  have lP : C 2 0 0 = nI P := hN.1.2.1.1
  have lF : C 2 0 1 = nI F := hN.1.2.2.1.1
  have mP : M 0 5 = nI P := hN.1.2.1.2
  have mF : M 0 6 = nI F := hN.1.2.2.1.2
  have e45 : C 4 0 4 = M 1 45 := by have := hN.2.1.2.2.1; rwa [Nat.zero_add] at this
  have i45 : inb (45 : Int32) 141 := by decide
  have c45 : (45 : Int32).toNatClampNeg = 45 := by decide
  unfold f_X6_drift f_X7_drift
  rw [bnd_c, t1, t99, in_z p1 (1 : Int64) (99 : Int64) 1 99 (by decide) (by decide), bd_s]
  by_cases h : 1 ≤ p1.toInt ∧ p1.toInt ≤ 99
  · obtain ⟨n, hn, rfl⟩ : ∃ n : Nat, (1 ≤ n ∧ n ≤ 99) ∧ p1 = nI n := ⟨p1.toInt.toNat, by omega, Int32.toInt_inj.mp (by rw [nI_toInt (by omega)]; omega)⟩
    rw [if_pos h, if_pos h, if_neg one_ne0, lP, lF, mP, mF, if_pos i45, c45, e45]
    by_cases hp0 : P = 0
    · rw [hp0, if_pos (show nI 0 = (0 : Int32) from rfl), if_pos (show nI 0 = (0 : Int32) from rfl)]
      exact ⟨_, _, _, rfl, rfl, hR⟩
    · have zp : ¬ nI P = 0 := nI_ne0 (by omega) (by omega)
      simp only [if_neg zp]
      by_cases hf0 : F = 0
      · rw [hf0, if_pos (show nI 0 = (0 : Int32) from rfl), if_pos (show nI 0 = (0 : Int32) from rfl)]
        exact ⟨_, _, _, rfl, rfl, hR⟩
      · have zf : ¬ nI F = 0 := nI_ne0 (by omega) (by omega)
        simp only [if_neg zf]
        by_cases hd : M 1 45 ≤ 90000
        · rw [if_pos hd, if_pos hd]
          obtain ⟨r1, r2, q1, q2, q3⟩ := lp_rel (T1 := Int32 → CC → Option (Int32 × CC)) (T2 := Int32 → HC → Option (Int32 × HC)) (z1 := fun _ _ => none) (z2 := fun _ _ => none) (F1 := f_X6_drift_b54 (nI n)) (F2 := f_X7_drift_b49 (nI n)) (fun g k (s : CC) => g (nI k) s) (fun g k (s : HC) => g (nI k) s) n (fun _ C M => RelN C M P F T R) (fun r1 r2 => r1.1 = r2.1 ∧ Rel r1.2 r2.2) (by
            intro rc1 rc2 k C M hi hk
            left
            obtain ⟨C2, M2, x1, x2, x3⟩ := day_cm hi (by omega) (by omega) hk (by omega)
            refine ⟨C2, M2, ?_, x2 rc2, x3⟩
            unfold f_X6_drift_b54
            rw [if_neg (nI_ge hk (by omega)), x1, bd_s, nI_1]
            rfl) (by
            intro rc1 rc2 C M hi
            have e45 : C 4 0 4 = M 1 45 := by have := hi.2.1.2.2.1; rwa [Nat.zero_add] at this
            refine ⟨(M 1 45, C), (M 1 45, M), ?_, ?_, rfl, hi.rel⟩
            · unfold f_X6_drift_b54
              rw [if_pos (nI_le (Nat.le_refl _) (by omega)), e45]
            · unfold f_X7_drift_b49
              rw [if_pos (nI_le (Nat.le_refl _) (by omega)), if_pos i45, c45]) FU n 0 C M hN (by omega) (by have := FU_gt; omega)
          obtain ⟨v, C2⟩ := r1
          obtain ⟨w, M2⟩ := r2
          dsimp only at q3
          obtain ⟨q3, q4⟩ := q3
          subst q3
          exact ⟨_, C2, M2, q1, q2, q4⟩
        · rw [if_neg hd, if_neg hd]
          exact ⟨_, _, _, rfl, rfl, hR⟩
  · rw [if_neg h, if_neg h, if_pos z_z]
    exact ⟨_, _, _, rfl, rfl, hR⟩
