/-! ===== base: partial answers, loops by fuel, the world behind a call, a contract's start and end ===== -/
abbrev HC : Type := Nat → Nat → Int32
abbrev TY (cI cZ : ClassId) : List (ClassId × FieldType) := [(cI, .int), (cZ, .boolean)]
def bd {α β : Type} (o : Option α) (f : α → Option β) : Option β := match o with
  | none => none
  | some a => f a
theorem bd_x {α β : Type} {o : Option α} {f : α → Option β} {r : β} (h : bd o f = some r) : ∃ q, o = some q ∧ f q = some r := by
  cases o with
  | none => cases h
  | some a => exact ⟨a, rfl, h⟩
theorem bd_s {α β : Type} {a : α} {f : α → Option β} : bd (some a) f = f a := rfl
/-- a value with a name -/
def nm {α β : Type} (a : α) (f : α → β) : β := f a
theorem nm_x {α β : Type} {v y : α} {f : α → Option β} {r : β} (hy : y = v) (h : nm v f = some r) : f y = some r := by subst hy; exact h
theorem if_t {β : Type} {c : Prop} [hd : Decidable c] {a b : Option β} {r : β} (hc : c) (h : (if c then a else b) = some r) : a = some r := by rw [if_pos hc] at h; exact h
theorem if_f {β : Type} {c : Prop} [hd : Decidable c] {a b : Option β} {r : β} (hc : ¬ c) (h : (if c then a else b) = some r) : b = some r := by rw [if_neg hc] at h; exact h
theorem gd {β : Type} {c : Prop} [hd : Decidable c] {a : Option β} {r : β} (h : (if c then a else none) = some r) : c ∧ a = some r := by
  by_cases hc : c
  · rw [if_pos hc] at h; exact ⟨hc, h⟩
  · rw [if_neg hc] at h; cases h
abbrev inb (i : Int32) (n : Nat) : Prop := 0 ≤ i ∧ i.toNatClampNeg < n
theorem inb_in {i : Int32} {n : Nat} (h : inb i n) : vp_in i n := fun q => q.elim (fun q => absurd (Int32.lt_iff_toInt_lt.mp q) (Int.not_lt.mpr (Int32.le_iff_toInt_le.mp h.1))) (fun q => absurd h.2 (Nat.not_lt.mpr q))
abbrev bz (v : Int32) : Prop := v = 0 ∨ v = 1
theorem bz_n {v : Int32} (h : bz v) : narrow .boolean (.int v) = .int v := by rcases h with rfl | rfl <;> decide
/-- a loop: n rounds at most -/
def lp {T : Type} (z : T) (F : T → T) : Nat → T
  | 0 => z
  | n + 1 => F (lp z F n)
theorem lp_s {T : Type} (z : T) (F : T → T) (n : Nat) : lp z F (n + 1) = F (lp z F n) := rfl
def FU : Nat := 5000
/-- a field, an element is written -/
def sf (x : HC) (k : Nat) (v : Int32) : HC := va_up x 0 (upd (x 0) k v)
def sa (x : HC) (j : Nat) (i v : Int32) : HC := va_up x j (upd (x j) i.toNatClampNeg v)
/-- the links to nest mates' private methods -/
def nwA (U : State) : Prop := va_Nw (.methodLinkNest RX5 98 yX6_has "SevenBlows") U ∧ va_Nw (.methodLinkNest RX5 129 yX6_slot "SevenBlows") U ∧ va_Nw (.methodLinkNest RX2 77 yX6_has "SevenBlows") U ∧ va_Nw (.methodLinkNest RX3 46 yX6_has "SevenBlows") U ∧ va_Nw (.methodLinkNest RX3 56 yX6_slot "SevenBlows") U ∧ va_Nw (.methodLinkNest RX0 48 yX6_slot "SevenBlows") U
theorem nwA.warm {s U : State} (hW : s.WarmedH U.vm) (h : nwA s) : nwA U := ⟨va_Nw.warmM hW h.1, va_Nw.warmM hW h.2.1, va_Nw.warmM hW h.2.2.1, va_Nw.warmM hW h.2.2.2.1, va_Nw.warmM hW h.2.2.2.2.1, va_Nw.warmM hW h.2.2.2.2.2⟩
theorem nwA.same {u U : State} (e : u.vm = U.vm) (h : nwA u) : nwA U := ⟨va_Nw.same rfl e h.1, va_Nw.same rfl e h.2.1, va_Nw.same rfl e h.2.2.1, va_Nw.same rfl e h.2.2.2.1, va_Nw.same rfl e h.2.2.2.2.1, va_Nw.same rfl e h.2.2.2.2.2⟩
def pre (D : va_G) (cI cZ : ClassId) (ws : va_W) (sz : Nat) (U : State) : Prop := U.heap.size = sz ∧ va_P D vwCl ws U.heap ∧ va_K D vwCl (TY cI cZ) U ∧ va_D (fun _ => True) ws ∧ nwA U
theorem pre_blind {D : va_G} {cI cZ : ClassId} {ws : va_W} {sz : Nat} {av : List Value} : FrameBlind (va_Pc av (pre D cI cZ ws sz)) := fun a U g mk q => by
  obtain ⟨q0, q1, qP, qK, qD, qN⟩ := q
  exact ⟨q0, q1, qP, va_K.moved (u := U) (U := U.calling g mk a) (Vm.Alike.refl U.vm) qK, qD, nwA.same (u := U) (U := U.calling g mk a) rfl qN⟩
theorem pre_of {D : va_G} {cI cZ : ClassId} {ws : va_W} {H : Heap} {s U : State} (hP : va_P D vwCl ws H) (hK : va_K D vwCl (TY cI cZ) s) {A : Nat → Prop} (hD : va_D A ws) (hN : nwA s) (hU : U.heap = H) (hW : s.WarmedH U.vm) : pre D cI cZ ws H.size U := ⟨by rw [hU], by rw [hU]; exact hP, va_K.moved hW.alike hK, hD.weaken (fun _ _ _ _ => trivial), hN.warm hW⟩
def post (D : va_G) (A : Nat → Prop) (ws : va_W) (t : State) : Prop := va_P D vwCl ws t.heap ∧ va_D A ws
/-- a reader's end, a writer's, one without an answer -/
abbrev QI0 (D : va_G) (A : Nat → Prop) (ws : va_W) (r : Int32) := va_Qi (fun v (_ : Unit) => v = r) (fun _ t => post D A ws t) A
abbrev QI {S : Type} (D : va_G) (A : Nat → Prop) (wf : S → va_W) (r : Int32 × S) := va_Qi (fun v (u : S) => v = r.1 ∧ u = r.2) (fun u t => post D A (wf u) t) A
abbrev QV {S : Type} (D : va_G) (A : Nat → Prop) (wf : S → va_W) (r : S) := va_Qv (fun (u : S) => u = r) (fun u t => post D A (wf u) t) A
theorem wP {D : va_G} {cl : List vw_C} {ws ws' : va_W} {H : Heap} (e : ws = ws') (h : va_P D cl ws H) : va_P D cl ws' H := e ▸ h
theorem wD {A : Nat → Prop} {ws ws' : va_W} (e : ws = ws') (h : va_D A ws) : va_D A ws' := e ▸ h
/-- a part of a world put back -/
def putL : va_W → List Nat → va_W → va_W
  | ws, i :: is, q :: qs => putL (ws.set i q) is qs
  | ws, _, _ => ws
theorem putL_spec : ∀ (is : List Nat) (ws w1 : va_W) (k : Nat) (q : Nat × va_E), is.length = w1.length → (putL ws is w1)[k]? = some q → (∃ j : Nat, is[j]? = some k ∧ w1[j]? = some q) ∨ (k ∉ is ∧ ws[k]? = some q) := by
  intro is
  induction is with
  | nil => intro ws w1 k q _ h; exact Or.inr ⟨List.not_mem_nil, by simpa [putL] using h⟩
  | cons i is ih =>
    intro ws w1 k q hl h
    cases w1 with
    | nil => simp at hl
    | cons p w =>
      have hl' : is.length = w.length := by simpa using hl
      rcases ih (ws.set i p) w k q hl' h with ⟨j, h1, h2⟩ | ⟨h1, h2⟩
      · exact Or.inl ⟨j + 1, by simpa using h1, by simpa using h2⟩
      · by_cases hk : i = k
        · subst hk
          rw [List.getElem?_set_self'] at h2
          cases hw : ws[i]? with
          | none => rw [hw] at h2; cases h2
          | some w0 => rw [hw] at h2; cases h2; exact Or.inl ⟨0, rfl, rfl⟩
        · rw [List.getElem?_set_ne hk] at h2
          exact Or.inr ⟨fun hm => (List.mem_cons.mp hm).elim (fun e => hk e.symm) h1, h2⟩
theorem back {A0 : Nat → Prop} {D : va_G} {cl : List vw_C} {ws wc w1 : va_W} {H H1 : Heap} (hP : va_P D cl ws H) (hD : va_D A0 ws) (is : List Nat) (hC : is.map (fun i => ws[i]?) = wc.map some) (hL : is.length = w1.length)
    (hk : ∀ q : Nat, q < H.size → ¬ va_A wc H.size q → H1[q]? = H[q]?) (hF : ∀ q, va_A wc H.size q → A0 q) (hP1 : va_P D cl w1 H1) (hD1 : va_D (va_A wc H.size) w1) : va_P D cl (putL ws is w1) H1 ∧ va_D A0 (putL ws is w1) := by
  have apart : ∀ (k : Nat) (q : Nat × va_E), k ∉ is → ws[k]? = some q → q.1 < H.size ∧ ¬ va_A wc H.size q.1 := by
    intro k q hn hq
    have hl := (hP k q hq).lt
    refine ⟨hl, fun h => ?_⟩
    rcases h with ⟨k2, e, h⟩ | h
    · have h1 : (is.map (fun i => ws[i]?))[k2]? = some (some (q.1, e)) := by rw [hC, List.getElem?_map, h]; rfl
      rw [List.getElem?_map] at h1
      cases hi : is[k2]? with
      | none => rw [hi] at h1; cases h1
      | some i =>
        rw [hi] at h1
        have h4 : ws[i]? = some (q.1, e) := Option.some.inj h1
        have := hD.1 k i q (q.1, e) hq h4 rfl
        subst this
        exact hn (List.mem_of_getElem? hi)
    · omega
  refine ⟨fun k q h => ?_, ⟨fun i j p q hi hj hpq => ?_, fun k q h => ?_⟩⟩
  · rcases putL_spec is ws w1 k q hL h with ⟨j, -, h2⟩ | ⟨h1, h2⟩
    · exact hP1 j q h2
    · obtain ⟨g1, g2⟩ := apart k q h1 h2
      exact (hP k q h2).kept (hk q.1 g1 g2)
  · rcases putL_spec is ws w1 i p hL hi with ⟨x, h1, h2⟩ | ⟨h1, h2⟩ <;> rcases putL_spec is ws w1 j q hL hj with ⟨y, h3, h4⟩ | ⟨h3, h4⟩
    · have := hD1.1 x y p q h2 h4 hpq
      subst this
      exact Option.some.inj (h1.symm.trans h3)
    · exact absurd (hpq ▸ hD1.2 x p h2) (apart j q h3 h4).2
    · exact absurd (hpq ▸ hD1.2 y q h4) (hpq ▸ (apart i p h1 h2).2)
    · exact hD.1 i j p q h2 h4 hpq
  · rcases putL_spec is ws w1 k q hL h with ⟨j, -, h2⟩ | ⟨h1, h2⟩
    · exact hF _ (hD1.2 j q h2)
    · exact hD.2 k q h2
theorem subP {D : va_G} {cl : List vw_C} {ws wc : va_W} {H : Heap} (is : List Nat) (hC : is.map (fun i => ws[i]?) = wc.map some) (h : va_P D cl ws H) : va_P D cl wc H := by
  intro k q hq
  have h1 : (is.map (fun i => ws[i]?))[k]? = some (some q) := by rw [hC, List.getElem?_map, hq]; rfl
  rw [List.getElem?_map] at h1
  cases hi : is[k]? with
  | none => rw [hi] at h1; cases h1
  | some i => rw [hi] at h1; exact h i q (Option.some.inj h1)
theorem freeS {A0 : Nat → Prop} {ws : va_W} {H0 H : Heap} {locs : List Loc} (hD : va_D A0 ws) (hS : va_S A0 H0 H locs) (hA : ∀ q, H0.size ≤ q → A0 q) : ∀ q, va_A ws H.size q → A0 q := by
  intro q h
  rcases h with ⟨k, e, h⟩ | h
  · exact hD.2 k (q, e) h
  · exact hA q (Nat.le_trans hS.1 h)
theorem lv_tabK {p : Program} {l : Launch} {e : Env} {R : Room} {s : State} {m : MethodId} {args : Array Value} {below : List Frame} {meth : Method} {c : Code} {H : Heap} {locs : List Loc} {cells slots : Nat} {Q : State → Prop} {cc : ByteArray} {pc : Nat} {ls : Array Slot} {rest : List Value} (hexec : p.tables.exec = Jvm.exec) (hb : c.code = cc) {dflt lo hi : Int} {offs : Array Int} {len : Nat} {x k : Int32} {off : Int} {tgt : Nat} (hdg : decode cc pc = .ok (.tableswitch dflt lo hi offs, len)) (hk : x = k) (h1 : ¬ k.toInt < lo) (h2 : ¬ hi < k.toInt) (ho : offs[(k.toInt - lo).toNat]? = some off) (ht : (pc : Int) + off = (tgt : Int)) (kk : W p l e R s m args below meth c H locs cells slots Q (F0 m tgt ls rest)) : W p l e R s m args below meth c H locs cells slots Q (F0 m pc ls (.int x :: rest)) := by
  subst hk
  exact lv_tableIn hexec hb hdg h1 h2 ho ht kk
theorem lv_lokK {p : Program} {l : Launch} {e : Env} {R : Room} {s : State} {m : MethodId} {args : Array Value} {below : List Frame} {meth : Method} {c : Code} {H : Heap} {locs : List Loc} {cells slots : Nat} {Q : State → Prop} {cc : ByteArray} {pc : Nat} {ls : Array Slot} {rest : List Value} (hexec : p.tables.exec = Jvm.exec) (hb : c.code = cc) {dflt : Int} {ps : Array (Int × Int)} {len : Nat} {x k : Int32} {off : Int} {tgt : Nat} (hdg : decode cc pc = .ok (.lookupswitch dflt ps, len)) (hp : (ps.toList.zip (ps.toList.drop 1)).all (fun (a, next) => a.1 < next.1) = true) (hk : x = k) (ho : Op.lookupswitch.offset ps.toList dflt k.toInt = off) (ht : (pc : Int) + off = (tgt : Int)) (kk : W p l e R s m args below meth c H locs cells slots Q (F0 m tgt ls rest)) : W p l e R s m args below meth c H locs cells slots Q (F0 m pc ls (.int x :: rest)) := by
  subst hk
  exact lv_lookup hexec hb hdg hp ho ht kk
theorem P_nil {D : va_G} {H : Heap} : va_P D vwCl [] H := fun k q h => by simp at h
theorem D_nil : va_D (fun _ => True) ([] : va_W) := ⟨fun i j p q h => by simp at h, fun k q h => by simp at h⟩
theorem pr_1 {α β : Type} {a : α} {b : β} {r : α × β} (h : some (a, b) = some r) : a = r.1 := by cases h; rfl
theorem pr_2 {α β : Type} {a : α} {b : β} {r : α × β} (h : some (a, b) = some r) : b = r.2 := by cases h; rfl
theorem putL_app {is1 is2 : List Nat} : ∀ {ws w1 w2 : va_W}, is1.length = w1.length → putL ws (is1 ++ is2) (w1 ++ w2) = putL (putL ws is1 w1) is2 w2 := by
  induction is1 with
  | nil => intro ws w1 w2 h; cases w1 with
    | nil => cases is2 <;> rfl
    | cons p w => simp at h
  | cons i is ih => intro ws w1 w2 h; cases w1 with
    | nil => simp at h
    | cons p w => exact ih (by simpa using h)
