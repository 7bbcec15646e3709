theorem at_M_0_0 {cI cZ : ClassId} {a : Nat → Nat} {x : HC} : (kM cI cZ a x)[0]? = some (a 0, .inr (7, [.ref (a 1), .ref (a 2), .ref (a 3), .int (x 0 3), .int (x 0 4), .int (x 0 5), .int (x 0 6), .ref (a 4), .ref (a 5), .int (x 0 9), .ref (a 6), .int (x 0 11), .ref (a 7), .int (x 0 13), .ref (a 8), .ref (a 9), .int (x 0 16), .int (x 0 17), .int (x 0 18), .int (x 0 19), .int (x 0 20), .ref (a 10), .int (x 0 22), .ref (a 11), .int (x 0 24), .ref (a 12), .int (x 0 26), .ref (a 13), .ref (a 14), .ref (a 15), .ref (a 16), .ref (a 17)])) := rfl
theorem at_M_0_3 {cI cZ : ClassId} {a : Nat → Nat} {x : HC} : (kM cI cZ a x)[3]? = some (a 3, .inl (cI, 250, .inl (x 3))) := rfl
theorem sa_M_0_3 {cI cZ : ClassId} {a : Nat → Nat} {x : HC} {i v : Int32} : (kM cI cZ a x).set 3 (a 3, .inl (cI, 250, .inl (upd (x 3) i.toNatClampNeg v))) = (kM cI cZ a (sa x 3 i v)) := rfl
theorem sf_M_0_3 {cI cZ : ClassId} {a : Nat → Nat} {x : HC} {v : Int32} : (kM cI cZ a x).set 0 (a 0, .inr (7, ([.ref (a 1), .ref (a 2), .ref (a 3), .int (x 0 3), .int (x 0 4), .int (x 0 5), .int (x 0 6), .ref (a 4), .ref (a 5), .int (x 0 9), .ref (a 6), .int (x 0 11), .ref (a 7), .int (x 0 13), .ref (a 8), .ref (a 9), .int (x 0 16), .int (x 0 17), .int (x 0 18), .int (x 0 19), .int (x 0 20), .ref (a 10), .int (x 0 22), .ref (a 11), .int (x 0 24), .ref (a 12), .int (x 0 26), .ref (a 13), .ref (a 14), .ref (a 15), .ref (a 16), .ref (a 17)] : List Value).set 3 (.int v))) = (kM cI cZ a (sf x 3 v)) := rfl
theorem sf_M_0_18 {cI cZ : ClassId} {a : Nat → Nat} {x : HC} {v : Int32} : (kM cI cZ a x).set 0 (a 0, .inr (7, ([.ref (a 1), .ref (a 2), .ref (a 3), .int (x 0 3), .int (x 0 4), .int (x 0 5), .int (x 0 6), .ref (a 4), .ref (a 5), .int (x 0 9), .ref (a 6), .int (x 0 11), .ref (a 7), .int (x 0 13), .ref (a 8), .ref (a 9), .int (x 0 16), .int (x 0 17), .int (x 0 18), .int (x 0 19), .int (x 0 20), .ref (a 10), .int (x 0 22), .ref (a 11), .int (x 0 24), .ref (a 12), .int (x 0 26), .ref (a 13), .ref (a 14), .ref (a 15), .ref (a 16), .ref (a 17)] : List Value).set 18 (.int v))) = (kM cI cZ a (sf x 18 v)) := rfl
theorem sf_M_0_17 {cI cZ : ClassId} {a : Nat → Nat} {x : HC} {v : Int32} : (kM cI cZ a x).set 0 (a 0, .inr (7, ([.ref (a 1), .ref (a 2), .ref (a 3), .int (x 0 3), .int (x 0 4), .int (x 0 5), .int (x 0 6), .ref (a 4), .ref (a 5), .int (x 0 9), .ref (a 6), .int (x 0 11), .ref (a 7), .int (x 0 13), .ref (a 8), .ref (a 9), .int (x 0 16), .int (x 0 17), .int (x 0 18), .int (x 0 19), .int (x 0 20), .ref (a 10), .int (x 0 22), .ref (a 11), .int (x 0 24), .ref (a 12), .int (x 0 26), .ref (a 13), .ref (a 14), .ref (a 15), .ref (a 16), .ref (a 17)] : List Value).set 17 (.int v))) = (kM cI cZ a (sf x 17 v)) := rfl
theorem at_M_0_15 {cI cZ : ClassId} {a : Nat → Nat} {x : HC} : (kM cI cZ a x)[15]? = some (a 15, .inl (cI, 4, .inl (x 15))) := rfl
theorem sa_M_0_15 {cI cZ : ClassId} {a : Nat → Nat} {x : HC} {i v : Int32} : (kM cI cZ a x).set 15 (a 15, .inl (cI, 4, .inl (upd (x 15) i.toNatClampNeg v))) = (kM cI cZ a (sa x 15 i v)) := rfl
theorem sf_M_0_19 {cI cZ : ClassId} {a : Nat → Nat} {x : HC} {v : Int32} : (kM cI cZ a x).set 0 (a 0, .inr (7, ([.ref (a 1), .ref (a 2), .ref (a 3), .int (x 0 3), .int (x 0 4), .int (x 0 5), .int (x 0 6), .ref (a 4), .ref (a 5), .int (x 0 9), .ref (a 6), .int (x 0 11), .ref (a 7), .int (x 0 13), .ref (a 8), .ref (a 9), .int (x 0 16), .int (x 0 17), .int (x 0 18), .int (x 0 19), .int (x 0 20), .ref (a 10), .int (x 0 22), .ref (a 11), .int (x 0 24), .ref (a 12), .int (x 0 26), .ref (a 13), .ref (a 14), .ref (a 15), .ref (a 16), .ref (a 17)] : List Value).set 19 (.int v))) = (kM cI cZ a (sf x 19 v)) := rfl
theorem sf_M_0_20 {cI cZ : ClassId} {a : Nat → Nat} {x : HC} {v : Int32} : (kM cI cZ a x).set 0 (a 0, .inr (7, ([.ref (a 1), .ref (a 2), .ref (a 3), .int (x 0 3), .int (x 0 4), .int (x 0 5), .int (x 0 6), .ref (a 4), .ref (a 5), .int (x 0 9), .ref (a 6), .int (x 0 11), .ref (a 7), .int (x 0 13), .ref (a 8), .ref (a 9), .int (x 0 16), .int (x 0 17), .int (x 0 18), .int (x 0 19), .int (x 0 20), .ref (a 10), .int (x 0 22), .ref (a 11), .int (x 0 24), .ref (a 12), .int (x 0 26), .ref (a 13), .ref (a 14), .ref (a 15), .ref (a 16), .ref (a 17)] : List Value).set 20 (.int v))) = (kM cI cZ a (sf x 20 v)) := rfl
theorem at_M_0_10 {cI cZ : ClassId} {a : Nat → Nat} {x : HC} : (kM cI cZ a x)[10]? = some (a 10, .inl (cI, 15, .inl (x 10))) := rfl
theorem sa_M_0_10 {cI cZ : ClassId} {a : Nat → Nat} {x : HC} {i v : Int32} : (kM cI cZ a x).set 10 (a 10, .inl (cI, 15, .inl (upd (x 10) i.toNatClampNeg v))) = (kM cI cZ a (sa x 10 i v)) := rfl
theorem at_M_0_11 {cI cZ : ClassId} {a : Nat → Nat} {x : HC} : (kM cI cZ a x)[11]? = some (a 11, .inl (cI, 6, .inl (x 11))) := rfl
theorem sa_M_0_11 {cI cZ : ClassId} {a : Nat → Nat} {x : HC} {i v : Int32} : (kM cI cZ a x).set 11 (a 11, .inl (cI, 6, .inl (upd (x 11) i.toNatClampNeg v))) = (kM cI cZ a (sa x 11 i v)) := rfl
theorem sf_M_0_22 {cI cZ : ClassId} {a : Nat → Nat} {x : HC} {v : Int32} : (kM cI cZ a x).set 0 (a 0, .inr (7, ([.ref (a 1), .ref (a 2), .ref (a 3), .int (x 0 3), .int (x 0 4), .int (x 0 5), .int (x 0 6), .ref (a 4), .ref (a 5), .int (x 0 9), .ref (a 6), .int (x 0 11), .ref (a 7), .int (x 0 13), .ref (a 8), .ref (a 9), .int (x 0 16), .int (x 0 17), .int (x 0 18), .int (x 0 19), .int (x 0 20), .ref (a 10), .int (x 0 22), .ref (a 11), .int (x 0 24), .ref (a 12), .int (x 0 26), .ref (a 13), .ref (a 14), .ref (a 15), .ref (a 16), .ref (a 17)] : List Value).set 22 (.int v))) = (kM cI cZ a (sf x 22 v)) := rfl
theorem sf_M_0_24 {cI cZ : ClassId} {a : Nat → Nat} {x : HC} {v : Int32} : (kM cI cZ a x).set 0 (a 0, .inr (7, ([.ref (a 1), .ref (a 2), .ref (a 3), .int (x 0 3), .int (x 0 4), .int (x 0 5), .int (x 0 6), .ref (a 4), .ref (a 5), .int (x 0 9), .ref (a 6), .int (x 0 11), .ref (a 7), .int (x 0 13), .ref (a 8), .ref (a 9), .int (x 0 16), .int (x 0 17), .int (x 0 18), .int (x 0 19), .int (x 0 20), .ref (a 10), .int (x 0 22), .ref (a 11), .int (x 0 24), .ref (a 12), .int (x 0 26), .ref (a 13), .ref (a 14), .ref (a 15), .ref (a 16), .ref (a 17)] : List Value).set 24 (.int v))) = (kM cI cZ a (sf x 24 v)) := rfl
theorem at_M_0_12 {cI cZ : ClassId} {a : Nat → Nat} {x : HC} : (kM cI cZ a x)[12]? = some (a 12, .inl (cI, 24, .inl (x 12))) := rfl
theorem sa_M_0_12 {cI cZ : ClassId} {a : Nat → Nat} {x : HC} {i v : Int32} : (kM cI cZ a x).set 12 (a 12, .inl (cI, 24, .inl (upd (x 12) i.toNatClampNeg v))) = (kM cI cZ a (sa x 12 i v)) := rfl
theorem sf_M_0_26 {cI cZ : ClassId} {a : Nat → Nat} {x : HC} {v : Int32} : (kM cI cZ a x).set 0 (a 0, .inr (7, ([.ref (a 1), .ref (a 2), .ref (a 3), .int (x 0 3), .int (x 0 4), .int (x 0 5), .int (x 0 6), .ref (a 4), .ref (a 5), .int (x 0 9), .ref (a 6), .int (x 0 11), .ref (a 7), .int (x 0 13), .ref (a 8), .ref (a 9), .int (x 0 16), .int (x 0 17), .int (x 0 18), .int (x 0 19), .int (x 0 20), .ref (a 10), .int (x 0 22), .ref (a 11), .int (x 0 24), .ref (a 12), .int (x 0 26), .ref (a 13), .ref (a 14), .ref (a 15), .ref (a 16), .ref (a 17)] : List Value).set 26 (.int v))) = (kM cI cZ a (sf x 26 v)) := rfl
theorem at_M_0_13 {cI cZ : ClassId} {a : Nat → Nat} {x : HC} : (kM cI cZ a x)[13]? = some (a 13, .inl (cI, 12, .inl (x 13))) := rfl
theorem sa_M_0_13 {cI cZ : ClassId} {a : Nat → Nat} {x : HC} {i v : Int32} : (kM cI cZ a x).set 13 (a 13, .inl (cI, 12, .inl (upd (x 13) i.toNatClampNeg v))) = (kM cI cZ a (sa x 13 i v)) := rfl
theorem at_M_0_14 {cI cZ : ClassId} {a : Nat → Nat} {x : HC} : (kM cI cZ a x)[14]? = some (a 14, .inl (cI, 30, .inl (x 14))) := rfl
theorem sa_M_0_14 {cI cZ : ClassId} {a : Nat → Nat} {x : HC} {i v : Int32} : (kM cI cZ a x).set 14 (a 14, .inl (cI, 30, .inl (upd (x 14) i.toNatClampNeg v))) = (kM cI cZ a (sa x 14 i v)) := rfl
def f_X7_in_j17   : Option (Int32) := some (0 : Int32)
def f_X7_in (p1 : Int64) (p2 : Int64) (p3 : Int64) : Option (Int32) := (if (lg_cmp p1 p2) < 0 then f_X7_in_j17 else (if 0 < (lg_cmp p1 p3) then f_X7_in_j17 else some (1 : Int32)))
abbrev RM_X7_in : Room := { frames := 0, cells := 0, slots := 0, locals := 0 }
set_option maxHeartbeats 4000000 in
set_option maxRecDepth 100000 in
theorem c_X7_in (l : Launch) (D : va_G) (cI cZ : ClassId)  (p1 : Int64) (p2 : Int64) (p3 : Int64) (sz : Nat) {r : Int32} (hf : f_X7_in p1 p2 p3 = some r) : Met l yX7_in (wM yX7_in cX7_in 6 (some .boolean)) RM_X7_in (va_Pc [.long p1, .long p2, .long p3] (pre D cI cZ ([] : va_W) sz)) (QI0 D (va_A ([] : va_W) sz) ([] : va_W) r) 0 0 (va_A ([] : va_W) sz) := by
  unfold f_X7_in at hf
  refine Met.ofW (cc := cX7_in) (maxL := 6) (ret := (some .boolean)) (by decide) rfl ?_
  intro p e s m args below meth c s₁ B hml hv
  obtain ⟨rfl, hsz, hP, hK, hD0, hnw⟩ := hv
  have hx := B.exec
  have hb := B.bytes
  have hr := B.returns
  have hts := atoms_spec (ws := wM yX7_in cX7_in 6 (some .boolean)) B.pre
  have hG : ∀ w ∈ GW, w.before (([.long p1, .long p2, .long p3] : List Value).toArray) s = true := fun w h => hts w (List.mem_cons_of_mem _ h)
  have hown : s.vm.findClass RX7 = some m.cls := findClass_of_methodNamed B.named
  have hlocks := B.notSynchronized
  subst hsz
  have hD := hD0.self (sz := s.heap.size)
  generalize hAe : va_A ([] : va_W) s.heap.size = A at hD ⊢
  have hA : ∀ q : Nat, s.heap.size ≤ q → A q := fun q h => by rw [← hAe]; exact Or.inr h
  have hS : va_S A s.heap s.heap [] := va_S.rf
  have hl := lv_entry ([.long p1, .long p2, .long p3]) (n := 6) (Nat.le_of_ble_eq_true rfl)
  rw [lg_entry_eq]
  generalize (lg_sl ([.long p1, .long p2, .long p3]) ++ List.replicate (6 - (lg_sl ([.long p1, .long p2, .long p3])).length) Slot.unset).toArray = ls at hl ⊢
  have hl : lv_has ls 6 [(0, .long p1), (2, .long p2), (4, .long p3)] := hl
  show W p l e RM_X7_in s m (([.long p1, .long p2, .long p3] : List Value).toArray) below meth c s.heap [] 0 0 (MQ below (QI0 D A ([] : va_W) r) (([.long p1, .long p2, .long p3] : List Value).toArray) s 0 0 A) (F0 m 0 ls [])
  refine lv_lload_n hx hb dX7_in_0 rfl (lv_at hl 0 rfl) ?_
  refine lv_lload_n hx hb dX7_in_1 rfl (lv_at hl 1 rfl) ?_
  refine W.lcmp hx hb dX7_in_2 ?_
  have J17 : ∀  (H : Heap) (locs : List Loc) (ls : Array Slot), va_P D vwCl ([] : va_W) H → va_D A ([] : va_W) → va_S A s.heap H locs → lv_has ls 6 [] → f_X7_in_j17  = some r → W p l e RM_X7_in s m (([.long p1, .long p2, .long p3] : List Value).toArray) below meth c H locs 0 0 (MQ below (QI0 D A ([] : va_W) r) (([.long p1, .long p2, .long p3] : List Value).toArray) s 0 0 A) (F0 m 17 ls []) := by
    intro  H locs ls hP hD hS hl hf
    unfold f_X7_in_j17 at hf
    refine lv_iconst (v := (0 : Int32)) hx hb dX7_in_17 (by decide) ?_
    exact W.zret (v := (0 : Int32)) hx hb hr (by decide) (fun t ht hW => ⟨⟨(0 : Int32), (), rfl, Option.some.inj hf, by rw [ht]; exact hP, hD⟩, hS.F ht⟩) hS.2.2 dX7_in_18
  refine lv_if_lt (tgt := 17) hx hb dX7_in_3 (by decide) (fun cc3 => ?_) (fun cc3 => ?_)
  · have hf := if_t cc3 hf
    exact J17  _ _ _ hP hD hS (lv_sub hl [] rfl) hf
  · have hf := if_f cc3 hf
    refine lv_lload_n hx hb dX7_in_6 rfl (lv_at hl 0 rfl) ?_
    refine lv_lload hx hb dX7_in_7 (lv_at hl 2 rfl) ?_
    refine W.lcmp hx hb dX7_in_9 ?_
    refine lv_if_gt (tgt := 17) hx hb dX7_in_10 (by decide) (fun cc10 => ?_) (fun cc10 => ?_)
    · have hf := if_t cc10 hf
      exact J17  _ _ _ hP hD hS (lv_sub hl [] rfl) hf
    · have hf := if_f cc10 hf
      refine lv_iconst (v := (1 : Int32)) hx hb dX7_in_13 (by decide) ?_
      refine lv_goto (tgt := 18) hx hb dX7_in_14 (by decide) ?_
      exact W.zret (v := (1 : Int32)) hx hb hr (by decide) (fun t ht hW => ⟨⟨(1 : Int32), (), rfl, Option.some.inj hf, by rw [ht]; exact hP, hD⟩, hS.F ht⟩) hS.2.2 dX7_in_18
def f_X7_has (p1 : Int32) (p2 : Int32) : Option (Int32) := (if ((p1 >>> (p2 &&& 31)) &&& (1 : Int32)) = (1 : Int32) then some (1 : Int32) else some (0 : Int32))
abbrev RM_X7_has : Room := { frames := 0, cells := 0, slots := 0, locals := 0 }
set_option maxHeartbeats 4000000 in
set_option maxRecDepth 100000 in
theorem c_X7_has (l : Launch) (D : va_G) (cI cZ : ClassId)  (p1 : Int32) (p2 : Int32) (sz : Nat) {r : Int32} (hf : f_X7_has p1 p2 = some r) : Met l yX7_has (wM yX7_has cX7_has 2 (some .boolean)) RM_X7_has (va_Pc [.int p1, .int p2] (pre D cI cZ ([] : va_W) sz)) (QI0 D (va_A ([] : va_W) sz) ([] : va_W) r) 0 0 (va_A ([] : va_W) sz) := by
  unfold f_X7_has at hf
  refine Met.ofW (cc := cX7_has) (maxL := 2) (ret := (some .boolean)) (by decide) rfl ?_
  intro p e s m args below meth c s₁ B hml hv
  obtain ⟨rfl, hsz, hP, hK, hD0, hnw⟩ := hv
  have hx := B.exec
  have hb := B.bytes
  have hr := B.returns
  have hts := atoms_spec (ws := wM yX7_has cX7_has 2 (some .boolean)) B.pre
  have hG : ∀ w ∈ GW, w.before (([.int p1, .int p2] : List Value).toArray) s = true := fun w h => hts w (List.mem_cons_of_mem _ h)
  have hown : s.vm.findClass RX7 = some m.cls := findClass_of_methodNamed B.named
  have hlocks := B.notSynchronized
  subst hsz
  have hD := hD0.self (sz := s.heap.size)
  generalize hAe : va_A ([] : va_W) s.heap.size = A at hD ⊢
  have hA : ∀ q : Nat, s.heap.size ≤ q → A q := fun q h => by rw [← hAe]; exact Or.inr h
  have hS : va_S A s.heap s.heap [] := va_S.rf
  have hl := lv_entry ([.int p1, .int p2]) (n := 2) (Nat.le_of_ble_eq_true rfl)
  rw [lg_entry_eq]
  generalize (lg_sl ([.int p1, .int p2]) ++ List.replicate (2 - (lg_sl ([.int p1, .int p2])).length) Slot.unset).toArray = ls at hl ⊢
  have hl : lv_has ls 2 [(0, .int p1), (1, .int p2)] := hl
  show W p l e RM_X7_has s m (([.int p1, .int p2] : List Value).toArray) below meth c s.heap [] 0 0 (MQ below (QI0 D A ([] : va_W) r) (([.int p1, .int p2] : List Value).toArray) s 0 0 A) (F0 m 0 ls [])
  refine lv_iload_n hx hb dX7_has_0 rfl (lv_at hl 0 rfl) ?_
  refine lv_iload_n hx hb dX7_has_1 rfl (lv_at hl 1 rfl) ?_
  refine lv_ishr hx hb dX7_has_2 ?_
  refine lv_iconst (v := (1 : Int32)) hx hb dX7_has_3 (by decide) ?_
  refine lv_iand hx hb dX7_has_4 ?_
  refine lv_iconst (v := (1 : Int32)) hx hb dX7_has_5 (by decide) ?_
  refine lv_icmp_ne (tgt := 13) hx hb dX7_has_6 (by decide) (fun cc6 => ?_) (fun cc6 => ?_)
  · have hf := if_f cc6 hf
    refine lv_iconst (v := (0 : Int32)) hx hb dX7_has_13 (by decide) ?_
    exact W.zret (v := (0 : Int32)) hx hb hr (by decide) (fun t ht hW => ⟨⟨(0 : Int32), (), rfl, Option.some.inj hf, by rw [ht]; exact hP, hD⟩, hS.F ht⟩) hS.2.2 dX7_has_14
  · have hf := if_t cc6 hf
    refine lv_iconst (v := (1 : Int32)) hx hb dX7_has_9 (by decide) ?_
    refine lv_goto (tgt := 14) hx hb dX7_has_10 (by decide) ?_
    exact W.zret (v := (1 : Int32)) hx hb hr (by decide) (fun t ht hW => ⟨⟨(1 : Int32), (), rfl, Option.some.inj hf, by rw [ht]; exact hP, hD⟩, hS.F ht⟩) hS.2.2 dX7_has_14
def f_X7_feed (x : HC) (p1 : Int32) : Option (Int32 × HC) := bd (f_X7_in (Int32.toInt64 p1) (0 : Int64) (255 : Int64)) (fun (q1 : Int32) => (if q1 = 0 then some ((-1000000002 : Int32), x) else (if (x 0 3) = (250 : Int32) then some ((-1000000004 : Int32), x) else (if inb (x 0 3) 250 then nm (sa x 3 (x 0 3) p1) (fun (X2 : HC) => nm (sf X2 3 ((X2 0 3) + (1 : Int32))) (fun (X3 : HC) => some ((X3 0 3), X3))) else none))))
abbrev RM_X7_feed : Room := { frames := 1, cells := 0, slots := 0, locals := 25 }
set_option maxHeartbeats 4000000 in
set_option maxRecDepth 100000 in
theorem c_X7_feed (l : Launch) (D : va_G) (cI cZ : ClassId) (a : Nat → Nat) (x : HC) (p1 : Int32) (sz : Nat) {r : Int32 × HC} (hf : f_X7_feed x p1 = some r) : Met l yX7_feed (wM yX7_feed cX7_feed 2 (some .int)) RM_X7_feed (va_Pc [.ref (a 0), .int p1] (pre D cI cZ (kM cI cZ a x) sz)) (QI D (va_A (kM cI cZ a x) sz) (fun (u : HC) => (kM cI cZ a u)) r) 0 0 (va_A (kM cI cZ a x) sz) := by
  unfold f_X7_feed at hf
  refine Met.ofW (cc := cX7_feed) (maxL := 2) (ret := (some .int)) (by decide) rfl ?_
  intro p e s m args below meth c s₁ B hml hv
  obtain ⟨rfl, hsz, hP, hK, hD0, hnw⟩ := hv
  have hx := B.exec
  have hb := B.bytes
  have hr := B.returns
  have hts := atoms_spec (ws := wM yX7_feed cX7_feed 2 (some .int)) B.pre
  have hG : ∀ w ∈ GW, w.before (([.ref (a 0), .int p1] : List Value).toArray) s = true := fun w h => hts w (List.mem_cons_of_mem _ h)
  have hown : s.vm.findClass RX7 = some m.cls := findClass_of_methodNamed B.named
  have hlocks := B.notSynchronized
  subst hsz
  have hD := hD0.self (sz := s.heap.size)
  generalize hAe : va_A (kM cI cZ a x) s.heap.size = A at hD ⊢
  have hA : ∀ q : Nat, s.heap.size ≤ q → A q := fun q h => by rw [← hAe]; exact Or.inr h
  have hS : va_S A s.heap s.heap [] := va_S.rf
  have hl := lv_entry ([.ref (a 0), .int p1]) (n := 2) (Nat.le_of_ble_eq_true rfl)
  rw [lg_entry_eq]
  generalize (lg_sl ([.ref (a 0), .int p1]) ++ List.replicate (2 - (lg_sl ([.ref (a 0), .int p1])).length) Slot.unset).toArray = ls at hl ⊢
  have hl : lv_has ls 2 [(0, .ref (a 0)), (1, .int p1)] := hl
  show W p l e RM_X7_feed s m (([.ref (a 0), .int p1] : List Value).toArray) below meth c s.heap [] 0 0 (MQ below (QI D A (fun (u : HC) => (kM cI cZ a u)) r) (([.ref (a 0), .int p1] : List Value).toArray) s 0 0 A) (F0 m 0 ls [])
  refine lv_iload_n hx hb dX7_feed_0 rfl (lv_at hl 1 rfl) ?_
  refine lv_i2l hx hb dX7_feed_1 rfl ?_
  refine lv_lconst (v := (0 : Int64)) hx hb dX7_feed_2 (by decide) ?_
  refine lv_ldc2 hx hb hown (hG _ g_601) dX7_feed_3 ?_
  obtain ⟨q1, hq1, hf⟩ := bd_x hf
  have hFc := va_free (wc := []) hD hS hA [] rfl
  refine va_calli (va_runS (As := [.long (Int32.toInt64 p1), .long (0 : Int64), .long (255 : Int64)]) (rest := []) ⟨hx, hb, hml, hown, hG⟩ (c_X7_in l D cI cZ (Int32.toInt64 p1) (0 : Int64) (255 : Int64) s.heap.size hq1) (cwS 3 hG (gS g_602 g_603 g_77 g_604) rfl rfl rfl (by decide +kernel) ⟨Nat.le_of_ble_eq_true rfl, Nat.le_of_ble_eq_true rfl⟩) ⟨pre_blind, fun U hU hW => ⟨rfl, pre_of P_nil hK D_nil hnw hU hW⟩⟩ rfl rfl hl.1 rfl (lv_room (Nat.le_of_ble_eq_true rfl)) dX7_feed_6 ⟨Nat.le_of_ble_eq_true rfl, Nat.le_of_ble_eq_true rfl⟩) hS (fun q _ h => hFc q h) hFc (fun v u t H locs ht hvm hw hB hz1 hk1 hS => ?_)
  have hw := hw.symm; subst hw
  obtain ⟨hP1, hD1⟩ := hB
  rw [ht] at hP1
  obtain ⟨hP, hD⟩ := back hP hD [] rfl rfl hk1 hFc hP1 hD1
  refine lv_if_ne (tgt := 15) hx hb dX7_feed_9 (by decide) (fun cc9 => ?_) (fun cc9 => ?_)
  · have hf := if_f cc9 hf
    refine lv_aload_n hx hb dX7_feed_15 rfl (lv_at hl 0 rfl) ?_
    refine va_get (D := D) (ci := 7) (v := .int (x 0 3)) (C := RX7) (T := TX7) (N := 32) hx hb hG inG7 hown hK hP 0 at_M_0_0 rfl 3 (by decide) (hG _ g_567) (fun _ h9 => h9) rfl dX7_feed_16 ?_
    refine lv_sipush (v := (250 : Int32)) hx hb dX7_feed_19 (by decide) ?_
    refine lv_icmp_ne (tgt := 28) hx hb dX7_feed_22 (by decide) (fun cc22 => ?_) (fun cc22 => ?_)
    · have hf := if_f cc22 hf
      refine lv_aload_n hx hb dX7_feed_28 rfl (lv_at hl 0 rfl) ?_
      refine va_get (D := D) (ci := 7) (v := .ref (a 3)) (C := RX7) (T := TX7) (N := 32) hx hb hG inG7 hown hK hP 0 at_M_0_0 rfl 2 (by decide) (hG _ g_566) (fun _ h9 => h9) rfl dX7_feed_29 ?_
      refine lv_aload_n hx hb dX7_feed_32 rfl (lv_at hl 0 rfl) ?_
      refine va_get (D := D) (ci := 7) (v := .int (x 0 3)) (C := RX7) (T := TX7) (N := 32) hx hb hG inG7 hown hK hP 0 at_M_0_0 rfl 3 (by decide) (hG _ g_567) (fun _ h9 => h9) rfl dX7_feed_33 ?_
      refine lv_iload_n hx hb dX7_feed_36 rfl (lv_at hl 1 rfl) ?_
      obtain ⟨hb37, hf⟩ := gd hf
      refine va_iast (cA := cI) (n := 250) (f := x 3) hx hb hK hP hD hS 3 0 at_M_0_3 rfl (inb_in hb37) dX7_feed_37 (fun H locs hP hD hS => ?_)
      obtain ⟨X2, eX2⟩ : ∃ y : HC, y = (sa x 3 (x 0 3) p1) := ⟨_, rfl⟩
      have hf := nm_x eX2 hf
      have hP := wP (sa_M_0_3.trans (congrArg (fun z : HC => (kM cI cZ a z)) eX2.symm)) hP
      have hD := wD (sa_M_0_3.trans (congrArg (fun z : HC => (kM cI cZ a z)) eX2.symm)) hD
      refine lv_aload_n hx hb dX7_feed_38 rfl (lv_at hl 0 rfl) ?_
      refine lv_dup hx hb dX7_feed_39 rfl ?_
      refine va_get (D := D) (ci := 7) (v := .int (X2 0 3)) (C := RX7) (T := TX7) (N := 32) hx hb hG inG7 hown hK hP 0 at_M_0_0 rfl 3 (by decide) (hG _ g_567) (fun _ h9 => h9) rfl dX7_feed_40 ?_
      refine lv_iconst (v := (1 : Int32)) hx hb dX7_feed_43 (by decide) ?_
      refine lv_iadd hx hb dX7_feed_44 ?_
      refine va_put (D := D) (ci := 7) (v := .int ((X2 0 3) + (1 : Int32))) (ty := .int) (C := RX7) (T := TX7) (N := 32) hx hb hG inG7 tyX7 tyX7_ok nmX7 hown hK hP hD hS 0 at_M_0_0 rfl 3 (by decide) (hG _ g_567) (fun _ h9 => h9) rfl (by decide +kernel) rfl rfl (Nat.le_of_ble_eq_true rfl) dX7_feed_45 (fun H locs hP hD hS => ?_)
      obtain ⟨X3, eX3⟩ : ∃ y : HC, y = (sf X2 3 ((X2 0 3) + (1 : Int32))) := ⟨_, rfl⟩
      have hf := nm_x eX3 hf
      have hP := wP (sf_M_0_3.trans (congrArg (fun z : HC => (kM cI cZ a z)) eX3.symm)) hP
      have hD := wD (sf_M_0_3.trans (congrArg (fun z : HC => (kM cI cZ a z)) eX3.symm)) hD
      refine lv_aload_n hx hb dX7_feed_48 rfl (lv_at hl 0 rfl) ?_
      refine va_get (D := D) (ci := 7) (v := .int (X3 0 3)) (C := RX7) (T := TX7) (N := 32) hx hb hG inG7 hown hK hP 0 at_M_0_0 rfl 3 (by decide) (hG _ g_567) (fun _ h9 => h9) rfl dX7_feed_49 ?_
      exact W.iret (v := (X3 0 3)) hx hb hr (fun t ht hW => ⟨⟨(X3 0 3), X3, rfl, ⟨pr_1 hf, pr_2 hf⟩, by rw [ht]; exact hP, hD⟩, hS.F ht⟩) hS.2.2 dX7_feed_52
    · have hf := if_t cc22 hf
      refine lv_ldc hx hb hown (hG _ g_606) dX7_feed_25 ?_
      exact W.iret (v := (-1000000004 : Int32)) hx hb hr (fun t ht hW => ⟨⟨(-1000000004 : Int32), x, rfl, ⟨pr_1 hf, pr_2 hf⟩, by rw [ht]; exact hP, hD⟩, hS.F ht⟩) hS.2.2 dX7_feed_27
  · have hf := if_t cc9 hf
    refine lv_ldc hx hb hown (hG _ g_605) dX7_feed_12 ?_
    exact W.iret (v := (-1000000002 : Int32)) hx hb hr (fun t ht hW => ⟨⟨(-1000000002 : Int32), x, rfl, ⟨pr_1 hf, pr_2 hf⟩, by rw [ht]; exact hP, hD⟩, hS.F ht⟩) hS.2.2 dX7_feed_14
def f_X7_isFigure (p1 : Int32) : Option (Int32) := bd (f_X7_in (Int32.toInt64 p1) (48 : Int64) (57 : Int64)) (fun (q1 : Int32) => (if bz q1 then some q1 else none))
abbrev RM_X7_isFigure : Room := { frames := 1, cells := 0, slots := 0, locals := 25 }
set_option maxHeartbeats 4000000 in
set_option maxRecDepth 100000 in
theorem c_X7_isFigure (l : Launch) (D : va_G) (cI cZ : ClassId)  (p1 : Int32) (sz : Nat) {r : Int32} (hf : f_X7_isFigure p1 = some r) : Met l yX7_isFigure (wM yX7_isFigure cX7_isFigure 1 (some .boolean)) RM_X7_isFigure (va_Pc [.int p1] (pre D cI cZ ([] : va_W) sz)) (QI0 D (va_A ([] : va_W) sz) ([] : va_W) r) 0 0 (va_A ([] : va_W) sz) := by
  unfold f_X7_isFigure at hf
  refine Met.ofW (cc := cX7_isFigure) (maxL := 1) (ret := (some .boolean)) (by decide) rfl ?_
  intro p e s m args below meth c s₁ B hml hv
  obtain ⟨rfl, hsz, hP, hK, hD0, hnw⟩ := hv
  have hx := B.exec
  have hb := B.bytes
  have hr := B.returns
  have hts := atoms_spec (ws := wM yX7_isFigure cX7_isFigure 1 (some .boolean)) B.pre
  have hG : ∀ w ∈ GW, w.before (([.int p1] : List Value).toArray) s = true := fun w h => hts w (List.mem_cons_of_mem _ h)
  have hown : s.vm.findClass RX7 = some m.cls := findClass_of_methodNamed B.named
  have hlocks := B.notSynchronized
  subst hsz
  have hD := hD0.self (sz := s.heap.size)
  generalize hAe : va_A ([] : va_W) s.heap.size = A at hD ⊢
  have hA : ∀ q : Nat, s.heap.size ≤ q → A q := fun q h => by rw [← hAe]; exact Or.inr h
  have hS : va_S A s.heap s.heap [] := va_S.rf
  have hl := lv_entry ([.int p1]) (n := 1) (Nat.le_of_ble_eq_true rfl)
  rw [lg_entry_eq]
  generalize (lg_sl ([.int p1]) ++ List.replicate (1 - (lg_sl ([.int p1])).length) Slot.unset).toArray = ls at hl ⊢
  have hl : lv_has ls 1 [(0, .int p1)] := hl
  show W p l e RM_X7_isFigure s m (([.int p1] : List Value).toArray) below meth c s.heap [] 0 0 (MQ below (QI0 D A ([] : va_W) r) (([.int p1] : List Value).toArray) s 0 0 A) (F0 m 0 ls [])
  refine lv_iload_n hx hb dX7_isFigure_0 rfl (lv_at hl 0 rfl) ?_
  refine lv_i2l hx hb dX7_isFigure_1 rfl ?_
  refine lv_ldc2 hx hb hown (hG _ g_629) dX7_isFigure_2 ?_
  refine lv_ldc2 hx hb hown (hG _ g_630) dX7_isFigure_5 ?_
  obtain ⟨q1, hq1, hf⟩ := bd_x hf
  have hFc := va_free (wc := []) hD hS hA [] rfl
  refine va_calli (va_runS (As := [.long (Int32.toInt64 p1), .long (48 : Int64), .long (57 : Int64)]) (rest := []) ⟨hx, hb, hml, hown, hG⟩ (c_X7_in l D cI cZ (Int32.toInt64 p1) (48 : Int64) (57 : Int64) s.heap.size hq1) (cwS 3 hG (gS g_602 g_603 g_77 g_604) rfl rfl rfl (by decide +kernel) ⟨Nat.le_of_ble_eq_true rfl, Nat.le_of_ble_eq_true rfl⟩) ⟨pre_blind, fun U hU hW => ⟨rfl, pre_of P_nil hK D_nil hnw hU hW⟩⟩ rfl rfl hl.1 rfl (lv_room (Nat.le_of_ble_eq_true rfl)) dX7_isFigure_8 ⟨Nat.le_of_ble_eq_true rfl, Nat.le_of_ble_eq_true rfl⟩) hS (fun q _ h => hFc q h) hFc (fun v u t H locs ht hvm hw hB hz1 hk1 hS => ?_)
  have hw := hw.symm; subst hw
  obtain ⟨hP1, hD1⟩ := hB
  rw [ht] at hP1
  obtain ⟨hP, hD⟩ := back hP hD [] rfl rfl hk1 hFc hP1 hD1
  obtain ⟨hz11, hf⟩ := gd hf
  exact W.zret (v := q1) hx hb hr (bz_n hz11) (fun t ht hW => ⟨⟨q1, (), rfl, Option.some.inj hf, by rw [ht]; exact hP, hD⟩, hS.F ht⟩) hS.2.2 dX7_isFigure_11
def f_X7_skip_j38 (X1 : HC)  : Option (HC) := nm (sf X1 18 (X1 0 17)) (fun (X2 : HC) => some X2)
def f_X7_skip_b0  (rc0 : HC → Option (HC)) (X1 : HC) : Option (HC) := (if (X1 0 3) ≤ (X1 0 17) then f_X7_skip_j38 X1 else (if inb (X1 0 17) 250 then (if (X1 3 (Int32.toNatClampNeg (X1 0 17))) = (32 : Int32) then nm (sf X1 17 ((X1 0 17) + (1 : Int32))) (fun (X3 : HC) => rc0 X3) else f_X7_skip_j38 X1) else none))
def f_X7_skip (x : HC) : Option (HC) := lp (fun _ => none : HC → Option (HC)) f_X7_skip_b0 FU x
abbrev RM_X7_skip : Room := { frames := 0, cells := 0, slots := 0, locals := 0 }
set_option maxHeartbeats 4000000 in
set_option maxRecDepth 100000 in
theorem c_X7_skip (l : Launch) (D : va_G) (cI cZ : ClassId) (a : Nat → Nat) (x : HC) (sz : Nat) {r : HC} (hf : f_X7_skip x = some r) : Met l yX7_skip (wM yX7_skip cX7_skip 1 none) RM_X7_skip (va_Pc [.ref (a 0)] (pre D cI cZ (kM cI cZ a x) sz)) (QV D (va_A (kM cI cZ a x) sz) (fun (u : HC) => (kM cI cZ a u)) r) 0 0 (va_A (kM cI cZ a x) sz) := by
  unfold f_X7_skip at hf
  refine Met.ofW (cc := cX7_skip) (maxL := 1) (ret := none) (by decide) rfl ?_
  intro p e s m args below meth c s₁ B hml hv
  obtain ⟨rfl, hsz, hP, hK, hD0, hnw⟩ := hv
  have hx := B.exec
  have hb := B.bytes
  have hr := B.returns
  have hts := atoms_spec (ws := wM yX7_skip cX7_skip 1 none) B.pre
  have hG : ∀ w ∈ GW, w.before (([.ref (a 0)] : List Value).toArray) s = true := fun w h => hts w (List.mem_cons_of_mem _ h)
  have hown : s.vm.findClass RX7 = some m.cls := findClass_of_methodNamed B.named
  have hlocks := B.notSynchronized
  subst hsz
  have hD := hD0.self (sz := s.heap.size)
  generalize hAe : va_A (kM cI cZ a x) s.heap.size = A at hD ⊢
  have hA : ∀ q : Nat, s.heap.size ≤ q → A q := fun q h => by rw [← hAe]; exact Or.inr h
  have hS : va_S A s.heap s.heap [] := va_S.rf
  have hl := lv_entry ([.ref (a 0)]) (n := 1) (Nat.le_of_ble_eq_true rfl)
  rw [lg_entry_eq]
  generalize (lg_sl ([.ref (a 0)]) ++ List.replicate (1 - (lg_sl ([.ref (a 0)])).length) Slot.unset).toArray = ls at hl ⊢
  have hl : lv_has ls 1 [(0, .ref (a 0))] := hl
  show W p l e RM_X7_skip s m (([.ref (a 0)] : List Value).toArray) below meth c s.heap [] 0 0 (MQ below (QV D A (fun (u : HC) => (kM cI cZ a u)) r) (([.ref (a 0)] : List Value).toArray) s 0 0 A) (F0 m 0 ls [])
  have L0 : ∀ (n : Nat) (X1 : HC) (H : Heap) (locs : List Loc) (ls : Array Slot), va_P D vwCl (kM cI cZ a X1) H → va_D A (kM cI cZ a X1) → va_S A s.heap H locs → lv_has ls 1 [(0, .ref (a 0))] → lp (fun _ => none : HC → Option (HC)) f_X7_skip_b0 n X1 = some r → W p l e RM_X7_skip s m (([.ref (a 0)] : List Value).toArray) below meth c H locs 0 0 (MQ below (QV D A (fun (u : HC) => (kM cI cZ a u)) r) (([.ref (a 0)] : List Value).toArray) s 0 0 A) (F0 m 0 ls []) := by
    intro n
    induction n with
    | zero => intro X1 H locs ls _ _ _ _ hf; cases (show (none : Option (HC)) = some r from hf)
    | succ n ih0 =>
      intro X1 H locs ls hP hD hS hl hf
      have hf : f_X7_skip_b0 (lp (fun _ => none : HC → Option (HC)) f_X7_skip_b0 n) X1 = some r := hf
      generalize lp (fun _ => none : HC → Option (HC)) f_X7_skip_b0 n = rc0 at ih0 hf
      unfold f_X7_skip_b0 at hf
      refine lv_aload_n hx hb dX7_skip_0 rfl (lv_at hl 0 rfl) ?_
      refine va_get (D := D) (ci := 7) (v := .int (X1 0 17)) (C := RX7) (T := TX7) (N := 32) hx hb hG inG7 hown hK hP 0 at_M_0_0 rfl 17 (by decide) (hG _ g_581) (fun _ h9 => h9) rfl dX7_skip_1 ?_
      refine lv_aload_n hx hb dX7_skip_4 rfl (lv_at hl 0 rfl) ?_
      refine va_get (D := D) (ci := 7) (v := .int (X1 0 3)) (C := RX7) (T := TX7) (N := 32) hx hb hG inG7 hown hK hP 0 at_M_0_0 rfl 3 (by decide) (hG _ g_567) (fun _ h9 => h9) rfl dX7_skip_5 ?_
      have J38 : ∀  (H : Heap) (locs : List Loc) (ls : Array Slot), va_P D vwCl (kM cI cZ a X1) H → va_D A (kM cI cZ a X1) → va_S A s.heap H locs → lv_has ls 1 [(0, .ref (a 0))] → f_X7_skip_j38 X1  = some r → W p l e RM_X7_skip s m (([.ref (a 0)] : List Value).toArray) below meth c H locs 0 0 (MQ below (QV D A (fun (u : HC) => (kM cI cZ a u)) r) (([.ref (a 0)] : List Value).toArray) s 0 0 A) (F0 m 38 ls []) := by
        intro  H locs ls hP hD hS hl hf
        unfold f_X7_skip_j38 at hf
        refine lv_aload_n hx hb dX7_skip_38 rfl (lv_at hl 0 rfl) ?_
        refine lv_aload_n hx hb dX7_skip_39 rfl (lv_at hl 0 rfl) ?_
        refine va_get (D := D) (ci := 7) (v := .int (X1 0 17)) (C := RX7) (T := TX7) (N := 32) hx hb hG inG7 hown hK hP 0 at_M_0_0 rfl 17 (by decide) (hG _ g_581) (fun _ h9 => h9) rfl dX7_skip_40 ?_
        refine va_put (D := D) (ci := 7) (v := .int (X1 0 17)) (ty := .int) (C := RX7) (T := TX7) (N := 32) hx hb hG inG7 tyX7 tyX7_ok nmX7 hown hK hP hD hS 0 at_M_0_0 rfl 18 (by decide) (hG _ g_582) (fun _ h9 => h9) rfl (by decide +kernel) rfl rfl (Nat.le_of_ble_eq_true rfl) dX7_skip_43 (fun H locs hP hD hS => ?_)
        obtain ⟨X2, eX2⟩ : ∃ y : HC, y = (sf X1 18 (X1 0 17)) := ⟨_, rfl⟩
        have hf := nm_x eX2 hf
        have hP := wP (sf_M_0_18.trans (congrArg (fun z : HC => (kM cI cZ a z)) eX2.symm)) hP
        have hD := wD (sf_M_0_18.trans (congrArg (fun z : HC => (kM cI cZ a z)) eX2.symm)) hD
        exact W.vret hx hb hr (fun t ht hW => ⟨⟨X2, rfl, Option.some.inj hf, by rw [ht]; exact hP, hD⟩, hS.F ht⟩) hS.2.2 dX7_skip_46
      refine lv_icmp_ge (tgt := 38) hx hb dX7_skip_8 (by decide) (fun cc8 => ?_) (fun cc8 => ?_)
      · have hf := if_t cc8 hf
        exact J38  _ _ _ hP hD hS (lv_sub hl [0] rfl) hf
      · have hf := if_f cc8 hf
        refine lv_aload_n hx hb dX7_skip_11 rfl (lv_at hl 0 rfl) ?_
        refine va_get (D := D) (ci := 7) (v := .ref (a 3)) (C := RX7) (T := TX7) (N := 32) hx hb hG inG7 hown hK hP 0 at_M_0_0 rfl 2 (by decide) (hG _ g_566) (fun _ h9 => h9) rfl dX7_skip_12 ?_
        refine lv_aload_n hx hb dX7_skip_15 rfl (lv_at hl 0 rfl) ?_
        refine va_get (D := D) (ci := 7) (v := .int (X1 0 17)) (C := RX7) (T := TX7) (N := 32) hx hb hG inG7 hown hK hP 0 at_M_0_0 rfl 17 (by decide) (hG _ g_581) (fun _ h9 => h9) rfl dX7_skip_16 ?_
        obtain ⟨hb19, hf⟩ := gd hf
        refine va_iald (cA := cI) (n := 250) (f := X1 3) hx hb hK hP 3 0 at_M_0_3 rfl (inb_in hb19) dX7_skip_19 ?_
        refine lv_bipush (v := (32 : Int32)) hx hb dX7_skip_20 (by decide) ?_
        refine lv_icmp_ne (tgt := 38) hx hb dX7_skip_22 (by decide) (fun cc22 => ?_) (fun cc22 => ?_)
        · have hf := if_f cc22 hf
          exact J38  _ _ _ hP hD hS (lv_sub hl [0] rfl) hf
        · have hf := if_t cc22 hf
          refine lv_aload_n hx hb dX7_skip_25 rfl (lv_at hl 0 rfl) ?_
          refine lv_dup hx hb dX7_skip_26 rfl ?_
          refine va_get (D := D) (ci := 7) (v := .int (X1 0 17)) (C := RX7) (T := TX7) (N := 32) hx hb hG inG7 hown hK hP 0 at_M_0_0 rfl 17 (by decide) (hG _ g_581) (fun _ h9 => h9) rfl dX7_skip_27 ?_
          refine lv_iconst (v := (1 : Int32)) hx hb dX7_skip_30 (by decide) ?_
          refine lv_iadd hx hb dX7_skip_31 ?_
          refine va_put (D := D) (ci := 7) (v := .int ((X1 0 17) + (1 : Int32))) (ty := .int) (C := RX7) (T := TX7) (N := 32) hx hb hG inG7 tyX7 tyX7_ok nmX7 hown hK hP hD hS 0 at_M_0_0 rfl 17 (by decide) (hG _ g_581) (fun _ h9 => h9) rfl (by decide +kernel) rfl rfl (Nat.le_of_ble_eq_true rfl) dX7_skip_32 (fun H locs hP hD hS => ?_)
          obtain ⟨X3, eX3⟩ : ∃ y : HC, y = (sf X1 17 ((X1 0 17) + (1 : Int32))) := ⟨_, rfl⟩
          have hf := nm_x eX3 hf
          have hP := wP (sf_M_0_17.trans (congrArg (fun z : HC => (kM cI cZ a z)) eX3.symm)) hP
          have hD := wD (sf_M_0_17.trans (congrArg (fun z : HC => (kM cI cZ a z)) eX3.symm)) hD
          refine lv_goto (tgt := 0) hx hb dX7_skip_35 (by decide) ?_
          exact ih0 X3 _ _ _ hP hD hS (lv_sub hl [0] rfl) hf
  exact L0 FU x _ _ _ hP hD hS (lv_sub hl [0] rfl) hf
def f_X7_number_j146 (X5 : HC)  : Option (Int32 × HC) := some ((2 : Int32), X5)
def f_X7_number_j112 (p1 : Int32) (p2 : Int32) (p3 : Int32) (v3 : Int32) (X4 : HC)  : Option (Int32 × HC) := (if inb p1 4 then nm (sa X4 15 p1 v3) (fun (X5 : HC) => (if (3 : Int32) < ((X5 0 17) - (X5 0 18)) then f_X7_number_j146 X5 else bd (f_X7_in (Int32.toInt64 v3) (Int32.toInt64 p2) (Int32.toInt64 p3)) (fun (q6 : Int32) => (if q6 = 0 then f_X7_number_j146 X5 else some ((0 : Int32), X5))))) else none)
def f_X7_number_j97 (rc35 : Int32 → HC → Option (Int32 × HC)) (X4 : HC) (v8 : Int32) : Option (Int32 × HC) := nm (sf X4 17 ((X4 0 17) + (1 : Int32))) (fun (X9 : HC) => rc35 v8 X9)
def f_X7_number_b35 (p1 : Int32) (p2 : Int32) (p3 : Int32) (rc35 : Int32 → HC → Option (Int32 × HC)) (v3 : Int32) (X4 : HC) : Option (Int32 × HC) := (if (X4 0 3) ≤ (X4 0 17) then f_X7_number_j112 p1 p2 p3 v3 X4 else (if inb (X4 0 17) 250 then bd (f_X7_isFigure (X4 3 (Int32.toNatClampNeg (X4 0 17)))) (fun (q7 : Int32) => (if q7 = 0 then f_X7_number_j112 p1 p2 p3 v3 X4 else (if (3 : Int32) ≤ ((X4 0 17) - (X4 0 18)) then f_X7_number_j97 rc35 X4 v3 else (if inb (X4 0 17) 250 then f_X7_number_j97 rc35 X4 ((((10 : Int32) * v3) + (X4 3 (Int32.toNatClampNeg (X4 0 17)))) - (48 : Int32)) else none)))) else none))
def f_X7_number (x : HC) (p1 : Int32) (p2 : Int32) (p3 : Int32) : Option (Int32 × HC) := bd (f_X7_skip x) (fun (q1 : HC) => (if (q1 0 17) = (q1 0 3) then some ((1 : Int32), q1) else (if inb (q1 0 17) 250 then bd (f_X7_isFigure (q1 3 (Int32.toNatClampNeg (q1 0 17)))) (fun (q2 : Int32) => (if q2 = 0 then some ((1 : Int32), q1) else lp (fun _ _ => none : Int32 → HC → Option (Int32 × HC)) (f_X7_number_b35 p1 p2 p3) FU (0 : Int32) q1)) else none)))
abbrev RM_X7_number : Room := { frames := 2, cells := 0, slots := 0, locals := 45 }
set_option maxHeartbeats 4000000 in
set_option maxRecDepth 100000 in
theorem c_X7_number (l : Launch) (D : va_G) (cI cZ : ClassId) (a : Nat → Nat) (x : HC) (p1 : Int32) (p2 : Int32) (p3 : Int32) (sz : Nat) {r : Int32 × HC} (hf : f_X7_number x p1 p2 p3 = some r) : Met l yX7_number (wM yX7_number cX7_number 5 (some .int)) RM_X7_number (va_Pc [.ref (a 0), .int p1, .int p2, .int p3] (pre D cI cZ (kM cI cZ a x) sz)) (QI D (va_A (kM cI cZ a x) sz) (fun (u : HC) => (kM cI cZ a u)) r) 0 0 (va_A (kM cI cZ a x) sz) := by
  unfold f_X7_number at hf
  refine Met.ofW (cc := cX7_number) (maxL := 5) (ret := (some .int)) (by decide) rfl ?_
  intro p e s m args below meth c s₁ B hml hv
  obtain ⟨rfl, hsz, hP, hK, hD0, hnw⟩ := hv
  have hx := B.exec
  have hb := B.bytes
  have hr := B.returns
  have hts := atoms_spec (ws := wM yX7_number cX7_number 5 (some .int)) B.pre
  have hG : ∀ w ∈ GW, w.before (([.ref (a 0), .int p1, .int p2, .int p3] : List Value).toArray) s = true := fun w h => hts w (List.mem_cons_of_mem _ h)
  have hown : s.vm.findClass RX7 = some m.cls := findClass_of_methodNamed B.named
  have hlocks := B.notSynchronized
  subst hsz
  have hD := hD0.self (sz := s.heap.size)
  generalize hAe : va_A (kM cI cZ a x) s.heap.size = A at hD ⊢
  have hA : ∀ q : Nat, s.heap.size ≤ q → A q := fun q h => by rw [← hAe]; exact Or.inr h
  have hS : va_S A s.heap s.heap [] := va_S.rf
  have hl := lv_entry ([.ref (a 0), .int p1, .int p2, .int p3]) (n := 5) (Nat.le_of_ble_eq_true rfl)
  rw [lg_entry_eq]
  generalize (lg_sl ([.ref (a 0), .int p1, .int p2, .int p3]) ++ List.replicate (5 - (lg_sl ([.ref (a 0), .int p1, .int p2, .int p3])).length) Slot.unset).toArray = ls at hl ⊢
  have hl : lv_has ls 5 [(0, .ref (a 0)), (1, .int p1), (2, .int p2), (3, .int p3)] := hl
  show W p l e RM_X7_number s m (([.ref (a 0), .int p1, .int p2, .int p3] : List Value).toArray) below meth c s.heap [] 0 0 (MQ below (QI D A (fun (u : HC) => (kM cI cZ a u)) r) (([.ref (a 0), .int p1, .int p2, .int p3] : List Value).toArray) s 0 0 A) (F0 m 0 ls [])
  refine lv_aload_n hx hb dX7_number_0 rfl (lv_at hl 0 rfl) ?_
  obtain ⟨q1, hq1, hf⟩ := bd_x hf
  have hFc := freeS hD hS hA
  refine va_callv (va_runV (As := []) (rest := []) ⟨hx, hb, hml, hown, hG⟩ (c_X7_skip l D cI cZ a x s.heap.size hq1) (cwV 0 hG (gV g_614 g_615 g_34 g_77 g_616) rfl rfl rfl (by decide +kernel) ⟨Nat.le_of_ble_eq_true rfl, Nat.le_of_ble_eq_true rfl⟩) ⟨pre_blind, va_recv hK hP (ci := 7) (q0 := 0) rfl rfl, fun U hU hW => ⟨rfl, pre_of hP hK hD hnw hU hW⟩⟩ rfl rfl hl.1 rfl (lv_room (Nat.le_of_ble_eq_true rfl)) dX7_number_1 ⟨Nat.le_of_ble_eq_true rfl, Nat.le_of_ble_eq_true rfl⟩) hS (fun q _ h => hFc q h) hFc (fun u t H locs ht hvm hw hB hz1 hk1 hS => ?_)
  have hw := hw.symm; subst hw
  obtain ⟨hP1, hD1⟩ := hB
  rw [ht] at hP1
  have hP := hP1
  have hD := hD1.weaken (fun _ q _ h => hFc q.1 h)
  refine lv_aload_n hx hb dX7_number_4 rfl (lv_at hl 0 rfl) ?_
  refine va_get (D := D) (ci := 7) (v := .int (q1 0 17)) (C := RX7) (T := TX7) (N := 32) hx hb hG inG7 hown hK hP 0 at_M_0_0 rfl 17 (by decide) (hG _ g_581) (fun _ h9 => h9) rfl dX7_number_5 ?_
  refine lv_aload_n hx hb dX7_number_8 rfl (lv_at hl 0 rfl) ?_
  refine va_get (D := D) (ci := 7) (v := .int (q1 0 3)) (C := RX7) (T := TX7) (N := 32) hx hb hG inG7 hown hK hP 0 at_M_0_0 rfl 3 (by decide) (hG _ g_567) (fun _ h9 => h9) rfl dX7_number_9 ?_
  refine lv_icmp_eq (tgt := 30) hx hb dX7_number_12 (by decide) (fun cc12 => ?_) (fun cc12 => ?_)
  · have hf := if_t cc12 hf
    refine lv_iconst (v := (1 : Int32)) hx hb dX7_number_30 (by decide) ?_
    exact W.iret (v := (1 : Int32)) hx hb hr (fun t ht hW => ⟨⟨(1 : Int32), q1, rfl, ⟨pr_1 hf, pr_2 hf⟩, by rw [ht]; exact hP, hD⟩, hS.F ht⟩) hS.2.2 dX7_number_31
  · have hf := if_f cc12 hf
    refine lv_aload_n hx hb dX7_number_15 rfl (lv_at hl 0 rfl) ?_
    refine va_get (D := D) (ci := 7) (v := .ref (a 3)) (C := RX7) (T := TX7) (N := 32) hx hb hG inG7 hown hK hP 0 at_M_0_0 rfl 2 (by decide) (hG _ g_566) (fun _ h9 => h9) rfl dX7_number_16 ?_
    refine lv_aload_n hx hb dX7_number_19 rfl (lv_at hl 0 rfl) ?_
    refine va_get (D := D) (ci := 7) (v := .int (q1 0 17)) (C := RX7) (T := TX7) (N := 32) hx hb hG inG7 hown hK hP 0 at_M_0_0 rfl 17 (by decide) (hG _ g_581) (fun _ h9 => h9) rfl dX7_number_20 ?_
    obtain ⟨hb23, hf⟩ := gd hf
    refine va_iald (cA := cI) (n := 250) (f := q1 3) hx hb hK hP 3 0 at_M_0_3 rfl (inb_in hb23) dX7_number_23 ?_
    obtain ⟨q2, hq2, hf⟩ := bd_x hf
    have hFc := va_free (wc := []) hD hS hA [] rfl
    refine va_calli (va_runS (As := [.int (q1 3 (Int32.toNatClampNeg (q1 0 17)))]) (rest := []) ⟨hx, hb, hml, hown, hG⟩ (c_X7_isFigure l D cI cZ (q1 3 (Int32.toNatClampNeg (q1 0 17))) H.size hq2) (cwS 1 hG (gS g_626 g_627 g_77 g_628) rfl rfl rfl (by decide +kernel) ⟨Nat.le_of_ble_eq_true rfl, Nat.le_of_ble_eq_true rfl⟩) ⟨pre_blind, fun U hU hW => ⟨rfl, pre_of P_nil hK D_nil hnw hU hW⟩⟩ rfl rfl hl.1 rfl (lv_room (Nat.le_of_ble_eq_true rfl)) dX7_number_24 ⟨Nat.le_of_ble_eq_true rfl, Nat.le_of_ble_eq_true rfl⟩) hS (fun q _ h => hFc q h) hFc (fun v u t H locs ht hvm hw hB hz1 hk1 hS => ?_)
    have hw := hw.symm; subst hw
    obtain ⟨hP1, hD1⟩ := hB
    rw [ht] at hP1
    obtain ⟨hP, hD⟩ := back hP hD [] rfl rfl hk1 hFc hP1 hD1
    refine lv_if_ne (tgt := 32) hx hb dX7_number_27 (by decide) (fun cc27 => ?_) (fun cc27 => ?_)
    · have hf := if_f cc27 hf
      refine lv_iconst (v := (0 : Int32)) hx hb dX7_number_32 (by decide) ?_
      refine lv_istore (lv' := [(4, .int (0 : Int32)), (0, .ref (a 0)), (1, .int p1), (2, .int p2), (3, .int p3)]) hx hb dX7_number_33 hl (by decide) rfl (fun ls hl => ?_)
      have L35 : ∀ (n : Nat) (v3 : Int32) (X4 : HC) (H : Heap) (locs : List Loc) (ls : Array Slot), va_P D vwCl (kM cI cZ a X4) H → va_D A (kM cI cZ a X4) → va_S A s.heap H locs → lv_has ls 5 [(0, .ref (a 0)), (1, .int p1), (2, .int p2), (3, .int p3), (4, .int v3)] → lp (fun _ _ => none : Int32 → HC → Option (Int32 × HC)) (f_X7_number_b35 p1 p2 p3) n v3 X4 = some r → W p l e RM_X7_number s m (([.ref (a 0), .int p1, .int p2, .int p3] : List Value).toArray) below meth c H locs 0 0 (MQ below (QI D A (fun (u : HC) => (kM cI cZ a u)) r) (([.ref (a 0), .int p1, .int p2, .int p3] : List Value).toArray) s 0 0 A) (F0 m 35 ls []) := by
        intro n
        induction n with
        | zero => intro v3 X4 H locs ls _ _ _ _ hf; cases (show (none : Option (Int32 × HC)) = some r from hf)
        | succ n ih35 =>
          intro v3 X4 H locs ls hP hD hS hl hf
          have hf : (f_X7_number_b35 p1 p2 p3) (lp (fun _ _ => none : Int32 → HC → Option (Int32 × HC)) (f_X7_number_b35 p1 p2 p3) n) v3 X4 = some r := hf
          generalize lp (fun _ _ => none : Int32 → HC → Option (Int32 × HC)) (f_X7_number_b35 p1 p2 p3) n = rc35 at ih35 hf
          unfold f_X7_number_b35 at hf
          refine lv_aload_n hx hb dX7_number_35 rfl (lv_at hl 0 rfl) ?_
          refine va_get (D := D) (ci := 7) (v := .int (X4 0 17)) (C := RX7) (T := TX7) (N := 32) hx hb hG inG7 hown hK hP 0 at_M_0_0 rfl 17 (by decide) (hG _ g_581) (fun _ h9 => h9) rfl dX7_number_36 ?_
          refine lv_aload_n hx hb dX7_number_39 rfl (lv_at hl 0 rfl) ?_
          refine va_get (D := D) (ci := 7) (v := .int (X4 0 3)) (C := RX7) (T := TX7) (N := 32) hx hb hG inG7 hown hK hP 0 at_M_0_0 rfl 3 (by decide) (hG _ g_567) (fun _ h9 => h9) rfl dX7_number_40 ?_
          have J112 : ∀  (H : Heap) (locs : List Loc) (ls : Array Slot), va_P D vwCl (kM cI cZ a X4) H → va_D A (kM cI cZ a X4) → va_S A s.heap H locs → lv_has ls 5 [(0, .ref (a 0)), (1, .int p1), (2, .int p2), (3, .int p3), (4, .int v3)] → f_X7_number_j112 p1 p2 p3 v3 X4  = some r → W p l e RM_X7_number s m (([.ref (a 0), .int p1, .int p2, .int p3] : List Value).toArray) below meth c H locs 0 0 (MQ below (QI D A (fun (u : HC) => (kM cI cZ a u)) r) (([.ref (a 0), .int p1, .int p2, .int p3] : List Value).toArray) s 0 0 A) (F0 m 112 ls []) := by
            intro  H locs ls hP hD hS hl hf
            unfold f_X7_number_j112 at hf
            refine lv_aload_n hx hb dX7_number_112 rfl (lv_at hl 0 rfl) ?_
            refine va_get (D := D) (ci := 7) (v := .ref (a 15)) (C := RX7) (T := TX7) (N := 32) hx hb hG inG7 hown hK hP 0 at_M_0_0 rfl 29 (by decide) (hG _ g_593) (fun _ h9 => h9) rfl dX7_number_113 ?_
            refine lv_iload_n hx hb dX7_number_116 rfl (lv_at hl 1 rfl) ?_
            refine lv_iload hx hb dX7_number_117 (lv_at hl 4 rfl) ?_
            obtain ⟨hb119, hf⟩ := gd hf
            refine va_iast (cA := cI) (n := 4) (f := X4 15) hx hb hK hP hD hS 15 0 at_M_0_15 rfl (inb_in hb119) dX7_number_119 (fun H locs hP hD hS => ?_)
            obtain ⟨X5, eX5⟩ : ∃ y : HC, y = (sa X4 15 p1 v3) := ⟨_, rfl⟩
            have hf := nm_x eX5 hf
            have hP := wP (sa_M_0_15.trans (congrArg (fun z : HC => (kM cI cZ a z)) eX5.symm)) hP
            have hD := wD (sa_M_0_15.trans (congrArg (fun z : HC => (kM cI cZ a z)) eX5.symm)) hD
            refine lv_aload_n hx hb dX7_number_120 rfl (lv_at hl 0 rfl) ?_
            refine va_get (D := D) (ci := 7) (v := .int (X5 0 17)) (C := RX7) (T := TX7) (N := 32) hx hb hG inG7 hown hK hP 0 at_M_0_0 rfl 17 (by decide) (hG _ g_581) (fun _ h9 => h9) rfl dX7_number_121 ?_
            refine lv_aload_n hx hb dX7_number_124 rfl (lv_at hl 0 rfl) ?_
            refine va_get (D := D) (ci := 7) (v := .int (X5 0 18)) (C := RX7) (T := TX7) (N := 32) hx hb hG inG7 hown hK hP 0 at_M_0_0 rfl 18 (by decide) (hG _ g_582) (fun _ h9 => h9) rfl dX7_number_125 ?_
            refine lv_isub hx hb dX7_number_128 ?_
            refine lv_iconst (v := (3 : Int32)) hx hb dX7_number_129 (by decide) ?_
            have J146 : ∀  (H : Heap) (locs : List Loc) (ls : Array Slot), va_P D vwCl (kM cI cZ a X5) H → va_D A (kM cI cZ a X5) → va_S A s.heap H locs → lv_has ls 5 [] → f_X7_number_j146 X5  = some r → W p l e RM_X7_number s m (([.ref (a 0), .int p1, .int p2, .int p3] : List Value).toArray) below meth c H locs 0 0 (MQ below (QI D A (fun (u : HC) => (kM cI cZ a u)) r) (([.ref (a 0), .int p1, .int p2, .int p3] : List Value).toArray) s 0 0 A) (F0 m 146 ls []) := by
              intro  H locs ls hP hD hS hl hf
              unfold f_X7_number_j146 at hf
              refine lv_iconst (v := (2 : Int32)) hx hb dX7_number_146 (by decide) ?_
              refine lv_goto (tgt := 151) hx hb dX7_number_147 (by decide) ?_
              exact W.iret (v := (2 : Int32)) hx hb hr (fun t ht hW => ⟨⟨(2 : Int32), X5, rfl, ⟨pr_1 hf, pr_2 hf⟩, by rw [ht]; exact hP, hD⟩, hS.F ht⟩) hS.2.2 dX7_number_151
            refine lv_icmp_gt (tgt := 146) hx hb dX7_number_130 (by decide) (fun cc130 => ?_) (fun cc130 => ?_)
            · have hf := if_t cc130 hf
              exact J146  _ _ _ hP hD hS (lv_sub hl [] rfl) hf
            · have hf := if_f cc130 hf
              refine lv_iload hx hb dX7_number_133 (lv_at hl 4 rfl) ?_
              refine lv_i2l hx hb dX7_number_135 rfl ?_
              refine lv_iload_n hx hb dX7_number_136 rfl (lv_at hl 2 rfl) ?_
              refine lv_i2l hx hb dX7_number_137 rfl ?_
              refine lv_iload_n hx hb dX7_number_138 rfl (lv_at hl 3 rfl) ?_
              refine lv_i2l hx hb dX7_number_139 rfl ?_
              obtain ⟨q6, hq6, hf⟩ := bd_x hf
              have hFc := va_free (wc := []) hD hS hA [] rfl
              refine va_calli (va_runS (As := [.long (Int32.toInt64 v3), .long (Int32.toInt64 p2), .long (Int32.toInt64 p3)]) (rest := []) ⟨hx, hb, hml, hown, hG⟩ (c_X7_in l D cI cZ (Int32.toInt64 v3) (Int32.toInt64 p2) (Int32.toInt64 p3) H.size hq6) (cwS 3 hG (gS g_602 g_603 g_77 g_604) rfl rfl rfl (by decide +kernel) ⟨Nat.le_of_ble_eq_true rfl, Nat.le_of_ble_eq_true rfl⟩) ⟨pre_blind, fun U hU hW => ⟨rfl, pre_of P_nil hK D_nil hnw hU hW⟩⟩ rfl rfl hl.1 rfl (lv_room (Nat.le_of_ble_eq_true rfl)) dX7_number_140 ⟨Nat.le_of_ble_eq_true rfl, Nat.le_of_ble_eq_true rfl⟩) hS (fun q _ h => hFc q h) hFc (fun v u t H locs ht hvm hw hB hz1 hk1 hS => ?_)
              have hw := hw.symm; subst hw
              obtain ⟨hP1, hD1⟩ := hB
              rw [ht] at hP1
              obtain ⟨hP, hD⟩ := back hP hD [] rfl rfl hk1 hFc hP1 hD1
              refine lv_if_ne (tgt := 150) hx hb dX7_number_143 (by decide) (fun cc143 => ?_) (fun cc143 => ?_)
              · have hf := if_f cc143 hf
                refine lv_iconst (v := (0 : Int32)) hx hb dX7_number_150 (by decide) ?_
                exact W.iret (v := (0 : Int32)) hx hb hr (fun t ht hW => ⟨⟨(0 : Int32), X5, rfl, ⟨pr_1 hf, pr_2 hf⟩, by rw [ht]; exact hP, hD⟩, hS.F ht⟩) hS.2.2 dX7_number_151
              · have hf := if_t cc143 hf
                exact J146  _ _ _ hP hD hS (lv_sub hl [] rfl) hf
          refine lv_icmp_ge (tgt := 112) hx hb dX7_number_43 (by decide) (fun cc43 => ?_) (fun cc43 => ?_)
          · have hf := if_t cc43 hf
            exact J112  _ _ _ hP hD hS (lv_sub hl [0, 1, 2, 3, 4] rfl) hf
          · have hf := if_f cc43 hf
            refine lv_aload_n hx hb dX7_number_46 rfl (lv_at hl 0 rfl) ?_
            refine va_get (D := D) (ci := 7) (v := .ref (a 3)) (C := RX7) (T := TX7) (N := 32) hx hb hG inG7 hown hK hP 0 at_M_0_0 rfl 2 (by decide) (hG _ g_566) (fun _ h9 => h9) rfl dX7_number_47 ?_
            refine lv_aload_n hx hb dX7_number_50 rfl (lv_at hl 0 rfl) ?_
            refine va_get (D := D) (ci := 7) (v := .int (X4 0 17)) (C := RX7) (T := TX7) (N := 32) hx hb hG inG7 hown hK hP 0 at_M_0_0 rfl 17 (by decide) (hG _ g_581) (fun _ h9 => h9) rfl dX7_number_51 ?_
            obtain ⟨hb54, hf⟩ := gd hf
            refine va_iald (cA := cI) (n := 250) (f := X4 3) hx hb hK hP 3 0 at_M_0_3 rfl (inb_in hb54) dX7_number_54 ?_
            obtain ⟨q7, hq7, hf⟩ := bd_x hf
            have hFc := va_free (wc := []) hD hS hA [] rfl
            refine va_calli (va_runS (As := [.int (X4 3 (Int32.toNatClampNeg (X4 0 17)))]) (rest := []) ⟨hx, hb, hml, hown, hG⟩ (c_X7_isFigure l D cI cZ (X4 3 (Int32.toNatClampNeg (X4 0 17))) H.size hq7) (cwS 1 hG (gS g_626 g_627 g_77 g_628) rfl rfl rfl (by decide +kernel) ⟨Nat.le_of_ble_eq_true rfl, Nat.le_of_ble_eq_true rfl⟩) ⟨pre_blind, fun U hU hW => ⟨rfl, pre_of P_nil hK D_nil hnw hU hW⟩⟩ rfl rfl hl.1 rfl (lv_room (Nat.le_of_ble_eq_true rfl)) dX7_number_55 ⟨Nat.le_of_ble_eq_true rfl, Nat.le_of_ble_eq_true rfl⟩) hS (fun q _ h => hFc q h) hFc (fun v u t H locs ht hvm hw hB hz1 hk1 hS => ?_)
            have hw := hw.symm; subst hw
            obtain ⟨hP1, hD1⟩ := hB
            rw [ht] at hP1
            obtain ⟨hP, hD⟩ := back hP hD [] rfl rfl hk1 hFc hP1 hD1
            refine lv_if_eq (tgt := 112) hx hb dX7_number_58 (by decide) (fun cc58 => ?_) (fun cc58 => ?_)
            · have hf := if_t cc58 hf
              exact J112  _ _ _ hP hD hS (lv_sub hl [0, 1, 2, 3, 4] rfl) hf
            · have hf := if_f cc58 hf
              refine lv_aload_n hx hb dX7_number_61 rfl (lv_at hl 0 rfl) ?_
              refine va_get (D := D) (ci := 7) (v := .int (X4 0 17)) (C := RX7) (T := TX7) (N := 32) hx hb hG inG7 hown hK hP 0 at_M_0_0 rfl 17 (by decide) (hG _ g_581) (fun _ h9 => h9) rfl dX7_number_62 ?_
              refine lv_aload_n hx hb dX7_number_65 rfl (lv_at hl 0 rfl) ?_
              refine va_get (D := D) (ci := 7) (v := .int (X4 0 18)) (C := RX7) (T := TX7) (N := 32) hx hb hG inG7 hown hK hP 0 at_M_0_0 rfl 18 (by decide) (hG _ g_582) (fun _ h9 => h9) rfl dX7_number_66 ?_
              refine lv_isub hx hb dX7_number_69 ?_
              refine lv_iconst (v := (3 : Int32)) hx hb dX7_number_70 (by decide) ?_
              have J97 : ∀ (v8 : Int32) (H : Heap) (locs : List Loc) (ls : Array Slot), va_P D vwCl (kM cI cZ a X4) H → va_D A (kM cI cZ a X4) → va_S A s.heap H locs → lv_has ls 5 [(0, .ref (a 0)), (1, .int p1), (2, .int p2), (3, .int p3)] → f_X7_number_j97 rc35 X4 v8 = some r → W p l e RM_X7_number s m (([.ref (a 0), .int p1, .int p2, .int p3] : List Value).toArray) below meth c H locs 0 0 (MQ below (QI D A (fun (u : HC) => (kM cI cZ a u)) r) (([.ref (a 0), .int p1, .int p2, .int p3] : List Value).toArray) s 0 0 A) (F0 m 97 ls [.int v8]) := by
                intro v8 H locs ls hP hD hS hl hf
                unfold f_X7_number_j97 at hf
                refine lv_istore (lv' := [(4, .int v8), (0, .ref (a 0)), (1, .int p1), (2, .int p2), (3, .int p3)]) hx hb dX7_number_97 hl (by decide) rfl (fun ls hl => ?_)
                refine lv_aload_n hx hb dX7_number_99 rfl (lv_at hl 1 rfl) ?_
                refine lv_dup hx hb dX7_number_100 rfl ?_
                refine va_get (D := D) (ci := 7) (v := .int (X4 0 17)) (C := RX7) (T := TX7) (N := 32) hx hb hG inG7 hown hK hP 0 at_M_0_0 rfl 17 (by decide) (hG _ g_581) (fun _ h9 => h9) rfl dX7_number_101 ?_
                refine lv_iconst (v := (1 : Int32)) hx hb dX7_number_104 (by decide) ?_
                refine lv_iadd hx hb dX7_number_105 ?_
                refine va_put (D := D) (ci := 7) (v := .int ((X4 0 17) + (1 : Int32))) (ty := .int) (C := RX7) (T := TX7) (N := 32) hx hb hG inG7 tyX7 tyX7_ok nmX7 hown hK hP hD hS 0 at_M_0_0 rfl 17 (by decide) (hG _ g_581) (fun _ h9 => h9) rfl (by decide +kernel) rfl rfl (Nat.le_of_ble_eq_true rfl) dX7_number_106 (fun H locs hP hD hS => ?_)
                obtain ⟨X9, eX9⟩ : ∃ y : HC, y = (sf X4 17 ((X4 0 17) + (1 : Int32))) := ⟨_, rfl⟩
                have hf := nm_x eX9 hf
                have hP := wP (sf_M_0_17.trans (congrArg (fun z : HC => (kM cI cZ a z)) eX9.symm)) hP
                have hD := wD (sf_M_0_17.trans (congrArg (fun z : HC => (kM cI cZ a z)) eX9.symm)) hD
                refine lv_goto (tgt := 35) hx hb dX7_number_109 (by decide) ?_
                exact ih35 v8 X9 _ _ _ hP hD hS (lv_sub hl [1, 2, 3, 4, 0] rfl) hf
              refine lv_icmp_ge (tgt := 95) hx hb dX7_number_71 (by decide) (fun cc71 => ?_) (fun cc71 => ?_)
              · have hf := if_t cc71 hf
                refine lv_iload hx hb dX7_number_95 (lv_at hl 4 rfl) ?_
                exact J97 v3 _ _ _ hP hD hS (lv_sub hl [0, 1, 2, 3] rfl) hf
              · have hf := if_f cc71 hf
                refine lv_bipush (v := (10 : Int32)) hx hb dX7_number_74 (by decide) ?_
                refine lv_iload hx hb dX7_number_76 (lv_at hl 4 rfl) ?_
                refine lv_imul hx hb dX7_number_78 ?_
                refine lv_aload_n hx hb dX7_number_79 rfl (lv_at hl 0 rfl) ?_
                refine va_get (D := D) (ci := 7) (v := .ref (a 3)) (C := RX7) (T := TX7) (N := 32) hx hb hG inG7 hown hK hP 0 at_M_0_0 rfl 2 (by decide) (hG _ g_566) (fun _ h9 => h9) rfl dX7_number_80 ?_
                refine lv_aload_n hx hb dX7_number_83 rfl (lv_at hl 0 rfl) ?_
                refine va_get (D := D) (ci := 7) (v := .int (X4 0 17)) (C := RX7) (T := TX7) (N := 32) hx hb hG inG7 hown hK hP 0 at_M_0_0 rfl 17 (by decide) (hG _ g_581) (fun _ h9 => h9) rfl dX7_number_84 ?_
                obtain ⟨hb87, hf⟩ := gd hf
                refine va_iald (cA := cI) (n := 250) (f := X4 3) hx hb hK hP 3 0 at_M_0_3 rfl (inb_in hb87) dX7_number_87 ?_
                refine lv_iadd hx hb dX7_number_88 ?_
                refine lv_bipush (v := (48 : Int32)) hx hb dX7_number_89 (by decide) ?_
                refine lv_isub hx hb dX7_number_91 ?_
                refine lv_goto (tgt := 97) hx hb dX7_number_92 (by decide) ?_
                exact J97 ((((10 : Int32) * v3) + (X4 3 (Int32.toNatClampNeg (X4 0 17)))) - (48 : Int32)) _ _ _ hP hD hS (lv_sub hl [0, 1, 2, 3] rfl) hf
      exact L35 FU (0 : Int32) q1 _ _ _ hP hD hS (lv_sub hl [1, 2, 3, 4, 0] rfl) hf
    · have hf := if_t cc27 hf
      refine lv_iconst (v := (1 : Int32)) hx hb dX7_number_30 (by decide) ?_
      exact W.iret (v := (1 : Int32)) hx hb hr (fun t ht hW => ⟨⟨(1 : Int32), q1, rfl, ⟨pr_1 hf, pr_2 hf⟩, by rw [ht]; exact hP, hD⟩, hS.F ht⟩) hS.2.2 dX7_number_31
def f_X7_numberOr (x : HC) (p1 : Int32) (p2 : Int32) (p3 : Int32) (p4 : Int32) : Option (Int32 × HC) := (if p1 = 0 then bd (f_X7_number x p2 p3 p4) (fun (q1 : Int32 × HC) => some (q1.1, q1.2)) else some (p1, x))
abbrev RM_X7_numberOr : Room := { frames := 3, cells := 0, slots := 0, locals := 69 }
set_option maxHeartbeats 4000000 in
set_option maxRecDepth 100000 in
theorem c_X7_numberOr (l : Launch) (D : va_G) (cI cZ : ClassId) (a : Nat → Nat) (x : HC) (p1 : Int32) (p2 : Int32) (p3 : Int32) (p4 : Int32) (sz : Nat) {r : Int32 × HC} (hf : f_X7_numberOr x p1 p2 p3 p4 = some r) : Met l yX7_numberOr (wM yX7_numberOr cX7_numberOr 5 (some .int)) RM_X7_numberOr (va_Pc [.ref (a 0), .int p1, .int p2, .int p3, .int p4] (pre D cI cZ (kM cI cZ a x) sz)) (QI D (va_A (kM cI cZ a x) sz) (fun (u : HC) => (kM cI cZ a u)) r) 0 0 (va_A (kM cI cZ a x) sz) := by
  unfold f_X7_numberOr at hf
  refine Met.ofW (cc := cX7_numberOr) (maxL := 5) (ret := (some .int)) (by decide) rfl ?_
  intro p e s m args below meth c s₁ B hml hv
  obtain ⟨rfl, hsz, hP, hK, hD0, hnw⟩ := hv
  have hx := B.exec
  have hb := B.bytes
  have hr := B.returns
  have hts := atoms_spec (ws := wM yX7_numberOr cX7_numberOr 5 (some .int)) B.pre
  have hG : ∀ w ∈ GW, w.before (([.ref (a 0), .int p1, .int p2, .int p3, .int p4] : List Value).toArray) s = true := fun w h => hts w (List.mem_cons_of_mem _ h)
  have hown : s.vm.findClass RX7 = some m.cls := findClass_of_methodNamed B.named
  have hlocks := B.notSynchronized
  subst hsz
  have hD := hD0.self (sz := s.heap.size)
  generalize hAe : va_A (kM cI cZ a x) s.heap.size = A at hD ⊢
  have hA : ∀ q : Nat, s.heap.size ≤ q → A q := fun q h => by rw [← hAe]; exact Or.inr h
  have hS : va_S A s.heap s.heap [] := va_S.rf
  have hl := lv_entry ([.ref (a 0), .int p1, .int p2, .int p3, .int p4]) (n := 5) (Nat.le_of_ble_eq_true rfl)
  rw [lg_entry_eq]
  generalize (lg_sl ([.ref (a 0), .int p1, .int p2, .int p3, .int p4]) ++ List.replicate (5 - (lg_sl ([.ref (a 0), .int p1, .int p2, .int p3, .int p4])).length) Slot.unset).toArray = ls at hl ⊢
  have hl : lv_has ls 5 [(0, .ref (a 0)), (1, .int p1), (2, .int p2), (3, .int p3), (4, .int p4)] := hl
  show W p l e RM_X7_numberOr s m (([.ref (a 0), .int p1, .int p2, .int p3, .int p4] : List Value).toArray) below meth c s.heap [] 0 0 (MQ below (QI D A (fun (u : HC) => (kM cI cZ a u)) r) (([.ref (a 0), .int p1, .int p2, .int p3, .int p4] : List Value).toArray) s 0 0 A) (F0 m 0 ls [])
  refine lv_iload_n hx hb dX7_numberOr_0 rfl (lv_at hl 1 rfl) ?_
  refine lv_if_eq (tgt := 8) hx hb dX7_numberOr_1 (by decide) (fun cc1 => ?_) (fun cc1 => ?_)
  · have hf := if_t cc1 hf
    refine lv_aload_n hx hb dX7_numberOr_8 rfl (lv_at hl 0 rfl) ?_
    refine lv_iload_n hx hb dX7_numberOr_9 rfl (lv_at hl 2 rfl) ?_
    refine lv_iload_n hx hb dX7_numberOr_10 rfl (lv_at hl 3 rfl) ?_
    refine lv_iload hx hb dX7_numberOr_11 (lv_at hl 4 rfl) ?_
    obtain ⟨q1, hq1, hf⟩ := bd_x hf
    have hFc := freeS hD hS hA
    refine va_calli (va_runV (As := [.int p2, .int p3, .int p4]) (rest := []) ⟨hx, hb, hml, hown, hG⟩ (c_X7_number l D cI cZ a x p2 p3 p4 s.heap.size hq1) (cwV 3 hG (gV g_623 g_624 g_37 g_77 g_625) rfl rfl rfl (by decide +kernel) ⟨Nat.le_of_ble_eq_true rfl, Nat.le_of_ble_eq_true rfl⟩) ⟨pre_blind, va_recv hK hP (ci := 7) (q0 := 0) rfl rfl, fun U hU hW => ⟨rfl, pre_of hP hK hD hnw hU hW⟩⟩ rfl rfl hl.1 rfl (lv_room (Nat.le_of_ble_eq_true rfl)) dX7_numberOr_13 ⟨Nat.le_of_ble_eq_true rfl, Nat.le_of_ble_eq_true rfl⟩) hS (fun q _ h => hFc q h) hFc (fun v u t H locs ht hvm hw hB hz1 hk1 hS => ?_)
    obtain ⟨rfl, rfl⟩ := hw
    obtain ⟨hP1, hD1⟩ := hB
    rw [ht] at hP1
    have hP := hP1
    have hD := hD1.weaken (fun _ q _ h => hFc q.1 h)
    exact W.iret (v := q1.1) hx hb hr (fun t ht hW => ⟨⟨q1.1, q1.2, rfl, ⟨pr_1 hf, pr_2 hf⟩, by rw [ht]; exact hP, hD⟩, hS.F ht⟩) hS.2.2 dX7_numberOr_16
  · have hf := if_f cc1 hf
    refine lv_iload_n hx hb dX7_numberOr_4 rfl (lv_at hl 1 rfl) ?_
    refine lv_goto (tgt := 16) hx hb dX7_numberOr_5 (by decide) ?_
    exact W.iret (v := p1) hx hb hr (fun t ht hW => ⟨⟨p1, x, rfl, ⟨pr_1 hf, pr_2 hf⟩, by rw [ht]; exact hP, hD⟩, hS.F ht⟩) hS.2.2 dX7_numberOr_16
def f_X7_semicolon (x : HC) (p1 : Int32) : Option (Int32 × HC) := (if p1 = 0 then bd (f_X7_skip x) (fun (q1 : HC) => (if (q1 0 17) = (q1 0 3) then some ((1 : Int32), q1) else (if inb (q1 0 17) 250 then (if (q1 3 (Int32.toNatClampNeg (q1 0 17))) = (59 : Int32) then nm (sf q1 17 ((q1 0 17) + (1 : Int32))) (fun (X2 : HC) => some ((0 : Int32), X2)) else some ((1 : Int32), q1)) else none))) else some (p1, x))
abbrev RM_X7_semicolon : Room := { frames := 1, cells := 0, slots := 0, locals := 20 }
set_option maxHeartbeats 4000000 in
set_option maxRecDepth 100000 in
theorem c_X7_semicolon (l : Launch) (D : va_G) (cI cZ : ClassId) (a : Nat → Nat) (x : HC) (p1 : Int32) (sz : Nat) {r : Int32 × HC} (hf : f_X7_semicolon x p1 = some r) : Met l yX7_semicolon (wM yX7_semicolon cX7_semicolon 2 (some .int)) RM_X7_semicolon (va_Pc [.ref (a 0), .int p1] (pre D cI cZ (kM cI cZ a x) sz)) (QI D (va_A (kM cI cZ a x) sz) (fun (u : HC) => (kM cI cZ a u)) r) 0 0 (va_A (kM cI cZ a x) sz) := by
  unfold f_X7_semicolon at hf
  refine Met.ofW (cc := cX7_semicolon) (maxL := 2) (ret := (some .int)) (by decide) rfl ?_
  intro p e s m args below meth c s₁ B hml hv
  obtain ⟨rfl, hsz, hP, hK, hD0, hnw⟩ := hv
  have hx := B.exec
  have hb := B.bytes
  have hr := B.returns
  have hts := atoms_spec (ws := wM yX7_semicolon cX7_semicolon 2 (some .int)) B.pre
  have hG : ∀ w ∈ GW, w.before (([.ref (a 0), .int p1] : List Value).toArray) s = true := fun w h => hts w (List.mem_cons_of_mem _ h)
  have hown : s.vm.findClass RX7 = some m.cls := findClass_of_methodNamed B.named
  have hlocks := B.notSynchronized
  subst hsz
  have hD := hD0.self (sz := s.heap.size)
  generalize hAe : va_A (kM cI cZ a x) s.heap.size = A at hD ⊢
  have hA : ∀ q : Nat, s.heap.size ≤ q → A q := fun q h => by rw [← hAe]; exact Or.inr h
  have hS : va_S A s.heap s.heap [] := va_S.rf
  have hl := lv_entry ([.ref (a 0), .int p1]) (n := 2) (Nat.le_of_ble_eq_true rfl)
  rw [lg_entry_eq]
  generalize (lg_sl ([.ref (a 0), .int p1]) ++ List.replicate (2 - (lg_sl ([.ref (a 0), .int p1])).length) Slot.unset).toArray = ls at hl ⊢
  have hl : lv_has ls 2 [(0, .ref (a 0)), (1, .int p1)] := hl
  show W p l e RM_X7_semicolon s m (([.ref (a 0), .int p1] : List Value).toArray) below meth c s.heap [] 0 0 (MQ below (QI D A (fun (u : HC) => (kM cI cZ a u)) r) (([.ref (a 0), .int p1] : List Value).toArray) s 0 0 A) (F0 m 0 ls [])
  refine lv_iload_n hx hb dX7_semicolon_0 rfl (lv_at hl 1 rfl) ?_
  refine lv_if_eq (tgt := 6) hx hb dX7_semicolon_1 (by decide) (fun cc1 => ?_) (fun cc1 => ?_)
  · have hf := if_t cc1 hf
    refine lv_aload_n hx hb dX7_semicolon_6 rfl (lv_at hl 0 rfl) ?_
    obtain ⟨q1, hq1, hf⟩ := bd_x hf
    have hFc := freeS hD hS hA
    refine va_callv (va_runV (As := []) (rest := []) ⟨hx, hb, hml, hown, hG⟩ (c_X7_skip l D cI cZ a x s.heap.size hq1) (cwV 0 hG (gV g_614 g_615 g_34 g_77 g_616) rfl rfl rfl (by decide +kernel) ⟨Nat.le_of_ble_eq_true rfl, Nat.le_of_ble_eq_true rfl⟩) ⟨pre_blind, va_recv hK hP (ci := 7) (q0 := 0) rfl rfl, fun U hU hW => ⟨rfl, pre_of hP hK hD hnw hU hW⟩⟩ rfl rfl hl.1 rfl (lv_room (Nat.le_of_ble_eq_true rfl)) dX7_semicolon_7 ⟨Nat.le_of_ble_eq_true rfl, Nat.le_of_ble_eq_true rfl⟩) hS (fun q _ h => hFc q h) hFc (fun u t H locs ht hvm hw hB hz1 hk1 hS => ?_)
    have hw := hw.symm; subst hw
    obtain ⟨hP1, hD1⟩ := hB
    rw [ht] at hP1
    have hP := hP1
    have hD := hD1.weaken (fun _ q _ h => hFc q.1 h)
    refine lv_aload_n hx hb dX7_semicolon_10 rfl (lv_at hl 0 rfl) ?_
    refine va_get (D := D) (ci := 7) (v := .int (q1 0 17)) (C := RX7) (T := TX7) (N := 32) hx hb hG inG7 hown hK hP 0 at_M_0_0 rfl 17 (by decide) (hG _ g_581) (fun _ h9 => h9) rfl dX7_semicolon_11 ?_
    refine lv_aload_n hx hb dX7_semicolon_14 rfl (lv_at hl 0 rfl) ?_
    refine va_get (D := D) (ci := 7) (v := .int (q1 0 3)) (C := RX7) (T := TX7) (N := 32) hx hb hG inG7 hown hK hP 0 at_M_0_0 rfl 3 (by decide) (hG _ g_567) (fun _ h9 => h9) rfl dX7_semicolon_15 ?_
    refine lv_icmp_eq (tgt := 35) hx hb dX7_semicolon_18 (by decide) (fun cc18 => ?_) (fun cc18 => ?_)
    · have hf := if_t cc18 hf
      refine lv_iconst (v := (1 : Int32)) hx hb dX7_semicolon_35 (by decide) ?_
      exact W.iret (v := (1 : Int32)) hx hb hr (fun t ht hW => ⟨⟨(1 : Int32), q1, rfl, ⟨pr_1 hf, pr_2 hf⟩, by rw [ht]; exact hP, hD⟩, hS.F ht⟩) hS.2.2 dX7_semicolon_36
    · have hf := if_f cc18 hf
      refine lv_aload_n hx hb dX7_semicolon_21 rfl (lv_at hl 0 rfl) ?_
      refine va_get (D := D) (ci := 7) (v := .ref (a 3)) (C := RX7) (T := TX7) (N := 32) hx hb hG inG7 hown hK hP 0 at_M_0_0 rfl 2 (by decide) (hG _ g_566) (fun _ h9 => h9) rfl dX7_semicolon_22 ?_
      refine lv_aload_n hx hb dX7_semicolon_25 rfl (lv_at hl 0 rfl) ?_
      refine va_get (D := D) (ci := 7) (v := .int (q1 0 17)) (C := RX7) (T := TX7) (N := 32) hx hb hG inG7 hown hK hP 0 at_M_0_0 rfl 17 (by decide) (hG _ g_581) (fun _ h9 => h9) rfl dX7_semicolon_26 ?_
      obtain ⟨hb29, hf⟩ := gd hf
      refine va_iald (cA := cI) (n := 250) (f := q1 3) hx hb hK hP 3 0 at_M_0_3 rfl (inb_in hb29) dX7_semicolon_29 ?_
      refine lv_bipush (v := (59 : Int32)) hx hb dX7_semicolon_30 (by decide) ?_
      refine lv_icmp_eq (tgt := 37) hx hb dX7_semicolon_32 (by decide) (fun cc32 => ?_) (fun cc32 => ?_)
      · have hf := if_t cc32 hf
        refine lv_aload_n hx hb dX7_semicolon_37 rfl (lv_at hl 0 rfl) ?_
        refine lv_dup hx hb dX7_semicolon_38 rfl ?_
        refine va_get (D := D) (ci := 7) (v := .int (q1 0 17)) (C := RX7) (T := TX7) (N := 32) hx hb hG inG7 hown hK hP 0 at_M_0_0 rfl 17 (by decide) (hG _ g_581) (fun _ h9 => h9) rfl dX7_semicolon_39 ?_
        refine lv_iconst (v := (1 : Int32)) hx hb dX7_semicolon_42 (by decide) ?_
        refine lv_iadd hx hb dX7_semicolon_43 ?_
        refine va_put (D := D) (ci := 7) (v := .int ((q1 0 17) + (1 : Int32))) (ty := .int) (C := RX7) (T := TX7) (N := 32) hx hb hG inG7 tyX7 tyX7_ok nmX7 hown hK hP hD hS 0 at_M_0_0 rfl 17 (by decide) (hG _ g_581) (fun _ h9 => h9) rfl (by decide +kernel) rfl rfl (Nat.le_of_ble_eq_true rfl) dX7_semicolon_44 (fun H locs hP hD hS => ?_)
        obtain ⟨X2, eX2⟩ : ∃ y : HC, y = (sf q1 17 ((q1 0 17) + (1 : Int32))) := ⟨_, rfl⟩
        have hf := nm_x eX2 hf
        have hP := wP (sf_M_0_17.trans (congrArg (fun z : HC => (kM cI cZ a z)) eX2.symm)) hP
        have hD := wD (sf_M_0_17.trans (congrArg (fun z : HC => (kM cI cZ a z)) eX2.symm)) hD
        refine lv_iconst (v := (0 : Int32)) hx hb dX7_semicolon_47 (by decide) ?_
        exact W.iret (v := (0 : Int32)) hx hb hr (fun t ht hW => ⟨⟨(0 : Int32), X2, rfl, ⟨pr_1 hf, pr_2 hf⟩, by rw [ht]; exact hP, hD⟩, hS.F ht⟩) hS.2.2 dX7_semicolon_48
      · have hf := if_f cc32 hf
        refine lv_iconst (v := (1 : Int32)) hx hb dX7_semicolon_35 (by decide) ?_
        exact W.iret (v := (1 : Int32)) hx hb hr (fun t ht hW => ⟨⟨(1 : Int32), q1, rfl, ⟨pr_1 hf, pr_2 hf⟩, by rw [ht]; exact hP, hD⟩, hS.F ht⟩) hS.2.2 dX7_semicolon_36
  · have hf := if_f cc1 hf
    refine lv_iload_n hx hb dX7_semicolon_4 rfl (lv_at hl 1 rfl) ?_
    exact W.iret (v := p1) hx hb hr (fun t ht hW => ⟨⟨p1, x, rfl, ⟨pr_1 hf, pr_2 hf⟩, by rw [ht]; exact hP, hD⟩, hS.F ht⟩) hS.2.2 dX7_semicolon_5
def f_X7_readsPeople (x : HC) : Option (Int32 × HC) := bd (f_X7_number x (0 : Int32) (1 : Int32) (6 : Int32)) (fun (q1 : Int32 × HC) => bd (f_X7_semicolon q1.2 q1.1) (fun (q2 : Int32 × HC) => nm q2.1 (fun (v3 : Int32) => (if v3 = 0 then (if inb (0 : Int32) 4 then nm (sf q2.2 19 (q2.2 15 (Int32.toNatClampNeg (0 : Int32)))) (fun (X5 : HC) => some (v3, X5)) else none) else nm (sf q2.2 19 (0 : Int32)) (fun (X4 : HC) => some (v3, X4))))))
abbrev RM_X7_readsPeople : Room := { frames := 3, cells := 0, slots := 0, locals := 69 }
set_option maxHeartbeats 4000000 in
set_option maxRecDepth 100000 in
theorem c_X7_readsPeople (l : Launch) (D : va_G) (cI cZ : ClassId) (a : Nat → Nat) (x : HC) (sz : Nat) {r : Int32 × HC} (hf : f_X7_readsPeople x = some r) : Met l yX7_readsPeople (wM yX7_readsPeople cX7_readsPeople 2 (some .int)) RM_X7_readsPeople (va_Pc [.ref (a 0)] (pre D cI cZ (kM cI cZ a x) sz)) (QI D (va_A (kM cI cZ a x) sz) (fun (u : HC) => (kM cI cZ a u)) r) 0 0 (va_A (kM cI cZ a x) sz) := by
  unfold f_X7_readsPeople at hf
  refine Met.ofW (cc := cX7_readsPeople) (maxL := 2) (ret := (some .int)) (by decide) rfl ?_
  intro p e s m args below meth c s₁ B hml hv
  obtain ⟨rfl, hsz, hP, hK, hD0, hnw⟩ := hv
  have hx := B.exec
  have hb := B.bytes
  have hr := B.returns
  have hts := atoms_spec (ws := wM yX7_readsPeople cX7_readsPeople 2 (some .int)) B.pre
  have hG : ∀ w ∈ GW, w.before (([.ref (a 0)] : List Value).toArray) s = true := fun w h => hts w (List.mem_cons_of_mem _ h)
  have hown : s.vm.findClass RX7 = some m.cls := findClass_of_methodNamed B.named
  have hlocks := B.notSynchronized
  subst hsz
  have hD := hD0.self (sz := s.heap.size)
  generalize hAe : va_A (kM cI cZ a x) s.heap.size = A at hD ⊢
  have hA : ∀ q : Nat, s.heap.size ≤ q → A q := fun q h => by rw [← hAe]; exact Or.inr h
  have hS : va_S A s.heap s.heap [] := va_S.rf
  have hl := lv_entry ([.ref (a 0)]) (n := 2) (Nat.le_of_ble_eq_true rfl)
  rw [lg_entry_eq]
  generalize (lg_sl ([.ref (a 0)]) ++ List.replicate (2 - (lg_sl ([.ref (a 0)])).length) Slot.unset).toArray = ls at hl ⊢
  have hl : lv_has ls 2 [(0, .ref (a 0))] := hl
  show W p l e RM_X7_readsPeople s m (([.ref (a 0)] : List Value).toArray) below meth c s.heap [] 0 0 (MQ below (QI D A (fun (u : HC) => (kM cI cZ a u)) r) (([.ref (a 0)] : List Value).toArray) s 0 0 A) (F0 m 0 ls [])
  refine lv_aload_n hx hb dX7_readsPeople_0 rfl (lv_at hl 0 rfl) ?_
  refine lv_aload_n hx hb dX7_readsPeople_1 rfl (lv_at hl 0 rfl) ?_
  refine lv_iconst (v := (0 : Int32)) hx hb dX7_readsPeople_2 (by decide) ?_
  refine lv_iconst (v := (1 : Int32)) hx hb dX7_readsPeople_3 (by decide) ?_
  refine lv_bipush (v := (6 : Int32)) hx hb dX7_readsPeople_4 (by decide) ?_
  obtain ⟨q1, hq1, hf⟩ := bd_x hf
  have hFc := freeS hD hS hA
  refine va_calli (va_runV (As := [.int (0 : Int32), .int (1 : Int32), .int (6 : Int32)]) (rest := [.ref (a 0)]) ⟨hx, hb, hml, hown, hG⟩ (c_X7_number l D cI cZ a x (0 : Int32) (1 : Int32) (6 : Int32) s.heap.size hq1) (cwV 3 hG (gV g_623 g_624 g_37 g_77 g_625) rfl rfl rfl (by decide +kernel) ⟨Nat.le_of_ble_eq_true rfl, Nat.le_of_ble_eq_true rfl⟩) ⟨pre_blind, va_recv hK hP (ci := 7) (q0 := 0) rfl rfl, fun U hU hW => ⟨rfl, pre_of hP hK hD hnw hU hW⟩⟩ rfl rfl hl.1 rfl (lv_room (Nat.le_of_ble_eq_true rfl)) dX7_readsPeople_6 ⟨Nat.le_of_ble_eq_true rfl, Nat.le_of_ble_eq_true rfl⟩) hS (fun q _ h => hFc q h) hFc (fun v u t H locs ht hvm hw hB hz1 hk1 hS => ?_)
  obtain ⟨rfl, rfl⟩ := hw
  obtain ⟨hP1, hD1⟩ := hB
  rw [ht] at hP1
  have hP := hP1
  have hD := hD1.weaken (fun _ q _ h => hFc q.1 h)
  obtain ⟨q2, hq2, hf⟩ := bd_x hf
  have hFc := freeS hD hS hA
  refine va_calli (va_runV (As := [.int q1.1]) (rest := []) ⟨hx, hb, hml, hown, hG⟩ (c_X7_semicolon l D cI cZ a q1.2 q1.1 H.size hq2) (cwV 1 hG (gV g_631 g_632 g_38 g_77 g_633) rfl rfl rfl (by decide +kernel) ⟨Nat.le_of_ble_eq_true rfl, Nat.le_of_ble_eq_true rfl⟩) ⟨pre_blind, va_recv hK hP (ci := 7) (q0 := 0) rfl rfl, fun U hU hW => ⟨rfl, pre_of hP hK hD hnw hU hW⟩⟩ rfl rfl hl.1 rfl (lv_room (Nat.le_of_ble_eq_true rfl)) dX7_readsPeople_9 ⟨Nat.le_of_ble_eq_true rfl, Nat.le_of_ble_eq_true rfl⟩) hS (fun q _ h => hFc q h) hFc (fun v u t H locs ht hvm hw hB hz1 hk1 hS => ?_)
  obtain ⟨rfl, rfl⟩ := hw
  obtain ⟨hP1, hD1⟩ := hB
  rw [ht] at hP1
  have hP := hP1
  have hD := hD1.weaken (fun _ q _ h => hFc q.1 h)
  refine lv_topi (fun v3 ev3 => ?_)
  have hf := nm_x ev3 hf
  refine lv_istore_n (lv' := [(1, .int v3), (0, .ref (a 0))]) hx hb dX7_readsPeople_12 rfl hl (by decide) rfl (fun ls hl => ?_)
  refine lv_aload_n hx hb dX7_readsPeople_13 rfl (lv_at hl 1 rfl) ?_
  refine lv_iload_n hx hb dX7_readsPeople_14 rfl (lv_at hl 0 rfl) ?_
  refine lv_if_ne (tgt := 27) hx hb dX7_readsPeople_15 (by decide) (fun cc15 => ?_) (fun cc15 => ?_)
  · have hf := if_f cc15 hf
    refine lv_iconst (v := (0 : Int32)) hx hb dX7_readsPeople_27 (by decide) ?_
    refine va_put (D := D) (ci := 7) (v := .int (0 : Int32)) (ty := .int) (C := RX7) (T := TX7) (N := 32) hx hb hG inG7 tyX7 tyX7_ok nmX7 hown hK hP hD hS 0 at_M_0_0 rfl 19 (by decide) (hG _ g_583) (fun _ h9 => h9) rfl (by decide +kernel) rfl rfl (Nat.le_of_ble_eq_true rfl) dX7_readsPeople_28 (fun H locs hP hD hS => ?_)
    obtain ⟨X4, eX4⟩ : ∃ y : HC, y = (sf q2.2 19 (0 : Int32)) := ⟨_, rfl⟩
    have hf := nm_x eX4 hf
    have hP := wP (sf_M_0_19.trans (congrArg (fun z : HC => (kM cI cZ a z)) eX4.symm)) hP
    have hD := wD (sf_M_0_19.trans (congrArg (fun z : HC => (kM cI cZ a z)) eX4.symm)) hD
    refine lv_iload_n hx hb dX7_readsPeople_31 rfl (lv_at hl 0 rfl) ?_
    exact W.iret (v := v3) hx hb hr (fun t ht hW => ⟨⟨v3, X4, rfl, ⟨pr_1 hf, pr_2 hf⟩, by rw [ht]; exact hP, hD⟩, hS.F ht⟩) hS.2.2 dX7_readsPeople_32
  · have hf := if_t cc15 hf
    refine lv_aload_n hx hb dX7_readsPeople_18 rfl (lv_at hl 1 rfl) ?_
    refine va_get (D := D) (ci := 7) (v := .ref (a 15)) (C := RX7) (T := TX7) (N := 32) hx hb hG inG7 hown hK hP 0 at_M_0_0 rfl 29 (by decide) (hG _ g_593) (fun _ h9 => h9) rfl dX7_readsPeople_19 ?_
    refine lv_iconst (v := (0 : Int32)) hx hb dX7_readsPeople_22 (by decide) ?_
    obtain ⟨hb23, hf⟩ := gd hf
    refine va_iald (cA := cI) (n := 4) (f := q2.2 15) hx hb hK hP 15 0 at_M_0_15 rfl (inb_in hb23) dX7_readsPeople_23 ?_
    refine lv_goto (tgt := 28) hx hb dX7_readsPeople_24 (by decide) ?_
    refine va_put (D := D) (ci := 7) (v := .int (q2.2 15 (Int32.toNatClampNeg (0 : Int32)))) (ty := .int) (C := RX7) (T := TX7) (N := 32) hx hb hG inG7 tyX7 tyX7_ok nmX7 hown hK hP hD hS 0 at_M_0_0 rfl 19 (by decide) (hG _ g_583) (fun _ h9 => h9) rfl (by decide +kernel) rfl rfl (Nat.le_of_ble_eq_true rfl) dX7_readsPeople_28 (fun H locs hP hD hS => ?_)
    obtain ⟨X5, eX5⟩ : ∃ y : HC, y = (sf q2.2 19 (q2.2 15 (Int32.toNatClampNeg (0 : Int32)))) := ⟨_, rfl⟩
    have hf := nm_x eX5 hf
    have hP := wP (sf_M_0_19.trans (congrArg (fun z : HC => (kM cI cZ a z)) eX5.symm)) hP
    have hD := wD (sf_M_0_19.trans (congrArg (fun z : HC => (kM cI cZ a z)) eX5.symm)) hD
    refine lv_iload_n hx hb dX7_readsPeople_31 rfl (lv_at hl 0 rfl) ?_
    exact W.iret (v := v3) hx hb hr (fun t ht hW => ⟨⟨v3, X5, rfl, ⟨pr_1 hf, pr_2 hf⟩, by rw [ht]; exact hP, hD⟩, hS.F ht⟩) hS.2.2 dX7_readsPeople_32
def f_X7_readsFighter_j78 (v5 : Int32) (X7 : HC) (v8 : Int32) : Option (Int32 × HC) := nm (sf X7 20 ((X7 0 20) + v8)) (fun (X9 : HC) => some (v5, X9))
def f_X7_readsFighter_j64 (v5 : Int32) (X7 : HC)  : Option (Int32 × HC) := (if v5 = 0 then f_X7_readsFighter_j78 v5 X7 (1 : Int32) else f_X7_readsFighter_j78 v5 X7 (0 : Int32))
def f_X7_readsFighter_b30 (v5 : Int32) (rc30 : Int32 → HC → Option (Int32 × HC)) (v6 : Int32) (X7 : HC) : Option (Int32 × HC) := (if (3 : Int32) ≤ v6 then f_X7_readsFighter_j64 v5 X7 else (if v5 = 0 then (if inb v6 4 then (if inb (((3 : Int32) * (X7 0 20)) + v6) 15 then nm (sa X7 10 (((3 : Int32) * (X7 0 20)) + v6) (X7 15 (Int32.toNatClampNeg v6))) (fun (X10 : HC) => nm (v6 + (1 : Int32)) (fun (v11 : Int32) => rc30 v11 X10)) else none) else none) else f_X7_readsFighter_j64 v5 X7))
def f_X7_readsFighter (x : HC) : Option (Int32 × HC) := bd (f_X7_number x (0 : Int32) (0 : Int32) (4 : Int32)) (fun (q1 : Int32 × HC) => bd (f_X7_numberOr q1.2 q1.1 (1 : Int32) (0 : Int32) (99 : Int32)) (fun (q2 : Int32 × HC) => bd (f_X7_numberOr q2.2 q2.1 (2 : Int32) (0 : Int32) (99 : Int32)) (fun (q3 : Int32 × HC) => bd (f_X7_semicolon q3.2 q3.1) (fun (q4 : Int32 × HC) => nm q4.1 (fun (v5 : Int32) => lp (fun _ _ => none : Int32 → HC → Option (Int32 × HC)) (f_X7_readsFighter_b30 v5) FU (0 : Int32) q4.2)))))
abbrev RM_X7_readsFighter : Room := { frames := 4, cells := 0, slots := 0, locals := 93 }
set_option maxHeartbeats 4000000 in
set_option maxRecDepth 100000 in
theorem c_X7_readsFighter (l : Launch) (D : va_G) (cI cZ : ClassId) (a : Nat → Nat) (x : HC) (sz : Nat) {r : Int32 × HC} (hf : f_X7_readsFighter x = some r) : Met l yX7_readsFighter (wM yX7_readsFighter cX7_readsFighter 3 (some .int)) RM_X7_readsFighter (va_Pc [.ref (a 0)] (pre D cI cZ (kM cI cZ a x) sz)) (QI D (va_A (kM cI cZ a x) sz) (fun (u : HC) => (kM cI cZ a u)) r) 0 0 (va_A (kM cI cZ a x) sz) := by
  unfold f_X7_readsFighter at hf
  refine Met.ofW (cc := cX7_readsFighter) (maxL := 3) (ret := (some .int)) (by decide) rfl ?_
  intro p e s m args below meth c s₁ B hml hv
  obtain ⟨rfl, hsz, hP, hK, hD0, hnw⟩ := hv
  have hx := B.exec
  have hb := B.bytes
  have hr := B.returns
  have hts := atoms_spec (ws := wM yX7_readsFighter cX7_readsFighter 3 (some .int)) B.pre
  have hG : ∀ w ∈ GW, w.before (([.ref (a 0)] : List Value).toArray) s = true := fun w h => hts w (List.mem_cons_of_mem _ h)
  have hown : s.vm.findClass RX7 = some m.cls := findClass_of_methodNamed B.named
  have hlocks := B.notSynchronized
  subst hsz
  have hD := hD0.self (sz := s.heap.size)
  generalize hAe : va_A (kM cI cZ a x) s.heap.size = A at hD ⊢
  have hA : ∀ q : Nat, s.heap.size ≤ q → A q := fun q h => by rw [← hAe]; exact Or.inr h
  have hS : va_S A s.heap s.heap [] := va_S.rf
  have hl := lv_entry ([.ref (a 0)]) (n := 3) (Nat.le_of_ble_eq_true rfl)
  rw [lg_entry_eq]
  generalize (lg_sl ([.ref (a 0)]) ++ List.replicate (3 - (lg_sl ([.ref (a 0)])).length) Slot.unset).toArray = ls at hl ⊢
  have hl : lv_has ls 3 [(0, .ref (a 0))] := hl
  show W p l e RM_X7_readsFighter s m (([.ref (a 0)] : List Value).toArray) below meth c s.heap [] 0 0 (MQ below (QI D A (fun (u : HC) => (kM cI cZ a u)) r) (([.ref (a 0)] : List Value).toArray) s 0 0 A) (F0 m 0 ls [])
  refine lv_aload_n hx hb dX7_readsFighter_0 rfl (lv_at hl 0 rfl) ?_
  refine lv_aload_n hx hb dX7_readsFighter_1 rfl (lv_at hl 0 rfl) ?_
  refine lv_aload_n hx hb dX7_readsFighter_2 rfl (lv_at hl 0 rfl) ?_
  refine lv_aload_n hx hb dX7_readsFighter_3 rfl (lv_at hl 0 rfl) ?_
  refine lv_iconst (v := (0 : Int32)) hx hb dX7_readsFighter_4 (by decide) ?_
  refine lv_iconst (v := (0 : Int32)) hx hb dX7_readsFighter_5 (by decide) ?_
  refine lv_iconst (v := (4 : Int32)) hx hb dX7_readsFighter_6 (by decide) ?_
  obtain ⟨q1, hq1, hf⟩ := bd_x hf
  have hFc := freeS hD hS hA
  refine va_calli (va_runV (As := [.int (0 : Int32), .int (0 : Int32), .int (4 : Int32)]) (rest := [.ref (a 0), .ref (a 0), .ref (a 0)]) ⟨hx, hb, hml, hown, hG⟩ (c_X7_number l D cI cZ a x (0 : Int32) (0 : Int32) (4 : Int32) s.heap.size hq1) (cwV 3 hG (gV g_623 g_624 g_37 g_77 g_625) rfl rfl rfl (by decide +kernel) ⟨Nat.le_of_ble_eq_true rfl, Nat.le_of_ble_eq_true rfl⟩) ⟨pre_blind, va_recv hK hP (ci := 7) (q0 := 0) rfl rfl, fun U hU hW => ⟨rfl, pre_of hP hK hD hnw hU hW⟩⟩ rfl rfl hl.1 rfl (lv_room (Nat.le_of_ble_eq_true rfl)) dX7_readsFighter_7 ⟨Nat.le_of_ble_eq_true rfl, Nat.le_of_ble_eq_true rfl⟩) hS (fun q _ h => hFc q h) hFc (fun v u t H locs ht hvm hw hB hz1 hk1 hS => ?_)
  obtain ⟨rfl, rfl⟩ := hw
  obtain ⟨hP1, hD1⟩ := hB
  rw [ht] at hP1
  have hP := hP1
  have hD := hD1.weaken (fun _ q _ h => hFc q.1 h)
  refine lv_iconst (v := (1 : Int32)) hx hb dX7_readsFighter_10 (by decide) ?_
  refine lv_iconst (v := (0 : Int32)) hx hb dX7_readsFighter_11 (by decide) ?_
  refine lv_bipush (v := (99 : Int32)) hx hb dX7_readsFighter_12 (by decide) ?_
  obtain ⟨q2, hq2, hf⟩ := bd_x hf
  have hFc := freeS hD hS hA
  refine va_calli (va_runV (As := [.int q1.1, .int (1 : Int32), .int (0 : Int32), .int (99 : Int32)]) (rest := [.ref (a 0), .ref (a 0)]) ⟨hx, hb, hml, hown, hG⟩ (c_X7_numberOr l D cI cZ a q1.2 q1.1 (1 : Int32) (0 : Int32) (99 : Int32) H.size hq2) (cwV 4 hG (gV g_637 g_638 g_40 g_77 g_639) rfl rfl rfl (by decide +kernel) ⟨Nat.le_of_ble_eq_true rfl, Nat.le_of_ble_eq_true rfl⟩) ⟨pre_blind, va_recv hK hP (ci := 7) (q0 := 0) rfl rfl, fun U hU hW => ⟨rfl, pre_of hP hK hD hnw hU hW⟩⟩ rfl rfl hl.1 rfl (lv_room (Nat.le_of_ble_eq_true rfl)) dX7_readsFighter_14 ⟨Nat.le_of_ble_eq_true rfl, Nat.le_of_ble_eq_true rfl⟩) hS (fun q _ h => hFc q h) hFc (fun v u t H locs ht hvm hw hB hz1 hk1 hS => ?_)
  obtain ⟨rfl, rfl⟩ := hw
  obtain ⟨hP1, hD1⟩ := hB
  rw [ht] at hP1
  have hP := hP1
  have hD := hD1.weaken (fun _ q _ h => hFc q.1 h)
  refine lv_iconst (v := (2 : Int32)) hx hb dX7_readsFighter_17 (by decide) ?_
  refine lv_iconst (v := (0 : Int32)) hx hb dX7_readsFighter_18 (by decide) ?_
  refine lv_bipush (v := (99 : Int32)) hx hb dX7_readsFighter_19 (by decide) ?_
  obtain ⟨q3, hq3, hf⟩ := bd_x hf
  have hFc := freeS hD hS hA
  refine va_calli (va_runV (As := [.int q2.1, .int (2 : Int32), .int (0 : Int32), .int (99 : Int32)]) (rest := [.ref (a 0)]) ⟨hx, hb, hml, hown, hG⟩ (c_X7_numberOr l D cI cZ a q2.2 q2.1 (2 : Int32) (0 : Int32) (99 : Int32) H.size hq3) (cwV 4 hG (gV g_637 g_638 g_40 g_77 g_639) rfl rfl rfl (by decide +kernel) ⟨Nat.le_of_ble_eq_true rfl, Nat.le_of_ble_eq_true rfl⟩) ⟨pre_blind, va_recv hK hP (ci := 7) (q0 := 0) rfl rfl, fun U hU hW => ⟨rfl, pre_of hP hK hD hnw hU hW⟩⟩ rfl rfl hl.1 rfl (lv_room (Nat.le_of_ble_eq_true rfl)) dX7_readsFighter_21 ⟨Nat.le_of_ble_eq_true rfl, Nat.le_of_ble_eq_true rfl⟩) hS (fun q _ h => hFc q h) hFc (fun v u t H locs ht hvm hw hB hz1 hk1 hS => ?_)
  obtain ⟨rfl, rfl⟩ := hw
  obtain ⟨hP1, hD1⟩ := hB
  rw [ht] at hP1
  have hP := hP1
  have hD := hD1.weaken (fun _ q _ h => hFc q.1 h)
  obtain ⟨q4, hq4, hf⟩ := bd_x hf
  have hFc := freeS hD hS hA
  refine va_calli (va_runV (As := [.int q3.1]) (rest := []) ⟨hx, hb, hml, hown, hG⟩ (c_X7_semicolon l D cI cZ a q3.2 q3.1 H.size hq4) (cwV 1 hG (gV g_631 g_632 g_38 g_77 g_633) rfl rfl rfl (by decide +kernel) ⟨Nat.le_of_ble_eq_true rfl, Nat.le_of_ble_eq_true rfl⟩) ⟨pre_blind, va_recv hK hP (ci := 7) (q0 := 0) rfl rfl, fun U hU hW => ⟨rfl, pre_of hP hK hD hnw hU hW⟩⟩ rfl rfl hl.1 rfl (lv_room (Nat.le_of_ble_eq_true rfl)) dX7_readsFighter_24 ⟨Nat.le_of_ble_eq_true rfl, Nat.le_of_ble_eq_true rfl⟩) hS (fun q _ h => hFc q h) hFc (fun v u t H locs ht hvm hw hB hz1 hk1 hS => ?_)
  obtain ⟨rfl, rfl⟩ := hw
  obtain ⟨hP1, hD1⟩ := hB
  rw [ht] at hP1
  have hP := hP1
  have hD := hD1.weaken (fun _ q _ h => hFc q.1 h)
  refine lv_topi (fun v5 ev5 => ?_)
  have hf := nm_x ev5 hf
  refine lv_istore_n (lv' := [(1, .int v5), (0, .ref (a 0))]) hx hb dX7_readsFighter_27 rfl hl (by decide) rfl (fun ls hl => ?_)
  refine lv_iconst (v := (0 : Int32)) hx hb dX7_readsFighter_28 (by decide) ?_
  refine lv_istore_n (lv' := [(2, .int (0 : Int32)), (1, .int v5), (0, .ref (a 0))]) hx hb dX7_readsFighter_29 rfl hl (by decide) rfl (fun ls hl => ?_)
  have L30 : ∀ (n : Nat) (v6 : Int32) (X7 : HC) (H : Heap) (locs : List Loc) (ls : Array Slot), va_P D vwCl (kM cI cZ a X7) H → va_D A (kM cI cZ a X7) → va_S A s.heap H locs → lv_has ls 3 [(0, .ref (a 0)), (1, .int v5), (2, .int v6)] → lp (fun _ _ => none : Int32 → HC → Option (Int32 × HC)) (f_X7_readsFighter_b30 v5) n v6 X7 = some r → W p l e RM_X7_readsFighter s m (([.ref (a 0)] : List Value).toArray) below meth c H locs 0 0 (MQ below (QI D A (fun (u : HC) => (kM cI cZ a u)) r) (([.ref (a 0)] : List Value).toArray) s 0 0 A) (F0 m 30 ls []) := by
    intro n
    induction n with
    | zero => intro v6 X7 H locs ls _ _ _ _ hf; cases (show (none : Option (Int32 × HC)) = some r from hf)
    | succ n ih30 =>
      intro v6 X7 H locs ls hP hD hS hl hf
      have hf : (f_X7_readsFighter_b30 v5) (lp (fun _ _ => none : Int32 → HC → Option (Int32 × HC)) (f_X7_readsFighter_b30 v5) n) v6 X7 = some r := hf
      generalize lp (fun _ _ => none : Int32 → HC → Option (Int32 × HC)) (f_X7_readsFighter_b30 v5) n = rc30 at ih30 hf
      unfold f_X7_readsFighter_b30 at hf
      refine lv_iload_n hx hb dX7_readsFighter_30 rfl (lv_at hl 2 rfl) ?_
      refine lv_iconst (v := (3 : Int32)) hx hb dX7_readsFighter_31 (by decide) ?_
      have J64 : ∀  (H : Heap) (locs : List Loc) (ls : Array Slot), va_P D vwCl (kM cI cZ a X7) H → va_D A (kM cI cZ a X7) → va_S A s.heap H locs → lv_has ls 3 [(0, .ref (a 0)), (1, .int v5)] → f_X7_readsFighter_j64 v5 X7  = some r → W p l e RM_X7_readsFighter s m (([.ref (a 0)] : List Value).toArray) below meth c H locs 0 0 (MQ below (QI D A (fun (u : HC) => (kM cI cZ a u)) r) (([.ref (a 0)] : List Value).toArray) s 0 0 A) (F0 m 64 ls []) := by
        intro  H locs ls hP hD hS hl hf
        unfold f_X7_readsFighter_j64 at hf
        refine lv_aload_n hx hb dX7_readsFighter_64 rfl (lv_at hl 0 rfl) ?_
        refine lv_dup hx hb dX7_readsFighter_65 rfl ?_
        refine va_get (D := D) (ci := 7) (v := .int (X7 0 20)) (C := RX7) (T := TX7) (N := 32) hx hb hG inG7 hown hK hP 0 at_M_0_0 rfl 20 (by decide) (hG _ g_584) (fun _ h9 => h9) rfl dX7_readsFighter_66 ?_
        refine lv_iload_n hx hb dX7_readsFighter_69 rfl (lv_at hl 1 rfl) ?_
        have J78 : ∀ (v8 : Int32) (H : Heap) (locs : List Loc) (ls : Array Slot), va_P D vwCl (kM cI cZ a X7) H → va_D A (kM cI cZ a X7) → va_S A s.heap H locs → lv_has ls 3 [(1, .int v5)] → f_X7_readsFighter_j78 v5 X7 v8 = some r → W p l e RM_X7_readsFighter s m (([.ref (a 0)] : List Value).toArray) below meth c H locs 0 0 (MQ below (QI D A (fun (u : HC) => (kM cI cZ a u)) r) (([.ref (a 0)] : List Value).toArray) s 0 0 A) (F0 m 78 ls [.int v8, .int (X7 0 20), .ref (a 0)]) := by
          intro v8 H locs ls hP hD hS hl hf
          unfold f_X7_readsFighter_j78 at hf
          refine lv_iadd hx hb dX7_readsFighter_78 ?_
          refine va_put (D := D) (ci := 7) (v := .int ((X7 0 20) + v8)) (ty := .int) (C := RX7) (T := TX7) (N := 32) hx hb hG inG7 tyX7 tyX7_ok nmX7 hown hK hP hD hS 0 at_M_0_0 rfl 20 (by decide) (hG _ g_584) (fun _ h9 => h9) rfl (by decide +kernel) rfl rfl (Nat.le_of_ble_eq_true rfl) dX7_readsFighter_79 (fun H locs hP hD hS => ?_)
          obtain ⟨X9, eX9⟩ : ∃ y : HC, y = (sf X7 20 ((X7 0 20) + v8)) := ⟨_, rfl⟩
          have hf := nm_x eX9 hf
          have hP := wP (sf_M_0_20.trans (congrArg (fun z : HC => (kM cI cZ a z)) eX9.symm)) hP
          have hD := wD (sf_M_0_20.trans (congrArg (fun z : HC => (kM cI cZ a z)) eX9.symm)) hD
          refine lv_iload_n hx hb dX7_readsFighter_82 rfl (lv_at hl 0 rfl) ?_
          exact W.iret (v := v5) hx hb hr (fun t ht hW => ⟨⟨v5, X9, rfl, ⟨pr_1 hf, pr_2 hf⟩, by rw [ht]; exact hP, hD⟩, hS.F ht⟩) hS.2.2 dX7_readsFighter_83
        refine lv_if_ne (tgt := 77) hx hb dX7_readsFighter_70 (by decide) (fun cc70 => ?_) (fun cc70 => ?_)
        · have hf := if_f cc70 hf
          refine lv_iconst (v := (0 : Int32)) hx hb dX7_readsFighter_77 (by decide) ?_
          exact J78 (0 : Int32) _ _ _ hP hD hS (lv_sub hl [1] rfl) hf
        · have hf := if_t cc70 hf
          refine lv_iconst (v := (1 : Int32)) hx hb dX7_readsFighter_73 (by decide) ?_
          refine lv_goto (tgt := 78) hx hb dX7_readsFighter_74 (by decide) ?_
          exact J78 (1 : Int32) _ _ _ hP hD hS (lv_sub hl [1] rfl) hf
      refine lv_icmp_ge (tgt := 64) hx hb dX7_readsFighter_32 (by decide) (fun cc32 => ?_) (fun cc32 => ?_)
      · have hf := if_t cc32 hf
        exact J64  _ _ _ hP hD hS (lv_sub hl [0, 1] rfl) hf
      · have hf := if_f cc32 hf
        refine lv_iload_n hx hb dX7_readsFighter_35 rfl (lv_at hl 1 rfl) ?_
        refine lv_if_ne (tgt := 64) hx hb dX7_readsFighter_36 (by decide) (fun cc36 => ?_) (fun cc36 => ?_)
        · have hf := if_f cc36 hf
          exact J64  _ _ _ hP hD hS (lv_sub hl [0, 1] rfl) hf
        · have hf := if_t cc36 hf
          refine lv_aload_n hx hb dX7_readsFighter_39 rfl (lv_at hl 0 rfl) ?_
          refine va_get (D := D) (ci := 7) (v := .ref (a 10)) (C := RX7) (T := TX7) (N := 32) hx hb hG inG7 hown hK hP 0 at_M_0_0 rfl 21 (by decide) (hG _ g_585) (fun _ h9 => h9) rfl dX7_readsFighter_40 ?_
          refine lv_iconst (v := (3 : Int32)) hx hb dX7_readsFighter_43 (by decide) ?_
          refine lv_aload_n hx hb dX7_readsFighter_44 rfl (lv_at hl 0 rfl) ?_
          refine va_get (D := D) (ci := 7) (v := .int (X7 0 20)) (C := RX7) (T := TX7) (N := 32) hx hb hG inG7 hown hK hP 0 at_M_0_0 rfl 20 (by decide) (hG _ g_584) (fun _ h9 => h9) rfl dX7_readsFighter_45 ?_
          refine lv_imul hx hb dX7_readsFighter_48 ?_
          refine lv_iload_n hx hb dX7_readsFighter_49 rfl (lv_at hl 2 rfl) ?_
          refine lv_iadd hx hb dX7_readsFighter_50 ?_
          refine lv_aload_n hx hb dX7_readsFighter_51 rfl (lv_at hl 0 rfl) ?_
          refine va_get (D := D) (ci := 7) (v := .ref (a 15)) (C := RX7) (T := TX7) (N := 32) hx hb hG inG7 hown hK hP 0 at_M_0_0 rfl 29 (by decide) (hG _ g_593) (fun _ h9 => h9) rfl dX7_readsFighter_52 ?_
          refine lv_iload_n hx hb dX7_readsFighter_55 rfl (lv_at hl 2 rfl) ?_
          obtain ⟨hb56, hf⟩ := gd hf
          refine va_iald (cA := cI) (n := 4) (f := X7 15) hx hb hK hP 15 0 at_M_0_15 rfl (inb_in hb56) dX7_readsFighter_56 ?_
          obtain ⟨hb57, hf⟩ := gd hf
          refine va_iast (cA := cI) (n := 15) (f := X7 10) hx hb hK hP hD hS 10 0 at_M_0_10 rfl (inb_in hb57) dX7_readsFighter_57 (fun H locs hP hD hS => ?_)
          obtain ⟨X10, eX10⟩ : ∃ y : HC, y = (sa X7 10 (((3 : Int32) * (X7 0 20)) + v6) (X7 15 (Int32.toNatClampNeg v6))) := ⟨_, rfl⟩
          have hf := nm_x eX10 hf
          have hP := wP (sa_M_0_10.trans (congrArg (fun z : HC => (kM cI cZ a z)) eX10.symm)) hP
          have hD := wD (sa_M_0_10.trans (congrArg (fun z : HC => (kM cI cZ a z)) eX10.symm)) hD
          obtain ⟨v11, ev11⟩ : ∃ y : Int32, y = (v6 + (1 : Int32)) := ⟨_, rfl⟩
          have hf := nm_x ev11 hf
          refine lv_iinc (v := v11) (lv' := [(2, .int v11), (0, .ref (a 0)), (1, .int v5)]) hx hb dX7_readsFighter_58 hl (k := 2) rfl (by rw [ev11]; rfl) (by decide) rfl (fun ls hl => ?_)
          refine lv_goto (tgt := 30) hx hb dX7_readsFighter_61 (by decide) ?_
          exact ih30 v11 X10 _ _ _ hP hD hS (lv_sub hl [1, 2, 0] rfl) hf
  exact L30 FU (0 : Int32) q4.2 _ _ _ hP hD hS (lv_sub hl [2, 1, 0] rfl) hf
def f_X7_readsChat_j69 (q2 : Int32 × HC) (v4 : Int32) : Option (Int32 × HC) := bd (f_X7_semicolon q2.2 v4) (fun (q5 : Int32 × HC) => nm q5.1 (fun (v6 : Int32) => (if v6 = 0 then (if inb (0 : Int32) 4 then (if inb (q5.2 15 (Int32.toNatClampNeg (0 : Int32))) 6 then (if inb (1 : Int32) 4 then (if inb (q5.2 15 (Int32.toNatClampNeg (0 : Int32))) 6 then nm (sa q5.2 11 (q5.2 15 (Int32.toNatClampNeg (0 : Int32))) ((q5.2 11 (Int32.toNatClampNeg (q5.2 15 (Int32.toNatClampNeg (0 : Int32))))) ||| ((1 : Int32) <<< ((q5.2 15 (Int32.toNatClampNeg (1 : Int32))) &&& 31)))) (fun (X7 : HC) => (if inb (1 : Int32) 4 then (if inb (X7 15 (Int32.toNatClampNeg (1 : Int32))) 6 then (if inb (0 : Int32) 4 then (if inb (X7 15 (Int32.toNatClampNeg (1 : Int32))) 6 then nm (sa X7 11 (X7 15 (Int32.toNatClampNeg (1 : Int32))) ((X7 11 (Int32.toNatClampNeg (X7 15 (Int32.toNatClampNeg (1 : Int32))))) ||| ((1 : Int32) <<< ((X7 15 (Int32.toNatClampNeg (0 : Int32))) &&& 31)))) (fun (X8 : HC) => nm (sf X8 22 ((X8 0 22) + (1 : Int32))) (fun (X9 : HC) => some (v6, X9))) else none) else none) else none) else none)) else none) else none) else none) else none) else some (v6, q5.2))))
def f_X7_readsChat_j67 (q2 : Int32 × HC)  : Option (Int32 × HC) := f_X7_readsChat_j69 q2 (4 : Int32)
def f_X7_readsChat (x : HC) : Option (Int32 × HC) := bd (f_X7_number x (0 : Int32) (0 : Int32) ((x 0 19) - (1 : Int32))) (fun (q1 : Int32 × HC) => bd (f_X7_numberOr q1.2 q1.1 (1 : Int32) (0 : Int32) ((q1.2 0 19) - (1 : Int32))) (fun (q2 : Int32 × HC) => nm q2.1 (fun (v3 : Int32) => (if v3 = 0 then (if inb (0 : Int32) 4 then (if inb (1 : Int32) 4 then (if (q2.2 15 (Int32.toNatClampNeg (0 : Int32))) = (q2.2 15 (Int32.toNatClampNeg (1 : Int32))) then f_X7_readsChat_j67 q2 else (if inb (0 : Int32) 4 then (if inb (q2.2 15 (Int32.toNatClampNeg (0 : Int32))) 6 then (if inb (1 : Int32) 4 then bd (f_X7_has (q2.2 11 (Int32.toNatClampNeg (q2.2 15 (Int32.toNatClampNeg (0 : Int32))))) (q2.2 15 (Int32.toNatClampNeg (1 : Int32)))) (fun (q10 : Int32) => (if q10 = 0 then f_X7_readsChat_j69 q2 v3 else f_X7_readsChat_j67 q2)) else none) else none) else none)) else none) else none) else f_X7_readsChat_j69 q2 v3))))
abbrev RM_X7_readsChat : Room := { frames := 4, cells := 0, slots := 0, locals := 93 }
set_option maxHeartbeats 4000000 in
set_option maxRecDepth 100000 in
theorem c_X7_readsChat (l : Launch) (D : va_G) (cI cZ : ClassId) (a : Nat → Nat) (x : HC) (sz : Nat) {r : Int32 × HC} (hf : f_X7_readsChat x = some r) : Met l yX7_readsChat (wM yX7_readsChat cX7_readsChat 2 (some .int)) RM_X7_readsChat (va_Pc [.ref (a 0)] (pre D cI cZ (kM cI cZ a x) sz)) (QI D (va_A (kM cI cZ a x) sz) (fun (u : HC) => (kM cI cZ a u)) r) 0 0 (va_A (kM cI cZ a x) sz) := by
  unfold f_X7_readsChat at hf
  refine Met.ofW (cc := cX7_readsChat) (maxL := 2) (ret := (some .int)) (by decide) rfl ?_
  intro p e s m args below meth c s₁ B hml hv
  obtain ⟨rfl, hsz, hP, hK, hD0, hnw⟩ := hv
  have hx := B.exec
  have hb := B.bytes
  have hr := B.returns
  have hts := atoms_spec (ws := wM yX7_readsChat cX7_readsChat 2 (some .int)) B.pre
  have hG : ∀ w ∈ GW, w.before (([.ref (a 0)] : List Value).toArray) s = true := fun w h => hts w (List.mem_cons_of_mem _ h)
  have hown : s.vm.findClass RX7 = some m.cls := findClass_of_methodNamed B.named
  have hlocks := B.notSynchronized
  subst hsz
  have hD := hD0.self (sz := s.heap.size)
  generalize hAe : va_A (kM cI cZ a x) s.heap.size = A at hD ⊢
  have hA : ∀ q : Nat, s.heap.size ≤ q → A q := fun q h => by rw [← hAe]; exact Or.inr h
  have hS : va_S A s.heap s.heap [] := va_S.rf
  have hl := lv_entry ([.ref (a 0)]) (n := 2) (Nat.le_of_ble_eq_true rfl)
  rw [lg_entry_eq]
  generalize (lg_sl ([.ref (a 0)]) ++ List.replicate (2 - (lg_sl ([.ref (a 0)])).length) Slot.unset).toArray = ls at hl ⊢
  have hl : lv_has ls 2 [(0, .ref (a 0))] := hl
  show W p l e RM_X7_readsChat s m (([.ref (a 0)] : List Value).toArray) below meth c s.heap [] 0 0 (MQ below (QI D A (fun (u : HC) => (kM cI cZ a u)) r) (([.ref (a 0)] : List Value).toArray) s 0 0 A) (F0 m 0 ls [])
  refine lv_aload_n hx hb dX7_readsChat_0 rfl (lv_at hl 0 rfl) ?_
  refine lv_aload_n hx hb dX7_readsChat_1 rfl (lv_at hl 0 rfl) ?_
  refine lv_iconst (v := (0 : Int32)) hx hb dX7_readsChat_2 (by decide) ?_
  refine lv_iconst (v := (0 : Int32)) hx hb dX7_readsChat_3 (by decide) ?_
  refine lv_aload_n hx hb dX7_readsChat_4 rfl (lv_at hl 0 rfl) ?_
  refine va_get (D := D) (ci := 7) (v := .int (x 0 19)) (C := RX7) (T := TX7) (N := 32) hx hb hG inG7 hown hK hP 0 at_M_0_0 rfl 19 (by decide) (hG _ g_583) (fun _ h9 => h9) rfl dX7_readsChat_5 ?_
  refine lv_iconst (v := (1 : Int32)) hx hb dX7_readsChat_8 (by decide) ?_
  refine lv_isub hx hb dX7_readsChat_9 ?_
  obtain ⟨q1, hq1, hf⟩ := bd_x hf
  have hFc := freeS hD hS hA
  refine va_calli (va_runV (As := [.int (0 : Int32), .int (0 : Int32), .int ((x 0 19) - (1 : Int32))]) (rest := [.ref (a 0)]) ⟨hx, hb, hml, hown, hG⟩ (c_X7_number l D cI cZ a x (0 : Int32) (0 : Int32) ((x 0 19) - (1 : Int32)) s.heap.size hq1) (cwV 3 hG (gV g_623 g_624 g_37 g_77 g_625) rfl rfl rfl (by decide +kernel) ⟨Nat.le_of_ble_eq_true rfl, Nat.le_of_ble_eq_true rfl⟩) ⟨pre_blind, va_recv hK hP (ci := 7) (q0 := 0) rfl rfl, fun U hU hW => ⟨rfl, pre_of hP hK hD hnw hU hW⟩⟩ rfl rfl hl.1 rfl (lv_room (Nat.le_of_ble_eq_true rfl)) dX7_readsChat_10 ⟨Nat.le_of_ble_eq_true rfl, Nat.le_of_ble_eq_true rfl⟩) hS (fun q _ h => hFc q h) hFc (fun v u t H locs ht hvm hw hB hz1 hk1 hS => ?_)
  obtain ⟨rfl, rfl⟩ := hw
  obtain ⟨hP1, hD1⟩ := hB
  rw [ht] at hP1
  have hP := hP1
  have hD := hD1.weaken (fun _ q _ h => hFc q.1 h)
  refine lv_iconst (v := (1 : Int32)) hx hb dX7_readsChat_13 (by decide) ?_
  refine lv_iconst (v := (0 : Int32)) hx hb dX7_readsChat_14 (by decide) ?_
  refine lv_aload_n hx hb dX7_readsChat_15 rfl (lv_at hl 0 rfl) ?_
  refine va_get (D := D) (ci := 7) (v := .int (q1.2 0 19)) (C := RX7) (T := TX7) (N := 32) hx hb hG inG7 hown hK hP 0 at_M_0_0 rfl 19 (by decide) (hG _ g_583) (fun _ h9 => h9) rfl dX7_readsChat_16 ?_
  refine lv_iconst (v := (1 : Int32)) hx hb dX7_readsChat_19 (by decide) ?_
  refine lv_isub hx hb dX7_readsChat_20 ?_
  obtain ⟨q2, hq2, hf⟩ := bd_x hf
  have hFc := freeS hD hS hA
  refine va_calli (va_runV (As := [.int q1.1, .int (1 : Int32), .int (0 : Int32), .int ((q1.2 0 19) - (1 : Int32))]) (rest := []) ⟨hx, hb, hml, hown, hG⟩ (c_X7_numberOr l D cI cZ a q1.2 q1.1 (1 : Int32) (0 : Int32) ((q1.2 0 19) - (1 : Int32)) H.size hq2) (cwV 4 hG (gV g_637 g_638 g_40 g_77 g_639) rfl rfl rfl (by decide +kernel) ⟨Nat.le_of_ble_eq_true rfl, Nat.le_of_ble_eq_true rfl⟩) ⟨pre_blind, va_recv hK hP (ci := 7) (q0 := 0) rfl rfl, fun U hU hW => ⟨rfl, pre_of hP hK hD hnw hU hW⟩⟩ rfl rfl hl.1 rfl (lv_room (Nat.le_of_ble_eq_true rfl)) dX7_readsChat_21 ⟨Nat.le_of_ble_eq_true rfl, Nat.le_of_ble_eq_true rfl⟩) hS (fun q _ h => hFc q h) hFc (fun v u t H locs ht hvm hw hB hz1 hk1 hS => ?_)
  obtain ⟨rfl, rfl⟩ := hw
  obtain ⟨hP1, hD1⟩ := hB
  rw [ht] at hP1
  have hP := hP1
  have hD := hD1.weaken (fun _ q _ h => hFc q.1 h)
  refine lv_topi (fun v3 ev3 => ?_)
  have hf := nm_x ev3 hf
  refine lv_istore_n (lv' := [(1, .int v3), (0, .ref (a 0))]) hx hb dX7_readsChat_24 rfl hl (by decide) rfl (fun ls hl => ?_)
  refine lv_iload_n hx hb dX7_readsChat_25 rfl (lv_at hl 0 rfl) ?_
  have J69 : ∀ (v4 : Int32) (H : Heap) (locs : List Loc) (ls : Array Slot), va_P D vwCl (kM cI cZ a q2.2) H → va_D A (kM cI cZ a q2.2) → va_S A s.heap H locs → lv_has ls 2 [(0, .ref (a 0)), (1, .int v4)] → f_X7_readsChat_j69 q2 v4 = some r → W p l e RM_X7_readsChat s m (([.ref (a 0)] : List Value).toArray) below meth c H locs 0 0 (MQ below (QI D A (fun (u : HC) => (kM cI cZ a u)) r) (([.ref (a 0)] : List Value).toArray) s 0 0 A) (F0 m 69 ls []) := by
    intro v4 H locs ls hP hD hS hl hf
    unfold f_X7_readsChat_j69 at hf
    refine lv_aload_n hx hb dX7_readsChat_69 rfl (lv_at hl 0 rfl) ?_
    refine lv_iload_n hx hb dX7_readsChat_70 rfl (lv_at hl 1 rfl) ?_
    obtain ⟨q5, hq5, hf⟩ := bd_x hf
    have hFc := freeS hD hS hA
    refine va_calli (va_runV (As := [.int v4]) (rest := []) ⟨hx, hb, hml, hown, hG⟩ (c_X7_semicolon l D cI cZ a q2.2 v4 H.size hq5) (cwV 1 hG (gV g_631 g_632 g_38 g_77 g_633) rfl rfl rfl (by decide +kernel) ⟨Nat.le_of_ble_eq_true rfl, Nat.le_of_ble_eq_true rfl⟩) ⟨pre_blind, va_recv hK hP (ci := 7) (q0 := 0) rfl rfl, fun U hU hW => ⟨rfl, pre_of hP hK hD hnw hU hW⟩⟩ rfl rfl hl.1 rfl (lv_room (Nat.le_of_ble_eq_true rfl)) dX7_readsChat_71 ⟨Nat.le_of_ble_eq_true rfl, Nat.le_of_ble_eq_true rfl⟩) hS (fun q _ h => hFc q h) hFc (fun v u t H locs ht hvm hw hB hz1 hk1 hS => ?_)
    obtain ⟨rfl, rfl⟩ := hw
    obtain ⟨hP1, hD1⟩ := hB
    rw [ht] at hP1
    have hP := hP1
    have hD := hD1.weaken (fun _ q _ h => hFc q.1 h)
    refine lv_topi (fun v6 ev6 => ?_)
    have hf := nm_x ev6 hf
    refine lv_istore_n (lv' := [(1, .int v6), (0, .ref (a 0))]) hx hb dX7_readsChat_74 rfl hl (by decide) rfl (fun ls hl => ?_)
    refine lv_iload_n hx hb dX7_readsChat_75 rfl (lv_at hl 0 rfl) ?_
    refine lv_if_ne (tgt := 133) hx hb dX7_readsChat_76 (by decide) (fun cc76 => ?_) (fun cc76 => ?_)
    · have hf := if_f cc76 hf
      refine lv_iload_n hx hb dX7_readsChat_133 rfl (lv_at hl 0 rfl) ?_
      exact W.iret (v := v6) hx hb hr (fun t ht hW => ⟨⟨v6, q5.2, rfl, ⟨pr_1 hf, pr_2 hf⟩, by rw [ht]; exact hP, hD⟩, hS.F ht⟩) hS.2.2 dX7_readsChat_134
    · have hf := if_t cc76 hf
      refine lv_aload_n hx hb dX7_readsChat_79 rfl (lv_at hl 1 rfl) ?_
      refine va_get (D := D) (ci := 7) (v := .ref (a 11)) (C := RX7) (T := TX7) (N := 32) hx hb hG inG7 hown hK hP 0 at_M_0_0 rfl 23 (by decide) (hG _ g_587) (fun _ h9 => h9) rfl dX7_readsChat_80 ?_
      refine lv_aload_n hx hb dX7_readsChat_83 rfl (lv_at hl 1 rfl) ?_
      refine va_get (D := D) (ci := 7) (v := .ref (a 15)) (C := RX7) (T := TX7) (N := 32) hx hb hG inG7 hown hK hP 0 at_M_0_0 rfl 29 (by decide) (hG _ g_593) (fun _ h9 => h9) rfl dX7_readsChat_84 ?_
      refine lv_iconst (v := (0 : Int32)) hx hb dX7_readsChat_87 (by decide) ?_
      obtain ⟨hb88, hf⟩ := gd hf
      refine va_iald (cA := cI) (n := 4) (f := q5.2 15) hx hb hK hP 15 0 at_M_0_15 rfl (inb_in hb88) dX7_readsChat_88 ?_
      refine lv_dup2_11 hx hb dX7_readsChat_89 rfl rfl ?_
      obtain ⟨hb90, hf⟩ := gd hf
      refine va_iald (cA := cI) (n := 6) (f := q5.2 11) hx hb hK hP 11 0 at_M_0_11 rfl (inb_in hb90) dX7_readsChat_90 ?_
      refine lv_iconst (v := (1 : Int32)) hx hb dX7_readsChat_91 (by decide) ?_
      refine lv_aload_n hx hb dX7_readsChat_92 rfl (lv_at hl 1 rfl) ?_
      refine va_get (D := D) (ci := 7) (v := .ref (a 15)) (C := RX7) (T := TX7) (N := 32) hx hb hG inG7 hown hK hP 0 at_M_0_0 rfl 29 (by decide) (hG _ g_593) (fun _ h9 => h9) rfl dX7_readsChat_93 ?_
      refine lv_iconst (v := (1 : Int32)) hx hb dX7_readsChat_96 (by decide) ?_
      obtain ⟨hb97, hf⟩ := gd hf
      refine va_iald (cA := cI) (n := 4) (f := q5.2 15) hx hb hK hP 15 0 at_M_0_15 rfl (inb_in hb97) dX7_readsChat_97 ?_
      refine lv_ishl hx hb dX7_readsChat_98 ?_
      refine lv_ior hx hb dX7_readsChat_99 ?_
      obtain ⟨hb100, hf⟩ := gd hf
      refine va_iast (cA := cI) (n := 6) (f := q5.2 11) hx hb hK hP hD hS 11 0 at_M_0_11 rfl (inb_in hb100) dX7_readsChat_100 (fun H locs hP hD hS => ?_)
      obtain ⟨X7, eX7⟩ : ∃ y : HC, y = (sa q5.2 11 (q5.2 15 (Int32.toNatClampNeg (0 : Int32))) ((q5.2 11 (Int32.toNatClampNeg (q5.2 15 (Int32.toNatClampNeg (0 : Int32))))) ||| ((1 : Int32) <<< ((q5.2 15 (Int32.toNatClampNeg (1 : Int32))) &&& 31)))) := ⟨_, rfl⟩
      have hf := nm_x eX7 hf
      have hP := wP (sa_M_0_11.trans (congrArg (fun z : HC => (kM cI cZ a z)) eX7.symm)) hP
      have hD := wD (sa_M_0_11.trans (congrArg (fun z : HC => (kM cI cZ a z)) eX7.symm)) hD
      refine lv_aload_n hx hb dX7_readsChat_101 rfl (lv_at hl 1 rfl) ?_
      refine va_get (D := D) (ci := 7) (v := .ref (a 11)) (C := RX7) (T := TX7) (N := 32) hx hb hG inG7 hown hK hP 0 at_M_0_0 rfl 23 (by decide) (hG _ g_587) (fun _ h9 => h9) rfl dX7_readsChat_102 ?_
      refine lv_aload_n hx hb dX7_readsChat_105 rfl (lv_at hl 1 rfl) ?_
      refine va_get (D := D) (ci := 7) (v := .ref (a 15)) (C := RX7) (T := TX7) (N := 32) hx hb hG inG7 hown hK hP 0 at_M_0_0 rfl 29 (by decide) (hG _ g_593) (fun _ h9 => h9) rfl dX7_readsChat_106 ?_
      refine lv_iconst (v := (1 : Int32)) hx hb dX7_readsChat_109 (by decide) ?_
      obtain ⟨hb110, hf⟩ := gd hf
      refine va_iald (cA := cI) (n := 4) (f := X7 15) hx hb hK hP 15 0 at_M_0_15 rfl (inb_in hb110) dX7_readsChat_110 ?_
      refine lv_dup2_11 hx hb dX7_readsChat_111 rfl rfl ?_
      obtain ⟨hb112, hf⟩ := gd hf
      refine va_iald (cA := cI) (n := 6) (f := X7 11) hx hb hK hP 11 0 at_M_0_11 rfl (inb_in hb112) dX7_readsChat_112 ?_
      refine lv_iconst (v := (1 : Int32)) hx hb dX7_readsChat_113 (by decide) ?_
      refine lv_aload_n hx hb dX7_readsChat_114 rfl (lv_at hl 1 rfl) ?_
      refine va_get (D := D) (ci := 7) (v := .ref (a 15)) (C := RX7) (T := TX7) (N := 32) hx hb hG inG7 hown hK hP 0 at_M_0_0 rfl 29 (by decide) (hG _ g_593) (fun _ h9 => h9) rfl dX7_readsChat_115 ?_
      refine lv_iconst (v := (0 : Int32)) hx hb dX7_readsChat_118 (by decide) ?_
      obtain ⟨hb119, hf⟩ := gd hf
      refine va_iald (cA := cI) (n := 4) (f := X7 15) hx hb hK hP 15 0 at_M_0_15 rfl (inb_in hb119) dX7_readsChat_119 ?_
      refine lv_ishl hx hb dX7_readsChat_120 ?_
      refine lv_ior hx hb dX7_readsChat_121 ?_
      obtain ⟨hb122, hf⟩ := gd hf
      refine va_iast (cA := cI) (n := 6) (f := X7 11) hx hb hK hP hD hS 11 0 at_M_0_11 rfl (inb_in hb122) dX7_readsChat_122 (fun H locs hP hD hS => ?_)
      obtain ⟨X8, eX8⟩ : ∃ y : HC, y = (sa X7 11 (X7 15 (Int32.toNatClampNeg (1 : Int32))) ((X7 11 (Int32.toNatClampNeg (X7 15 (Int32.toNatClampNeg (1 : Int32))))) ||| ((1 : Int32) <<< ((X7 15 (Int32.toNatClampNeg (0 : Int32))) &&& 31)))) := ⟨_, rfl⟩
      have hf := nm_x eX8 hf
      have hP := wP (sa_M_0_11.trans (congrArg (fun z : HC => (kM cI cZ a z)) eX8.symm)) hP
      have hD := wD (sa_M_0_11.trans (congrArg (fun z : HC => (kM cI cZ a z)) eX8.symm)) hD
      refine lv_aload_n hx hb dX7_readsChat_123 rfl (lv_at hl 1 rfl) ?_
      refine lv_dup hx hb dX7_readsChat_124 rfl ?_
      refine va_get (D := D) (ci := 7) (v := .int (X8 0 22)) (C := RX7) (T := TX7) (N := 32) hx hb hG inG7 hown hK hP 0 at_M_0_0 rfl 22 (by decide) (hG _ g_586) (fun _ h9 => h9) rfl dX7_readsChat_125 ?_
      refine lv_iconst (v := (1 : Int32)) hx hb dX7_readsChat_128 (by decide) ?_
      refine lv_iadd hx hb dX7_readsChat_129 ?_
      refine va_put (D := D) (ci := 7) (v := .int ((X8 0 22) + (1 : Int32))) (ty := .int) (C := RX7) (T := TX7) (N := 32) hx hb hG inG7 tyX7 tyX7_ok nmX7 hown hK hP hD hS 0 at_M_0_0 rfl 22 (by decide) (hG _ g_586) (fun _ h9 => h9) rfl (by decide +kernel) rfl rfl (Nat.le_of_ble_eq_true rfl) dX7_readsChat_130 (fun H locs hP hD hS => ?_)
      obtain ⟨X9, eX9⟩ : ∃ y : HC, y = (sf X8 22 ((X8 0 22) + (1 : Int32))) := ⟨_, rfl⟩
      have hf := nm_x eX9 hf
      have hP := wP (sf_M_0_22.trans (congrArg (fun z : HC => (kM cI cZ a z)) eX9.symm)) hP
      have hD := wD (sf_M_0_22.trans (congrArg (fun z : HC => (kM cI cZ a z)) eX9.symm)) hD
      refine lv_iload_n hx hb dX7_readsChat_133 rfl (lv_at hl 0 rfl) ?_
      exact W.iret (v := v6) hx hb hr (fun t ht hW => ⟨⟨v6, X9, rfl, ⟨pr_1 hf, pr_2 hf⟩, by rw [ht]; exact hP, hD⟩, hS.F ht⟩) hS.2.2 dX7_readsChat_134
  refine lv_if_ne (tgt := 69) hx hb dX7_readsChat_26 (by decide) (fun cc26 => ?_) (fun cc26 => ?_)
  · have hf := if_f cc26 hf
    exact J69 v3 _ _ _ hP hD hS (lv_sub hl [1, 0] rfl) hf
  · have hf := if_t cc26 hf
    refine lv_aload_n hx hb dX7_readsChat_29 rfl (lv_at hl 1 rfl) ?_
    refine va_get (D := D) (ci := 7) (v := .ref (a 15)) (C := RX7) (T := TX7) (N := 32) hx hb hG inG7 hown hK hP 0 at_M_0_0 rfl 29 (by decide) (hG _ g_593) (fun _ h9 => h9) rfl dX7_readsChat_30 ?_
    refine lv_iconst (v := (0 : Int32)) hx hb dX7_readsChat_33 (by decide) ?_
    obtain ⟨hb34, hf⟩ := gd hf
    refine va_iald (cA := cI) (n := 4) (f := q2.2 15) hx hb hK hP 15 0 at_M_0_15 rfl (inb_in hb34) dX7_readsChat_34 ?_
    refine lv_aload_n hx hb dX7_readsChat_35 rfl (lv_at hl 1 rfl) ?_
    refine va_get (D := D) (ci := 7) (v := .ref (a 15)) (C := RX7) (T := TX7) (N := 32) hx hb hG inG7 hown hK hP 0 at_M_0_0 rfl 29 (by decide) (hG _ g_593) (fun _ h9 => h9) rfl dX7_readsChat_36 ?_
    refine lv_iconst (v := (1 : Int32)) hx hb dX7_readsChat_39 (by decide) ?_
    obtain ⟨hb40, hf⟩ := gd hf
    refine va_iald (cA := cI) (n := 4) (f := q2.2 15) hx hb hK hP 15 0 at_M_0_15 rfl (inb_in hb40) dX7_readsChat_40 ?_
    have J67 : ∀  (H : Heap) (locs : List Loc) (ls : Array Slot), va_P D vwCl (kM cI cZ a q2.2) H → va_D A (kM cI cZ a q2.2) → va_S A s.heap H locs → lv_has ls 2 [(0, .ref (a 0))] → f_X7_readsChat_j67 q2  = some r → W p l e RM_X7_readsChat s m (([.ref (a 0)] : List Value).toArray) below meth c H locs 0 0 (MQ below (QI D A (fun (u : HC) => (kM cI cZ a u)) r) (([.ref (a 0)] : List Value).toArray) s 0 0 A) (F0 m 67 ls []) := by
      intro  H locs ls hP hD hS hl hf
      unfold f_X7_readsChat_j67 at hf
      refine lv_iconst (v := (4 : Int32)) hx hb dX7_readsChat_67 (by decide) ?_
      refine lv_istore_n (lv' := [(1, .int (4 : Int32)), (0, .ref (a 0))]) hx hb dX7_readsChat_68 rfl hl (by decide) rfl (fun ls hl => ?_)
      exact J69 (4 : Int32) _ _ _ hP hD hS (lv_sub hl [1, 0] rfl) hf
    refine lv_icmp_eq (tgt := 67) hx hb dX7_readsChat_41 (by decide) (fun cc41 => ?_) (fun cc41 => ?_)
    · have hf := if_t cc41 hf
      exact J67  _ _ _ hP hD hS (lv_sub hl [1] rfl) hf
    · have hf := if_f cc41 hf
      refine lv_aload_n hx hb dX7_readsChat_44 rfl (lv_at hl 1 rfl) ?_
      refine va_get (D := D) (ci := 7) (v := .ref (a 11)) (C := RX7) (T := TX7) (N := 32) hx hb hG inG7 hown hK hP 0 at_M_0_0 rfl 23 (by decide) (hG _ g_587) (fun _ h9 => h9) rfl dX7_readsChat_45 ?_
      refine lv_aload_n hx hb dX7_readsChat_48 rfl (lv_at hl 1 rfl) ?_
      refine va_get (D := D) (ci := 7) (v := .ref (a 15)) (C := RX7) (T := TX7) (N := 32) hx hb hG inG7 hown hK hP 0 at_M_0_0 rfl 29 (by decide) (hG _ g_593) (fun _ h9 => h9) rfl dX7_readsChat_49 ?_
      refine lv_iconst (v := (0 : Int32)) hx hb dX7_readsChat_52 (by decide) ?_
      obtain ⟨hb53, hf⟩ := gd hf
      refine va_iald (cA := cI) (n := 4) (f := q2.2 15) hx hb hK hP 15 0 at_M_0_15 rfl (inb_in hb53) dX7_readsChat_53 ?_
      obtain ⟨hb54, hf⟩ := gd hf
      refine va_iald (cA := cI) (n := 6) (f := q2.2 11) hx hb hK hP 11 0 at_M_0_11 rfl (inb_in hb54) dX7_readsChat_54 ?_
      refine lv_aload_n hx hb dX7_readsChat_55 rfl (lv_at hl 1 rfl) ?_
      refine va_get (D := D) (ci := 7) (v := .ref (a 15)) (C := RX7) (T := TX7) (N := 32) hx hb hG inG7 hown hK hP 0 at_M_0_0 rfl 29 (by decide) (hG _ g_593) (fun _ h9 => h9) rfl dX7_readsChat_56 ?_
      refine lv_iconst (v := (1 : Int32)) hx hb dX7_readsChat_59 (by decide) ?_
      obtain ⟨hb60, hf⟩ := gd hf
      refine va_iald (cA := cI) (n := 4) (f := q2.2 15) hx hb hK hP 15 0 at_M_0_15 rfl (inb_in hb60) dX7_readsChat_60 ?_
      obtain ⟨q10, hq10, hf⟩ := bd_x hf
      have hFc := va_free (wc := []) hD hS hA [] rfl
      refine va_calli (va_runS (As := [.int (q2.2 11 (Int32.toNatClampNeg (q2.2 15 (Int32.toNatClampNeg (0 : Int32))))), .int (q2.2 15 (Int32.toNatClampNeg (1 : Int32)))]) (rest := []) ⟨hx, hb, hml, hown, hG⟩ (c_X7_has l D cI cZ (q2.2 11 (Int32.toNatClampNeg (q2.2 15 (Int32.toNatClampNeg (0 : Int32))))) (q2.2 15 (Int32.toNatClampNeg (1 : Int32))) H.size hq10) (cwS 2 hG (gS g_643 g_644 g_77 g_645) rfl rfl rfl (by decide +kernel) ⟨Nat.le_of_ble_eq_true rfl, Nat.le_of_ble_eq_true rfl⟩) ⟨pre_blind, fun U hU hW => ⟨rfl, pre_of P_nil hK D_nil hnw hU hW⟩⟩ rfl rfl hl.1 rfl (lv_room (Nat.le_of_ble_eq_true rfl)) dX7_readsChat_61 ⟨Nat.le_of_ble_eq_true rfl, Nat.le_of_ble_eq_true rfl⟩) hS (fun q _ h => hFc q h) hFc (fun v u t H locs ht hvm hw hB hz1 hk1 hS => ?_)
      have hw := hw.symm; subst hw
      obtain ⟨hP1, hD1⟩ := hB
      rw [ht] at hP1
      obtain ⟨hP, hD⟩ := back hP hD [] rfl rfl hk1 hFc hP1 hD1
      refine lv_if_eq (tgt := 69) hx hb dX7_readsChat_64 (by decide) (fun cc64 => ?_) (fun cc64 => ?_)
      · have hf := if_t cc64 hf
        exact J69 v3 _ _ _ hP hD hS (lv_sub hl [1, 0] rfl) hf
      · have hf := if_f cc64 hf
        exact J67  _ _ _ hP hD hS (lv_sub hl [1] rfl) hf
def f_X7_readsTask_j93 (v7 : Int32) (X9 : HC) (v10 : Int32) : Option (Int32 × HC) := nm (sf X9 24 ((X9 0 24) + v10)) (fun (X11 : HC) => some (v7, X11))
def f_X7_readsTask_j79 (v7 : Int32) (X9 : HC)  : Option (Int32 × HC) := (if v7 = 0 then f_X7_readsTask_j93 v7 X9 (1 : Int32) else f_X7_readsTask_j93 v7 X9 (0 : Int32))
def f_X7_readsTask_b45 (v7 : Int32) (rc45 : Int32 → HC → Option (Int32 × HC)) (v8 : Int32) (X9 : HC) : Option (Int32 × HC) := (if (4 : Int32) ≤ v8 then f_X7_readsTask_j79 v7 X9 else (if v7 = 0 then (if inb v8 4 then (if inb (((4 : Int32) * (X9 0 24)) + v8) 24 then nm (sa X9 12 (((4 : Int32) * (X9 0 24)) + v8) (X9 15 (Int32.toNatClampNeg v8))) (fun (X12 : HC) => nm (v8 + (1 : Int32)) (fun (v13 : Int32) => rc45 v13 X12)) else none) else none) else f_X7_readsTask_j79 v7 X9))
def f_X7_readsTask (x : HC) : Option (Int32 × HC) := bd (f_X7_number x (0 : Int32) (0 : Int32) ((x 0 19) - (1 : Int32))) (fun (q1 : Int32 × HC) => bd (f_X7_numberOr q1.2 q1.1 (1 : Int32) (0 : Int32) (99 : Int32)) (fun (q2 : Int32 × HC) => bd (f_X7_numberOr q2.2 q2.1 (2 : Int32) (0 : Int32) (99 : Int32)) (fun (q3 : Int32 × HC) => nm q3.1 (fun (v4 : Int32) => bd (f_X7_numberOr q3.2 v4 (3 : Int32) (0 : Int32) (20 : Int32)) (fun (q5 : Int32 × HC) => bd (f_X7_semicolon q5.2 q5.1) (fun (q6 : Int32 × HC) => nm q6.1 (fun (v7 : Int32) => lp (fun _ _ => none : Int32 → HC → Option (Int32 × HC)) (f_X7_readsTask_b45 v7) FU (0 : Int32) q6.2)))))))
abbrev RM_X7_readsTask : Room := { frames := 4, cells := 0, slots := 0, locals := 93 }
set_option maxHeartbeats 4000000 in
set_option maxRecDepth 100000 in
theorem c_X7_readsTask (l : Launch) (D : va_G) (cI cZ : ClassId) (a : Nat → Nat) (x : HC) (sz : Nat) {r : Int32 × HC} (hf : f_X7_readsTask x = some r) : Met l yX7_readsTask (wM yX7_readsTask cX7_readsTask 3 (some .int)) RM_X7_readsTask (va_Pc [.ref (a 0)] (pre D cI cZ (kM cI cZ a x) sz)) (QI D (va_A (kM cI cZ a x) sz) (fun (u : HC) => (kM cI cZ a u)) r) 0 0 (va_A (kM cI cZ a x) sz) := by
  unfold f_X7_readsTask at hf
  refine Met.ofW (cc := cX7_readsTask) (maxL := 3) (ret := (some .int)) (by decide) rfl ?_
  intro p e s m args below meth c s₁ B hml hv
  obtain ⟨rfl, hsz, hP, hK, hD0, hnw⟩ := hv
  have hx := B.exec
  have hb := B.bytes
  have hr := B.returns
  have hts := atoms_spec (ws := wM yX7_readsTask cX7_readsTask 3 (some .int)) B.pre
  have hG : ∀ w ∈ GW, w.before (([.ref (a 0)] : List Value).toArray) s = true := fun w h => hts w (List.mem_cons_of_mem _ h)
  have hown : s.vm.findClass RX7 = some m.cls := findClass_of_methodNamed B.named
  have hlocks := B.notSynchronized
  subst hsz
  have hD := hD0.self (sz := s.heap.size)
  generalize hAe : va_A (kM cI cZ a x) s.heap.size = A at hD ⊢
  have hA : ∀ q : Nat, s.heap.size ≤ q → A q := fun q h => by rw [← hAe]; exact Or.inr h
  have hS : va_S A s.heap s.heap [] := va_S.rf
  have hl := lv_entry ([.ref (a 0)]) (n := 3) (Nat.le_of_ble_eq_true rfl)
  rw [lg_entry_eq]
  generalize (lg_sl ([.ref (a 0)]) ++ List.replicate (3 - (lg_sl ([.ref (a 0)])).length) Slot.unset).toArray = ls at hl ⊢
  have hl : lv_has ls 3 [(0, .ref (a 0))] := hl
  show W p l e RM_X7_readsTask s m (([.ref (a 0)] : List Value).toArray) below meth c s.heap [] 0 0 (MQ below (QI D A (fun (u : HC) => (kM cI cZ a u)) r) (([.ref (a 0)] : List Value).toArray) s 0 0 A) (F0 m 0 ls [])
  refine lv_aload_n hx hb dX7_readsTask_0 rfl (lv_at hl 0 rfl) ?_
  refine lv_aload_n hx hb dX7_readsTask_1 rfl (lv_at hl 0 rfl) ?_
  refine lv_aload_n hx hb dX7_readsTask_2 rfl (lv_at hl 0 rfl) ?_
  refine lv_iconst (v := (0 : Int32)) hx hb dX7_readsTask_3 (by decide) ?_
  refine lv_iconst (v := (0 : Int32)) hx hb dX7_readsTask_4 (by decide) ?_
  refine lv_aload_n hx hb dX7_readsTask_5 rfl (lv_at hl 0 rfl) ?_
  refine va_get (D := D) (ci := 7) (v := .int (x 0 19)) (C := RX7) (T := TX7) (N := 32) hx hb hG inG7 hown hK hP 0 at_M_0_0 rfl 19 (by decide) (hG _ g_583) (fun _ h9 => h9) rfl dX7_readsTask_6 ?_
  refine lv_iconst (v := (1 : Int32)) hx hb dX7_readsTask_9 (by decide) ?_
  refine lv_isub hx hb dX7_readsTask_10 ?_
  obtain ⟨q1, hq1, hf⟩ := bd_x hf
  have hFc := freeS hD hS hA
  refine va_calli (va_runV (As := [.int (0 : Int32), .int (0 : Int32), .int ((x 0 19) - (1 : Int32))]) (rest := [.ref (a 0), .ref (a 0)]) ⟨hx, hb, hml, hown, hG⟩ (c_X7_number l D cI cZ a x (0 : Int32) (0 : Int32) ((x 0 19) - (1 : Int32)) s.heap.size hq1) (cwV 3 hG (gV g_623 g_624 g_37 g_77 g_625) rfl rfl rfl (by decide +kernel) ⟨Nat.le_of_ble_eq_true rfl, Nat.le_of_ble_eq_true rfl⟩) ⟨pre_blind, va_recv hK hP (ci := 7) (q0 := 0) rfl rfl, fun U hU hW => ⟨rfl, pre_of hP hK hD hnw hU hW⟩⟩ rfl rfl hl.1 rfl (lv_room (Nat.le_of_ble_eq_true rfl)) dX7_readsTask_11 ⟨Nat.le_of_ble_eq_true rfl, Nat.le_of_ble_eq_true rfl⟩) hS (fun q _ h => hFc q h) hFc (fun v u t H locs ht hvm hw hB hz1 hk1 hS => ?_)
  obtain ⟨rfl, rfl⟩ := hw
  obtain ⟨hP1, hD1⟩ := hB
  rw [ht] at hP1
  have hP := hP1
  have hD := hD1.weaken (fun _ q _ h => hFc q.1 h)
  refine lv_iconst (v := (1 : Int32)) hx hb dX7_readsTask_14 (by decide) ?_
  refine lv_iconst (v := (0 : Int32)) hx hb dX7_readsTask_15 (by decide) ?_
  refine lv_bipush (v := (99 : Int32)) hx hb dX7_readsTask_16 (by decide) ?_
  obtain ⟨q2, hq2, hf⟩ := bd_x hf
  have hFc := freeS hD hS hA
  refine va_calli (va_runV (As := [.int q1.1, .int (1 : Int32), .int (0 : Int32), .int (99 : Int32)]) (rest := [.ref (a 0)]) ⟨hx, hb, hml, hown, hG⟩ (c_X7_numberOr l D cI cZ a q1.2 q1.1 (1 : Int32) (0 : Int32) (99 : Int32) H.size hq2) (cwV 4 hG (gV g_637 g_638 g_40 g_77 g_639) rfl rfl rfl (by decide +kernel) ⟨Nat.le_of_ble_eq_true rfl, Nat.le_of_ble_eq_true rfl⟩) ⟨pre_blind, va_recv hK hP (ci := 7) (q0 := 0) rfl rfl, fun U hU hW => ⟨rfl, pre_of hP hK hD hnw hU hW⟩⟩ rfl rfl hl.1 rfl (lv_room (Nat.le_of_ble_eq_true rfl)) dX7_readsTask_18 ⟨Nat.le_of_ble_eq_true rfl, Nat.le_of_ble_eq_true rfl⟩) hS (fun q _ h => hFc q h) hFc (fun v u t H locs ht hvm hw hB hz1 hk1 hS => ?_)
  obtain ⟨rfl, rfl⟩ := hw
  obtain ⟨hP1, hD1⟩ := hB
  rw [ht] at hP1
  have hP := hP1
  have hD := hD1.weaken (fun _ q _ h => hFc q.1 h)
  refine lv_iconst (v := (2 : Int32)) hx hb dX7_readsTask_21 (by decide) ?_
  refine lv_iconst (v := (0 : Int32)) hx hb dX7_readsTask_22 (by decide) ?_
  refine lv_bipush (v := (99 : Int32)) hx hb dX7_readsTask_23 (by decide) ?_
  obtain ⟨q3, hq3, hf⟩ := bd_x hf
  have hFc := freeS hD hS hA
  refine va_calli (va_runV (As := [.int q2.1, .int (2 : Int32), .int (0 : Int32), .int (99 : Int32)]) (rest := []) ⟨hx, hb, hml, hown, hG⟩ (c_X7_numberOr l D cI cZ a q2.2 q2.1 (2 : Int32) (0 : Int32) (99 : Int32) H.size hq3) (cwV 4 hG (gV g_637 g_638 g_40 g_77 g_639) rfl rfl rfl (by decide +kernel) ⟨Nat.le_of_ble_eq_true rfl, Nat.le_of_ble_eq_true rfl⟩) ⟨pre_blind, va_recv hK hP (ci := 7) (q0 := 0) rfl rfl, fun U hU hW => ⟨rfl, pre_of hP hK hD hnw hU hW⟩⟩ rfl rfl hl.1 rfl (lv_room (Nat.le_of_ble_eq_true rfl)) dX7_readsTask_25 ⟨Nat.le_of_ble_eq_true rfl, Nat.le_of_ble_eq_true rfl⟩) hS (fun q _ h => hFc q h) hFc (fun v u t H locs ht hvm hw hB hz1 hk1 hS => ?_)
  obtain ⟨rfl, rfl⟩ := hw
  obtain ⟨hP1, hD1⟩ := hB
  rw [ht] at hP1
  have hP := hP1
  have hD := hD1.weaken (fun _ q _ h => hFc q.1 h)
  refine lv_topi (fun v4 ev4 => ?_)
  have hf := nm_x ev4 hf
  refine lv_istore_n (lv' := [(1, .int v4), (0, .ref (a 0))]) hx hb dX7_readsTask_28 rfl hl (by decide) rfl (fun ls hl => ?_)
  refine lv_aload_n hx hb dX7_readsTask_29 rfl (lv_at hl 1 rfl) ?_
  refine lv_aload_n hx hb dX7_readsTask_30 rfl (lv_at hl 1 rfl) ?_
  refine lv_iload_n hx hb dX7_readsTask_31 rfl (lv_at hl 0 rfl) ?_
  refine lv_iconst (v := (3 : Int32)) hx hb dX7_readsTask_32 (by decide) ?_
  refine lv_iconst (v := (0 : Int32)) hx hb dX7_readsTask_33 (by decide) ?_
  refine lv_bipush (v := (20 : Int32)) hx hb dX7_readsTask_34 (by decide) ?_
  obtain ⟨q5, hq5, hf⟩ := bd_x hf
  have hFc := freeS hD hS hA
  refine va_calli (va_runV (As := [.int v4, .int (3 : Int32), .int (0 : Int32), .int (20 : Int32)]) (rest := [.ref (a 0)]) ⟨hx, hb, hml, hown, hG⟩ (c_X7_numberOr l D cI cZ a q3.2 v4 (3 : Int32) (0 : Int32) (20 : Int32) H.size hq5) (cwV 4 hG (gV g_637 g_638 g_40 g_77 g_639) rfl rfl rfl (by decide +kernel) ⟨Nat.le_of_ble_eq_true rfl, Nat.le_of_ble_eq_true rfl⟩) ⟨pre_blind, va_recv hK hP (ci := 7) (q0 := 0) rfl rfl, fun U hU hW => ⟨rfl, pre_of hP hK hD hnw hU hW⟩⟩ rfl rfl hl.1 rfl (lv_room (Nat.le_of_ble_eq_true rfl)) dX7_readsTask_36 ⟨Nat.le_of_ble_eq_true rfl, Nat.le_of_ble_eq_true rfl⟩) hS (fun q _ h => hFc q h) hFc (fun v u t H locs ht hvm hw hB hz1 hk1 hS => ?_)
  obtain ⟨rfl, rfl⟩ := hw
  obtain ⟨hP1, hD1⟩ := hB
  rw [ht] at hP1
  have hP := hP1
  have hD := hD1.weaken (fun _ q _ h => hFc q.1 h)
  obtain ⟨q6, hq6, hf⟩ := bd_x hf
  have hFc := freeS hD hS hA
  refine va_calli (va_runV (As := [.int q5.1]) (rest := []) ⟨hx, hb, hml, hown, hG⟩ (c_X7_semicolon l D cI cZ a q5.2 q5.1 H.size hq6) (cwV 1 hG (gV g_631 g_632 g_38 g_77 g_633) rfl rfl rfl (by decide +kernel) ⟨Nat.le_of_ble_eq_true rfl, Nat.le_of_ble_eq_true rfl⟩) ⟨pre_blind, va_recv hK hP (ci := 7) (q0 := 0) rfl rfl, fun U hU hW => ⟨rfl, pre_of hP hK hD hnw hU hW⟩⟩ rfl rfl hl.1 rfl (lv_room (Nat.le_of_ble_eq_true rfl)) dX7_readsTask_39 ⟨Nat.le_of_ble_eq_true rfl, Nat.le_of_ble_eq_true rfl⟩) hS (fun q _ h => hFc q h) hFc (fun v u t H locs ht hvm hw hB hz1 hk1 hS => ?_)
  obtain ⟨rfl, rfl⟩ := hw
  obtain ⟨hP1, hD1⟩ := hB
  rw [ht] at hP1
  have hP := hP1
  have hD := hD1.weaken (fun _ q _ h => hFc q.1 h)
  refine lv_topi (fun v7 ev7 => ?_)
  have hf := nm_x ev7 hf
  refine lv_istore_n (lv' := [(1, .int v7), (0, .ref (a 0))]) hx hb dX7_readsTask_42 rfl hl (by decide) rfl (fun ls hl => ?_)
  refine lv_iconst (v := (0 : Int32)) hx hb dX7_readsTask_43 (by decide) ?_
  refine lv_istore_n (lv' := [(2, .int (0 : Int32)), (1, .int v7), (0, .ref (a 0))]) hx hb dX7_readsTask_44 rfl hl (by decide) rfl (fun ls hl => ?_)
  have L45 : ∀ (n : Nat) (v8 : Int32) (X9 : HC) (H : Heap) (locs : List Loc) (ls : Array Slot), va_P D vwCl (kM cI cZ a X9) H → va_D A (kM cI cZ a X9) → va_S A s.heap H locs → lv_has ls 3 [(0, .ref (a 0)), (1, .int v7), (2, .int v8)] → lp (fun _ _ => none : Int32 → HC → Option (Int32 × HC)) (f_X7_readsTask_b45 v7) n v8 X9 = some r → W p l e RM_X7_readsTask s m (([.ref (a 0)] : List Value).toArray) below meth c H locs 0 0 (MQ below (QI D A (fun (u : HC) => (kM cI cZ a u)) r) (([.ref (a 0)] : List Value).toArray) s 0 0 A) (F0 m 45 ls []) := by
    intro n
    induction n with
    | zero => intro v8 X9 H locs ls _ _ _ _ hf; cases (show (none : Option (Int32 × HC)) = some r from hf)
    | succ n ih45 =>
      intro v8 X9 H locs ls hP hD hS hl hf
      have hf : (f_X7_readsTask_b45 v7) (lp (fun _ _ => none : Int32 → HC → Option (Int32 × HC)) (f_X7_readsTask_b45 v7) n) v8 X9 = some r := hf
      generalize lp (fun _ _ => none : Int32 → HC → Option (Int32 × HC)) (f_X7_readsTask_b45 v7) n = rc45 at ih45 hf
      unfold f_X7_readsTask_b45 at hf
      refine lv_iload_n hx hb dX7_readsTask_45 rfl (lv_at hl 2 rfl) ?_
      refine lv_iconst (v := (4 : Int32)) hx hb dX7_readsTask_46 (by decide) ?_
      have J79 : ∀  (H : Heap) (locs : List Loc) (ls : Array Slot), va_P D vwCl (kM cI cZ a X9) H → va_D A (kM cI cZ a X9) → va_S A s.heap H locs → lv_has ls 3 [(0, .ref (a 0)), (1, .int v7)] → f_X7_readsTask_j79 v7 X9  = some r → W p l e RM_X7_readsTask s m (([.ref (a 0)] : List Value).toArray) below meth c H locs 0 0 (MQ below (QI D A (fun (u : HC) => (kM cI cZ a u)) r) (([.ref (a 0)] : List Value).toArray) s 0 0 A) (F0 m 79 ls []) := by
        intro  H locs ls hP hD hS hl hf
        unfold f_X7_readsTask_j79 at hf
        refine lv_aload_n hx hb dX7_readsTask_79 rfl (lv_at hl 0 rfl) ?_
        refine lv_dup hx hb dX7_readsTask_80 rfl ?_
        refine va_get (D := D) (ci := 7) (v := .int (X9 0 24)) (C := RX7) (T := TX7) (N := 32) hx hb hG inG7 hown hK hP 0 at_M_0_0 rfl 24 (by decide) (hG _ g_588) (fun _ h9 => h9) rfl dX7_readsTask_81 ?_
        refine lv_iload_n hx hb dX7_readsTask_84 rfl (lv_at hl 1 rfl) ?_
        have J93 : ∀ (v10 : Int32) (H : Heap) (locs : List Loc) (ls : Array Slot), va_P D vwCl (kM cI cZ a X9) H → va_D A (kM cI cZ a X9) → va_S A s.heap H locs → lv_has ls 3 [(1, .int v7)] → f_X7_readsTask_j93 v7 X9 v10 = some r → W p l e RM_X7_readsTask s m (([.ref (a 0)] : List Value).toArray) below meth c H locs 0 0 (MQ below (QI D A (fun (u : HC) => (kM cI cZ a u)) r) (([.ref (a 0)] : List Value).toArray) s 0 0 A) (F0 m 93 ls [.int v10, .int (X9 0 24), .ref (a 0)]) := by
          intro v10 H locs ls hP hD hS hl hf
          unfold f_X7_readsTask_j93 at hf
          refine lv_iadd hx hb dX7_readsTask_93 ?_
          refine va_put (D := D) (ci := 7) (v := .int ((X9 0 24) + v10)) (ty := .int) (C := RX7) (T := TX7) (N := 32) hx hb hG inG7 tyX7 tyX7_ok nmX7 hown hK hP hD hS 0 at_M_0_0 rfl 24 (by decide) (hG _ g_588) (fun _ h9 => h9) rfl (by decide +kernel) rfl rfl (Nat.le_of_ble_eq_true rfl) dX7_readsTask_94 (fun H locs hP hD hS => ?_)
          obtain ⟨X11, eX11⟩ : ∃ y : HC, y = (sf X9 24 ((X9 0 24) + v10)) := ⟨_, rfl⟩
          have hf := nm_x eX11 hf
          have hP := wP (sf_M_0_24.trans (congrArg (fun z : HC => (kM cI cZ a z)) eX11.symm)) hP
          have hD := wD (sf_M_0_24.trans (congrArg (fun z : HC => (kM cI cZ a z)) eX11.symm)) hD
          refine lv_iload_n hx hb dX7_readsTask_97 rfl (lv_at hl 0 rfl) ?_
          exact W.iret (v := v7) hx hb hr (fun t ht hW => ⟨⟨v7, X11, rfl, ⟨pr_1 hf, pr_2 hf⟩, by rw [ht]; exact hP, hD⟩, hS.F ht⟩) hS.2.2 dX7_readsTask_98
        refine lv_if_ne (tgt := 92) hx hb dX7_readsTask_85 (by decide) (fun cc85 => ?_) (fun cc85 => ?_)
        · have hf := if_f cc85 hf
          refine lv_iconst (v := (0 : Int32)) hx hb dX7_readsTask_92 (by decide) ?_
          exact J93 (0 : Int32) _ _ _ hP hD hS (lv_sub hl [1] rfl) hf
        · have hf := if_t cc85 hf
          refine lv_iconst (v := (1 : Int32)) hx hb dX7_readsTask_88 (by decide) ?_
          refine lv_goto (tgt := 93) hx hb dX7_readsTask_89 (by decide) ?_
          exact J93 (1 : Int32) _ _ _ hP hD hS (lv_sub hl [1] rfl) hf
      refine lv_icmp_ge (tgt := 79) hx hb dX7_readsTask_47 (by decide) (fun cc47 => ?_) (fun cc47 => ?_)
      · have hf := if_t cc47 hf
        exact J79  _ _ _ hP hD hS (lv_sub hl [0, 1] rfl) hf
      · have hf := if_f cc47 hf
        refine lv_iload_n hx hb dX7_readsTask_50 rfl (lv_at hl 1 rfl) ?_
        refine lv_if_ne (tgt := 79) hx hb dX7_readsTask_51 (by decide) (fun cc51 => ?_) (fun cc51 => ?_)
        · have hf := if_f cc51 hf
          exact J79  _ _ _ hP hD hS (lv_sub hl [0, 1] rfl) hf
        · have hf := if_t cc51 hf
          refine lv_aload_n hx hb dX7_readsTask_54 rfl (lv_at hl 0 rfl) ?_
          refine va_get (D := D) (ci := 7) (v := .ref (a 12)) (C := RX7) (T := TX7) (N := 32) hx hb hG inG7 hown hK hP 0 at_M_0_0 rfl 25 (by decide) (hG _ g_589) (fun _ h9 => h9) rfl dX7_readsTask_55 ?_
          refine lv_iconst (v := (4 : Int32)) hx hb dX7_readsTask_58 (by decide) ?_
          refine lv_aload_n hx hb dX7_readsTask_59 rfl (lv_at hl 0 rfl) ?_
          refine va_get (D := D) (ci := 7) (v := .int (X9 0 24)) (C := RX7) (T := TX7) (N := 32) hx hb hG inG7 hown hK hP 0 at_M_0_0 rfl 24 (by decide) (hG _ g_588) (fun _ h9 => h9) rfl dX7_readsTask_60 ?_
          refine lv_imul hx hb dX7_readsTask_63 ?_
          refine lv_iload_n hx hb dX7_readsTask_64 rfl (lv_at hl 2 rfl) ?_
          refine lv_iadd hx hb dX7_readsTask_65 ?_
          refine lv_aload_n hx hb dX7_readsTask_66 rfl (lv_at hl 0 rfl) ?_
          refine va_get (D := D) (ci := 7) (v := .ref (a 15)) (C := RX7) (T := TX7) (N := 32) hx hb hG inG7 hown hK hP 0 at_M_0_0 rfl 29 (by decide) (hG _ g_593) (fun _ h9 => h9) rfl dX7_readsTask_67 ?_
          refine lv_iload_n hx hb dX7_readsTask_70 rfl (lv_at hl 2 rfl) ?_
          obtain ⟨hb71, hf⟩ := gd hf
          refine va_iald (cA := cI) (n := 4) (f := X9 15) hx hb hK hP 15 0 at_M_0_15 rfl (inb_in hb71) dX7_readsTask_71 ?_
          obtain ⟨hb72, hf⟩ := gd hf
          refine va_iast (cA := cI) (n := 24) (f := X9 12) hx hb hK hP hD hS 12 0 at_M_0_12 rfl (inb_in hb72) dX7_readsTask_72 (fun H locs hP hD hS => ?_)
          obtain ⟨X12, eX12⟩ : ∃ y : HC, y = (sa X9 12 (((4 : Int32) * (X9 0 24)) + v8) (X9 15 (Int32.toNatClampNeg v8))) := ⟨_, rfl⟩
          have hf := nm_x eX12 hf
          have hP := wP (sa_M_0_12.trans (congrArg (fun z : HC => (kM cI cZ a z)) eX12.symm)) hP
          have hD := wD (sa_M_0_12.trans (congrArg (fun z : HC => (kM cI cZ a z)) eX12.symm)) hD
          obtain ⟨v13, ev13⟩ : ∃ y : Int32, y = (v8 + (1 : Int32)) := ⟨_, rfl⟩
          have hf := nm_x ev13 hf
          refine lv_iinc (v := v13) (lv' := [(2, .int v13), (0, .ref (a 0)), (1, .int v7)]) hx hb dX7_readsTask_73 hl (k := 2) rfl (by rw [ev13]; rfl) (by decide) rfl (fun ls hl => ?_)
          refine lv_goto (tgt := 45) hx hb dX7_readsTask_76 (by decide) ?_
          exact ih45 v13 X12 _ _ _ hP hD hS (lv_sub hl [1, 2, 0] rfl) hf
  exact L45 FU (0 : Int32) q6.2 _ _ _ hP hD hS (lv_sub hl [2, 1, 0] rfl) hf
def f_X7_readsTrick_j83 (v5 : Int32) (X7 : HC) (v8 : Int32) : Option (Int32 × HC) := nm (sf X7 26 ((X7 0 26) + v8)) (fun (X9 : HC) => some (v5, X9))
def f_X7_readsTrick_j69 (v5 : Int32) (X7 : HC)  : Option (Int32 × HC) := (if v5 = 0 then f_X7_readsTrick_j83 v5 X7 (1 : Int32) else f_X7_readsTrick_j83 v5 X7 (0 : Int32))
def f_X7_readsTrick_b35 (v5 : Int32) (rc35 : Int32 → HC → Option (Int32 × HC)) (v6 : Int32) (X7 : HC) : Option (Int32 × HC) := (if (3 : Int32) ≤ v6 then f_X7_readsTrick_j69 v5 X7 else (if v5 = 0 then (if inb v6 4 then (if inb (((3 : Int32) * (X7 0 26)) + v6) 12 then nm (sa X7 13 (((3 : Int32) * (X7 0 26)) + v6) (X7 15 (Int32.toNatClampNeg v6))) (fun (X10 : HC) => nm (v6 + (1 : Int32)) (fun (v11 : Int32) => rc35 v11 X10)) else none) else none) else f_X7_readsTrick_j69 v5 X7))
def f_X7_readsTrick (x : HC) : Option (Int32 × HC) := bd (f_X7_number x (0 : Int32) (0 : Int32) ((x 0 24) - (1 : Int32))) (fun (q1 : Int32 × HC) => bd (f_X7_numberOr q1.2 q1.1 (1 : Int32) (1 : Int32) (99 : Int32)) (fun (q2 : Int32 × HC) => bd (f_X7_numberOr q2.2 q2.1 (2 : Int32) (0 : Int32) (99 : Int32)) (fun (q3 : Int32 × HC) => bd (f_X7_semicolon q3.2 q3.1) (fun (q4 : Int32 × HC) => nm q4.1 (fun (v5 : Int32) => lp (fun _ _ => none : Int32 → HC → Option (Int32 × HC)) (f_X7_readsTrick_b35 v5) FU (0 : Int32) q4.2)))))
abbrev RM_X7_readsTrick : Room := { frames := 4, cells := 0, slots := 0, locals := 93 }
set_option maxHeartbeats 4000000 in
set_option maxRecDepth 100000 in
theorem c_X7_readsTrick (l : Launch) (D : va_G) (cI cZ : ClassId) (a : Nat → Nat) (x : HC) (sz : Nat) {r : Int32 × HC} (hf : f_X7_readsTrick x = some r) : Met l yX7_readsTrick (wM yX7_readsTrick cX7_readsTrick 3 (some .int)) RM_X7_readsTrick (va_Pc [.ref (a 0)] (pre D cI cZ (kM cI cZ a x) sz)) (QI D (va_A (kM cI cZ a x) sz) (fun (u : HC) => (kM cI cZ a u)) r) 0 0 (va_A (kM cI cZ a x) sz) := by
  unfold f_X7_readsTrick at hf
  refine Met.ofW (cc := cX7_readsTrick) (maxL := 3) (ret := (some .int)) (by decide) rfl ?_
  intro p e s m args below meth c s₁ B hml hv
  obtain ⟨rfl, hsz, hP, hK, hD0, hnw⟩ := hv
  have hx := B.exec
  have hb := B.bytes
  have hr := B.returns
  have hts := atoms_spec (ws := wM yX7_readsTrick cX7_readsTrick 3 (some .int)) B.pre
  have hG : ∀ w ∈ GW, w.before (([.ref (a 0)] : List Value).toArray) s = true := fun w h => hts w (List.mem_cons_of_mem _ h)
  have hown : s.vm.findClass RX7 = some m.cls := findClass_of_methodNamed B.named
  have hlocks := B.notSynchronized
  subst hsz
  have hD := hD0.self (sz := s.heap.size)
  generalize hAe : va_A (kM cI cZ a x) s.heap.size = A at hD ⊢
  have hA : ∀ q : Nat, s.heap.size ≤ q → A q := fun q h => by rw [← hAe]; exact Or.inr h
  have hS : va_S A s.heap s.heap [] := va_S.rf
  have hl := lv_entry ([.ref (a 0)]) (n := 3) (Nat.le_of_ble_eq_true rfl)
  rw [lg_entry_eq]
  generalize (lg_sl ([.ref (a 0)]) ++ List.replicate (3 - (lg_sl ([.ref (a 0)])).length) Slot.unset).toArray = ls at hl ⊢
  have hl : lv_has ls 3 [(0, .ref (a 0))] := hl
  show W p l e RM_X7_readsTrick s m (([.ref (a 0)] : List Value).toArray) below meth c s.heap [] 0 0 (MQ below (QI D A (fun (u : HC) => (kM cI cZ a u)) r) (([.ref (a 0)] : List Value).toArray) s 0 0 A) (F0 m 0 ls [])
  refine lv_aload_n hx hb dX7_readsTrick_0 rfl (lv_at hl 0 rfl) ?_
  refine lv_aload_n hx hb dX7_readsTrick_1 rfl (lv_at hl 0 rfl) ?_
  refine lv_aload_n hx hb dX7_readsTrick_2 rfl (lv_at hl 0 rfl) ?_
  refine lv_aload_n hx hb dX7_readsTrick_3 rfl (lv_at hl 0 rfl) ?_
  refine lv_iconst (v := (0 : Int32)) hx hb dX7_readsTrick_4 (by decide) ?_
  refine lv_iconst (v := (0 : Int32)) hx hb dX7_readsTrick_5 (by decide) ?_
  refine lv_aload_n hx hb dX7_readsTrick_6 rfl (lv_at hl 0 rfl) ?_
  refine va_get (D := D) (ci := 7) (v := .int (x 0 24)) (C := RX7) (T := TX7) (N := 32) hx hb hG inG7 hown hK hP 0 at_M_0_0 rfl 24 (by decide) (hG _ g_588) (fun _ h9 => h9) rfl dX7_readsTrick_7 ?_
  refine lv_iconst (v := (1 : Int32)) hx hb dX7_readsTrick_10 (by decide) ?_
  refine lv_isub hx hb dX7_readsTrick_11 ?_
  obtain ⟨q1, hq1, hf⟩ := bd_x hf
  have hFc := freeS hD hS hA
  refine va_calli (va_runV (As := [.int (0 : Int32), .int (0 : Int32), .int ((x 0 24) - (1 : Int32))]) (rest := [.ref (a 0), .ref (a 0), .ref (a 0)]) ⟨hx, hb, hml, hown, hG⟩ (c_X7_number l D cI cZ a x (0 : Int32) (0 : Int32) ((x 0 24) - (1 : Int32)) s.heap.size hq1) (cwV 3 hG (gV g_623 g_624 g_37 g_77 g_625) rfl rfl rfl (by decide +kernel) ⟨Nat.le_of_ble_eq_true rfl, Nat.le_of_ble_eq_true rfl⟩) ⟨pre_blind, va_recv hK hP (ci := 7) (q0 := 0) rfl rfl, fun U hU hW => ⟨rfl, pre_of hP hK hD hnw hU hW⟩⟩ rfl rfl hl.1 rfl (lv_room (Nat.le_of_ble_eq_true rfl)) dX7_readsTrick_12 ⟨Nat.le_of_ble_eq_true rfl, Nat.le_of_ble_eq_true rfl⟩) hS (fun q _ h => hFc q h) hFc (fun v u t H locs ht hvm hw hB hz1 hk1 hS => ?_)
  obtain ⟨rfl, rfl⟩ := hw
  obtain ⟨hP1, hD1⟩ := hB
  rw [ht] at hP1
  have hP := hP1
  have hD := hD1.weaken (fun _ q _ h => hFc q.1 h)
  refine lv_iconst (v := (1 : Int32)) hx hb dX7_readsTrick_15 (by decide) ?_
  refine lv_iconst (v := (1 : Int32)) hx hb dX7_readsTrick_16 (by decide) ?_
  refine lv_bipush (v := (99 : Int32)) hx hb dX7_readsTrick_17 (by decide) ?_
  obtain ⟨q2, hq2, hf⟩ := bd_x hf
  have hFc := freeS hD hS hA
  refine va_calli (va_runV (As := [.int q1.1, .int (1 : Int32), .int (1 : Int32), .int (99 : Int32)]) (rest := [.ref (a 0), .ref (a 0)]) ⟨hx, hb, hml, hown, hG⟩ (c_X7_numberOr l D cI cZ a q1.2 q1.1 (1 : Int32) (1 : Int32) (99 : Int32) H.size hq2) (cwV 4 hG (gV g_637 g_638 g_40 g_77 g_639) rfl rfl rfl (by decide +kernel) ⟨Nat.le_of_ble_eq_true rfl, Nat.le_of_ble_eq_true rfl⟩) ⟨pre_blind, va_recv hK hP (ci := 7) (q0 := 0) rfl rfl, fun U hU hW => ⟨rfl, pre_of hP hK hD hnw hU hW⟩⟩ rfl rfl hl.1 rfl (lv_room (Nat.le_of_ble_eq_true rfl)) dX7_readsTrick_19 ⟨Nat.le_of_ble_eq_true rfl, Nat.le_of_ble_eq_true rfl⟩) hS (fun q _ h => hFc q h) hFc (fun v u t H locs ht hvm hw hB hz1 hk1 hS => ?_)
  obtain ⟨rfl, rfl⟩ := hw
  obtain ⟨hP1, hD1⟩ := hB
  rw [ht] at hP1
  have hP := hP1
  have hD := hD1.weaken (fun _ q _ h => hFc q.1 h)
  refine lv_iconst (v := (2 : Int32)) hx hb dX7_readsTrick_22 (by decide) ?_
  refine lv_iconst (v := (0 : Int32)) hx hb dX7_readsTrick_23 (by decide) ?_
  refine lv_bipush (v := (99 : Int32)) hx hb dX7_readsTrick_24 (by decide) ?_
  obtain ⟨q3, hq3, hf⟩ := bd_x hf
  have hFc := freeS hD hS hA
  refine va_calli (va_runV (As := [.int q2.1, .int (2 : Int32), .int (0 : Int32), .int (99 : Int32)]) (rest := [.ref (a 0)]) ⟨hx, hb, hml, hown, hG⟩ (c_X7_numberOr l D cI cZ a q2.2 q2.1 (2 : Int32) (0 : Int32) (99 : Int32) H.size hq3) (cwV 4 hG (gV g_637 g_638 g_40 g_77 g_639) rfl rfl rfl (by decide +kernel) ⟨Nat.le_of_ble_eq_true rfl, Nat.le_of_ble_eq_true rfl⟩) ⟨pre_blind, va_recv hK hP (ci := 7) (q0 := 0) rfl rfl, fun U hU hW => ⟨rfl, pre_of hP hK hD hnw hU hW⟩⟩ rfl rfl hl.1 rfl (lv_room (Nat.le_of_ble_eq_true rfl)) dX7_readsTrick_26 ⟨Nat.le_of_ble_eq_true rfl, Nat.le_of_ble_eq_true rfl⟩) hS (fun q _ h => hFc q h) hFc (fun v u t H locs ht hvm hw hB hz1 hk1 hS => ?_)
  obtain ⟨rfl, rfl⟩ := hw
  obtain ⟨hP1, hD1⟩ := hB
  rw [ht] at hP1
  have hP := hP1
  have hD := hD1.weaken (fun _ q _ h => hFc q.1 h)
  obtain ⟨q4, hq4, hf⟩ := bd_x hf
  have hFc := freeS hD hS hA
  refine va_calli (va_runV (As := [.int q3.1]) (rest := []) ⟨hx, hb, hml, hown, hG⟩ (c_X7_semicolon l D cI cZ a q3.2 q3.1 H.size hq4) (cwV 1 hG (gV g_631 g_632 g_38 g_77 g_633) rfl rfl rfl (by decide +kernel) ⟨Nat.le_of_ble_eq_true rfl, Nat.le_of_ble_eq_true rfl⟩) ⟨pre_blind, va_recv hK hP (ci := 7) (q0 := 0) rfl rfl, fun U hU hW => ⟨rfl, pre_of hP hK hD hnw hU hW⟩⟩ rfl rfl hl.1 rfl (lv_room (Nat.le_of_ble_eq_true rfl)) dX7_readsTrick_29 ⟨Nat.le_of_ble_eq_true rfl, Nat.le_of_ble_eq_true rfl⟩) hS (fun q _ h => hFc q h) hFc (fun v u t H locs ht hvm hw hB hz1 hk1 hS => ?_)
  obtain ⟨rfl, rfl⟩ := hw
  obtain ⟨hP1, hD1⟩ := hB
  rw [ht] at hP1
  have hP := hP1
  have hD := hD1.weaken (fun _ q _ h => hFc q.1 h)
  refine lv_topi (fun v5 ev5 => ?_)
  have hf := nm_x ev5 hf
  refine lv_istore_n (lv' := [(1, .int v5), (0, .ref (a 0))]) hx hb dX7_readsTrick_32 rfl hl (by decide) rfl (fun ls hl => ?_)
  refine lv_iconst (v := (0 : Int32)) hx hb dX7_readsTrick_33 (by decide) ?_
  refine lv_istore_n (lv' := [(2, .int (0 : Int32)), (1, .int v5), (0, .ref (a 0))]) hx hb dX7_readsTrick_34 rfl hl (by decide) rfl (fun ls hl => ?_)
  have L35 : ∀ (n : Nat) (v6 : Int32) (X7 : HC) (H : Heap) (locs : List Loc) (ls : Array Slot), va_P D vwCl (kM cI cZ a X7) H → va_D A (kM cI cZ a X7) → va_S A s.heap H locs → lv_has ls 3 [(0, .ref (a 0)), (1, .int v5), (2, .int v6)] → lp (fun _ _ => none : Int32 → HC → Option (Int32 × HC)) (f_X7_readsTrick_b35 v5) n v6 X7 = some r → W p l e RM_X7_readsTrick s m (([.ref (a 0)] : List Value).toArray) below meth c H locs 0 0 (MQ below (QI D A (fun (u : HC) => (kM cI cZ a u)) r) (([.ref (a 0)] : List Value).toArray) s 0 0 A) (F0 m 35 ls []) := by
    intro n
    induction n with
    | zero => intro v6 X7 H locs ls _ _ _ _ hf; cases (show (none : Option (Int32 × HC)) = some r from hf)
    | succ n ih35 =>
      intro v6 X7 H locs ls hP hD hS hl hf
      have hf : (f_X7_readsTrick_b35 v5) (lp (fun _ _ => none : Int32 → HC → Option (Int32 × HC)) (f_X7_readsTrick_b35 v5) n) v6 X7 = some r := hf
      generalize lp (fun _ _ => none : Int32 → HC → Option (Int32 × HC)) (f_X7_readsTrick_b35 v5) n = rc35 at ih35 hf
      unfold f_X7_readsTrick_b35 at hf
      refine lv_iload_n hx hb dX7_readsTrick_35 rfl (lv_at hl 2 rfl) ?_
      refine lv_iconst (v := (3 : Int32)) hx hb dX7_readsTrick_36 (by decide) ?_
      have J69 : ∀  (H : Heap) (locs : List Loc) (ls : Array Slot), va_P D vwCl (kM cI cZ a X7) H → va_D A (kM cI cZ a X7) → va_S A s.heap H locs → lv_has ls 3 [(0, .ref (a 0)), (1, .int v5)] → f_X7_readsTrick_j69 v5 X7  = some r → W p l e RM_X7_readsTrick s m (([.ref (a 0)] : List Value).toArray) below meth c H locs 0 0 (MQ below (QI D A (fun (u : HC) => (kM cI cZ a u)) r) (([.ref (a 0)] : List Value).toArray) s 0 0 A) (F0 m 69 ls []) := by
        intro  H locs ls hP hD hS hl hf
        unfold f_X7_readsTrick_j69 at hf
        refine lv_aload_n hx hb dX7_readsTrick_69 rfl (lv_at hl 0 rfl) ?_
        refine lv_dup hx hb dX7_readsTrick_70 rfl ?_
        refine va_get (D := D) (ci := 7) (v := .int (X7 0 26)) (C := RX7) (T := TX7) (N := 32) hx hb hG inG7 hown hK hP 0 at_M_0_0 rfl 26 (by decide) (hG _ g_590) (fun _ h9 => h9) rfl dX7_readsTrick_71 ?_
        refine lv_iload_n hx hb dX7_readsTrick_74 rfl (lv_at hl 1 rfl) ?_
        have J83 : ∀ (v8 : Int32) (H : Heap) (locs : List Loc) (ls : Array Slot), va_P D vwCl (kM cI cZ a X7) H → va_D A (kM cI cZ a X7) → va_S A s.heap H locs → lv_has ls 3 [(1, .int v5)] → f_X7_readsTrick_j83 v5 X7 v8 = some r → W p l e RM_X7_readsTrick s m (([.ref (a 0)] : List Value).toArray) below meth c H locs 0 0 (MQ below (QI D A (fun (u : HC) => (kM cI cZ a u)) r) (([.ref (a 0)] : List Value).toArray) s 0 0 A) (F0 m 83 ls [.int v8, .int (X7 0 26), .ref (a 0)]) := by
          intro v8 H locs ls hP hD hS hl hf
          unfold f_X7_readsTrick_j83 at hf
          refine lv_iadd hx hb dX7_readsTrick_83 ?_
          refine va_put (D := D) (ci := 7) (v := .int ((X7 0 26) + v8)) (ty := .int) (C := RX7) (T := TX7) (N := 32) hx hb hG inG7 tyX7 tyX7_ok nmX7 hown hK hP hD hS 0 at_M_0_0 rfl 26 (by decide) (hG _ g_590) (fun _ h9 => h9) rfl (by decide +kernel) rfl rfl (Nat.le_of_ble_eq_true rfl) dX7_readsTrick_84 (fun H locs hP hD hS => ?_)
          obtain ⟨X9, eX9⟩ : ∃ y : HC, y = (sf X7 26 ((X7 0 26) + v8)) := ⟨_, rfl⟩
          have hf := nm_x eX9 hf
          have hP := wP (sf_M_0_26.trans (congrArg (fun z : HC => (kM cI cZ a z)) eX9.symm)) hP
          have hD := wD (sf_M_0_26.trans (congrArg (fun z : HC => (kM cI cZ a z)) eX9.symm)) hD
          refine lv_iload_n hx hb dX7_readsTrick_87 rfl (lv_at hl 0 rfl) ?_
          exact W.iret (v := v5) hx hb hr (fun t ht hW => ⟨⟨v5, X9, rfl, ⟨pr_1 hf, pr_2 hf⟩, by rw [ht]; exact hP, hD⟩, hS.F ht⟩) hS.2.2 dX7_readsTrick_88
        refine lv_if_ne (tgt := 82) hx hb dX7_readsTrick_75 (by decide) (fun cc75 => ?_) (fun cc75 => ?_)
        · have hf := if_f cc75 hf
          refine lv_iconst (v := (0 : Int32)) hx hb dX7_readsTrick_82 (by decide) ?_
          exact J83 (0 : Int32) _ _ _ hP hD hS (lv_sub hl [1] rfl) hf
        · have hf := if_t cc75 hf
          refine lv_iconst (v := (1 : Int32)) hx hb dX7_readsTrick_78 (by decide) ?_
          refine lv_goto (tgt := 83) hx hb dX7_readsTrick_79 (by decide) ?_
          exact J83 (1 : Int32) _ _ _ hP hD hS (lv_sub hl [1] rfl) hf
      refine lv_icmp_ge (tgt := 69) hx hb dX7_readsTrick_37 (by decide) (fun cc37 => ?_) (fun cc37 => ?_)
      · have hf := if_t cc37 hf
        exact J69  _ _ _ hP hD hS (lv_sub hl [0, 1] rfl) hf
      · have hf := if_f cc37 hf
        refine lv_iload_n hx hb dX7_readsTrick_40 rfl (lv_at hl 1 rfl) ?_
        refine lv_if_ne (tgt := 69) hx hb dX7_readsTrick_41 (by decide) (fun cc41 => ?_) (fun cc41 => ?_)
        · have hf := if_f cc41 hf
          exact J69  _ _ _ hP hD hS (lv_sub hl [0, 1] rfl) hf
        · have hf := if_t cc41 hf
          refine lv_aload_n hx hb dX7_readsTrick_44 rfl (lv_at hl 0 rfl) ?_
          refine va_get (D := D) (ci := 7) (v := .ref (a 13)) (C := RX7) (T := TX7) (N := 32) hx hb hG inG7 hown hK hP 0 at_M_0_0 rfl 27 (by decide) (hG _ g_591) (fun _ h9 => h9) rfl dX7_readsTrick_45 ?_
          refine lv_iconst (v := (3 : Int32)) hx hb dX7_readsTrick_48 (by decide) ?_
          refine lv_aload_n hx hb dX7_readsTrick_49 rfl (lv_at hl 0 rfl) ?_
          refine va_get (D := D) (ci := 7) (v := .int (X7 0 26)) (C := RX7) (T := TX7) (N := 32) hx hb hG inG7 hown hK hP 0 at_M_0_0 rfl 26 (by decide) (hG _ g_590) (fun _ h9 => h9) rfl dX7_readsTrick_50 ?_
          refine lv_imul hx hb dX7_readsTrick_53 ?_
          refine lv_iload_n hx hb dX7_readsTrick_54 rfl (lv_at hl 2 rfl) ?_
          refine lv_iadd hx hb dX7_readsTrick_55 ?_
          refine lv_aload_n hx hb dX7_readsTrick_56 rfl (lv_at hl 0 rfl) ?_
          refine va_get (D := D) (ci := 7) (v := .ref (a 15)) (C := RX7) (T := TX7) (N := 32) hx hb hG inG7 hown hK hP 0 at_M_0_0 rfl 29 (by decide) (hG _ g_593) (fun _ h9 => h9) rfl dX7_readsTrick_57 ?_
          refine lv_iload_n hx hb dX7_readsTrick_60 rfl (lv_at hl 2 rfl) ?_
          obtain ⟨hb61, hf⟩ := gd hf
          refine va_iald (cA := cI) (n := 4) (f := X7 15) hx hb hK hP 15 0 at_M_0_15 rfl (inb_in hb61) dX7_readsTrick_61 ?_
          obtain ⟨hb62, hf⟩ := gd hf
          refine va_iast (cA := cI) (n := 12) (f := X7 13) hx hb hK hP hD hS 13 0 at_M_0_13 rfl (inb_in hb62) dX7_readsTrick_62 (fun H locs hP hD hS => ?_)
          obtain ⟨X10, eX10⟩ : ∃ y : HC, y = (sa X7 13 (((3 : Int32) * (X7 0 26)) + v6) (X7 15 (Int32.toNatClampNeg v6))) := ⟨_, rfl⟩
          have hf := nm_x eX10 hf
          have hP := wP (sa_M_0_13.trans (congrArg (fun z : HC => (kM cI cZ a z)) eX10.symm)) hP
          have hD := wD (sa_M_0_13.trans (congrArg (fun z : HC => (kM cI cZ a z)) eX10.symm)) hD
          obtain ⟨v11, ev11⟩ : ∃ y : Int32, y = (v6 + (1 : Int32)) := ⟨_, rfl⟩
          have hf := nm_x ev11 hf
          refine lv_iinc (v := v11) (lv' := [(2, .int v11), (0, .ref (a 0)), (1, .int v5)]) hx hb dX7_readsTrick_63 hl (k := 2) rfl (by rw [ev11]; rfl) (by decide) rfl (fun ls hl => ?_)
          refine lv_goto (tgt := 35) hx hb dX7_readsTrick_66 (by decide) ?_
          exact ih35 v11 X10 _ _ _ hP hD hS (lv_sub hl [1, 2, 0] rfl) hf
  exact L35 FU (0 : Int32) q4.2 _ _ _ hP hD hS (lv_sub hl [2, 1, 0] rfl) hf
def f_X7_readsThought_j55 (q2 : Int32 × HC) (v3 : Int32)  : Option (Int32 × HC) := bd (f_X7_numberOr q2.2 v3 (2 : Int32) (0 : Int32) (99 : Int32)) (fun (q4 : Int32 × HC) => bd (f_X7_semicolon q4.2 q4.1) (fun (q5 : Int32 × HC) => nm q5.1 (fun (v6 : Int32) => (if v6 = 0 then (if inb (0 : Int32) 4 then (if inb (1 : Int32) 4 then (if inb (2 : Int32) 4 then (if inb (((5 : Int32) * (q5.2 15 (Int32.toNatClampNeg (0 : Int32)))) + (q5.2 15 (Int32.toNatClampNeg (1 : Int32)))) 30 then nm (sa q5.2 14 (((5 : Int32) * (q5.2 15 (Int32.toNatClampNeg (0 : Int32)))) + (q5.2 15 (Int32.toNatClampNeg (1 : Int32)))) (q5.2 15 (Int32.toNatClampNeg (2 : Int32)))) (fun (X7 : HC) => some (v6, X7)) else none) else none) else none) else none) else some (v6, q5.2)))))
def f_X7_readsThought (x : HC) : Option (Int32 × HC) := bd (f_X7_number x (0 : Int32) (0 : Int32) ((x 0 19) - (1 : Int32))) (fun (q1 : Int32 × HC) => bd (f_X7_numberOr q1.2 q1.1 (1 : Int32) (0 : Int32) ((q1.2 0 20) - (1 : Int32))) (fun (q2 : Int32 × HC) => nm q2.1 (fun (v3 : Int32) => (if v3 = 0 then (if inb (0 : Int32) 4 then (if inb (1 : Int32) 4 then (if inb (((5 : Int32) * (q2.2 15 (Int32.toNatClampNeg (0 : Int32)))) + (q2.2 15 (Int32.toNatClampNeg (1 : Int32)))) 30 then (if (q2.2 14 (Int32.toNatClampNeg (((5 : Int32) * (q2.2 15 (Int32.toNatClampNeg (0 : Int32)))) + (q2.2 15 (Int32.toNatClampNeg (1 : Int32)))))) = (-1 : Int32) then f_X7_readsThought_j55 q2 v3 else some ((4 : Int32), q2.2)) else none) else none) else none) else f_X7_readsThought_j55 q2 v3))))
abbrev RM_X7_readsThought : Room := { frames := 4, cells := 0, slots := 0, locals := 93 }
set_option maxHeartbeats 4000000 in
set_option maxRecDepth 100000 in
theorem c_X7_readsThought (l : Launch) (D : va_G) (cI cZ : ClassId) (a : Nat → Nat) (x : HC) (sz : Nat) {r : Int32 × HC} (hf : f_X7_readsThought x = some r) : Met l yX7_readsThought (wM yX7_readsThought cX7_readsThought 2 (some .int)) RM_X7_readsThought (va_Pc [.ref (a 0)] (pre D cI cZ (kM cI cZ a x) sz)) (QI D (va_A (kM cI cZ a x) sz) (fun (u : HC) => (kM cI cZ a u)) r) 0 0 (va_A (kM cI cZ a x) sz) := by
  unfold f_X7_readsThought at hf
  refine Met.ofW (cc := cX7_readsThought) (maxL := 2) (ret := (some .int)) (by decide) rfl ?_
  intro p e s m args below meth c s₁ B hml hv
  obtain ⟨rfl, hsz, hP, hK, hD0, hnw⟩ := hv
  have hx := B.exec
  have hb := B.bytes
  have hr := B.returns
  have hts := atoms_spec (ws := wM yX7_readsThought cX7_readsThought 2 (some .int)) B.pre
  have hG : ∀ w ∈ GW, w.before (([.ref (a 0)] : List Value).toArray) s = true := fun w h => hts w (List.mem_cons_of_mem _ h)
  have hown : s.vm.findClass RX7 = some m.cls := findClass_of_methodNamed B.named
  have hlocks := B.notSynchronized
  subst hsz
  have hD := hD0.self (sz := s.heap.size)
  generalize hAe : va_A (kM cI cZ a x) s.heap.size = A at hD ⊢
  have hA : ∀ q : Nat, s.heap.size ≤ q → A q := fun q h => by rw [← hAe]; exact Or.inr h
  have hS : va_S A s.heap s.heap [] := va_S.rf
  have hl := lv_entry ([.ref (a 0)]) (n := 2) (Nat.le_of_ble_eq_true rfl)
  rw [lg_entry_eq]
  generalize (lg_sl ([.ref (a 0)]) ++ List.replicate (2 - (lg_sl ([.ref (a 0)])).length) Slot.unset).toArray = ls at hl ⊢
  have hl : lv_has ls 2 [(0, .ref (a 0))] := hl
  show W p l e RM_X7_readsThought s m (([.ref (a 0)] : List Value).toArray) below meth c s.heap [] 0 0 (MQ below (QI D A (fun (u : HC) => (kM cI cZ a u)) r) (([.ref (a 0)] : List Value).toArray) s 0 0 A) (F0 m 0 ls [])
  refine lv_aload_n hx hb dX7_readsThought_0 rfl (lv_at hl 0 rfl) ?_
  refine lv_aload_n hx hb dX7_readsThought_1 rfl (lv_at hl 0 rfl) ?_
  refine lv_iconst (v := (0 : Int32)) hx hb dX7_readsThought_2 (by decide) ?_
  refine lv_iconst (v := (0 : Int32)) hx hb dX7_readsThought_3 (by decide) ?_
  refine lv_aload_n hx hb dX7_readsThought_4 rfl (lv_at hl 0 rfl) ?_
  refine va_get (D := D) (ci := 7) (v := .int (x 0 19)) (C := RX7) (T := TX7) (N := 32) hx hb hG inG7 hown hK hP 0 at_M_0_0 rfl 19 (by decide) (hG _ g_583) (fun _ h9 => h9) rfl dX7_readsThought_5 ?_
  refine lv_iconst (v := (1 : Int32)) hx hb dX7_readsThought_8 (by decide) ?_
  refine lv_isub hx hb dX7_readsThought_9 ?_
  obtain ⟨q1, hq1, hf⟩ := bd_x hf
  have hFc := freeS hD hS hA
  refine va_calli (va_runV (As := [.int (0 : Int32), .int (0 : Int32), .int ((x 0 19) - (1 : Int32))]) (rest := [.ref (a 0)]) ⟨hx, hb, hml, hown, hG⟩ (c_X7_number l D cI cZ a x (0 : Int32) (0 : Int32) ((x 0 19) - (1 : Int32)) s.heap.size hq1) (cwV 3 hG (gV g_623 g_624 g_37 g_77 g_625) rfl rfl rfl (by decide +kernel) ⟨Nat.le_of_ble_eq_true rfl, Nat.le_of_ble_eq_true rfl⟩) ⟨pre_blind, va_recv hK hP (ci := 7) (q0 := 0) rfl rfl, fun U hU hW => ⟨rfl, pre_of hP hK hD hnw hU hW⟩⟩ rfl rfl hl.1 rfl (lv_room (Nat.le_of_ble_eq_true rfl)) dX7_readsThought_10 ⟨Nat.le_of_ble_eq_true rfl, Nat.le_of_ble_eq_true rfl⟩) hS (fun q _ h => hFc q h) hFc (fun v u t H locs ht hvm hw hB hz1 hk1 hS => ?_)
  obtain ⟨rfl, rfl⟩ := hw
  obtain ⟨hP1, hD1⟩ := hB
  rw [ht] at hP1
  have hP := hP1
  have hD := hD1.weaken (fun _ q _ h => hFc q.1 h)
  refine lv_iconst (v := (1 : Int32)) hx hb dX7_readsThought_13 (by decide) ?_
  refine lv_iconst (v := (0 : Int32)) hx hb dX7_readsThought_14 (by decide) ?_
  refine lv_aload_n hx hb dX7_readsThought_15 rfl (lv_at hl 0 rfl) ?_
  refine va_get (D := D) (ci := 7) (v := .int (q1.2 0 20)) (C := RX7) (T := TX7) (N := 32) hx hb hG inG7 hown hK hP 0 at_M_0_0 rfl 20 (by decide) (hG _ g_584) (fun _ h9 => h9) rfl dX7_readsThought_16 ?_
  refine lv_iconst (v := (1 : Int32)) hx hb dX7_readsThought_19 (by decide) ?_
  refine lv_isub hx hb dX7_readsThought_20 ?_
  obtain ⟨q2, hq2, hf⟩ := bd_x hf
  have hFc := freeS hD hS hA
  refine va_calli (va_runV (As := [.int q1.1, .int (1 : Int32), .int (0 : Int32), .int ((q1.2 0 20) - (1 : Int32))]) (rest := []) ⟨hx, hb, hml, hown, hG⟩ (c_X7_numberOr l D cI cZ a q1.2 q1.1 (1 : Int32) (0 : Int32) ((q1.2 0 20) - (1 : Int32)) H.size hq2) (cwV 4 hG (gV g_637 g_638 g_40 g_77 g_639) rfl rfl rfl (by decide +kernel) ⟨Nat.le_of_ble_eq_true rfl, Nat.le_of_ble_eq_true rfl⟩) ⟨pre_blind, va_recv hK hP (ci := 7) (q0 := 0) rfl rfl, fun U hU hW => ⟨rfl, pre_of hP hK hD hnw hU hW⟩⟩ rfl rfl hl.1 rfl (lv_room (Nat.le_of_ble_eq_true rfl)) dX7_readsThought_21 ⟨Nat.le_of_ble_eq_true rfl, Nat.le_of_ble_eq_true rfl⟩) hS (fun q _ h => hFc q h) hFc (fun v u t H locs ht hvm hw hB hz1 hk1 hS => ?_)
  obtain ⟨rfl, rfl⟩ := hw
  obtain ⟨hP1, hD1⟩ := hB
  rw [ht] at hP1
  have hP := hP1
  have hD := hD1.weaken (fun _ q _ h => hFc q.1 h)
  refine lv_topi (fun v3 ev3 => ?_)
  have hf := nm_x ev3 hf
  refine lv_istore_n (lv' := [(1, .int v3), (0, .ref (a 0))]) hx hb dX7_readsThought_24 rfl hl (by decide) rfl (fun ls hl => ?_)
  refine lv_iload_n hx hb dX7_readsThought_25 rfl (lv_at hl 0 rfl) ?_
  have J55 : ∀  (H : Heap) (locs : List Loc) (ls : Array Slot), va_P D vwCl (kM cI cZ a q2.2) H → va_D A (kM cI cZ a q2.2) → va_S A s.heap H locs → lv_has ls 2 [(0, .ref (a 0)), (1, .int v3)] → f_X7_readsThought_j55 q2 v3  = some r → W p l e RM_X7_readsThought s m (([.ref (a 0)] : List Value).toArray) below meth c H locs 0 0 (MQ below (QI D A (fun (u : HC) => (kM cI cZ a u)) r) (([.ref (a 0)] : List Value).toArray) s 0 0 A) (F0 m 55 ls []) := by
    intro  H locs ls hP hD hS hl hf
    unfold f_X7_readsThought_j55 at hf
    refine lv_aload_n hx hb dX7_readsThought_55 rfl (lv_at hl 0 rfl) ?_
    refine lv_aload_n hx hb dX7_readsThought_56 rfl (lv_at hl 0 rfl) ?_
    refine lv_iload_n hx hb dX7_readsThought_57 rfl (lv_at hl 1 rfl) ?_
    refine lv_iconst (v := (2 : Int32)) hx hb dX7_readsThought_58 (by decide) ?_
    refine lv_iconst (v := (0 : Int32)) hx hb dX7_readsThought_59 (by decide) ?_
    refine lv_bipush (v := (99 : Int32)) hx hb dX7_readsThought_60 (by decide) ?_
    obtain ⟨q4, hq4, hf⟩ := bd_x hf
    have hFc := freeS hD hS hA
    refine va_calli (va_runV (As := [.int v3, .int (2 : Int32), .int (0 : Int32), .int (99 : Int32)]) (rest := [.ref (a 0)]) ⟨hx, hb, hml, hown, hG⟩ (c_X7_numberOr l D cI cZ a q2.2 v3 (2 : Int32) (0 : Int32) (99 : Int32) H.size hq4) (cwV 4 hG (gV g_637 g_638 g_40 g_77 g_639) rfl rfl rfl (by decide +kernel) ⟨Nat.le_of_ble_eq_true rfl, Nat.le_of_ble_eq_true rfl⟩) ⟨pre_blind, va_recv hK hP (ci := 7) (q0 := 0) rfl rfl, fun U hU hW => ⟨rfl, pre_of hP hK hD hnw hU hW⟩⟩ rfl rfl hl.1 rfl (lv_room (Nat.le_of_ble_eq_true rfl)) dX7_readsThought_62 ⟨Nat.le_of_ble_eq_true rfl, Nat.le_of_ble_eq_true rfl⟩) hS (fun q _ h => hFc q h) hFc (fun v u t H locs ht hvm hw hB hz1 hk1 hS => ?_)
    obtain ⟨rfl, rfl⟩ := hw
    obtain ⟨hP1, hD1⟩ := hB
    rw [ht] at hP1
    have hP := hP1
    have hD := hD1.weaken (fun _ q _ h => hFc q.1 h)
    obtain ⟨q5, hq5, hf⟩ := bd_x hf
    have hFc := freeS hD hS hA
    refine va_calli (va_runV (As := [.int q4.1]) (rest := []) ⟨hx, hb, hml, hown, hG⟩ (c_X7_semicolon l D cI cZ a q4.2 q4.1 H.size hq5) (cwV 1 hG (gV g_631 g_632 g_38 g_77 g_633) rfl rfl rfl (by decide +kernel) ⟨Nat.le_of_ble_eq_true rfl, Nat.le_of_ble_eq_true rfl⟩) ⟨pre_blind, va_recv hK hP (ci := 7) (q0 := 0) rfl rfl, fun U hU hW => ⟨rfl, pre_of hP hK hD hnw hU hW⟩⟩ rfl rfl hl.1 rfl (lv_room (Nat.le_of_ble_eq_true rfl)) dX7_readsThought_65 ⟨Nat.le_of_ble_eq_true rfl, Nat.le_of_ble_eq_true rfl⟩) hS (fun q _ h => hFc q h) hFc (fun v u t H locs ht hvm hw hB hz1 hk1 hS => ?_)
    obtain ⟨rfl, rfl⟩ := hw
    obtain ⟨hP1, hD1⟩ := hB
    rw [ht] at hP1
    have hP := hP1
    have hD := hD1.weaken (fun _ q _ h => hFc q.1 h)
    refine lv_topi (fun v6 ev6 => ?_)
    have hf := nm_x ev6 hf
    refine lv_istore_n (lv' := [(1, .int v6), (0, .ref (a 0))]) hx hb dX7_readsThought_68 rfl hl (by decide) rfl (fun ls hl => ?_)
    refine lv_iload_n hx hb dX7_readsThought_69 rfl (lv_at hl 0 rfl) ?_
    refine lv_if_ne (tgt := 99) hx hb dX7_readsThought_70 (by decide) (fun cc70 => ?_) (fun cc70 => ?_)
    · have hf := if_f cc70 hf
      refine lv_iload_n hx hb dX7_readsThought_99 rfl (lv_at hl 0 rfl) ?_
      exact W.iret (v := v6) hx hb hr (fun t ht hW => ⟨⟨v6, q5.2, rfl, ⟨pr_1 hf, pr_2 hf⟩, by rw [ht]; exact hP, hD⟩, hS.F ht⟩) hS.2.2 dX7_readsThought_100
    · have hf := if_t cc70 hf
      refine lv_aload_n hx hb dX7_readsThought_73 rfl (lv_at hl 1 rfl) ?_
      refine va_get (D := D) (ci := 7) (v := .ref (a 14)) (C := RX7) (T := TX7) (N := 32) hx hb hG inG7 hown hK hP 0 at_M_0_0 rfl 28 (by decide) (hG _ g_592) (fun _ h9 => h9) rfl dX7_readsThought_74 ?_
      refine lv_iconst (v := (5 : Int32)) hx hb dX7_readsThought_77 (by decide) ?_
      refine lv_aload_n hx hb dX7_readsThought_78 rfl (lv_at hl 1 rfl) ?_
      refine va_get (D := D) (ci := 7) (v := .ref (a 15)) (C := RX7) (T := TX7) (N := 32) hx hb hG inG7 hown hK hP 0 at_M_0_0 rfl 29 (by decide) (hG _ g_593) (fun _ h9 => h9) rfl dX7_readsThought_79 ?_
      refine lv_iconst (v := (0 : Int32)) hx hb dX7_readsThought_82 (by decide) ?_
      obtain ⟨hb83, hf⟩ := gd hf
      refine va_iald (cA := cI) (n := 4) (f := q5.2 15) hx hb hK hP 15 0 at_M_0_15 rfl (inb_in hb83) dX7_readsThought_83 ?_
      refine lv_imul hx hb dX7_readsThought_84 ?_
      refine lv_aload_n hx hb dX7_readsThought_85 rfl (lv_at hl 1 rfl) ?_
      refine va_get (D := D) (ci := 7) (v := .ref (a 15)) (C := RX7) (T := TX7) (N := 32) hx hb hG inG7 hown hK hP 0 at_M_0_0 rfl 29 (by decide) (hG _ g_593) (fun _ h9 => h9) rfl dX7_readsThought_86 ?_
      refine lv_iconst (v := (1 : Int32)) hx hb dX7_readsThought_89 (by decide) ?_
      obtain ⟨hb90, hf⟩ := gd hf
      refine va_iald (cA := cI) (n := 4) (f := q5.2 15) hx hb hK hP 15 0 at_M_0_15 rfl (inb_in hb90) dX7_readsThought_90 ?_
      refine lv_iadd hx hb dX7_readsThought_91 ?_
      refine lv_aload_n hx hb dX7_readsThought_92 rfl (lv_at hl 1 rfl) ?_
      refine va_get (D := D) (ci := 7) (v := .ref (a 15)) (C := RX7) (T := TX7) (N := 32) hx hb hG inG7 hown hK hP 0 at_M_0_0 rfl 29 (by decide) (hG _ g_593) (fun _ h9 => h9) rfl dX7_readsThought_93 ?_
      refine lv_iconst (v := (2 : Int32)) hx hb dX7_readsThought_96 (by decide) ?_
      obtain ⟨hb97, hf⟩ := gd hf
      refine va_iald (cA := cI) (n := 4) (f := q5.2 15) hx hb hK hP 15 0 at_M_0_15 rfl (inb_in hb97) dX7_readsThought_97 ?_
      obtain ⟨hb98, hf⟩ := gd hf
      refine va_iast (cA := cI) (n := 30) (f := q5.2 14) hx hb hK hP hD hS 14 0 at_M_0_14 rfl (inb_in hb98) dX7_readsThought_98 (fun H locs hP hD hS => ?_)
      obtain ⟨X7, eX7⟩ : ∃ y : HC, y = (sa q5.2 14 (((5 : Int32) * (q5.2 15 (Int32.toNatClampNeg (0 : Int32)))) + (q5.2 15 (Int32.toNatClampNeg (1 : Int32)))) (q5.2 15 (Int32.toNatClampNeg (2 : Int32)))) := ⟨_, rfl⟩
      have hf := nm_x eX7 hf
      have hP := wP (sa_M_0_14.trans (congrArg (fun z : HC => (kM cI cZ a z)) eX7.symm)) hP
      have hD := wD (sa_M_0_14.trans (congrArg (fun z : HC => (kM cI cZ a z)) eX7.symm)) hD
      refine lv_iload_n hx hb dX7_readsThought_99 rfl (lv_at hl 0 rfl) ?_
      exact W.iret (v := v6) hx hb hr (fun t ht hW => ⟨⟨v6, X7, rfl, ⟨pr_1 hf, pr_2 hf⟩, by rw [ht]; exact hP, hD⟩, hS.F ht⟩) hS.2.2 dX7_readsThought_100
  refine lv_if_ne (tgt := 55) hx hb dX7_readsThought_26 (by decide) (fun cc26 => ?_) (fun cc26 => ?_)
  · have hf := if_f cc26 hf
    exact J55  _ _ _ hP hD hS (lv_sub hl [1, 0] rfl) hf
  · have hf := if_t cc26 hf
    refine lv_aload_n hx hb dX7_readsThought_29 rfl (lv_at hl 1 rfl) ?_
    refine va_get (D := D) (ci := 7) (v := .ref (a 14)) (C := RX7) (T := TX7) (N := 32) hx hb hG inG7 hown hK hP 0 at_M_0_0 rfl 28 (by decide) (hG _ g_592) (fun _ h9 => h9) rfl dX7_readsThought_30 ?_
    refine lv_iconst (v := (5 : Int32)) hx hb dX7_readsThought_33 (by decide) ?_
    refine lv_aload_n hx hb dX7_readsThought_34 rfl (lv_at hl 1 rfl) ?_
    refine va_get (D := D) (ci := 7) (v := .ref (a 15)) (C := RX7) (T := TX7) (N := 32) hx hb hG inG7 hown hK hP 0 at_M_0_0 rfl 29 (by decide) (hG _ g_593) (fun _ h9 => h9) rfl dX7_readsThought_35 ?_
    refine lv_iconst (v := (0 : Int32)) hx hb dX7_readsThought_38 (by decide) ?_
    obtain ⟨hb39, hf⟩ := gd hf
    refine va_iald (cA := cI) (n := 4) (f := q2.2 15) hx hb hK hP 15 0 at_M_0_15 rfl (inb_in hb39) dX7_readsThought_39 ?_
    refine lv_imul hx hb dX7_readsThought_40 ?_
    refine lv_aload_n hx hb dX7_readsThought_41 rfl (lv_at hl 1 rfl) ?_
    refine va_get (D := D) (ci := 7) (v := .ref (a 15)) (C := RX7) (T := TX7) (N := 32) hx hb hG inG7 hown hK hP 0 at_M_0_0 rfl 29 (by decide) (hG _ g_593) (fun _ h9 => h9) rfl dX7_readsThought_42 ?_
    refine lv_iconst (v := (1 : Int32)) hx hb dX7_readsThought_45 (by decide) ?_
    obtain ⟨hb46, hf⟩ := gd hf
    refine va_iald (cA := cI) (n := 4) (f := q2.2 15) hx hb hK hP 15 0 at_M_0_15 rfl (inb_in hb46) dX7_readsThought_46 ?_
    refine lv_iadd hx hb dX7_readsThought_47 ?_
    obtain ⟨hb48, hf⟩ := gd hf
    refine va_iald (cA := cI) (n := 30) (f := q2.2 14) hx hb hK hP 14 0 at_M_0_14 rfl (inb_in hb48) dX7_readsThought_48 ?_
    refine lv_iconst (v := (-1 : Int32)) hx hb dX7_readsThought_49 (by decide) ?_
    refine lv_icmp_eq (tgt := 55) hx hb dX7_readsThought_50 (by decide) (fun cc50 => ?_) (fun cc50 => ?_)
    · have hf := if_t cc50 hf
      exact J55  _ _ _ hP hD hS (lv_sub hl [1, 0] rfl) hf
    · have hf := if_f cc50 hf
      refine lv_iconst (v := (4 : Int32)) hx hb dX7_readsThought_53 (by decide) ?_
      exact W.iret (v := (4 : Int32)) hx hb hr (fun t ht hW => ⟨⟨(4 : Int32), q2.2, rfl, ⟨pr_1 hf, pr_2 hf⟩, by rw [ht]; exact hP, hD⟩, hS.F ht⟩) hS.2.2 dX7_readsThought_54
def f_X7_clause_j104 (X2 : HC)  : Option (Int32 × HC) := some ((1 : Int32), X2)
def f_X7_clause_j92 (X2 : HC) (v3 : Int32) (v4 : Int32)  : Option (Int32 × HC) := (if v4 = 0 then f_X7_clause_j104 X2 else (if v3 = 0 then some ((3 : Int32), X2) else f_X7_clause_j104 X2))
def f_X7_clause_j166 (v1 : Int32) (X2 : HC)  : Option (Int32 × HC) := nm (sf X2 17 ((X2 0 17) + (1 : Int32))) (fun (X6 : HC) => (if v1 = (99 : Int32) then bd (f_X7_readsChat X6) (fun (q7 : Int32 × HC) => some (q7.1, q7.2)) else (if v1 = (102 : Int32) then bd (f_X7_readsFighter X6) (fun (q8 : Int32 × HC) => some (q8.1, q8.2)) else (if v1 = (112 : Int32) then bd (f_X7_readsPeople X6) (fun (q9 : Int32 × HC) => some (q9.1, q9.2)) else (if v1 = (114 : Int32) then bd (f_X7_readsTrick X6) (fun (q10 : Int32 × HC) => some (q10.1, q10.2)) else (if v1 = (116 : Int32) then bd (f_X7_readsTask X6) (fun (q11 : Int32 × HC) => some (q11.1, q11.2)) else bd (f_X7_readsThought X6) (fun (q12 : Int32 × HC) => some (q12.1, q12.2))))))))
def f_X7_clause_j150 (v1 : Int32) (X2 : HC)  : Option (Int32 × HC) := (if v1 = (114 : Int32) then (if (X2 0 26) = (4 : Int32) then some ((3 : Int32), X2) else f_X7_clause_j166 v1 X2) else f_X7_clause_j166 v1 X2)
def f_X7_clause_j135 (v1 : Int32) (X2 : HC)  : Option (Int32 × HC) := (if v1 = (116 : Int32) then (if (X2 0 24) = (6 : Int32) then some ((3 : Int32), X2) else f_X7_clause_j150 v1 X2) else f_X7_clause_j150 v1 X2)
def f_X7_clause_j120 (v1 : Int32) (X2 : HC)  : Option (Int32 × HC) := (if v1 = (99 : Int32) then (if (X2 0 22) = (10 : Int32) then some ((3 : Int32), X2) else f_X7_clause_j135 v1 X2) else f_X7_clause_j135 v1 X2)
def f_X7_clause_j89 (v1 : Int32) (X2 : HC) (v3 : Int32) (v4 : Int32) (v5 : Int32) : Option (Int32 × HC) := (if v3 = v5 then (if v1 = (102 : Int32) then (if (X2 0 20) = (5 : Int32) then some ((3 : Int32), X2) else f_X7_clause_j120 v1 X2) else f_X7_clause_j120 v1 X2) else f_X7_clause_j92 X2 v3 v4)
def f_X7_clause_j72 (v1 : Int32) (X2 : HC) (v3 : Int32) (v4 : Int32) : Option (Int32 × HC) := (if v4 = 0 then f_X7_clause_j92 X2 v3 v4 else (if v1 = (112 : Int32) then f_X7_clause_j89 v1 X2 v3 v4 (1 : Int32) else f_X7_clause_j89 v1 X2 v3 v4 (0 : Int32)))
def f_X7_clause_j67 (v1 : Int32) (X2 : HC) (v3 : Int32)  : Option (Int32 × HC) := f_X7_clause_j72 v1 X2 v3 (1 : Int32)
def f_X7_clause_j30 (v1 : Int32) (X2 : HC) (v3 : Int32) : Option (Int32 × HC) := (if v1 = (112 : Int32) then f_X7_clause_j67 v1 X2 v3 else (if v1 = (102 : Int32) then f_X7_clause_j67 v1 X2 v3 else (if v1 = (99 : Int32) then f_X7_clause_j67 v1 X2 v3 else (if v1 = (116 : Int32) then f_X7_clause_j67 v1 X2 v3 else (if v1 = (114 : Int32) then f_X7_clause_j67 v1 X2 v3 else (if v1 = (101 : Int32) then f_X7_clause_j67 v1 X2 v3 else f_X7_clause_j72 v1 X2 v3 (0 : Int32)))))))
def f_X7_clause (x : HC) : Option (Int32 × HC) := (if inb (x 0 17) 250 then nm (x 3 (Int32.toNatClampNeg (x 0 17))) (fun (v1 : Int32) => nm (sf x 18 (x 0 17)) (fun (X2 : HC) => (if (X2 0 19) = 0 then f_X7_clause_j30 v1 X2 (1 : Int32) else f_X7_clause_j30 v1 X2 (0 : Int32)))) else none)
abbrev RM_X7_clause : Room := { frames := 5, cells := 0, slots := 0, locals := 115 }
set_option maxHeartbeats 4000000 in
set_option maxRecDepth 100000 in
theorem c_X7_clause (l : Launch) (D : va_G) (cI cZ : ClassId) (a : Nat → Nat) (x : HC) (sz : Nat) {r : Int32 × HC} (hf : f_X7_clause x = some r) : Met l yX7_clause (wM yX7_clause cX7_clause 4 (some .int)) RM_X7_clause (va_Pc [.ref (a 0)] (pre D cI cZ (kM cI cZ a x) sz)) (QI D (va_A (kM cI cZ a x) sz) (fun (u : HC) => (kM cI cZ a u)) r) 0 0 (va_A (kM cI cZ a x) sz) := by
  unfold f_X7_clause at hf
  refine Met.ofW (cc := cX7_clause) (maxL := 4) (ret := (some .int)) (by decide) rfl ?_
  intro p e s m args below meth c s₁ B hml hv
  obtain ⟨rfl, hsz, hP, hK, hD0, hnw⟩ := hv
  have hx := B.exec
  have hb := B.bytes
  have hr := B.returns
  have hts := atoms_spec (ws := wM yX7_clause cX7_clause 4 (some .int)) B.pre
  have hG : ∀ w ∈ GW, w.before (([.ref (a 0)] : List Value).toArray) s = true := fun w h => hts w (List.mem_cons_of_mem _ h)
  have hown : s.vm.findClass RX7 = some m.cls := findClass_of_methodNamed B.named
  have hlocks := B.notSynchronized
  subst hsz
  have hD := hD0.self (sz := s.heap.size)
  generalize hAe : va_A (kM cI cZ a x) s.heap.size = A at hD ⊢
  have hA : ∀ q : Nat, s.heap.size ≤ q → A q := fun q h => by rw [← hAe]; exact Or.inr h
  have hS : va_S A s.heap s.heap [] := va_S.rf
  have hl := lv_entry ([.ref (a 0)]) (n := 4) (Nat.le_of_ble_eq_true rfl)
  rw [lg_entry_eq]
  generalize (lg_sl ([.ref (a 0)]) ++ List.replicate (4 - (lg_sl ([.ref (a 0)])).length) Slot.unset).toArray = ls at hl ⊢
  have hl : lv_has ls 4 [(0, .ref (a 0))] := hl
  show W p l e RM_X7_clause s m (([.ref (a 0)] : List Value).toArray) below meth c s.heap [] 0 0 (MQ below (QI D A (fun (u : HC) => (kM cI cZ a u)) r) (([.ref (a 0)] : List Value).toArray) s 0 0 A) (F0 m 0 ls [])
  refine lv_aload_n hx hb dX7_clause_0 rfl (lv_at hl 0 rfl) ?_
  refine va_get (D := D) (ci := 7) (v := .ref (a 3)) (C := RX7) (T := TX7) (N := 32) hx hb hG inG7 hown hK hP 0 at_M_0_0 rfl 2 (by decide) (hG _ g_566) (fun _ h9 => h9) rfl dX7_clause_1 ?_
  refine lv_aload_n hx hb dX7_clause_4 rfl (lv_at hl 0 rfl) ?_
  refine va_get (D := D) (ci := 7) (v := .int (x 0 17)) (C := RX7) (T := TX7) (N := 32) hx hb hG inG7 hown hK hP 0 at_M_0_0 rfl 17 (by decide) (hG _ g_581) (fun _ h9 => h9) rfl dX7_clause_5 ?_
  obtain ⟨hb8, hf⟩ := gd hf
  refine va_iald (cA := cI) (n := 250) (f := x 3) hx hb hK hP 3 0 at_M_0_3 rfl (inb_in hb8) dX7_clause_8 ?_
  refine lv_topi (fun v1 ev1 => ?_)
  have hf := nm_x ev1 hf
  refine lv_istore_n (lv' := [(1, .int v1), (0, .ref (a 0))]) hx hb dX7_clause_9 rfl hl (by decide) rfl (fun ls hl => ?_)
  refine lv_aload_n hx hb dX7_clause_10 rfl (lv_at hl 1 rfl) ?_
  refine lv_aload_n hx hb dX7_clause_11 rfl (lv_at hl 1 rfl) ?_
  refine va_get (D := D) (ci := 7) (v := .int (x 0 17)) (C := RX7) (T := TX7) (N := 32) hx hb hG inG7 hown hK hP 0 at_M_0_0 rfl 17 (by decide) (hG _ g_581) (fun _ h9 => h9) rfl dX7_clause_12 ?_
  refine va_put (D := D) (ci := 7) (v := .int (x 0 17)) (ty := .int) (C := RX7) (T := TX7) (N := 32) hx hb hG inG7 tyX7 tyX7_ok nmX7 hown hK hP hD hS 0 at_M_0_0 rfl 18 (by decide) (hG _ g_582) (fun _ h9 => h9) rfl (by decide +kernel) rfl rfl (Nat.le_of_ble_eq_true rfl) dX7_clause_15 (fun H locs hP hD hS => ?_)
  obtain ⟨X2, eX2⟩ : ∃ y : HC, y = (sf x 18 (x 0 17)) := ⟨_, rfl⟩
  have hf := nm_x eX2 hf
  have hP := wP (sf_M_0_18.trans (congrArg (fun z : HC => (kM cI cZ a z)) eX2.symm)) hP
  have hD := wD (sf_M_0_18.trans (congrArg (fun z : HC => (kM cI cZ a z)) eX2.symm)) hD
  refine lv_aload_n hx hb dX7_clause_18 rfl (lv_at hl 1 rfl) ?_
  refine va_get (D := D) (ci := 7) (v := .int (X2 0 19)) (C := RX7) (T := TX7) (N := 32) hx hb hG inG7 hown hK hP 0 at_M_0_0 rfl 19 (by decide) (hG _ g_583) (fun _ h9 => h9) rfl dX7_clause_19 ?_
  have J30 : ∀ (v3 : Int32) (H : Heap) (locs : List Loc) (ls : Array Slot), va_P D vwCl (kM cI cZ a X2) H → va_D A (kM cI cZ a X2) → va_S A s.heap H locs → lv_has ls 4 [(0, .ref (a 0)), (1, .int v1)] → f_X7_clause_j30 v1 X2 v3 = some r → W p l e RM_X7_clause s m (([.ref (a 0)] : List Value).toArray) below meth c H locs 0 0 (MQ below (QI D A (fun (u : HC) => (kM cI cZ a u)) r) (([.ref (a 0)] : List Value).toArray) s 0 0 A) (F0 m 30 ls [.int v3]) := by
    intro v3 H locs ls hP hD hS hl hf
    unfold f_X7_clause_j30 at hf
    refine lv_istore_n (lv' := [(2, .int v3), (0, .ref (a 0)), (1, .int v1)]) hx hb dX7_clause_30 rfl hl (by decide) rfl (fun ls hl => ?_)
    refine lv_iload_n hx hb dX7_clause_31 rfl (lv_at hl 2 rfl) ?_
    refine lv_bipush (v := (112 : Int32)) hx hb dX7_clause_32 (by decide) ?_
    have J72 : ∀ (v4 : Int32) (H : Heap) (locs : List Loc) (ls : Array Slot), va_P D vwCl (kM cI cZ a X2) H → va_D A (kM cI cZ a X2) → va_S A s.heap H locs → lv_has ls 4 [(0, .ref (a 0)), (1, .int v1), (2, .int v3)] → f_X7_clause_j72 v1 X2 v3 v4 = some r → W p l e RM_X7_clause s m (([.ref (a 0)] : List Value).toArray) below meth c H locs 0 0 (MQ below (QI D A (fun (u : HC) => (kM cI cZ a u)) r) (([.ref (a 0)] : List Value).toArray) s 0 0 A) (F0 m 72 ls [.int v4]) := by
      intro v4 H locs ls hP hD hS hl hf
      unfold f_X7_clause_j72 at hf
      refine lv_istore_n (lv' := [(3, .int v4), (0, .ref (a 0)), (1, .int v1), (2, .int v3)]) hx hb dX7_clause_72 rfl hl (by decide) rfl (fun ls hl => ?_)
      refine lv_iload_n hx hb dX7_clause_73 rfl (lv_at hl 0 rfl) ?_
      have J92 : ∀  (H : Heap) (locs : List Loc) (ls : Array Slot), va_P D vwCl (kM cI cZ a X2) H → va_D A (kM cI cZ a X2) → va_S A s.heap H locs → lv_has ls 4 [(2, .int v3), (3, .int v4)] → f_X7_clause_j92 X2 v3 v4  = some r → W p l e RM_X7_clause s m (([.ref (a 0)] : List Value).toArray) below meth c H locs 0 0 (MQ below (QI D A (fun (u : HC) => (kM cI cZ a u)) r) (([.ref (a 0)] : List Value).toArray) s 0 0 A) (F0 m 92 ls []) := by
        intro  H locs ls hP hD hS hl hf
        unfold f_X7_clause_j92 at hf
        refine lv_iload_n hx hb dX7_clause_92 rfl (lv_at hl 1 rfl) ?_
        have J104 : ∀  (H : Heap) (locs : List Loc) (ls : Array Slot), va_P D vwCl (kM cI cZ a X2) H → va_D A (kM cI cZ a X2) → va_S A s.heap H locs → lv_has ls 4 [] → f_X7_clause_j104 X2  = some r → W p l e RM_X7_clause s m (([.ref (a 0)] : List Value).toArray) below meth c H locs 0 0 (MQ below (QI D A (fun (u : HC) => (kM cI cZ a u)) r) (([.ref (a 0)] : List Value).toArray) s 0 0 A) (F0 m 104 ls []) := by
          intro  H locs ls hP hD hS hl hf
          unfold f_X7_clause_j104 at hf
          refine lv_iconst (v := (1 : Int32)) hx hb dX7_clause_104 (by decide) ?_
          exact W.iret (v := (1 : Int32)) hx hb hr (fun t ht hW => ⟨⟨(1 : Int32), X2, rfl, ⟨pr_1 hf, pr_2 hf⟩, by rw [ht]; exact hP, hD⟩, hS.F ht⟩) hS.2.2 dX7_clause_105
        refine lv_if_eq (tgt := 104) hx hb dX7_clause_93 (by decide) (fun cc93 => ?_) (fun cc93 => ?_)
        · have hf := if_t cc93 hf
          exact J104  _ _ _ hP hD hS (lv_sub hl [] rfl) hf
        · have hf := if_f cc93 hf
          refine lv_iload_n hx hb dX7_clause_96 rfl (lv_at hl 0 rfl) ?_
          refine lv_if_ne (tgt := 104) hx hb dX7_clause_97 (by decide) (fun cc97 => ?_) (fun cc97 => ?_)
          · have hf := if_f cc97 hf
            exact J104  _ _ _ hP hD hS (lv_sub hl [] rfl) hf
          · have hf := if_t cc97 hf
            refine lv_iconst (v := (3 : Int32)) hx hb dX7_clause_100 (by decide) ?_
            refine lv_goto (tgt := 105) hx hb dX7_clause_101 (by decide) ?_
            exact W.iret (v := (3 : Int32)) hx hb hr (fun t ht hW => ⟨⟨(3 : Int32), X2, rfl, ⟨pr_1 hf, pr_2 hf⟩, by rw [ht]; exact hP, hD⟩, hS.F ht⟩) hS.2.2 dX7_clause_105
      refine lv_if_eq (tgt := 92) hx hb dX7_clause_74 (by decide) (fun cc74 => ?_) (fun cc74 => ?_)
      · have hf := if_t cc74 hf
        exact J92  _ _ _ hP hD hS (lv_sub hl [3, 0] rfl) hf
      · have hf := if_f cc74 hf
        refine lv_iload_n hx hb dX7_clause_77 rfl (lv_at hl 3 rfl) ?_
        refine lv_iload_n hx hb dX7_clause_78 rfl (lv_at hl 2 rfl) ?_
        refine lv_bipush (v := (112 : Int32)) hx hb dX7_clause_79 (by decide) ?_
        have J89 : ∀ (v5 : Int32) (H : Heap) (locs : List Loc) (ls : Array Slot), va_P D vwCl (kM cI cZ a X2) H → va_D A (kM cI cZ a X2) → va_S A s.heap H locs → lv_has ls 4 [(0, .ref (a 0)), (1, .int v1), (2, .int v3), (3, .int v4)] → f_X7_clause_j89 v1 X2 v3 v4 v5 = some r → W p l e RM_X7_clause s m (([.ref (a 0)] : List Value).toArray) below meth c H locs 0 0 (MQ below (QI D A (fun (u : HC) => (kM cI cZ a u)) r) (([.ref (a 0)] : List Value).toArray) s 0 0 A) (F0 m 89 ls [.int v5, .int v3]) := by
          intro v5 H locs ls hP hD hS hl hf
          unfold f_X7_clause_j89 at hf
          refine lv_icmp_eq (tgt := 106) hx hb dX7_clause_89 (by decide) (fun cc89 => ?_) (fun cc89 => ?_)
          · have hf := if_t cc89 hf
            refine lv_iload_n hx hb dX7_clause_106 rfl (lv_at hl 1 rfl) ?_
            refine lv_bipush (v := (102 : Int32)) hx hb dX7_clause_107 (by decide) ?_
            have J120 : ∀  (H : Heap) (locs : List Loc) (ls : Array Slot), va_P D vwCl (kM cI cZ a X2) H → va_D A (kM cI cZ a X2) → va_S A s.heap H locs → lv_has ls 4 [(0, .ref (a 0)), (1, .int v1)] → f_X7_clause_j120 v1 X2  = some r → W p l e RM_X7_clause s m (([.ref (a 0)] : List Value).toArray) below meth c H locs 0 0 (MQ below (QI D A (fun (u : HC) => (kM cI cZ a u)) r) (([.ref (a 0)] : List Value).toArray) s 0 0 A) (F0 m 120 ls []) := by
              intro  H locs ls hP hD hS hl hf
              unfold f_X7_clause_j120 at hf
              refine lv_iload_n hx hb dX7_clause_120 rfl (lv_at hl 1 rfl) ?_
              refine lv_bipush (v := (99 : Int32)) hx hb dX7_clause_121 (by decide) ?_
              have J135 : ∀  (H : Heap) (locs : List Loc) (ls : Array Slot), va_P D vwCl (kM cI cZ a X2) H → va_D A (kM cI cZ a X2) → va_S A s.heap H locs → lv_has ls 4 [(0, .ref (a 0)), (1, .int v1)] → f_X7_clause_j135 v1 X2  = some r → W p l e RM_X7_clause s m (([.ref (a 0)] : List Value).toArray) below meth c H locs 0 0 (MQ below (QI D A (fun (u : HC) => (kM cI cZ a u)) r) (([.ref (a 0)] : List Value).toArray) s 0 0 A) (F0 m 135 ls []) := by
                intro  H locs ls hP hD hS hl hf
                unfold f_X7_clause_j135 at hf
                refine lv_iload_n hx hb dX7_clause_135 rfl (lv_at hl 1 rfl) ?_
                refine lv_bipush (v := (116 : Int32)) hx hb dX7_clause_136 (by decide) ?_
                have J150 : ∀  (H : Heap) (locs : List Loc) (ls : Array Slot), va_P D vwCl (kM cI cZ a X2) H → va_D A (kM cI cZ a X2) → va_S A s.heap H locs → lv_has ls 4 [(0, .ref (a 0)), (1, .int v1)] → f_X7_clause_j150 v1 X2  = some r → W p l e RM_X7_clause s m (([.ref (a 0)] : List Value).toArray) below meth c H locs 0 0 (MQ below (QI D A (fun (u : HC) => (kM cI cZ a u)) r) (([.ref (a 0)] : List Value).toArray) s 0 0 A) (F0 m 150 ls []) := by
                  intro  H locs ls hP hD hS hl hf
                  unfold f_X7_clause_j150 at hf
                  refine lv_iload_n hx hb dX7_clause_150 rfl (lv_at hl 1 rfl) ?_
                  refine lv_bipush (v := (114 : Int32)) hx hb dX7_clause_151 (by decide) ?_
                  have J166 : ∀  (H : Heap) (locs : List Loc) (ls : Array Slot), va_P D vwCl (kM cI cZ a X2) H → va_D A (kM cI cZ a X2) → va_S A s.heap H locs → lv_has ls 4 [(0, .ref (a 0)), (1, .int v1)] → f_X7_clause_j166 v1 X2  = some r → W p l e RM_X7_clause s m (([.ref (a 0)] : List Value).toArray) below meth c H locs 0 0 (MQ below (QI D A (fun (u : HC) => (kM cI cZ a u)) r) (([.ref (a 0)] : List Value).toArray) s 0 0 A) (F0 m 166 ls []) := by
                    intro  H locs ls hP hD hS hl hf
                    unfold f_X7_clause_j166 at hf
                    refine lv_aload_n hx hb dX7_clause_166 rfl (lv_at hl 0 rfl) ?_
                    refine lv_dup hx hb dX7_clause_167 rfl ?_
                    refine va_get (D := D) (ci := 7) (v := .int (X2 0 17)) (C := RX7) (T := TX7) (N := 32) hx hb hG inG7 hown hK hP 0 at_M_0_0 rfl 17 (by decide) (hG _ g_581) (fun _ h9 => h9) rfl dX7_clause_168 ?_
                    refine lv_iconst (v := (1 : Int32)) hx hb dX7_clause_171 (by decide) ?_
                    refine lv_iadd hx hb dX7_clause_172 ?_
                    refine va_put (D := D) (ci := 7) (v := .int ((X2 0 17) + (1 : Int32))) (ty := .int) (C := RX7) (T := TX7) (N := 32) hx hb hG inG7 tyX7 tyX7_ok nmX7 hown hK hP hD hS 0 at_M_0_0 rfl 17 (by decide) (hG _ g_581) (fun _ h9 => h9) rfl (by decide +kernel) rfl rfl (Nat.le_of_ble_eq_true rfl) dX7_clause_173 (fun H locs hP hD hS => ?_)
                    obtain ⟨X6, eX6⟩ : ∃ y : HC, y = (sf X2 17 ((X2 0 17) + (1 : Int32))) := ⟨_, rfl⟩
                    have hf := nm_x eX6 hf
                    have hP := wP (sf_M_0_17.trans (congrArg (fun z : HC => (kM cI cZ a z)) eX6.symm)) hP
                    have hD := wD (sf_M_0_17.trans (congrArg (fun z : HC => (kM cI cZ a z)) eX6.symm)) hD
                    refine lv_iload_n hx hb dX7_clause_176 rfl (lv_at hl 1 rfl) ?_
                    by_cases sw0 : v1 = (99 : Int32)
                    · have hf := if_t sw0 hf
                      refine lv_lokK (tgt := 238) (k := (99 : Int32)) hx hb dX7_clause_177 (by decide) sw0 rfl (by decide) ?_
                      refine lv_aload_n hx hb dX7_clause_238 rfl (lv_at hl 0 rfl) ?_
                      obtain ⟨q7, hq7, hf⟩ := bd_x hf
                      have hFc := freeS hD hS hA
                      refine va_calli (va_runV (As := []) (rest := []) ⟨hx, hb, hml, hown, hG⟩ (c_X7_readsChat l D cI cZ a X6 H.size hq7) (cwV 0 hG (gV g_640 g_641 g_41 g_77 g_642) rfl rfl rfl (by decide +kernel) ⟨Nat.le_of_ble_eq_true rfl, Nat.le_of_ble_eq_true rfl⟩) ⟨pre_blind, va_recv hK hP (ci := 7) (q0 := 0) rfl rfl, fun U hU hW => ⟨rfl, pre_of hP hK hD hnw hU hW⟩⟩ rfl rfl hl.1 rfl (lv_room (Nat.le_of_ble_eq_true rfl)) dX7_clause_239 ⟨Nat.le_of_ble_eq_true rfl, Nat.le_of_ble_eq_true rfl⟩) hS (fun q _ h => hFc q h) hFc (fun v u t H locs ht hvm hw hB hz1 hk1 hS => ?_)
                      obtain ⟨rfl, rfl⟩ := hw
                      obtain ⟨hP1, hD1⟩ := hB
                      rw [ht] at hP1
                      have hP := hP1
                      have hD := hD1.weaken (fun _ q _ h => hFc q.1 h)
                      exact W.iret (v := q7.1) hx hb hr (fun t ht hW => ⟨⟨q7.1, q7.2, rfl, ⟨pr_1 hf, pr_2 hf⟩, by rw [ht]; exact hP, hD⟩, hS.F ht⟩) hS.2.2 dX7_clause_242
                    · have hf := if_f sw0 hf
                      by_cases sw1 : v1 = (102 : Int32)
                      · have hf := if_t sw1 hf
                        refine lv_lokK (tgt := 233) (k := (102 : Int32)) hx hb dX7_clause_177 (by decide) sw1 rfl (by decide) ?_
                        refine lv_aload_n hx hb dX7_clause_233 rfl (lv_at hl 0 rfl) ?_
                        obtain ⟨q8, hq8, hf⟩ := bd_x hf
                        have hFc := freeS hD hS hA
                        refine va_calli (va_runV (As := []) (rest := []) ⟨hx, hb, hml, hown, hG⟩ (c_X7_readsFighter l D cI cZ a X6 H.size hq8) (cwV 0 hG (gV g_634 g_635 g_39 g_77 g_636) rfl rfl rfl (by decide +kernel) ⟨Nat.le_of_ble_eq_true rfl, Nat.le_of_ble_eq_true rfl⟩) ⟨pre_blind, va_recv hK hP (ci := 7) (q0 := 0) rfl rfl, fun U hU hW => ⟨rfl, pre_of hP hK hD hnw hU hW⟩⟩ rfl rfl hl.1 rfl (lv_room (Nat.le_of_ble_eq_true rfl)) dX7_clause_234 ⟨Nat.le_of_ble_eq_true rfl, Nat.le_of_ble_eq_true rfl⟩) hS (fun q _ h => hFc q h) hFc (fun v u t H locs ht hvm hw hB hz1 hk1 hS => ?_)
                        obtain ⟨rfl, rfl⟩ := hw
                        obtain ⟨hP1, hD1⟩ := hB
                        rw [ht] at hP1
                        have hP := hP1
                        have hD := hD1.weaken (fun _ q _ h => hFc q.1 h)
                        exact W.iret (v := q8.1) hx hb hr (fun t ht hW => ⟨⟨q8.1, q8.2, rfl, ⟨pr_1 hf, pr_2 hf⟩, by rw [ht]; exact hP, hD⟩, hS.F ht⟩) hS.2.2 dX7_clause_237
                      · have hf := if_f sw1 hf
                        by_cases sw2 : v1 = (112 : Int32)
                        · have hf := if_t sw2 hf
                          refine lv_lokK (tgt := 228) (k := (112 : Int32)) hx hb dX7_clause_177 (by decide) sw2 rfl (by decide) ?_
                          refine lv_aload_n hx hb dX7_clause_228 rfl (lv_at hl 0 rfl) ?_
                          obtain ⟨q9, hq9, hf⟩ := bd_x hf
                          have hFc := freeS hD hS hA
                          refine va_calli (va_runV (As := []) (rest := []) ⟨hx, hb, hml, hown, hG⟩ (c_X7_readsPeople l D cI cZ a X6 H.size hq9) (cwV 0 hG (gV g_620 g_621 g_36 g_77 g_622) rfl rfl rfl (by decide +kernel) ⟨Nat.le_of_ble_eq_true rfl, Nat.le_of_ble_eq_true rfl⟩) ⟨pre_blind, va_recv hK hP (ci := 7) (q0 := 0) rfl rfl, fun U hU hW => ⟨rfl, pre_of hP hK hD hnw hU hW⟩⟩ rfl rfl hl.1 rfl (lv_room (Nat.le_of_ble_eq_true rfl)) dX7_clause_229 ⟨Nat.le_of_ble_eq_true rfl, Nat.le_of_ble_eq_true rfl⟩) hS (fun q _ h => hFc q h) hFc (fun v u t H locs ht hvm hw hB hz1 hk1 hS => ?_)
                          obtain ⟨rfl, rfl⟩ := hw
                          obtain ⟨hP1, hD1⟩ := hB
                          rw [ht] at hP1
                          have hP := hP1
                          have hD := hD1.weaken (fun _ q _ h => hFc q.1 h)
                          exact W.iret (v := q9.1) hx hb hr (fun t ht hW => ⟨⟨q9.1, q9.2, rfl, ⟨pr_1 hf, pr_2 hf⟩, by rw [ht]; exact hP, hD⟩, hS.F ht⟩) hS.2.2 dX7_clause_232
                        · have hf := if_f sw2 hf
                          by_cases sw3 : v1 = (114 : Int32)
                          · have hf := if_t sw3 hf
                            refine lv_lokK (tgt := 248) (k := (114 : Int32)) hx hb dX7_clause_177 (by decide) sw3 rfl (by decide) ?_
                            refine lv_aload_n hx hb dX7_clause_248 rfl (lv_at hl 0 rfl) ?_
                            obtain ⟨q10, hq10, hf⟩ := bd_x hf
                            have hFc := freeS hD hS hA
                            refine va_calli (va_runV (As := []) (rest := []) ⟨hx, hb, hml, hown, hG⟩ (c_X7_readsTrick l D cI cZ a X6 H.size hq10) (cwV 0 hG (gV g_649 g_650 g_43 g_77 g_651) rfl rfl rfl (by decide +kernel) ⟨Nat.le_of_ble_eq_true rfl, Nat.le_of_ble_eq_true rfl⟩) ⟨pre_blind, va_recv hK hP (ci := 7) (q0 := 0) rfl rfl, fun U hU hW => ⟨rfl, pre_of hP hK hD hnw hU hW⟩⟩ rfl rfl hl.1 rfl (lv_room (Nat.le_of_ble_eq_true rfl)) dX7_clause_249 ⟨Nat.le_of_ble_eq_true rfl, Nat.le_of_ble_eq_true rfl⟩) hS (fun q _ h => hFc q h) hFc (fun v u t H locs ht hvm hw hB hz1 hk1 hS => ?_)
                            obtain ⟨rfl, rfl⟩ := hw
                            obtain ⟨hP1, hD1⟩ := hB
                            rw [ht] at hP1
                            have hP := hP1
                            have hD := hD1.weaken (fun _ q _ h => hFc q.1 h)
                            exact W.iret (v := q10.1) hx hb hr (fun t ht hW => ⟨⟨q10.1, q10.2, rfl, ⟨pr_1 hf, pr_2 hf⟩, by rw [ht]; exact hP, hD⟩, hS.F ht⟩) hS.2.2 dX7_clause_252
                          · have hf := if_f sw3 hf
                            by_cases sw4 : v1 = (116 : Int32)
                            · have hf := if_t sw4 hf
                              refine lv_lokK (tgt := 243) (k := (116 : Int32)) hx hb dX7_clause_177 (by decide) sw4 rfl (by decide) ?_
                              refine lv_aload_n hx hb dX7_clause_243 rfl (lv_at hl 0 rfl) ?_
                              obtain ⟨q11, hq11, hf⟩ := bd_x hf
                              have hFc := freeS hD hS hA
                              refine va_calli (va_runV (As := []) (rest := []) ⟨hx, hb, hml, hown, hG⟩ (c_X7_readsTask l D cI cZ a X6 H.size hq11) (cwV 0 hG (gV g_646 g_647 g_42 g_77 g_648) rfl rfl rfl (by decide +kernel) ⟨Nat.le_of_ble_eq_true rfl, Nat.le_of_ble_eq_true rfl⟩) ⟨pre_blind, va_recv hK hP (ci := 7) (q0 := 0) rfl rfl, fun U hU hW => ⟨rfl, pre_of hP hK hD hnw hU hW⟩⟩ rfl rfl hl.1 rfl (lv_room (Nat.le_of_ble_eq_true rfl)) dX7_clause_244 ⟨Nat.le_of_ble_eq_true rfl, Nat.le_of_ble_eq_true rfl⟩) hS (fun q _ h => hFc q h) hFc (fun v u t H locs ht hvm hw hB hz1 hk1 hS => ?_)
                              obtain ⟨rfl, rfl⟩ := hw
                              obtain ⟨hP1, hD1⟩ := hB
                              rw [ht] at hP1
                              have hP := hP1
                              have hD := hD1.weaken (fun _ q _ h => hFc q.1 h)
                              exact W.iret (v := q11.1) hx hb hr (fun t ht hW => ⟨⟨q11.1, q11.2, rfl, ⟨pr_1 hf, pr_2 hf⟩, by rw [ht]; exact hP, hD⟩, hS.F ht⟩) hS.2.2 dX7_clause_247
                            · have hf := if_f sw4 hf
                              refine lv_lookup (tgt := 253) (off := 76) hx hb dX7_clause_177 (by decide) (by rw [show ∀ r0 : List (Int × Int), Op.lookupswitch.offset ((99, 61) :: r0) 76 v1.toInt = Op.lookupswitch.offset r0 76 v1.toInt from fun r0 => lv_osw (k := (99 : Int32)) sw0 rfl]; rw [show ∀ r0 : List (Int × Int), Op.lookupswitch.offset ((102, 56) :: r0) 76 v1.toInt = Op.lookupswitch.offset r0 76 v1.toInt from fun r0 => lv_osw (k := (102 : Int32)) sw1 rfl]; rw [show ∀ r0 : List (Int × Int), Op.lookupswitch.offset ((112, 51) :: r0) 76 v1.toInt = Op.lookupswitch.offset r0 76 v1.toInt from fun r0 => lv_osw (k := (112 : Int32)) sw2 rfl]; rw [show ∀ r0 : List (Int × Int), Op.lookupswitch.offset ((114, 71) :: r0) 76 v1.toInt = Op.lookupswitch.offset r0 76 v1.toInt from fun r0 => lv_osw (k := (114 : Int32)) sw3 rfl]; rw [show ∀ r0 : List (Int × Int), Op.lookupswitch.offset ((116, 66) :: r0) 76 v1.toInt = Op.lookupswitch.offset r0 76 v1.toInt from fun r0 => lv_osw (k := (116 : Int32)) sw4 rfl]; rfl) (by decide) ?_
                              refine lv_aload_n hx hb dX7_clause_253 rfl (lv_at hl 0 rfl) ?_
                              obtain ⟨q12, hq12, hf⟩ := bd_x hf
                              have hFc := freeS hD hS hA
                              refine va_calli (va_runV (As := []) (rest := []) ⟨hx, hb, hml, hown, hG⟩ (c_X7_readsThought l D cI cZ a X6 H.size hq12) (cwV 0 hG (gV g_652 g_653 g_44 g_77 g_654) rfl rfl rfl (by decide +kernel) ⟨Nat.le_of_ble_eq_true rfl, Nat.le_of_ble_eq_true rfl⟩) ⟨pre_blind, va_recv hK hP (ci := 7) (q0 := 0) rfl rfl, fun U hU hW => ⟨rfl, pre_of hP hK hD hnw hU hW⟩⟩ rfl rfl hl.1 rfl (lv_room (Nat.le_of_ble_eq_true rfl)) dX7_clause_254 ⟨Nat.le_of_ble_eq_true rfl, Nat.le_of_ble_eq_true rfl⟩) hS (fun q _ h => hFc q h) hFc (fun v u t H locs ht hvm hw hB hz1 hk1 hS => ?_)
                              obtain ⟨rfl, rfl⟩ := hw
                              obtain ⟨hP1, hD1⟩ := hB
                              rw [ht] at hP1
                              have hP := hP1
                              have hD := hD1.weaken (fun _ q _ h => hFc q.1 h)
                              exact W.iret (v := q12.1) hx hb hr (fun t ht hW => ⟨⟨q12.1, q12.2, rfl, ⟨pr_1 hf, pr_2 hf⟩, by rw [ht]; exact hP, hD⟩, hS.F ht⟩) hS.2.2 dX7_clause_257
                  refine lv_icmp_ne (tgt := 166) hx hb dX7_clause_153 (by decide) (fun cc153 => ?_) (fun cc153 => ?_)
                  · have hf := if_f cc153 hf
                    exact J166  _ _ _ hP hD hS (lv_sub hl [0, 1] rfl) hf
                  · have hf := if_t cc153 hf
                    refine lv_aload_n hx hb dX7_clause_156 rfl (lv_at hl 0 rfl) ?_
                    refine va_get (D := D) (ci := 7) (v := .int (X2 0 26)) (C := RX7) (T := TX7) (N := 32) hx hb hG inG7 hown hK hP 0 at_M_0_0 rfl 26 (by decide) (hG _ g_590) (fun _ h9 => h9) rfl dX7_clause_157 ?_
                    refine lv_iconst (v := (4 : Int32)) hx hb dX7_clause_160 (by decide) ?_
                    refine lv_icmp_ne (tgt := 166) hx hb dX7_clause_161 (by decide) (fun cc161 => ?_) (fun cc161 => ?_)
                    · have hf := if_f cc161 hf
                      exact J166  _ _ _ hP hD hS (lv_sub hl [0, 1] rfl) hf
                    · have hf := if_t cc161 hf
                      refine lv_iconst (v := (3 : Int32)) hx hb dX7_clause_164 (by decide) ?_
                      exact W.iret (v := (3 : Int32)) hx hb hr (fun t ht hW => ⟨⟨(3 : Int32), X2, rfl, ⟨pr_1 hf, pr_2 hf⟩, by rw [ht]; exact hP, hD⟩, hS.F ht⟩) hS.2.2 dX7_clause_165
                refine lv_icmp_ne (tgt := 150) hx hb dX7_clause_138 (by decide) (fun cc138 => ?_) (fun cc138 => ?_)
                · have hf := if_f cc138 hf
                  exact J150  _ _ _ hP hD hS (lv_sub hl [0, 1] rfl) hf
                · have hf := if_t cc138 hf
                  refine lv_aload_n hx hb dX7_clause_141 rfl (lv_at hl 0 rfl) ?_
                  refine va_get (D := D) (ci := 7) (v := .int (X2 0 24)) (C := RX7) (T := TX7) (N := 32) hx hb hG inG7 hown hK hP 0 at_M_0_0 rfl 24 (by decide) (hG _ g_588) (fun _ h9 => h9) rfl dX7_clause_142 ?_
                  refine lv_bipush (v := (6 : Int32)) hx hb dX7_clause_145 (by decide) ?_
                  refine lv_icmp_eq (tgt := 164) hx hb dX7_clause_147 (by decide) (fun cc147 => ?_) (fun cc147 => ?_)
                  · have hf := if_t cc147 hf
                    refine lv_iconst (v := (3 : Int32)) hx hb dX7_clause_164 (by decide) ?_
                    exact W.iret (v := (3 : Int32)) hx hb hr (fun t ht hW => ⟨⟨(3 : Int32), X2, rfl, ⟨pr_1 hf, pr_2 hf⟩, by rw [ht]; exact hP, hD⟩, hS.F ht⟩) hS.2.2 dX7_clause_165
                  · have hf := if_f cc147 hf
                    exact J150  _ _ _ hP hD hS (lv_sub hl [0, 1] rfl) hf
              refine lv_icmp_ne (tgt := 135) hx hb dX7_clause_123 (by decide) (fun cc123 => ?_) (fun cc123 => ?_)
              · have hf := if_f cc123 hf
                exact J135  _ _ _ hP hD hS (lv_sub hl [0, 1] rfl) hf
              · have hf := if_t cc123 hf
                refine lv_aload_n hx hb dX7_clause_126 rfl (lv_at hl 0 rfl) ?_
                refine va_get (D := D) (ci := 7) (v := .int (X2 0 22)) (C := RX7) (T := TX7) (N := 32) hx hb hG inG7 hown hK hP 0 at_M_0_0 rfl 22 (by decide) (hG _ g_586) (fun _ h9 => h9) rfl dX7_clause_127 ?_
                refine lv_bipush (v := (10 : Int32)) hx hb dX7_clause_130 (by decide) ?_
                refine lv_icmp_eq (tgt := 164) hx hb dX7_clause_132 (by decide) (fun cc132 => ?_) (fun cc132 => ?_)
                · have hf := if_t cc132 hf
                  refine lv_iconst (v := (3 : Int32)) hx hb dX7_clause_164 (by decide) ?_
                  exact W.iret (v := (3 : Int32)) hx hb hr (fun t ht hW => ⟨⟨(3 : Int32), X2, rfl, ⟨pr_1 hf, pr_2 hf⟩, by rw [ht]; exact hP, hD⟩, hS.F ht⟩) hS.2.2 dX7_clause_165
                · have hf := if_f cc132 hf
                  exact J135  _ _ _ hP hD hS (lv_sub hl [0, 1] rfl) hf
            refine lv_icmp_ne (tgt := 120) hx hb dX7_clause_109 (by decide) (fun cc109 => ?_) (fun cc109 => ?_)
            · have hf := if_f cc109 hf
              exact J120  _ _ _ hP hD hS (lv_sub hl [0, 1] rfl) hf
            · have hf := if_t cc109 hf
              refine lv_aload_n hx hb dX7_clause_112 rfl (lv_at hl 0 rfl) ?_
              refine va_get (D := D) (ci := 7) (v := .int (X2 0 20)) (C := RX7) (T := TX7) (N := 32) hx hb hG inG7 hown hK hP 0 at_M_0_0 rfl 20 (by decide) (hG _ g_584) (fun _ h9 => h9) rfl dX7_clause_113 ?_
              refine lv_iconst (v := (5 : Int32)) hx hb dX7_clause_116 (by decide) ?_
              refine lv_icmp_eq (tgt := 164) hx hb dX7_clause_117 (by decide) (fun cc117 => ?_) (fun cc117 => ?_)
              · have hf := if_t cc117 hf
                refine lv_iconst (v := (3 : Int32)) hx hb dX7_clause_164 (by decide) ?_
                exact W.iret (v := (3 : Int32)) hx hb hr (fun t ht hW => ⟨⟨(3 : Int32), X2, rfl, ⟨pr_1 hf, pr_2 hf⟩, by rw [ht]; exact hP, hD⟩, hS.F ht⟩) hS.2.2 dX7_clause_165
              · have hf := if_f cc117 hf
                exact J120  _ _ _ hP hD hS (lv_sub hl [0, 1] rfl) hf
          · have hf := if_f cc89 hf
            exact J92  _ _ _ hP hD hS (lv_sub hl [2, 3] rfl) hf
        refine lv_icmp_ne (tgt := 88) hx hb dX7_clause_81 (by decide) (fun cc81 => ?_) (fun cc81 => ?_)
        · have hf := if_f cc81 hf
          refine lv_iconst (v := (0 : Int32)) hx hb dX7_clause_88 (by decide) ?_
          exact J89 (0 : Int32) _ _ _ hP hD hS (lv_sub hl [1, 2, 3, 0] rfl) hf
        · have hf := if_t cc81 hf
          refine lv_iconst (v := (1 : Int32)) hx hb dX7_clause_84 (by decide) ?_
          refine lv_goto (tgt := 89) hx hb dX7_clause_85 (by decide) ?_
          exact J89 (1 : Int32) _ _ _ hP hD hS (lv_sub hl [1, 2, 3, 0] rfl) hf
    have J67 : ∀  (H : Heap) (locs : List Loc) (ls : Array Slot), va_P D vwCl (kM cI cZ a X2) H → va_D A (kM cI cZ a X2) → va_S A s.heap H locs → lv_has ls 4 [(0, .ref (a 0)), (1, .int v1), (2, .int v3)] → f_X7_clause_j67 v1 X2 v3  = some r → W p l e RM_X7_clause s m (([.ref (a 0)] : List Value).toArray) below meth c H locs 0 0 (MQ below (QI D A (fun (u : HC) => (kM cI cZ a u)) r) (([.ref (a 0)] : List Value).toArray) s 0 0 A) (F0 m 67 ls []) := by
      intro  H locs ls hP hD hS hl hf
      unfold f_X7_clause_j67 at hf
      refine lv_iconst (v := (1 : Int32)) hx hb dX7_clause_67 (by decide) ?_
      refine lv_goto (tgt := 72) hx hb dX7_clause_68 (by decide) ?_
      exact J72 (1 : Int32) _ _ _ hP hD hS (lv_sub hl [0, 1, 2] rfl) hf
    refine lv_icmp_eq (tgt := 67) hx hb dX7_clause_34 (by decide) (fun cc34 => ?_) (fun cc34 => ?_)
    · have hf := if_t cc34 hf
      exact J67  _ _ _ hP hD hS (lv_sub hl [1, 2, 0] rfl) hf
    · have hf := if_f cc34 hf
      refine lv_iload_n hx hb dX7_clause_37 rfl (lv_at hl 2 rfl) ?_
      refine lv_bipush (v := (102 : Int32)) hx hb dX7_clause_38 (by decide) ?_
      refine lv_icmp_eq (tgt := 67) hx hb dX7_clause_40 (by decide) (fun cc40 => ?_) (fun cc40 => ?_)
      · have hf := if_t cc40 hf
        exact J67  _ _ _ hP hD hS (lv_sub hl [1, 2, 0] rfl) hf
      · have hf := if_f cc40 hf
        refine lv_iload_n hx hb dX7_clause_43 rfl (lv_at hl 2 rfl) ?_
        refine lv_bipush (v := (99 : Int32)) hx hb dX7_clause_44 (by decide) ?_
        refine lv_icmp_eq (tgt := 67) hx hb dX7_clause_46 (by decide) (fun cc46 => ?_) (fun cc46 => ?_)
        · have hf := if_t cc46 hf
          exact J67  _ _ _ hP hD hS (lv_sub hl [1, 2, 0] rfl) hf
        · have hf := if_f cc46 hf
          refine lv_iload_n hx hb dX7_clause_49 rfl (lv_at hl 2 rfl) ?_
          refine lv_bipush (v := (116 : Int32)) hx hb dX7_clause_50 (by decide) ?_
          refine lv_icmp_eq (tgt := 67) hx hb dX7_clause_52 (by decide) (fun cc52 => ?_) (fun cc52 => ?_)
          · have hf := if_t cc52 hf
            exact J67  _ _ _ hP hD hS (lv_sub hl [1, 2, 0] rfl) hf
          · have hf := if_f cc52 hf
            refine lv_iload_n hx hb dX7_clause_55 rfl (lv_at hl 2 rfl) ?_
            refine lv_bipush (v := (114 : Int32)) hx hb dX7_clause_56 (by decide) ?_
            refine lv_icmp_eq (tgt := 67) hx hb dX7_clause_58 (by decide) (fun cc58 => ?_) (fun cc58 => ?_)
            · have hf := if_t cc58 hf
              exact J67  _ _ _ hP hD hS (lv_sub hl [1, 2, 0] rfl) hf
            · have hf := if_f cc58 hf
              refine lv_iload_n hx hb dX7_clause_61 rfl (lv_at hl 2 rfl) ?_
              refine lv_bipush (v := (101 : Int32)) hx hb dX7_clause_62 (by decide) ?_
              refine lv_icmp_ne (tgt := 71) hx hb dX7_clause_64 (by decide) (fun cc64 => ?_) (fun cc64 => ?_)
              · have hf := if_f cc64 hf
                refine lv_iconst (v := (0 : Int32)) hx hb dX7_clause_71 (by decide) ?_
                exact J72 (0 : Int32) _ _ _ hP hD hS (lv_sub hl [1, 2, 0] rfl) hf
              · have hf := if_t cc64 hf
                exact J67  _ _ _ hP hD hS (lv_sub hl [1, 2, 0] rfl) hf
  refine lv_if_ne (tgt := 29) hx hb dX7_clause_22 (by decide) (fun cc22 => ?_) (fun cc22 => ?_)
  · have hf := if_f cc22 hf
    refine lv_iconst (v := (0 : Int32)) hx hb dX7_clause_29 (by decide) ?_
    exact J30 (0 : Int32) _ _ _ hP hD hS (lv_sub hl [1, 0] rfl) hf
  · have hf := if_t cc22 hf
    refine lv_iconst (v := (1 : Int32)) hx hb dX7_clause_25 (by decide) ?_
    refine lv_goto (tgt := 30) hx hb dX7_clause_26 (by decide) ?_
    exact J30 (1 : Int32) _ _ _ hP hD hS (lv_sub hl [1, 0] rfl) hf
