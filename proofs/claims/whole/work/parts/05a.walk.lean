abbrev CC : Type := Nat → HC
abbrev kW (cI : ClassId) (a : Nat → Nat) (x : HC) : va_W := [(a 0, .inr (0, [.ref (a 1), .ref (a 2)])), (a 1, .inl (cI, 5, .inl (x 1))), (a 2, .inl (cI, 6, .inl (x 2)))]
abbrev kB (cI : ClassId) (a : Nat → Nat) (x : HC) : va_W := [(a 0, .inr (1, [.ref (a 1), .ref (a 2), .int (x 0 2)])), (a 1, .inl (cI, 15, .inl (x 1))), (a 2, .inl (cI, 15, .inl (x 2)))]
abbrev kL (cI : ClassId) (a : Nat → Nat) (x : HC) : va_W := [(a 0, .inr (2, [.int (x 0 0), .int (x 0 1), .int (x 0 2), .int (x 0 3), .int (x 0 4), .int (x 0 5), .ref (a 1), .ref (a 2), .ref (a 3), .ref (a 4), .ref (a 5), .ref (a 6), .ref (a 7), .ref (a 8), .ref (a 9), .ref (a 10), .ref (a 11), .ref (a 12)])), (a 1, .inl (cI, 5, .inl (x 1))), (a 2, .inl (cI, 5, .inl (x 2))), (a 3, .inl (cI, 5, .inl (x 3))), (a 4, .inl (cI, 6, .inl (x 4))), (a 5, .inl (cI, 6, .inl (x 5))), (a 6, .inl (cI, 6, .inl (x 6))), (a 7, .inl (cI, 6, .inl (x 7))), (a 8, .inl (cI, 6, .inl (x 8))), (a 9, .inl (cI, 4, .inl (x 9))), (a 10, .inl (cI, 4, .inl (x 10))), (a 11, .inl (cI, 4, .inl (x 11))), (a 12, .inl (cI, 30, .inl (x 12)))]
abbrev kP (cI : ClassId) (a : Nat → Nat) (x : HC) : va_W := [(a 0, .inr (3, [.ref (a 1), .ref (a 2), .int (x 0 2), .int (x 0 3)])), (a 1, .inl (cI, 6, .inl (x 1))), (a 2, .inl (cI, 6, .inl (x 2)))]
abbrev kS (cI : ClassId) (a : Nat → Nat) (x : HC) : va_W := [(a 0, .inr (4, [.ref (a 1), .ref (a 2), .ref (a 3), .ref (a 4), .int (x 0 4), .int (x 0 5), .int (x 0 6)])), (a 1, .inl (cI, 5, .inl (x 1))), (a 2, .inl (cI, 5, .inl (x 2))), (a 3, .inl (cI, 5, .inl (x 3))), (a 4, .inl (cI, 30, .inl (x 4)))]
abbrev kT (cI : ClassId) (a : Nat → Nat) (x : HC) : va_W := [(a 0, .inr (5, [.ref (a 1), .int (x 0 1), .int (x 0 2), .int (x 0 3), .int (x 0 4), .int (x 0 5)])), (a 1, .inl (cI, 250, .inl (x 1)))]
abbrev kM (cI cZ : ClassId) (a : Nat → Nat) (x : HC) : va_W := [(a 0, .inr (7, [.ref (a 1), .ref (a 2), .ref (a 3), .int (x 0 3), .int (x 0 4), .int (x 0 5), .int (x 0 6), .ref (a 4), .ref (a 5), .int (x 0 9), .ref (a 6), .int (x 0 11), .ref (a 7), .int (x 0 13), .ref (a 8), .ref (a 9), .int (x 0 16), .int (x 0 17), .int (x 0 18), .int (x 0 19), .int (x 0 20), .ref (a 10), .int (x 0 22), .ref (a 11), .int (x 0 24), .ref (a 12), .int (x 0 26), .ref (a 13), .ref (a 14), .ref (a 15), .ref (a 16), .ref (a 17)])), (a 1, .inl (cI, 141, .inl (x 1))), (a 2, .inl (cZ, 2, .inl (x 2))), (a 3, .inl (cI, 250, .inl (x 3))), (a 4, .inl (cI, 5, .inl (x 4))), (a 5, .inl (cI, 5, .inl (x 5))), (a 6, .inl (cI, 6, .inl (x 6))), (a 7, .inl (cI, 24, .inl (x 7))), (a 8, .inl (cI, 12, .inl (x 8))), (a 9, .inl (cI, 45, .inl (x 9))), (a 10, .inl (cI, 15, .inl (x 10))), (a 11, .inl (cI, 6, .inl (x 11))), (a 12, .inl (cI, 24, .inl (x 12))), (a 13, .inl (cI, 12, .inl (x 13))), (a 14, .inl (cI, 30, .inl (x 14))), (a 15, .inl (cI, 4, .inl (x 15))), (a 16, .inl (cI, 6, .inl (x 16))), (a 17, .inl (cI, 5, .inl (x 17)))]
abbrev cW (cI : ClassId) (a : Nat → Nat → Nat) (C : CC) : va_W := [(a 0 0, .inr (6, [.ref (a 1 0), .ref (a 2 0), .ref (a 3 0), .ref (a 4 0), .ref (a 5 0), .ref (a 6 0), .ref (a 7 0), .ref (a 8 0), .ref (a 9 0), .ref (a 0 1)])), (a 0 1, .inl (cI, 6, .inl (C 0 1))), (a 1 0, .inr (5, [.ref (a 1 1), .int (C 1 0 1), .int (C 1 0 2), .int (C 1 0 3), .int (C 1 0 4), .int (C 1 0 5)])), (a 1 1, .inl (cI, 250, .inl (C 1 1))), (a 2 0, .inr (2, [.int (C 2 0 0), .int (C 2 0 1), .int (C 2 0 2), .int (C 2 0 3), .int (C 2 0 4), .int (C 2 0 5), .ref (a 2 1), .ref (a 2 2), .ref (a 2 3), .ref (a 2 4), .ref (a 2 5), .ref (a 2 6), .ref (a 2 7), .ref (a 2 8), .ref (a 2 9), .ref (a 2 10), .ref (a 2 11), .ref (a 2 12)])), (a 2 1, .inl (cI, 5, .inl (C 2 1))), (a 2 2, .inl (cI, 5, .inl (C 2 2))), (a 2 3, .inl (cI, 5, .inl (C 2 3))), (a 2 4, .inl (cI, 6, .inl (C 2 4))), (a 2 5, .inl (cI, 6, .inl (C 2 5))), (a 2 6, .inl (cI, 6, .inl (C 2 6))), (a 2 7, .inl (cI, 6, .inl (C 2 7))), (a 2 8, .inl (cI, 6, .inl (C 2 8))), (a 2 9, .inl (cI, 4, .inl (C 2 9))), (a 2 10, .inl (cI, 4, .inl (C 2 10))), (a 2 11, .inl (cI, 4, .inl (C 2 11))), (a 2 12, .inl (cI, 30, .inl (C 2 12))), (a 3 0, .inr (2, [.int (C 3 0 0), .int (C 3 0 1), .int (C 3 0 2), .int (C 3 0 3), .int (C 3 0 4), .int (C 3 0 5), .ref (a 3 1), .ref (a 3 2), .ref (a 3 3), .ref (a 3 4), .ref (a 3 5), .ref (a 3 6), .ref (a 3 7), .ref (a 3 8), .ref (a 3 9), .ref (a 3 10), .ref (a 3 11), .ref (a 3 12)])), (a 3 1, .inl (cI, 5, .inl (C 3 1))), (a 3 2, .inl (cI, 5, .inl (C 3 2))), (a 3 3, .inl (cI, 5, .inl (C 3 3))), (a 3 4, .inl (cI, 6, .inl (C 3 4))), (a 3 5, .inl (cI, 6, .inl (C 3 5))), (a 3 6, .inl (cI, 6, .inl (C 3 6))), (a 3 7, .inl (cI, 6, .inl (C 3 7))), (a 3 8, .inl (cI, 6, .inl (C 3 8))), (a 3 9, .inl (cI, 4, .inl (C 3 9))), (a 3 10, .inl (cI, 4, .inl (C 3 10))), (a 3 11, .inl (cI, 4, .inl (C 3 11))), (a 3 12, .inl (cI, 30, .inl (C 3 12))), (a 4 0, .inr (4, [.ref (a 4 1), .ref (a 4 2), .ref (a 4 3), .ref (a 4 4), .int (C 4 0 4), .int (C 4 0 5), .int (C 4 0 6)])), (a 4 1, .inl (cI, 5, .inl (C 4 1))), (a 4 2, .inl (cI, 5, .inl (C 4 2))), (a 4 3, .inl (cI, 5, .inl (C 4 3))), (a 4 4, .inl (cI, 30, .inl (C 4 4))), (a 5 0, .inr (4, [.ref (a 5 1), .ref (a 5 2), .ref (a 5 3), .ref (a 5 4), .int (C 5 0 4), .int (C 5 0 5), .int (C 5 0 6)])), (a 5 1, .inl (cI, 5, .inl (C 5 1))), (a 5 2, .inl (cI, 5, .inl (C 5 2))), (a 5 3, .inl (cI, 5, .inl (C 5 3))), (a 5 4, .inl (cI, 30, .inl (C 5 4))), (a 6 0, .inr (4, [.ref (a 6 1), .ref (a 6 2), .ref (a 6 3), .ref (a 6 4), .int (C 6 0 4), .int (C 6 0 5), .int (C 6 0 6)])), (a 6 1, .inl (cI, 5, .inl (C 6 1))), (a 6 2, .inl (cI, 5, .inl (C 6 2))), (a 6 3, .inl (cI, 5, .inl (C 6 3))), (a 6 4, .inl (cI, 30, .inl (C 6 4))), (a 7 0, .inr (1, [.ref (a 7 1), .ref (a 7 2), .int (C 7 0 2)])), (a 7 1, .inl (cI, 15, .inl (C 7 1))), (a 7 2, .inl (cI, 15, .inl (C 7 2))), (a 8 0, .inr (3, [.ref (a 8 1), .ref (a 8 2), .int (C 8 0 2), .int (C 8 0 3)])), (a 8 1, .inl (cI, 6, .inl (C 8 1))), (a 8 2, .inl (cI, 6, .inl (C 8 2))), (a 9 0, .inr (0, [.ref (a 9 1), .ref (a 9 2)])), (a 9 1, .inl (cI, 5, .inl (C 9 1))), (a 9 2, .inl (cI, 6, .inl (C 9 2)))]
theorem at_L_0_0 {cI : ClassId} {a : Nat → Nat} {x : HC} : (kL cI a x)[0]? = some (a 0, .inr (2, [.int (x 0 0), .int (x 0 1), .int (x 0 2), .int (x 0 3), .int (x 0 4), .int (x 0 5), .ref (a 1), .ref (a 2), .ref (a 3), .ref (a 4), .ref (a 5), .ref (a 6), .ref (a 7), .ref (a 8), .ref (a 9), .ref (a 10), .ref (a 11), .ref (a 12)])) := rfl
theorem at_L_0_1 {cI : ClassId} {a : Nat → Nat} {x : HC} : (kL cI a x)[1]? = some (a 1, .inl (cI, 5, .inl (x 1))) := rfl
theorem sf_L_0_0 {cI : ClassId} {a : Nat → Nat} {x : HC} {v : Int32} : (kL cI a x).set 0 (a 0, .inr (2, ([.int (x 0 0), .int (x 0 1), .int (x 0 2), .int (x 0 3), .int (x 0 4), .int (x 0 5), .ref (a 1), .ref (a 2), .ref (a 3), .ref (a 4), .ref (a 5), .ref (a 6), .ref (a 7), .ref (a 8), .ref (a 9), .ref (a 10), .ref (a 11), .ref (a 12)] : List Value).set 0 (.int v))) = (kL cI a (sf x 0 v)) := rfl
theorem sf_L_0_1 {cI : ClassId} {a : Nat → Nat} {x : HC} {v : Int32} : (kL cI a x).set 0 (a 0, .inr (2, ([.int (x 0 0), .int (x 0 1), .int (x 0 2), .int (x 0 3), .int (x 0 4), .int (x 0 5), .ref (a 1), .ref (a 2), .ref (a 3), .ref (a 4), .ref (a 5), .ref (a 6), .ref (a 7), .ref (a 8), .ref (a 9), .ref (a 10), .ref (a 11), .ref (a 12)] : List Value).set 1 (.int v))) = (kL cI a (sf x 1 v)) := rfl
theorem sf_L_0_2 {cI : ClassId} {a : Nat → Nat} {x : HC} {v : Int32} : (kL cI a x).set 0 (a 0, .inr (2, ([.int (x 0 0), .int (x 0 1), .int (x 0 2), .int (x 0 3), .int (x 0 4), .int (x 0 5), .ref (a 1), .ref (a 2), .ref (a 3), .ref (a 4), .ref (a 5), .ref (a 6), .ref (a 7), .ref (a 8), .ref (a 9), .ref (a 10), .ref (a 11), .ref (a 12)] : List Value).set 2 (.int v))) = (kL cI a (sf x 2 v)) := rfl
theorem sf_L_0_3 {cI : ClassId} {a : Nat → Nat} {x : HC} {v : Int32} : (kL cI a x).set 0 (a 0, .inr (2, ([.int (x 0 0), .int (x 0 1), .int (x 0 2), .int (x 0 3), .int (x 0 4), .int (x 0 5), .ref (a 1), .ref (a 2), .ref (a 3), .ref (a 4), .ref (a 5), .ref (a 6), .ref (a 7), .ref (a 8), .ref (a 9), .ref (a 10), .ref (a 11), .ref (a 12)] : List Value).set 3 (.int v))) = (kL cI a (sf x 3 v)) := rfl
theorem sf_L_0_4 {cI : ClassId} {a : Nat → Nat} {x : HC} {v : Int32} : (kL cI a x).set 0 (a 0, .inr (2, ([.int (x 0 0), .int (x 0 1), .int (x 0 2), .int (x 0 3), .int (x 0 4), .int (x 0 5), .ref (a 1), .ref (a 2), .ref (a 3), .ref (a 4), .ref (a 5), .ref (a 6), .ref (a 7), .ref (a 8), .ref (a 9), .ref (a 10), .ref (a 11), .ref (a 12)] : List Value).set 4 (.int v))) = (kL cI a (sf x 4 v)) := rfl
theorem sf_L_0_5 {cI : ClassId} {a : Nat → Nat} {x : HC} {v : Int32} : (kL cI a x).set 0 (a 0, .inr (2, ([.int (x 0 0), .int (x 0 1), .int (x 0 2), .int (x 0 3), .int (x 0 4), .int (x 0 5), .ref (a 1), .ref (a 2), .ref (a 3), .ref (a 4), .ref (a 5), .ref (a 6), .ref (a 7), .ref (a 8), .ref (a 9), .ref (a 10), .ref (a 11), .ref (a 12)] : List Value).set 5 (.int v))) = (kL cI a (sf x 5 v)) := rfl
theorem at_L_0_12 {cI : ClassId} {a : Nat → Nat} {x : HC} : (kL cI a x)[12]? = some (a 12, .inl (cI, 30, .inl (x 12))) := rfl
theorem sa_L_0_12 {cI : ClassId} {a : Nat → Nat} {x : HC} {i v : Int32} : (kL cI a x).set 12 (a 12, .inl (cI, 30, .inl (upd (x 12) i.toNatClampNeg v))) = (kL cI a (sa x 12 i v)) := rfl
theorem at_L_0_4 {cI : ClassId} {a : Nat → Nat} {x : HC} : (kL cI a x)[4]? = some (a 4, .inl (cI, 6, .inl (x 4))) := rfl
theorem sa_L_0_4 {cI : ClassId} {a : Nat → Nat} {x : HC} {i v : Int32} : (kL cI a x).set 4 (a 4, .inl (cI, 6, .inl (upd (x 4) i.toNatClampNeg v))) = (kL cI a (sa x 4 i v)) := rfl
theorem at_L_0_9 {cI : ClassId} {a : Nat → Nat} {x : HC} : (kL cI a x)[9]? = some (a 9, .inl (cI, 4, .inl (x 9))) := rfl
theorem at_L_0_7 {cI : ClassId} {a : Nat → Nat} {x : HC} : (kL cI a x)[7]? = some (a 7, .inl (cI, 6, .inl (x 7))) := rfl
theorem at_L_0_8 {cI : ClassId} {a : Nat → Nat} {x : HC} : (kL cI a x)[8]? = some (a 8, .inl (cI, 6, .inl (x 8))) := rfl
theorem at_L_0_6 {cI : ClassId} {a : Nat → Nat} {x : HC} : (kL cI a x)[6]? = some (a 6, .inl (cI, 6, .inl (x 6))) := rfl
theorem at_L_0_11 {cI : ClassId} {a : Nat → Nat} {x : HC} : (kL cI a x)[11]? = some (a 11, .inl (cI, 4, .inl (x 11))) := rfl
theorem at_L_0_10 {cI : ClassId} {a : Nat → Nat} {x : HC} : (kL cI a x)[10]? = some (a 10, .inl (cI, 4, .inl (x 10))) := rfl
theorem at_L_0_2 {cI : ClassId} {a : Nat → Nat} {x : HC} : (kL cI a x)[2]? = some (a 2, .inl (cI, 5, .inl (x 2))) := rfl
def f_X6_slot (p1 : Int32) (p2 : Int32) : Option (Int32) := some ((p1 * (5 : Int32)) + p2)
abbrev RM_X6_slot : Room := { frames := 0, cells := 0, slots := 0, locals := 0 }
set_option maxHeartbeats 4000000 in
set_option maxRecDepth 100000 in
theorem c_X6_slot (l : Launch) (D : va_G) (cI cZ : ClassId)  (p1 : Int32) (p2 : Int32) (sz : Nat) {r : Int32} (hf : f_X6_slot p1 p2 = some r) : Met l yX6_slot (wM yX6_slot cX6_slot 2 (some .int)) RM_X6_slot (va_Pc [.int p1, .int p2] (pre D cI cZ ([] : va_W) sz)) (QI0 D (va_A ([] : va_W) sz) ([] : va_W) r) 0 0 (va_A ([] : va_W) sz) := by
  unfold f_X6_slot at hf
  refine Met.ofW (cc := cX6_slot) (maxL := 2) (ret := (some .int)) (by decide) rfl ?_
  intro p e s m args below meth c s₁ B hml hv
  obtain ⟨rfl, hsz, hP, hK, hD0, hnw⟩ := hv
  have hx := B.exec
  have hb := B.bytes
  have hr := B.returns
  have hts := atoms_spec (ws := wM yX6_slot cX6_slot 2 (some .int)) B.pre
  have hG : ∀ w ∈ GW, w.before (([.int p1, .int p2] : List Value).toArray) s = true := fun w h => hts w (List.mem_cons_of_mem _ h)
  have hown : s.vm.findClass RX6 = some m.cls := findClass_of_methodNamed B.named
  have hlocks := B.notSynchronized
  subst hsz
  have hD := hD0.self (sz := s.heap.size)
  generalize hAe : va_A ([] : va_W) s.heap.size = A at hD ⊢
  have hA : ∀ q : Nat, s.heap.size ≤ q → A q := fun q h => by rw [← hAe]; exact Or.inr h
  have hS : va_S A s.heap s.heap [] := va_S.rf
  have hl := lv_entry ([.int p1, .int p2]) (n := 2) (Nat.le_of_ble_eq_true rfl)
  rw [lg_entry_eq]
  generalize (lg_sl ([.int p1, .int p2]) ++ List.replicate (2 - (lg_sl ([.int p1, .int p2])).length) Slot.unset).toArray = ls at hl ⊢
  have hl : lv_has ls 2 [(0, .int p1), (1, .int p2)] := hl
  show W p l e RM_X6_slot s m (([.int p1, .int p2] : List Value).toArray) below meth c s.heap [] 0 0 (MQ below (QI0 D A ([] : va_W) r) (([.int p1, .int p2] : List Value).toArray) s 0 0 A) (F0 m 0 ls [])
  refine lv_iload_n hx hb dX6_slot_0 rfl (lv_at hl 0 rfl) ?_
  refine lv_iconst (v := (5 : Int32)) hx hb dX6_slot_1 (by decide) ?_
  refine lv_imul hx hb dX6_slot_2 ?_
  refine lv_iload_n hx hb dX6_slot_3 rfl (lv_at hl 1 rfl) ?_
  refine lv_iadd hx hb dX6_slot_4 ?_
  exact W.iret (v := ((p1 * (5 : Int32)) + p2)) hx hb hr (fun t ht hW => ⟨⟨((p1 * (5 : Int32)) + p2), (), rfl, Option.some.inj hf, by rw [ht]; exact hP, hD⟩, hS.F ht⟩) hS.2.2 dX6_slot_5
def f_X2_readsAs (x : HC) (p1 : Int32) (p2 : Int32) : Option (Int32) := (if inb p1 5 then (if (x 1 (Int32.toNatClampNeg p1)) = (1 : Int32) then some (0 : Int32) else (if inb p1 5 then (if (x 1 (Int32.toNatClampNeg p1)) = (2 : Int32) then some (if (p2 + (p2 / (2 : Int32))) < (99 : Int32) then (p2 + (p2 / (2 : Int32))) else (99 : Int32)) else some p2) else none)) else none)
abbrev RM_X2_readsAs : Room := { frames := 1, cells := 0, slots := 0, locals := 21 }
set_option maxHeartbeats 4000000 in
set_option maxRecDepth 100000 in
theorem c_X2_readsAs (l : Launch) (D : va_G) (cI cZ : ClassId) (a : Nat → Nat) (x : HC) (p1 : Int32) (p2 : Int32) (sz : Nat) {r : Int32} (hf : f_X2_readsAs x p1 p2 = some r) : Met l yX2_readsAs (wM yX2_readsAs cX2_readsAs 3 (some .int)) RM_X2_readsAs (va_Pc [.ref (a 0), .int p1, .int p2] (pre D cI cZ (kL cI a x) sz)) (QI0 D (va_A (kL cI a x) sz) (kL cI a x) r) 0 0 (va_A (kL cI a x) sz) := by
  unfold f_X2_readsAs at hf
  refine Met.ofW (cc := cX2_readsAs) (maxL := 3) (ret := (some .int)) (by decide) rfl ?_
  intro p e s m args below meth c s₁ B hml hv
  obtain ⟨rfl, hsz, hP, hK, hD0, hnw⟩ := hv
  have hx := B.exec
  have hb := B.bytes
  have hr := B.returns
  have hts := atoms_spec (ws := wM yX2_readsAs cX2_readsAs 3 (some .int)) B.pre
  have hG : ∀ w ∈ GW, w.before (([.ref (a 0), .int p1, .int p2] : List Value).toArray) s = true := fun w h => hts w (List.mem_cons_of_mem _ h)
  have hown : s.vm.findClass RX2 = some m.cls := findClass_of_methodNamed B.named
  have hlocks := B.notSynchronized
  subst hsz
  have hD := hD0.self (sz := s.heap.size)
  generalize hAe : va_A (kL cI a x) s.heap.size = A at hD ⊢
  have hA : ∀ q : Nat, s.heap.size ≤ q → A q := fun q h => by rw [← hAe]; exact Or.inr h
  have hS : va_S A s.heap s.heap [] := va_S.rf
  have hl := lv_entry ([.ref (a 0), .int p1, .int p2]) (n := 3) (Nat.le_of_ble_eq_true rfl)
  rw [lg_entry_eq]
  generalize (lg_sl ([.ref (a 0), .int p1, .int p2]) ++ List.replicate (3 - (lg_sl ([.ref (a 0), .int p1, .int p2])).length) Slot.unset).toArray = ls at hl ⊢
  have hl : lv_has ls 3 [(0, .ref (a 0)), (1, .int p1), (2, .int p2)] := hl
  show W p l e RM_X2_readsAs s m (([.ref (a 0), .int p1, .int p2] : List Value).toArray) below meth c s.heap [] 0 0 (MQ below (QI0 D A (kL cI a x) r) (([.ref (a 0), .int p1, .int p2] : List Value).toArray) s 0 0 A) (F0 m 0 ls [])
  refine lv_aload_n hx hb dX2_readsAs_0 rfl (lv_at hl 0 rfl) ?_
  refine va_get (D := D) (ci := 2) (v := .ref (a 1)) (C := RX2) (T := TX2) (N := 18) hx hb hG inG2 hown hK hP 0 at_L_0_0 rfl 6 (by decide) (hG _ g_128) (fun _ h9 => h9) rfl dX2_readsAs_1 ?_
  refine lv_iload_n hx hb dX2_readsAs_4 rfl (lv_at hl 1 rfl) ?_
  obtain ⟨hb5, hf⟩ := gd hf
  refine va_iald (cA := cI) (n := 5) (f := x 1) hx hb hK hP 1 0 at_L_0_1 rfl (inb_in hb5) dX2_readsAs_5 ?_
  refine lv_iconst (v := (1 : Int32)) hx hb dX2_readsAs_6 (by decide) ?_
  refine lv_icmp_ne (tgt := 12) hx hb dX2_readsAs_7 (by decide) (fun cc7 => ?_) (fun cc7 => ?_)
  · have hf := if_f cc7 hf
    refine lv_aload_n hx hb dX2_readsAs_12 rfl (lv_at hl 0 rfl) ?_
    refine va_get (D := D) (ci := 2) (v := .ref (a 1)) (C := RX2) (T := TX2) (N := 18) hx hb hG inG2 hown hK hP 0 at_L_0_0 rfl 6 (by decide) (hG _ g_128) (fun _ h9 => h9) rfl dX2_readsAs_13 ?_
    refine lv_iload_n hx hb dX2_readsAs_16 rfl (lv_at hl 1 rfl) ?_
    obtain ⟨hb17, hf⟩ := gd hf
    refine va_iald (cA := cI) (n := 5) (f := x 1) hx hb hK hP 1 0 at_L_0_1 rfl (inb_in hb17) dX2_readsAs_17 ?_
    refine lv_iconst (v := (2 : Int32)) hx hb dX2_readsAs_18 (by decide) ?_
    refine lv_icmp_ne (tgt := 35) hx hb dX2_readsAs_19 (by decide) (fun cc19 => ?_) (fun cc19 => ?_)
    · have hf := if_f cc19 hf
      refine lv_iload_n hx hb dX2_readsAs_35 rfl (lv_at hl 2 rfl) ?_
      exact W.iret (v := p2) hx hb hr (fun t ht hW => ⟨⟨p2, (), rfl, Option.some.inj hf, by rw [ht]; exact hP, hD⟩, hS.F ht⟩) hS.2.2 dX2_readsAs_36
    · have hf := if_t cc19 hf
      refine lv_bipush (v := (99 : Int32)) hx hb dX2_readsAs_22 (by decide) ?_
      refine lv_iload_n hx hb dX2_readsAs_24 rfl (lv_at hl 2 rfl) ?_
      refine lv_iload_n hx hb dX2_readsAs_25 rfl (lv_at hl 2 rfl) ?_
      refine lv_iconst (v := (2 : Int32)) hx hb dX2_readsAs_26 (by decide) ?_
      refine lv_idiv hx hb dX2_readsAs_27 (by decide) ?_
      refine lv_iadd hx hb dX2_readsAs_28 ?_
      refine va_mmin hx hb (hml.trans hl.1.symm) hown (hG _ g_329) (hG _ g_330) (hG _ g_78) (hG _ g_331) (Nat.le_of_ble_eq_true rfl) (Nat.le_of_ble_eq_true rfl) (Nat.zero_le _) (Nat.zero_le _) dX2_readsAs_29 ?_
      refine lv_goto (tgt := 36) hx hb dX2_readsAs_32 (by decide) ?_
      exact W.iret (v := (if (p2 + (p2 / (2 : Int32))) < (99 : Int32) then (p2 + (p2 / (2 : Int32))) else (99 : Int32))) hx hb hr (fun t ht hW => ⟨⟨(if (p2 + (p2 / (2 : Int32))) < (99 : Int32) then (p2 + (p2 / (2 : Int32))) else (99 : Int32)), (), rfl, Option.some.inj hf, by rw [ht]; exact hP, hD⟩, hS.F ht⟩) hS.2.2 dX2_readsAs_36
  · have hf := if_t cc7 hf
    refine lv_iconst (v := (0 : Int32)) hx hb dX2_readsAs_10 (by decide) ?_
    exact W.iret (v := (0 : Int32)) hx hb hr (fun t ht hW => ⟨⟨(0 : Int32), (), rfl, Option.some.inj hf, by rw [ht]; exact hP, hD⟩, hS.F ht⟩) hS.2.2 dX2_readsAs_11
def f_X2_clear_b53  (rc53 : Int32 → HC → Option (HC)) (v9 : Int32) (X10 : HC) : Option (HC) := (if (30 : Int32) ≤ v9 then some X10 else (if inb v9 30 then nm (sa X10 12 v9 (0 : Int32)) (fun (X11 : HC) => nm (v9 + (1 : Int32)) (fun (v12 : Int32) => rc53 v12 X11)) else none))
def f_X2_clear_b32  (rc32 : Int32 → HC → Option (HC)) (v7 : Int32) (X8 : HC) : Option (HC) := (if (6 : Int32) ≤ v7 then lp (fun _ _ => none : Int32 → HC → Option (HC)) f_X2_clear_b53 FU (0 : Int32) X8 else (if inb v7 6 then nm (sa X8 4 v7 (0 : Int32)) (fun (X13 : HC) => nm (v7 + (1 : Int32)) (fun (v14 : Int32) => rc32 v14 X13)) else none))
def f_X2_clear (x : HC) : Option (HC) := nm (sf x 0 (0 : Int32)) (fun (X1 : HC) => nm (sf X1 1 (0 : Int32)) (fun (X2 : HC) => nm (sf X2 2 (0 : Int32)) (fun (X3 : HC) => nm (sf X3 3 (0 : Int32)) (fun (X4 : HC) => nm (sf X4 4 (0 : Int32)) (fun (X5 : HC) => nm (sf X5 5 (0 : Int32)) (fun (X6 : HC) => lp (fun _ _ => none : Int32 → HC → Option (HC)) f_X2_clear_b32 FU (0 : Int32) X6))))))
abbrev RM_X2_clear : Room := { frames := 0, cells := 0, slots := 0, locals := 0 }
set_option maxHeartbeats 4000000 in
set_option maxRecDepth 100000 in
theorem c_X2_clear (l : Launch) (D : va_G) (cI cZ : ClassId) (a : Nat → Nat) (x : HC) (sz : Nat) {r : HC} (hf : f_X2_clear x = some r) : Met l yX2_clear (wM yX2_clear cX2_clear 2 none) RM_X2_clear (va_Pc [.ref (a 0)] (pre D cI cZ (kL cI a x) sz)) (QV D (va_A (kL cI a x) sz) (fun (u : HC) => (kL cI a u)) r) 0 0 (va_A (kL cI a x) sz) := by
  unfold f_X2_clear at hf
  refine Met.ofW (cc := cX2_clear) (maxL := 2) (ret := none) (by decide) rfl ?_
  intro p e s m args below meth c s₁ B hml hv
  obtain ⟨rfl, hsz, hP, hK, hD0, hnw⟩ := hv
  have hx := B.exec
  have hb := B.bytes
  have hr := B.returns
  have hts := atoms_spec (ws := wM yX2_clear cX2_clear 2 none) B.pre
  have hG : ∀ w ∈ GW, w.before (([.ref (a 0)] : List Value).toArray) s = true := fun w h => hts w (List.mem_cons_of_mem _ h)
  have hown : s.vm.findClass RX2 = some m.cls := findClass_of_methodNamed B.named
  have hlocks := B.notSynchronized
  subst hsz
  have hD := hD0.self (sz := s.heap.size)
  generalize hAe : va_A (kL cI a x) s.heap.size = A at hD ⊢
  have hA : ∀ q : Nat, s.heap.size ≤ q → A q := fun q h => by rw [← hAe]; exact Or.inr h
  have hS : va_S A s.heap s.heap [] := va_S.rf
  have hl := lv_entry ([.ref (a 0)]) (n := 2) (Nat.le_of_ble_eq_true rfl)
  rw [lg_entry_eq]
  generalize (lg_sl ([.ref (a 0)]) ++ List.replicate (2 - (lg_sl ([.ref (a 0)])).length) Slot.unset).toArray = ls at hl ⊢
  have hl : lv_has ls 2 [(0, .ref (a 0))] := hl
  show W p l e RM_X2_clear s m (([.ref (a 0)] : List Value).toArray) below meth c s.heap [] 0 0 (MQ below (QV D A (fun (u : HC) => (kL cI a u)) r) (([.ref (a 0)] : List Value).toArray) s 0 0 A) (F0 m 0 ls [])
  refine lv_aload_n hx hb dX2_clear_0 rfl (lv_at hl 0 rfl) ?_
  refine lv_iconst (v := (0 : Int32)) hx hb dX2_clear_1 (by decide) ?_
  refine va_put (D := D) (ci := 2) (v := .int (0 : Int32)) (ty := .int) (C := RX2) (T := TX2) (N := 18) hx hb hG inG2 tyX2 tyX2_ok nmX2 hown hK hP hD hS 0 at_L_0_0 rfl 0 (by decide) (hG _ g_108) (fun _ h9 => h9) rfl (by decide +kernel) rfl rfl (Nat.le_of_ble_eq_true rfl) dX2_clear_2 (fun H locs hP hD hS => ?_)
  obtain ⟨X1, eX1⟩ : ∃ y : HC, y = (sf x 0 (0 : Int32)) := ⟨_, rfl⟩
  have hf := nm_x eX1 hf
  have hP := wP (sf_L_0_0.trans (congrArg (fun z : HC => (kL cI a z)) eX1.symm)) hP
  have hD := wD (sf_L_0_0.trans (congrArg (fun z : HC => (kL cI a z)) eX1.symm)) hD
  refine lv_aload_n hx hb dX2_clear_5 rfl (lv_at hl 0 rfl) ?_
  refine lv_iconst (v := (0 : Int32)) hx hb dX2_clear_6 (by decide) ?_
  refine va_put (D := D) (ci := 2) (v := .int (0 : Int32)) (ty := .int) (C := RX2) (T := TX2) (N := 18) hx hb hG inG2 tyX2 tyX2_ok nmX2 hown hK hP hD hS 0 at_L_0_0 rfl 1 (by decide) (hG _ g_112) (fun _ h9 => h9) rfl (by decide +kernel) rfl rfl (Nat.le_of_ble_eq_true rfl) dX2_clear_7 (fun H locs hP hD hS => ?_)
  obtain ⟨X2, eX2⟩ : ∃ y : HC, y = (sf X1 1 (0 : Int32)) := ⟨_, rfl⟩
  have hf := nm_x eX2 hf
  have hP := wP (sf_L_0_1.trans (congrArg (fun z : HC => (kL cI a z)) eX2.symm)) hP
  have hD := wD (sf_L_0_1.trans (congrArg (fun z : HC => (kL cI a z)) eX2.symm)) hD
  refine lv_aload_n hx hb dX2_clear_10 rfl (lv_at hl 0 rfl) ?_
  refine lv_iconst (v := (0 : Int32)) hx hb dX2_clear_11 (by decide) ?_
  refine va_put (D := D) (ci := 2) (v := .int (0 : Int32)) (ty := .int) (C := RX2) (T := TX2) (N := 18) hx hb hG inG2 tyX2 tyX2_ok nmX2 hown hK hP hD hS 0 at_L_0_0 rfl 2 (by decide) (hG _ g_116) (fun _ h9 => h9) rfl (by decide +kernel) rfl rfl (Nat.le_of_ble_eq_true rfl) dX2_clear_12 (fun H locs hP hD hS => ?_)
  obtain ⟨X3, eX3⟩ : ∃ y : HC, y = (sf X2 2 (0 : Int32)) := ⟨_, rfl⟩
  have hf := nm_x eX3 hf
  have hP := wP (sf_L_0_2.trans (congrArg (fun z : HC => (kL cI a z)) eX3.symm)) hP
  have hD := wD (sf_L_0_2.trans (congrArg (fun z : HC => (kL cI a z)) eX3.symm)) hD
  refine lv_aload_n hx hb dX2_clear_15 rfl (lv_at hl 0 rfl) ?_
  refine lv_iconst (v := (0 : Int32)) hx hb dX2_clear_16 (by decide) ?_
  refine va_put (D := D) (ci := 2) (v := .int (0 : Int32)) (ty := .int) (C := RX2) (T := TX2) (N := 18) hx hb hG inG2 tyX2 tyX2_ok nmX2 hown hK hP hD hS 0 at_L_0_0 rfl 3 (by decide) (hG _ g_119) (fun _ h9 => h9) rfl (by decide +kernel) rfl rfl (Nat.le_of_ble_eq_true rfl) dX2_clear_17 (fun H locs hP hD hS => ?_)
  obtain ⟨X4, eX4⟩ : ∃ y : HC, y = (sf X3 3 (0 : Int32)) := ⟨_, rfl⟩
  have hf := nm_x eX4 hf
  have hP := wP (sf_L_0_3.trans (congrArg (fun z : HC => (kL cI a z)) eX4.symm)) hP
  have hD := wD (sf_L_0_3.trans (congrArg (fun z : HC => (kL cI a z)) eX4.symm)) hD
  refine lv_aload_n hx hb dX2_clear_20 rfl (lv_at hl 0 rfl) ?_
  refine lv_iconst (v := (0 : Int32)) hx hb dX2_clear_21 (by decide) ?_
  refine va_put (D := D) (ci := 2) (v := .int (0 : Int32)) (ty := .int) (C := RX2) (T := TX2) (N := 18) hx hb hG inG2 tyX2 tyX2_ok nmX2 hown hK hP hD hS 0 at_L_0_0 rfl 4 (by decide) (hG _ g_123) (fun _ h9 => h9) rfl (by decide +kernel) rfl rfl (Nat.le_of_ble_eq_true rfl) dX2_clear_22 (fun H locs hP hD hS => ?_)
  obtain ⟨X5, eX5⟩ : ∃ y : HC, y = (sf X4 4 (0 : Int32)) := ⟨_, rfl⟩
  have hf := nm_x eX5 hf
  have hP := wP (sf_L_0_4.trans (congrArg (fun z : HC => (kL cI a z)) eX5.symm)) hP
  have hD := wD (sf_L_0_4.trans (congrArg (fun z : HC => (kL cI a z)) eX5.symm)) hD
  refine lv_aload_n hx hb dX2_clear_25 rfl (lv_at hl 0 rfl) ?_
  refine lv_iconst (v := (0 : Int32)) hx hb dX2_clear_26 (by decide) ?_
  refine va_put (D := D) (ci := 2) (v := .int (0 : Int32)) (ty := .int) (C := RX2) (T := TX2) (N := 18) hx hb hG inG2 tyX2 tyX2_ok nmX2 hown hK hP hD hS 0 at_L_0_0 rfl 5 (by decide) (hG _ g_126) (fun _ h9 => h9) rfl (by decide +kernel) rfl rfl (Nat.le_of_ble_eq_true rfl) dX2_clear_27 (fun H locs hP hD hS => ?_)
  obtain ⟨X6, eX6⟩ : ∃ y : HC, y = (sf X5 5 (0 : Int32)) := ⟨_, rfl⟩
  have hf := nm_x eX6 hf
  have hP := wP (sf_L_0_5.trans (congrArg (fun z : HC => (kL cI a z)) eX6.symm)) hP
  have hD := wD (sf_L_0_5.trans (congrArg (fun z : HC => (kL cI a z)) eX6.symm)) hD
  refine lv_iconst (v := (0 : Int32)) hx hb dX2_clear_30 (by decide) ?_
  refine lv_istore_n (lv' := [(1, .int (0 : Int32)), (0, .ref (a 0))]) hx hb dX2_clear_31 rfl hl (by decide) rfl (fun ls hl => ?_)
  have L32 : ∀ (n : Nat) (v7 : Int32) (X8 : HC) (H : Heap) (locs : List Loc) (ls : Array Slot), va_P D vwCl (kL cI a X8) H → va_D A (kL cI a X8) → va_S A s.heap H locs → lv_has ls 2 [(0, .ref (a 0)), (1, .int v7)] → lp (fun _ _ => none : Int32 → HC → Option (HC)) f_X2_clear_b32 n v7 X8 = some r → W p l e RM_X2_clear s m (([.ref (a 0)] : List Value).toArray) below meth c H locs 0 0 (MQ below (QV D A (fun (u : HC) => (kL cI a u)) r) (([.ref (a 0)] : List Value).toArray) s 0 0 A) (F0 m 32 ls []) := by
    intro n
    induction n with
    | zero => intro v7 X8 H locs ls _ _ _ _ hf; cases (show (none : Option (HC)) = some r from hf)
    | succ n ih32 =>
      intro v7 X8 H locs ls hP hD hS hl hf
      have hf : f_X2_clear_b32 (lp (fun _ _ => none : Int32 → HC → Option (HC)) f_X2_clear_b32 n) v7 X8 = some r := hf
      generalize lp (fun _ _ => none : Int32 → HC → Option (HC)) f_X2_clear_b32 n = rc32 at ih32 hf
      unfold f_X2_clear_b32 at hf
      refine lv_iload_n hx hb dX2_clear_32 rfl (lv_at hl 1 rfl) ?_
      refine lv_bipush (v := (6 : Int32)) hx hb dX2_clear_33 (by decide) ?_
      refine lv_icmp_ge (tgt := 51) hx hb dX2_clear_35 (by decide) (fun cc35 => ?_) (fun cc35 => ?_)
      · have hf := if_t cc35 hf
        refine lv_iconst (v := (0 : Int32)) hx hb dX2_clear_51 (by decide) ?_
        refine lv_istore_n (lv' := [(1, .int (0 : Int32)), (0, .ref (a 0))]) hx hb dX2_clear_52 rfl hl (by decide) rfl (fun ls hl => ?_)
        have L53 : ∀ (n : Nat) (v9 : Int32) (X10 : HC) (H : Heap) (locs : List Loc) (ls : Array Slot), va_P D vwCl (kL cI a X10) H → va_D A (kL cI a X10) → va_S A s.heap H locs → lv_has ls 2 [(0, .ref (a 0)), (1, .int v9)] → lp (fun _ _ => none : Int32 → HC → Option (HC)) f_X2_clear_b53 n v9 X10 = some r → W p l e RM_X2_clear s m (([.ref (a 0)] : List Value).toArray) below meth c H locs 0 0 (MQ below (QV D A (fun (u : HC) => (kL cI a u)) r) (([.ref (a 0)] : List Value).toArray) s 0 0 A) (F0 m 53 ls []) := by
          intro n
          induction n with
          | zero => intro v9 X10 H locs ls _ _ _ _ hf; cases (show (none : Option (HC)) = some r from hf)
          | succ n ih53 =>
            intro v9 X10 H locs ls hP hD hS hl hf
            have hf : f_X2_clear_b53 (lp (fun _ _ => none : Int32 → HC → Option (HC)) f_X2_clear_b53 n) v9 X10 = some r := hf
            generalize lp (fun _ _ => none : Int32 → HC → Option (HC)) f_X2_clear_b53 n = rc53 at ih53 hf
            unfold f_X2_clear_b53 at hf
            refine lv_iload_n hx hb dX2_clear_53 rfl (lv_at hl 1 rfl) ?_
            refine lv_bipush (v := (30 : Int32)) hx hb dX2_clear_54 (by decide) ?_
            refine lv_icmp_ge (tgt := 72) hx hb dX2_clear_56 (by decide) (fun cc56 => ?_) (fun cc56 => ?_)
            · have hf := if_t cc56 hf
              exact W.vret hx hb hr (fun t ht hW => ⟨⟨X10, rfl, Option.some.inj hf, by rw [ht]; exact hP, hD⟩, hS.F ht⟩) hS.2.2 dX2_clear_72
            · have hf := if_f cc56 hf
              refine lv_aload_n hx hb dX2_clear_59 rfl (lv_at hl 0 rfl) ?_
              refine va_get (D := D) (ci := 2) (v := .ref (a 12)) (C := RX2) (T := TX2) (N := 18) hx hb hG inG2 hown hK hP 0 at_L_0_0 rfl 17 (by decide) (hG _ g_164) (fun _ h9 => h9) rfl dX2_clear_60 ?_
              refine lv_iload_n hx hb dX2_clear_63 rfl (lv_at hl 1 rfl) ?_
              refine lv_iconst (v := (0 : Int32)) hx hb dX2_clear_64 (by decide) ?_
              obtain ⟨hb65, hf⟩ := gd hf
              refine va_iast (cA := cI) (n := 30) (f := X10 12) hx hb hK hP hD hS 12 0 at_L_0_12 rfl (inb_in hb65) dX2_clear_65 (fun H locs hP hD hS => ?_)
              obtain ⟨X11, eX11⟩ : ∃ y : HC, y = (sa X10 12 v9 (0 : Int32)) := ⟨_, rfl⟩
              have hf := nm_x eX11 hf
              have hP := wP (sa_L_0_12.trans (congrArg (fun z : HC => (kL cI a z)) eX11.symm)) hP
              have hD := wD (sa_L_0_12.trans (congrArg (fun z : HC => (kL cI a z)) eX11.symm)) hD
              obtain ⟨v12, ev12⟩ : ∃ y : Int32, y = (v9 + (1 : Int32)) := ⟨_, rfl⟩
              have hf := nm_x ev12 hf
              refine lv_iinc (v := v12) (lv' := [(1, .int v12), (0, .ref (a 0))]) hx hb dX2_clear_66 hl (k := 1) rfl (by rw [ev12]; rfl) (by decide) rfl (fun ls hl => ?_)
              refine lv_goto (tgt := 53) hx hb dX2_clear_69 (by decide) ?_
              exact ih53 v12 X11 _ _ _ hP hD hS (lv_sub hl [1, 0] rfl) hf
        exact L53 FU (0 : Int32) X8 _ _ _ hP hD hS (lv_sub hl [1, 0] rfl) hf
      · have hf := if_f cc35 hf
        refine lv_aload_n hx hb dX2_clear_38 rfl (lv_at hl 0 rfl) ?_
        refine va_get (D := D) (ci := 2) (v := .ref (a 4)) (C := RX2) (T := TX2) (N := 18) hx hb hG inG2 hown hK hP 0 at_L_0_0 rfl 9 (by decide) (hG _ g_138) (fun _ h9 => h9) rfl dX2_clear_39 ?_
        refine lv_iload_n hx hb dX2_clear_42 rfl (lv_at hl 1 rfl) ?_
        refine lv_iconst (v := (0 : Int32)) hx hb dX2_clear_43 (by decide) ?_
        obtain ⟨hb44, hf⟩ := gd hf
        refine va_iast (cA := cI) (n := 6) (f := X8 4) hx hb hK hP hD hS 4 0 at_L_0_4 rfl (inb_in hb44) dX2_clear_44 (fun H locs hP hD hS => ?_)
        obtain ⟨X13, eX13⟩ : ∃ y : HC, y = (sa X8 4 v7 (0 : Int32)) := ⟨_, rfl⟩
        have hf := nm_x eX13 hf
        have hP := wP (sa_L_0_4.trans (congrArg (fun z : HC => (kL cI a z)) eX13.symm)) hP
        have hD := wD (sa_L_0_4.trans (congrArg (fun z : HC => (kL cI a z)) eX13.symm)) hD
        obtain ⟨v14, ev14⟩ : ∃ y : Int32, y = (v7 + (1 : Int32)) := ⟨_, rfl⟩
        have hf := nm_x ev14 hf
        refine lv_iinc (v := v14) (lv' := [(1, .int v14), (0, .ref (a 0))]) hx hb dX2_clear_45 hl (k := 1) rfl (by rw [ev14]; rfl) (by decide) rfl (fun ls hl => ?_)
        refine lv_goto (tgt := 32) hx hb dX2_clear_48 (by decide) ?_
        exact ih32 v14 X13 _ _ _ hP hD hS (lv_sub hl [1, 0] rfl) hf
  exact L32 FU (0 : Int32) X6 _ _ _ hP hD hS (lv_sub hl [1, 0] rfl) hf
def f_X2_tricksOf_j28 (rc4 : Int32 → Int32 → Option (Int32)) (v2 : Int32) (v3 : Int32) : Option (Int32) := nm (v2 + (1 : Int32)) (fun (v4 : Int32) => rc4 v3 v4)
def f_X2_tricksOf_b4 (x : HC) (p1 : Int32) (rc4 : Int32 → Int32 → Option (Int32)) (v1 : Int32) (v2 : Int32) : Option (Int32) := (if (x 0 4) ≤ v2 then some v1 else (if inb v2 4 then (if (x 9 (Int32.toNatClampNeg v2)) = p1 then nm (v1 ||| ((1 : Int32) <<< (v2 &&& 31))) (fun (v5 : Int32) => f_X2_tricksOf_j28 rc4 v2 v5) else f_X2_tricksOf_j28 rc4 v2 v1) else none))
def f_X2_tricksOf (x : HC) (p1 : Int32) : Option (Int32) := lp (fun _ _ => none : Int32 → Int32 → Option (Int32)) (f_X2_tricksOf_b4 x p1) FU (0 : Int32) (0 : Int32)
abbrev RM_X2_tricksOf : Room := { frames := 0, cells := 0, slots := 0, locals := 0 }
set_option maxHeartbeats 4000000 in
set_option maxRecDepth 100000 in
theorem c_X2_tricksOf (l : Launch) (D : va_G) (cI cZ : ClassId) (a : Nat → Nat) (x : HC) (p1 : Int32) (sz : Nat) {r : Int32} (hf : f_X2_tricksOf x p1 = some r) : Met l yX2_tricksOf (wM yX2_tricksOf cX2_tricksOf 4 (some .int)) RM_X2_tricksOf (va_Pc [.ref (a 0), .int p1] (pre D cI cZ (kL cI a x) sz)) (QI0 D (va_A (kL cI a x) sz) (kL cI a x) r) 0 0 (va_A (kL cI a x) sz) := by
  unfold f_X2_tricksOf at hf
  refine Met.ofW (cc := cX2_tricksOf) (maxL := 4) (ret := (some .int)) (by decide) rfl ?_
  intro p e s m args below meth c s₁ B hml hv
  obtain ⟨rfl, hsz, hP, hK, hD0, hnw⟩ := hv
  have hx := B.exec
  have hb := B.bytes
  have hr := B.returns
  have hts := atoms_spec (ws := wM yX2_tricksOf cX2_tricksOf 4 (some .int)) B.pre
  have hG : ∀ w ∈ GW, w.before (([.ref (a 0), .int p1] : List Value).toArray) s = true := fun w h => hts w (List.mem_cons_of_mem _ h)
  have hown : s.vm.findClass RX2 = some m.cls := findClass_of_methodNamed B.named
  have hlocks := B.notSynchronized
  subst hsz
  have hD := hD0.self (sz := s.heap.size)
  generalize hAe : va_A (kL cI a x) s.heap.size = A at hD ⊢
  have hA : ∀ q : Nat, s.heap.size ≤ q → A q := fun q h => by rw [← hAe]; exact Or.inr h
  have hS : va_S A s.heap s.heap [] := va_S.rf
  have hl := lv_entry ([.ref (a 0), .int p1]) (n := 4) (Nat.le_of_ble_eq_true rfl)
  rw [lg_entry_eq]
  generalize (lg_sl ([.ref (a 0), .int p1]) ++ List.replicate (4 - (lg_sl ([.ref (a 0), .int p1])).length) Slot.unset).toArray = ls at hl ⊢
  have hl : lv_has ls 4 [(0, .ref (a 0)), (1, .int p1)] := hl
  show W p l e RM_X2_tricksOf s m (([.ref (a 0), .int p1] : List Value).toArray) below meth c s.heap [] 0 0 (MQ below (QI0 D A (kL cI a x) r) (([.ref (a 0), .int p1] : List Value).toArray) s 0 0 A) (F0 m 0 ls [])
  refine lv_iconst (v := (0 : Int32)) hx hb dX2_tricksOf_0 (by decide) ?_
  refine lv_istore_n (lv' := [(2, .int (0 : Int32)), (0, .ref (a 0)), (1, .int p1)]) hx hb dX2_tricksOf_1 rfl hl (by decide) rfl (fun ls hl => ?_)
  refine lv_iconst (v := (0 : Int32)) hx hb dX2_tricksOf_2 (by decide) ?_
  refine lv_istore_n (lv' := [(3, .int (0 : Int32)), (2, .int (0 : Int32)), (0, .ref (a 0)), (1, .int p1)]) hx hb dX2_tricksOf_3 rfl hl (by decide) rfl (fun ls hl => ?_)
  have L4 : ∀ (n : Nat) (v1 : Int32) (v2 : Int32) (H : Heap) (locs : List Loc) (ls : Array Slot), va_P D vwCl (kL cI a x) H → va_D A (kL cI a x) → va_S A s.heap H locs → lv_has ls 4 [(0, .ref (a 0)), (1, .int p1), (2, .int v1), (3, .int v2)] → lp (fun _ _ => none : Int32 → Int32 → Option (Int32)) (f_X2_tricksOf_b4 x p1) n v1 v2 = some r → W p l e RM_X2_tricksOf s m (([.ref (a 0), .int p1] : List Value).toArray) below meth c H locs 0 0 (MQ below (QI0 D A (kL cI a x) r) (([.ref (a 0), .int p1] : List Value).toArray) s 0 0 A) (F0 m 4 ls []) := by
    intro n
    induction n with
    | zero => intro v1 v2 H locs ls _ _ _ _ hf; cases (show (none : Option (Int32)) = some r from hf)
    | succ n ih4 =>
      intro v1 v2 H locs ls hP hD hS hl hf
      have hf : (f_X2_tricksOf_b4 x p1) (lp (fun _ _ => none : Int32 → Int32 → Option (Int32)) (f_X2_tricksOf_b4 x p1) n) v1 v2 = some r := hf
      generalize lp (fun _ _ => none : Int32 → Int32 → Option (Int32)) (f_X2_tricksOf_b4 x p1) n = rc4 at ih4 hf
      unfold f_X2_tricksOf_b4 at hf
      refine lv_iload_n hx hb dX2_tricksOf_4 rfl (lv_at hl 3 rfl) ?_
      refine lv_aload_n hx hb dX2_tricksOf_5 rfl (lv_at hl 0 rfl) ?_
      refine va_get (D := D) (ci := 2) (v := .int (x 0 4)) (C := RX2) (T := TX2) (N := 18) hx hb hG inG2 hown hK hP 0 at_L_0_0 rfl 4 (by decide) (hG _ g_123) (fun _ h9 => h9) rfl dX2_tricksOf_6 ?_
      refine lv_icmp_ge (tgt := 34) hx hb dX2_tricksOf_9 (by decide) (fun cc9 => ?_) (fun cc9 => ?_)
      · have hf := if_t cc9 hf
        refine lv_iload_n hx hb dX2_tricksOf_34 rfl (lv_at hl 2 rfl) ?_
        exact W.iret (v := v1) hx hb hr (fun t ht hW => ⟨⟨v1, (), rfl, Option.some.inj hf, by rw [ht]; exact hP, hD⟩, hS.F ht⟩) hS.2.2 dX2_tricksOf_35
      · have hf := if_f cc9 hf
        refine lv_aload_n hx hb dX2_tricksOf_12 rfl (lv_at hl 0 rfl) ?_
        refine va_get (D := D) (ci := 2) (v := .ref (a 9)) (C := RX2) (T := TX2) (N := 18) hx hb hG inG2 hown hK hP 0 at_L_0_0 rfl 14 (by decide) (hG _ g_155) (fun _ h9 => h9) rfl dX2_tricksOf_13 ?_
        refine lv_iload_n hx hb dX2_tricksOf_16 rfl (lv_at hl 3 rfl) ?_
        obtain ⟨hb17, hf⟩ := gd hf
        refine va_iald (cA := cI) (n := 4) (f := x 9) hx hb hK hP 9 0 at_L_0_9 rfl (inb_in hb17) dX2_tricksOf_17 ?_
        refine lv_iload_n hx hb dX2_tricksOf_18 rfl (lv_at hl 1 rfl) ?_
        have J28 : ∀ (v3 : Int32) (H : Heap) (locs : List Loc) (ls : Array Slot), va_P D vwCl (kL cI a x) H → va_D A (kL cI a x) → va_S A s.heap H locs → lv_has ls 4 [(0, .ref (a 0)), (1, .int p1), (2, .int v3), (3, .int v2)] → f_X2_tricksOf_j28 rc4 v2 v3 = some r → W p l e RM_X2_tricksOf s m (([.ref (a 0), .int p1] : List Value).toArray) below meth c H locs 0 0 (MQ below (QI0 D A (kL cI a x) r) (([.ref (a 0), .int p1] : List Value).toArray) s 0 0 A) (F0 m 28 ls []) := by
          intro v3 H locs ls hP hD hS hl hf
          unfold f_X2_tricksOf_j28 at hf
          obtain ⟨v4, ev4⟩ : ∃ y : Int32, y = (v2 + (1 : Int32)) := ⟨_, rfl⟩
          have hf := nm_x ev4 hf
          refine lv_iinc (v := v4) (lv' := [(3, .int v4), (0, .ref (a 0)), (1, .int p1), (2, .int v3)]) hx hb dX2_tricksOf_28 hl (k := 3) rfl (by rw [ev4]; rfl) (by decide) rfl (fun ls hl => ?_)
          refine lv_goto (tgt := 4) hx hb dX2_tricksOf_31 (by decide) ?_
          exact ih4 v3 v4 _ _ _ hP hD hS (lv_sub hl [1, 2, 3, 0] rfl) hf
        refine lv_icmp_ne (tgt := 28) hx hb dX2_tricksOf_19 (by decide) (fun cc19 => ?_) (fun cc19 => ?_)
        · have hf := if_f cc19 hf
          exact J28 v1 _ _ _ hP hD hS (lv_sub hl [0, 1, 2, 3] rfl) hf
        · have hf := if_t cc19 hf
          refine lv_iload_n hx hb dX2_tricksOf_22 rfl (lv_at hl 2 rfl) ?_
          refine lv_iconst (v := (1 : Int32)) hx hb dX2_tricksOf_23 (by decide) ?_
          refine lv_iload_n hx hb dX2_tricksOf_24 rfl (lv_at hl 3 rfl) ?_
          refine lv_ishl hx hb dX2_tricksOf_25 ?_
          refine lv_ior hx hb dX2_tricksOf_26 ?_
          refine lv_topi (fun v5 ev5 => ?_)
          have hf := nm_x ev5 hf
          refine lv_istore_n (lv' := [(2, .int v5), (0, .ref (a 0)), (1, .int p1), (3, .int v2)]) hx hb dX2_tricksOf_27 rfl hl (by decide) rfl (fun ls hl => ?_)
          exact J28 v5 _ _ _ hP hD hS (lv_sub hl [1, 2, 0, 3] rfl) hf
  exact L4 FU (0 : Int32) (0 : Int32) _ _ _ hP hD hS (lv_sub hl [2, 3, 1, 0] rfl) hf
def f_X6_has (p1 : Int32) (p2 : Int32) : Option (Int32) := (if ((p1 >>> (p2 &&& 31)) &&& (1 : Int32)) = (1 : Int32) then some (1 : Int32) else some (0 : Int32))
abbrev RM_X6_has : Room := { frames := 0, cells := 0, slots := 0, locals := 0 }
set_option maxHeartbeats 4000000 in
set_option maxRecDepth 100000 in
theorem c_X6_has (l : Launch) (D : va_G) (cI cZ : ClassId)  (p1 : Int32) (p2 : Int32) (sz : Nat) {r : Int32} (hf : f_X6_has p1 p2 = some r) : Met l yX6_has (wM yX6_has cX6_has 2 (some .boolean)) RM_X6_has (va_Pc [.int p1, .int p2] (pre D cI cZ ([] : va_W) sz)) (QI0 D (va_A ([] : va_W) sz) ([] : va_W) r) 0 0 (va_A ([] : va_W) sz) := by
  unfold f_X6_has at hf
  refine Met.ofW (cc := cX6_has) (maxL := 2) (ret := (some .boolean)) (by decide) rfl ?_
  intro p e s m args below meth c s₁ B hml hv
  obtain ⟨rfl, hsz, hP, hK, hD0, hnw⟩ := hv
  have hx := B.exec
  have hb := B.bytes
  have hr := B.returns
  have hts := atoms_spec (ws := wM yX6_has cX6_has 2 (some .boolean)) B.pre
  have hG : ∀ w ∈ GW, w.before (([.int p1, .int p2] : List Value).toArray) s = true := fun w h => hts w (List.mem_cons_of_mem _ h)
  have hown : s.vm.findClass RX6 = some m.cls := findClass_of_methodNamed B.named
  have hlocks := B.notSynchronized
  subst hsz
  have hD := hD0.self (sz := s.heap.size)
  generalize hAe : va_A ([] : va_W) s.heap.size = A at hD ⊢
  have hA : ∀ q : Nat, s.heap.size ≤ q → A q := fun q h => by rw [← hAe]; exact Or.inr h
  have hS : va_S A s.heap s.heap [] := va_S.rf
  have hl := lv_entry ([.int p1, .int p2]) (n := 2) (Nat.le_of_ble_eq_true rfl)
  rw [lg_entry_eq]
  generalize (lg_sl ([.int p1, .int p2]) ++ List.replicate (2 - (lg_sl ([.int p1, .int p2])).length) Slot.unset).toArray = ls at hl ⊢
  have hl : lv_has ls 2 [(0, .int p1), (1, .int p2)] := hl
  show W p l e RM_X6_has s m (([.int p1, .int p2] : List Value).toArray) below meth c s.heap [] 0 0 (MQ below (QI0 D A ([] : va_W) r) (([.int p1, .int p2] : List Value).toArray) s 0 0 A) (F0 m 0 ls [])
  refine lv_iload_n hx hb dX6_has_0 rfl (lv_at hl 0 rfl) ?_
  refine lv_iload_n hx hb dX6_has_1 rfl (lv_at hl 1 rfl) ?_
  refine lv_ishr hx hb dX6_has_2 ?_
  refine lv_iconst (v := (1 : Int32)) hx hb dX6_has_3 (by decide) ?_
  refine lv_iand hx hb dX6_has_4 ?_
  refine lv_iconst (v := (1 : Int32)) hx hb dX6_has_5 (by decide) ?_
  refine lv_icmp_ne (tgt := 13) hx hb dX6_has_6 (by decide) (fun cc6 => ?_) (fun cc6 => ?_)
  · have hf := if_f cc6 hf
    refine lv_iconst (v := (0 : Int32)) hx hb dX6_has_13 (by decide) ?_
    exact W.zret (v := (0 : Int32)) hx hb hr (by decide) (fun t ht hW => ⟨⟨(0 : Int32), (), rfl, Option.some.inj hf, by rw [ht]; exact hP, hD⟩, hS.F ht⟩) hS.2.2 dX6_has_14
  · have hf := if_t cc6 hf
    refine lv_iconst (v := (1 : Int32)) hx hb dX6_has_9 (by decide) ?_
    refine lv_goto (tgt := 14) hx hb dX6_has_10 (by decide) ?_
    exact W.zret (v := (1 : Int32)) hx hb hr (by decide) (fun t ht hW => ⟨⟨(1 : Int32), (), rfl, Option.some.inj hf, by rw [ht]; exact hP, hD⟩, hS.F ht⟩) hS.2.2 dX6_has_14
def f_X2_together_7_j30 (rc5 : Int32 → Int32 → Option (Int32)) (v2 : Int32) (v4 : Int32) : Option (Int32) := nm (v2 + (1 : Int32)) (fun (v5 : Int32) => rc5 v4 v5)
def f_X2_together_7_b5 (x : HC) (p1 : Int32) (rc5 : Int32 → Int32 → Option (Int32)) (v1 : Int32) (v2 : Int32) : Option (Int32) := (if (x 0 3) ≤ v2 then some v1 else bd (f_X6_has p1 v2) (fun (q3 : Int32) => (if q3 = 0 then f_X2_together_7_j30 rc5 v2 v1 else (if inb v2 6 then nm (v1 + (x 7 (Int32.toNatClampNeg v2))) (fun (v6 : Int32) => f_X2_together_7_j30 rc5 v2 v6) else none))))
def f_X2_together_7 (x : HC) (p1 : Int32) : Option (Int32) := lp (fun _ _ => none : Int32 → Int32 → Option (Int32)) (f_X2_together_7_b5 x p1) FU (0 : Int32) (0 : Int32)
abbrev RM_X2_together_7 : Room := { frames := 1, cells := 0, slots := 0, locals := 21 }
set_option maxHeartbeats 4000000 in
set_option maxRecDepth 100000 in
theorem c_X2_together_7 (l : Launch) (D : va_G) (cI cZ : ClassId) (a : Nat → Nat) (x : HC) (p1 : Int32) (sz : Nat) {r : Int32} (hf : f_X2_together_7 x p1 = some r) : Met l yX2_together (wM yX2_together cX2_together 5 (some .int)) RM_X2_together_7 (va_Pc [.ref (a 0), .ref (a 7), .int p1] (pre D cI cZ (kL cI a x) sz)) (QI0 D (va_A (kL cI a x) sz) (kL cI a x) r) 0 0 (va_A (kL cI a x) sz) := by
  unfold f_X2_together_7 at hf
  refine Met.ofW (cc := cX2_together) (maxL := 5) (ret := (some .int)) (by decide) rfl ?_
  intro p e s m args below meth c s₁ B hml hv
  obtain ⟨rfl, hsz, hP, hK, hD0, hnw⟩ := hv
  have hx := B.exec
  have hb := B.bytes
  have hr := B.returns
  have hts := atoms_spec (ws := wM yX2_together cX2_together 5 (some .int)) B.pre
  have hG : ∀ w ∈ GW, w.before (([.ref (a 0), .ref (a 7), .int p1] : List Value).toArray) s = true := fun w h => hts w (List.mem_cons_of_mem _ h)
  have hown : s.vm.findClass RX2 = some m.cls := findClass_of_methodNamed B.named
  have hlocks := B.notSynchronized
  subst hsz
  have hD := hD0.self (sz := s.heap.size)
  generalize hAe : va_A (kL cI a x) s.heap.size = A at hD ⊢
  have hA : ∀ q : Nat, s.heap.size ≤ q → A q := fun q h => by rw [← hAe]; exact Or.inr h
  have hS : va_S A s.heap s.heap [] := va_S.rf
  have hl := lv_entry ([.ref (a 0), .ref (a 7), .int p1]) (n := 5) (Nat.le_of_ble_eq_true rfl)
  rw [lg_entry_eq]
  generalize (lg_sl ([.ref (a 0), .ref (a 7), .int p1]) ++ List.replicate (5 - (lg_sl ([.ref (a 0), .ref (a 7), .int p1])).length) Slot.unset).toArray = ls at hl ⊢
  have hl : lv_has ls 5 [(0, .ref (a 0)), (1, .ref (a 7)), (2, .int p1)] := hl
  show W p l e RM_X2_together_7 s m (([.ref (a 0), .ref (a 7), .int p1] : List Value).toArray) below meth c s.heap [] 0 0 (MQ below (QI0 D A (kL cI a x) r) (([.ref (a 0), .ref (a 7), .int p1] : List Value).toArray) s 0 0 A) (F0 m 0 ls [])
  refine lv_iconst (v := (0 : Int32)) hx hb dX2_together_0 (by decide) ?_
  refine lv_istore_n (lv' := [(3, .int (0 : Int32)), (0, .ref (a 0)), (1, .ref (a 7)), (2, .int p1)]) hx hb dX2_together_1 rfl hl (by decide) rfl (fun ls hl => ?_)
  refine lv_iconst (v := (0 : Int32)) hx hb dX2_together_2 (by decide) ?_
  refine lv_istore (lv' := [(4, .int (0 : Int32)), (3, .int (0 : Int32)), (0, .ref (a 0)), (1, .ref (a 7)), (2, .int p1)]) hx hb dX2_together_3 hl (by decide) rfl (fun ls hl => ?_)
  have L5 : ∀ (n : Nat) (v1 : Int32) (v2 : Int32) (H : Heap) (locs : List Loc) (ls : Array Slot), va_P D vwCl (kL cI a x) H → va_D A (kL cI a x) → va_S A s.heap H locs → lv_has ls 5 [(0, .ref (a 0)), (1, .ref (a 7)), (2, .int p1), (3, .int v1), (4, .int v2)] → lp (fun _ _ => none : Int32 → Int32 → Option (Int32)) (f_X2_together_7_b5 x p1) n v1 v2 = some r → W p l e RM_X2_together_7 s m (([.ref (a 0), .ref (a 7), .int p1] : List Value).toArray) below meth c H locs 0 0 (MQ below (QI0 D A (kL cI a x) r) (([.ref (a 0), .ref (a 7), .int p1] : List Value).toArray) s 0 0 A) (F0 m 5 ls []) := by
    intro n
    induction n with
    | zero => intro v1 v2 H locs ls _ _ _ _ hf; cases (show (none : Option (Int32)) = some r from hf)
    | succ n ih5 =>
      intro v1 v2 H locs ls hP hD hS hl hf
      have hf : (f_X2_together_7_b5 x p1) (lp (fun _ _ => none : Int32 → Int32 → Option (Int32)) (f_X2_together_7_b5 x p1) n) v1 v2 = some r := hf
      generalize lp (fun _ _ => none : Int32 → Int32 → Option (Int32)) (f_X2_together_7_b5 x p1) n = rc5 at ih5 hf
      unfold f_X2_together_7_b5 at hf
      refine lv_iload hx hb dX2_together_5 (lv_at hl 4 rfl) ?_
      refine lv_aload_n hx hb dX2_together_7 rfl (lv_at hl 0 rfl) ?_
      refine va_get (D := D) (ci := 2) (v := .int (x 0 3)) (C := RX2) (T := TX2) (N := 18) hx hb hG inG2 hown hK hP 0 at_L_0_0 rfl 3 (by decide) (hG _ g_119) (fun _ h9 => h9) rfl dX2_together_8 ?_
      refine lv_icmp_ge (tgt := 36) hx hb dX2_together_11 (by decide) (fun cc11 => ?_) (fun cc11 => ?_)
      · have hf := if_t cc11 hf
        refine lv_iload_n hx hb dX2_together_36 rfl (lv_at hl 3 rfl) ?_
        exact W.iret (v := v1) hx hb hr (fun t ht hW => ⟨⟨v1, (), rfl, Option.some.inj hf, by rw [ht]; exact hP, hD⟩, hS.F ht⟩) hS.2.2 dX2_together_37
      · have hf := if_f cc11 hf
        refine lv_iload_n hx hb dX2_together_14 rfl (lv_at hl 2 rfl) ?_
        refine lv_iload hx hb dX2_together_15 (lv_at hl 4 rfl) ?_
        obtain ⟨q3, hq3, hf⟩ := bd_x hf
        have hFc := va_free (wc := []) hD hS hA [] rfl
        refine va_calli (va_runSN (As := [.int p1, .int v2]) (rest := []) ⟨hx, hb, hml, hown, hG⟩ (c_X6_has l D cI cZ p1 v2 H.size hq3) ⟨va_cnB 2 hG (gC g_285) rfl rfl rfl hnw.2.2.1 (hG _ g_70) (by decide +kernel) ⟨Nat.le_of_ble_eq_true rfl, Nat.le_of_ble_eq_true rfl⟩, hG _ g_284, trivial⟩ ⟨pre_blind, fun U hU hW => ⟨rfl, pre_of P_nil hK D_nil hnw hU hW⟩⟩ rfl rfl hl.1 rfl (lv_room (Nat.le_of_ble_eq_true rfl)) dX2_together_17 ⟨Nat.le_of_ble_eq_true rfl, Nat.le_of_ble_eq_true rfl⟩) hS (fun q _ h => hFc q h) hFc (fun v u t H locs ht hvm hw hB hz1 hk1 hS => ?_)
        have hw := hw.symm; subst hw
        obtain ⟨hP1, hD1⟩ := hB
        rw [ht] at hP1
        obtain ⟨hP, hD⟩ := back hP hD [] rfl rfl hk1 hFc hP1 hD1
        have J30 : ∀ (v4 : Int32) (H : Heap) (locs : List Loc) (ls : Array Slot), va_P D vwCl (kL cI a x) H → va_D A (kL cI a x) → va_S A s.heap H locs → lv_has ls 5 [(0, .ref (a 0)), (1, .ref (a 7)), (2, .int p1), (3, .int v4), (4, .int v2)] → f_X2_together_7_j30 rc5 v2 v4 = some r → W p l e RM_X2_together_7 s m (([.ref (a 0), .ref (a 7), .int p1] : List Value).toArray) below meth c H locs 0 0 (MQ below (QI0 D A (kL cI a x) r) (([.ref (a 0), .ref (a 7), .int p1] : List Value).toArray) s 0 0 A) (F0 m 30 ls []) := by
          intro v4 H locs ls hP hD hS hl hf
          unfold f_X2_together_7_j30 at hf
          obtain ⟨v5, ev5⟩ : ∃ y : Int32, y = (v2 + (1 : Int32)) := ⟨_, rfl⟩
          have hf := nm_x ev5 hf
          refine lv_iinc (v := v5) (lv' := [(4, .int v5), (0, .ref (a 0)), (1, .ref (a 7)), (2, .int p1), (3, .int v4)]) hx hb dX2_together_30 hl (k := 4) rfl (by rw [ev5]; rfl) (by decide) rfl (fun ls hl => ?_)
          refine lv_goto (tgt := 5) hx hb dX2_together_33 (by decide) ?_
          exact ih5 v4 v5 _ _ _ hP hD hS (lv_sub hl [1, 2, 3, 4, 0] rfl) hf
        refine lv_if_eq (tgt := 30) hx hb dX2_together_20 (by decide) (fun cc20 => ?_) (fun cc20 => ?_)
        · have hf := if_t cc20 hf
          exact J30 v1 _ _ _ hP hD hS (lv_sub hl [0, 1, 2, 3, 4] rfl) hf
        · have hf := if_f cc20 hf
          refine lv_iload_n hx hb dX2_together_23 rfl (lv_at hl 3 rfl) ?_
          refine lv_aload_n hx hb dX2_together_24 rfl (lv_at hl 1 rfl) ?_
          refine lv_iload hx hb dX2_together_25 (lv_at hl 4 rfl) ?_
          obtain ⟨hb27, hf⟩ := gd hf
          refine va_iald (cA := cI) (n := 6) (f := x 7) hx hb hK hP 7 0 at_L_0_7 rfl (inb_in hb27) dX2_together_27 ?_
          refine lv_iadd hx hb dX2_together_28 ?_
          refine lv_topi (fun v6 ev6 => ?_)
          have hf := nm_x ev6 hf
          refine lv_istore_n (lv' := [(3, .int v6), (0, .ref (a 0)), (1, .ref (a 7)), (2, .int p1), (4, .int v2)]) hx hb dX2_together_29 rfl hl (by decide) rfl (fun ls hl => ?_)
          exact J30 v6 _ _ _ hP hD hS (lv_sub hl [1, 2, 3, 0, 4] rfl) hf
  exact L5 FU (0 : Int32) (0 : Int32) _ _ _ hP hD hS (lv_sub hl [2, 3, 4, 1, 0] rfl) hf
def f_X2_worthOf (x : HC) (p1 : Int32) : Option (Int32) := bd (f_X2_together_7 x p1) (fun (q1 : Int32) => some q1)
abbrev RM_X2_worthOf : Room := { frames := 2, cells := 0, slots := 0, locals := 45 }
set_option maxHeartbeats 4000000 in
set_option maxRecDepth 100000 in
theorem c_X2_worthOf (l : Launch) (D : va_G) (cI cZ : ClassId) (a : Nat → Nat) (x : HC) (p1 : Int32) (sz : Nat) {r : Int32} (hf : f_X2_worthOf x p1 = some r) : Met l yX2_worthOf (wM yX2_worthOf cX2_worthOf 2 (some .int)) RM_X2_worthOf (va_Pc [.ref (a 0), .int p1] (pre D cI cZ (kL cI a x) sz)) (QI0 D (va_A (kL cI a x) sz) (kL cI a x) r) 0 0 (va_A (kL cI a x) sz) := by
  unfold f_X2_worthOf at hf
  refine Met.ofW (cc := cX2_worthOf) (maxL := 2) (ret := (some .int)) (by decide) rfl ?_
  intro p e s m args below meth c s₁ B hml hv
  obtain ⟨rfl, hsz, hP, hK, hD0, hnw⟩ := hv
  have hx := B.exec
  have hb := B.bytes
  have hr := B.returns
  have hts := atoms_spec (ws := wM yX2_worthOf cX2_worthOf 2 (some .int)) B.pre
  have hG : ∀ w ∈ GW, w.before (([.ref (a 0), .int p1] : List Value).toArray) s = true := fun w h => hts w (List.mem_cons_of_mem _ h)
  have hown : s.vm.findClass RX2 = some m.cls := findClass_of_methodNamed B.named
  have hlocks := B.notSynchronized
  subst hsz
  have hD := hD0.self (sz := s.heap.size)
  generalize hAe : va_A (kL cI a x) s.heap.size = A at hD ⊢
  have hA : ∀ q : Nat, s.heap.size ≤ q → A q := fun q h => by rw [← hAe]; exact Or.inr h
  have hS : va_S A s.heap s.heap [] := va_S.rf
  have hl := lv_entry ([.ref (a 0), .int p1]) (n := 2) (Nat.le_of_ble_eq_true rfl)
  rw [lg_entry_eq]
  generalize (lg_sl ([.ref (a 0), .int p1]) ++ List.replicate (2 - (lg_sl ([.ref (a 0), .int p1])).length) Slot.unset).toArray = ls at hl ⊢
  have hl : lv_has ls 2 [(0, .ref (a 0)), (1, .int p1)] := hl
  show W p l e RM_X2_worthOf s m (([.ref (a 0), .int p1] : List Value).toArray) below meth c s.heap [] 0 0 (MQ below (QI0 D A (kL cI a x) r) (([.ref (a 0), .int p1] : List Value).toArray) s 0 0 A) (F0 m 0 ls [])
  refine lv_aload_n hx hb dX2_worthOf_0 rfl (lv_at hl 0 rfl) ?_
  refine lv_aload_n hx hb dX2_worthOf_1 rfl (lv_at hl 0 rfl) ?_
  refine va_get (D := D) (ci := 2) (v := .ref (a 7)) (C := RX2) (T := TX2) (N := 18) hx hb hG inG2 hown hK hP 0 at_L_0_0 rfl 12 (by decide) (hG _ g_148) (fun _ h9 => h9) rfl dX2_worthOf_2 ?_
  refine lv_iload_n hx hb dX2_worthOf_5 rfl (lv_at hl 1 rfl) ?_
  obtain ⟨q1, hq1, hf⟩ := bd_x hf
  have hFc := freeS hD hS hA
  refine va_calli (va_runV (As := [.ref (a 7), .int p1]) (rest := []) ⟨hx, hb, hml, hown, hG⟩ (c_X2_together_7 l D cI cZ a x p1 s.heap.size hq1) (cwV 2 hG (gV g_336 g_337 g_15 g_72 g_338) rfl rfl rfl (by decide +kernel) ⟨Nat.le_of_ble_eq_true rfl, Nat.le_of_ble_eq_true rfl⟩) ⟨pre_blind, va_recv hK hP (ci := 2) (q0 := 0) rfl rfl, fun U hU hW => ⟨rfl, pre_of hP hK hD hnw hU hW⟩⟩ rfl rfl hl.1 rfl (lv_room (Nat.le_of_ble_eq_true rfl)) dX2_worthOf_6 ⟨Nat.le_of_ble_eq_true rfl, Nat.le_of_ble_eq_true rfl⟩) hS (fun q _ h => hFc q h) hFc (fun v u t H locs ht hvm hw hB hz1 hk1 hS => ?_)
  have hw := hw.symm; subst hw
  obtain ⟨hP1, hD1⟩ := hB
  rw [ht] at hP1
  have hP := hP1
  have hD := hD1.weaken (fun _ q _ h => hFc q.1 h)
  exact W.iret (v := q1) hx hb hr (fun t ht hW => ⟨⟨q1, (), rfl, Option.some.inj hf, by rw [ht]; exact hP, hD⟩, hS.F ht⟩) hS.2.2 dX2_worthOf_9
def f_X2_together_8_j30 (rc5 : Int32 → Int32 → Option (Int32)) (v2 : Int32) (v4 : Int32) : Option (Int32) := nm (v2 + (1 : Int32)) (fun (v5 : Int32) => rc5 v4 v5)
def f_X2_together_8_b5 (x : HC) (p1 : Int32) (rc5 : Int32 → Int32 → Option (Int32)) (v1 : Int32) (v2 : Int32) : Option (Int32) := (if (x 0 3) ≤ v2 then some v1 else bd (f_X6_has p1 v2) (fun (q3 : Int32) => (if q3 = 0 then f_X2_together_8_j30 rc5 v2 v1 else (if inb v2 6 then nm (v1 + (x 8 (Int32.toNatClampNeg v2))) (fun (v6 : Int32) => f_X2_together_8_j30 rc5 v2 v6) else none))))
def f_X2_together_8 (x : HC) (p1 : Int32) : Option (Int32) := lp (fun _ _ => none : Int32 → Int32 → Option (Int32)) (f_X2_together_8_b5 x p1) FU (0 : Int32) (0 : Int32)
abbrev RM_X2_together_8 : Room := { frames := 1, cells := 0, slots := 0, locals := 21 }
set_option maxHeartbeats 4000000 in
set_option maxRecDepth 100000 in
theorem c_X2_together_8 (l : Launch) (D : va_G) (cI cZ : ClassId) (a : Nat → Nat) (x : HC) (p1 : Int32) (sz : Nat) {r : Int32} (hf : f_X2_together_8 x p1 = some r) : Met l yX2_together (wM yX2_together cX2_together 5 (some .int)) RM_X2_together_8 (va_Pc [.ref (a 0), .ref (a 8), .int p1] (pre D cI cZ (kL cI a x) sz)) (QI0 D (va_A (kL cI a x) sz) (kL cI a x) r) 0 0 (va_A (kL cI a x) sz) := by
  unfold f_X2_together_8 at hf
  refine Met.ofW (cc := cX2_together) (maxL := 5) (ret := (some .int)) (by decide) rfl ?_
  intro p e s m args below meth c s₁ B hml hv
  obtain ⟨rfl, hsz, hP, hK, hD0, hnw⟩ := hv
  have hx := B.exec
  have hb := B.bytes
  have hr := B.returns
  have hts := atoms_spec (ws := wM yX2_together cX2_together 5 (some .int)) B.pre
  have hG : ∀ w ∈ GW, w.before (([.ref (a 0), .ref (a 8), .int p1] : List Value).toArray) s = true := fun w h => hts w (List.mem_cons_of_mem _ h)
  have hown : s.vm.findClass RX2 = some m.cls := findClass_of_methodNamed B.named
  have hlocks := B.notSynchronized
  subst hsz
  have hD := hD0.self (sz := s.heap.size)
  generalize hAe : va_A (kL cI a x) s.heap.size = A at hD ⊢
  have hA : ∀ q : Nat, s.heap.size ≤ q → A q := fun q h => by rw [← hAe]; exact Or.inr h
  have hS : va_S A s.heap s.heap [] := va_S.rf
  have hl := lv_entry ([.ref (a 0), .ref (a 8), .int p1]) (n := 5) (Nat.le_of_ble_eq_true rfl)
  rw [lg_entry_eq]
  generalize (lg_sl ([.ref (a 0), .ref (a 8), .int p1]) ++ List.replicate (5 - (lg_sl ([.ref (a 0), .ref (a 8), .int p1])).length) Slot.unset).toArray = ls at hl ⊢
  have hl : lv_has ls 5 [(0, .ref (a 0)), (1, .ref (a 8)), (2, .int p1)] := hl
  show W p l e RM_X2_together_8 s m (([.ref (a 0), .ref (a 8), .int p1] : List Value).toArray) below meth c s.heap [] 0 0 (MQ below (QI0 D A (kL cI a x) r) (([.ref (a 0), .ref (a 8), .int p1] : List Value).toArray) s 0 0 A) (F0 m 0 ls [])
  refine lv_iconst (v := (0 : Int32)) hx hb dX2_together_0 (by decide) ?_
  refine lv_istore_n (lv' := [(3, .int (0 : Int32)), (0, .ref (a 0)), (1, .ref (a 8)), (2, .int p1)]) hx hb dX2_together_1 rfl hl (by decide) rfl (fun ls hl => ?_)
  refine lv_iconst (v := (0 : Int32)) hx hb dX2_together_2 (by decide) ?_
  refine lv_istore (lv' := [(4, .int (0 : Int32)), (3, .int (0 : Int32)), (0, .ref (a 0)), (1, .ref (a 8)), (2, .int p1)]) hx hb dX2_together_3 hl (by decide) rfl (fun ls hl => ?_)
  have L5 : ∀ (n : Nat) (v1 : Int32) (v2 : Int32) (H : Heap) (locs : List Loc) (ls : Array Slot), va_P D vwCl (kL cI a x) H → va_D A (kL cI a x) → va_S A s.heap H locs → lv_has ls 5 [(0, .ref (a 0)), (1, .ref (a 8)), (2, .int p1), (3, .int v1), (4, .int v2)] → lp (fun _ _ => none : Int32 → Int32 → Option (Int32)) (f_X2_together_8_b5 x p1) n v1 v2 = some r → W p l e RM_X2_together_8 s m (([.ref (a 0), .ref (a 8), .int p1] : List Value).toArray) below meth c H locs 0 0 (MQ below (QI0 D A (kL cI a x) r) (([.ref (a 0), .ref (a 8), .int p1] : List Value).toArray) s 0 0 A) (F0 m 5 ls []) := by
    intro n
    induction n with
    | zero => intro v1 v2 H locs ls _ _ _ _ hf; cases (show (none : Option (Int32)) = some r from hf)
    | succ n ih5 =>
      intro v1 v2 H locs ls hP hD hS hl hf
      have hf : (f_X2_together_8_b5 x p1) (lp (fun _ _ => none : Int32 → Int32 → Option (Int32)) (f_X2_together_8_b5 x p1) n) v1 v2 = some r := hf
      generalize lp (fun _ _ => none : Int32 → Int32 → Option (Int32)) (f_X2_together_8_b5 x p1) n = rc5 at ih5 hf
      unfold f_X2_together_8_b5 at hf
      refine lv_iload hx hb dX2_together_5 (lv_at hl 4 rfl) ?_
      refine lv_aload_n hx hb dX2_together_7 rfl (lv_at hl 0 rfl) ?_
      refine va_get (D := D) (ci := 2) (v := .int (x 0 3)) (C := RX2) (T := TX2) (N := 18) hx hb hG inG2 hown hK hP 0 at_L_0_0 rfl 3 (by decide) (hG _ g_119) (fun _ h9 => h9) rfl dX2_together_8 ?_
      refine lv_icmp_ge (tgt := 36) hx hb dX2_together_11 (by decide) (fun cc11 => ?_) (fun cc11 => ?_)
      · have hf := if_t cc11 hf
        refine lv_iload_n hx hb dX2_together_36 rfl (lv_at hl 3 rfl) ?_
        exact W.iret (v := v1) hx hb hr (fun t ht hW => ⟨⟨v1, (), rfl, Option.some.inj hf, by rw [ht]; exact hP, hD⟩, hS.F ht⟩) hS.2.2 dX2_together_37
      · have hf := if_f cc11 hf
        refine lv_iload_n hx hb dX2_together_14 rfl (lv_at hl 2 rfl) ?_
        refine lv_iload hx hb dX2_together_15 (lv_at hl 4 rfl) ?_
        obtain ⟨q3, hq3, hf⟩ := bd_x hf
        have hFc := va_free (wc := []) hD hS hA [] rfl
        refine va_calli (va_runSN (As := [.int p1, .int v2]) (rest := []) ⟨hx, hb, hml, hown, hG⟩ (c_X6_has l D cI cZ p1 v2 H.size hq3) ⟨va_cnB 2 hG (gC g_285) rfl rfl rfl hnw.2.2.1 (hG _ g_70) (by decide +kernel) ⟨Nat.le_of_ble_eq_true rfl, Nat.le_of_ble_eq_true rfl⟩, hG _ g_284, trivial⟩ ⟨pre_blind, fun U hU hW => ⟨rfl, pre_of P_nil hK D_nil hnw hU hW⟩⟩ rfl rfl hl.1 rfl (lv_room (Nat.le_of_ble_eq_true rfl)) dX2_together_17 ⟨Nat.le_of_ble_eq_true rfl, Nat.le_of_ble_eq_true rfl⟩) hS (fun q _ h => hFc q h) hFc (fun v u t H locs ht hvm hw hB hz1 hk1 hS => ?_)
        have hw := hw.symm; subst hw
        obtain ⟨hP1, hD1⟩ := hB
        rw [ht] at hP1
        obtain ⟨hP, hD⟩ := back hP hD [] rfl rfl hk1 hFc hP1 hD1
        have J30 : ∀ (v4 : Int32) (H : Heap) (locs : List Loc) (ls : Array Slot), va_P D vwCl (kL cI a x) H → va_D A (kL cI a x) → va_S A s.heap H locs → lv_has ls 5 [(0, .ref (a 0)), (1, .ref (a 8)), (2, .int p1), (3, .int v4), (4, .int v2)] → f_X2_together_8_j30 rc5 v2 v4 = some r → W p l e RM_X2_together_8 s m (([.ref (a 0), .ref (a 8), .int p1] : List Value).toArray) below meth c H locs 0 0 (MQ below (QI0 D A (kL cI a x) r) (([.ref (a 0), .ref (a 8), .int p1] : List Value).toArray) s 0 0 A) (F0 m 30 ls []) := by
          intro v4 H locs ls hP hD hS hl hf
          unfold f_X2_together_8_j30 at hf
          obtain ⟨v5, ev5⟩ : ∃ y : Int32, y = (v2 + (1 : Int32)) := ⟨_, rfl⟩
          have hf := nm_x ev5 hf
          refine lv_iinc (v := v5) (lv' := [(4, .int v5), (0, .ref (a 0)), (1, .ref (a 8)), (2, .int p1), (3, .int v4)]) hx hb dX2_together_30 hl (k := 4) rfl (by rw [ev5]; rfl) (by decide) rfl (fun ls hl => ?_)
          refine lv_goto (tgt := 5) hx hb dX2_together_33 (by decide) ?_
          exact ih5 v4 v5 _ _ _ hP hD hS (lv_sub hl [1, 2, 3, 4, 0] rfl) hf
        refine lv_if_eq (tgt := 30) hx hb dX2_together_20 (by decide) (fun cc20 => ?_) (fun cc20 => ?_)
        · have hf := if_t cc20 hf
          exact J30 v1 _ _ _ hP hD hS (lv_sub hl [0, 1, 2, 3, 4] rfl) hf
        · have hf := if_f cc20 hf
          refine lv_iload_n hx hb dX2_together_23 rfl (lv_at hl 3 rfl) ?_
          refine lv_aload_n hx hb dX2_together_24 rfl (lv_at hl 1 rfl) ?_
          refine lv_iload hx hb dX2_together_25 (lv_at hl 4 rfl) ?_
          obtain ⟨hb27, hf⟩ := gd hf
          refine va_iald (cA := cI) (n := 6) (f := x 8) hx hb hK hP 8 0 at_L_0_8 rfl (inb_in hb27) dX2_together_27 ?_
          refine lv_iadd hx hb dX2_together_28 ?_
          refine lv_topi (fun v6 ev6 => ?_)
          have hf := nm_x ev6 hf
          refine lv_istore_n (lv' := [(3, .int v6), (0, .ref (a 0)), (1, .ref (a 8)), (2, .int p1), (4, .int v2)]) hx hb dX2_together_29 rfl hl (by decide) rfl (fun ls hl => ?_)
          exact J30 v6 _ _ _ hP hD hS (lv_sub hl [1, 2, 3, 0, 4] rfl) hf
  exact L5 FU (0 : Int32) (0 : Int32) _ _ _ hP hD hS (lv_sub hl [2, 3, 4, 1, 0] rfl) hf
def f_X2_fameOf (x : HC) (p1 : Int32) : Option (Int32) := bd (f_X2_together_8 x p1) (fun (q1 : Int32) => some q1)
abbrev RM_X2_fameOf : Room := { frames := 2, cells := 0, slots := 0, locals := 45 }
set_option maxHeartbeats 4000000 in
set_option maxRecDepth 100000 in
theorem c_X2_fameOf (l : Launch) (D : va_G) (cI cZ : ClassId) (a : Nat → Nat) (x : HC) (p1 : Int32) (sz : Nat) {r : Int32} (hf : f_X2_fameOf x p1 = some r) : Met l yX2_fameOf (wM yX2_fameOf cX2_fameOf 2 (some .int)) RM_X2_fameOf (va_Pc [.ref (a 0), .int p1] (pre D cI cZ (kL cI a x) sz)) (QI0 D (va_A (kL cI a x) sz) (kL cI a x) r) 0 0 (va_A (kL cI a x) sz) := by
  unfold f_X2_fameOf at hf
  refine Met.ofW (cc := cX2_fameOf) (maxL := 2) (ret := (some .int)) (by decide) rfl ?_
  intro p e s m args below meth c s₁ B hml hv
  obtain ⟨rfl, hsz, hP, hK, hD0, hnw⟩ := hv
  have hx := B.exec
  have hb := B.bytes
  have hr := B.returns
  have hts := atoms_spec (ws := wM yX2_fameOf cX2_fameOf 2 (some .int)) B.pre
  have hG : ∀ w ∈ GW, w.before (([.ref (a 0), .int p1] : List Value).toArray) s = true := fun w h => hts w (List.mem_cons_of_mem _ h)
  have hown : s.vm.findClass RX2 = some m.cls := findClass_of_methodNamed B.named
  have hlocks := B.notSynchronized
  subst hsz
  have hD := hD0.self (sz := s.heap.size)
  generalize hAe : va_A (kL cI a x) s.heap.size = A at hD ⊢
  have hA : ∀ q : Nat, s.heap.size ≤ q → A q := fun q h => by rw [← hAe]; exact Or.inr h
  have hS : va_S A s.heap s.heap [] := va_S.rf
  have hl := lv_entry ([.ref (a 0), .int p1]) (n := 2) (Nat.le_of_ble_eq_true rfl)
  rw [lg_entry_eq]
  generalize (lg_sl ([.ref (a 0), .int p1]) ++ List.replicate (2 - (lg_sl ([.ref (a 0), .int p1])).length) Slot.unset).toArray = ls at hl ⊢
  have hl : lv_has ls 2 [(0, .ref (a 0)), (1, .int p1)] := hl
  show W p l e RM_X2_fameOf s m (([.ref (a 0), .int p1] : List Value).toArray) below meth c s.heap [] 0 0 (MQ below (QI0 D A (kL cI a x) r) (([.ref (a 0), .int p1] : List Value).toArray) s 0 0 A) (F0 m 0 ls [])
  refine lv_aload_n hx hb dX2_fameOf_0 rfl (lv_at hl 0 rfl) ?_
  refine lv_aload_n hx hb dX2_fameOf_1 rfl (lv_at hl 0 rfl) ?_
  refine va_get (D := D) (ci := 2) (v := .ref (a 8)) (C := RX2) (T := TX2) (N := 18) hx hb hG inG2 hown hK hP 0 at_L_0_0 rfl 13 (by decide) (hG _ g_152) (fun _ h9 => h9) rfl dX2_fameOf_2 ?_
  refine lv_iload_n hx hb dX2_fameOf_5 rfl (lv_at hl 1 rfl) ?_
  obtain ⟨q1, hq1, hf⟩ := bd_x hf
  have hFc := freeS hD hS hA
  refine va_calli (va_runV (As := [.ref (a 8), .int p1]) (rest := []) ⟨hx, hb, hml, hown, hG⟩ (c_X2_together_8 l D cI cZ a x p1 s.heap.size hq1) (cwV 2 hG (gV g_336 g_337 g_15 g_72 g_338) rfl rfl rfl (by decide +kernel) ⟨Nat.le_of_ble_eq_true rfl, Nat.le_of_ble_eq_true rfl⟩) ⟨pre_blind, va_recv hK hP (ci := 2) (q0 := 0) rfl rfl, fun U hU hW => ⟨rfl, pre_of hP hK hD hnw hU hW⟩⟩ rfl rfl hl.1 rfl (lv_room (Nat.le_of_ble_eq_true rfl)) dX2_fameOf_6 ⟨Nat.le_of_ble_eq_true rfl, Nat.le_of_ble_eq_true rfl⟩) hS (fun q _ h => hFc q h) hFc (fun v u t H locs ht hvm hw hB hz1 hk1 hS => ?_)
  have hw := hw.symm; subst hw
  obtain ⟨hP1, hD1⟩ := hB
  rw [ht] at hP1
  have hP := hP1
  have hD := hD1.weaken (fun _ q _ h => hFc q.1 h)
  exact W.iret (v := q1) hx hb hr (fun t ht hW => ⟨⟨q1, (), rfl, Option.some.inj hf, by rw [ht]; exact hP, hD⟩, hS.F ht⟩) hS.2.2 dX2_fameOf_9
def f_X2_dangerLeft_j56 (rc11 : Int32 → Int32 → Option (Int32)) (v3 : Int32) (v5 : Int32) : Option (Int32) := nm (v3 + (1 : Int32)) (fun (v6 : Int32) => rc11 v5 v6)
def f_X2_dangerLeft_b11 (x : HC) (p2 : Int32) (p3 : Int32) (rc11 : Int32 → Int32 → Option (Int32)) (v2 : Int32) (v3 : Int32) : Option (Int32) := (if (x 0 4) ≤ v3 then some v2 else bd (f_X6_has p2 v3) (fun (q4 : Int32) => (if q4 = 0 then f_X2_dangerLeft_j56 rc11 v3 v2 else (if inb v3 4 then (if p3 < (x 11 (Int32.toNatClampNeg v3)) then f_X2_dangerLeft_j56 rc11 v3 v2 else (if inb v3 4 then nm (if (0 : Int32) < (v2 - (x 10 (Int32.toNatClampNeg v3))) then (v2 - (x 10 (Int32.toNatClampNeg v3))) else (0 : Int32)) (fun (v7 : Int32) => f_X2_dangerLeft_j56 rc11 v3 v7) else none)) else none))))
def f_X2_dangerLeft (x : HC) (p1 : Int32) (p2 : Int32) (p3 : Int32) : Option (Int32) := (if inb p1 6 then nm (x 6 (Int32.toNatClampNeg p1)) (fun (v1 : Int32) => lp (fun _ _ => none : Int32 → Int32 → Option (Int32)) (f_X2_dangerLeft_b11 x p2 p3) FU v1 (0 : Int32)) else none)
abbrev RM_X2_dangerLeft : Room := { frames := 1, cells := 0, slots := 0, locals := 21 }
set_option maxHeartbeats 4000000 in
set_option maxRecDepth 100000 in
theorem c_X2_dangerLeft (l : Launch) (D : va_G) (cI cZ : ClassId) (a : Nat → Nat) (x : HC) (p1 : Int32) (p2 : Int32) (p3 : Int32) (sz : Nat) {r : Int32} (hf : f_X2_dangerLeft x p1 p2 p3 = some r) : Met l yX2_dangerLeft (wM yX2_dangerLeft cX2_dangerLeft 6 (some .int)) RM_X2_dangerLeft (va_Pc [.ref (a 0), .int p1, .int p2, .int p3] (pre D cI cZ (kL cI a x) sz)) (QI0 D (va_A (kL cI a x) sz) (kL cI a x) r) 0 0 (va_A (kL cI a x) sz) := by
  unfold f_X2_dangerLeft at hf
  refine Met.ofW (cc := cX2_dangerLeft) (maxL := 6) (ret := (some .int)) (by decide) rfl ?_
  intro p e s m args below meth c s₁ B hml hv
  obtain ⟨rfl, hsz, hP, hK, hD0, hnw⟩ := hv
  have hx := B.exec
  have hb := B.bytes
  have hr := B.returns
  have hts := atoms_spec (ws := wM yX2_dangerLeft cX2_dangerLeft 6 (some .int)) B.pre
  have hG : ∀ w ∈ GW, w.before (([.ref (a 0), .int p1, .int p2, .int p3] : List Value).toArray) s = true := fun w h => hts w (List.mem_cons_of_mem _ h)
  have hown : s.vm.findClass RX2 = some m.cls := findClass_of_methodNamed B.named
  have hlocks := B.notSynchronized
  subst hsz
  have hD := hD0.self (sz := s.heap.size)
  generalize hAe : va_A (kL cI a x) s.heap.size = A at hD ⊢
  have hA : ∀ q : Nat, s.heap.size ≤ q → A q := fun q h => by rw [← hAe]; exact Or.inr h
  have hS : va_S A s.heap s.heap [] := va_S.rf
  have hl := lv_entry ([.ref (a 0), .int p1, .int p2, .int p3]) (n := 6) (Nat.le_of_ble_eq_true rfl)
  rw [lg_entry_eq]
  generalize (lg_sl ([.ref (a 0), .int p1, .int p2, .int p3]) ++ List.replicate (6 - (lg_sl ([.ref (a 0), .int p1, .int p2, .int p3])).length) Slot.unset).toArray = ls at hl ⊢
  have hl : lv_has ls 6 [(0, .ref (a 0)), (1, .int p1), (2, .int p2), (3, .int p3)] := hl
  show W p l e RM_X2_dangerLeft s m (([.ref (a 0), .int p1, .int p2, .int p3] : List Value).toArray) below meth c s.heap [] 0 0 (MQ below (QI0 D A (kL cI a x) r) (([.ref (a 0), .int p1, .int p2, .int p3] : List Value).toArray) s 0 0 A) (F0 m 0 ls [])
  refine lv_aload_n hx hb dX2_dangerLeft_0 rfl (lv_at hl 0 rfl) ?_
  refine va_get (D := D) (ci := 2) (v := .ref (a 6)) (C := RX2) (T := TX2) (N := 18) hx hb hG inG2 hown hK hP 0 at_L_0_0 rfl 11 (by decide) (hG _ g_145) (fun _ h9 => h9) rfl dX2_dangerLeft_1 ?_
  refine lv_iload_n hx hb dX2_dangerLeft_4 rfl (lv_at hl 1 rfl) ?_
  obtain ⟨hb5, hf⟩ := gd hf
  refine va_iald (cA := cI) (n := 6) (f := x 6) hx hb hK hP 6 0 at_L_0_6 rfl (inb_in hb5) dX2_dangerLeft_5 ?_
  refine lv_topi (fun v1 ev1 => ?_)
  have hf := nm_x ev1 hf
  refine lv_istore (lv' := [(4, .int v1), (0, .ref (a 0)), (1, .int p1), (2, .int p2), (3, .int p3)]) hx hb dX2_dangerLeft_6 hl (by decide) rfl (fun ls hl => ?_)
  refine lv_iconst (v := (0 : Int32)) hx hb dX2_dangerLeft_8 (by decide) ?_
  refine lv_istore (lv' := [(5, .int (0 : Int32)), (4, .int v1), (0, .ref (a 0)), (1, .int p1), (2, .int p2), (3, .int p3)]) hx hb dX2_dangerLeft_9 hl (by decide) rfl (fun ls hl => ?_)
  have L11 : ∀ (n : Nat) (v2 : Int32) (v3 : Int32) (H : Heap) (locs : List Loc) (ls : Array Slot), va_P D vwCl (kL cI a x) H → va_D A (kL cI a x) → va_S A s.heap H locs → lv_has ls 6 [(0, .ref (a 0)), (2, .int p2), (3, .int p3), (4, .int v2), (5, .int v3)] → lp (fun _ _ => none : Int32 → Int32 → Option (Int32)) (f_X2_dangerLeft_b11 x p2 p3) n v2 v3 = some r → W p l e RM_X2_dangerLeft s m (([.ref (a 0), .int p1, .int p2, .int p3] : List Value).toArray) below meth c H locs 0 0 (MQ below (QI0 D A (kL cI a x) r) (([.ref (a 0), .int p1, .int p2, .int p3] : List Value).toArray) s 0 0 A) (F0 m 11 ls []) := by
    intro n
    induction n with
    | zero => intro v2 v3 H locs ls _ _ _ _ hf; cases (show (none : Option (Int32)) = some r from hf)
    | succ n ih11 =>
      intro v2 v3 H locs ls hP hD hS hl hf
      have hf : (f_X2_dangerLeft_b11 x p2 p3) (lp (fun _ _ => none : Int32 → Int32 → Option (Int32)) (f_X2_dangerLeft_b11 x p2 p3) n) v2 v3 = some r := hf
      generalize lp (fun _ _ => none : Int32 → Int32 → Option (Int32)) (f_X2_dangerLeft_b11 x p2 p3) n = rc11 at ih11 hf
      unfold f_X2_dangerLeft_b11 at hf
      refine lv_iload hx hb dX2_dangerLeft_11 (lv_at hl 4 rfl) ?_
      refine lv_aload_n hx hb dX2_dangerLeft_13 rfl (lv_at hl 0 rfl) ?_
      refine va_get (D := D) (ci := 2) (v := .int (x 0 4)) (C := RX2) (T := TX2) (N := 18) hx hb hG inG2 hown hK hP 0 at_L_0_0 rfl 4 (by decide) (hG _ g_123) (fun _ h9 => h9) rfl dX2_dangerLeft_14 ?_
      refine lv_icmp_ge (tgt := 62) hx hb dX2_dangerLeft_17 (by decide) (fun cc17 => ?_) (fun cc17 => ?_)
      · have hf := if_t cc17 hf
        refine lv_iload hx hb dX2_dangerLeft_62 (lv_at hl 3 rfl) ?_
        exact W.iret (v := v2) hx hb hr (fun t ht hW => ⟨⟨v2, (), rfl, Option.some.inj hf, by rw [ht]; exact hP, hD⟩, hS.F ht⟩) hS.2.2 dX2_dangerLeft_64
      · have hf := if_f cc17 hf
        refine lv_iload_n hx hb dX2_dangerLeft_20 rfl (lv_at hl 1 rfl) ?_
        refine lv_iload hx hb dX2_dangerLeft_21 (lv_at hl 4 rfl) ?_
        obtain ⟨q4, hq4, hf⟩ := bd_x hf
        have hFc := va_free (wc := []) hD hS hA [] rfl
        refine va_calli (va_runSN (As := [.int p2, .int v3]) (rest := []) ⟨hx, hb, hml, hown, hG⟩ (c_X6_has l D cI cZ p2 v3 H.size hq4) ⟨va_cnB 2 hG (gC g_285) rfl rfl rfl hnw.2.2.1 (hG _ g_70) (by decide +kernel) ⟨Nat.le_of_ble_eq_true rfl, Nat.le_of_ble_eq_true rfl⟩, hG _ g_284, trivial⟩ ⟨pre_blind, fun U hU hW => ⟨rfl, pre_of P_nil hK D_nil hnw hU hW⟩⟩ rfl rfl hl.1 rfl (lv_room (Nat.le_of_ble_eq_true rfl)) dX2_dangerLeft_23 ⟨Nat.le_of_ble_eq_true rfl, Nat.le_of_ble_eq_true rfl⟩) hS (fun q _ h => hFc q h) hFc (fun v u t H locs ht hvm hw hB hz1 hk1 hS => ?_)
        have hw := hw.symm; subst hw
        obtain ⟨hP1, hD1⟩ := hB
        rw [ht] at hP1
        obtain ⟨hP, hD⟩ := back hP hD [] rfl rfl hk1 hFc hP1 hD1
        have J56 : ∀ (v5 : Int32) (H : Heap) (locs : List Loc) (ls : Array Slot), va_P D vwCl (kL cI a x) H → va_D A (kL cI a x) → va_S A s.heap H locs → lv_has ls 6 [(0, .ref (a 0)), (2, .int p2), (3, .int p3), (4, .int v5), (5, .int v3)] → f_X2_dangerLeft_j56 rc11 v3 v5 = some r → W p l e RM_X2_dangerLeft s m (([.ref (a 0), .int p1, .int p2, .int p3] : List Value).toArray) below meth c H locs 0 0 (MQ below (QI0 D A (kL cI a x) r) (([.ref (a 0), .int p1, .int p2, .int p3] : List Value).toArray) s 0 0 A) (F0 m 56 ls []) := by
          intro v5 H locs ls hP hD hS hl hf
          unfold f_X2_dangerLeft_j56 at hf
          obtain ⟨v6, ev6⟩ : ∃ y : Int32, y = (v3 + (1 : Int32)) := ⟨_, rfl⟩
          have hf := nm_x ev6 hf
          refine lv_iinc (v := v6) (lv' := [(5, .int v6), (0, .ref (a 0)), (2, .int p2), (3, .int p3), (4, .int v5)]) hx hb dX2_dangerLeft_56 hl (k := 4) rfl (by rw [ev6]; rfl) (by decide) rfl (fun ls hl => ?_)
          refine lv_goto (tgt := 11) hx hb dX2_dangerLeft_59 (by decide) ?_
          exact ih11 v5 v6 _ _ _ hP hD hS (lv_sub hl [1, 2, 3, 4, 0] rfl) hf
        refine lv_if_eq (tgt := 56) hx hb dX2_dangerLeft_26 (by decide) (fun cc26 => ?_) (fun cc26 => ?_)
        · have hf := if_t cc26 hf
          exact J56 v2 _ _ _ hP hD hS (lv_sub hl [0, 1, 2, 3, 4] rfl) hf
        · have hf := if_f cc26 hf
          refine lv_aload_n hx hb dX2_dangerLeft_29 rfl (lv_at hl 0 rfl) ?_
          refine va_get (D := D) (ci := 2) (v := .ref (a 11)) (C := RX2) (T := TX2) (N := 18) hx hb hG inG2 hown hK hP 0 at_L_0_0 rfl 16 (by decide) (hG _ g_161) (fun _ h9 => h9) rfl dX2_dangerLeft_30 ?_
          refine lv_iload hx hb dX2_dangerLeft_33 (lv_at hl 4 rfl) ?_
          obtain ⟨hb35, hf⟩ := gd hf
          refine va_iald (cA := cI) (n := 4) (f := x 11) hx hb hK hP 11 0 at_L_0_11 rfl (inb_in hb35) dX2_dangerLeft_35 ?_
          refine lv_iload_n hx hb dX2_dangerLeft_36 rfl (lv_at hl 2 rfl) ?_
          refine lv_icmp_gt (tgt := 56) hx hb dX2_dangerLeft_37 (by decide) (fun cc37 => ?_) (fun cc37 => ?_)
          · have hf := if_t cc37 hf
            exact J56 v2 _ _ _ hP hD hS (lv_sub hl [0, 1, 2, 3, 4] rfl) hf
          · have hf := if_f cc37 hf
            refine lv_iconst (v := (0 : Int32)) hx hb dX2_dangerLeft_40 (by decide) ?_
            refine lv_iload hx hb dX2_dangerLeft_41 (lv_at hl 3 rfl) ?_
            refine lv_aload_n hx hb dX2_dangerLeft_43 rfl (lv_at hl 0 rfl) ?_
            refine va_get (D := D) (ci := 2) (v := .ref (a 10)) (C := RX2) (T := TX2) (N := 18) hx hb hG inG2 hown hK hP 0 at_L_0_0 rfl 15 (by decide) (hG _ g_158) (fun _ h9 => h9) rfl dX2_dangerLeft_44 ?_
            refine lv_iload hx hb dX2_dangerLeft_47 (lv_at hl 4 rfl) ?_
            obtain ⟨hb49, hf⟩ := gd hf
            refine va_iald (cA := cI) (n := 4) (f := x 10) hx hb hK hP 10 0 at_L_0_10 rfl (inb_in hb49) dX2_dangerLeft_49 ?_
            refine lv_isub hx hb dX2_dangerLeft_50 ?_
            refine va_mmax hx hb (hml.trans hl.1.symm) hown (hG _ g_410) (hG _ g_374) (hG _ g_78) (hG _ g_375) (Nat.le_of_ble_eq_true rfl) (Nat.le_of_ble_eq_true rfl) (Nat.zero_le _) (Nat.zero_le _) dX2_dangerLeft_51 ?_
            refine lv_topi (fun v7 ev7 => ?_)
            have hf := nm_x ev7 hf
            refine lv_istore (lv' := [(4, .int v7), (0, .ref (a 0)), (2, .int p2), (3, .int p3), (5, .int v3)]) hx hb dX2_dangerLeft_54 hl (by decide) rfl (fun ls hl => ?_)
            exact J56 v7 _ _ _ hP hD hS (lv_sub hl [1, 2, 3, 0, 4] rfl) hf
  exact L11 FU v1 (0 : Int32) _ _ _ hP hD hS (lv_sub hl [2, 4, 5, 1, 0] rfl) hf
def f_X2_passes_j40   : Option (Int32) := some (1 : Int32)
def f_X2_passes (x : HC) (p1 : Int32) (p2 : Int32) (p3 : Int32) (p4 : Int32) : Option (Int32) := (if inb p1 5 then (if (x 1 (Int32.toNatClampNeg p1)) = (4 : Int32) then some (0 : Int32) else (if inb p2 6 then (if (x 6 (Int32.toNatClampNeg p2)) < p4 then f_X2_passes_j40 else (if inb p1 5 then bd (f_X2_dangerLeft x p2 p3 p4) (fun (q1 : Int32) => (if (x 2 (Int32.toNatClampNeg p1)) < q1 then some (0 : Int32) else f_X2_passes_j40)) else none)) else none)) else none)
abbrev RM_X2_passes : Room := { frames := 2, cells := 0, slots := 0, locals := 46 }
set_option maxHeartbeats 4000000 in
set_option maxRecDepth 100000 in
theorem c_X2_passes (l : Launch) (D : va_G) (cI cZ : ClassId) (a : Nat → Nat) (x : HC) (p1 : Int32) (p2 : Int32) (p3 : Int32) (p4 : Int32) (sz : Nat) {r : Int32} (hf : f_X2_passes x p1 p2 p3 p4 = some r) : Met l yX2_passes (wM yX2_passes cX2_passes 5 (some .boolean)) RM_X2_passes (va_Pc [.ref (a 0), .int p1, .int p2, .int p3, .int p4] (pre D cI cZ (kL cI a x) sz)) (QI0 D (va_A (kL cI a x) sz) (kL cI a x) r) 0 0 (va_A (kL cI a x) sz) := by
  unfold f_X2_passes at hf
  refine Met.ofW (cc := cX2_passes) (maxL := 5) (ret := (some .boolean)) (by decide) rfl ?_
  intro p e s m args below meth c s₁ B hml hv
  obtain ⟨rfl, hsz, hP, hK, hD0, hnw⟩ := hv
  have hx := B.exec
  have hb := B.bytes
  have hr := B.returns
  have hts := atoms_spec (ws := wM yX2_passes cX2_passes 5 (some .boolean)) B.pre
  have hG : ∀ w ∈ GW, w.before (([.ref (a 0), .int p1, .int p2, .int p3, .int p4] : List Value).toArray) s = true := fun w h => hts w (List.mem_cons_of_mem _ h)
  have hown : s.vm.findClass RX2 = some m.cls := findClass_of_methodNamed B.named
  have hlocks := B.notSynchronized
  subst hsz
  have hD := hD0.self (sz := s.heap.size)
  generalize hAe : va_A (kL cI a x) s.heap.size = A at hD ⊢
  have hA : ∀ q : Nat, s.heap.size ≤ q → A q := fun q h => by rw [← hAe]; exact Or.inr h
  have hS : va_S A s.heap s.heap [] := va_S.rf
  have hl := lv_entry ([.ref (a 0), .int p1, .int p2, .int p3, .int p4]) (n := 5) (Nat.le_of_ble_eq_true rfl)
  rw [lg_entry_eq]
  generalize (lg_sl ([.ref (a 0), .int p1, .int p2, .int p3, .int p4]) ++ List.replicate (5 - (lg_sl ([.ref (a 0), .int p1, .int p2, .int p3, .int p4])).length) Slot.unset).toArray = ls at hl ⊢
  have hl : lv_has ls 5 [(0, .ref (a 0)), (1, .int p1), (2, .int p2), (3, .int p3), (4, .int p4)] := hl
  show W p l e RM_X2_passes s m (([.ref (a 0), .int p1, .int p2, .int p3, .int p4] : List Value).toArray) below meth c s.heap [] 0 0 (MQ below (QI0 D A (kL cI a x) r) (([.ref (a 0), .int p1, .int p2, .int p3, .int p4] : List Value).toArray) s 0 0 A) (F0 m 0 ls [])
  refine lv_aload_n hx hb dX2_passes_0 rfl (lv_at hl 0 rfl) ?_
  refine va_get (D := D) (ci := 2) (v := .ref (a 1)) (C := RX2) (T := TX2) (N := 18) hx hb hG inG2 hown hK hP 0 at_L_0_0 rfl 6 (by decide) (hG _ g_128) (fun _ h9 => h9) rfl dX2_passes_1 ?_
  refine lv_iload_n hx hb dX2_passes_4 rfl (lv_at hl 1 rfl) ?_
  obtain ⟨hb5, hf⟩ := gd hf
  refine va_iald (cA := cI) (n := 5) (f := x 1) hx hb hK hP 1 0 at_L_0_1 rfl (inb_in hb5) dX2_passes_5 ?_
  refine lv_iconst (v := (4 : Int32)) hx hb dX2_passes_6 (by decide) ?_
  refine lv_icmp_ne (tgt := 12) hx hb dX2_passes_7 (by decide) (fun cc7 => ?_) (fun cc7 => ?_)
  · have hf := if_f cc7 hf
    refine lv_iload hx hb dX2_passes_12 (lv_at hl 4 rfl) ?_
    refine lv_aload_n hx hb dX2_passes_14 rfl (lv_at hl 0 rfl) ?_
    refine va_get (D := D) (ci := 2) (v := .ref (a 6)) (C := RX2) (T := TX2) (N := 18) hx hb hG inG2 hown hK hP 0 at_L_0_0 rfl 11 (by decide) (hG _ g_145) (fun _ h9 => h9) rfl dX2_passes_15 ?_
    refine lv_iload_n hx hb dX2_passes_18 rfl (lv_at hl 2 rfl) ?_
    obtain ⟨hb19, hf⟩ := gd hf
    refine va_iald (cA := cI) (n := 6) (f := x 6) hx hb hK hP 6 0 at_L_0_6 rfl (inb_in hb19) dX2_passes_19 ?_
    have J40 : ∀  (H : Heap) (locs : List Loc) (ls : Array Slot), va_P D vwCl (kL cI a x) H → va_D A (kL cI a x) → va_S A s.heap H locs → lv_has ls 5 [] → f_X2_passes_j40  = some r → W p l e RM_X2_passes s m (([.ref (a 0), .int p1, .int p2, .int p3, .int p4] : List Value).toArray) below meth c H locs 0 0 (MQ below (QI0 D A (kL cI a x) r) (([.ref (a 0), .int p1, .int p2, .int p3, .int p4] : List Value).toArray) s 0 0 A) (F0 m 40 ls []) := by
      intro  H locs ls hP hD hS hl hf
      unfold f_X2_passes_j40 at hf
      refine lv_iconst (v := (1 : Int32)) hx hb dX2_passes_40 (by decide) ?_
      refine lv_goto (tgt := 45) hx hb dX2_passes_41 (by decide) ?_
      exact W.zret (v := (1 : Int32)) hx hb hr (by decide) (fun t ht hW => ⟨⟨(1 : Int32), (), rfl, Option.some.inj hf, by rw [ht]; exact hP, hD⟩, hS.F ht⟩) hS.2.2 dX2_passes_45
    refine lv_icmp_gt (tgt := 40) hx hb dX2_passes_20 (by decide) (fun cc20 => ?_) (fun cc20 => ?_)
    · have hf := if_t cc20 hf
      exact J40  _ _ _ hP hD hS (lv_sub hl [] rfl) hf
    · have hf := if_f cc20 hf
      refine lv_aload_n hx hb dX2_passes_23 rfl (lv_at hl 0 rfl) ?_
      refine va_get (D := D) (ci := 2) (v := .ref (a 2)) (C := RX2) (T := TX2) (N := 18) hx hb hG inG2 hown hK hP 0 at_L_0_0 rfl 7 (by decide) (hG _ g_131) (fun _ h9 => h9) rfl dX2_passes_24 ?_
      refine lv_iload_n hx hb dX2_passes_27 rfl (lv_at hl 1 rfl) ?_
      obtain ⟨hb28, hf⟩ := gd hf
      refine va_iald (cA := cI) (n := 5) (f := x 2) hx hb hK hP 2 0 at_L_0_2 rfl (inb_in hb28) dX2_passes_28 ?_
      refine lv_aload_n hx hb dX2_passes_29 rfl (lv_at hl 0 rfl) ?_
      refine lv_iload_n hx hb dX2_passes_30 rfl (lv_at hl 2 rfl) ?_
      refine lv_iload_n hx hb dX2_passes_31 rfl (lv_at hl 3 rfl) ?_
      refine lv_iload hx hb dX2_passes_32 (lv_at hl 4 rfl) ?_
      obtain ⟨q1, hq1, hf⟩ := bd_x hf
      have hFc := freeS hD hS hA
      refine va_calli (va_runV (As := [.int p2, .int p3, .int p4]) (rest := [.int (x 2 (Int32.toNatClampNeg p1))]) ⟨hx, hb, hml, hown, hG⟩ (c_X2_dangerLeft l D cI cZ a x p2 p3 p4 s.heap.size hq1) (cwV 3 hG (gV g_407 g_408 g_22 g_72 g_409) rfl rfl rfl (by decide +kernel) ⟨Nat.le_of_ble_eq_true rfl, Nat.le_of_ble_eq_true rfl⟩) ⟨pre_blind, va_recv hK hP (ci := 2) (q0 := 0) rfl rfl, fun U hU hW => ⟨rfl, pre_of hP hK hD hnw hU hW⟩⟩ rfl rfl hl.1 rfl (lv_room (Nat.le_of_ble_eq_true rfl)) dX2_passes_34 ⟨Nat.le_of_ble_eq_true rfl, Nat.le_of_ble_eq_true rfl⟩) hS (fun q _ h => hFc q h) hFc (fun v u t H locs ht hvm hw hB hz1 hk1 hS => ?_)
      have hw := hw.symm; subst hw
      obtain ⟨hP1, hD1⟩ := hB
      rw [ht] at hP1
      have hP := hP1
      have hD := hD1.weaken (fun _ q _ h => hFc q.1 h)
      refine lv_icmp_lt (tgt := 44) hx hb dX2_passes_37 (by decide) (fun cc37 => ?_) (fun cc37 => ?_)
      · have hf := if_t cc37 hf
        refine lv_iconst (v := (0 : Int32)) hx hb dX2_passes_44 (by decide) ?_
        exact W.zret (v := (0 : Int32)) hx hb hr (by decide) (fun t ht hW => ⟨⟨(0 : Int32), (), rfl, Option.some.inj hf, by rw [ht]; exact hP, hD⟩, hS.F ht⟩) hS.2.2 dX2_passes_45
      · have hf := if_f cc37 hf
        exact J40  _ _ _ hP hD hS (lv_sub hl [] rfl) hf
  · have hf := if_t cc7 hf
    refine lv_iconst (v := (0 : Int32)) hx hb dX2_passes_10 (by decide) ?_
    exact W.zret (v := (0 : Int32)) hx hb hr (by decide) (fun t ht hW => ⟨⟨(0 : Int32), (), rfl, Option.some.inj hf, by rw [ht]; exact hP, hD⟩, hS.F ht⟩) hS.2.2 dX2_passes_11
