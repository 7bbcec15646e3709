theorem at_T_0_0 {cI : ClassId} {a : Nat → Nat} {x : HC} : (kT cI a x)[0]? = some (a 0, .inr (5, [.ref (a 1), .int (x 0 1), .int (x 0 2), .int (x 0 3), .int (x 0 4), .int (x 0 5)])) := rfl
theorem at_T_0_1 {cI : ClassId} {a : Nat → Nat} {x : HC} : (kT cI a x)[1]? = some (a 1, .inl (cI, 250, .inl (x 1))) := rfl
theorem sa_T_0_1 {cI : ClassId} {a : Nat → Nat} {x : HC} {i v : Int32} : (kT cI a x).set 1 (a 1, .inl (cI, 250, .inl (upd (x 1) i.toNatClampNeg v))) = (kT cI a (sa x 1 i v)) := rfl
theorem sf_T_0_1 {cI : ClassId} {a : Nat → Nat} {x : HC} {v : Int32} : (kT cI a x).set 0 (a 0, .inr (5, ([.ref (a 1), .int (x 0 1), .int (x 0 2), .int (x 0 3), .int (x 0 4), .int (x 0 5)] : List Value).set 1 (.int v))) = (kT cI a (sf x 1 v)) := rfl
theorem sf_T_0_2 {cI : ClassId} {a : Nat → Nat} {x : HC} {v : Int32} : (kT cI a x).set 0 (a 0, .inr (5, ([.ref (a 1), .int (x 0 1), .int (x 0 2), .int (x 0 3), .int (x 0 4), .int (x 0 5)] : List Value).set 2 (.int v))) = (kT cI a (sf x 2 v)) := rfl
theorem sf_T_0_4 {cI : ClassId} {a : Nat → Nat} {x : HC} {v : Int32} : (kT cI a x).set 0 (a 0, .inr (5, ([.ref (a 1), .int (x 0 1), .int (x 0 2), .int (x 0 3), .int (x 0 4), .int (x 0 5)] : List Value).set 4 (.int v))) = (kT cI a (sf x 4 v)) := rfl
theorem sf_T_0_5 {cI : ClassId} {a : Nat → Nat} {x : HC} {v : Int32} : (kT cI a x).set 0 (a 0, .inr (5, ([.ref (a 1), .int (x 0 1), .int (x 0 2), .int (x 0 3), .int (x 0 4), .int (x 0 5)] : List Value).set 5 (.int v))) = (kT cI a (sf x 5 v)) := rfl
theorem sf_T_0_3 {cI : ClassId} {a : Nat → Nat} {x : HC} {v : Int32} : (kT cI a x).set 0 (a 0, .inr (5, ([.ref (a 1), .int (x 0 1), .int (x 0 2), .int (x 0 3), .int (x 0 4), .int (x 0 5)] : List Value).set 3 (.int v))) = (kT cI a (sf x 3 v)) := rfl
theorem at_TL_1_0 {cI : ClassId} {a a1 : Nat → Nat} {x : HC} {x1 : HC} : (kT cI a x ++ (kL cI a1 x1))[2]? = some (a1 0, .inr (2, [.int (x1 0 0), .int (x1 0 1), .int (x1 0 2), .int (x1 0 3), .int (x1 0 4), .int (x1 0 5), .ref (a1 1), .ref (a1 2), .ref (a1 3), .ref (a1 4), .ref (a1 5), .ref (a1 6), .ref (a1 7), .ref (a1 8), .ref (a1 9), .ref (a1 10), .ref (a1 11), .ref (a1 12)])) := rfl
theorem at_TL_0_0 {cI : ClassId} {a a1 : Nat → Nat} {x : HC} {x1 : HC} : (kT cI a x ++ (kL cI a1 x1))[0]? = some (a 0, .inr (5, [.ref (a 1), .int (x 0 1), .int (x 0 2), .int (x 0 3), .int (x 0 4), .int (x 0 5)])) := rfl
theorem sf_TL_0_2 {cI : ClassId} {a a1 : Nat → Nat} {x : HC} {x1 : HC} {v : Int32} : (kT cI a x ++ (kL cI a1 x1)).set 0 (a 0, .inr (5, ([.ref (a 1), .int (x 0 1), .int (x 0 2), .int (x 0 3), .int (x 0 4), .int (x 0 5)] : List Value).set 2 (.int v))) = (kT cI a (sf x 2 v) ++ (kL cI a1 x1)) := rfl
theorem sub_TL_T_0 {cI : ClassId} {a a1 : Nat → Nat} {x : HC} {x1 : HC} : [0, 1].map (fun i => (kT cI a x ++ (kL cI a1 x1))[i]?) = (kT cI a x).map some := rfl
theorem put_TL_T_0_0 {cI : ClassId} {a a1 : Nat → Nat} {x : HC} {x1 : HC} {u0 : HC} : putL (kT cI a x ++ (kL cI a1 x1)) [0, 1] (kT cI a u0) = (kT cI a u0 ++ (kL cI a1 x1)) := rfl
theorem sf_TL_1_0 {cI : ClassId} {a a1 : Nat → Nat} {x : HC} {x1 : HC} {v : Int32} : (kT cI a x ++ (kL cI a1 x1)).set 2 (a1 0, .inr (2, ([.int (x1 0 0), .int (x1 0 1), .int (x1 0 2), .int (x1 0 3), .int (x1 0 4), .int (x1 0 5), .ref (a1 1), .ref (a1 2), .ref (a1 3), .ref (a1 4), .ref (a1 5), .ref (a1 6), .ref (a1 7), .ref (a1 8), .ref (a1 9), .ref (a1 10), .ref (a1 11), .ref (a1 12)] : List Value).set 0 (.int v))) = (kT cI a x ++ (kL cI a1 (sf x1 0 v))) := rfl
theorem at_TL_1_1 {cI : ClassId} {a a1 : Nat → Nat} {x : HC} {x1 : HC} : (kT cI a x ++ (kL cI a1 x1))[3]? = some (a1 1, .inl (cI, 5, .inl (x1 1))) := rfl
theorem sa_TL_1_1 {cI : ClassId} {a a1 : Nat → Nat} {x : HC} {x1 : HC} {i v : Int32} : (kT cI a x ++ (kL cI a1 x1)).set 3 (a1 1, .inl (cI, 5, .inl (upd (x1 1) i.toNatClampNeg v))) = (kT cI a x ++ (kL cI a1 (sa x1 1 i v))) := rfl
theorem at_TL_1_2 {cI : ClassId} {a a1 : Nat → Nat} {x : HC} {x1 : HC} : (kT cI a x ++ (kL cI a1 x1))[4]? = some (a1 2, .inl (cI, 5, .inl (x1 2))) := rfl
theorem sa_TL_1_2 {cI : ClassId} {a a1 : Nat → Nat} {x : HC} {x1 : HC} {i v : Int32} : (kT cI a x ++ (kL cI a1 x1)).set 4 (a1 2, .inl (cI, 5, .inl (upd (x1 2) i.toNatClampNeg v))) = (kT cI a x ++ (kL cI a1 (sa x1 2 i v))) := rfl
theorem at_TL_1_3 {cI : ClassId} {a a1 : Nat → Nat} {x : HC} {x1 : HC} : (kT cI a x ++ (kL cI a1 x1))[5]? = some (a1 3, .inl (cI, 5, .inl (x1 3))) := rfl
theorem sa_TL_1_3 {cI : ClassId} {a a1 : Nat → Nat} {x : HC} {x1 : HC} {i v : Int32} : (kT cI a x ++ (kL cI a1 x1)).set 5 (a1 3, .inl (cI, 5, .inl (upd (x1 3) i.toNatClampNeg v))) = (kT cI a x ++ (kL cI a1 (sa x1 3 i v))) := rfl
theorem sf_TL_1_1 {cI : ClassId} {a a1 : Nat → Nat} {x : HC} {x1 : HC} {v : Int32} : (kT cI a x ++ (kL cI a1 x1)).set 2 (a1 0, .inr (2, ([.int (x1 0 0), .int (x1 0 1), .int (x1 0 2), .int (x1 0 3), .int (x1 0 4), .int (x1 0 5), .ref (a1 1), .ref (a1 2), .ref (a1 3), .ref (a1 4), .ref (a1 5), .ref (a1 6), .ref (a1 7), .ref (a1 8), .ref (a1 9), .ref (a1 10), .ref (a1 11), .ref (a1 12)] : List Value).set 1 (.int v))) = (kT cI a x ++ (kL cI a1 (sf x1 1 v))) := rfl
theorem at_TL_1_4 {cI : ClassId} {a a1 : Nat → Nat} {x : HC} {x1 : HC} : (kT cI a x ++ (kL cI a1 x1))[6]? = some (a1 4, .inl (cI, 6, .inl (x1 4))) := rfl
theorem sa_TL_1_4 {cI : ClassId} {a a1 : Nat → Nat} {x : HC} {x1 : HC} {i v : Int32} : (kT cI a x ++ (kL cI a1 x1)).set 6 (a1 4, .inl (cI, 6, .inl (upd (x1 4) i.toNatClampNeg v))) = (kT cI a x ++ (kL cI a1 (sa x1 4 i v))) := rfl
theorem sf_TL_1_2 {cI : ClassId} {a a1 : Nat → Nat} {x : HC} {x1 : HC} {v : Int32} : (kT cI a x ++ (kL cI a1 x1)).set 2 (a1 0, .inr (2, ([.int (x1 0 0), .int (x1 0 1), .int (x1 0 2), .int (x1 0 3), .int (x1 0 4), .int (x1 0 5), .ref (a1 1), .ref (a1 2), .ref (a1 3), .ref (a1 4), .ref (a1 5), .ref (a1 6), .ref (a1 7), .ref (a1 8), .ref (a1 9), .ref (a1 10), .ref (a1 11), .ref (a1 12)] : List Value).set 2 (.int v))) = (kT cI a x ++ (kL cI a1 (sf x1 2 v))) := rfl
theorem at_TL_1_5 {cI : ClassId} {a a1 : Nat → Nat} {x : HC} {x1 : HC} : (kT cI a x ++ (kL cI a1 x1))[7]? = some (a1 5, .inl (cI, 6, .inl (x1 5))) := rfl
theorem sa_TL_1_5 {cI : ClassId} {a a1 : Nat → Nat} {x : HC} {x1 : HC} {i v : Int32} : (kT cI a x ++ (kL cI a1 x1)).set 7 (a1 5, .inl (cI, 6, .inl (upd (x1 5) i.toNatClampNeg v))) = (kT cI a x ++ (kL cI a1 (sa x1 5 i v))) := rfl
theorem at_TL_1_6 {cI : ClassId} {a a1 : Nat → Nat} {x : HC} {x1 : HC} : (kT cI a x ++ (kL cI a1 x1))[8]? = some (a1 6, .inl (cI, 6, .inl (x1 6))) := rfl
theorem sa_TL_1_6 {cI : ClassId} {a a1 : Nat → Nat} {x : HC} {x1 : HC} {i v : Int32} : (kT cI a x ++ (kL cI a1 x1)).set 8 (a1 6, .inl (cI, 6, .inl (upd (x1 6) i.toNatClampNeg v))) = (kT cI a x ++ (kL cI a1 (sa x1 6 i v))) := rfl
theorem at_TL_1_7 {cI : ClassId} {a a1 : Nat → Nat} {x : HC} {x1 : HC} : (kT cI a x ++ (kL cI a1 x1))[9]? = some (a1 7, .inl (cI, 6, .inl (x1 7))) := rfl
theorem sa_TL_1_7 {cI : ClassId} {a a1 : Nat → Nat} {x : HC} {x1 : HC} {i v : Int32} : (kT cI a x ++ (kL cI a1 x1)).set 9 (a1 7, .inl (cI, 6, .inl (upd (x1 7) i.toNatClampNeg v))) = (kT cI a x ++ (kL cI a1 (sa x1 7 i v))) := rfl
theorem at_TL_1_8 {cI : ClassId} {a a1 : Nat → Nat} {x : HC} {x1 : HC} : (kT cI a x ++ (kL cI a1 x1))[10]? = some (a1 8, .inl (cI, 6, .inl (x1 8))) := rfl
theorem sa_TL_1_8 {cI : ClassId} {a a1 : Nat → Nat} {x : HC} {x1 : HC} {i v : Int32} : (kT cI a x ++ (kL cI a1 x1)).set 10 (a1 8, .inl (cI, 6, .inl (upd (x1 8) i.toNatClampNeg v))) = (kT cI a x ++ (kL cI a1 (sa x1 8 i v))) := rfl
theorem sf_TL_1_3 {cI : ClassId} {a a1 : Nat → Nat} {x : HC} {x1 : HC} {v : Int32} : (kT cI a x ++ (kL cI a1 x1)).set 2 (a1 0, .inr (2, ([.int (x1 0 0), .int (x1 0 1), .int (x1 0 2), .int (x1 0 3), .int (x1 0 4), .int (x1 0 5), .ref (a1 1), .ref (a1 2), .ref (a1 3), .ref (a1 4), .ref (a1 5), .ref (a1 6), .ref (a1 7), .ref (a1 8), .ref (a1 9), .ref (a1 10), .ref (a1 11), .ref (a1 12)] : List Value).set 3 (.int v))) = (kT cI a x ++ (kL cI a1 (sf x1 3 v))) := rfl
theorem at_TL_1_9 {cI : ClassId} {a a1 : Nat → Nat} {x : HC} {x1 : HC} : (kT cI a x ++ (kL cI a1 x1))[11]? = some (a1 9, .inl (cI, 4, .inl (x1 9))) := rfl
theorem sa_TL_1_9 {cI : ClassId} {a a1 : Nat → Nat} {x : HC} {x1 : HC} {i v : Int32} : (kT cI a x ++ (kL cI a1 x1)).set 11 (a1 9, .inl (cI, 4, .inl (upd (x1 9) i.toNatClampNeg v))) = (kT cI a x ++ (kL cI a1 (sa x1 9 i v))) := rfl
theorem at_TL_1_10 {cI : ClassId} {a a1 : Nat → Nat} {x : HC} {x1 : HC} : (kT cI a x ++ (kL cI a1 x1))[12]? = some (a1 10, .inl (cI, 4, .inl (x1 10))) := rfl
theorem sa_TL_1_10 {cI : ClassId} {a a1 : Nat → Nat} {x : HC} {x1 : HC} {i v : Int32} : (kT cI a x ++ (kL cI a1 x1)).set 12 (a1 10, .inl (cI, 4, .inl (upd (x1 10) i.toNatClampNeg v))) = (kT cI a x ++ (kL cI a1 (sa x1 10 i v))) := rfl
theorem at_TL_1_11 {cI : ClassId} {a a1 : Nat → Nat} {x : HC} {x1 : HC} : (kT cI a x ++ (kL cI a1 x1))[13]? = some (a1 11, .inl (cI, 4, .inl (x1 11))) := rfl
theorem sa_TL_1_11 {cI : ClassId} {a a1 : Nat → Nat} {x : HC} {x1 : HC} {i v : Int32} : (kT cI a x ++ (kL cI a1 x1)).set 13 (a1 11, .inl (cI, 4, .inl (upd (x1 11) i.toNatClampNeg v))) = (kT cI a x ++ (kL cI a1 (sa x1 11 i v))) := rfl
theorem sf_TL_1_4 {cI : ClassId} {a a1 : Nat → Nat} {x : HC} {x1 : HC} {v : Int32} : (kT cI a x ++ (kL cI a1 x1)).set 2 (a1 0, .inr (2, ([.int (x1 0 0), .int (x1 0 1), .int (x1 0 2), .int (x1 0 3), .int (x1 0 4), .int (x1 0 5), .ref (a1 1), .ref (a1 2), .ref (a1 3), .ref (a1 4), .ref (a1 5), .ref (a1 6), .ref (a1 7), .ref (a1 8), .ref (a1 9), .ref (a1 10), .ref (a1 11), .ref (a1 12)] : List Value).set 4 (.int v))) = (kT cI a x ++ (kL cI a1 (sf x1 4 v))) := rfl
theorem at_TL_1_12 {cI : ClassId} {a a1 : Nat → Nat} {x : HC} {x1 : HC} : (kT cI a x ++ (kL cI a1 x1))[14]? = some (a1 12, .inl (cI, 30, .inl (x1 12))) := rfl
theorem sa_TL_1_12 {cI : ClassId} {a a1 : Nat → Nat} {x : HC} {x1 : HC} {i v : Int32} : (kT cI a x ++ (kL cI a1 x1)).set 14 (a1 12, .inl (cI, 30, .inl (upd (x1 12) i.toNatClampNeg v))) = (kT cI a x ++ (kL cI a1 (sa x1 12 i v))) := rfl
theorem sf_TL_1_5 {cI : ClassId} {a a1 : Nat → Nat} {x : HC} {x1 : HC} {v : Int32} : (kT cI a x ++ (kL cI a1 x1)).set 2 (a1 0, .inr (2, ([.int (x1 0 0), .int (x1 0 1), .int (x1 0 2), .int (x1 0 3), .int (x1 0 4), .int (x1 0 5), .ref (a1 1), .ref (a1 2), .ref (a1 3), .ref (a1 4), .ref (a1 5), .ref (a1 6), .ref (a1 7), .ref (a1 8), .ref (a1 9), .ref (a1 10), .ref (a1 11), .ref (a1 12)] : List Value).set 5 (.int v))) = (kT cI a x ++ (kL cI a1 (sf x1 5 v))) := rfl
theorem at_TL_0_1 {cI : ClassId} {a a1 : Nat → Nat} {x : HC} {x1 : HC} : (kT cI a x ++ (kL cI a1 x1))[1]? = some (a 1, .inl (cI, 250, .inl (x 1))) := rfl
theorem sub_TL_L_1 {cI : ClassId} {a a1 : Nat → Nat} {x : HC} {x1 : HC} : [2, 3, 4, 5, 6, 7, 8, 9, 10, 11, 12, 13, 14].map (fun i => (kT cI a x ++ (kL cI a1 x1))[i]?) = (kL cI a1 x1).map some := rfl
theorem put_TL_L_1_0 {cI : ClassId} {a a1 : Nat → Nat} {x : HC} {x1 : HC} {u0 : HC} : putL (kT cI a x ++ (kL cI a1 x1)) [2, 3, 4, 5, 6, 7, 8, 9, 10, 11, 12, 13, 14] (kL cI a1 u0) = (kT cI a x ++ (kL cI a1 u0)) := rfl
theorem sf_TL_0_4 {cI : ClassId} {a a1 : Nat → Nat} {x : HC} {x1 : HC} {v : Int32} : (kT cI a x ++ (kL cI a1 x1)).set 0 (a 0, .inr (5, ([.ref (a 1), .int (x 0 1), .int (x 0 2), .int (x 0 3), .int (x 0 4), .int (x 0 5)] : List Value).set 4 (.int v))) = (kT cI a (sf x 4 v) ++ (kL cI a1 x1)) := rfl
theorem sf_TL_0_5 {cI : ClassId} {a a1 : Nat → Nat} {x : HC} {x1 : HC} {v : Int32} : (kT cI a x ++ (kL cI a1 x1)).set 0 (a 0, .inr (5, ([.ref (a 1), .int (x 0 1), .int (x 0 2), .int (x 0 3), .int (x 0 4), .int (x 0 5)] : List Value).set 5 (.int v))) = (kT cI a (sf x 5 v) ++ (kL cI a1 x1)) := rfl
theorem sf_TL_0_1 {cI : ClassId} {a a1 : Nat → Nat} {x : HC} {x1 : HC} {v : Int32} : (kT cI a x ++ (kL cI a1 x1)).set 0 (a 0, .inr (5, ([.ref (a 1), .int (x 0 1), .int (x 0 2), .int (x 0 3), .int (x 0 4), .int (x 0 5)] : List Value).set 1 (.int v))) = (kT cI a (sf x 1 v) ++ (kL cI a1 x1)) := rfl
def f_X5_append (x : HC) (p1 : Int32) : Option (Int32 × HC) := (if (x 0 1) < (250 : Int32) then (if inb (x 0 1) 250 then nm (sa x 1 (x 0 1) p1) (fun (X1 : HC) => nm (sf X1 1 ((X1 0 1) + (1 : Int32))) (fun (X2 : HC) => some ((X2 0 1), X2))) else none) else some ((-1000000004 : Int32), x))
abbrev RM_X5_append : Room := { frames := 0, cells := 0, slots := 0, locals := 0 }
set_option maxHeartbeats 4000000 in
set_option maxRecDepth 100000 in
theorem c_X5_append (l : Launch) (D : va_G) (cI cZ : ClassId) (a : Nat → Nat) (x : HC) (p1 : Int32) (sz : Nat) {r : Int32 × HC} (hf : f_X5_append x p1 = some r) : Met l yX5_append (wM yX5_append cX5_append 2 (some .int)) RM_X5_append (va_Pc [.ref (a 0), .int p1] (pre D cI cZ (kT cI a x) sz)) (QI D (va_A (kT cI a x) sz) (fun (u : HC) => (kT cI a u)) r) 0 0 (va_A (kT cI a x) sz) := by
  unfold f_X5_append at hf
  refine Met.ofW (cc := cX5_append) (maxL := 2) (ret := (some .int)) (by decide) rfl ?_
  intro p e s m args below meth c s₁ B hml hv
  obtain ⟨rfl, hsz, hP, hK, hD0, hnw⟩ := hv
  have hx := B.exec
  have hb := B.bytes
  have hr := B.returns
  have hts := atoms_spec (ws := wM yX5_append cX5_append 2 (some .int)) B.pre
  have hG : ∀ w ∈ GW, w.before (([.ref (a 0), .int p1] : List Value).toArray) s = true := fun w h => hts w (List.mem_cons_of_mem _ h)
  have hown : s.vm.findClass RX5 = some m.cls := findClass_of_methodNamed B.named
  have hlocks := B.notSynchronized
  subst hsz
  have hD := hD0.self (sz := s.heap.size)
  generalize hAe : va_A (kT cI a x) s.heap.size = A at hD ⊢
  have hA : ∀ q : Nat, s.heap.size ≤ q → A q := fun q h => by rw [← hAe]; exact Or.inr h
  have hS : va_S A s.heap s.heap [] := va_S.rf
  have hl := lv_entry ([.ref (a 0), .int p1]) (n := 2) (Nat.le_of_ble_eq_true rfl)
  rw [lg_entry_eq]
  generalize (lg_sl ([.ref (a 0), .int p1]) ++ List.replicate (2 - (lg_sl ([.ref (a 0), .int p1])).length) Slot.unset).toArray = ls at hl ⊢
  have hl : lv_has ls 2 [(0, .ref (a 0)), (1, .int p1)] := hl
  show W p l e RM_X5_append s m (([.ref (a 0), .int p1] : List Value).toArray) below meth c s.heap [] 0 0 (MQ below (QI D A (fun (u : HC) => (kT cI a u)) r) (([.ref (a 0), .int p1] : List Value).toArray) s 0 0 A) (F0 m 0 ls [])
  refine lv_aload_n hx hb dX5_append_0 rfl (lv_at hl 0 rfl) ?_
  refine va_get (D := D) (ci := 5) (v := .int (x 0 1)) (C := RX5) (T := TX5) (N := 6) hx hb hG inG5 hown hK hP 0 at_T_0_0 rfl 1 (by decide) (hG _ g_94) (fun _ h9 => h9) rfl dX5_append_1 ?_
  refine lv_sipush (v := (250 : Int32)) hx hb dX5_append_4 (by decide) ?_
  refine lv_icmp_lt (tgt := 13) hx hb dX5_append_7 (by decide) (fun cc7 => ?_) (fun cc7 => ?_)
  · have hf := if_t cc7 hf
    refine lv_aload_n hx hb dX5_append_13 rfl (lv_at hl 0 rfl) ?_
    refine va_get (D := D) (ci := 5) (v := .ref (a 1)) (C := RX5) (T := TX5) (N := 6) hx hb hG inG5 hown hK hP 0 at_T_0_0 rfl 0 (by decide) (hG _ g_93) (fun _ h9 => h9) rfl dX5_append_14 ?_
    refine lv_aload_n hx hb dX5_append_17 rfl (lv_at hl 0 rfl) ?_
    refine va_get (D := D) (ci := 5) (v := .int (x 0 1)) (C := RX5) (T := TX5) (N := 6) hx hb hG inG5 hown hK hP 0 at_T_0_0 rfl 1 (by decide) (hG _ g_94) (fun _ h9 => h9) rfl dX5_append_18 ?_
    refine lv_iload_n hx hb dX5_append_21 rfl (lv_at hl 1 rfl) ?_
    obtain ⟨hb22, hf⟩ := gd hf
    refine va_iast (cA := cI) (n := 250) (f := x 1) hx hb hK hP hD hS 1 0 at_T_0_1 rfl (inb_in hb22) dX5_append_22 (fun H locs hP hD hS => ?_)
    obtain ⟨X1, eX1⟩ : ∃ y : HC, y = (sa x 1 (x 0 1) p1) := ⟨_, rfl⟩
    have hf := nm_x eX1 hf
    have hP := wP (sa_T_0_1.trans (congrArg (fun z : HC => (kT cI a z)) eX1.symm)) hP
    have hD := wD (sa_T_0_1.trans (congrArg (fun z : HC => (kT cI a z)) eX1.symm)) hD
    refine lv_aload_n hx hb dX5_append_23 rfl (lv_at hl 0 rfl) ?_
    refine lv_dup hx hb dX5_append_24 rfl ?_
    refine va_get (D := D) (ci := 5) (v := .int (X1 0 1)) (C := RX5) (T := TX5) (N := 6) hx hb hG inG5 hown hK hP 0 at_T_0_0 rfl 1 (by decide) (hG _ g_94) (fun _ h9 => h9) rfl dX5_append_25 ?_
    refine lv_iconst (v := (1 : Int32)) hx hb dX5_append_28 (by decide) ?_
    refine lv_iadd hx hb dX5_append_29 ?_
    refine va_put (D := D) (ci := 5) (v := .int ((X1 0 1) + (1 : Int32))) (ty := .int) (C := RX5) (T := TX5) (N := 6) hx hb hG inG5 tyX5 tyX5_ok nmX5 hown hK hP hD hS 0 at_T_0_0 rfl 1 (by decide) (hG _ g_94) (fun _ h9 => h9) rfl (by decide +kernel) rfl rfl (Nat.le_of_ble_eq_true rfl) dX5_append_30 (fun H locs hP hD hS => ?_)
    obtain ⟨X2, eX2⟩ : ∃ y : HC, y = (sf X1 1 ((X1 0 1) + (1 : Int32))) := ⟨_, rfl⟩
    have hf := nm_x eX2 hf
    have hP := wP (sf_T_0_1.trans (congrArg (fun z : HC => (kT cI a z)) eX2.symm)) hP
    have hD := wD (sf_T_0_1.trans (congrArg (fun z : HC => (kT cI a z)) eX2.symm)) hD
    refine lv_aload_n hx hb dX5_append_33 rfl (lv_at hl 0 rfl) ?_
    refine va_get (D := D) (ci := 5) (v := .int (X2 0 1)) (C := RX5) (T := TX5) (N := 6) hx hb hG inG5 hown hK hP 0 at_T_0_0 rfl 1 (by decide) (hG _ g_94) (fun _ h9 => h9) rfl dX5_append_34 ?_
    exact W.iret (v := (X2 0 1)) hx hb hr (fun t ht hW => ⟨⟨(X2 0 1), X2, rfl, ⟨pr_1 hf, pr_2 hf⟩, by rw [ht]; exact hP, hD⟩, hS.F ht⟩) hS.2.2 dX5_append_37
  · have hf := if_f cc7 hf
    refine lv_ldc hx hb hown (hG _ g_243) dX5_append_10 ?_
    exact W.iret (v := (-1000000004 : Int32)) hx hb hr (fun t ht hW => ⟨⟨(-1000000004 : Int32), x, rfl, ⟨pr_1 hf, pr_2 hf⟩, by rw [ht]; exact hP, hD⟩, hS.F ht⟩) hS.2.2 dX5_append_12
def f_X5_skipBlanks_b0  (rc0 : HC → Option (HC)) (X1 : HC) : Option (HC) := (if (X1 0 1) ≤ (X1 0 2) then some X1 else (if inb (X1 0 2) 250 then (if (X1 1 (Int32.toNatClampNeg (X1 0 2))) = (32 : Int32) then nm (sf X1 2 ((X1 0 2) + (1 : Int32))) (fun (X2 : HC) => rc0 X2) else some X1) else none))
def f_X5_skipBlanks (x : HC) : Option (HC) := lp (fun _ => none : HC → Option (HC)) f_X5_skipBlanks_b0 FU x
abbrev RM_X5_skipBlanks : Room := { frames := 0, cells := 0, slots := 0, locals := 0 }
set_option maxHeartbeats 4000000 in
set_option maxRecDepth 100000 in
theorem c_X5_skipBlanks (l : Launch) (D : va_G) (cI cZ : ClassId) (a : Nat → Nat) (x : HC) (sz : Nat) {r : HC} (hf : f_X5_skipBlanks x = some r) : Met l yX5_skipBlanks (wM yX5_skipBlanks cX5_skipBlanks 1 none) RM_X5_skipBlanks (va_Pc [.ref (a 0)] (pre D cI cZ (kT cI a x) sz)) (QV D (va_A (kT cI a x) sz) (fun (u : HC) => (kT cI a u)) r) 0 0 (va_A (kT cI a x) sz) := by
  unfold f_X5_skipBlanks at hf
  refine Met.ofW (cc := cX5_skipBlanks) (maxL := 1) (ret := none) (by decide) rfl ?_
  intro p e s m args below meth c s₁ B hml hv
  obtain ⟨rfl, hsz, hP, hK, hD0, hnw⟩ := hv
  have hx := B.exec
  have hb := B.bytes
  have hr := B.returns
  have hts := atoms_spec (ws := wM yX5_skipBlanks cX5_skipBlanks 1 none) B.pre
  have hG : ∀ w ∈ GW, w.before (([.ref (a 0)] : List Value).toArray) s = true := fun w h => hts w (List.mem_cons_of_mem _ h)
  have hown : s.vm.findClass RX5 = some m.cls := findClass_of_methodNamed B.named
  have hlocks := B.notSynchronized
  subst hsz
  have hD := hD0.self (sz := s.heap.size)
  generalize hAe : va_A (kT cI a x) s.heap.size = A at hD ⊢
  have hA : ∀ q : Nat, s.heap.size ≤ q → A q := fun q h => by rw [← hAe]; exact Or.inr h
  have hS : va_S A s.heap s.heap [] := va_S.rf
  have hl := lv_entry ([.ref (a 0)]) (n := 1) (Nat.le_of_ble_eq_true rfl)
  rw [lg_entry_eq]
  generalize (lg_sl ([.ref (a 0)]) ++ List.replicate (1 - (lg_sl ([.ref (a 0)])).length) Slot.unset).toArray = ls at hl ⊢
  have hl : lv_has ls 1 [(0, .ref (a 0))] := hl
  show W p l e RM_X5_skipBlanks s m (([.ref (a 0)] : List Value).toArray) below meth c s.heap [] 0 0 (MQ below (QV D A (fun (u : HC) => (kT cI a u)) r) (([.ref (a 0)] : List Value).toArray) s 0 0 A) (F0 m 0 ls [])
  have L0 : ∀ (n : Nat) (X1 : HC) (H : Heap) (locs : List Loc) (ls : Array Slot), va_P D vwCl (kT cI a X1) H → va_D A (kT cI a X1) → va_S A s.heap H locs → lv_has ls 1 [(0, .ref (a 0))] → lp (fun _ => none : HC → Option (HC)) f_X5_skipBlanks_b0 n X1 = some r → W p l e RM_X5_skipBlanks s m (([.ref (a 0)] : List Value).toArray) below meth c H locs 0 0 (MQ below (QV D A (fun (u : HC) => (kT cI a u)) r) (([.ref (a 0)] : List Value).toArray) s 0 0 A) (F0 m 0 ls []) := by
    intro n
    induction n with
    | zero => intro X1 H locs ls _ _ _ _ hf; cases (show (none : Option (HC)) = some r from hf)
    | succ n ih0 =>
      intro X1 H locs ls hP hD hS hl hf
      have hf : f_X5_skipBlanks_b0 (lp (fun _ => none : HC → Option (HC)) f_X5_skipBlanks_b0 n) X1 = some r := hf
      generalize lp (fun _ => none : HC → Option (HC)) f_X5_skipBlanks_b0 n = rc0 at ih0 hf
      unfold f_X5_skipBlanks_b0 at hf
      refine lv_aload_n hx hb dX5_skipBlanks_0 rfl (lv_at hl 0 rfl) ?_
      refine va_get (D := D) (ci := 5) (v := .int (X1 0 2)) (C := RX5) (T := TX5) (N := 6) hx hb hG inG5 hown hK hP 0 at_T_0_0 rfl 2 (by decide) (hG _ g_96) (fun _ h9 => h9) rfl dX5_skipBlanks_1 ?_
      refine lv_aload_n hx hb dX5_skipBlanks_4 rfl (lv_at hl 0 rfl) ?_
      refine va_get (D := D) (ci := 5) (v := .int (X1 0 1)) (C := RX5) (T := TX5) (N := 6) hx hb hG inG5 hown hK hP 0 at_T_0_0 rfl 1 (by decide) (hG _ g_94) (fun _ h9 => h9) rfl dX5_skipBlanks_5 ?_
      refine lv_icmp_ge (tgt := 38) hx hb dX5_skipBlanks_8 (by decide) (fun cc8 => ?_) (fun cc8 => ?_)
      · have hf := if_t cc8 hf
        exact W.vret hx hb hr (fun t ht hW => ⟨⟨X1, rfl, Option.some.inj hf, by rw [ht]; exact hP, hD⟩, hS.F ht⟩) hS.2.2 dX5_skipBlanks_38
      · have hf := if_f cc8 hf
        refine lv_aload_n hx hb dX5_skipBlanks_11 rfl (lv_at hl 0 rfl) ?_
        refine va_get (D := D) (ci := 5) (v := .ref (a 1)) (C := RX5) (T := TX5) (N := 6) hx hb hG inG5 hown hK hP 0 at_T_0_0 rfl 0 (by decide) (hG _ g_93) (fun _ h9 => h9) rfl dX5_skipBlanks_12 ?_
        refine lv_aload_n hx hb dX5_skipBlanks_15 rfl (lv_at hl 0 rfl) ?_
        refine va_get (D := D) (ci := 5) (v := .int (X1 0 2)) (C := RX5) (T := TX5) (N := 6) hx hb hG inG5 hown hK hP 0 at_T_0_0 rfl 2 (by decide) (hG _ g_96) (fun _ h9 => h9) rfl dX5_skipBlanks_16 ?_
        obtain ⟨hb19, hf⟩ := gd hf
        refine va_iald (cA := cI) (n := 250) (f := X1 1) hx hb hK hP 1 0 at_T_0_1 rfl (inb_in hb19) dX5_skipBlanks_19 ?_
        refine lv_bipush (v := (32 : Int32)) hx hb dX5_skipBlanks_20 (by decide) ?_
        refine lv_icmp_ne (tgt := 38) hx hb dX5_skipBlanks_22 (by decide) (fun cc22 => ?_) (fun cc22 => ?_)
        · have hf := if_f cc22 hf
          exact W.vret hx hb hr (fun t ht hW => ⟨⟨X1, rfl, Option.some.inj hf, by rw [ht]; exact hP, hD⟩, hS.F ht⟩) hS.2.2 dX5_skipBlanks_38
        · have hf := if_t cc22 hf
          refine lv_aload_n hx hb dX5_skipBlanks_25 rfl (lv_at hl 0 rfl) ?_
          refine lv_dup hx hb dX5_skipBlanks_26 rfl ?_
          refine va_get (D := D) (ci := 5) (v := .int (X1 0 2)) (C := RX5) (T := TX5) (N := 6) hx hb hG inG5 hown hK hP 0 at_T_0_0 rfl 2 (by decide) (hG _ g_96) (fun _ h9 => h9) rfl dX5_skipBlanks_27 ?_
          refine lv_iconst (v := (1 : Int32)) hx hb dX5_skipBlanks_30 (by decide) ?_
          refine lv_iadd hx hb dX5_skipBlanks_31 ?_
          refine va_put (D := D) (ci := 5) (v := .int ((X1 0 2) + (1 : Int32))) (ty := .int) (C := RX5) (T := TX5) (N := 6) hx hb hG inG5 tyX5 tyX5_ok nmX5 hown hK hP hD hS 0 at_T_0_0 rfl 2 (by decide) (hG _ g_96) (fun _ h9 => h9) rfl (by decide +kernel) rfl rfl (Nat.le_of_ble_eq_true rfl) dX5_skipBlanks_32 (fun H locs hP hD hS => ?_)
          obtain ⟨X2, eX2⟩ : ∃ y : HC, y = (sf X1 2 ((X1 0 2) + (1 : Int32))) := ⟨_, rfl⟩
          have hf := nm_x eX2 hf
          have hP := wP (sf_T_0_2.trans (congrArg (fun z : HC => (kT cI a z)) eX2.symm)) hP
          have hD := wD (sf_T_0_2.trans (congrArg (fun z : HC => (kT cI a z)) eX2.symm)) hD
          refine lv_goto (tgt := 0) hx hb dX5_skipBlanks_35 (by decide) ?_
          exact ih0 X2 _ _ _ hP hD hS (lv_sub hl [0] rfl) hf
  exact L0 FU x _ _ _ hP hD hS (lv_sub hl [0] rfl) hf
def f_X5_fail (x : HC) (p1 : Int32) (p2 : Int32) : Option (HC) := (if (x 0 4) = 0 then nm (sf x 4 p1) (fun (X1 : HC) => nm (sf X1 5 p2) (fun (X2 : HC) => some X2)) else some x)
abbrev RM_X5_fail : Room := { frames := 0, cells := 0, slots := 0, locals := 0 }
set_option maxHeartbeats 4000000 in
set_option maxRecDepth 100000 in
theorem c_X5_fail (l : Launch) (D : va_G) (cI cZ : ClassId) (a : Nat → Nat) (x : HC) (p1 : Int32) (p2 : Int32) (sz : Nat) {r : HC} (hf : f_X5_fail x p1 p2 = some r) : Met l yX5_fail (wM yX5_fail cX5_fail 3 none) RM_X5_fail (va_Pc [.ref (a 0), .int p1, .int p2] (pre D cI cZ (kT cI a x) sz)) (QV D (va_A (kT cI a x) sz) (fun (u : HC) => (kT cI a u)) r) 0 0 (va_A (kT cI a x) sz) := by
  unfold f_X5_fail at hf
  refine Met.ofW (cc := cX5_fail) (maxL := 3) (ret := none) (by decide) rfl ?_
  intro p e s m args below meth c s₁ B hml hv
  obtain ⟨rfl, hsz, hP, hK, hD0, hnw⟩ := hv
  have hx := B.exec
  have hb := B.bytes
  have hr := B.returns
  have hts := atoms_spec (ws := wM yX5_fail cX5_fail 3 none) B.pre
  have hG : ∀ w ∈ GW, w.before (([.ref (a 0), .int p1, .int p2] : List Value).toArray) s = true := fun w h => hts w (List.mem_cons_of_mem _ h)
  have hown : s.vm.findClass RX5 = some m.cls := findClass_of_methodNamed B.named
  have hlocks := B.notSynchronized
  subst hsz
  have hD := hD0.self (sz := s.heap.size)
  generalize hAe : va_A (kT cI a x) s.heap.size = A at hD ⊢
  have hA : ∀ q : Nat, s.heap.size ≤ q → A q := fun q h => by rw [← hAe]; exact Or.inr h
  have hS : va_S A s.heap s.heap [] := va_S.rf
  have hl := lv_entry ([.ref (a 0), .int p1, .int p2]) (n := 3) (Nat.le_of_ble_eq_true rfl)
  rw [lg_entry_eq]
  generalize (lg_sl ([.ref (a 0), .int p1, .int p2]) ++ List.replicate (3 - (lg_sl ([.ref (a 0), .int p1, .int p2])).length) Slot.unset).toArray = ls at hl ⊢
  have hl : lv_has ls 3 [(0, .ref (a 0)), (1, .int p1), (2, .int p2)] := hl
  show W p l e RM_X5_fail s m (([.ref (a 0), .int p1, .int p2] : List Value).toArray) below meth c s.heap [] 0 0 (MQ below (QV D A (fun (u : HC) => (kT cI a u)) r) (([.ref (a 0), .int p1, .int p2] : List Value).toArray) s 0 0 A) (F0 m 0 ls [])
  refine lv_aload_n hx hb dX5_fail_0 rfl (lv_at hl 0 rfl) ?_
  refine va_get (D := D) (ci := 5) (v := .int (x 0 4)) (C := RX5) (T := TX5) (N := 6) hx hb hG inG5 hown hK hP 0 at_T_0_0 rfl 4 (by decide) (hG _ g_98) (fun _ h9 => h9) rfl dX5_fail_1 ?_
  refine lv_if_ne (tgt := 17) hx hb dX5_fail_4 (by decide) (fun cc4 => ?_) (fun cc4 => ?_)
  · have hf := if_f cc4 hf
    exact W.vret hx hb hr (fun t ht hW => ⟨⟨x, rfl, Option.some.inj hf, by rw [ht]; exact hP, hD⟩, hS.F ht⟩) hS.2.2 dX5_fail_17
  · have hf := if_t cc4 hf
    refine lv_aload_n hx hb dX5_fail_7 rfl (lv_at hl 0 rfl) ?_
    refine lv_iload_n hx hb dX5_fail_8 rfl (lv_at hl 1 rfl) ?_
    refine va_put (D := D) (ci := 5) (v := .int p1) (ty := .int) (C := RX5) (T := TX5) (N := 6) hx hb hG inG5 tyX5 tyX5_ok nmX5 hown hK hP hD hS 0 at_T_0_0 rfl 4 (by decide) (hG _ g_98) (fun _ h9 => h9) rfl (by decide +kernel) rfl rfl (Nat.le_of_ble_eq_true rfl) dX5_fail_9 (fun H locs hP hD hS => ?_)
    obtain ⟨X1, eX1⟩ : ∃ y : HC, y = (sf x 4 p1) := ⟨_, rfl⟩
    have hf := nm_x eX1 hf
    have hP := wP (sf_T_0_4.trans (congrArg (fun z : HC => (kT cI a z)) eX1.symm)) hP
    have hD := wD (sf_T_0_4.trans (congrArg (fun z : HC => (kT cI a z)) eX1.symm)) hD
    refine lv_aload_n hx hb dX5_fail_12 rfl (lv_at hl 0 rfl) ?_
    refine lv_iload_n hx hb dX5_fail_13 rfl (lv_at hl 2 rfl) ?_
    refine va_put (D := D) (ci := 5) (v := .int p2) (ty := .int) (C := RX5) (T := TX5) (N := 6) hx hb hG inG5 tyX5 tyX5_ok nmX5 hown hK hP hD hS 0 at_T_0_0 rfl 5 (by decide) (hG _ g_99) (fun _ h9 => h9) rfl (by decide +kernel) rfl rfl (Nat.le_of_ble_eq_true rfl) dX5_fail_14 (fun H locs hP hD hS => ?_)
    obtain ⟨X2, eX2⟩ : ∃ y : HC, y = (sf X1 5 p2) := ⟨_, rfl⟩
    have hf := nm_x eX2 hf
    have hP := wP (sf_T_0_5.trans (congrArg (fun z : HC => (kT cI a z)) eX2.symm)) hP
    have hD := wD (sf_T_0_5.trans (congrArg (fun z : HC => (kT cI a z)) eX2.symm)) hD
    exact W.vret hx hb hr (fun t ht hW => ⟨⟨X2, rfl, Option.some.inj hf, by rw [ht]; exact hP, hD⟩, hS.F ht⟩) hS.2.2 dX5_fail_17
def f_X5_figureAhead_j43   : Option (Int32) := some (0 : Int32)
def f_X5_figureAhead (x : HC) : Option (Int32) := (if (x 0 1) ≤ (x 0 2) then f_X5_figureAhead_j43 else (if inb (x 0 2) 250 then (if (x 1 (Int32.toNatClampNeg (x 0 2))) < (48 : Int32) then f_X5_figureAhead_j43 else (if inb (x 0 2) 250 then (if (57 : Int32) < (x 1 (Int32.toNatClampNeg (x 0 2))) then f_X5_figureAhead_j43 else some (1 : Int32)) else none)) else none))
abbrev RM_X5_figureAhead : Room := { frames := 0, cells := 0, slots := 0, locals := 0 }
set_option maxHeartbeats 4000000 in
set_option maxRecDepth 100000 in
theorem c_X5_figureAhead (l : Launch) (D : va_G) (cI cZ : ClassId) (a : Nat → Nat) (x : HC) (sz : Nat) {r : Int32} (hf : f_X5_figureAhead x = some r) : Met l yX5_figureAhead (wM yX5_figureAhead cX5_figureAhead 1 (some .boolean)) RM_X5_figureAhead (va_Pc [.ref (a 0)] (pre D cI cZ (kT cI a x) sz)) (QI0 D (va_A (kT cI a x) sz) (kT cI a x) r) 0 0 (va_A (kT cI a x) sz) := by
  unfold f_X5_figureAhead at hf
  refine Met.ofW (cc := cX5_figureAhead) (maxL := 1) (ret := (some .boolean)) (by decide) rfl ?_
  intro p e s m args below meth c s₁ B hml hv
  obtain ⟨rfl, hsz, hP, hK, hD0, hnw⟩ := hv
  have hx := B.exec
  have hb := B.bytes
  have hr := B.returns
  have hts := atoms_spec (ws := wM yX5_figureAhead cX5_figureAhead 1 (some .boolean)) B.pre
  have hG : ∀ w ∈ GW, w.before (([.ref (a 0)] : List Value).toArray) s = true := fun w h => hts w (List.mem_cons_of_mem _ h)
  have hown : s.vm.findClass RX5 = some m.cls := findClass_of_methodNamed B.named
  have hlocks := B.notSynchronized
  subst hsz
  have hD := hD0.self (sz := s.heap.size)
  generalize hAe : va_A (kT cI a x) s.heap.size = A at hD ⊢
  have hA : ∀ q : Nat, s.heap.size ≤ q → A q := fun q h => by rw [← hAe]; exact Or.inr h
  have hS : va_S A s.heap s.heap [] := va_S.rf
  have hl := lv_entry ([.ref (a 0)]) (n := 1) (Nat.le_of_ble_eq_true rfl)
  rw [lg_entry_eq]
  generalize (lg_sl ([.ref (a 0)]) ++ List.replicate (1 - (lg_sl ([.ref (a 0)])).length) Slot.unset).toArray = ls at hl ⊢
  have hl : lv_has ls 1 [(0, .ref (a 0))] := hl
  show W p l e RM_X5_figureAhead s m (([.ref (a 0)] : List Value).toArray) below meth c s.heap [] 0 0 (MQ below (QI0 D A (kT cI a x) r) (([.ref (a 0)] : List Value).toArray) s 0 0 A) (F0 m 0 ls [])
  refine lv_aload_n hx hb dX5_figureAhead_0 rfl (lv_at hl 0 rfl) ?_
  refine va_get (D := D) (ci := 5) (v := .int (x 0 2)) (C := RX5) (T := TX5) (N := 6) hx hb hG inG5 hown hK hP 0 at_T_0_0 rfl 2 (by decide) (hG _ g_96) (fun _ h9 => h9) rfl dX5_figureAhead_1 ?_
  refine lv_aload_n hx hb dX5_figureAhead_4 rfl (lv_at hl 0 rfl) ?_
  refine va_get (D := D) (ci := 5) (v := .int (x 0 1)) (C := RX5) (T := TX5) (N := 6) hx hb hG inG5 hown hK hP 0 at_T_0_0 rfl 1 (by decide) (hG _ g_94) (fun _ h9 => h9) rfl dX5_figureAhead_5 ?_
  have J43 : ∀  (H : Heap) (locs : List Loc) (ls : Array Slot), va_P D vwCl (kT cI a x) H → va_D A (kT cI a x) → va_S A s.heap H locs → lv_has ls 1 [] → f_X5_figureAhead_j43  = some r → W p l e RM_X5_figureAhead s m (([.ref (a 0)] : List Value).toArray) below meth c H locs 0 0 (MQ below (QI0 D A (kT cI a x) r) (([.ref (a 0)] : List Value).toArray) s 0 0 A) (F0 m 43 ls []) := by
    intro  H locs ls hP hD hS hl hf
    unfold f_X5_figureAhead_j43 at hf
    refine lv_iconst (v := (0 : Int32)) hx hb dX5_figureAhead_43 (by decide) ?_
    exact W.zret (v := (0 : Int32)) hx hb hr (by decide) (fun t ht hW => ⟨⟨(0 : Int32), (), rfl, Option.some.inj hf, by rw [ht]; exact hP, hD⟩, hS.F ht⟩) hS.2.2 dX5_figureAhead_44
  refine lv_icmp_ge (tgt := 43) hx hb dX5_figureAhead_8 (by decide) (fun cc8 => ?_) (fun cc8 => ?_)
  · have hf := if_t cc8 hf
    exact J43  _ _ _ hP hD hS (lv_sub hl [] rfl) hf
  · have hf := if_f cc8 hf
    refine lv_aload_n hx hb dX5_figureAhead_11 rfl (lv_at hl 0 rfl) ?_
    refine va_get (D := D) (ci := 5) (v := .ref (a 1)) (C := RX5) (T := TX5) (N := 6) hx hb hG inG5 hown hK hP 0 at_T_0_0 rfl 0 (by decide) (hG _ g_93) (fun _ h9 => h9) rfl dX5_figureAhead_12 ?_
    refine lv_aload_n hx hb dX5_figureAhead_15 rfl (lv_at hl 0 rfl) ?_
    refine va_get (D := D) (ci := 5) (v := .int (x 0 2)) (C := RX5) (T := TX5) (N := 6) hx hb hG inG5 hown hK hP 0 at_T_0_0 rfl 2 (by decide) (hG _ g_96) (fun _ h9 => h9) rfl dX5_figureAhead_16 ?_
    obtain ⟨hb19, hf⟩ := gd hf
    refine va_iald (cA := cI) (n := 250) (f := x 1) hx hb hK hP 1 0 at_T_0_1 rfl (inb_in hb19) dX5_figureAhead_19 ?_
    refine lv_bipush (v := (48 : Int32)) hx hb dX5_figureAhead_20 (by decide) ?_
    refine lv_icmp_lt (tgt := 43) hx hb dX5_figureAhead_22 (by decide) (fun cc22 => ?_) (fun cc22 => ?_)
    · have hf := if_t cc22 hf
      exact J43  _ _ _ hP hD hS (lv_sub hl [] rfl) hf
    · have hf := if_f cc22 hf
      refine lv_aload_n hx hb dX5_figureAhead_25 rfl (lv_at hl 0 rfl) ?_
      refine va_get (D := D) (ci := 5) (v := .ref (a 1)) (C := RX5) (T := TX5) (N := 6) hx hb hG inG5 hown hK hP 0 at_T_0_0 rfl 0 (by decide) (hG _ g_93) (fun _ h9 => h9) rfl dX5_figureAhead_26 ?_
      refine lv_aload_n hx hb dX5_figureAhead_29 rfl (lv_at hl 0 rfl) ?_
      refine va_get (D := D) (ci := 5) (v := .int (x 0 2)) (C := RX5) (T := TX5) (N := 6) hx hb hG inG5 hown hK hP 0 at_T_0_0 rfl 2 (by decide) (hG _ g_96) (fun _ h9 => h9) rfl dX5_figureAhead_30 ?_
      obtain ⟨hb33, hf⟩ := gd hf
      refine va_iald (cA := cI) (n := 250) (f := x 1) hx hb hK hP 1 0 at_T_0_1 rfl (inb_in hb33) dX5_figureAhead_33 ?_
      refine lv_bipush (v := (57 : Int32)) hx hb dX5_figureAhead_34 (by decide) ?_
      refine lv_icmp_gt (tgt := 43) hx hb dX5_figureAhead_36 (by decide) (fun cc36 => ?_) (fun cc36 => ?_)
      · have hf := if_t cc36 hf
        exact J43  _ _ _ hP hD hS (lv_sub hl [] rfl) hf
      · have hf := if_f cc36 hf
        refine lv_iconst (v := (1 : Int32)) hx hb dX5_figureAhead_39 (by decide) ?_
        refine lv_goto (tgt := 44) hx hb dX5_figureAhead_40 (by decide) ?_
        exact W.zret (v := (1 : Int32)) hx hb hr (by decide) (fun t ht hW => ⟨⟨(1 : Int32), (), rfl, Option.some.inj hf, by rw [ht]; exact hP, hD⟩, hS.F ht⟩) hS.2.2 dX5_figureAhead_44
def f_X5_number_j120 (X7 : HC)  : Option (Int32 × HC) := bd (f_X5_fail X7 (2 : Int32) (X7 0 3)) (fun (q8 : HC) => some ((0 : Int32), q8))
def f_X5_number_j97 (p1 : Int32) (p2 : Int32) (v5 : Int32) (X7 : HC)  : Option (Int32 × HC) := (if (3 : Int32) < ((X7 0 2) - (X7 0 3)) then f_X5_number_j120 X7 else (if v5 < p1 then f_X5_number_j120 X7 else (if v5 ≤ p2 then some (v5, X7) else f_X5_number_j120 X7)))
def f_X5_number_j81 (rc42 : Int32 → Int32 → HC → Option (Int32 × HC)) (v6 : Int32) (X7 : HC) (v10 : Int32) : Option (Int32 × HC) := nm (sf X7 2 ((X7 0 2) + (1 : Int32))) (fun (X11 : HC) => nm (v6 + (1 : Int32)) (fun (v12 : Int32) => rc42 v10 v12 X11))
def f_X5_number_b42 (p1 : Int32) (p2 : Int32) (rc42 : Int32 → Int32 → HC → Option (Int32 × HC)) (v5 : Int32) (v6 : Int32) (X7 : HC) : Option (Int32 × HC) := (if (250 : Int32) ≤ v6 then f_X5_number_j97 p1 p2 v5 X7 else bd (f_X5_figureAhead X7) (fun (q9 : Int32) => (if q9 = 0 then f_X5_number_j97 p1 p2 v5 X7 else (if (3 : Int32) ≤ v6 then f_X5_number_j81 rc42 v6 X7 v5 else (if inb (X7 0 2) 250 then nm (((v5 * (10 : Int32)) + (X7 1 (Int32.toNatClampNeg (X7 0 2)))) - (48 : Int32)) (fun (v13 : Int32) => f_X5_number_j81 rc42 v6 X7 v13) else none)))))
def f_X5_number_j20 (p1 : Int32) (p2 : Int32) (X3 : HC) : Option (Int32 × HC) := (if (X3 0 4) = 0 then nm (sf X3 3 (X3 0 2)) (fun (X4 : HC) => lp (fun _ _ _ => none : Int32 → Int32 → HC → Option (Int32 × HC)) (f_X5_number_b42 p1 p2) FU (0 : Int32) (0 : Int32) X4) else some ((0 : Int32), X3))
def f_X5_number (x : HC) (p1 : Int32) (p2 : Int32) : Option (Int32 × HC) := bd (f_X5_skipBlanks x) (fun (q1 : HC) => bd (f_X5_figureAhead q1) (fun (q2 : Int32) => (if q2 = 0 then bd (f_X5_fail q1 (1 : Int32) (q1 0 2)) (fun (q14 : HC) => f_X5_number_j20 p1 p2 q14) else f_X5_number_j20 p1 p2 q1)))
abbrev RM_X5_number : Room := { frames := 1, cells := 0, slots := 0, locals := 22 }
set_option maxHeartbeats 4000000 in
set_option maxRecDepth 100000 in
theorem c_X5_number (l : Launch) (D : va_G) (cI cZ : ClassId) (a : Nat → Nat) (x : HC) (p1 : Int32) (p2 : Int32) (sz : Nat) {r : Int32 × HC} (hf : f_X5_number x p1 p2 = some r) : Met l yX5_number (wM yX5_number cX5_number 5 (some .int)) RM_X5_number (va_Pc [.ref (a 0), .int p1, .int p2] (pre D cI cZ (kT cI a x) sz)) (QI D (va_A (kT cI a x) sz) (fun (u : HC) => (kT cI a u)) r) 0 0 (va_A (kT cI a x) sz) := by
  unfold f_X5_number at hf
  refine Met.ofW (cc := cX5_number) (maxL := 5) (ret := (some .int)) (by decide) rfl ?_
  intro p e s m args below meth c s₁ B hml hv
  obtain ⟨rfl, hsz, hP, hK, hD0, hnw⟩ := hv
  have hx := B.exec
  have hb := B.bytes
  have hr := B.returns
  have hts := atoms_spec (ws := wM yX5_number cX5_number 5 (some .int)) B.pre
  have hG : ∀ w ∈ GW, w.before (([.ref (a 0), .int p1, .int p2] : List Value).toArray) s = true := fun w h => hts w (List.mem_cons_of_mem _ h)
  have hown : s.vm.findClass RX5 = some m.cls := findClass_of_methodNamed B.named
  have hlocks := B.notSynchronized
  subst hsz
  have hD := hD0.self (sz := s.heap.size)
  generalize hAe : va_A (kT cI a x) s.heap.size = A at hD ⊢
  have hA : ∀ q : Nat, s.heap.size ≤ q → A q := fun q h => by rw [← hAe]; exact Or.inr h
  have hS : va_S A s.heap s.heap [] := va_S.rf
  have hl := lv_entry ([.ref (a 0), .int p1, .int p2]) (n := 5) (Nat.le_of_ble_eq_true rfl)
  rw [lg_entry_eq]
  generalize (lg_sl ([.ref (a 0), .int p1, .int p2]) ++ List.replicate (5 - (lg_sl ([.ref (a 0), .int p1, .int p2])).length) Slot.unset).toArray = ls at hl ⊢
  have hl : lv_has ls 5 [(0, .ref (a 0)), (1, .int p1), (2, .int p2)] := hl
  show W p l e RM_X5_number s m (([.ref (a 0), .int p1, .int p2] : List Value).toArray) below meth c s.heap [] 0 0 (MQ below (QI D A (fun (u : HC) => (kT cI a u)) r) (([.ref (a 0), .int p1, .int p2] : List Value).toArray) s 0 0 A) (F0 m 0 ls [])
  refine lv_aload_n hx hb dX5_number_0 rfl (lv_at hl 0 rfl) ?_
  obtain ⟨q1, hq1, hf⟩ := bd_x hf
  have hFc := freeS hD hS hA
  refine va_callv (va_runV (As := []) (rest := []) ⟨hx, hb, hml, hown, hG⟩ (c_X5_skipBlanks l D cI cZ a x s.heap.size hq1) (cwV 0 hG (gV g_256 g_257 g_0 g_71 g_258) rfl rfl rfl (by decide +kernel) ⟨Nat.le_of_ble_eq_true rfl, Nat.le_of_ble_eq_true rfl⟩) ⟨pre_blind, va_recv hK hP (ci := 5) (q0 := 0) rfl rfl, fun U hU hW => ⟨rfl, pre_of hP hK hD hnw hU hW⟩⟩ rfl rfl hl.1 rfl (lv_room (Nat.le_of_ble_eq_true rfl)) dX5_number_1 ⟨Nat.le_of_ble_eq_true rfl, Nat.le_of_ble_eq_true rfl⟩) hS (fun q _ h => hFc q h) hFc (fun u t H locs ht hvm hw hB hz1 hk1 hS => ?_)
  have hw := hw.symm; subst hw
  obtain ⟨hP1, hD1⟩ := hB
  rw [ht] at hP1
  have hP := hP1
  have hD := hD1.weaken (fun _ q _ h => hFc q.1 h)
  refine lv_aload_n hx hb dX5_number_4 rfl (lv_at hl 0 rfl) ?_
  obtain ⟨q2, hq2, hf⟩ := bd_x hf
  have hFc := freeS hD hS hA
  refine va_calli (va_runV (As := []) (rest := []) ⟨hx, hb, hml, hown, hG⟩ (c_X5_figureAhead l D cI cZ a q1 H.size hq2) (cwV 0 hG (gV g_271 g_272 g_5 g_71 g_273) rfl rfl rfl (by decide +kernel) ⟨Nat.le_of_ble_eq_true rfl, Nat.le_of_ble_eq_true rfl⟩) ⟨pre_blind, va_recv hK hP (ci := 5) (q0 := 0) rfl rfl, fun U hU hW => ⟨rfl, pre_of hP hK hD hnw hU hW⟩⟩ rfl rfl hl.1 rfl (lv_room (Nat.le_of_ble_eq_true rfl)) dX5_number_5 ⟨Nat.le_of_ble_eq_true rfl, Nat.le_of_ble_eq_true rfl⟩) hS (fun q _ h => hFc q h) hFc (fun v u t H locs ht hvm hw hB hz1 hk1 hS => ?_)
  have hw := hw.symm; subst hw
  obtain ⟨hP1, hD1⟩ := hB
  rw [ht] at hP1
  have hP := hP1
  have hD := hD1.weaken (fun _ q _ h => hFc q.1 h)
  have J20 : ∀ (X3 : HC) (H : Heap) (locs : List Loc) (ls : Array Slot), va_P D vwCl (kT cI a X3) H → va_D A (kT cI a X3) → va_S A s.heap H locs → lv_has ls 5 [(0, .ref (a 0)), (1, .int p1), (2, .int p2)] → f_X5_number_j20 p1 p2 X3 = some r → W p l e RM_X5_number s m (([.ref (a 0), .int p1, .int p2] : List Value).toArray) below meth c H locs 0 0 (MQ below (QI D A (fun (u : HC) => (kT cI a u)) r) (([.ref (a 0), .int p1, .int p2] : List Value).toArray) s 0 0 A) (F0 m 20 ls []) := by
    intro X3 H locs ls hP hD hS hl hf
    unfold f_X5_number_j20 at hf
    refine lv_aload_n hx hb dX5_number_20 rfl (lv_at hl 0 rfl) ?_
    refine va_get (D := D) (ci := 5) (v := .int (X3 0 4)) (C := RX5) (T := TX5) (N := 6) hx hb hG inG5 hown hK hP 0 at_T_0_0 rfl 4 (by decide) (hG _ g_98) (fun _ h9 => h9) rfl dX5_number_21 ?_
    refine lv_if_eq (tgt := 29) hx hb dX5_number_24 (by decide) (fun cc24 => ?_) (fun cc24 => ?_)
    · have hf := if_t cc24 hf
      refine lv_aload_n hx hb dX5_number_29 rfl (lv_at hl 0 rfl) ?_
      refine lv_aload_n hx hb dX5_number_30 rfl (lv_at hl 0 rfl) ?_
      refine va_get (D := D) (ci := 5) (v := .int (X3 0 2)) (C := RX5) (T := TX5) (N := 6) hx hb hG inG5 hown hK hP 0 at_T_0_0 rfl 2 (by decide) (hG _ g_96) (fun _ h9 => h9) rfl dX5_number_31 ?_
      refine va_put (D := D) (ci := 5) (v := .int (X3 0 2)) (ty := .int) (C := RX5) (T := TX5) (N := 6) hx hb hG inG5 tyX5 tyX5_ok nmX5 hown hK hP hD hS 0 at_T_0_0 rfl 3 (by decide) (hG _ g_97) (fun _ h9 => h9) rfl (by decide +kernel) rfl rfl (Nat.le_of_ble_eq_true rfl) dX5_number_34 (fun H locs hP hD hS => ?_)
      obtain ⟨X4, eX4⟩ : ∃ y : HC, y = (sf X3 3 (X3 0 2)) := ⟨_, rfl⟩
      have hf := nm_x eX4 hf
      have hP := wP (sf_T_0_3.trans (congrArg (fun z : HC => (kT cI a z)) eX4.symm)) hP
      have hD := wD (sf_T_0_3.trans (congrArg (fun z : HC => (kT cI a z)) eX4.symm)) hD
      refine lv_iconst (v := (0 : Int32)) hx hb dX5_number_37 (by decide) ?_
      refine lv_istore_n (lv' := [(3, .int (0 : Int32)), (0, .ref (a 0)), (1, .int p1), (2, .int p2)]) hx hb dX5_number_38 rfl hl (by decide) rfl (fun ls hl => ?_)
      refine lv_iconst (v := (0 : Int32)) hx hb dX5_number_39 (by decide) ?_
      refine lv_istore (lv' := [(4, .int (0 : Int32)), (3, .int (0 : Int32)), (0, .ref (a 0)), (1, .int p1), (2, .int p2)]) hx hb dX5_number_40 hl (by decide) rfl (fun ls hl => ?_)
      have L42 : ∀ (n : Nat) (v5 : Int32) (v6 : Int32) (X7 : HC) (H : Heap) (locs : List Loc) (ls : Array Slot), va_P D vwCl (kT cI a X7) H → va_D A (kT cI a X7) → va_S A s.heap H locs → lv_has ls 5 [(0, .ref (a 0)), (1, .int p1), (2, .int p2), (3, .int v5), (4, .int v6)] → lp (fun _ _ _ => none : Int32 → Int32 → HC → Option (Int32 × HC)) (f_X5_number_b42 p1 p2) n v5 v6 X7 = some r → W p l e RM_X5_number s m (([.ref (a 0), .int p1, .int p2] : List Value).toArray) below meth c H locs 0 0 (MQ below (QI D A (fun (u : HC) => (kT cI a u)) r) (([.ref (a 0), .int p1, .int p2] : List Value).toArray) s 0 0 A) (F0 m 42 ls []) := by
        intro n
        induction n with
        | zero => intro v5 v6 X7 H locs ls _ _ _ _ hf; cases (show (none : Option (Int32 × HC)) = some r from hf)
        | succ n ih42 =>
          intro v5 v6 X7 H locs ls hP hD hS hl hf
          have hf : (f_X5_number_b42 p1 p2) (lp (fun _ _ _ => none : Int32 → Int32 → HC → Option (Int32 × HC)) (f_X5_number_b42 p1 p2) n) v5 v6 X7 = some r := hf
          generalize lp (fun _ _ _ => none : Int32 → Int32 → HC → Option (Int32 × HC)) (f_X5_number_b42 p1 p2) n = rc42 at ih42 hf
          unfold f_X5_number_b42 at hf
          refine lv_iload hx hb dX5_number_42 (lv_at hl 4 rfl) ?_
          refine lv_sipush (v := (250 : Int32)) hx hb dX5_number_44 (by decide) ?_
          have J97 : ∀  (H : Heap) (locs : List Loc) (ls : Array Slot), va_P D vwCl (kT cI a X7) H → va_D A (kT cI a X7) → va_S A s.heap H locs → lv_has ls 5 [(0, .ref (a 0)), (1, .int p1), (2, .int p2), (3, .int v5)] → f_X5_number_j97 p1 p2 v5 X7  = some r → W p l e RM_X5_number s m (([.ref (a 0), .int p1, .int p2] : List Value).toArray) below meth c H locs 0 0 (MQ below (QI D A (fun (u : HC) => (kT cI a u)) r) (([.ref (a 0), .int p1, .int p2] : List Value).toArray) s 0 0 A) (F0 m 97 ls []) := by
            intro  H locs ls hP hD hS hl hf
            unfold f_X5_number_j97 at hf
            refine lv_aload_n hx hb dX5_number_97 rfl (lv_at hl 0 rfl) ?_
            refine va_get (D := D) (ci := 5) (v := .int (X7 0 2)) (C := RX5) (T := TX5) (N := 6) hx hb hG inG5 hown hK hP 0 at_T_0_0 rfl 2 (by decide) (hG _ g_96) (fun _ h9 => h9) rfl dX5_number_98 ?_
            refine lv_aload_n hx hb dX5_number_101 rfl (lv_at hl 0 rfl) ?_
            refine va_get (D := D) (ci := 5) (v := .int (X7 0 3)) (C := RX5) (T := TX5) (N := 6) hx hb hG inG5 hown hK hP 0 at_T_0_0 rfl 3 (by decide) (hG _ g_97) (fun _ h9 => h9) rfl dX5_number_102 ?_
            refine lv_isub hx hb dX5_number_105 ?_
            refine lv_iconst (v := (3 : Int32)) hx hb dX5_number_106 (by decide) ?_
            have J120 : ∀  (H : Heap) (locs : List Loc) (ls : Array Slot), va_P D vwCl (kT cI a X7) H → va_D A (kT cI a X7) → va_S A s.heap H locs → lv_has ls 5 [(0, .ref (a 0))] → f_X5_number_j120 X7  = some r → W p l e RM_X5_number s m (([.ref (a 0), .int p1, .int p2] : List Value).toArray) below meth c H locs 0 0 (MQ below (QI D A (fun (u : HC) => (kT cI a u)) r) (([.ref (a 0), .int p1, .int p2] : List Value).toArray) s 0 0 A) (F0 m 120 ls []) := by
              intro  H locs ls hP hD hS hl hf
              unfold f_X5_number_j120 at hf
              refine lv_aload_n hx hb dX5_number_120 rfl (lv_at hl 0 rfl) ?_
              refine lv_iconst (v := (2 : Int32)) hx hb dX5_number_121 (by decide) ?_
              refine lv_aload_n hx hb dX5_number_122 rfl (lv_at hl 0 rfl) ?_
              refine va_get (D := D) (ci := 5) (v := .int (X7 0 3)) (C := RX5) (T := TX5) (N := 6) hx hb hG inG5 hown hK hP 0 at_T_0_0 rfl 3 (by decide) (hG _ g_97) (fun _ h9 => h9) rfl dX5_number_123 ?_
              obtain ⟨q8, hq8, hf⟩ := bd_x hf
              have hFc := freeS hD hS hA
              refine va_callv (va_runV (As := [.int (2 : Int32), .int (X7 0 3)]) (rest := []) ⟨hx, hb, hml, hown, hG⟩ (c_X5_fail l D cI cZ a X7 (2 : Int32) (X7 0 3) H.size hq8) (cwV 2 hG (gV g_262 g_263 g_2 g_71 g_264) rfl rfl rfl (by decide +kernel) ⟨Nat.le_of_ble_eq_true rfl, Nat.le_of_ble_eq_true rfl⟩) ⟨pre_blind, va_recv hK hP (ci := 5) (q0 := 0) rfl rfl, fun U hU hW => ⟨rfl, pre_of hP hK hD hnw hU hW⟩⟩ rfl rfl hl.1 rfl (lv_room (Nat.le_of_ble_eq_true rfl)) dX5_number_126 ⟨Nat.le_of_ble_eq_true rfl, Nat.le_of_ble_eq_true rfl⟩) hS (fun q _ h => hFc q h) hFc (fun u t H locs ht hvm hw hB hz1 hk1 hS => ?_)
              have hw := hw.symm; subst hw
              obtain ⟨hP1, hD1⟩ := hB
              rw [ht] at hP1
              have hP := hP1
              have hD := hD1.weaken (fun _ q _ h => hFc q.1 h)
              refine lv_iconst (v := (0 : Int32)) hx hb dX5_number_129 (by decide) ?_
              exact W.iret (v := (0 : Int32)) hx hb hr (fun t ht hW => ⟨⟨(0 : Int32), q8, rfl, ⟨pr_1 hf, pr_2 hf⟩, by rw [ht]; exact hP, hD⟩, hS.F ht⟩) hS.2.2 dX5_number_130
            refine lv_icmp_gt (tgt := 120) hx hb dX5_number_107 (by decide) (fun cc107 => ?_) (fun cc107 => ?_)
            · have hf := if_t cc107 hf
              exact J120  _ _ _ hP hD hS (lv_sub hl [0] rfl) hf
            · have hf := if_f cc107 hf
              refine lv_iload_n hx hb dX5_number_110 rfl (lv_at hl 3 rfl) ?_
              refine lv_iload_n hx hb dX5_number_111 rfl (lv_at hl 1 rfl) ?_
              refine lv_icmp_lt (tgt := 120) hx hb dX5_number_112 (by decide) (fun cc112 => ?_) (fun cc112 => ?_)
              · have hf := if_t cc112 hf
                exact J120  _ _ _ hP hD hS (lv_sub hl [0] rfl) hf
              · have hf := if_f cc112 hf
                refine lv_iload_n hx hb dX5_number_115 rfl (lv_at hl 3 rfl) ?_
                refine lv_iload_n hx hb dX5_number_116 rfl (lv_at hl 2 rfl) ?_
                refine lv_icmp_le (tgt := 131) hx hb dX5_number_117 (by decide) (fun cc117 => ?_) (fun cc117 => ?_)
                · have hf := if_t cc117 hf
                  refine lv_iload_n hx hb dX5_number_131 rfl (lv_at hl 3 rfl) ?_
                  exact W.iret (v := v5) hx hb hr (fun t ht hW => ⟨⟨v5, X7, rfl, ⟨pr_1 hf, pr_2 hf⟩, by rw [ht]; exact hP, hD⟩, hS.F ht⟩) hS.2.2 dX5_number_132
                · have hf := if_f cc117 hf
                  exact J120  _ _ _ hP hD hS (lv_sub hl [0] rfl) hf
          refine lv_icmp_ge (tgt := 97) hx hb dX5_number_47 (by decide) (fun cc47 => ?_) (fun cc47 => ?_)
          · have hf := if_t cc47 hf
            exact J97  _ _ _ hP hD hS (lv_sub hl [0, 1, 2, 3] rfl) hf
          · have hf := if_f cc47 hf
            refine lv_aload_n hx hb dX5_number_50 rfl (lv_at hl 0 rfl) ?_
            obtain ⟨q9, hq9, hf⟩ := bd_x hf
            have hFc := freeS hD hS hA
            refine va_calli (va_runV (As := []) (rest := []) ⟨hx, hb, hml, hown, hG⟩ (c_X5_figureAhead l D cI cZ a X7 H.size hq9) (cwV 0 hG (gV g_271 g_272 g_5 g_71 g_273) rfl rfl rfl (by decide +kernel) ⟨Nat.le_of_ble_eq_true rfl, Nat.le_of_ble_eq_true rfl⟩) ⟨pre_blind, va_recv hK hP (ci := 5) (q0 := 0) rfl rfl, fun U hU hW => ⟨rfl, pre_of hP hK hD hnw hU hW⟩⟩ rfl rfl hl.1 rfl (lv_room (Nat.le_of_ble_eq_true rfl)) dX5_number_51 ⟨Nat.le_of_ble_eq_true rfl, Nat.le_of_ble_eq_true rfl⟩) hS (fun q _ h => hFc q h) hFc (fun v u t H locs ht hvm hw hB hz1 hk1 hS => ?_)
            have hw := hw.symm; subst hw
            obtain ⟨hP1, hD1⟩ := hB
            rw [ht] at hP1
            have hP := hP1
            have hD := hD1.weaken (fun _ q _ h => hFc q.1 h)
            refine lv_if_eq (tgt := 97) hx hb dX5_number_54 (by decide) (fun cc54 => ?_) (fun cc54 => ?_)
            · have hf := if_t cc54 hf
              exact J97  _ _ _ hP hD hS (lv_sub hl [0, 1, 2, 3] rfl) hf
            · have hf := if_f cc54 hf
              refine lv_iload hx hb dX5_number_57 (lv_at hl 4 rfl) ?_
              refine lv_iconst (v := (3 : Int32)) hx hb dX5_number_59 (by decide) ?_
              have J81 : ∀ (v10 : Int32) (H : Heap) (locs : List Loc) (ls : Array Slot), va_P D vwCl (kT cI a X7) H → va_D A (kT cI a X7) → va_S A s.heap H locs → lv_has ls 5 [(0, .ref (a 0)), (1, .int p1), (2, .int p2), (3, .int v10), (4, .int v6)] → f_X5_number_j81 rc42 v6 X7 v10 = some r → W p l e RM_X5_number s m (([.ref (a 0), .int p1, .int p2] : List Value).toArray) below meth c H locs 0 0 (MQ below (QI D A (fun (u : HC) => (kT cI a u)) r) (([.ref (a 0), .int p1, .int p2] : List Value).toArray) s 0 0 A) (F0 m 81 ls []) := by
                intro v10 H locs ls hP hD hS hl hf
                unfold f_X5_number_j81 at hf
                refine lv_aload_n hx hb dX5_number_81 rfl (lv_at hl 0 rfl) ?_
                refine lv_dup hx hb dX5_number_82 rfl ?_
                refine va_get (D := D) (ci := 5) (v := .int (X7 0 2)) (C := RX5) (T := TX5) (N := 6) hx hb hG inG5 hown hK hP 0 at_T_0_0 rfl 2 (by decide) (hG _ g_96) (fun _ h9 => h9) rfl dX5_number_83 ?_
                refine lv_iconst (v := (1 : Int32)) hx hb dX5_number_86 (by decide) ?_
                refine lv_iadd hx hb dX5_number_87 ?_
                refine va_put (D := D) (ci := 5) (v := .int ((X7 0 2) + (1 : Int32))) (ty := .int) (C := RX5) (T := TX5) (N := 6) hx hb hG inG5 tyX5 tyX5_ok nmX5 hown hK hP hD hS 0 at_T_0_0 rfl 2 (by decide) (hG _ g_96) (fun _ h9 => h9) rfl (by decide +kernel) rfl rfl (Nat.le_of_ble_eq_true rfl) dX5_number_88 (fun H locs hP hD hS => ?_)
                obtain ⟨X11, eX11⟩ : ∃ y : HC, y = (sf X7 2 ((X7 0 2) + (1 : Int32))) := ⟨_, rfl⟩
                have hf := nm_x eX11 hf
                have hP := wP (sf_T_0_2.trans (congrArg (fun z : HC => (kT cI a z)) eX11.symm)) hP
                have hD := wD (sf_T_0_2.trans (congrArg (fun z : HC => (kT cI a z)) eX11.symm)) hD
                obtain ⟨v12, ev12⟩ : ∃ y : Int32, y = (v6 + (1 : Int32)) := ⟨_, rfl⟩
                have hf := nm_x ev12 hf
                refine lv_iinc (v := v12) (lv' := [(4, .int v12), (0, .ref (a 0)), (1, .int p1), (2, .int p2), (3, .int v10)]) hx hb dX5_number_91 hl (k := 4) rfl (by rw [ev12]; rfl) (by decide) rfl (fun ls hl => ?_)
                refine lv_goto (tgt := 42) hx hb dX5_number_94 (by decide) ?_
                exact ih42 v10 v12 X11 _ _ _ hP hD hS (lv_sub hl [1, 2, 3, 4, 0] rfl) hf
              refine lv_icmp_ge (tgt := 81) hx hb dX5_number_60 (by decide) (fun cc60 => ?_) (fun cc60 => ?_)
              · have hf := if_t cc60 hf
                exact J81 v5 _ _ _ hP hD hS (lv_sub hl [0, 1, 2, 3, 4] rfl) hf
              · have hf := if_f cc60 hf
                refine lv_iload_n hx hb dX5_number_63 rfl (lv_at hl 3 rfl) ?_
                refine lv_bipush (v := (10 : Int32)) hx hb dX5_number_64 (by decide) ?_
                refine lv_imul hx hb dX5_number_66 ?_
                refine lv_aload_n hx hb dX5_number_67 rfl (lv_at hl 0 rfl) ?_
                refine va_get (D := D) (ci := 5) (v := .ref (a 1)) (C := RX5) (T := TX5) (N := 6) hx hb hG inG5 hown hK hP 0 at_T_0_0 rfl 0 (by decide) (hG _ g_93) (fun _ h9 => h9) rfl dX5_number_68 ?_
                refine lv_aload_n hx hb dX5_number_71 rfl (lv_at hl 0 rfl) ?_
                refine va_get (D := D) (ci := 5) (v := .int (X7 0 2)) (C := RX5) (T := TX5) (N := 6) hx hb hG inG5 hown hK hP 0 at_T_0_0 rfl 2 (by decide) (hG _ g_96) (fun _ h9 => h9) rfl dX5_number_72 ?_
                obtain ⟨hb75, hf⟩ := gd hf
                refine va_iald (cA := cI) (n := 250) (f := X7 1) hx hb hK hP 1 0 at_T_0_1 rfl (inb_in hb75) dX5_number_75 ?_
                refine lv_iadd hx hb dX5_number_76 ?_
                refine lv_bipush (v := (48 : Int32)) hx hb dX5_number_77 (by decide) ?_
                refine lv_isub hx hb dX5_number_79 ?_
                refine lv_topi (fun v13 ev13 => ?_)
                have hf := nm_x ev13 hf
                refine lv_istore_n (lv' := [(3, .int v13), (0, .ref (a 0)), (1, .int p1), (2, .int p2), (4, .int v6)]) hx hb dX5_number_80 rfl hl (by decide) rfl (fun ls hl => ?_)
                exact J81 v13 _ _ _ hP hD hS (lv_sub hl [1, 2, 3, 0, 4] rfl) hf
      exact L42 FU (0 : Int32) (0 : Int32) X4 _ _ _ hP hD hS (lv_sub hl [2, 3, 4, 1, 0] rfl) hf
    · have hf := if_f cc24 hf
      refine lv_iconst (v := (0 : Int32)) hx hb dX5_number_27 (by decide) ?_
      exact W.iret (v := (0 : Int32)) hx hb hr (fun t ht hW => ⟨⟨(0 : Int32), X3, rfl, ⟨pr_1 hf, pr_2 hf⟩, by rw [ht]; exact hP, hD⟩, hS.F ht⟩) hS.2.2 dX5_number_28
  refine lv_if_ne (tgt := 20) hx hb dX5_number_8 (by decide) (fun cc8 => ?_) (fun cc8 => ?_)
  · have hf := if_f cc8 hf
    exact J20 q1 _ _ _ hP hD hS (lv_sub hl [0, 1, 2] rfl) hf
  · have hf := if_t cc8 hf
    refine lv_aload_n hx hb dX5_number_11 rfl (lv_at hl 0 rfl) ?_
    refine lv_iconst (v := (1 : Int32)) hx hb dX5_number_12 (by decide) ?_
    refine lv_aload_n hx hb dX5_number_13 rfl (lv_at hl 0 rfl) ?_
    refine va_get (D := D) (ci := 5) (v := .int (q1 0 2)) (C := RX5) (T := TX5) (N := 6) hx hb hG inG5 hown hK hP 0 at_T_0_0 rfl 2 (by decide) (hG _ g_96) (fun _ h9 => h9) rfl dX5_number_14 ?_
    obtain ⟨q14, hq14, hf⟩ := bd_x hf
    have hFc := freeS hD hS hA
    refine va_callv (va_runV (As := [.int (1 : Int32), .int (q1 0 2)]) (rest := []) ⟨hx, hb, hml, hown, hG⟩ (c_X5_fail l D cI cZ a q1 (1 : Int32) (q1 0 2) H.size hq14) (cwV 2 hG (gV g_262 g_263 g_2 g_71 g_264) rfl rfl rfl (by decide +kernel) ⟨Nat.le_of_ble_eq_true rfl, Nat.le_of_ble_eq_true rfl⟩) ⟨pre_blind, va_recv hK hP (ci := 5) (q0 := 0) rfl rfl, fun U hU hW => ⟨rfl, pre_of hP hK hD hnw hU hW⟩⟩ rfl rfl hl.1 rfl (lv_room (Nat.le_of_ble_eq_true rfl)) dX5_number_17 ⟨Nat.le_of_ble_eq_true rfl, Nat.le_of_ble_eq_true rfl⟩) hS (fun q _ h => hFc q h) hFc (fun u t H locs ht hvm hw hB hz1 hk1 hS => ?_)
    have hw := hw.symm; subst hw
    obtain ⟨hP1, hD1⟩ := hB
    rw [ht] at hP1
    have hP := hP1
    have hD := hD1.weaken (fun _ q _ h => hFc q.1 h)
    exact J20 q14 _ _ _ hP hD hS (lv_sub hl [0, 1, 2] rfl) hf
def f_X5_endOfClause_j42 (q1 : HC)  : Option (HC) := bd (f_X5_fail q1 (1 : Int32) (q1 0 2)) (fun (q2 : HC) => some q2)
def f_X5_endOfClause (x : HC) : Option (HC) := bd (f_X5_skipBlanks x) (fun (q1 : HC) => (if (q1 0 1) ≤ (q1 0 2) then f_X5_endOfClause_j42 q1 else (if inb (q1 0 2) 250 then (if (q1 1 (Int32.toNatClampNeg (q1 0 2))) = (59 : Int32) then nm (sf q1 2 ((q1 0 2) + (1 : Int32))) (fun (X3 : HC) => some X3) else f_X5_endOfClause_j42 q1) else none)))
abbrev RM_X5_endOfClause : Room := { frames := 1, cells := 0, slots := 0, locals := 22 }
set_option maxHeartbeats 4000000 in
set_option maxRecDepth 100000 in
theorem c_X5_endOfClause (l : Launch) (D : va_G) (cI cZ : ClassId) (a : Nat → Nat) (x : HC) (sz : Nat) {r : HC} (hf : f_X5_endOfClause x = some r) : Met l yX5_endOfClause (wM yX5_endOfClause cX5_endOfClause 1 none) RM_X5_endOfClause (va_Pc [.ref (a 0)] (pre D cI cZ (kT cI a x) sz)) (QV D (va_A (kT cI a x) sz) (fun (u : HC) => (kT cI a u)) r) 0 0 (va_A (kT cI a x) sz) := by
  unfold f_X5_endOfClause at hf
  refine Met.ofW (cc := cX5_endOfClause) (maxL := 1) (ret := none) (by decide) rfl ?_
  intro p e s m args below meth c s₁ B hml hv
  obtain ⟨rfl, hsz, hP, hK, hD0, hnw⟩ := hv
  have hx := B.exec
  have hb := B.bytes
  have hr := B.returns
  have hts := atoms_spec (ws := wM yX5_endOfClause cX5_endOfClause 1 none) B.pre
  have hG : ∀ w ∈ GW, w.before (([.ref (a 0)] : List Value).toArray) s = true := fun w h => hts w (List.mem_cons_of_mem _ h)
  have hown : s.vm.findClass RX5 = some m.cls := findClass_of_methodNamed B.named
  have hlocks := B.notSynchronized
  subst hsz
  have hD := hD0.self (sz := s.heap.size)
  generalize hAe : va_A (kT cI a x) s.heap.size = A at hD ⊢
  have hA : ∀ q : Nat, s.heap.size ≤ q → A q := fun q h => by rw [← hAe]; exact Or.inr h
  have hS : va_S A s.heap s.heap [] := va_S.rf
  have hl := lv_entry ([.ref (a 0)]) (n := 1) (Nat.le_of_ble_eq_true rfl)
  rw [lg_entry_eq]
  generalize (lg_sl ([.ref (a 0)]) ++ List.replicate (1 - (lg_sl ([.ref (a 0)])).length) Slot.unset).toArray = ls at hl ⊢
  have hl : lv_has ls 1 [(0, .ref (a 0))] := hl
  show W p l e RM_X5_endOfClause s m (([.ref (a 0)] : List Value).toArray) below meth c s.heap [] 0 0 (MQ below (QV D A (fun (u : HC) => (kT cI a u)) r) (([.ref (a 0)] : List Value).toArray) s 0 0 A) (F0 m 0 ls [])
  refine lv_aload_n hx hb dX5_endOfClause_0 rfl (lv_at hl 0 rfl) ?_
  obtain ⟨q1, hq1, hf⟩ := bd_x hf
  have hFc := freeS hD hS hA
  refine va_callv (va_runV (As := []) (rest := []) ⟨hx, hb, hml, hown, hG⟩ (c_X5_skipBlanks l D cI cZ a x s.heap.size hq1) (cwV 0 hG (gV g_256 g_257 g_0 g_71 g_258) rfl rfl rfl (by decide +kernel) ⟨Nat.le_of_ble_eq_true rfl, Nat.le_of_ble_eq_true rfl⟩) ⟨pre_blind, va_recv hK hP (ci := 5) (q0 := 0) rfl rfl, fun U hU hW => ⟨rfl, pre_of hP hK hD hnw hU hW⟩⟩ rfl rfl hl.1 rfl (lv_room (Nat.le_of_ble_eq_true rfl)) dX5_endOfClause_1 ⟨Nat.le_of_ble_eq_true rfl, Nat.le_of_ble_eq_true rfl⟩) hS (fun q _ h => hFc q h) hFc (fun u t H locs ht hvm hw hB hz1 hk1 hS => ?_)
  have hw := hw.symm; subst hw
  obtain ⟨hP1, hD1⟩ := hB
  rw [ht] at hP1
  have hP := hP1
  have hD := hD1.weaken (fun _ q _ h => hFc q.1 h)
  refine lv_aload_n hx hb dX5_endOfClause_4 rfl (lv_at hl 0 rfl) ?_
  refine va_get (D := D) (ci := 5) (v := .int (q1 0 2)) (C := RX5) (T := TX5) (N := 6) hx hb hG inG5 hown hK hP 0 at_T_0_0 rfl 2 (by decide) (hG _ g_96) (fun _ h9 => h9) rfl dX5_endOfClause_5 ?_
  refine lv_aload_n hx hb dX5_endOfClause_8 rfl (lv_at hl 0 rfl) ?_
  refine va_get (D := D) (ci := 5) (v := .int (q1 0 1)) (C := RX5) (T := TX5) (N := 6) hx hb hG inG5 hown hK hP 0 at_T_0_0 rfl 1 (by decide) (hG _ g_94) (fun _ h9 => h9) rfl dX5_endOfClause_9 ?_
  have J42 : ∀  (H : Heap) (locs : List Loc) (ls : Array Slot), va_P D vwCl (kT cI a q1) H → va_D A (kT cI a q1) → va_S A s.heap H locs → lv_has ls 1 [(0, .ref (a 0))] → f_X5_endOfClause_j42 q1  = some r → W p l e RM_X5_endOfClause s m (([.ref (a 0)] : List Value).toArray) below meth c H locs 0 0 (MQ below (QV D A (fun (u : HC) => (kT cI a u)) r) (([.ref (a 0)] : List Value).toArray) s 0 0 A) (F0 m 42 ls []) := by
    intro  H locs ls hP hD hS hl hf
    unfold f_X5_endOfClause_j42 at hf
    refine lv_aload_n hx hb dX5_endOfClause_42 rfl (lv_at hl 0 rfl) ?_
    refine lv_iconst (v := (1 : Int32)) hx hb dX5_endOfClause_43 (by decide) ?_
    refine lv_aload_n hx hb dX5_endOfClause_44 rfl (lv_at hl 0 rfl) ?_
    refine va_get (D := D) (ci := 5) (v := .int (q1 0 2)) (C := RX5) (T := TX5) (N := 6) hx hb hG inG5 hown hK hP 0 at_T_0_0 rfl 2 (by decide) (hG _ g_96) (fun _ h9 => h9) rfl dX5_endOfClause_45 ?_
    obtain ⟨q2, hq2, hf⟩ := bd_x hf
    have hFc := freeS hD hS hA
    refine va_callv (va_runV (As := [.int (1 : Int32), .int (q1 0 2)]) (rest := []) ⟨hx, hb, hml, hown, hG⟩ (c_X5_fail l D cI cZ a q1 (1 : Int32) (q1 0 2) H.size hq2) (cwV 2 hG (gV g_262 g_263 g_2 g_71 g_264) rfl rfl rfl (by decide +kernel) ⟨Nat.le_of_ble_eq_true rfl, Nat.le_of_ble_eq_true rfl⟩) ⟨pre_blind, va_recv hK hP (ci := 5) (q0 := 0) rfl rfl, fun U hU hW => ⟨rfl, pre_of hP hK hD hnw hU hW⟩⟩ rfl rfl hl.1 rfl (lv_room (Nat.le_of_ble_eq_true rfl)) dX5_endOfClause_48 ⟨Nat.le_of_ble_eq_true rfl, Nat.le_of_ble_eq_true rfl⟩) hS (fun q _ h => hFc q h) hFc (fun u t H locs ht hvm hw hB hz1 hk1 hS => ?_)
    have hw := hw.symm; subst hw
    obtain ⟨hP1, hD1⟩ := hB
    rw [ht] at hP1
    have hP := hP1
    have hD := hD1.weaken (fun _ q _ h => hFc q.1 h)
    exact W.vret hx hb hr (fun t ht hW => ⟨⟨q2, rfl, Option.some.inj hf, by rw [ht]; exact hP, hD⟩, hS.F ht⟩) hS.2.2 dX5_endOfClause_51
  refine lv_icmp_ge (tgt := 42) hx hb dX5_endOfClause_12 (by decide) (fun cc12 => ?_) (fun cc12 => ?_)
  · have hf := if_t cc12 hf
    exact J42  _ _ _ hP hD hS (lv_sub hl [0] rfl) hf
  · have hf := if_f cc12 hf
    refine lv_aload_n hx hb dX5_endOfClause_15 rfl (lv_at hl 0 rfl) ?_
    refine va_get (D := D) (ci := 5) (v := .ref (a 1)) (C := RX5) (T := TX5) (N := 6) hx hb hG inG5 hown hK hP 0 at_T_0_0 rfl 0 (by decide) (hG _ g_93) (fun _ h9 => h9) rfl dX5_endOfClause_16 ?_
    refine lv_aload_n hx hb dX5_endOfClause_19 rfl (lv_at hl 0 rfl) ?_
    refine va_get (D := D) (ci := 5) (v := .int (q1 0 2)) (C := RX5) (T := TX5) (N := 6) hx hb hG inG5 hown hK hP 0 at_T_0_0 rfl 2 (by decide) (hG _ g_96) (fun _ h9 => h9) rfl dX5_endOfClause_20 ?_
    obtain ⟨hb23, hf⟩ := gd hf
    refine va_iald (cA := cI) (n := 250) (f := q1 1) hx hb hK hP 1 0 at_T_0_1 rfl (inb_in hb23) dX5_endOfClause_23 ?_
    refine lv_bipush (v := (59 : Int32)) hx hb dX5_endOfClause_24 (by decide) ?_
    refine lv_icmp_ne (tgt := 42) hx hb dX5_endOfClause_26 (by decide) (fun cc26 => ?_) (fun cc26 => ?_)
    · have hf := if_f cc26 hf
      exact J42  _ _ _ hP hD hS (lv_sub hl [0] rfl) hf
    · have hf := if_t cc26 hf
      refine lv_aload_n hx hb dX5_endOfClause_29 rfl (lv_at hl 0 rfl) ?_
      refine lv_dup hx hb dX5_endOfClause_30 rfl ?_
      refine va_get (D := D) (ci := 5) (v := .int (q1 0 2)) (C := RX5) (T := TX5) (N := 6) hx hb hG inG5 hown hK hP 0 at_T_0_0 rfl 2 (by decide) (hG _ g_96) (fun _ h9 => h9) rfl dX5_endOfClause_31 ?_
      refine lv_iconst (v := (1 : Int32)) hx hb dX5_endOfClause_34 (by decide) ?_
      refine lv_iadd hx hb dX5_endOfClause_35 ?_
      refine va_put (D := D) (ci := 5) (v := .int ((q1 0 2) + (1 : Int32))) (ty := .int) (C := RX5) (T := TX5) (N := 6) hx hb hG inG5 tyX5 tyX5_ok nmX5 hown hK hP hD hS 0 at_T_0_0 rfl 2 (by decide) (hG _ g_96) (fun _ h9 => h9) rfl (by decide +kernel) rfl rfl (Nat.le_of_ble_eq_true rfl) dX5_endOfClause_36 (fun H locs hP hD hS => ?_)
      obtain ⟨X3, eX3⟩ : ∃ y : HC, y = (sf q1 2 ((q1 0 2) + (1 : Int32))) := ⟨_, rfl⟩
      have hf := nm_x eX3 hf
      have hP := wP (sf_T_0_2.trans (congrArg (fun z : HC => (kT cI a z)) eX3.symm)) hP
      have hD := wD (sf_T_0_2.trans (congrArg (fun z : HC => (kT cI a z)) eX3.symm)) hD
      refine lv_goto (tgt := 51) hx hb dX5_endOfClause_39 (by decide) ?_
      exact W.vret hx hb hr (fun t ht hW => ⟨⟨X3, rfl, Option.some.inj hf, by rw [ht]; exact hP, hD⟩, hS.F ht⟩) hS.2.2 dX5_endOfClause_51
def f_X5_peopleClause (x : HC) (x1 : HC) : Option (HC × HC) := (if (x1 0 0) ≤ 0 then nm (sf x 2 ((x 0 2) + (1 : Int32))) (fun (X1 : HC) => bd (f_X5_number X1 (1 : Int32) (6 : Int32)) (fun (q2 : Int32 × HC) => nm q2.1 (fun (v3 : Int32) => bd (f_X5_endOfClause q2.2) (fun (q4 : HC) => nm (sf x1 0 v3) (fun (X5 : HC) => some (q4, X5)))))) else bd (f_X5_fail x (3 : Int32) (x 0 2)) (fun (q6 : HC) => some (q6, x1)))
abbrev RM_X5_peopleClause : Room := { frames := 2, cells := 0, slots := 0, locals := 46 }
set_option maxHeartbeats 4000000 in
set_option maxRecDepth 100000 in
theorem c_X5_peopleClause (l : Launch) (D : va_G) (cI cZ : ClassId) (a a1 : Nat → Nat) (x : HC) (x1 : HC) (sz : Nat) {r : HC × HC} (hf : f_X5_peopleClause x x1 = some r) : Met l yX5_peopleClause (wM yX5_peopleClause cX5_peopleClause 3 none) RM_X5_peopleClause (va_Pc [.ref (a 0), .ref (a1 0)] (pre D cI cZ (kT cI a x ++ (kL cI a1 x1)) sz)) (QV D (va_A (kT cI a x ++ (kL cI a1 x1)) sz) (fun (u : HC × HC) => (kT cI a u.1 ++ (kL cI a1 u.2))) r) 0 0 (va_A (kT cI a x ++ (kL cI a1 x1)) sz) := by
  unfold f_X5_peopleClause at hf
  refine Met.ofW (cc := cX5_peopleClause) (maxL := 3) (ret := none) (by decide) rfl ?_
  intro p e s m args below meth c s₁ B hml hv
  obtain ⟨rfl, hsz, hP, hK, hD0, hnw⟩ := hv
  have hx := B.exec
  have hb := B.bytes
  have hr := B.returns
  have hts := atoms_spec (ws := wM yX5_peopleClause cX5_peopleClause 3 none) B.pre
  have hG : ∀ w ∈ GW, w.before (([.ref (a 0), .ref (a1 0)] : List Value).toArray) s = true := fun w h => hts w (List.mem_cons_of_mem _ h)
  have hown : s.vm.findClass RX5 = some m.cls := findClass_of_methodNamed B.named
  have hlocks := B.notSynchronized
  subst hsz
  have hD := hD0.self (sz := s.heap.size)
  generalize hAe : va_A (kT cI a x ++ (kL cI a1 x1)) s.heap.size = A at hD ⊢
  have hA : ∀ q : Nat, s.heap.size ≤ q → A q := fun q h => by rw [← hAe]; exact Or.inr h
  have hS : va_S A s.heap s.heap [] := va_S.rf
  have hl := lv_entry ([.ref (a 0), .ref (a1 0)]) (n := 3) (Nat.le_of_ble_eq_true rfl)
  rw [lg_entry_eq]
  generalize (lg_sl ([.ref (a 0), .ref (a1 0)]) ++ List.replicate (3 - (lg_sl ([.ref (a 0), .ref (a1 0)])).length) Slot.unset).toArray = ls at hl ⊢
  have hl : lv_has ls 3 [(0, .ref (a 0)), (1, .ref (a1 0))] := hl
  show W p l e RM_X5_peopleClause s m (([.ref (a 0), .ref (a1 0)] : List Value).toArray) below meth c s.heap [] 0 0 (MQ below (QV D A (fun (u : HC × HC) => (kT cI a u.1 ++ (kL cI a1 u.2))) r) (([.ref (a 0), .ref (a1 0)] : List Value).toArray) s 0 0 A) (F0 m 0 ls [])
  refine lv_aload_n hx hb dX5_peopleClause_0 rfl (lv_at hl 1 rfl) ?_
  refine va_get (D := D) (ci := 2) (v := .int (x1 0 0)) (C := RX2) (T := TX2) (N := 18) hx hb hG inG2 hown hK hP 2 at_TL_1_0 rfl 0 (by decide) (hG _ g_111) (fun _ h9 => h9) rfl dX5_peopleClause_1 ?_
  refine lv_if_le (tgt := 17) hx hb dX5_peopleClause_4 (by decide) (fun cc4 => ?_) (fun cc4 => ?_)
  · have hf := if_t cc4 hf
    refine lv_aload_n hx hb dX5_peopleClause_17 rfl (lv_at hl 0 rfl) ?_
    refine lv_dup hx hb dX5_peopleClause_18 rfl ?_
    refine va_get (D := D) (ci := 5) (v := .int (x 0 2)) (C := RX5) (T := TX5) (N := 6) hx hb hG inG5 hown hK hP 0 at_TL_0_0 rfl 2 (by decide) (hG _ g_96) (fun _ h9 => h9) rfl dX5_peopleClause_19 ?_
    refine lv_iconst (v := (1 : Int32)) hx hb dX5_peopleClause_22 (by decide) ?_
    refine lv_iadd hx hb dX5_peopleClause_23 ?_
    refine va_put (D := D) (ci := 5) (v := .int ((x 0 2) + (1 : Int32))) (ty := .int) (C := RX5) (T := TX5) (N := 6) hx hb hG inG5 tyX5 tyX5_ok nmX5 hown hK hP hD hS 0 at_TL_0_0 rfl 2 (by decide) (hG _ g_96) (fun _ h9 => h9) rfl (by decide +kernel) rfl rfl (Nat.le_of_ble_eq_true rfl) dX5_peopleClause_24 (fun H locs hP hD hS => ?_)
    obtain ⟨X1, eX1⟩ : ∃ y : HC, y = (sf x 2 ((x 0 2) + (1 : Int32))) := ⟨_, rfl⟩
    have hf := nm_x eX1 hf
    have hP := wP (sf_TL_0_2.trans (congrArg (fun z : HC => (kT cI a z ++ (kL cI a1 x1))) eX1.symm)) hP
    have hD := wD (sf_TL_0_2.trans (congrArg (fun z : HC => (kT cI a z ++ (kL cI a1 x1))) eX1.symm)) hD
    refine lv_aload_n hx hb dX5_peopleClause_27 rfl (lv_at hl 0 rfl) ?_
    refine lv_iconst (v := (1 : Int32)) hx hb dX5_peopleClause_28 (by decide) ?_
    refine lv_bipush (v := (6 : Int32)) hx hb dX5_peopleClause_29 (by decide) ?_
    obtain ⟨q2, hq2, hf⟩ := bd_x hf
    have hPc := subP [0, 1] sub_TL_T_0 hP
    have hDc := va_D.sub hD [0, 1] rfl sub_TL_T_0
    have hFc := va_free hD hS hA [0, 1] sub_TL_T_0
    refine va_calli (va_runV (As := [.int (1 : Int32), .int (6 : Int32)]) (rest := []) ⟨hx, hb, hml, hown, hG⟩ (c_X5_number l D cI cZ a X1 (1 : Int32) (6 : Int32) H.size hq2) (cwV 2 hG (gV g_268 g_269 g_4 g_71 g_270) rfl rfl rfl (by decide +kernel) ⟨Nat.le_of_ble_eq_true rfl, Nat.le_of_ble_eq_true rfl⟩) ⟨pre_blind, va_recv hK hPc (ci := 5) (q0 := 0) rfl rfl, fun U hU hW => ⟨rfl, pre_of hPc hK hDc hnw hU hW⟩⟩ rfl rfl hl.1 rfl (lv_room (Nat.le_of_ble_eq_true rfl)) dX5_peopleClause_31 ⟨Nat.le_of_ble_eq_true rfl, Nat.le_of_ble_eq_true rfl⟩) hS (fun q _ h => hFc q h) hFc (fun v u t H locs ht hvm hw hB hz1 hk1 hS => ?_)
    obtain ⟨rfl, rfl⟩ := hw
    obtain ⟨hP1, hD1⟩ := hB
    rw [ht] at hP1
    obtain ⟨hP, hD⟩ := back hP hD [0, 1] sub_TL_T_0 rfl hk1 hFc hP1 hD1
    have hP := wP put_TL_T_0_0 hP
    have hD := wD put_TL_T_0_0 hD
    refine lv_topi (fun v3 ev3 => ?_)
    have hf := nm_x ev3 hf
    refine lv_istore_n (lv' := [(2, .int v3), (0, .ref (a 0)), (1, .ref (a1 0))]) hx hb dX5_peopleClause_34 rfl hl (by decide) rfl (fun ls hl => ?_)
    refine lv_aload_n hx hb dX5_peopleClause_35 rfl (lv_at hl 1 rfl) ?_
    obtain ⟨q4, hq4, hf⟩ := bd_x hf
    have hPc := subP [0, 1] sub_TL_T_0 hP
    have hDc := va_D.sub hD [0, 1] rfl sub_TL_T_0
    have hFc := va_free hD hS hA [0, 1] sub_TL_T_0
    refine va_callv (va_runV (As := []) (rest := []) ⟨hx, hb, hml, hown, hG⟩ (c_X5_endOfClause l D cI cZ a q2.2 H.size hq4) (cwV 0 hG (gV g_274 g_275 g_6 g_71 g_276) rfl rfl rfl (by decide +kernel) ⟨Nat.le_of_ble_eq_true rfl, Nat.le_of_ble_eq_true rfl⟩) ⟨pre_blind, va_recv hK hPc (ci := 5) (q0 := 0) rfl rfl, fun U hU hW => ⟨rfl, pre_of hPc hK hDc hnw hU hW⟩⟩ rfl rfl hl.1 rfl (lv_room (Nat.le_of_ble_eq_true rfl)) dX5_peopleClause_36 ⟨Nat.le_of_ble_eq_true rfl, Nat.le_of_ble_eq_true rfl⟩) hS (fun q _ h => hFc q h) hFc (fun u t H locs ht hvm hw hB hz1 hk1 hS => ?_)
    have hw := hw.symm; subst hw
    obtain ⟨hP1, hD1⟩ := hB
    rw [ht] at hP1
    obtain ⟨hP, hD⟩ := back hP hD [0, 1] sub_TL_T_0 rfl hk1 hFc hP1 hD1
    have hP := wP put_TL_T_0_0 hP
    have hD := wD put_TL_T_0_0 hD
    refine lv_aload_n hx hb dX5_peopleClause_39 rfl (lv_at hl 2 rfl) ?_
    refine lv_iload_n hx hb dX5_peopleClause_40 rfl (lv_at hl 0 rfl) ?_
    refine va_put (D := D) (ci := 2) (v := .int v3) (ty := .int) (C := RX2) (T := TX2) (N := 18) hx hb hG inG2 tyX2 tyX2_ok nmX2 hown hK hP hD hS 2 at_TL_1_0 rfl 0 (by decide) (hG _ g_111) (fun _ h9 => h9) rfl (by decide +kernel) rfl rfl (Nat.le_of_ble_eq_true rfl) dX5_peopleClause_41 (fun H locs hP hD hS => ?_)
    obtain ⟨X5, eX5⟩ : ∃ y : HC, y = (sf x1 0 v3) := ⟨_, rfl⟩
    have hf := nm_x eX5 hf
    have hP := wP (sf_TL_1_0.trans (congrArg (fun z : HC => (kT cI a q4 ++ (kL cI a1 z))) eX5.symm)) hP
    have hD := wD (sf_TL_1_0.trans (congrArg (fun z : HC => (kT cI a q4 ++ (kL cI a1 z))) eX5.symm)) hD
    exact W.vret hx hb hr (fun t ht hW => ⟨⟨(q4, X5), rfl, Option.some.inj hf, by rw [ht]; exact hP, hD⟩, hS.F ht⟩) hS.2.2 dX5_peopleClause_44
  · have hf := if_f cc4 hf
    refine lv_aload_n hx hb dX5_peopleClause_7 rfl (lv_at hl 0 rfl) ?_
    refine lv_iconst (v := (3 : Int32)) hx hb dX5_peopleClause_8 (by decide) ?_
    refine lv_aload_n hx hb dX5_peopleClause_9 rfl (lv_at hl 0 rfl) ?_
    refine va_get (D := D) (ci := 5) (v := .int (x 0 2)) (C := RX5) (T := TX5) (N := 6) hx hb hG inG5 hown hK hP 0 at_TL_0_0 rfl 2 (by decide) (hG _ g_96) (fun _ h9 => h9) rfl dX5_peopleClause_10 ?_
    obtain ⟨q6, hq6, hf⟩ := bd_x hf
    have hPc := subP [0, 1] sub_TL_T_0 hP
    have hDc := va_D.sub hD [0, 1] rfl sub_TL_T_0
    have hFc := va_free hD hS hA [0, 1] sub_TL_T_0
    refine va_callv (va_runV (As := [.int (3 : Int32), .int (x 0 2)]) (rest := []) ⟨hx, hb, hml, hown, hG⟩ (c_X5_fail l D cI cZ a x (3 : Int32) (x 0 2) s.heap.size hq6) (cwV 2 hG (gV g_262 g_263 g_2 g_71 g_264) rfl rfl rfl (by decide +kernel) ⟨Nat.le_of_ble_eq_true rfl, Nat.le_of_ble_eq_true rfl⟩) ⟨pre_blind, va_recv hK hPc (ci := 5) (q0 := 0) rfl rfl, fun U hU hW => ⟨rfl, pre_of hPc hK hDc hnw hU hW⟩⟩ rfl rfl hl.1 rfl (lv_room (Nat.le_of_ble_eq_true rfl)) dX5_peopleClause_13 ⟨Nat.le_of_ble_eq_true rfl, Nat.le_of_ble_eq_true rfl⟩) hS (fun q _ h => hFc q h) hFc (fun u t H locs ht hvm hw hB hz1 hk1 hS => ?_)
    have hw := hw.symm; subst hw
    obtain ⟨hP1, hD1⟩ := hB
    rw [ht] at hP1
    obtain ⟨hP, hD⟩ := back hP hD [0, 1] sub_TL_T_0 rfl hk1 hFc hP1 hD1
    have hP := wP put_TL_T_0_0 hP
    have hD := wD put_TL_T_0_0 hD
    exact W.vret hx hb hr (fun t ht hW => ⟨⟨(q6, x1), rfl, Option.some.inj hf, by rw [ht]; exact hP, hD⟩, hS.F ht⟩) hS.2.2 dX5_peopleClause_16
def f_X5_fighterClause (x : HC) (x1 : HC) : Option (HC × HC) := nm (x1 0 1) (fun (v1 : Int32) => (if v1 < (5 : Int32) then nm (sf x 2 ((x 0 2) + (1 : Int32))) (fun (X2 : HC) => bd (f_X5_number X2 (0 : Int32) (4 : Int32)) (fun (q3 : Int32 × HC) => (if inb v1 5 then nm (sa x1 1 v1 q3.1) (fun (X4 : HC) => bd (f_X5_number q3.2 (0 : Int32) (99 : Int32)) (fun (q5 : Int32 × HC) => (if inb v1 5 then nm (sa X4 2 v1 q5.1) (fun (X6 : HC) => bd (f_X5_number q5.2 (0 : Int32) (99 : Int32)) (fun (q7 : Int32 × HC) => (if inb v1 5 then nm (sa X6 3 v1 q7.1) (fun (X8 : HC) => bd (f_X5_endOfClause q7.2) (fun (q9 : HC) => nm (sf X8 1 (v1 + (1 : Int32))) (fun (X10 : HC) => some (q9, X10)))) else none))) else none))) else none))) else bd (f_X5_fail x (3 : Int32) (x 0 2)) (fun (q11 : HC) => some (q11, x1))))
abbrev RM_X5_fighterClause : Room := { frames := 2, cells := 0, slots := 0, locals := 46 }
set_option maxHeartbeats 4000000 in
set_option maxRecDepth 100000 in
theorem c_X5_fighterClause (l : Launch) (D : va_G) (cI cZ : ClassId) (a a1 : Nat → Nat) (x : HC) (x1 : HC) (sz : Nat) {r : HC × HC} (hf : f_X5_fighterClause x x1 = some r) : Met l yX5_fighterClause (wM yX5_fighterClause cX5_fighterClause 3 none) RM_X5_fighterClause (va_Pc [.ref (a 0), .ref (a1 0)] (pre D cI cZ (kT cI a x ++ (kL cI a1 x1)) sz)) (QV D (va_A (kT cI a x ++ (kL cI a1 x1)) sz) (fun (u : HC × HC) => (kT cI a u.1 ++ (kL cI a1 u.2))) r) 0 0 (va_A (kT cI a x ++ (kL cI a1 x1)) sz) := by
  unfold f_X5_fighterClause at hf
  refine Met.ofW (cc := cX5_fighterClause) (maxL := 3) (ret := none) (by decide) rfl ?_
  intro p e s m args below meth c s₁ B hml hv
  obtain ⟨rfl, hsz, hP, hK, hD0, hnw⟩ := hv
  have hx := B.exec
  have hb := B.bytes
  have hr := B.returns
  have hts := atoms_spec (ws := wM yX5_fighterClause cX5_fighterClause 3 none) B.pre
  have hG : ∀ w ∈ GW, w.before (([.ref (a 0), .ref (a1 0)] : List Value).toArray) s = true := fun w h => hts w (List.mem_cons_of_mem _ h)
  have hown : s.vm.findClass RX5 = some m.cls := findClass_of_methodNamed B.named
  have hlocks := B.notSynchronized
  subst hsz
  have hD := hD0.self (sz := s.heap.size)
  generalize hAe : va_A (kT cI a x ++ (kL cI a1 x1)) s.heap.size = A at hD ⊢
  have hA : ∀ q : Nat, s.heap.size ≤ q → A q := fun q h => by rw [← hAe]; exact Or.inr h
  have hS : va_S A s.heap s.heap [] := va_S.rf
  have hl := lv_entry ([.ref (a 0), .ref (a1 0)]) (n := 3) (Nat.le_of_ble_eq_true rfl)
  rw [lg_entry_eq]
  generalize (lg_sl ([.ref (a 0), .ref (a1 0)]) ++ List.replicate (3 - (lg_sl ([.ref (a 0), .ref (a1 0)])).length) Slot.unset).toArray = ls at hl ⊢
  have hl : lv_has ls 3 [(0, .ref (a 0)), (1, .ref (a1 0))] := hl
  show W p l e RM_X5_fighterClause s m (([.ref (a 0), .ref (a1 0)] : List Value).toArray) below meth c s.heap [] 0 0 (MQ below (QV D A (fun (u : HC × HC) => (kT cI a u.1 ++ (kL cI a1 u.2))) r) (([.ref (a 0), .ref (a1 0)] : List Value).toArray) s 0 0 A) (F0 m 0 ls [])
  refine lv_aload_n hx hb dX5_fighterClause_0 rfl (lv_at hl 1 rfl) ?_
  refine va_get (D := D) (ci := 2) (v := .int (x1 0 1)) (C := RX2) (T := TX2) (N := 18) hx hb hG inG2 hown hK hP 2 at_TL_1_0 rfl 1 (by decide) (hG _ g_115) (fun _ h9 => h9) rfl dX5_fighterClause_1 ?_
  refine lv_topi (fun v1 ev1 => ?_)
  have hf := nm_x ev1 hf
  refine lv_istore_n (lv' := [(2, .int v1), (0, .ref (a 0)), (1, .ref (a1 0))]) hx hb dX5_fighterClause_4 rfl hl (by decide) rfl (fun ls hl => ?_)
  refine lv_iload_n hx hb dX5_fighterClause_5 rfl (lv_at hl 0 rfl) ?_
  refine lv_iconst (v := (5 : Int32)) hx hb dX5_fighterClause_6 (by decide) ?_
  refine lv_icmp_lt (tgt := 20) hx hb dX5_fighterClause_7 (by decide) (fun cc7 => ?_) (fun cc7 => ?_)
  · have hf := if_t cc7 hf
    refine lv_aload_n hx hb dX5_fighterClause_20 rfl (lv_at hl 1 rfl) ?_
    refine lv_dup hx hb dX5_fighterClause_21 rfl ?_
    refine va_get (D := D) (ci := 5) (v := .int (x 0 2)) (C := RX5) (T := TX5) (N := 6) hx hb hG inG5 hown hK hP 0 at_TL_0_0 rfl 2 (by decide) (hG _ g_96) (fun _ h9 => h9) rfl dX5_fighterClause_22 ?_
    refine lv_iconst (v := (1 : Int32)) hx hb dX5_fighterClause_25 (by decide) ?_
    refine lv_iadd hx hb dX5_fighterClause_26 ?_
    refine va_put (D := D) (ci := 5) (v := .int ((x 0 2) + (1 : Int32))) (ty := .int) (C := RX5) (T := TX5) (N := 6) hx hb hG inG5 tyX5 tyX5_ok nmX5 hown hK hP hD hS 0 at_TL_0_0 rfl 2 (by decide) (hG _ g_96) (fun _ h9 => h9) rfl (by decide +kernel) rfl rfl (Nat.le_of_ble_eq_true rfl) dX5_fighterClause_27 (fun H locs hP hD hS => ?_)
    obtain ⟨X2, eX2⟩ : ∃ y : HC, y = (sf x 2 ((x 0 2) + (1 : Int32))) := ⟨_, rfl⟩
    have hf := nm_x eX2 hf
    have hP := wP (sf_TL_0_2.trans (congrArg (fun z : HC => (kT cI a z ++ (kL cI a1 x1))) eX2.symm)) hP
    have hD := wD (sf_TL_0_2.trans (congrArg (fun z : HC => (kT cI a z ++ (kL cI a1 x1))) eX2.symm)) hD
    refine lv_aload_n hx hb dX5_fighterClause_30 rfl (lv_at hl 2 rfl) ?_
    refine va_get (D := D) (ci := 2) (v := .ref (a1 1)) (C := RX2) (T := TX2) (N := 18) hx hb hG inG2 hown hK hP 2 at_TL_1_0 rfl 6 (by decide) (hG _ g_130) (fun _ h9 => h9) rfl dX5_fighterClause_31 ?_
    refine lv_iload_n hx hb dX5_fighterClause_34 rfl (lv_at hl 0 rfl) ?_
    refine lv_aload_n hx hb dX5_fighterClause_35 rfl (lv_at hl 1 rfl) ?_
    refine lv_iconst (v := (0 : Int32)) hx hb dX5_fighterClause_36 (by decide) ?_
    refine lv_iconst (v := (4 : Int32)) hx hb dX5_fighterClause_37 (by decide) ?_
    obtain ⟨q3, hq3, hf⟩ := bd_x hf
    have hPc := subP [0, 1] sub_TL_T_0 hP
    have hDc := va_D.sub hD [0, 1] rfl sub_TL_T_0
    have hFc := va_free hD hS hA [0, 1] sub_TL_T_0
    refine va_calli (va_runV (As := [.int (0 : Int32), .int (4 : Int32)]) (rest := [.int v1, .ref (a1 1)]) ⟨hx, hb, hml, hown, hG⟩ (c_X5_number l D cI cZ a X2 (0 : Int32) (4 : Int32) H.size hq3) (cwV 2 hG (gV g_268 g_269 g_4 g_71 g_270) rfl rfl rfl (by decide +kernel) ⟨Nat.le_of_ble_eq_true rfl, Nat.le_of_ble_eq_true rfl⟩) ⟨pre_blind, va_recv hK hPc (ci := 5) (q0 := 0) rfl rfl, fun U hU hW => ⟨rfl, pre_of hPc hK hDc hnw hU hW⟩⟩ rfl rfl hl.1 rfl (lv_room (Nat.le_of_ble_eq_true rfl)) dX5_fighterClause_38 ⟨Nat.le_of_ble_eq_true rfl, Nat.le_of_ble_eq_true rfl⟩) hS (fun q _ h => hFc q h) hFc (fun v u t H locs ht hvm hw hB hz1 hk1 hS => ?_)
    obtain ⟨rfl, rfl⟩ := hw
    obtain ⟨hP1, hD1⟩ := hB
    rw [ht] at hP1
    obtain ⟨hP, hD⟩ := back hP hD [0, 1] sub_TL_T_0 rfl hk1 hFc hP1 hD1
    have hP := wP put_TL_T_0_0 hP
    have hD := wD put_TL_T_0_0 hD
    obtain ⟨hb41, hf⟩ := gd hf
    refine va_iast (cA := cI) (n := 5) (f := x1 1) hx hb hK hP hD hS 3 0 at_TL_1_1 rfl (inb_in hb41) dX5_fighterClause_41 (fun H locs hP hD hS => ?_)
    obtain ⟨X4, eX4⟩ : ∃ y : HC, y = (sa x1 1 v1 q3.1) := ⟨_, rfl⟩
    have hf := nm_x eX4 hf
    have hP := wP (sa_TL_1_1.trans (congrArg (fun z : HC => (kT cI a q3.2 ++ (kL cI a1 z))) eX4.symm)) hP
    have hD := wD (sa_TL_1_1.trans (congrArg (fun z : HC => (kT cI a q3.2 ++ (kL cI a1 z))) eX4.symm)) hD
    refine lv_aload_n hx hb dX5_fighterClause_42 rfl (lv_at hl 2 rfl) ?_
    refine va_get (D := D) (ci := 2) (v := .ref (a1 2)) (C := RX2) (T := TX2) (N := 18) hx hb hG inG2 hown hK hP 2 at_TL_1_0 rfl 7 (by decide) (hG _ g_134) (fun _ h9 => h9) rfl dX5_fighterClause_43 ?_
    refine lv_iload_n hx hb dX5_fighterClause_46 rfl (lv_at hl 0 rfl) ?_
    refine lv_aload_n hx hb dX5_fighterClause_47 rfl (lv_at hl 1 rfl) ?_
    refine lv_iconst (v := (0 : Int32)) hx hb dX5_fighterClause_48 (by decide) ?_
    refine lv_bipush (v := (99 : Int32)) hx hb dX5_fighterClause_49 (by decide) ?_
    obtain ⟨q5, hq5, hf⟩ := bd_x hf
    have hPc := subP [0, 1] sub_TL_T_0 hP
    have hDc := va_D.sub hD [0, 1] rfl sub_TL_T_0
    have hFc := va_free hD hS hA [0, 1] sub_TL_T_0
    refine va_calli (va_runV (As := [.int (0 : Int32), .int (99 : Int32)]) (rest := [.int v1, .ref (a1 2)]) ⟨hx, hb, hml, hown, hG⟩ (c_X5_number l D cI cZ a q3.2 (0 : Int32) (99 : Int32) H.size hq5) (cwV 2 hG (gV g_268 g_269 g_4 g_71 g_270) rfl rfl rfl (by decide +kernel) ⟨Nat.le_of_ble_eq_true rfl, Nat.le_of_ble_eq_true rfl⟩) ⟨pre_blind, va_recv hK hPc (ci := 5) (q0 := 0) rfl rfl, fun U hU hW => ⟨rfl, pre_of hPc hK hDc hnw hU hW⟩⟩ rfl rfl hl.1 rfl (lv_room (Nat.le_of_ble_eq_true rfl)) dX5_fighterClause_51 ⟨Nat.le_of_ble_eq_true rfl, Nat.le_of_ble_eq_true rfl⟩) hS (fun q _ h => hFc q h) hFc (fun v u t H locs ht hvm hw hB hz1 hk1 hS => ?_)
    obtain ⟨rfl, rfl⟩ := hw
    obtain ⟨hP1, hD1⟩ := hB
    rw [ht] at hP1
    obtain ⟨hP, hD⟩ := back hP hD [0, 1] sub_TL_T_0 rfl hk1 hFc hP1 hD1
    have hP := wP put_TL_T_0_0 hP
    have hD := wD put_TL_T_0_0 hD
    obtain ⟨hb54, hf⟩ := gd hf
    refine va_iast (cA := cI) (n := 5) (f := X4 2) hx hb hK hP hD hS 4 0 at_TL_1_2 rfl (inb_in hb54) dX5_fighterClause_54 (fun H locs hP hD hS => ?_)
    obtain ⟨X6, eX6⟩ : ∃ y : HC, y = (sa X4 2 v1 q5.1) := ⟨_, rfl⟩
    have hf := nm_x eX6 hf
    have hP := wP (sa_TL_1_2.trans (congrArg (fun z : HC => (kT cI a q5.2 ++ (kL cI a1 z))) eX6.symm)) hP
    have hD := wD (sa_TL_1_2.trans (congrArg (fun z : HC => (kT cI a q5.2 ++ (kL cI a1 z))) eX6.symm)) hD
    refine lv_aload_n hx hb dX5_fighterClause_55 rfl (lv_at hl 2 rfl) ?_
    refine va_get (D := D) (ci := 2) (v := .ref (a1 3)) (C := RX2) (T := TX2) (N := 18) hx hb hG inG2 hown hK hP 2 at_TL_1_0 rfl 8 (by decide) (hG _ g_137) (fun _ h9 => h9) rfl dX5_fighterClause_56 ?_
    refine lv_iload_n hx hb dX5_fighterClause_59 rfl (lv_at hl 0 rfl) ?_
    refine lv_aload_n hx hb dX5_fighterClause_60 rfl (lv_at hl 1 rfl) ?_
    refine lv_iconst (v := (0 : Int32)) hx hb dX5_fighterClause_61 (by decide) ?_
    refine lv_bipush (v := (99 : Int32)) hx hb dX5_fighterClause_62 (by decide) ?_
    obtain ⟨q7, hq7, hf⟩ := bd_x hf
    have hPc := subP [0, 1] sub_TL_T_0 hP
    have hDc := va_D.sub hD [0, 1] rfl sub_TL_T_0
    have hFc := va_free hD hS hA [0, 1] sub_TL_T_0
    refine va_calli (va_runV (As := [.int (0 : Int32), .int (99 : Int32)]) (rest := [.int v1, .ref (a1 3)]) ⟨hx, hb, hml, hown, hG⟩ (c_X5_number l D cI cZ a q5.2 (0 : Int32) (99 : Int32) H.size hq7) (cwV 2 hG (gV g_268 g_269 g_4 g_71 g_270) rfl rfl rfl (by decide +kernel) ⟨Nat.le_of_ble_eq_true rfl, Nat.le_of_ble_eq_true rfl⟩) ⟨pre_blind, va_recv hK hPc (ci := 5) (q0 := 0) rfl rfl, fun U hU hW => ⟨rfl, pre_of hPc hK hDc hnw hU hW⟩⟩ rfl rfl hl.1 rfl (lv_room (Nat.le_of_ble_eq_true rfl)) dX5_fighterClause_64 ⟨Nat.le_of_ble_eq_true rfl, Nat.le_of_ble_eq_true rfl⟩) hS (fun q _ h => hFc q h) hFc (fun v u t H locs ht hvm hw hB hz1 hk1 hS => ?_)
    obtain ⟨rfl, rfl⟩ := hw
    obtain ⟨hP1, hD1⟩ := hB
    rw [ht] at hP1
    obtain ⟨hP, hD⟩ := back hP hD [0, 1] sub_TL_T_0 rfl hk1 hFc hP1 hD1
    have hP := wP put_TL_T_0_0 hP
    have hD := wD put_TL_T_0_0 hD
    obtain ⟨hb67, hf⟩ := gd hf
    refine va_iast (cA := cI) (n := 5) (f := X6 3) hx hb hK hP hD hS 5 0 at_TL_1_3 rfl (inb_in hb67) dX5_fighterClause_67 (fun H locs hP hD hS => ?_)
    obtain ⟨X8, eX8⟩ : ∃ y : HC, y = (sa X6 3 v1 q7.1) := ⟨_, rfl⟩
    have hf := nm_x eX8 hf
    have hP := wP (sa_TL_1_3.trans (congrArg (fun z : HC => (kT cI a q7.2 ++ (kL cI a1 z))) eX8.symm)) hP
    have hD := wD (sa_TL_1_3.trans (congrArg (fun z : HC => (kT cI a q7.2 ++ (kL cI a1 z))) eX8.symm)) hD
    refine lv_aload_n hx hb dX5_fighterClause_68 rfl (lv_at hl 1 rfl) ?_
    obtain ⟨q9, hq9, hf⟩ := bd_x hf
    have hPc := subP [0, 1] sub_TL_T_0 hP
    have hDc := va_D.sub hD [0, 1] rfl sub_TL_T_0
    have hFc := va_free hD hS hA [0, 1] sub_TL_T_0
    refine va_callv (va_runV (As := []) (rest := []) ⟨hx, hb, hml, hown, hG⟩ (c_X5_endOfClause l D cI cZ a q7.2 H.size hq9) (cwV 0 hG (gV g_274 g_275 g_6 g_71 g_276) rfl rfl rfl (by decide +kernel) ⟨Nat.le_of_ble_eq_true rfl, Nat.le_of_ble_eq_true rfl⟩) ⟨pre_blind, va_recv hK hPc (ci := 5) (q0 := 0) rfl rfl, fun U hU hW => ⟨rfl, pre_of hPc hK hDc hnw hU hW⟩⟩ rfl rfl hl.1 rfl (lv_room (Nat.le_of_ble_eq_true rfl)) dX5_fighterClause_69 ⟨Nat.le_of_ble_eq_true rfl, Nat.le_of_ble_eq_true rfl⟩) hS (fun q _ h => hFc q h) hFc (fun u t H locs ht hvm hw hB hz1 hk1 hS => ?_)
    have hw := hw.symm; subst hw
    obtain ⟨hP1, hD1⟩ := hB
    rw [ht] at hP1
    obtain ⟨hP, hD⟩ := back hP hD [0, 1] sub_TL_T_0 rfl hk1 hFc hP1 hD1
    have hP := wP put_TL_T_0_0 hP
    have hD := wD put_TL_T_0_0 hD
    refine lv_aload_n hx hb dX5_fighterClause_72 rfl (lv_at hl 2 rfl) ?_
    refine lv_iload_n hx hb dX5_fighterClause_73 rfl (lv_at hl 0 rfl) ?_
    refine lv_iconst (v := (1 : Int32)) hx hb dX5_fighterClause_74 (by decide) ?_
    refine lv_iadd hx hb dX5_fighterClause_75 ?_
    refine va_put (D := D) (ci := 2) (v := .int (v1 + (1 : Int32))) (ty := .int) (C := RX2) (T := TX2) (N := 18) hx hb hG inG2 tyX2 tyX2_ok nmX2 hown hK hP hD hS 2 at_TL_1_0 rfl 1 (by decide) (hG _ g_115) (fun _ h9 => h9) rfl (by decide +kernel) rfl rfl (Nat.le_of_ble_eq_true rfl) dX5_fighterClause_76 (fun H locs hP hD hS => ?_)
    obtain ⟨X10, eX10⟩ : ∃ y : HC, y = (sf X8 1 (v1 + (1 : Int32))) := ⟨_, rfl⟩
    have hf := nm_x eX10 hf
    have hP := wP (sf_TL_1_1.trans (congrArg (fun z : HC => (kT cI a q9 ++ (kL cI a1 z))) eX10.symm)) hP
    have hD := wD (sf_TL_1_1.trans (congrArg (fun z : HC => (kT cI a q9 ++ (kL cI a1 z))) eX10.symm)) hD
    exact W.vret hx hb hr (fun t ht hW => ⟨⟨(q9, X10), rfl, Option.some.inj hf, by rw [ht]; exact hP, hD⟩, hS.F ht⟩) hS.2.2 dX5_fighterClause_79
  · have hf := if_f cc7 hf
    refine lv_aload_n hx hb dX5_fighterClause_10 rfl (lv_at hl 1 rfl) ?_
    refine lv_iconst (v := (3 : Int32)) hx hb dX5_fighterClause_11 (by decide) ?_
    refine lv_aload_n hx hb dX5_fighterClause_12 rfl (lv_at hl 1 rfl) ?_
    refine va_get (D := D) (ci := 5) (v := .int (x 0 2)) (C := RX5) (T := TX5) (N := 6) hx hb hG inG5 hown hK hP 0 at_TL_0_0 rfl 2 (by decide) (hG _ g_96) (fun _ h9 => h9) rfl dX5_fighterClause_13 ?_
    obtain ⟨q11, hq11, hf⟩ := bd_x hf
    have hPc := subP [0, 1] sub_TL_T_0 hP
    have hDc := va_D.sub hD [0, 1] rfl sub_TL_T_0
    have hFc := va_free hD hS hA [0, 1] sub_TL_T_0
    refine va_callv (va_runV (As := [.int (3 : Int32), .int (x 0 2)]) (rest := []) ⟨hx, hb, hml, hown, hG⟩ (c_X5_fail l D cI cZ a x (3 : Int32) (x 0 2) s.heap.size hq11) (cwV 2 hG (gV g_262 g_263 g_2 g_71 g_264) rfl rfl rfl (by decide +kernel) ⟨Nat.le_of_ble_eq_true rfl, Nat.le_of_ble_eq_true rfl⟩) ⟨pre_blind, va_recv hK hPc (ci := 5) (q0 := 0) rfl rfl, fun U hU hW => ⟨rfl, pre_of hPc hK hDc hnw hU hW⟩⟩ rfl rfl hl.1 rfl (lv_room (Nat.le_of_ble_eq_true rfl)) dX5_fighterClause_16 ⟨Nat.le_of_ble_eq_true rfl, Nat.le_of_ble_eq_true rfl⟩) hS (fun q _ h => hFc q h) hFc (fun u t H locs ht hvm hw hB hz1 hk1 hS => ?_)
    have hw := hw.symm; subst hw
    obtain ⟨hP1, hD1⟩ := hB
    rw [ht] at hP1
    obtain ⟨hP, hD⟩ := back hP hD [0, 1] sub_TL_T_0 rfl hk1 hFc hP1 hD1
    have hP := wP put_TL_T_0_0 hP
    have hD := wD put_TL_T_0_0 hD
    exact W.vret hx hb hr (fun t ht hW => ⟨⟨(q11, x1), rfl, Option.some.inj hf, by rw [ht]; exact hP, hD⟩, hS.F ht⟩) hS.2.2 dX5_fighterClause_19
def f_X5_chatClause_j80 (x1 : HC) (v3 : Int32) (v5 : Int32) (X6 : HC) : Option (HC × HC) := bd (f_X5_endOfClause X6) (fun (q7 : HC) => (if inb v3 6 then (if inb v3 6 then nm (sa x1 4 v3 ((x1 4 (Int32.toNatClampNeg v3)) ||| ((1 : Int32) <<< (v5 &&& 31)))) (fun (X8 : HC) => (if inb v5 6 then (if inb v5 6 then nm (sa X8 4 v5 ((X8 4 (Int32.toNatClampNeg v5)) ||| ((1 : Int32) <<< (v3 &&& 31)))) (fun (X9 : HC) => nm (sf X9 2 ((X9 0 2) + (1 : Int32))) (fun (X10 : HC) => some (q7, X10))) else none) else none)) else none) else none))
def f_X5_chatClause_j71 (x1 : HC) (v3 : Int32) (q4 : Int32 × HC) (v5 : Int32)  : Option (HC × HC) := bd (f_X5_fail q4.2 (4 : Int32) (q4.2 0 3)) (fun (q11 : HC) => f_X5_chatClause_j80 x1 v3 v5 q11)
def f_X5_chatClause (x : HC) (x1 : HC) : Option (HC × HC) := (if (x1 0 2) < (10 : Int32) then nm (sf x 2 ((x 0 2) + (1 : Int32))) (fun (X1 : HC) => bd (f_X5_number X1 (0 : Int32) ((x1 0 0) - (1 : Int32))) (fun (q2 : Int32 × HC) => nm q2.1 (fun (v3 : Int32) => bd (f_X5_number q2.2 (0 : Int32) ((x1 0 0) - (1 : Int32))) (fun (q4 : Int32 × HC) => nm q4.1 (fun (v5 : Int32) => (if v3 = v5 then f_X5_chatClause_j71 x1 v3 q4 v5 else (if inb v3 6 then bd (f_X6_has (x1 4 (Int32.toNatClampNeg v3)) v5) (fun (q12 : Int32) => (if q12 = 0 then f_X5_chatClause_j80 x1 v3 v5 q4.2 else f_X5_chatClause_j71 x1 v3 q4 v5)) else none))))))) else bd (f_X5_fail x (3 : Int32) (x 0 2)) (fun (q13 : HC) => some (q13, x1)))
abbrev RM_X5_chatClause : Room := { frames := 2, cells := 0, slots := 0, locals := 46 }
set_option maxHeartbeats 4000000 in
set_option maxRecDepth 100000 in
theorem c_X5_chatClause (l : Launch) (D : va_G) (cI cZ : ClassId) (a a1 : Nat → Nat) (x : HC) (x1 : HC) (sz : Nat) {r : HC × HC} (hf : f_X5_chatClause x x1 = some r) : Met l yX5_chatClause (wM yX5_chatClause cX5_chatClause 4 none) RM_X5_chatClause (va_Pc [.ref (a 0), .ref (a1 0)] (pre D cI cZ (kT cI a x ++ (kL cI a1 x1)) sz)) (QV D (va_A (kT cI a x ++ (kL cI a1 x1)) sz) (fun (u : HC × HC) => (kT cI a u.1 ++ (kL cI a1 u.2))) r) 0 0 (va_A (kT cI a x ++ (kL cI a1 x1)) sz) := by
  unfold f_X5_chatClause at hf
  refine Met.ofW (cc := cX5_chatClause) (maxL := 4) (ret := none) (by decide) rfl ?_
  intro p e s m args below meth c s₁ B hml hv
  obtain ⟨rfl, hsz, hP, hK, hD0, hnw⟩ := hv
  have hx := B.exec
  have hb := B.bytes
  have hr := B.returns
  have hts := atoms_spec (ws := wM yX5_chatClause cX5_chatClause 4 none) B.pre
  have hG : ∀ w ∈ GW, w.before (([.ref (a 0), .ref (a1 0)] : List Value).toArray) s = true := fun w h => hts w (List.mem_cons_of_mem _ h)
  have hown : s.vm.findClass RX5 = some m.cls := findClass_of_methodNamed B.named
  have hlocks := B.notSynchronized
  subst hsz
  have hD := hD0.self (sz := s.heap.size)
  generalize hAe : va_A (kT cI a x ++ (kL cI a1 x1)) s.heap.size = A at hD ⊢
  have hA : ∀ q : Nat, s.heap.size ≤ q → A q := fun q h => by rw [← hAe]; exact Or.inr h
  have hS : va_S A s.heap s.heap [] := va_S.rf
  have hl := lv_entry ([.ref (a 0), .ref (a1 0)]) (n := 4) (Nat.le_of_ble_eq_true rfl)
  rw [lg_entry_eq]
  generalize (lg_sl ([.ref (a 0), .ref (a1 0)]) ++ List.replicate (4 - (lg_sl ([.ref (a 0), .ref (a1 0)])).length) Slot.unset).toArray = ls at hl ⊢
  have hl : lv_has ls 4 [(0, .ref (a 0)), (1, .ref (a1 0))] := hl
  show W p l e RM_X5_chatClause s m (([.ref (a 0), .ref (a1 0)] : List Value).toArray) below meth c s.heap [] 0 0 (MQ below (QV D A (fun (u : HC × HC) => (kT cI a u.1 ++ (kL cI a1 u.2))) r) (([.ref (a 0), .ref (a1 0)] : List Value).toArray) s 0 0 A) (F0 m 0 ls [])
  refine lv_aload_n hx hb dX5_chatClause_0 rfl (lv_at hl 1 rfl) ?_
  refine va_get (D := D) (ci := 2) (v := .int (x1 0 2)) (C := RX2) (T := TX2) (N := 18) hx hb hG inG2 hown hK hP 2 at_TL_1_0 rfl 2 (by decide) (hG _ g_118) (fun _ h9 => h9) rfl dX5_chatClause_1 ?_
  refine lv_bipush (v := (10 : Int32)) hx hb dX5_chatClause_4 (by decide) ?_
  refine lv_icmp_lt (tgt := 19) hx hb dX5_chatClause_6 (by decide) (fun cc6 => ?_) (fun cc6 => ?_)
  · have hf := if_t cc6 hf
    refine lv_aload_n hx hb dX5_chatClause_19 rfl (lv_at hl 0 rfl) ?_
    refine lv_dup hx hb dX5_chatClause_20 rfl ?_
    refine va_get (D := D) (ci := 5) (v := .int (x 0 2)) (C := RX5) (T := TX5) (N := 6) hx hb hG inG5 hown hK hP 0 at_TL_0_0 rfl 2 (by decide) (hG _ g_96) (fun _ h9 => h9) rfl dX5_chatClause_21 ?_
    refine lv_iconst (v := (1 : Int32)) hx hb dX5_chatClause_24 (by decide) ?_
    refine lv_iadd hx hb dX5_chatClause_25 ?_
    refine va_put (D := D) (ci := 5) (v := .int ((x 0 2) + (1 : Int32))) (ty := .int) (C := RX5) (T := TX5) (N := 6) hx hb hG inG5 tyX5 tyX5_ok nmX5 hown hK hP hD hS 0 at_TL_0_0 rfl 2 (by decide) (hG _ g_96) (fun _ h9 => h9) rfl (by decide +kernel) rfl rfl (Nat.le_of_ble_eq_true rfl) dX5_chatClause_26 (fun H locs hP hD hS => ?_)
    obtain ⟨X1, eX1⟩ : ∃ y : HC, y = (sf x 2 ((x 0 2) + (1 : Int32))) := ⟨_, rfl⟩
    have hf := nm_x eX1 hf
    have hP := wP (sf_TL_0_2.trans (congrArg (fun z : HC => (kT cI a z ++ (kL cI a1 x1))) eX1.symm)) hP
    have hD := wD (sf_TL_0_2.trans (congrArg (fun z : HC => (kT cI a z ++ (kL cI a1 x1))) eX1.symm)) hD
    refine lv_aload_n hx hb dX5_chatClause_29 rfl (lv_at hl 0 rfl) ?_
    refine lv_iconst (v := (0 : Int32)) hx hb dX5_chatClause_30 (by decide) ?_
    refine lv_aload_n hx hb dX5_chatClause_31 rfl (lv_at hl 1 rfl) ?_
    refine va_get (D := D) (ci := 2) (v := .int (x1 0 0)) (C := RX2) (T := TX2) (N := 18) hx hb hG inG2 hown hK hP 2 at_TL_1_0 rfl 0 (by decide) (hG _ g_111) (fun _ h9 => h9) rfl dX5_chatClause_32 ?_
    refine lv_iconst (v := (1 : Int32)) hx hb dX5_chatClause_35 (by decide) ?_
    refine lv_isub hx hb dX5_chatClause_36 ?_
    obtain ⟨q2, hq2, hf⟩ := bd_x hf
    have hPc := subP [0, 1] sub_TL_T_0 hP
    have hDc := va_D.sub hD [0, 1] rfl sub_TL_T_0
    have hFc := va_free hD hS hA [0, 1] sub_TL_T_0
    refine va_calli (va_runV (As := [.int (0 : Int32), .int ((x1 0 0) - (1 : Int32))]) (rest := []) ⟨hx, hb, hml, hown, hG⟩ (c_X5_number l D cI cZ a X1 (0 : Int32) ((x1 0 0) - (1 : Int32)) H.size hq2) (cwV 2 hG (gV g_268 g_269 g_4 g_71 g_270) rfl rfl rfl (by decide +kernel) ⟨Nat.le_of_ble_eq_true rfl, Nat.le_of_ble_eq_true rfl⟩) ⟨pre_blind, va_recv hK hPc (ci := 5) (q0 := 0) rfl rfl, fun U hU hW => ⟨rfl, pre_of hPc hK hDc hnw hU hW⟩⟩ rfl rfl hl.1 rfl (lv_room (Nat.le_of_ble_eq_true rfl)) dX5_chatClause_37 ⟨Nat.le_of_ble_eq_true rfl, Nat.le_of_ble_eq_true rfl⟩) hS (fun q _ h => hFc q h) hFc (fun v u t H locs ht hvm hw hB hz1 hk1 hS => ?_)
    obtain ⟨rfl, rfl⟩ := hw
    obtain ⟨hP1, hD1⟩ := hB
    rw [ht] at hP1
    obtain ⟨hP, hD⟩ := back hP hD [0, 1] sub_TL_T_0 rfl hk1 hFc hP1 hD1
    have hP := wP put_TL_T_0_0 hP
    have hD := wD put_TL_T_0_0 hD
    refine lv_topi (fun v3 ev3 => ?_)
    have hf := nm_x ev3 hf
    refine lv_istore_n (lv' := [(2, .int v3), (0, .ref (a 0)), (1, .ref (a1 0))]) hx hb dX5_chatClause_40 rfl hl (by decide) rfl (fun ls hl => ?_)
    refine lv_aload_n hx hb dX5_chatClause_41 rfl (lv_at hl 1 rfl) ?_
    refine lv_iconst (v := (0 : Int32)) hx hb dX5_chatClause_42 (by decide) ?_
    refine lv_aload_n hx hb dX5_chatClause_43 rfl (lv_at hl 2 rfl) ?_
    refine va_get (D := D) (ci := 2) (v := .int (x1 0 0)) (C := RX2) (T := TX2) (N := 18) hx hb hG inG2 hown hK hP 2 at_TL_1_0 rfl 0 (by decide) (hG _ g_111) (fun _ h9 => h9) rfl dX5_chatClause_44 ?_
    refine lv_iconst (v := (1 : Int32)) hx hb dX5_chatClause_47 (by decide) ?_
    refine lv_isub hx hb dX5_chatClause_48 ?_
    obtain ⟨q4, hq4, hf⟩ := bd_x hf
    have hPc := subP [0, 1] sub_TL_T_0 hP
    have hDc := va_D.sub hD [0, 1] rfl sub_TL_T_0
    have hFc := va_free hD hS hA [0, 1] sub_TL_T_0
    refine va_calli (va_runV (As := [.int (0 : Int32), .int ((x1 0 0) - (1 : Int32))]) (rest := []) ⟨hx, hb, hml, hown, hG⟩ (c_X5_number l D cI cZ a q2.2 (0 : Int32) ((x1 0 0) - (1 : Int32)) H.size hq4) (cwV 2 hG (gV g_268 g_269 g_4 g_71 g_270) rfl rfl rfl (by decide +kernel) ⟨Nat.le_of_ble_eq_true rfl, Nat.le_of_ble_eq_true rfl⟩) ⟨pre_blind, va_recv hK hPc (ci := 5) (q0 := 0) rfl rfl, fun U hU hW => ⟨rfl, pre_of hPc hK hDc hnw hU hW⟩⟩ rfl rfl hl.1 rfl (lv_room (Nat.le_of_ble_eq_true rfl)) dX5_chatClause_49 ⟨Nat.le_of_ble_eq_true rfl, Nat.le_of_ble_eq_true rfl⟩) hS (fun q _ h => hFc q h) hFc (fun v u t H locs ht hvm hw hB hz1 hk1 hS => ?_)
    obtain ⟨rfl, rfl⟩ := hw
    obtain ⟨hP1, hD1⟩ := hB
    rw [ht] at hP1
    obtain ⟨hP, hD⟩ := back hP hD [0, 1] sub_TL_T_0 rfl hk1 hFc hP1 hD1
    have hP := wP put_TL_T_0_0 hP
    have hD := wD put_TL_T_0_0 hD
    refine lv_topi (fun v5 ev5 => ?_)
    have hf := nm_x ev5 hf
    refine lv_istore_n (lv' := [(3, .int v5), (2, .int v3), (0, .ref (a 0)), (1, .ref (a1 0))]) hx hb dX5_chatClause_52 rfl hl (by decide) rfl (fun ls hl => ?_)
    refine lv_iload_n hx hb dX5_chatClause_53 rfl (lv_at hl 1 rfl) ?_
    refine lv_iload_n hx hb dX5_chatClause_54 rfl (lv_at hl 0 rfl) ?_
    have J80 : ∀ (X6 : HC) (H : Heap) (locs : List Loc) (ls : Array Slot), va_P D vwCl (kT cI a X6 ++ (kL cI a1 x1)) H → va_D A (kT cI a X6 ++ (kL cI a1 x1)) → va_S A s.heap H locs → lv_has ls 4 [(0, .ref (a 0)), (1, .ref (a1 0)), (2, .int v3), (3, .int v5)] → f_X5_chatClause_j80 x1 v3 v5 X6 = some r → W p l e RM_X5_chatClause s m (([.ref (a 0), .ref (a1 0)] : List Value).toArray) below meth c H locs 0 0 (MQ below (QV D A (fun (u : HC × HC) => (kT cI a u.1 ++ (kL cI a1 u.2))) r) (([.ref (a 0), .ref (a1 0)] : List Value).toArray) s 0 0 A) (F0 m 80 ls []) := by
      intro X6 H locs ls hP hD hS hl hf
      unfold f_X5_chatClause_j80 at hf
      refine lv_aload_n hx hb dX5_chatClause_80 rfl (lv_at hl 0 rfl) ?_
      obtain ⟨q7, hq7, hf⟩ := bd_x hf
      have hPc := subP [0, 1] sub_TL_T_0 hP
      have hDc := va_D.sub hD [0, 1] rfl sub_TL_T_0
      have hFc := va_free hD hS hA [0, 1] sub_TL_T_0
      refine va_callv (va_runV (As := []) (rest := []) ⟨hx, hb, hml, hown, hG⟩ (c_X5_endOfClause l D cI cZ a X6 H.size hq7) (cwV 0 hG (gV g_274 g_275 g_6 g_71 g_276) rfl rfl rfl (by decide +kernel) ⟨Nat.le_of_ble_eq_true rfl, Nat.le_of_ble_eq_true rfl⟩) ⟨pre_blind, va_recv hK hPc (ci := 5) (q0 := 0) rfl rfl, fun U hU hW => ⟨rfl, pre_of hPc hK hDc hnw hU hW⟩⟩ rfl rfl hl.1 rfl (lv_room (Nat.le_of_ble_eq_true rfl)) dX5_chatClause_81 ⟨Nat.le_of_ble_eq_true rfl, Nat.le_of_ble_eq_true rfl⟩) hS (fun q _ h => hFc q h) hFc (fun u t H locs ht hvm hw hB hz1 hk1 hS => ?_)
      have hw := hw.symm; subst hw
      obtain ⟨hP1, hD1⟩ := hB
      rw [ht] at hP1
      obtain ⟨hP, hD⟩ := back hP hD [0, 1] sub_TL_T_0 rfl hk1 hFc hP1 hD1
      have hP := wP put_TL_T_0_0 hP
      have hD := wD put_TL_T_0_0 hD
      refine lv_aload_n hx hb dX5_chatClause_84 rfl (lv_at hl 1 rfl) ?_
      refine va_get (D := D) (ci := 2) (v := .ref (a1 4)) (C := RX2) (T := TX2) (N := 18) hx hb hG inG2 hown hK hP 2 at_TL_1_0 rfl 9 (by decide) (hG _ g_140) (fun _ h9 => h9) rfl dX5_chatClause_85 ?_
      refine lv_iload_n hx hb dX5_chatClause_88 rfl (lv_at hl 2 rfl) ?_
      refine lv_dup2_11 hx hb dX5_chatClause_89 rfl rfl ?_
      obtain ⟨hb90, hf⟩ := gd hf
      refine va_iald (cA := cI) (n := 6) (f := x1 4) hx hb hK hP 6 0 at_TL_1_4 rfl (inb_in hb90) dX5_chatClause_90 ?_
      refine lv_iconst (v := (1 : Int32)) hx hb dX5_chatClause_91 (by decide) ?_
      refine lv_iload_n hx hb dX5_chatClause_92 rfl (lv_at hl 3 rfl) ?_
      refine lv_ishl hx hb dX5_chatClause_93 ?_
      refine lv_ior hx hb dX5_chatClause_94 ?_
      obtain ⟨hb95, hf⟩ := gd hf
      refine va_iast (cA := cI) (n := 6) (f := x1 4) hx hb hK hP hD hS 6 0 at_TL_1_4 rfl (inb_in hb95) dX5_chatClause_95 (fun H locs hP hD hS => ?_)
      obtain ⟨X8, eX8⟩ : ∃ y : HC, y = (sa x1 4 v3 ((x1 4 (Int32.toNatClampNeg v3)) ||| ((1 : Int32) <<< (v5 &&& 31)))) := ⟨_, rfl⟩
      have hf := nm_x eX8 hf
      have hP := wP (sa_TL_1_4.trans (congrArg (fun z : HC => (kT cI a q7 ++ (kL cI a1 z))) eX8.symm)) hP
      have hD := wD (sa_TL_1_4.trans (congrArg (fun z : HC => (kT cI a q7 ++ (kL cI a1 z))) eX8.symm)) hD
      refine lv_aload_n hx hb dX5_chatClause_96 rfl (lv_at hl 1 rfl) ?_
      refine va_get (D := D) (ci := 2) (v := .ref (a1 4)) (C := RX2) (T := TX2) (N := 18) hx hb hG inG2 hown hK hP 2 at_TL_1_0 rfl 9 (by decide) (hG _ g_140) (fun _ h9 => h9) rfl dX5_chatClause_97 ?_
      refine lv_iload_n hx hb dX5_chatClause_100 rfl (lv_at hl 3 rfl) ?_
      refine lv_dup2_11 hx hb dX5_chatClause_101 rfl rfl ?_
      obtain ⟨hb102, hf⟩ := gd hf
      refine va_iald (cA := cI) (n := 6) (f := X8 4) hx hb hK hP 6 0 at_TL_1_4 rfl (inb_in hb102) dX5_chatClause_102 ?_
      refine lv_iconst (v := (1 : Int32)) hx hb dX5_chatClause_103 (by decide) ?_
      refine lv_iload_n hx hb dX5_chatClause_104 rfl (lv_at hl 2 rfl) ?_
      refine lv_ishl hx hb dX5_chatClause_105 ?_
      refine lv_ior hx hb dX5_chatClause_106 ?_
      obtain ⟨hb107, hf⟩ := gd hf
      refine va_iast (cA := cI) (n := 6) (f := X8 4) hx hb hK hP hD hS 6 0 at_TL_1_4 rfl (inb_in hb107) dX5_chatClause_107 (fun H locs hP hD hS => ?_)
      obtain ⟨X9, eX9⟩ : ∃ y : HC, y = (sa X8 4 v5 ((X8 4 (Int32.toNatClampNeg v5)) ||| ((1 : Int32) <<< (v3 &&& 31)))) := ⟨_, rfl⟩
      have hf := nm_x eX9 hf
      have hP := wP (sa_TL_1_4.trans (congrArg (fun z : HC => (kT cI a q7 ++ (kL cI a1 z))) eX9.symm)) hP
      have hD := wD (sa_TL_1_4.trans (congrArg (fun z : HC => (kT cI a q7 ++ (kL cI a1 z))) eX9.symm)) hD
      refine lv_aload_n hx hb dX5_chatClause_108 rfl (lv_at hl 1 rfl) ?_
      refine lv_dup hx hb dX5_chatClause_109 rfl ?_
      refine va_get (D := D) (ci := 2) (v := .int (X9 0 2)) (C := RX2) (T := TX2) (N := 18) hx hb hG inG2 hown hK hP 2 at_TL_1_0 rfl 2 (by decide) (hG _ g_118) (fun _ h9 => h9) rfl dX5_chatClause_110 ?_
      refine lv_iconst (v := (1 : Int32)) hx hb dX5_chatClause_113 (by decide) ?_
      refine lv_iadd hx hb dX5_chatClause_114 ?_
      refine va_put (D := D) (ci := 2) (v := .int ((X9 0 2) + (1 : Int32))) (ty := .int) (C := RX2) (T := TX2) (N := 18) hx hb hG inG2 tyX2 tyX2_ok nmX2 hown hK hP hD hS 2 at_TL_1_0 rfl 2 (by decide) (hG _ g_118) (fun _ h9 => h9) rfl (by decide +kernel) rfl rfl (Nat.le_of_ble_eq_true rfl) dX5_chatClause_115 (fun H locs hP hD hS => ?_)
      obtain ⟨X10, eX10⟩ : ∃ y : HC, y = (sf X9 2 ((X9 0 2) + (1 : Int32))) := ⟨_, rfl⟩
      have hf := nm_x eX10 hf
      have hP := wP (sf_TL_1_2.trans (congrArg (fun z : HC => (kT cI a q7 ++ (kL cI a1 z))) eX10.symm)) hP
      have hD := wD (sf_TL_1_2.trans (congrArg (fun z : HC => (kT cI a q7 ++ (kL cI a1 z))) eX10.symm)) hD
      exact W.vret hx hb hr (fun t ht hW => ⟨⟨(q7, X10), rfl, Option.some.inj hf, by rw [ht]; exact hP, hD⟩, hS.F ht⟩) hS.2.2 dX5_chatClause_118
    have J71 : ∀  (H : Heap) (locs : List Loc) (ls : Array Slot), va_P D vwCl (kT cI a q4.2 ++ (kL cI a1 x1)) H → va_D A (kT cI a q4.2 ++ (kL cI a1 x1)) → va_S A s.heap H locs → lv_has ls 4 [(0, .ref (a 0)), (1, .ref (a1 0)), (2, .int v3), (3, .int v5)] → f_X5_chatClause_j71 x1 v3 q4 v5  = some r → W p l e RM_X5_chatClause s m (([.ref (a 0), .ref (a1 0)] : List Value).toArray) below meth c H locs 0 0 (MQ below (QV D A (fun (u : HC × HC) => (kT cI a u.1 ++ (kL cI a1 u.2))) r) (([.ref (a 0), .ref (a1 0)] : List Value).toArray) s 0 0 A) (F0 m 71 ls []) := by
      intro  H locs ls hP hD hS hl hf
      unfold f_X5_chatClause_j71 at hf
      refine lv_aload_n hx hb dX5_chatClause_71 rfl (lv_at hl 0 rfl) ?_
      refine lv_iconst (v := (4 : Int32)) hx hb dX5_chatClause_72 (by decide) ?_
      refine lv_aload_n hx hb dX5_chatClause_73 rfl (lv_at hl 0 rfl) ?_
      refine va_get (D := D) (ci := 5) (v := .int (q4.2 0 3)) (C := RX5) (T := TX5) (N := 6) hx hb hG inG5 hown hK hP 0 at_TL_0_0 rfl 3 (by decide) (hG _ g_97) (fun _ h9 => h9) rfl dX5_chatClause_74 ?_
      obtain ⟨q11, hq11, hf⟩ := bd_x hf
      have hPc := subP [0, 1] sub_TL_T_0 hP
      have hDc := va_D.sub hD [0, 1] rfl sub_TL_T_0
      have hFc := va_free hD hS hA [0, 1] sub_TL_T_0
      refine va_callv (va_runV (As := [.int (4 : Int32), .int (q4.2 0 3)]) (rest := []) ⟨hx, hb, hml, hown, hG⟩ (c_X5_fail l D cI cZ a q4.2 (4 : Int32) (q4.2 0 3) H.size hq11) (cwV 2 hG (gV g_262 g_263 g_2 g_71 g_264) rfl rfl rfl (by decide +kernel) ⟨Nat.le_of_ble_eq_true rfl, Nat.le_of_ble_eq_true rfl⟩) ⟨pre_blind, va_recv hK hPc (ci := 5) (q0 := 0) rfl rfl, fun U hU hW => ⟨rfl, pre_of hPc hK hDc hnw hU hW⟩⟩ rfl rfl hl.1 rfl (lv_room (Nat.le_of_ble_eq_true rfl)) dX5_chatClause_77 ⟨Nat.le_of_ble_eq_true rfl, Nat.le_of_ble_eq_true rfl⟩) hS (fun q _ h => hFc q h) hFc (fun u t H locs ht hvm hw hB hz1 hk1 hS => ?_)
      have hw := hw.symm; subst hw
      obtain ⟨hP1, hD1⟩ := hB
      rw [ht] at hP1
      obtain ⟨hP, hD⟩ := back hP hD [0, 1] sub_TL_T_0 rfl hk1 hFc hP1 hD1
      have hP := wP put_TL_T_0_0 hP
      have hD := wD put_TL_T_0_0 hD
      exact J80 q11 _ _ _ hP hD hS (lv_sub hl [0, 1, 2, 3] rfl) hf
    refine lv_icmp_eq (tgt := 71) hx hb dX5_chatClause_55 (by decide) (fun cc55 => ?_) (fun cc55 => ?_)
    · have hf := if_t cc55 hf
      exact J71  _ _ _ hP hD hS (lv_sub hl [2, 3, 1, 0] rfl) hf
    · have hf := if_f cc55 hf
      refine lv_aload_n hx hb dX5_chatClause_58 rfl (lv_at hl 3 rfl) ?_
      refine va_get (D := D) (ci := 2) (v := .ref (a1 4)) (C := RX2) (T := TX2) (N := 18) hx hb hG inG2 hown hK hP 2 at_TL_1_0 rfl 9 (by decide) (hG _ g_140) (fun _ h9 => h9) rfl dX5_chatClause_59 ?_
      refine lv_iload_n hx hb dX5_chatClause_62 rfl (lv_at hl 1 rfl) ?_
      obtain ⟨hb63, hf⟩ := gd hf
      refine va_iald (cA := cI) (n := 6) (f := x1 4) hx hb hK hP 6 0 at_TL_1_4 rfl (inb_in hb63) dX5_chatClause_63 ?_
      refine lv_iload_n hx hb dX5_chatClause_64 rfl (lv_at hl 0 rfl) ?_
      obtain ⟨q12, hq12, hf⟩ := bd_x hf
      have hFc := va_free (wc := []) hD hS hA [] rfl
      refine va_calli (va_runSN (As := [.int (x1 4 (Int32.toNatClampNeg v3)), .int v5]) (rest := []) ⟨hx, hb, hml, hown, hG⟩ (c_X6_has l D cI cZ (x1 4 (Int32.toNatClampNeg v3)) v5 H.size hq12) ⟨va_cnB 2 hG (gC g_285) rfl rfl rfl hnw.1 (hG _ g_70) (by decide +kernel) ⟨Nat.le_of_ble_eq_true rfl, Nat.le_of_ble_eq_true rfl⟩, hG _ g_284, trivial⟩ ⟨pre_blind, fun U hU hW => ⟨rfl, pre_of P_nil hK D_nil hnw hU hW⟩⟩ rfl rfl hl.1 rfl (lv_room (Nat.le_of_ble_eq_true rfl)) dX5_chatClause_65 ⟨Nat.le_of_ble_eq_true rfl, Nat.le_of_ble_eq_true rfl⟩) hS (fun q _ h => hFc q h) hFc (fun v u t H locs ht hvm hw hB hz1 hk1 hS => ?_)
      have hw := hw.symm; subst hw
      obtain ⟨hP1, hD1⟩ := hB
      rw [ht] at hP1
      obtain ⟨hP, hD⟩ := back hP hD [] rfl rfl hk1 hFc hP1 hD1
      refine lv_if_eq (tgt := 80) hx hb dX5_chatClause_68 (by decide) (fun cc68 => ?_) (fun cc68 => ?_)
      · have hf := if_t cc68 hf
        exact J80 q4.2 _ _ _ hP hD hS (lv_sub hl [2, 3, 1, 0] rfl) hf
      · have hf := if_f cc68 hf
        exact J71  _ _ _ hP hD hS (lv_sub hl [2, 3, 1, 0] rfl) hf
  · have hf := if_f cc6 hf
    refine lv_aload_n hx hb dX5_chatClause_9 rfl (lv_at hl 0 rfl) ?_
    refine lv_iconst (v := (3 : Int32)) hx hb dX5_chatClause_10 (by decide) ?_
    refine lv_aload_n hx hb dX5_chatClause_11 rfl (lv_at hl 0 rfl) ?_
    refine va_get (D := D) (ci := 5) (v := .int (x 0 2)) (C := RX5) (T := TX5) (N := 6) hx hb hG inG5 hown hK hP 0 at_TL_0_0 rfl 2 (by decide) (hG _ g_96) (fun _ h9 => h9) rfl dX5_chatClause_12 ?_
    obtain ⟨q13, hq13, hf⟩ := bd_x hf
    have hPc := subP [0, 1] sub_TL_T_0 hP
    have hDc := va_D.sub hD [0, 1] rfl sub_TL_T_0
    have hFc := va_free hD hS hA [0, 1] sub_TL_T_0
    refine va_callv (va_runV (As := [.int (3 : Int32), .int (x 0 2)]) (rest := []) ⟨hx, hb, hml, hown, hG⟩ (c_X5_fail l D cI cZ a x (3 : Int32) (x 0 2) s.heap.size hq13) (cwV 2 hG (gV g_262 g_263 g_2 g_71 g_264) rfl rfl rfl (by decide +kernel) ⟨Nat.le_of_ble_eq_true rfl, Nat.le_of_ble_eq_true rfl⟩) ⟨pre_blind, va_recv hK hPc (ci := 5) (q0 := 0) rfl rfl, fun U hU hW => ⟨rfl, pre_of hPc hK hDc hnw hU hW⟩⟩ rfl rfl hl.1 rfl (lv_room (Nat.le_of_ble_eq_true rfl)) dX5_chatClause_15 ⟨Nat.le_of_ble_eq_true rfl, Nat.le_of_ble_eq_true rfl⟩) hS (fun q _ h => hFc q h) hFc (fun u t H locs ht hvm hw hB hz1 hk1 hS => ?_)
    have hw := hw.symm; subst hw
    obtain ⟨hP1, hD1⟩ := hB
    rw [ht] at hP1
    obtain ⟨hP, hD⟩ := back hP hD [0, 1] sub_TL_T_0 rfl hk1 hFc hP1 hD1
    have hP := wP put_TL_T_0_0 hP
    have hD := wD put_TL_T_0_0 hD
    exact W.vret hx hb hr (fun t ht hW => ⟨⟨(q13, x1), rfl, Option.some.inj hf, by rw [ht]; exact hP, hD⟩, hS.F ht⟩) hS.2.2 dX5_chatClause_18
def f_X5_taskClause (x : HC) (x1 : HC) : Option (HC × HC) := nm (x1 0 3) (fun (v1 : Int32) => (if v1 < (6 : Int32) then nm (sf x 2 ((x 0 2) + (1 : Int32))) (fun (X2 : HC) => bd (f_X5_number X2 (0 : Int32) ((x1 0 0) - (1 : Int32))) (fun (q3 : Int32 × HC) => (if inb v1 6 then nm (sa x1 5 v1 q3.1) (fun (X4 : HC) => bd (f_X5_number q3.2 (0 : Int32) (99 : Int32)) (fun (q5 : Int32 × HC) => (if inb v1 6 then nm (sa X4 6 v1 q5.1) (fun (X6 : HC) => bd (f_X5_number q5.2 (0 : Int32) (99 : Int32)) (fun (q7 : Int32 × HC) => (if inb v1 6 then nm (sa X6 7 v1 q7.1) (fun (X8 : HC) => bd (f_X5_number q7.2 (0 : Int32) (20 : Int32)) (fun (q9 : Int32 × HC) => (if inb v1 6 then nm (sa X8 8 v1 q9.1) (fun (X10 : HC) => bd (f_X5_endOfClause q9.2) (fun (q11 : HC) => nm (sf X10 3 (v1 + (1 : Int32))) (fun (X12 : HC) => some (q11, X12)))) else none))) else none))) else none))) else none))) else bd (f_X5_fail x (3 : Int32) (x 0 2)) (fun (q13 : HC) => some (q13, x1))))
abbrev RM_X5_taskClause : Room := { frames := 2, cells := 0, slots := 0, locals := 46 }
set_option maxHeartbeats 4000000 in
set_option maxRecDepth 100000 in
theorem c_X5_taskClause (l : Launch) (D : va_G) (cI cZ : ClassId) (a a1 : Nat → Nat) (x : HC) (x1 : HC) (sz : Nat) {r : HC × HC} (hf : f_X5_taskClause x x1 = some r) : Met l yX5_taskClause (wM yX5_taskClause cX5_taskClause 3 none) RM_X5_taskClause (va_Pc [.ref (a 0), .ref (a1 0)] (pre D cI cZ (kT cI a x ++ (kL cI a1 x1)) sz)) (QV D (va_A (kT cI a x ++ (kL cI a1 x1)) sz) (fun (u : HC × HC) => (kT cI a u.1 ++ (kL cI a1 u.2))) r) 0 0 (va_A (kT cI a x ++ (kL cI a1 x1)) sz) := by
  unfold f_X5_taskClause at hf
  refine Met.ofW (cc := cX5_taskClause) (maxL := 3) (ret := none) (by decide) rfl ?_
  intro p e s m args below meth c s₁ B hml hv
  obtain ⟨rfl, hsz, hP, hK, hD0, hnw⟩ := hv
  have hx := B.exec
  have hb := B.bytes
  have hr := B.returns
  have hts := atoms_spec (ws := wM yX5_taskClause cX5_taskClause 3 none) B.pre
  have hG : ∀ w ∈ GW, w.before (([.ref (a 0), .ref (a1 0)] : List Value).toArray) s = true := fun w h => hts w (List.mem_cons_of_mem _ h)
  have hown : s.vm.findClass RX5 = some m.cls := findClass_of_methodNamed B.named
  have hlocks := B.notSynchronized
  subst hsz
  have hD := hD0.self (sz := s.heap.size)
  generalize hAe : va_A (kT cI a x ++ (kL cI a1 x1)) s.heap.size = A at hD ⊢
  have hA : ∀ q : Nat, s.heap.size ≤ q → A q := fun q h => by rw [← hAe]; exact Or.inr h
  have hS : va_S A s.heap s.heap [] := va_S.rf
  have hl := lv_entry ([.ref (a 0), .ref (a1 0)]) (n := 3) (Nat.le_of_ble_eq_true rfl)
  rw [lg_entry_eq]
  generalize (lg_sl ([.ref (a 0), .ref (a1 0)]) ++ List.replicate (3 - (lg_sl ([.ref (a 0), .ref (a1 0)])).length) Slot.unset).toArray = ls at hl ⊢
  have hl : lv_has ls 3 [(0, .ref (a 0)), (1, .ref (a1 0))] := hl
  show W p l e RM_X5_taskClause s m (([.ref (a 0), .ref (a1 0)] : List Value).toArray) below meth c s.heap [] 0 0 (MQ below (QV D A (fun (u : HC × HC) => (kT cI a u.1 ++ (kL cI a1 u.2))) r) (([.ref (a 0), .ref (a1 0)] : List Value).toArray) s 0 0 A) (F0 m 0 ls [])
  refine lv_aload_n hx hb dX5_taskClause_0 rfl (lv_at hl 1 rfl) ?_
  refine va_get (D := D) (ci := 2) (v := .int (x1 0 3)) (C := RX2) (T := TX2) (N := 18) hx hb hG inG2 hown hK hP 2 at_TL_1_0 rfl 3 (by decide) (hG _ g_122) (fun _ h9 => h9) rfl dX5_taskClause_1 ?_
  refine lv_topi (fun v1 ev1 => ?_)
  have hf := nm_x ev1 hf
  refine lv_istore_n (lv' := [(2, .int v1), (0, .ref (a 0)), (1, .ref (a1 0))]) hx hb dX5_taskClause_4 rfl hl (by decide) rfl (fun ls hl => ?_)
  refine lv_iload_n hx hb dX5_taskClause_5 rfl (lv_at hl 0 rfl) ?_
  refine lv_bipush (v := (6 : Int32)) hx hb dX5_taskClause_6 (by decide) ?_
  refine lv_icmp_lt (tgt := 21) hx hb dX5_taskClause_8 (by decide) (fun cc8 => ?_) (fun cc8 => ?_)
  · have hf := if_t cc8 hf
    refine lv_aload_n hx hb dX5_taskClause_21 rfl (lv_at hl 1 rfl) ?_
    refine lv_dup hx hb dX5_taskClause_22 rfl ?_
    refine va_get (D := D) (ci := 5) (v := .int (x 0 2)) (C := RX5) (T := TX5) (N := 6) hx hb hG inG5 hown hK hP 0 at_TL_0_0 rfl 2 (by decide) (hG _ g_96) (fun _ h9 => h9) rfl dX5_taskClause_23 ?_
    refine lv_iconst (v := (1 : Int32)) hx hb dX5_taskClause_26 (by decide) ?_
    refine lv_iadd hx hb dX5_taskClause_27 ?_
    refine va_put (D := D) (ci := 5) (v := .int ((x 0 2) + (1 : Int32))) (ty := .int) (C := RX5) (T := TX5) (N := 6) hx hb hG inG5 tyX5 tyX5_ok nmX5 hown hK hP hD hS 0 at_TL_0_0 rfl 2 (by decide) (hG _ g_96) (fun _ h9 => h9) rfl (by decide +kernel) rfl rfl (Nat.le_of_ble_eq_true rfl) dX5_taskClause_28 (fun H locs hP hD hS => ?_)
    obtain ⟨X2, eX2⟩ : ∃ y : HC, y = (sf x 2 ((x 0 2) + (1 : Int32))) := ⟨_, rfl⟩
    have hf := nm_x eX2 hf
    have hP := wP (sf_TL_0_2.trans (congrArg (fun z : HC => (kT cI a z ++ (kL cI a1 x1))) eX2.symm)) hP
    have hD := wD (sf_TL_0_2.trans (congrArg (fun z : HC => (kT cI a z ++ (kL cI a1 x1))) eX2.symm)) hD
    refine lv_aload_n hx hb dX5_taskClause_31 rfl (lv_at hl 2 rfl) ?_
    refine va_get (D := D) (ci := 2) (v := .ref (a1 5)) (C := RX2) (T := TX2) (N := 18) hx hb hG inG2 hown hK hP 2 at_TL_1_0 rfl 10 (by decide) (hG _ g_144) (fun _ h9 => h9) rfl dX5_taskClause_32 ?_
    refine lv_iload_n hx hb dX5_taskClause_35 rfl (lv_at hl 0 rfl) ?_
    refine lv_aload_n hx hb dX5_taskClause_36 rfl (lv_at hl 1 rfl) ?_
    refine lv_iconst (v := (0 : Int32)) hx hb dX5_taskClause_37 (by decide) ?_
    refine lv_aload_n hx hb dX5_taskClause_38 rfl (lv_at hl 2 rfl) ?_
    refine va_get (D := D) (ci := 2) (v := .int (x1 0 0)) (C := RX2) (T := TX2) (N := 18) hx hb hG inG2 hown hK hP 2 at_TL_1_0 rfl 0 (by decide) (hG _ g_111) (fun _ h9 => h9) rfl dX5_taskClause_39 ?_
    refine lv_iconst (v := (1 : Int32)) hx hb dX5_taskClause_42 (by decide) ?_
    refine lv_isub hx hb dX5_taskClause_43 ?_
    obtain ⟨q3, hq3, hf⟩ := bd_x hf
    have hPc := subP [0, 1] sub_TL_T_0 hP
    have hDc := va_D.sub hD [0, 1] rfl sub_TL_T_0
    have hFc := va_free hD hS hA [0, 1] sub_TL_T_0
    refine va_calli (va_runV (As := [.int (0 : Int32), .int ((x1 0 0) - (1 : Int32))]) (rest := [.int v1, .ref (a1 5)]) ⟨hx, hb, hml, hown, hG⟩ (c_X5_number l D cI cZ a X2 (0 : Int32) ((x1 0 0) - (1 : Int32)) H.size hq3) (cwV 2 hG (gV g_268 g_269 g_4 g_71 g_270) rfl rfl rfl (by decide +kernel) ⟨Nat.le_of_ble_eq_true rfl, Nat.le_of_ble_eq_true rfl⟩) ⟨pre_blind, va_recv hK hPc (ci := 5) (q0 := 0) rfl rfl, fun U hU hW => ⟨rfl, pre_of hPc hK hDc hnw hU hW⟩⟩ rfl rfl hl.1 rfl (lv_room (Nat.le_of_ble_eq_true rfl)) dX5_taskClause_44 ⟨Nat.le_of_ble_eq_true rfl, Nat.le_of_ble_eq_true rfl⟩) hS (fun q _ h => hFc q h) hFc (fun v u t H locs ht hvm hw hB hz1 hk1 hS => ?_)
    obtain ⟨rfl, rfl⟩ := hw
    obtain ⟨hP1, hD1⟩ := hB
    rw [ht] at hP1
    obtain ⟨hP, hD⟩ := back hP hD [0, 1] sub_TL_T_0 rfl hk1 hFc hP1 hD1
    have hP := wP put_TL_T_0_0 hP
    have hD := wD put_TL_T_0_0 hD
    obtain ⟨hb47, hf⟩ := gd hf
    refine va_iast (cA := cI) (n := 6) (f := x1 5) hx hb hK hP hD hS 7 0 at_TL_1_5 rfl (inb_in hb47) dX5_taskClause_47 (fun H locs hP hD hS => ?_)
    obtain ⟨X4, eX4⟩ : ∃ y : HC, y = (sa x1 5 v1 q3.1) := ⟨_, rfl⟩
    have hf := nm_x eX4 hf
    have hP := wP (sa_TL_1_5.trans (congrArg (fun z : HC => (kT cI a q3.2 ++ (kL cI a1 z))) eX4.symm)) hP
    have hD := wD (sa_TL_1_5.trans (congrArg (fun z : HC => (kT cI a q3.2 ++ (kL cI a1 z))) eX4.symm)) hD
    refine lv_aload_n hx hb dX5_taskClause_48 rfl (lv_at hl 2 rfl) ?_
    refine va_get (D := D) (ci := 2) (v := .ref (a1 6)) (C := RX2) (T := TX2) (N := 18) hx hb hG inG2 hown hK hP 2 at_TL_1_0 rfl 11 (by decide) (hG _ g_147) (fun _ h9 => h9) rfl dX5_taskClause_49 ?_
    refine lv_iload_n hx hb dX5_taskClause_52 rfl (lv_at hl 0 rfl) ?_
    refine lv_aload_n hx hb dX5_taskClause_53 rfl (lv_at hl 1 rfl) ?_
    refine lv_iconst (v := (0 : Int32)) hx hb dX5_taskClause_54 (by decide) ?_
    refine lv_bipush (v := (99 : Int32)) hx hb dX5_taskClause_55 (by decide) ?_
    obtain ⟨q5, hq5, hf⟩ := bd_x hf
    have hPc := subP [0, 1] sub_TL_T_0 hP
    have hDc := va_D.sub hD [0, 1] rfl sub_TL_T_0
    have hFc := va_free hD hS hA [0, 1] sub_TL_T_0
    refine va_calli (va_runV (As := [.int (0 : Int32), .int (99 : Int32)]) (rest := [.int v1, .ref (a1 6)]) ⟨hx, hb, hml, hown, hG⟩ (c_X5_number l D cI cZ a q3.2 (0 : Int32) (99 : Int32) H.size hq5) (cwV 2 hG (gV g_268 g_269 g_4 g_71 g_270) rfl rfl rfl (by decide +kernel) ⟨Nat.le_of_ble_eq_true rfl, Nat.le_of_ble_eq_true rfl⟩) ⟨pre_blind, va_recv hK hPc (ci := 5) (q0 := 0) rfl rfl, fun U hU hW => ⟨rfl, pre_of hPc hK hDc hnw hU hW⟩⟩ rfl rfl hl.1 rfl (lv_room (Nat.le_of_ble_eq_true rfl)) dX5_taskClause_57 ⟨Nat.le_of_ble_eq_true rfl, Nat.le_of_ble_eq_true rfl⟩) hS (fun q _ h => hFc q h) hFc (fun v u t H locs ht hvm hw hB hz1 hk1 hS => ?_)
    obtain ⟨rfl, rfl⟩ := hw
    obtain ⟨hP1, hD1⟩ := hB
    rw [ht] at hP1
    obtain ⟨hP, hD⟩ := back hP hD [0, 1] sub_TL_T_0 rfl hk1 hFc hP1 hD1
    have hP := wP put_TL_T_0_0 hP
    have hD := wD put_TL_T_0_0 hD
    obtain ⟨hb60, hf⟩ := gd hf
    refine va_iast (cA := cI) (n := 6) (f := X4 6) hx hb hK hP hD hS 8 0 at_TL_1_6 rfl (inb_in hb60) dX5_taskClause_60 (fun H locs hP hD hS => ?_)
    obtain ⟨X6, eX6⟩ : ∃ y : HC, y = (sa X4 6 v1 q5.1) := ⟨_, rfl⟩
    have hf := nm_x eX6 hf
    have hP := wP (sa_TL_1_6.trans (congrArg (fun z : HC => (kT cI a q5.2 ++ (kL cI a1 z))) eX6.symm)) hP
    have hD := wD (sa_TL_1_6.trans (congrArg (fun z : HC => (kT cI a q5.2 ++ (kL cI a1 z))) eX6.symm)) hD
    refine lv_aload_n hx hb dX5_taskClause_61 rfl (lv_at hl 2 rfl) ?_
    refine va_get (D := D) (ci := 2) (v := .ref (a1 7)) (C := RX2) (T := TX2) (N := 18) hx hb hG inG2 hown hK hP 2 at_TL_1_0 rfl 12 (by decide) (hG _ g_151) (fun _ h9 => h9) rfl dX5_taskClause_62 ?_
    refine lv_iload_n hx hb dX5_taskClause_65 rfl (lv_at hl 0 rfl) ?_
    refine lv_aload_n hx hb dX5_taskClause_66 rfl (lv_at hl 1 rfl) ?_
    refine lv_iconst (v := (0 : Int32)) hx hb dX5_taskClause_67 (by decide) ?_
    refine lv_bipush (v := (99 : Int32)) hx hb dX5_taskClause_68 (by decide) ?_
    obtain ⟨q7, hq7, hf⟩ := bd_x hf
    have hPc := subP [0, 1] sub_TL_T_0 hP
    have hDc := va_D.sub hD [0, 1] rfl sub_TL_T_0
    have hFc := va_free hD hS hA [0, 1] sub_TL_T_0
    refine va_calli (va_runV (As := [.int (0 : Int32), .int (99 : Int32)]) (rest := [.int v1, .ref (a1 7)]) ⟨hx, hb, hml, hown, hG⟩ (c_X5_number l D cI cZ a q5.2 (0 : Int32) (99 : Int32) H.size hq7) (cwV 2 hG (gV g_268 g_269 g_4 g_71 g_270) rfl rfl rfl (by decide +kernel) ⟨Nat.le_of_ble_eq_true rfl, Nat.le_of_ble_eq_true rfl⟩) ⟨pre_blind, va_recv hK hPc (ci := 5) (q0 := 0) rfl rfl, fun U hU hW => ⟨rfl, pre_of hPc hK hDc hnw hU hW⟩⟩ rfl rfl hl.1 rfl (lv_room (Nat.le_of_ble_eq_true rfl)) dX5_taskClause_70 ⟨Nat.le_of_ble_eq_true rfl, Nat.le_of_ble_eq_true rfl⟩) hS (fun q _ h => hFc q h) hFc (fun v u t H locs ht hvm hw hB hz1 hk1 hS => ?_)
    obtain ⟨rfl, rfl⟩ := hw
    obtain ⟨hP1, hD1⟩ := hB
    rw [ht] at hP1
    obtain ⟨hP, hD⟩ := back hP hD [0, 1] sub_TL_T_0 rfl hk1 hFc hP1 hD1
    have hP := wP put_TL_T_0_0 hP
    have hD := wD put_TL_T_0_0 hD
    obtain ⟨hb73, hf⟩ := gd hf
    refine va_iast (cA := cI) (n := 6) (f := X6 7) hx hb hK hP hD hS 9 0 at_TL_1_7 rfl (inb_in hb73) dX5_taskClause_73 (fun H locs hP hD hS => ?_)
    obtain ⟨X8, eX8⟩ : ∃ y : HC, y = (sa X6 7 v1 q7.1) := ⟨_, rfl⟩
    have hf := nm_x eX8 hf
    have hP := wP (sa_TL_1_7.trans (congrArg (fun z : HC => (kT cI a q7.2 ++ (kL cI a1 z))) eX8.symm)) hP
    have hD := wD (sa_TL_1_7.trans (congrArg (fun z : HC => (kT cI a q7.2 ++ (kL cI a1 z))) eX8.symm)) hD
    refine lv_aload_n hx hb dX5_taskClause_74 rfl (lv_at hl 2 rfl) ?_
    refine va_get (D := D) (ci := 2) (v := .ref (a1 8)) (C := RX2) (T := TX2) (N := 18) hx hb hG inG2 hown hK hP 2 at_TL_1_0 rfl 13 (by decide) (hG _ g_154) (fun _ h9 => h9) rfl dX5_taskClause_75 ?_
    refine lv_iload_n hx hb dX5_taskClause_78 rfl (lv_at hl 0 rfl) ?_
    refine lv_aload_n hx hb dX5_taskClause_79 rfl (lv_at hl 1 rfl) ?_
    refine lv_iconst (v := (0 : Int32)) hx hb dX5_taskClause_80 (by decide) ?_
    refine lv_bipush (v := (20 : Int32)) hx hb dX5_taskClause_81 (by decide) ?_
    obtain ⟨q9, hq9, hf⟩ := bd_x hf
    have hPc := subP [0, 1] sub_TL_T_0 hP
    have hDc := va_D.sub hD [0, 1] rfl sub_TL_T_0
    have hFc := va_free hD hS hA [0, 1] sub_TL_T_0
    refine va_calli (va_runV (As := [.int (0 : Int32), .int (20 : Int32)]) (rest := [.int v1, .ref (a1 8)]) ⟨hx, hb, hml, hown, hG⟩ (c_X5_number l D cI cZ a q7.2 (0 : Int32) (20 : Int32) H.size hq9) (cwV 2 hG (gV g_268 g_269 g_4 g_71 g_270) rfl rfl rfl (by decide +kernel) ⟨Nat.le_of_ble_eq_true rfl, Nat.le_of_ble_eq_true rfl⟩) ⟨pre_blind, va_recv hK hPc (ci := 5) (q0 := 0) rfl rfl, fun U hU hW => ⟨rfl, pre_of hPc hK hDc hnw hU hW⟩⟩ rfl rfl hl.1 rfl (lv_room (Nat.le_of_ble_eq_true rfl)) dX5_taskClause_83 ⟨Nat.le_of_ble_eq_true rfl, Nat.le_of_ble_eq_true rfl⟩) hS (fun q _ h => hFc q h) hFc (fun v u t H locs ht hvm hw hB hz1 hk1 hS => ?_)
    obtain ⟨rfl, rfl⟩ := hw
    obtain ⟨hP1, hD1⟩ := hB
    rw [ht] at hP1
    obtain ⟨hP, hD⟩ := back hP hD [0, 1] sub_TL_T_0 rfl hk1 hFc hP1 hD1
    have hP := wP put_TL_T_0_0 hP
    have hD := wD put_TL_T_0_0 hD
    obtain ⟨hb86, hf⟩ := gd hf
    refine va_iast (cA := cI) (n := 6) (f := X8 8) hx hb hK hP hD hS 10 0 at_TL_1_8 rfl (inb_in hb86) dX5_taskClause_86 (fun H locs hP hD hS => ?_)
    obtain ⟨X10, eX10⟩ : ∃ y : HC, y = (sa X8 8 v1 q9.1) := ⟨_, rfl⟩
    have hf := nm_x eX10 hf
    have hP := wP (sa_TL_1_8.trans (congrArg (fun z : HC => (kT cI a q9.2 ++ (kL cI a1 z))) eX10.symm)) hP
    have hD := wD (sa_TL_1_8.trans (congrArg (fun z : HC => (kT cI a q9.2 ++ (kL cI a1 z))) eX10.symm)) hD
    refine lv_aload_n hx hb dX5_taskClause_87 rfl (lv_at hl 1 rfl) ?_
    obtain ⟨q11, hq11, hf⟩ := bd_x hf
    have hPc := subP [0, 1] sub_TL_T_0 hP
    have hDc := va_D.sub hD [0, 1] rfl sub_TL_T_0
    have hFc := va_free hD hS hA [0, 1] sub_TL_T_0
    refine va_callv (va_runV (As := []) (rest := []) ⟨hx, hb, hml, hown, hG⟩ (c_X5_endOfClause l D cI cZ a q9.2 H.size hq11) (cwV 0 hG (gV g_274 g_275 g_6 g_71 g_276) rfl rfl rfl (by decide +kernel) ⟨Nat.le_of_ble_eq_true rfl, Nat.le_of_ble_eq_true rfl⟩) ⟨pre_blind, va_recv hK hPc (ci := 5) (q0 := 0) rfl rfl, fun U hU hW => ⟨rfl, pre_of hPc hK hDc hnw hU hW⟩⟩ rfl rfl hl.1 rfl (lv_room (Nat.le_of_ble_eq_true rfl)) dX5_taskClause_88 ⟨Nat.le_of_ble_eq_true rfl, Nat.le_of_ble_eq_true rfl⟩) hS (fun q _ h => hFc q h) hFc (fun u t H locs ht hvm hw hB hz1 hk1 hS => ?_)
    have hw := hw.symm; subst hw
    obtain ⟨hP1, hD1⟩ := hB
    rw [ht] at hP1
    obtain ⟨hP, hD⟩ := back hP hD [0, 1] sub_TL_T_0 rfl hk1 hFc hP1 hD1
    have hP := wP put_TL_T_0_0 hP
    have hD := wD put_TL_T_0_0 hD
    refine lv_aload_n hx hb dX5_taskClause_91 rfl (lv_at hl 2 rfl) ?_
    refine lv_iload_n hx hb dX5_taskClause_92 rfl (lv_at hl 0 rfl) ?_
    refine lv_iconst (v := (1 : Int32)) hx hb dX5_taskClause_93 (by decide) ?_
    refine lv_iadd hx hb dX5_taskClause_94 ?_
    refine va_put (D := D) (ci := 2) (v := .int (v1 + (1 : Int32))) (ty := .int) (C := RX2) (T := TX2) (N := 18) hx hb hG inG2 tyX2 tyX2_ok nmX2 hown hK hP hD hS 2 at_TL_1_0 rfl 3 (by decide) (hG _ g_122) (fun _ h9 => h9) rfl (by decide +kernel) rfl rfl (Nat.le_of_ble_eq_true rfl) dX5_taskClause_95 (fun H locs hP hD hS => ?_)
    obtain ⟨X12, eX12⟩ : ∃ y : HC, y = (sf X10 3 (v1 + (1 : Int32))) := ⟨_, rfl⟩
    have hf := nm_x eX12 hf
    have hP := wP (sf_TL_1_3.trans (congrArg (fun z : HC => (kT cI a q11 ++ (kL cI a1 z))) eX12.symm)) hP
    have hD := wD (sf_TL_1_3.trans (congrArg (fun z : HC => (kT cI a q11 ++ (kL cI a1 z))) eX12.symm)) hD
    exact W.vret hx hb hr (fun t ht hW => ⟨⟨(q11, X12), rfl, Option.some.inj hf, by rw [ht]; exact hP, hD⟩, hS.F ht⟩) hS.2.2 dX5_taskClause_98
  · have hf := if_f cc8 hf
    refine lv_aload_n hx hb dX5_taskClause_11 rfl (lv_at hl 1 rfl) ?_
    refine lv_iconst (v := (3 : Int32)) hx hb dX5_taskClause_12 (by decide) ?_
    refine lv_aload_n hx hb dX5_taskClause_13 rfl (lv_at hl 1 rfl) ?_
    refine va_get (D := D) (ci := 5) (v := .int (x 0 2)) (C := RX5) (T := TX5) (N := 6) hx hb hG inG5 hown hK hP 0 at_TL_0_0 rfl 2 (by decide) (hG _ g_96) (fun _ h9 => h9) rfl dX5_taskClause_14 ?_
    obtain ⟨q13, hq13, hf⟩ := bd_x hf
    have hPc := subP [0, 1] sub_TL_T_0 hP
    have hDc := va_D.sub hD [0, 1] rfl sub_TL_T_0
    have hFc := va_free hD hS hA [0, 1] sub_TL_T_0
    refine va_callv (va_runV (As := [.int (3 : Int32), .int (x 0 2)]) (rest := []) ⟨hx, hb, hml, hown, hG⟩ (c_X5_fail l D cI cZ a x (3 : Int32) (x 0 2) s.heap.size hq13) (cwV 2 hG (gV g_262 g_263 g_2 g_71 g_264) rfl rfl rfl (by decide +kernel) ⟨Nat.le_of_ble_eq_true rfl, Nat.le_of_ble_eq_true rfl⟩) ⟨pre_blind, va_recv hK hPc (ci := 5) (q0 := 0) rfl rfl, fun U hU hW => ⟨rfl, pre_of hPc hK hDc hnw hU hW⟩⟩ rfl rfl hl.1 rfl (lv_room (Nat.le_of_ble_eq_true rfl)) dX5_taskClause_17 ⟨Nat.le_of_ble_eq_true rfl, Nat.le_of_ble_eq_true rfl⟩) hS (fun q _ h => hFc q h) hFc (fun u t H locs ht hvm hw hB hz1 hk1 hS => ?_)
    have hw := hw.symm; subst hw
    obtain ⟨hP1, hD1⟩ := hB
    rw [ht] at hP1
    obtain ⟨hP, hD⟩ := back hP hD [0, 1] sub_TL_T_0 rfl hk1 hFc hP1 hD1
    have hP := wP put_TL_T_0_0 hP
    have hD := wD put_TL_T_0_0 hD
    exact W.vret hx hb hr (fun t ht hW => ⟨⟨(q13, x1), rfl, Option.some.inj hf, by rw [ht]; exact hP, hD⟩, hS.F ht⟩) hS.2.2 dX5_taskClause_20
def f_X5_trickClause (x : HC) (x1 : HC) : Option (HC × HC) := nm (x1 0 4) (fun (v1 : Int32) => (if v1 < (4 : Int32) then nm (sf x 2 ((x 0 2) + (1 : Int32))) (fun (X2 : HC) => bd (f_X5_number X2 (0 : Int32) ((x1 0 3) - (1 : Int32))) (fun (q3 : Int32 × HC) => (if inb v1 4 then nm (sa x1 9 v1 q3.1) (fun (X4 : HC) => bd (f_X5_number q3.2 (1 : Int32) (99 : Int32)) (fun (q5 : Int32 × HC) => (if inb v1 4 then nm (sa X4 10 v1 q5.1) (fun (X6 : HC) => bd (f_X5_number q5.2 (0 : Int32) (99 : Int32)) (fun (q7 : Int32 × HC) => (if inb v1 4 then nm (sa X6 11 v1 q7.1) (fun (X8 : HC) => bd (f_X5_endOfClause q7.2) (fun (q9 : HC) => nm (sf X8 4 (v1 + (1 : Int32))) (fun (X10 : HC) => some (q9, X10)))) else none))) else none))) else none))) else bd (f_X5_fail x (3 : Int32) (x 0 2)) (fun (q11 : HC) => some (q11, x1))))
abbrev RM_X5_trickClause : Room := { frames := 2, cells := 0, slots := 0, locals := 46 }
set_option maxHeartbeats 4000000 in
set_option maxRecDepth 100000 in
theorem c_X5_trickClause (l : Launch) (D : va_G) (cI cZ : ClassId) (a a1 : Nat → Nat) (x : HC) (x1 : HC) (sz : Nat) {r : HC × HC} (hf : f_X5_trickClause x x1 = some r) : Met l yX5_trickClause (wM yX5_trickClause cX5_trickClause 3 none) RM_X5_trickClause (va_Pc [.ref (a 0), .ref (a1 0)] (pre D cI cZ (kT cI a x ++ (kL cI a1 x1)) sz)) (QV D (va_A (kT cI a x ++ (kL cI a1 x1)) sz) (fun (u : HC × HC) => (kT cI a u.1 ++ (kL cI a1 u.2))) r) 0 0 (va_A (kT cI a x ++ (kL cI a1 x1)) sz) := by
  unfold f_X5_trickClause at hf
  refine Met.ofW (cc := cX5_trickClause) (maxL := 3) (ret := none) (by decide) rfl ?_
  intro p e s m args below meth c s₁ B hml hv
  obtain ⟨rfl, hsz, hP, hK, hD0, hnw⟩ := hv
  have hx := B.exec
  have hb := B.bytes
  have hr := B.returns
  have hts := atoms_spec (ws := wM yX5_trickClause cX5_trickClause 3 none) B.pre
  have hG : ∀ w ∈ GW, w.before (([.ref (a 0), .ref (a1 0)] : List Value).toArray) s = true := fun w h => hts w (List.mem_cons_of_mem _ h)
  have hown : s.vm.findClass RX5 = some m.cls := findClass_of_methodNamed B.named
  have hlocks := B.notSynchronized
  subst hsz
  have hD := hD0.self (sz := s.heap.size)
  generalize hAe : va_A (kT cI a x ++ (kL cI a1 x1)) s.heap.size = A at hD ⊢
  have hA : ∀ q : Nat, s.heap.size ≤ q → A q := fun q h => by rw [← hAe]; exact Or.inr h
  have hS : va_S A s.heap s.heap [] := va_S.rf
  have hl := lv_entry ([.ref (a 0), .ref (a1 0)]) (n := 3) (Nat.le_of_ble_eq_true rfl)
  rw [lg_entry_eq]
  generalize (lg_sl ([.ref (a 0), .ref (a1 0)]) ++ List.replicate (3 - (lg_sl ([.ref (a 0), .ref (a1 0)])).length) Slot.unset).toArray = ls at hl ⊢
  have hl : lv_has ls 3 [(0, .ref (a 0)), (1, .ref (a1 0))] := hl
  show W p l e RM_X5_trickClause s m (([.ref (a 0), .ref (a1 0)] : List Value).toArray) below meth c s.heap [] 0 0 (MQ below (QV D A (fun (u : HC × HC) => (kT cI a u.1 ++ (kL cI a1 u.2))) r) (([.ref (a 0), .ref (a1 0)] : List Value).toArray) s 0 0 A) (F0 m 0 ls [])
  refine lv_aload_n hx hb dX5_trickClause_0 rfl (lv_at hl 1 rfl) ?_
  refine va_get (D := D) (ci := 2) (v := .int (x1 0 4)) (C := RX2) (T := TX2) (N := 18) hx hb hG inG2 hown hK hP 2 at_TL_1_0 rfl 4 (by decide) (hG _ g_125) (fun _ h9 => h9) rfl dX5_trickClause_1 ?_
  refine lv_topi (fun v1 ev1 => ?_)
  have hf := nm_x ev1 hf
  refine lv_istore_n (lv' := [(2, .int v1), (0, .ref (a 0)), (1, .ref (a1 0))]) hx hb dX5_trickClause_4 rfl hl (by decide) rfl (fun ls hl => ?_)
  refine lv_iload_n hx hb dX5_trickClause_5 rfl (lv_at hl 0 rfl) ?_
  refine lv_iconst (v := (4 : Int32)) hx hb dX5_trickClause_6 (by decide) ?_
  refine lv_icmp_lt (tgt := 20) hx hb dX5_trickClause_7 (by decide) (fun cc7 => ?_) (fun cc7 => ?_)
  · have hf := if_t cc7 hf
    refine lv_aload_n hx hb dX5_trickClause_20 rfl (lv_at hl 1 rfl) ?_
    refine lv_dup hx hb dX5_trickClause_21 rfl ?_
    refine va_get (D := D) (ci := 5) (v := .int (x 0 2)) (C := RX5) (T := TX5) (N := 6) hx hb hG inG5 hown hK hP 0 at_TL_0_0 rfl 2 (by decide) (hG _ g_96) (fun _ h9 => h9) rfl dX5_trickClause_22 ?_
    refine lv_iconst (v := (1 : Int32)) hx hb dX5_trickClause_25 (by decide) ?_
    refine lv_iadd hx hb dX5_trickClause_26 ?_
    refine va_put (D := D) (ci := 5) (v := .int ((x 0 2) + (1 : Int32))) (ty := .int) (C := RX5) (T := TX5) (N := 6) hx hb hG inG5 tyX5 tyX5_ok nmX5 hown hK hP hD hS 0 at_TL_0_0 rfl 2 (by decide) (hG _ g_96) (fun _ h9 => h9) rfl (by decide +kernel) rfl rfl (Nat.le_of_ble_eq_true rfl) dX5_trickClause_27 (fun H locs hP hD hS => ?_)
    obtain ⟨X2, eX2⟩ : ∃ y : HC, y = (sf x 2 ((x 0 2) + (1 : Int32))) := ⟨_, rfl⟩
    have hf := nm_x eX2 hf
    have hP := wP (sf_TL_0_2.trans (congrArg (fun z : HC => (kT cI a z ++ (kL cI a1 x1))) eX2.symm)) hP
    have hD := wD (sf_TL_0_2.trans (congrArg (fun z : HC => (kT cI a z ++ (kL cI a1 x1))) eX2.symm)) hD
    refine lv_aload_n hx hb dX5_trickClause_30 rfl (lv_at hl 2 rfl) ?_
    refine va_get (D := D) (ci := 2) (v := .ref (a1 9)) (C := RX2) (T := TX2) (N := 18) hx hb hG inG2 hown hK hP 2 at_TL_1_0 rfl 14 (by decide) (hG _ g_157) (fun _ h9 => h9) rfl dX5_trickClause_31 ?_
    refine lv_iload_n hx hb dX5_trickClause_34 rfl (lv_at hl 0 rfl) ?_
    refine lv_aload_n hx hb dX5_trickClause_35 rfl (lv_at hl 1 rfl) ?_
    refine lv_iconst (v := (0 : Int32)) hx hb dX5_trickClause_36 (by decide) ?_
    refine lv_aload_n hx hb dX5_trickClause_37 rfl (lv_at hl 2 rfl) ?_
    refine va_get (D := D) (ci := 2) (v := .int (x1 0 3)) (C := RX2) (T := TX2) (N := 18) hx hb hG inG2 hown hK hP 2 at_TL_1_0 rfl 3 (by decide) (hG _ g_122) (fun _ h9 => h9) rfl dX5_trickClause_38 ?_
    refine lv_iconst (v := (1 : Int32)) hx hb dX5_trickClause_41 (by decide) ?_
    refine lv_isub hx hb dX5_trickClause_42 ?_
    obtain ⟨q3, hq3, hf⟩ := bd_x hf
    have hPc := subP [0, 1] sub_TL_T_0 hP
    have hDc := va_D.sub hD [0, 1] rfl sub_TL_T_0
    have hFc := va_free hD hS hA [0, 1] sub_TL_T_0
    refine va_calli (va_runV (As := [.int (0 : Int32), .int ((x1 0 3) - (1 : Int32))]) (rest := [.int v1, .ref (a1 9)]) ⟨hx, hb, hml, hown, hG⟩ (c_X5_number l D cI cZ a X2 (0 : Int32) ((x1 0 3) - (1 : Int32)) H.size hq3) (cwV 2 hG (gV g_268 g_269 g_4 g_71 g_270) rfl rfl rfl (by decide +kernel) ⟨Nat.le_of_ble_eq_true rfl, Nat.le_of_ble_eq_true rfl⟩) ⟨pre_blind, va_recv hK hPc (ci := 5) (q0 := 0) rfl rfl, fun U hU hW => ⟨rfl, pre_of hPc hK hDc hnw hU hW⟩⟩ rfl rfl hl.1 rfl (lv_room (Nat.le_of_ble_eq_true rfl)) dX5_trickClause_43 ⟨Nat.le_of_ble_eq_true rfl, Nat.le_of_ble_eq_true rfl⟩) hS (fun q _ h => hFc q h) hFc (fun v u t H locs ht hvm hw hB hz1 hk1 hS => ?_)
    obtain ⟨rfl, rfl⟩ := hw
    obtain ⟨hP1, hD1⟩ := hB
    rw [ht] at hP1
    obtain ⟨hP, hD⟩ := back hP hD [0, 1] sub_TL_T_0 rfl hk1 hFc hP1 hD1
    have hP := wP put_TL_T_0_0 hP
    have hD := wD put_TL_T_0_0 hD
    obtain ⟨hb46, hf⟩ := gd hf
    refine va_iast (cA := cI) (n := 4) (f := x1 9) hx hb hK hP hD hS 11 0 at_TL_1_9 rfl (inb_in hb46) dX5_trickClause_46 (fun H locs hP hD hS => ?_)
    obtain ⟨X4, eX4⟩ : ∃ y : HC, y = (sa x1 9 v1 q3.1) := ⟨_, rfl⟩
    have hf := nm_x eX4 hf
    have hP := wP (sa_TL_1_9.trans (congrArg (fun z : HC => (kT cI a q3.2 ++ (kL cI a1 z))) eX4.symm)) hP
    have hD := wD (sa_TL_1_9.trans (congrArg (fun z : HC => (kT cI a q3.2 ++ (kL cI a1 z))) eX4.symm)) hD
    refine lv_aload_n hx hb dX5_trickClause_47 rfl (lv_at hl 2 rfl) ?_
    refine va_get (D := D) (ci := 2) (v := .ref (a1 10)) (C := RX2) (T := TX2) (N := 18) hx hb hG inG2 hown hK hP 2 at_TL_1_0 rfl 15 (by decide) (hG _ g_160) (fun _ h9 => h9) rfl dX5_trickClause_48 ?_
    refine lv_iload_n hx hb dX5_trickClause_51 rfl (lv_at hl 0 rfl) ?_
    refine lv_aload_n hx hb dX5_trickClause_52 rfl (lv_at hl 1 rfl) ?_
    refine lv_iconst (v := (1 : Int32)) hx hb dX5_trickClause_53 (by decide) ?_
    refine lv_bipush (v := (99 : Int32)) hx hb dX5_trickClause_54 (by decide) ?_
    obtain ⟨q5, hq5, hf⟩ := bd_x hf
    have hPc := subP [0, 1] sub_TL_T_0 hP
    have hDc := va_D.sub hD [0, 1] rfl sub_TL_T_0
    have hFc := va_free hD hS hA [0, 1] sub_TL_T_0
    refine va_calli (va_runV (As := [.int (1 : Int32), .int (99 : Int32)]) (rest := [.int v1, .ref (a1 10)]) ⟨hx, hb, hml, hown, hG⟩ (c_X5_number l D cI cZ a q3.2 (1 : Int32) (99 : Int32) H.size hq5) (cwV 2 hG (gV g_268 g_269 g_4 g_71 g_270) rfl rfl rfl (by decide +kernel) ⟨Nat.le_of_ble_eq_true rfl, Nat.le_of_ble_eq_true rfl⟩) ⟨pre_blind, va_recv hK hPc (ci := 5) (q0 := 0) rfl rfl, fun U hU hW => ⟨rfl, pre_of hPc hK hDc hnw hU hW⟩⟩ rfl rfl hl.1 rfl (lv_room (Nat.le_of_ble_eq_true rfl)) dX5_trickClause_56 ⟨Nat.le_of_ble_eq_true rfl, Nat.le_of_ble_eq_true rfl⟩) hS (fun q _ h => hFc q h) hFc (fun v u t H locs ht hvm hw hB hz1 hk1 hS => ?_)
    obtain ⟨rfl, rfl⟩ := hw
    obtain ⟨hP1, hD1⟩ := hB
    rw [ht] at hP1
    obtain ⟨hP, hD⟩ := back hP hD [0, 1] sub_TL_T_0 rfl hk1 hFc hP1 hD1
    have hP := wP put_TL_T_0_0 hP
    have hD := wD put_TL_T_0_0 hD
    obtain ⟨hb59, hf⟩ := gd hf
    refine va_iast (cA := cI) (n := 4) (f := X4 10) hx hb hK hP hD hS 12 0 at_TL_1_10 rfl (inb_in hb59) dX5_trickClause_59 (fun H locs hP hD hS => ?_)
    obtain ⟨X6, eX6⟩ : ∃ y : HC, y = (sa X4 10 v1 q5.1) := ⟨_, rfl⟩
    have hf := nm_x eX6 hf
    have hP := wP (sa_TL_1_10.trans (congrArg (fun z : HC => (kT cI a q5.2 ++ (kL cI a1 z))) eX6.symm)) hP
    have hD := wD (sa_TL_1_10.trans (congrArg (fun z : HC => (kT cI a q5.2 ++ (kL cI a1 z))) eX6.symm)) hD
    refine lv_aload_n hx hb dX5_trickClause_60 rfl (lv_at hl 2 rfl) ?_
    refine va_get (D := D) (ci := 2) (v := .ref (a1 11)) (C := RX2) (T := TX2) (N := 18) hx hb hG inG2 hown hK hP 2 at_TL_1_0 rfl 16 (by decide) (hG _ g_163) (fun _ h9 => h9) rfl dX5_trickClause_61 ?_
    refine lv_iload_n hx hb dX5_trickClause_64 rfl (lv_at hl 0 rfl) ?_
    refine lv_aload_n hx hb dX5_trickClause_65 rfl (lv_at hl 1 rfl) ?_
    refine lv_iconst (v := (0 : Int32)) hx hb dX5_trickClause_66 (by decide) ?_
    refine lv_bipush (v := (99 : Int32)) hx hb dX5_trickClause_67 (by decide) ?_
    obtain ⟨q7, hq7, hf⟩ := bd_x hf
    have hPc := subP [0, 1] sub_TL_T_0 hP
    have hDc := va_D.sub hD [0, 1] rfl sub_TL_T_0
    have hFc := va_free hD hS hA [0, 1] sub_TL_T_0
    refine va_calli (va_runV (As := [.int (0 : Int32), .int (99 : Int32)]) (rest := [.int v1, .ref (a1 11)]) ⟨hx, hb, hml, hown, hG⟩ (c_X5_number l D cI cZ a q5.2 (0 : Int32) (99 : Int32) H.size hq7) (cwV 2 hG (gV g_268 g_269 g_4 g_71 g_270) rfl rfl rfl (by decide +kernel) ⟨Nat.le_of_ble_eq_true rfl, Nat.le_of_ble_eq_true rfl⟩) ⟨pre_blind, va_recv hK hPc (ci := 5) (q0 := 0) rfl rfl, fun U hU hW => ⟨rfl, pre_of hPc hK hDc hnw hU hW⟩⟩ rfl rfl hl.1 rfl (lv_room (Nat.le_of_ble_eq_true rfl)) dX5_trickClause_69 ⟨Nat.le_of_ble_eq_true rfl, Nat.le_of_ble_eq_true rfl⟩) hS (fun q _ h => hFc q h) hFc (fun v u t H locs ht hvm hw hB hz1 hk1 hS => ?_)
    obtain ⟨rfl, rfl⟩ := hw
    obtain ⟨hP1, hD1⟩ := hB
    rw [ht] at hP1
    obtain ⟨hP, hD⟩ := back hP hD [0, 1] sub_TL_T_0 rfl hk1 hFc hP1 hD1
    have hP := wP put_TL_T_0_0 hP
    have hD := wD put_TL_T_0_0 hD
    obtain ⟨hb72, hf⟩ := gd hf
    refine va_iast (cA := cI) (n := 4) (f := X6 11) hx hb hK hP hD hS 13 0 at_TL_1_11 rfl (inb_in hb72) dX5_trickClause_72 (fun H locs hP hD hS => ?_)
    obtain ⟨X8, eX8⟩ : ∃ y : HC, y = (sa X6 11 v1 q7.1) := ⟨_, rfl⟩
    have hf := nm_x eX8 hf
    have hP := wP (sa_TL_1_11.trans (congrArg (fun z : HC => (kT cI a q7.2 ++ (kL cI a1 z))) eX8.symm)) hP
    have hD := wD (sa_TL_1_11.trans (congrArg (fun z : HC => (kT cI a q7.2 ++ (kL cI a1 z))) eX8.symm)) hD
    refine lv_aload_n hx hb dX5_trickClause_73 rfl (lv_at hl 1 rfl) ?_
    obtain ⟨q9, hq9, hf⟩ := bd_x hf
    have hPc := subP [0, 1] sub_TL_T_0 hP
    have hDc := va_D.sub hD [0, 1] rfl sub_TL_T_0
    have hFc := va_free hD hS hA [0, 1] sub_TL_T_0
    refine va_callv (va_runV (As := []) (rest := []) ⟨hx, hb, hml, hown, hG⟩ (c_X5_endOfClause l D cI cZ a q7.2 H.size hq9) (cwV 0 hG (gV g_274 g_275 g_6 g_71 g_276) rfl rfl rfl (by decide +kernel) ⟨Nat.le_of_ble_eq_true rfl, Nat.le_of_ble_eq_true rfl⟩) ⟨pre_blind, va_recv hK hPc (ci := 5) (q0 := 0) rfl rfl, fun U hU hW => ⟨rfl, pre_of hPc hK hDc hnw hU hW⟩⟩ rfl rfl hl.1 rfl (lv_room (Nat.le_of_ble_eq_true rfl)) dX5_trickClause_74 ⟨Nat.le_of_ble_eq_true rfl, Nat.le_of_ble_eq_true rfl⟩) hS (fun q _ h => hFc q h) hFc (fun u t H locs ht hvm hw hB hz1 hk1 hS => ?_)
    have hw := hw.symm; subst hw
    obtain ⟨hP1, hD1⟩ := hB
    rw [ht] at hP1
    obtain ⟨hP, hD⟩ := back hP hD [0, 1] sub_TL_T_0 rfl hk1 hFc hP1 hD1
    have hP := wP put_TL_T_0_0 hP
    have hD := wD put_TL_T_0_0 hD
    refine lv_aload_n hx hb dX5_trickClause_77 rfl (lv_at hl 2 rfl) ?_
    refine lv_iload_n hx hb dX5_trickClause_78 rfl (lv_at hl 0 rfl) ?_
    refine lv_iconst (v := (1 : Int32)) hx hb dX5_trickClause_79 (by decide) ?_
    refine lv_iadd hx hb dX5_trickClause_80 ?_
    refine va_put (D := D) (ci := 2) (v := .int (v1 + (1 : Int32))) (ty := .int) (C := RX2) (T := TX2) (N := 18) hx hb hG inG2 tyX2 tyX2_ok nmX2 hown hK hP hD hS 2 at_TL_1_0 rfl 4 (by decide) (hG _ g_125) (fun _ h9 => h9) rfl (by decide +kernel) rfl rfl (Nat.le_of_ble_eq_true rfl) dX5_trickClause_81 (fun H locs hP hD hS => ?_)
    obtain ⟨X10, eX10⟩ : ∃ y : HC, y = (sf X8 4 (v1 + (1 : Int32))) := ⟨_, rfl⟩
    have hf := nm_x eX10 hf
    have hP := wP (sf_TL_1_4.trans (congrArg (fun z : HC => (kT cI a q9 ++ (kL cI a1 z))) eX10.symm)) hP
    have hD := wD (sf_TL_1_4.trans (congrArg (fun z : HC => (kT cI a q9 ++ (kL cI a1 z))) eX10.symm)) hD
    exact W.vret hx hb hr (fun t ht hW => ⟨⟨(q9, X10), rfl, Option.some.inj hf, by rw [ht]; exact hP, hD⟩, hS.F ht⟩) hS.2.2 dX5_trickClause_84
  · have hf := if_f cc7 hf
    refine lv_aload_n hx hb dX5_trickClause_10 rfl (lv_at hl 1 rfl) ?_
    refine lv_iconst (v := (3 : Int32)) hx hb dX5_trickClause_11 (by decide) ?_
    refine lv_aload_n hx hb dX5_trickClause_12 rfl (lv_at hl 1 rfl) ?_
    refine va_get (D := D) (ci := 5) (v := .int (x 0 2)) (C := RX5) (T := TX5) (N := 6) hx hb hG inG5 hown hK hP 0 at_TL_0_0 rfl 2 (by decide) (hG _ g_96) (fun _ h9 => h9) rfl dX5_trickClause_13 ?_
    obtain ⟨q11, hq11, hf⟩ := bd_x hf
    have hPc := subP [0, 1] sub_TL_T_0 hP
    have hDc := va_D.sub hD [0, 1] rfl sub_TL_T_0
    have hFc := va_free hD hS hA [0, 1] sub_TL_T_0
    refine va_callv (va_runV (As := [.int (3 : Int32), .int (x 0 2)]) (rest := []) ⟨hx, hb, hml, hown, hG⟩ (c_X5_fail l D cI cZ a x (3 : Int32) (x 0 2) s.heap.size hq11) (cwV 2 hG (gV g_262 g_263 g_2 g_71 g_264) rfl rfl rfl (by decide +kernel) ⟨Nat.le_of_ble_eq_true rfl, Nat.le_of_ble_eq_true rfl⟩) ⟨pre_blind, va_recv hK hPc (ci := 5) (q0 := 0) rfl rfl, fun U hU hW => ⟨rfl, pre_of hPc hK hDc hnw hU hW⟩⟩ rfl rfl hl.1 rfl (lv_room (Nat.le_of_ble_eq_true rfl)) dX5_trickClause_16 ⟨Nat.le_of_ble_eq_true rfl, Nat.le_of_ble_eq_true rfl⟩) hS (fun q _ h => hFc q h) hFc (fun u t H locs ht hvm hw hB hz1 hk1 hS => ?_)
    have hw := hw.symm; subst hw
    obtain ⟨hP1, hD1⟩ := hB
    rw [ht] at hP1
    obtain ⟨hP, hD⟩ := back hP hD [0, 1] sub_TL_T_0 rfl hk1 hFc hP1 hD1
    have hP := wP put_TL_T_0_0 hP
    have hD := wD put_TL_T_0_0 hD
    exact W.vret hx hb hr (fun t ht hW => ⟨⟨(q11, x1), rfl, Option.some.inj hf, by rw [ht]; exact hP, hD⟩, hS.F ht⟩) hS.2.2 dX5_trickClause_19
def f_X5_thoughtClause_j62 (x1 : HC) (q6 : Int32) (X8 : HC) : Option (HC × HC) := bd (f_X5_number X8 (0 : Int32) (99 : Int32)) (fun (q9 : Int32 × HC) => (if inb q6 30 then nm (sa x1 12 q6 q9.1) (fun (X10 : HC) => nm (sf X10 5 ((X10 0 5) ||| ((1 : Int32) <<< (q6 &&& 31)))) (fun (X11 : HC) => bd (f_X5_endOfClause q9.2) (fun (q12 : HC) => some (q12, X11)))) else none))
def f_X5_thoughtClause (x : HC) (x1 : HC) : Option (HC × HC) := nm (sf x 2 ((x 0 2) + (1 : Int32))) (fun (X1 : HC) => bd (f_X5_number X1 (0 : Int32) ((x1 0 0) - (1 : Int32))) (fun (q2 : Int32 × HC) => nm q2.1 (fun (v3 : Int32) => bd (f_X5_number q2.2 (0 : Int32) ((x1 0 1) - (1 : Int32))) (fun (q4 : Int32 × HC) => nm q4.1 (fun (v5 : Int32) => bd (f_X6_slot v3 v5) (fun (q6 : Int32) => bd (f_X6_has (x1 0 5) q6) (fun (q7 : Int32) => (if q7 = 0 then f_X5_thoughtClause_j62 x1 q6 q4.2 else bd (f_X5_fail q4.2 (4 : Int32) (q4.2 0 3)) (fun (q13 : HC) => f_X5_thoughtClause_j62 x1 q6 q13)))))))))
abbrev RM_X5_thoughtClause : Room := { frames := 2, cells := 0, slots := 0, locals := 46 }
set_option maxHeartbeats 4000000 in
set_option maxRecDepth 100000 in
theorem c_X5_thoughtClause (l : Launch) (D : va_G) (cI cZ : ClassId) (a a1 : Nat → Nat) (x : HC) (x1 : HC) (sz : Nat) {r : HC × HC} (hf : f_X5_thoughtClause x x1 = some r) : Met l yX5_thoughtClause (wM yX5_thoughtClause cX5_thoughtClause 5 none) RM_X5_thoughtClause (va_Pc [.ref (a 0), .ref (a1 0)] (pre D cI cZ (kT cI a x ++ (kL cI a1 x1)) sz)) (QV D (va_A (kT cI a x ++ (kL cI a1 x1)) sz) (fun (u : HC × HC) => (kT cI a u.1 ++ (kL cI a1 u.2))) r) 0 0 (va_A (kT cI a x ++ (kL cI a1 x1)) sz) := by
  unfold f_X5_thoughtClause at hf
  refine Met.ofW (cc := cX5_thoughtClause) (maxL := 5) (ret := none) (by decide) rfl ?_
  intro p e s m args below meth c s₁ B hml hv
  obtain ⟨rfl, hsz, hP, hK, hD0, hnw⟩ := hv
  have hx := B.exec
  have hb := B.bytes
  have hr := B.returns
  have hts := atoms_spec (ws := wM yX5_thoughtClause cX5_thoughtClause 5 none) B.pre
  have hG : ∀ w ∈ GW, w.before (([.ref (a 0), .ref (a1 0)] : List Value).toArray) s = true := fun w h => hts w (List.mem_cons_of_mem _ h)
  have hown : s.vm.findClass RX5 = some m.cls := findClass_of_methodNamed B.named
  have hlocks := B.notSynchronized
  subst hsz
  have hD := hD0.self (sz := s.heap.size)
  generalize hAe : va_A (kT cI a x ++ (kL cI a1 x1)) s.heap.size = A at hD ⊢
  have hA : ∀ q : Nat, s.heap.size ≤ q → A q := fun q h => by rw [← hAe]; exact Or.inr h
  have hS : va_S A s.heap s.heap [] := va_S.rf
  have hl := lv_entry ([.ref (a 0), .ref (a1 0)]) (n := 5) (Nat.le_of_ble_eq_true rfl)
  rw [lg_entry_eq]
  generalize (lg_sl ([.ref (a 0), .ref (a1 0)]) ++ List.replicate (5 - (lg_sl ([.ref (a 0), .ref (a1 0)])).length) Slot.unset).toArray = ls at hl ⊢
  have hl : lv_has ls 5 [(0, .ref (a 0)), (1, .ref (a1 0))] := hl
  show W p l e RM_X5_thoughtClause s m (([.ref (a 0), .ref (a1 0)] : List Value).toArray) below meth c s.heap [] 0 0 (MQ below (QV D A (fun (u : HC × HC) => (kT cI a u.1 ++ (kL cI a1 u.2))) r) (([.ref (a 0), .ref (a1 0)] : List Value).toArray) s 0 0 A) (F0 m 0 ls [])
  refine lv_aload_n hx hb dX5_thoughtClause_0 rfl (lv_at hl 0 rfl) ?_
  refine lv_dup hx hb dX5_thoughtClause_1 rfl ?_
  refine va_get (D := D) (ci := 5) (v := .int (x 0 2)) (C := RX5) (T := TX5) (N := 6) hx hb hG inG5 hown hK hP 0 at_TL_0_0 rfl 2 (by decide) (hG _ g_96) (fun _ h9 => h9) rfl dX5_thoughtClause_2 ?_
  refine lv_iconst (v := (1 : Int32)) hx hb dX5_thoughtClause_5 (by decide) ?_
  refine lv_iadd hx hb dX5_thoughtClause_6 ?_
  refine va_put (D := D) (ci := 5) (v := .int ((x 0 2) + (1 : Int32))) (ty := .int) (C := RX5) (T := TX5) (N := 6) hx hb hG inG5 tyX5 tyX5_ok nmX5 hown hK hP hD hS 0 at_TL_0_0 rfl 2 (by decide) (hG _ g_96) (fun _ h9 => h9) rfl (by decide +kernel) rfl rfl (Nat.le_of_ble_eq_true rfl) dX5_thoughtClause_7 (fun H locs hP hD hS => ?_)
  obtain ⟨X1, eX1⟩ : ∃ y : HC, y = (sf x 2 ((x 0 2) + (1 : Int32))) := ⟨_, rfl⟩
  have hf := nm_x eX1 hf
  have hP := wP (sf_TL_0_2.trans (congrArg (fun z : HC => (kT cI a z ++ (kL cI a1 x1))) eX1.symm)) hP
  have hD := wD (sf_TL_0_2.trans (congrArg (fun z : HC => (kT cI a z ++ (kL cI a1 x1))) eX1.symm)) hD
  refine lv_aload_n hx hb dX5_thoughtClause_10 rfl (lv_at hl 0 rfl) ?_
  refine lv_iconst (v := (0 : Int32)) hx hb dX5_thoughtClause_11 (by decide) ?_
  refine lv_aload_n hx hb dX5_thoughtClause_12 rfl (lv_at hl 1 rfl) ?_
  refine va_get (D := D) (ci := 2) (v := .int (x1 0 0)) (C := RX2) (T := TX2) (N := 18) hx hb hG inG2 hown hK hP 2 at_TL_1_0 rfl 0 (by decide) (hG _ g_111) (fun _ h9 => h9) rfl dX5_thoughtClause_13 ?_
  refine lv_iconst (v := (1 : Int32)) hx hb dX5_thoughtClause_16 (by decide) ?_
  refine lv_isub hx hb dX5_thoughtClause_17 ?_
  obtain ⟨q2, hq2, hf⟩ := bd_x hf
  have hPc := subP [0, 1] sub_TL_T_0 hP
  have hDc := va_D.sub hD [0, 1] rfl sub_TL_T_0
  have hFc := va_free hD hS hA [0, 1] sub_TL_T_0
  refine va_calli (va_runV (As := [.int (0 : Int32), .int ((x1 0 0) - (1 : Int32))]) (rest := []) ⟨hx, hb, hml, hown, hG⟩ (c_X5_number l D cI cZ a X1 (0 : Int32) ((x1 0 0) - (1 : Int32)) H.size hq2) (cwV 2 hG (gV g_268 g_269 g_4 g_71 g_270) rfl rfl rfl (by decide +kernel) ⟨Nat.le_of_ble_eq_true rfl, Nat.le_of_ble_eq_true rfl⟩) ⟨pre_blind, va_recv hK hPc (ci := 5) (q0 := 0) rfl rfl, fun U hU hW => ⟨rfl, pre_of hPc hK hDc hnw hU hW⟩⟩ rfl rfl hl.1 rfl (lv_room (Nat.le_of_ble_eq_true rfl)) dX5_thoughtClause_18 ⟨Nat.le_of_ble_eq_true rfl, Nat.le_of_ble_eq_true rfl⟩) hS (fun q _ h => hFc q h) hFc (fun v u t H locs ht hvm hw hB hz1 hk1 hS => ?_)
  obtain ⟨rfl, rfl⟩ := hw
  obtain ⟨hP1, hD1⟩ := hB
  rw [ht] at hP1
  obtain ⟨hP, hD⟩ := back hP hD [0, 1] sub_TL_T_0 rfl hk1 hFc hP1 hD1
  have hP := wP put_TL_T_0_0 hP
  have hD := wD put_TL_T_0_0 hD
  refine lv_topi (fun v3 ev3 => ?_)
  have hf := nm_x ev3 hf
  refine lv_istore_n (lv' := [(2, .int v3), (0, .ref (a 0)), (1, .ref (a1 0))]) hx hb dX5_thoughtClause_21 rfl hl (by decide) rfl (fun ls hl => ?_)
  refine lv_aload_n hx hb dX5_thoughtClause_22 rfl (lv_at hl 1 rfl) ?_
  refine lv_iconst (v := (0 : Int32)) hx hb dX5_thoughtClause_23 (by decide) ?_
  refine lv_aload_n hx hb dX5_thoughtClause_24 rfl (lv_at hl 2 rfl) ?_
  refine va_get (D := D) (ci := 2) (v := .int (x1 0 1)) (C := RX2) (T := TX2) (N := 18) hx hb hG inG2 hown hK hP 2 at_TL_1_0 rfl 1 (by decide) (hG _ g_115) (fun _ h9 => h9) rfl dX5_thoughtClause_25 ?_
  refine lv_iconst (v := (1 : Int32)) hx hb dX5_thoughtClause_28 (by decide) ?_
  refine lv_isub hx hb dX5_thoughtClause_29 ?_
  obtain ⟨q4, hq4, hf⟩ := bd_x hf
  have hPc := subP [0, 1] sub_TL_T_0 hP
  have hDc := va_D.sub hD [0, 1] rfl sub_TL_T_0
  have hFc := va_free hD hS hA [0, 1] sub_TL_T_0
  refine va_calli (va_runV (As := [.int (0 : Int32), .int ((x1 0 1) - (1 : Int32))]) (rest := []) ⟨hx, hb, hml, hown, hG⟩ (c_X5_number l D cI cZ a q2.2 (0 : Int32) ((x1 0 1) - (1 : Int32)) H.size hq4) (cwV 2 hG (gV g_268 g_269 g_4 g_71 g_270) rfl rfl rfl (by decide +kernel) ⟨Nat.le_of_ble_eq_true rfl, Nat.le_of_ble_eq_true rfl⟩) ⟨pre_blind, va_recv hK hPc (ci := 5) (q0 := 0) rfl rfl, fun U hU hW => ⟨rfl, pre_of hPc hK hDc hnw hU hW⟩⟩ rfl rfl hl.1 rfl (lv_room (Nat.le_of_ble_eq_true rfl)) dX5_thoughtClause_30 ⟨Nat.le_of_ble_eq_true rfl, Nat.le_of_ble_eq_true rfl⟩) hS (fun q _ h => hFc q h) hFc (fun v u t H locs ht hvm hw hB hz1 hk1 hS => ?_)
  obtain ⟨rfl, rfl⟩ := hw
  obtain ⟨hP1, hD1⟩ := hB
  rw [ht] at hP1
  obtain ⟨hP, hD⟩ := back hP hD [0, 1] sub_TL_T_0 rfl hk1 hFc hP1 hD1
  have hP := wP put_TL_T_0_0 hP
  have hD := wD put_TL_T_0_0 hD
  refine lv_topi (fun v5 ev5 => ?_)
  have hf := nm_x ev5 hf
  refine lv_istore_n (lv' := [(3, .int v5), (2, .int v3), (0, .ref (a 0)), (1, .ref (a1 0))]) hx hb dX5_thoughtClause_33 rfl hl (by decide) rfl (fun ls hl => ?_)
  refine lv_iload_n hx hb dX5_thoughtClause_34 rfl (lv_at hl 1 rfl) ?_
  refine lv_iload_n hx hb dX5_thoughtClause_35 rfl (lv_at hl 0 rfl) ?_
  obtain ⟨q6, hq6, hf⟩ := bd_x hf
  have hFc := va_free (wc := []) hD hS hA [] rfl
  refine va_calli (va_runSN (As := [.int v3, .int v5]) (rest := []) ⟨hx, hb, hml, hown, hG⟩ (c_X6_slot l D cI cZ v3 v5 H.size hq6) ⟨va_cnB 2 hG (gC g_297) rfl rfl rfl hnw.2.1 (hG _ g_70) (by decide +kernel) ⟨Nat.le_of_ble_eq_true rfl, Nat.le_of_ble_eq_true rfl⟩, hG _ g_296, trivial⟩ ⟨pre_blind, fun U hU hW => ⟨rfl, pre_of P_nil hK D_nil hnw hU hW⟩⟩ rfl rfl hl.1 rfl (lv_room (Nat.le_of_ble_eq_true rfl)) dX5_thoughtClause_36 ⟨Nat.le_of_ble_eq_true rfl, Nat.le_of_ble_eq_true rfl⟩) hS (fun q _ h => hFc q h) hFc (fun v u t H locs ht hvm hw hB hz1 hk1 hS => ?_)
  have hw := hw.symm; subst hw
  obtain ⟨hP1, hD1⟩ := hB
  rw [ht] at hP1
  obtain ⟨hP, hD⟩ := back hP hD [] rfl rfl hk1 hFc hP1 hD1
  refine lv_istore (lv' := [(4, .int q6), (3, .int v5), (2, .int v3), (0, .ref (a 0)), (1, .ref (a1 0))]) hx hb dX5_thoughtClause_39 hl (by decide) rfl (fun ls hl => ?_)
  refine lv_aload_n hx hb dX5_thoughtClause_41 rfl (lv_at hl 4 rfl) ?_
  refine va_get (D := D) (ci := 2) (v := .int (x1 0 5)) (C := RX2) (T := TX2) (N := 18) hx hb hG inG2 hown hK hP 2 at_TL_1_0 rfl 5 (by decide) (hG _ g_127) (fun _ h9 => h9) rfl dX5_thoughtClause_42 ?_
  refine lv_iload hx hb dX5_thoughtClause_45 (lv_at hl 0 rfl) ?_
  obtain ⟨q7, hq7, hf⟩ := bd_x hf
  have hFc := va_free (wc := []) hD hS hA [] rfl
  refine va_calli (va_runSN (As := [.int (x1 0 5), .int q6]) (rest := []) ⟨hx, hb, hml, hown, hG⟩ (c_X6_has l D cI cZ (x1 0 5) q6 H.size hq7) ⟨va_cnB 2 hG (gC g_285) rfl rfl rfl hnw.1 (hG _ g_70) (by decide +kernel) ⟨Nat.le_of_ble_eq_true rfl, Nat.le_of_ble_eq_true rfl⟩, hG _ g_284, trivial⟩ ⟨pre_blind, fun U hU hW => ⟨rfl, pre_of P_nil hK D_nil hnw hU hW⟩⟩ rfl rfl hl.1 rfl (lv_room (Nat.le_of_ble_eq_true rfl)) dX5_thoughtClause_47 ⟨Nat.le_of_ble_eq_true rfl, Nat.le_of_ble_eq_true rfl⟩) hS (fun q _ h => hFc q h) hFc (fun v u t H locs ht hvm hw hB hz1 hk1 hS => ?_)
  have hw := hw.symm; subst hw
  obtain ⟨hP1, hD1⟩ := hB
  rw [ht] at hP1
  obtain ⟨hP, hD⟩ := back hP hD [] rfl rfl hk1 hFc hP1 hD1
  have J62 : ∀ (X8 : HC) (H : Heap) (locs : List Loc) (ls : Array Slot), va_P D vwCl (kT cI a X8 ++ (kL cI a1 x1)) H → va_D A (kT cI a X8 ++ (kL cI a1 x1)) → va_S A s.heap H locs → lv_has ls 5 [(0, .ref (a 0)), (1, .ref (a1 0)), (4, .int q6)] → f_X5_thoughtClause_j62 x1 q6 X8 = some r → W p l e RM_X5_thoughtClause s m (([.ref (a 0), .ref (a1 0)] : List Value).toArray) below meth c H locs 0 0 (MQ below (QV D A (fun (u : HC × HC) => (kT cI a u.1 ++ (kL cI a1 u.2))) r) (([.ref (a 0), .ref (a1 0)] : List Value).toArray) s 0 0 A) (F0 m 62 ls []) := by
    intro X8 H locs ls hP hD hS hl hf
    unfold f_X5_thoughtClause_j62 at hf
    refine lv_aload_n hx hb dX5_thoughtClause_62 rfl (lv_at hl 1 rfl) ?_
    refine va_get (D := D) (ci := 2) (v := .ref (a1 12)) (C := RX2) (T := TX2) (N := 18) hx hb hG inG2 hown hK hP 2 at_TL_1_0 rfl 17 (by decide) (hG _ g_166) (fun _ h9 => h9) rfl dX5_thoughtClause_63 ?_
    refine lv_iload hx hb dX5_thoughtClause_66 (lv_at hl 2 rfl) ?_
    refine lv_aload_n hx hb dX5_thoughtClause_68 rfl (lv_at hl 0 rfl) ?_
    refine lv_iconst (v := (0 : Int32)) hx hb dX5_thoughtClause_69 (by decide) ?_
    refine lv_bipush (v := (99 : Int32)) hx hb dX5_thoughtClause_70 (by decide) ?_
    obtain ⟨q9, hq9, hf⟩ := bd_x hf
    have hPc := subP [0, 1] sub_TL_T_0 hP
    have hDc := va_D.sub hD [0, 1] rfl sub_TL_T_0
    have hFc := va_free hD hS hA [0, 1] sub_TL_T_0
    refine va_calli (va_runV (As := [.int (0 : Int32), .int (99 : Int32)]) (rest := [.int q6, .ref (a1 12)]) ⟨hx, hb, hml, hown, hG⟩ (c_X5_number l D cI cZ a X8 (0 : Int32) (99 : Int32) H.size hq9) (cwV 2 hG (gV g_268 g_269 g_4 g_71 g_270) rfl rfl rfl (by decide +kernel) ⟨Nat.le_of_ble_eq_true rfl, Nat.le_of_ble_eq_true rfl⟩) ⟨pre_blind, va_recv hK hPc (ci := 5) (q0 := 0) rfl rfl, fun U hU hW => ⟨rfl, pre_of hPc hK hDc hnw hU hW⟩⟩ rfl rfl hl.1 rfl (lv_room (Nat.le_of_ble_eq_true rfl)) dX5_thoughtClause_72 ⟨Nat.le_of_ble_eq_true rfl, Nat.le_of_ble_eq_true rfl⟩) hS (fun q _ h => hFc q h) hFc (fun v u t H locs ht hvm hw hB hz1 hk1 hS => ?_)
    obtain ⟨rfl, rfl⟩ := hw
    obtain ⟨hP1, hD1⟩ := hB
    rw [ht] at hP1
    obtain ⟨hP, hD⟩ := back hP hD [0, 1] sub_TL_T_0 rfl hk1 hFc hP1 hD1
    have hP := wP put_TL_T_0_0 hP
    have hD := wD put_TL_T_0_0 hD
    obtain ⟨hb75, hf⟩ := gd hf
    refine va_iast (cA := cI) (n := 30) (f := x1 12) hx hb hK hP hD hS 14 0 at_TL_1_12 rfl (inb_in hb75) dX5_thoughtClause_75 (fun H locs hP hD hS => ?_)
    obtain ⟨X10, eX10⟩ : ∃ y : HC, y = (sa x1 12 q6 q9.1) := ⟨_, rfl⟩
    have hf := nm_x eX10 hf
    have hP := wP (sa_TL_1_12.trans (congrArg (fun z : HC => (kT cI a q9.2 ++ (kL cI a1 z))) eX10.symm)) hP
    have hD := wD (sa_TL_1_12.trans (congrArg (fun z : HC => (kT cI a q9.2 ++ (kL cI a1 z))) eX10.symm)) hD
    refine lv_aload_n hx hb dX5_thoughtClause_76 rfl (lv_at hl 1 rfl) ?_
    refine lv_dup hx hb dX5_thoughtClause_77 rfl ?_
    refine va_get (D := D) (ci := 2) (v := .int (X10 0 5)) (C := RX2) (T := TX2) (N := 18) hx hb hG inG2 hown hK hP 2 at_TL_1_0 rfl 5 (by decide) (hG _ g_127) (fun _ h9 => h9) rfl dX5_thoughtClause_78 ?_
    refine lv_iconst (v := (1 : Int32)) hx hb dX5_thoughtClause_81 (by decide) ?_
    refine lv_iload hx hb dX5_thoughtClause_82 (lv_at hl 2 rfl) ?_
    refine lv_ishl hx hb dX5_thoughtClause_84 ?_
    refine lv_ior hx hb dX5_thoughtClause_85 ?_
    refine va_put (D := D) (ci := 2) (v := .int ((X10 0 5) ||| ((1 : Int32) <<< (q6 &&& 31)))) (ty := .int) (C := RX2) (T := TX2) (N := 18) hx hb hG inG2 tyX2 tyX2_ok nmX2 hown hK hP hD hS 2 at_TL_1_0 rfl 5 (by decide) (hG _ g_127) (fun _ h9 => h9) rfl (by decide +kernel) rfl rfl (Nat.le_of_ble_eq_true rfl) dX5_thoughtClause_86 (fun H locs hP hD hS => ?_)
    obtain ⟨X11, eX11⟩ : ∃ y : HC, y = (sf X10 5 ((X10 0 5) ||| ((1 : Int32) <<< (q6 &&& 31)))) := ⟨_, rfl⟩
    have hf := nm_x eX11 hf
    have hP := wP (sf_TL_1_5.trans (congrArg (fun z : HC => (kT cI a q9.2 ++ (kL cI a1 z))) eX11.symm)) hP
    have hD := wD (sf_TL_1_5.trans (congrArg (fun z : HC => (kT cI a q9.2 ++ (kL cI a1 z))) eX11.symm)) hD
    refine lv_aload_n hx hb dX5_thoughtClause_89 rfl (lv_at hl 0 rfl) ?_
    obtain ⟨q12, hq12, hf⟩ := bd_x hf
    have hPc := subP [0, 1] sub_TL_T_0 hP
    have hDc := va_D.sub hD [0, 1] rfl sub_TL_T_0
    have hFc := va_free hD hS hA [0, 1] sub_TL_T_0
    refine va_callv (va_runV (As := []) (rest := []) ⟨hx, hb, hml, hown, hG⟩ (c_X5_endOfClause l D cI cZ a q9.2 H.size hq12) (cwV 0 hG (gV g_274 g_275 g_6 g_71 g_276) rfl rfl rfl (by decide +kernel) ⟨Nat.le_of_ble_eq_true rfl, Nat.le_of_ble_eq_true rfl⟩) ⟨pre_blind, va_recv hK hPc (ci := 5) (q0 := 0) rfl rfl, fun U hU hW => ⟨rfl, pre_of hPc hK hDc hnw hU hW⟩⟩ rfl rfl hl.1 rfl (lv_room (Nat.le_of_ble_eq_true rfl)) dX5_thoughtClause_90 ⟨Nat.le_of_ble_eq_true rfl, Nat.le_of_ble_eq_true rfl⟩) hS (fun q _ h => hFc q h) hFc (fun u t H locs ht hvm hw hB hz1 hk1 hS => ?_)
    have hw := hw.symm; subst hw
    obtain ⟨hP1, hD1⟩ := hB
    rw [ht] at hP1
    obtain ⟨hP, hD⟩ := back hP hD [0, 1] sub_TL_T_0 rfl hk1 hFc hP1 hD1
    have hP := wP put_TL_T_0_0 hP
    have hD := wD put_TL_T_0_0 hD
    exact W.vret hx hb hr (fun t ht hW => ⟨⟨(q12, X11), rfl, Option.some.inj hf, by rw [ht]; exact hP, hD⟩, hS.F ht⟩) hS.2.2 dX5_thoughtClause_93
  refine lv_if_eq (tgt := 62) hx hb dX5_thoughtClause_50 (by decide) (fun cc50 => ?_) (fun cc50 => ?_)
  · have hf := if_t cc50 hf
    exact J62 q4.2 _ _ _ hP hD hS (lv_sub hl [3, 4, 0] rfl) hf
  · have hf := if_f cc50 hf
    refine lv_aload_n hx hb dX5_thoughtClause_53 rfl (lv_at hl 3 rfl) ?_
    refine lv_iconst (v := (4 : Int32)) hx hb dX5_thoughtClause_54 (by decide) ?_
    refine lv_aload_n hx hb dX5_thoughtClause_55 rfl (lv_at hl 3 rfl) ?_
    refine va_get (D := D) (ci := 5) (v := .int (q4.2 0 3)) (C := RX5) (T := TX5) (N := 6) hx hb hG inG5 hown hK hP 0 at_TL_0_0 rfl 3 (by decide) (hG _ g_97) (fun _ h9 => h9) rfl dX5_thoughtClause_56 ?_
    obtain ⟨q13, hq13, hf⟩ := bd_x hf
    have hPc := subP [0, 1] sub_TL_T_0 hP
    have hDc := va_D.sub hD [0, 1] rfl sub_TL_T_0
    have hFc := va_free hD hS hA [0, 1] sub_TL_T_0
    refine va_callv (va_runV (As := [.int (4 : Int32), .int (q4.2 0 3)]) (rest := []) ⟨hx, hb, hml, hown, hG⟩ (c_X5_fail l D cI cZ a q4.2 (4 : Int32) (q4.2 0 3) H.size hq13) (cwV 2 hG (gV g_262 g_263 g_2 g_71 g_264) rfl rfl rfl (by decide +kernel) ⟨Nat.le_of_ble_eq_true rfl, Nat.le_of_ble_eq_true rfl⟩) ⟨pre_blind, va_recv hK hPc (ci := 5) (q0 := 0) rfl rfl, fun U hU hW => ⟨rfl, pre_of hPc hK hDc hnw hU hW⟩⟩ rfl rfl hl.1 rfl (lv_room (Nat.le_of_ble_eq_true rfl)) dX5_thoughtClause_59 ⟨Nat.le_of_ble_eq_true rfl, Nat.le_of_ble_eq_true rfl⟩) hS (fun q _ h => hFc q h) hFc (fun u t H locs ht hvm hw hB hz1 hk1 hS => ?_)
    have hw := hw.symm; subst hw
    obtain ⟨hP1, hD1⟩ := hB
    rw [ht] at hP1
    obtain ⟨hP, hD⟩ := back hP hD [0, 1] sub_TL_T_0 rfl hk1 hFc hP1 hD1
    have hP := wP put_TL_T_0_0 hP
    have hD := wD put_TL_T_0_0 hD
    exact J62 q13 _ _ _ hP hD hS (lv_sub hl [3, 4, 0] rfl) hf
def f_X5_clause_j33 (x : HC) (x1 : HC) (v1 : Int32)  : Option (HC × HC) := (if v1 = (99 : Int32) then bd (f_X5_chatClause x x1) (fun (q2 : HC × HC) => some (q2.1, q2.2)) else (if v1 = (100 : Int32) then bd (f_X5_fail x (1 : Int32) (x 0 2)) (fun (q3 : HC) => some (q3, x1)) else (if v1 = (101 : Int32) then bd (f_X5_thoughtClause x x1) (fun (q4 : HC × HC) => some (q4.1, q4.2)) else (if v1 = (102 : Int32) then bd (f_X5_fighterClause x x1) (fun (q5 : HC × HC) => some (q5.1, q5.2)) else (if v1 = (103 : Int32) then bd (f_X5_fail x (1 : Int32) (x 0 2)) (fun (q6 : HC) => some (q6, x1)) else (if v1 = (104 : Int32) then bd (f_X5_fail x (1 : Int32) (x 0 2)) (fun (q7 : HC) => some (q7, x1)) else (if v1 = (105 : Int32) then bd (f_X5_fail x (1 : Int32) (x 0 2)) (fun (q8 : HC) => some (q8, x1)) else (if v1 = (106 : Int32) then bd (f_X5_fail x (1 : Int32) (x 0 2)) (fun (q9 : HC) => some (q9, x1)) else (if v1 = (107 : Int32) then bd (f_X5_fail x (1 : Int32) (x 0 2)) (fun (q10 : HC) => some (q10, x1)) else (if v1 = (108 : Int32) then bd (f_X5_fail x (1 : Int32) (x 0 2)) (fun (q11 : HC) => some (q11, x1)) else (if v1 = (109 : Int32) then bd (f_X5_fail x (1 : Int32) (x 0 2)) (fun (q12 : HC) => some (q12, x1)) else (if v1 = (110 : Int32) then bd (f_X5_fail x (1 : Int32) (x 0 2)) (fun (q13 : HC) => some (q13, x1)) else (if v1 = (111 : Int32) then bd (f_X5_fail x (1 : Int32) (x 0 2)) (fun (q14 : HC) => some (q14, x1)) else (if v1 = (112 : Int32) then bd (f_X5_peopleClause x x1) (fun (q15 : HC × HC) => some (q15.1, q15.2)) else (if v1 = (113 : Int32) then bd (f_X5_fail x (1 : Int32) (x 0 2)) (fun (q16 : HC) => some (q16, x1)) else (if v1 = (114 : Int32) then bd (f_X5_trickClause x x1) (fun (q17 : HC × HC) => some (q17.1, q17.2)) else (if v1 = (115 : Int32) then bd (f_X5_fail x (1 : Int32) (x 0 2)) (fun (q18 : HC) => some (q18, x1)) else (if v1 = (116 : Int32) then bd (f_X5_taskClause x x1) (fun (q19 : HC × HC) => some (q19.1, q19.2)) else bd (f_X5_fail x (1 : Int32) (x 0 2)) (fun (q20 : HC) => some (q20, x1))))))))))))))))))))
def f_X5_clause (x : HC) (x1 : HC) : Option (HC × HC) := (if inb (x 0 2) 250 then nm (x 1 (Int32.toNatClampNeg (x 0 2))) (fun (v1 : Int32) => (if (x1 0 0) = 0 then (if v1 = (112 : Int32) then f_X5_clause_j33 x x1 v1 else bd (f_X5_fail x (1 : Int32) (x 0 2)) (fun (q21 : HC) => some (q21, x1))) else f_X5_clause_j33 x x1 v1)) else none)
abbrev RM_X5_clause : Room := { frames := 3, cells := 0, slots := 0, locals := 70 }
set_option maxHeartbeats 4000000 in
set_option maxRecDepth 100000 in
theorem c_X5_clause (l : Launch) (D : va_G) (cI cZ : ClassId) (a a1 : Nat → Nat) (x : HC) (x1 : HC) (sz : Nat) {r : HC × HC} (hf : f_X5_clause x x1 = some r) : Met l yX5_clause (wM yX5_clause cX5_clause 3 none) RM_X5_clause (va_Pc [.ref (a 0), .ref (a1 0)] (pre D cI cZ (kT cI a x ++ (kL cI a1 x1)) sz)) (QV D (va_A (kT cI a x ++ (kL cI a1 x1)) sz) (fun (u : HC × HC) => (kT cI a u.1 ++ (kL cI a1 u.2))) r) 0 0 (va_A (kT cI a x ++ (kL cI a1 x1)) sz) := by
  unfold f_X5_clause at hf
  refine Met.ofW (cc := cX5_clause) (maxL := 3) (ret := none) (by decide) rfl ?_
  intro p e s m args below meth c s₁ B hml hv
  obtain ⟨rfl, hsz, hP, hK, hD0, hnw⟩ := hv
  have hx := B.exec
  have hb := B.bytes
  have hr := B.returns
  have hts := atoms_spec (ws := wM yX5_clause cX5_clause 3 none) B.pre
  have hG : ∀ w ∈ GW, w.before (([.ref (a 0), .ref (a1 0)] : List Value).toArray) s = true := fun w h => hts w (List.mem_cons_of_mem _ h)
  have hown : s.vm.findClass RX5 = some m.cls := findClass_of_methodNamed B.named
  have hlocks := B.notSynchronized
  subst hsz
  have hD := hD0.self (sz := s.heap.size)
  generalize hAe : va_A (kT cI a x ++ (kL cI a1 x1)) s.heap.size = A at hD ⊢
  have hA : ∀ q : Nat, s.heap.size ≤ q → A q := fun q h => by rw [← hAe]; exact Or.inr h
  have hS : va_S A s.heap s.heap [] := va_S.rf
  have hl := lv_entry ([.ref (a 0), .ref (a1 0)]) (n := 3) (Nat.le_of_ble_eq_true rfl)
  rw [lg_entry_eq]
  generalize (lg_sl ([.ref (a 0), .ref (a1 0)]) ++ List.replicate (3 - (lg_sl ([.ref (a 0), .ref (a1 0)])).length) Slot.unset).toArray = ls at hl ⊢
  have hl : lv_has ls 3 [(0, .ref (a 0)), (1, .ref (a1 0))] := hl
  show W p l e RM_X5_clause s m (([.ref (a 0), .ref (a1 0)] : List Value).toArray) below meth c s.heap [] 0 0 (MQ below (QV D A (fun (u : HC × HC) => (kT cI a u.1 ++ (kL cI a1 u.2))) r) (([.ref (a 0), .ref (a1 0)] : List Value).toArray) s 0 0 A) (F0 m 0 ls [])
  refine lv_aload_n hx hb dX5_clause_0 rfl (lv_at hl 0 rfl) ?_
  refine va_get (D := D) (ci := 5) (v := .ref (a 1)) (C := RX5) (T := TX5) (N := 6) hx hb hG inG5 hown hK hP 0 at_TL_0_0 rfl 0 (by decide) (hG _ g_93) (fun _ h9 => h9) rfl dX5_clause_1 ?_
  refine lv_aload_n hx hb dX5_clause_4 rfl (lv_at hl 0 rfl) ?_
  refine va_get (D := D) (ci := 5) (v := .int (x 0 2)) (C := RX5) (T := TX5) (N := 6) hx hb hG inG5 hown hK hP 0 at_TL_0_0 rfl 2 (by decide) (hG _ g_96) (fun _ h9 => h9) rfl dX5_clause_5 ?_
  obtain ⟨hb8, hf⟩ := gd hf
  refine va_iald (cA := cI) (n := 250) (f := x 1) hx hb hK hP 1 0 at_TL_0_1 rfl (inb_in hb8) dX5_clause_8 ?_
  refine lv_topi (fun v1 ev1 => ?_)
  have hf := nm_x ev1 hf
  refine lv_istore_n (lv' := [(2, .int v1), (0, .ref (a 0)), (1, .ref (a1 0))]) hx hb dX5_clause_9 rfl hl (by decide) rfl (fun ls hl => ?_)
  refine lv_aload_n hx hb dX5_clause_10 rfl (lv_at hl 2 rfl) ?_
  refine va_get (D := D) (ci := 2) (v := .int (x1 0 0)) (C := RX2) (T := TX2) (N := 18) hx hb hG inG2 hown hK hP 2 at_TL_1_0 rfl 0 (by decide) (hG _ g_111) (fun _ h9 => h9) rfl dX5_clause_11 ?_
  have J33 : ∀  (H : Heap) (locs : List Loc) (ls : Array Slot), va_P D vwCl (kT cI a x ++ (kL cI a1 x1)) H → va_D A (kT cI a x ++ (kL cI a1 x1)) → va_S A s.heap H locs → lv_has ls 3 [(0, .ref (a 0)), (1, .ref (a1 0)), (2, .int v1)] → f_X5_clause_j33 x x1 v1  = some r → W p l e RM_X5_clause s m (([.ref (a 0), .ref (a1 0)] : List Value).toArray) below meth c H locs 0 0 (MQ below (QV D A (fun (u : HC × HC) => (kT cI a u.1 ++ (kL cI a1 u.2))) r) (([.ref (a 0), .ref (a1 0)] : List Value).toArray) s 0 0 A) (F0 m 33 ls []) := by
    intro  H locs ls hP hD hS hl hf
    unfold f_X5_clause_j33 at hf
    refine lv_iload_n hx hb dX5_clause_33 rfl (lv_at hl 2 rfl) ?_
    by_cases sw0 : v1 = (99 : Int32)
    · have hf := if_t sw0 hf
      refine lv_tabK (tgt := 136) (k := (99 : Int32)) hx hb dX5_clause_34 sw0 (by decide) (by decide) rfl (by decide) ?_
      refine lv_aload_n hx hb dX5_clause_136 rfl (lv_at hl 0 rfl) ?_
      refine lv_aload_n hx hb dX5_clause_137 rfl (lv_at hl 1 rfl) ?_
      obtain ⟨q2, hq2, hf⟩ := bd_x hf
      have hFc := freeS hD hS hA
      refine va_callv (va_runV (As := [.ref (a1 0)]) (rest := []) ⟨hx, hb, hml, hown, hG⟩ (c_X5_chatClause l D cI cZ a a1 x x1 H.size hq2) (cwV 1 hG (gV g_280 g_281 g_8 g_71 g_282) rfl rfl rfl (by decide +kernel) ⟨Nat.le_of_ble_eq_true rfl, Nat.le_of_ble_eq_true rfl⟩) ⟨pre_blind, va_recv hK hP (ci := 5) (q0 := 0) rfl rfl, fun U hU hW => ⟨rfl, pre_of hP hK hD hnw hU hW⟩⟩ rfl rfl hl.1 rfl (lv_room (Nat.le_of_ble_eq_true rfl)) dX5_clause_138 ⟨Nat.le_of_ble_eq_true rfl, Nat.le_of_ble_eq_true rfl⟩) hS (fun q _ h => hFc q h) hFc (fun u t H locs ht hvm hw hB hz1 hk1 hS => ?_)
      have hw := hw.symm; subst hw
      obtain ⟨hP1, hD1⟩ := hB
      rw [ht] at hP1
      have hP := hP1
      have hD := hD1.weaken (fun _ q _ h => hFc q.1 h)
      refine lv_goto (tgt := 177) hx hb dX5_clause_141 (by decide) ?_
      exact W.vret hx hb hr (fun t ht hW => ⟨⟨(q2.1, q2.2), rfl, Option.some.inj hf, by rw [ht]; exact hP, hD⟩, hS.F ht⟩) hS.2.2 dX5_clause_177
    · have hf := if_f sw0 hf
      by_cases sw1 : v1 = (100 : Int32)
      · have hf := if_t sw1 hf
        refine lv_tabK (tgt := 168) (k := (100 : Int32)) hx hb dX5_clause_34 sw1 (by decide) (by decide) rfl (by decide) ?_
        refine lv_aload_n hx hb dX5_clause_168 rfl (lv_at hl 0 rfl) ?_
        refine lv_iconst (v := (1 : Int32)) hx hb dX5_clause_169 (by decide) ?_
        refine lv_aload_n hx hb dX5_clause_170 rfl (lv_at hl 0 rfl) ?_
        refine va_get (D := D) (ci := 5) (v := .int (x 0 2)) (C := RX5) (T := TX5) (N := 6) hx hb hG inG5 hown hK hP 0 at_TL_0_0 rfl 2 (by decide) (hG _ g_96) (fun _ h9 => h9) rfl dX5_clause_171 ?_
        obtain ⟨q3, hq3, hf⟩ := bd_x hf
        have hPc := subP [0, 1] sub_TL_T_0 hP
        have hDc := va_D.sub hD [0, 1] rfl sub_TL_T_0
        have hFc := va_free hD hS hA [0, 1] sub_TL_T_0
        refine va_callv (va_runV (As := [.int (1 : Int32), .int (x 0 2)]) (rest := []) ⟨hx, hb, hml, hown, hG⟩ (c_X5_fail l D cI cZ a x (1 : Int32) (x 0 2) H.size hq3) (cwV 2 hG (gV g_262 g_263 g_2 g_71 g_264) rfl rfl rfl (by decide +kernel) ⟨Nat.le_of_ble_eq_true rfl, Nat.le_of_ble_eq_true rfl⟩) ⟨pre_blind, va_recv hK hPc (ci := 5) (q0 := 0) rfl rfl, fun U hU hW => ⟨rfl, pre_of hPc hK hDc hnw hU hW⟩⟩ rfl rfl hl.1 rfl (lv_room (Nat.le_of_ble_eq_true rfl)) dX5_clause_174 ⟨Nat.le_of_ble_eq_true rfl, Nat.le_of_ble_eq_true rfl⟩) hS (fun q _ h => hFc q h) hFc (fun u t H locs ht hvm hw hB hz1 hk1 hS => ?_)
        have hw := hw.symm; subst hw
        obtain ⟨hP1, hD1⟩ := hB
        rw [ht] at hP1
        obtain ⟨hP, hD⟩ := back hP hD [0, 1] sub_TL_T_0 rfl hk1 hFc hP1 hD1
        have hP := wP put_TL_T_0_0 hP
        have hD := wD put_TL_T_0_0 hD
        exact W.vret hx hb hr (fun t ht hW => ⟨⟨(q3, x1), rfl, Option.some.inj hf, by rw [ht]; exact hP, hD⟩, hS.F ht⟩) hS.2.2 dX5_clause_177
      · have hf := if_f sw1 hf
        by_cases sw2 : v1 = (101 : Int32)
        · have hf := if_t sw2 hf
          refine lv_tabK (tgt := 160) (k := (101 : Int32)) hx hb dX5_clause_34 sw2 (by decide) (by decide) rfl (by decide) ?_
          refine lv_aload_n hx hb dX5_clause_160 rfl (lv_at hl 0 rfl) ?_
          refine lv_aload_n hx hb dX5_clause_161 rfl (lv_at hl 1 rfl) ?_
          obtain ⟨q4, hq4, hf⟩ := bd_x hf
          have hFc := freeS hD hS hA
          refine va_callv (va_runV (As := [.ref (a1 0)]) (rest := []) ⟨hx, hb, hml, hown, hG⟩ (c_X5_thoughtClause l D cI cZ a a1 x x1 H.size hq4) (cwV 1 hG (gV g_292 g_293 g_11 g_71 g_294) rfl rfl rfl (by decide +kernel) ⟨Nat.le_of_ble_eq_true rfl, Nat.le_of_ble_eq_true rfl⟩) ⟨pre_blind, va_recv hK hP (ci := 5) (q0 := 0) rfl rfl, fun U hU hW => ⟨rfl, pre_of hP hK hD hnw hU hW⟩⟩ rfl rfl hl.1 rfl (lv_room (Nat.le_of_ble_eq_true rfl)) dX5_clause_162 ⟨Nat.le_of_ble_eq_true rfl, Nat.le_of_ble_eq_true rfl⟩) hS (fun q _ h => hFc q h) hFc (fun u t H locs ht hvm hw hB hz1 hk1 hS => ?_)
          have hw := hw.symm; subst hw
          obtain ⟨hP1, hD1⟩ := hB
          rw [ht] at hP1
          have hP := hP1
          have hD := hD1.weaken (fun _ q _ h => hFc q.1 h)
          refine lv_goto (tgt := 177) hx hb dX5_clause_165 (by decide) ?_
          exact W.vret hx hb hr (fun t ht hW => ⟨⟨(q4.1, q4.2), rfl, Option.some.inj hf, by rw [ht]; exact hP, hD⟩, hS.F ht⟩) hS.2.2 dX5_clause_177
        · have hf := if_f sw2 hf
          by_cases sw3 : v1 = (102 : Int32)
          · have hf := if_t sw3 hf
            refine lv_tabK (tgt := 128) (k := (102 : Int32)) hx hb dX5_clause_34 sw3 (by decide) (by decide) rfl (by decide) ?_
            refine lv_aload_n hx hb dX5_clause_128 rfl (lv_at hl 0 rfl) ?_
            refine lv_aload_n hx hb dX5_clause_129 rfl (lv_at hl 1 rfl) ?_
            obtain ⟨q5, hq5, hf⟩ := bd_x hf
            have hFc := freeS hD hS hA
            refine va_callv (va_runV (As := [.ref (a1 0)]) (rest := []) ⟨hx, hb, hml, hown, hG⟩ (c_X5_fighterClause l D cI cZ a a1 x x1 H.size hq5) (cwV 1 hG (gV g_277 g_278 g_7 g_71 g_279) rfl rfl rfl (by decide +kernel) ⟨Nat.le_of_ble_eq_true rfl, Nat.le_of_ble_eq_true rfl⟩) ⟨pre_blind, va_recv hK hP (ci := 5) (q0 := 0) rfl rfl, fun U hU hW => ⟨rfl, pre_of hP hK hD hnw hU hW⟩⟩ rfl rfl hl.1 rfl (lv_room (Nat.le_of_ble_eq_true rfl)) dX5_clause_130 ⟨Nat.le_of_ble_eq_true rfl, Nat.le_of_ble_eq_true rfl⟩) hS (fun q _ h => hFc q h) hFc (fun u t H locs ht hvm hw hB hz1 hk1 hS => ?_)
            have hw := hw.symm; subst hw
            obtain ⟨hP1, hD1⟩ := hB
            rw [ht] at hP1
            have hP := hP1
            have hD := hD1.weaken (fun _ q _ h => hFc q.1 h)
            refine lv_goto (tgt := 177) hx hb dX5_clause_133 (by decide) ?_
            exact W.vret hx hb hr (fun t ht hW => ⟨⟨(q5.1, q5.2), rfl, Option.some.inj hf, by rw [ht]; exact hP, hD⟩, hS.F ht⟩) hS.2.2 dX5_clause_177
          · have hf := if_f sw3 hf
            by_cases sw4 : v1 = (103 : Int32)
            · have hf := if_t sw4 hf
              refine lv_tabK (tgt := 168) (k := (103 : Int32)) hx hb dX5_clause_34 sw4 (by decide) (by decide) rfl (by decide) ?_
              refine lv_aload_n hx hb dX5_clause_168 rfl (lv_at hl 0 rfl) ?_
              refine lv_iconst (v := (1 : Int32)) hx hb dX5_clause_169 (by decide) ?_
              refine lv_aload_n hx hb dX5_clause_170 rfl (lv_at hl 0 rfl) ?_
              refine va_get (D := D) (ci := 5) (v := .int (x 0 2)) (C := RX5) (T := TX5) (N := 6) hx hb hG inG5 hown hK hP 0 at_TL_0_0 rfl 2 (by decide) (hG _ g_96) (fun _ h9 => h9) rfl dX5_clause_171 ?_
              obtain ⟨q6, hq6, hf⟩ := bd_x hf
              have hPc := subP [0, 1] sub_TL_T_0 hP
              have hDc := va_D.sub hD [0, 1] rfl sub_TL_T_0
              have hFc := va_free hD hS hA [0, 1] sub_TL_T_0
              refine va_callv (va_runV (As := [.int (1 : Int32), .int (x 0 2)]) (rest := []) ⟨hx, hb, hml, hown, hG⟩ (c_X5_fail l D cI cZ a x (1 : Int32) (x 0 2) H.size hq6) (cwV 2 hG (gV g_262 g_263 g_2 g_71 g_264) rfl rfl rfl (by decide +kernel) ⟨Nat.le_of_ble_eq_true rfl, Nat.le_of_ble_eq_true rfl⟩) ⟨pre_blind, va_recv hK hPc (ci := 5) (q0 := 0) rfl rfl, fun U hU hW => ⟨rfl, pre_of hPc hK hDc hnw hU hW⟩⟩ rfl rfl hl.1 rfl (lv_room (Nat.le_of_ble_eq_true rfl)) dX5_clause_174 ⟨Nat.le_of_ble_eq_true rfl, Nat.le_of_ble_eq_true rfl⟩) hS (fun q _ h => hFc q h) hFc (fun u t H locs ht hvm hw hB hz1 hk1 hS => ?_)
              have hw := hw.symm; subst hw
              obtain ⟨hP1, hD1⟩ := hB
              rw [ht] at hP1
              obtain ⟨hP, hD⟩ := back hP hD [0, 1] sub_TL_T_0 rfl hk1 hFc hP1 hD1
              have hP := wP put_TL_T_0_0 hP
              have hD := wD put_TL_T_0_0 hD
              exact W.vret hx hb hr (fun t ht hW => ⟨⟨(q6, x1), rfl, Option.some.inj hf, by rw [ht]; exact hP, hD⟩, hS.F ht⟩) hS.2.2 dX5_clause_177
            · have hf := if_f sw4 hf
              by_cases sw5 : v1 = (104 : Int32)
              · have hf := if_t sw5 hf
                refine lv_tabK (tgt := 168) (k := (104 : Int32)) hx hb dX5_clause_34 sw5 (by decide) (by decide) rfl (by decide) ?_
                refine lv_aload_n hx hb dX5_clause_168 rfl (lv_at hl 0 rfl) ?_
                refine lv_iconst (v := (1 : Int32)) hx hb dX5_clause_169 (by decide) ?_
                refine lv_aload_n hx hb dX5_clause_170 rfl (lv_at hl 0 rfl) ?_
                refine va_get (D := D) (ci := 5) (v := .int (x 0 2)) (C := RX5) (T := TX5) (N := 6) hx hb hG inG5 hown hK hP 0 at_TL_0_0 rfl 2 (by decide) (hG _ g_96) (fun _ h9 => h9) rfl dX5_clause_171 ?_
                obtain ⟨q7, hq7, hf⟩ := bd_x hf
                have hPc := subP [0, 1] sub_TL_T_0 hP
                have hDc := va_D.sub hD [0, 1] rfl sub_TL_T_0
                have hFc := va_free hD hS hA [0, 1] sub_TL_T_0
                refine va_callv (va_runV (As := [.int (1 : Int32), .int (x 0 2)]) (rest := []) ⟨hx, hb, hml, hown, hG⟩ (c_X5_fail l D cI cZ a x (1 : Int32) (x 0 2) H.size hq7) (cwV 2 hG (gV g_262 g_263 g_2 g_71 g_264) rfl rfl rfl (by decide +kernel) ⟨Nat.le_of_ble_eq_true rfl, Nat.le_of_ble_eq_true rfl⟩) ⟨pre_blind, va_recv hK hPc (ci := 5) (q0 := 0) rfl rfl, fun U hU hW => ⟨rfl, pre_of hPc hK hDc hnw hU hW⟩⟩ rfl rfl hl.1 rfl (lv_room (Nat.le_of_ble_eq_true rfl)) dX5_clause_174 ⟨Nat.le_of_ble_eq_true rfl, Nat.le_of_ble_eq_true rfl⟩) hS (fun q _ h => hFc q h) hFc (fun u t H locs ht hvm hw hB hz1 hk1 hS => ?_)
                have hw := hw.symm; subst hw
                obtain ⟨hP1, hD1⟩ := hB
                rw [ht] at hP1
                obtain ⟨hP, hD⟩ := back hP hD [0, 1] sub_TL_T_0 rfl hk1 hFc hP1 hD1
                have hP := wP put_TL_T_0_0 hP
                have hD := wD put_TL_T_0_0 hD
                exact W.vret hx hb hr (fun t ht hW => ⟨⟨(q7, x1), rfl, Option.some.inj hf, by rw [ht]; exact hP, hD⟩, hS.F ht⟩) hS.2.2 dX5_clause_177
              · have hf := if_f sw5 hf
                by_cases sw6 : v1 = (105 : Int32)
                · have hf := if_t sw6 hf
                  refine lv_tabK (tgt := 168) (k := (105 : Int32)) hx hb dX5_clause_34 sw6 (by decide) (by decide) rfl (by decide) ?_
                  refine lv_aload_n hx hb dX5_clause_168 rfl (lv_at hl 0 rfl) ?_
                  refine lv_iconst (v := (1 : Int32)) hx hb dX5_clause_169 (by decide) ?_
                  refine lv_aload_n hx hb dX5_clause_170 rfl (lv_at hl 0 rfl) ?_
                  refine va_get (D := D) (ci := 5) (v := .int (x 0 2)) (C := RX5) (T := TX5) (N := 6) hx hb hG inG5 hown hK hP 0 at_TL_0_0 rfl 2 (by decide) (hG _ g_96) (fun _ h9 => h9) rfl dX5_clause_171 ?_
                  obtain ⟨q8, hq8, hf⟩ := bd_x hf
                  have hPc := subP [0, 1] sub_TL_T_0 hP
                  have hDc := va_D.sub hD [0, 1] rfl sub_TL_T_0
                  have hFc := va_free hD hS hA [0, 1] sub_TL_T_0
                  refine va_callv (va_runV (As := [.int (1 : Int32), .int (x 0 2)]) (rest := []) ⟨hx, hb, hml, hown, hG⟩ (c_X5_fail l D cI cZ a x (1 : Int32) (x 0 2) H.size hq8) (cwV 2 hG (gV g_262 g_263 g_2 g_71 g_264) rfl rfl rfl (by decide +kernel) ⟨Nat.le_of_ble_eq_true rfl, Nat.le_of_ble_eq_true rfl⟩) ⟨pre_blind, va_recv hK hPc (ci := 5) (q0 := 0) rfl rfl, fun U hU hW => ⟨rfl, pre_of hPc hK hDc hnw hU hW⟩⟩ rfl rfl hl.1 rfl (lv_room (Nat.le_of_ble_eq_true rfl)) dX5_clause_174 ⟨Nat.le_of_ble_eq_true rfl, Nat.le_of_ble_eq_true rfl⟩) hS (fun q _ h => hFc q h) hFc (fun u t H locs ht hvm hw hB hz1 hk1 hS => ?_)
                  have hw := hw.symm; subst hw
                  obtain ⟨hP1, hD1⟩ := hB
                  rw [ht] at hP1
                  obtain ⟨hP, hD⟩ := back hP hD [0, 1] sub_TL_T_0 rfl hk1 hFc hP1 hD1
                  have hP := wP put_TL_T_0_0 hP
                  have hD := wD put_TL_T_0_0 hD
                  exact W.vret hx hb hr (fun t ht hW => ⟨⟨(q8, x1), rfl, Option.some.inj hf, by rw [ht]; exact hP, hD⟩, hS.F ht⟩) hS.2.2 dX5_clause_177
                · have hf := if_f sw6 hf
                  by_cases sw7 : v1 = (106 : Int32)
                  · have hf := if_t sw7 hf
                    refine lv_tabK (tgt := 168) (k := (106 : Int32)) hx hb dX5_clause_34 sw7 (by decide) (by decide) rfl (by decide) ?_
                    refine lv_aload_n hx hb dX5_clause_168 rfl (lv_at hl 0 rfl) ?_
                    refine lv_iconst (v := (1 : Int32)) hx hb dX5_clause_169 (by decide) ?_
                    refine lv_aload_n hx hb dX5_clause_170 rfl (lv_at hl 0 rfl) ?_
                    refine va_get (D := D) (ci := 5) (v := .int (x 0 2)) (C := RX5) (T := TX5) (N := 6) hx hb hG inG5 hown hK hP 0 at_TL_0_0 rfl 2 (by decide) (hG _ g_96) (fun _ h9 => h9) rfl dX5_clause_171 ?_
                    obtain ⟨q9, hq9, hf⟩ := bd_x hf
                    have hPc := subP [0, 1] sub_TL_T_0 hP
                    have hDc := va_D.sub hD [0, 1] rfl sub_TL_T_0
                    have hFc := va_free hD hS hA [0, 1] sub_TL_T_0
                    refine va_callv (va_runV (As := [.int (1 : Int32), .int (x 0 2)]) (rest := []) ⟨hx, hb, hml, hown, hG⟩ (c_X5_fail l D cI cZ a x (1 : Int32) (x 0 2) H.size hq9) (cwV 2 hG (gV g_262 g_263 g_2 g_71 g_264) rfl rfl rfl (by decide +kernel) ⟨Nat.le_of_ble_eq_true rfl, Nat.le_of_ble_eq_true rfl⟩) ⟨pre_blind, va_recv hK hPc (ci := 5) (q0 := 0) rfl rfl, fun U hU hW => ⟨rfl, pre_of hPc hK hDc hnw hU hW⟩⟩ rfl rfl hl.1 rfl (lv_room (Nat.le_of_ble_eq_true rfl)) dX5_clause_174 ⟨Nat.le_of_ble_eq_true rfl, Nat.le_of_ble_eq_true rfl⟩) hS (fun q _ h => hFc q h) hFc (fun u t H locs ht hvm hw hB hz1 hk1 hS => ?_)
                    have hw := hw.symm; subst hw
                    obtain ⟨hP1, hD1⟩ := hB
                    rw [ht] at hP1
                    obtain ⟨hP, hD⟩ := back hP hD [0, 1] sub_TL_T_0 rfl hk1 hFc hP1 hD1
                    have hP := wP put_TL_T_0_0 hP
                    have hD := wD put_TL_T_0_0 hD
                    exact W.vret hx hb hr (fun t ht hW => ⟨⟨(q9, x1), rfl, Option.some.inj hf, by rw [ht]; exact hP, hD⟩, hS.F ht⟩) hS.2.2 dX5_clause_177
                  · have hf := if_f sw7 hf
                    by_cases sw8 : v1 = (107 : Int32)
                    · have hf := if_t sw8 hf
                      refine lv_tabK (tgt := 168) (k := (107 : Int32)) hx hb dX5_clause_34 sw8 (by decide) (by decide) rfl (by decide) ?_
                      refine lv_aload_n hx hb dX5_clause_168 rfl (lv_at hl 0 rfl) ?_
                      refine lv_iconst (v := (1 : Int32)) hx hb dX5_clause_169 (by decide) ?_
                      refine lv_aload_n hx hb dX5_clause_170 rfl (lv_at hl 0 rfl) ?_
                      refine va_get (D := D) (ci := 5) (v := .int (x 0 2)) (C := RX5) (T := TX5) (N := 6) hx hb hG inG5 hown hK hP 0 at_TL_0_0 rfl 2 (by decide) (hG _ g_96) (fun _ h9 => h9) rfl dX5_clause_171 ?_
                      obtain ⟨q10, hq10, hf⟩ := bd_x hf
                      have hPc := subP [0, 1] sub_TL_T_0 hP
                      have hDc := va_D.sub hD [0, 1] rfl sub_TL_T_0
                      have hFc := va_free hD hS hA [0, 1] sub_TL_T_0
                      refine va_callv (va_runV (As := [.int (1 : Int32), .int (x 0 2)]) (rest := []) ⟨hx, hb, hml, hown, hG⟩ (c_X5_fail l D cI cZ a x (1 : Int32) (x 0 2) H.size hq10) (cwV 2 hG (gV g_262 g_263 g_2 g_71 g_264) rfl rfl rfl (by decide +kernel) ⟨Nat.le_of_ble_eq_true rfl, Nat.le_of_ble_eq_true rfl⟩) ⟨pre_blind, va_recv hK hPc (ci := 5) (q0 := 0) rfl rfl, fun U hU hW => ⟨rfl, pre_of hPc hK hDc hnw hU hW⟩⟩ rfl rfl hl.1 rfl (lv_room (Nat.le_of_ble_eq_true rfl)) dX5_clause_174 ⟨Nat.le_of_ble_eq_true rfl, Nat.le_of_ble_eq_true rfl⟩) hS (fun q _ h => hFc q h) hFc (fun u t H locs ht hvm hw hB hz1 hk1 hS => ?_)
                      have hw := hw.symm; subst hw
                      obtain ⟨hP1, hD1⟩ := hB
                      rw [ht] at hP1
                      obtain ⟨hP, hD⟩ := back hP hD [0, 1] sub_TL_T_0 rfl hk1 hFc hP1 hD1
                      have hP := wP put_TL_T_0_0 hP
                      have hD := wD put_TL_T_0_0 hD
                      exact W.vret hx hb hr (fun t ht hW => ⟨⟨(q10, x1), rfl, Option.some.inj hf, by rw [ht]; exact hP, hD⟩, hS.F ht⟩) hS.2.2 dX5_clause_177
                    · have hf := if_f sw8 hf
                      by_cases sw9 : v1 = (108 : Int32)
                      · have hf := if_t sw9 hf
                        refine lv_tabK (tgt := 168) (k := (108 : Int32)) hx hb dX5_clause_34 sw9 (by decide) (by decide) rfl (by decide) ?_
                        refine lv_aload_n hx hb dX5_clause_168 rfl (lv_at hl 0 rfl) ?_
                        refine lv_iconst (v := (1 : Int32)) hx hb dX5_clause_169 (by decide) ?_
                        refine lv_aload_n hx hb dX5_clause_170 rfl (lv_at hl 0 rfl) ?_
                        refine va_get (D := D) (ci := 5) (v := .int (x 0 2)) (C := RX5) (T := TX5) (N := 6) hx hb hG inG5 hown hK hP 0 at_TL_0_0 rfl 2 (by decide) (hG _ g_96) (fun _ h9 => h9) rfl dX5_clause_171 ?_
                        obtain ⟨q11, hq11, hf⟩ := bd_x hf
                        have hPc := subP [0, 1] sub_TL_T_0 hP
                        have hDc := va_D.sub hD [0, 1] rfl sub_TL_T_0
                        have hFc := va_free hD hS hA [0, 1] sub_TL_T_0
                        refine va_callv (va_runV (As := [.int (1 : Int32), .int (x 0 2)]) (rest := []) ⟨hx, hb, hml, hown, hG⟩ (c_X5_fail l D cI cZ a x (1 : Int32) (x 0 2) H.size hq11) (cwV 2 hG (gV g_262 g_263 g_2 g_71 g_264) rfl rfl rfl (by decide +kernel) ⟨Nat.le_of_ble_eq_true rfl, Nat.le_of_ble_eq_true rfl⟩) ⟨pre_blind, va_recv hK hPc (ci := 5) (q0 := 0) rfl rfl, fun U hU hW => ⟨rfl, pre_of hPc hK hDc hnw hU hW⟩⟩ rfl rfl hl.1 rfl (lv_room (Nat.le_of_ble_eq_true rfl)) dX5_clause_174 ⟨Nat.le_of_ble_eq_true rfl, Nat.le_of_ble_eq_true rfl⟩) hS (fun q _ h => hFc q h) hFc (fun u t H locs ht hvm hw hB hz1 hk1 hS => ?_)
                        have hw := hw.symm; subst hw
                        obtain ⟨hP1, hD1⟩ := hB
                        rw [ht] at hP1
                        obtain ⟨hP, hD⟩ := back hP hD [0, 1] sub_TL_T_0 rfl hk1 hFc hP1 hD1
                        have hP := wP put_TL_T_0_0 hP
                        have hD := wD put_TL_T_0_0 hD
                        exact W.vret hx hb hr (fun t ht hW => ⟨⟨(q11, x1), rfl, Option.some.inj hf, by rw [ht]; exact hP, hD⟩, hS.F ht⟩) hS.2.2 dX5_clause_177
                      · have hf := if_f sw9 hf
                        by_cases sw10 : v1 = (109 : Int32)
                        · have hf := if_t sw10 hf
                          refine lv_tabK (tgt := 168) (k := (109 : Int32)) hx hb dX5_clause_34 sw10 (by decide) (by decide) rfl (by decide) ?_
                          refine lv_aload_n hx hb dX5_clause_168 rfl (lv_at hl 0 rfl) ?_
                          refine lv_iconst (v := (1 : Int32)) hx hb dX5_clause_169 (by decide) ?_
                          refine lv_aload_n hx hb dX5_clause_170 rfl (lv_at hl 0 rfl) ?_
                          refine va_get (D := D) (ci := 5) (v := .int (x 0 2)) (C := RX5) (T := TX5) (N := 6) hx hb hG inG5 hown hK hP 0 at_TL_0_0 rfl 2 (by decide) (hG _ g_96) (fun _ h9 => h9) rfl dX5_clause_171 ?_
                          obtain ⟨q12, hq12, hf⟩ := bd_x hf
                          have hPc := subP [0, 1] sub_TL_T_0 hP
                          have hDc := va_D.sub hD [0, 1] rfl sub_TL_T_0
                          have hFc := va_free hD hS hA [0, 1] sub_TL_T_0
                          refine va_callv (va_runV (As := [.int (1 : Int32), .int (x 0 2)]) (rest := []) ⟨hx, hb, hml, hown, hG⟩ (c_X5_fail l D cI cZ a x (1 : Int32) (x 0 2) H.size hq12) (cwV 2 hG (gV g_262 g_263 g_2 g_71 g_264) rfl rfl rfl (by decide +kernel) ⟨Nat.le_of_ble_eq_true rfl, Nat.le_of_ble_eq_true rfl⟩) ⟨pre_blind, va_recv hK hPc (ci := 5) (q0 := 0) rfl rfl, fun U hU hW => ⟨rfl, pre_of hPc hK hDc hnw hU hW⟩⟩ rfl rfl hl.1 rfl (lv_room (Nat.le_of_ble_eq_true rfl)) dX5_clause_174 ⟨Nat.le_of_ble_eq_true rfl, Nat.le_of_ble_eq_true rfl⟩) hS (fun q _ h => hFc q h) hFc (fun u t H locs ht hvm hw hB hz1 hk1 hS => ?_)
                          have hw := hw.symm; subst hw
                          obtain ⟨hP1, hD1⟩ := hB
                          rw [ht] at hP1
                          obtain ⟨hP, hD⟩ := back hP hD [0, 1] sub_TL_T_0 rfl hk1 hFc hP1 hD1
                          have hP := wP put_TL_T_0_0 hP
                          have hD := wD put_TL_T_0_0 hD
                          exact W.vret hx hb hr (fun t ht hW => ⟨⟨(q12, x1), rfl, Option.some.inj hf, by rw [ht]; exact hP, hD⟩, hS.F ht⟩) hS.2.2 dX5_clause_177
                        · have hf := if_f sw10 hf
                          by_cases sw11 : v1 = (110 : Int32)
                          · have hf := if_t sw11 hf
                            refine lv_tabK (tgt := 168) (k := (110 : Int32)) hx hb dX5_clause_34 sw11 (by decide) (by decide) rfl (by decide) ?_
                            refine lv_aload_n hx hb dX5_clause_168 rfl (lv_at hl 0 rfl) ?_
                            refine lv_iconst (v := (1 : Int32)) hx hb dX5_clause_169 (by decide) ?_
                            refine lv_aload_n hx hb dX5_clause_170 rfl (lv_at hl 0 rfl) ?_
                            refine va_get (D := D) (ci := 5) (v := .int (x 0 2)) (C := RX5) (T := TX5) (N := 6) hx hb hG inG5 hown hK hP 0 at_TL_0_0 rfl 2 (by decide) (hG _ g_96) (fun _ h9 => h9) rfl dX5_clause_171 ?_
                            obtain ⟨q13, hq13, hf⟩ := bd_x hf
                            have hPc := subP [0, 1] sub_TL_T_0 hP
                            have hDc := va_D.sub hD [0, 1] rfl sub_TL_T_0
                            have hFc := va_free hD hS hA [0, 1] sub_TL_T_0
                            refine va_callv (va_runV (As := [.int (1 : Int32), .int (x 0 2)]) (rest := []) ⟨hx, hb, hml, hown, hG⟩ (c_X5_fail l D cI cZ a x (1 : Int32) (x 0 2) H.size hq13) (cwV 2 hG (gV g_262 g_263 g_2 g_71 g_264) rfl rfl rfl (by decide +kernel) ⟨Nat.le_of_ble_eq_true rfl, Nat.le_of_ble_eq_true rfl⟩) ⟨pre_blind, va_recv hK hPc (ci := 5) (q0 := 0) rfl rfl, fun U hU hW => ⟨rfl, pre_of hPc hK hDc hnw hU hW⟩⟩ rfl rfl hl.1 rfl (lv_room (Nat.le_of_ble_eq_true rfl)) dX5_clause_174 ⟨Nat.le_of_ble_eq_true rfl, Nat.le_of_ble_eq_true rfl⟩) hS (fun q _ h => hFc q h) hFc (fun u t H locs ht hvm hw hB hz1 hk1 hS => ?_)
                            have hw := hw.symm; subst hw
                            obtain ⟨hP1, hD1⟩ := hB
                            rw [ht] at hP1
                            obtain ⟨hP, hD⟩ := back hP hD [0, 1] sub_TL_T_0 rfl hk1 hFc hP1 hD1
                            have hP := wP put_TL_T_0_0 hP
                            have hD := wD put_TL_T_0_0 hD
                            exact W.vret hx hb hr (fun t ht hW => ⟨⟨(q13, x1), rfl, Option.some.inj hf, by rw [ht]; exact hP, hD⟩, hS.F ht⟩) hS.2.2 dX5_clause_177
                          · have hf := if_f sw11 hf
                            by_cases sw12 : v1 = (111 : Int32)
                            · have hf := if_t sw12 hf
                              refine lv_tabK (tgt := 168) (k := (111 : Int32)) hx hb dX5_clause_34 sw12 (by decide) (by decide) rfl (by decide) ?_
                              refine lv_aload_n hx hb dX5_clause_168 rfl (lv_at hl 0 rfl) ?_
                              refine lv_iconst (v := (1 : Int32)) hx hb dX5_clause_169 (by decide) ?_
                              refine lv_aload_n hx hb dX5_clause_170 rfl (lv_at hl 0 rfl) ?_
                              refine va_get (D := D) (ci := 5) (v := .int (x 0 2)) (C := RX5) (T := TX5) (N := 6) hx hb hG inG5 hown hK hP 0 at_TL_0_0 rfl 2 (by decide) (hG _ g_96) (fun _ h9 => h9) rfl dX5_clause_171 ?_
                              obtain ⟨q14, hq14, hf⟩ := bd_x hf
                              have hPc := subP [0, 1] sub_TL_T_0 hP
                              have hDc := va_D.sub hD [0, 1] rfl sub_TL_T_0
                              have hFc := va_free hD hS hA [0, 1] sub_TL_T_0
                              refine va_callv (va_runV (As := [.int (1 : Int32), .int (x 0 2)]) (rest := []) ⟨hx, hb, hml, hown, hG⟩ (c_X5_fail l D cI cZ a x (1 : Int32) (x 0 2) H.size hq14) (cwV 2 hG (gV g_262 g_263 g_2 g_71 g_264) rfl rfl rfl (by decide +kernel) ⟨Nat.le_of_ble_eq_true rfl, Nat.le_of_ble_eq_true rfl⟩) ⟨pre_blind, va_recv hK hPc (ci := 5) (q0 := 0) rfl rfl, fun U hU hW => ⟨rfl, pre_of hPc hK hDc hnw hU hW⟩⟩ rfl rfl hl.1 rfl (lv_room (Nat.le_of_ble_eq_true rfl)) dX5_clause_174 ⟨Nat.le_of_ble_eq_true rfl, Nat.le_of_ble_eq_true rfl⟩) hS (fun q _ h => hFc q h) hFc (fun u t H locs ht hvm hw hB hz1 hk1 hS => ?_)
                              have hw := hw.symm; subst hw
                              obtain ⟨hP1, hD1⟩ := hB
                              rw [ht] at hP1
                              obtain ⟨hP, hD⟩ := back hP hD [0, 1] sub_TL_T_0 rfl hk1 hFc hP1 hD1
                              have hP := wP put_TL_T_0_0 hP
                              have hD := wD put_TL_T_0_0 hD
                              exact W.vret hx hb hr (fun t ht hW => ⟨⟨(q14, x1), rfl, Option.some.inj hf, by rw [ht]; exact hP, hD⟩, hS.F ht⟩) hS.2.2 dX5_clause_177
                            · have hf := if_f sw12 hf
                              by_cases sw13 : v1 = (112 : Int32)
                              · have hf := if_t sw13 hf
                                refine lv_tabK (tgt := 120) (k := (112 : Int32)) hx hb dX5_clause_34 sw13 (by decide) (by decide) rfl (by decide) ?_
                                refine lv_aload_n hx hb dX5_clause_120 rfl (lv_at hl 0 rfl) ?_
                                refine lv_aload_n hx hb dX5_clause_121 rfl (lv_at hl 1 rfl) ?_
                                obtain ⟨q15, hq15, hf⟩ := bd_x hf
                                have hFc := freeS hD hS hA
                                refine va_callv (va_runV (As := [.ref (a1 0)]) (rest := []) ⟨hx, hb, hml, hown, hG⟩ (c_X5_peopleClause l D cI cZ a a1 x x1 H.size hq15) (cwV 1 hG (gV g_265 g_266 g_3 g_71 g_267) rfl rfl rfl (by decide +kernel) ⟨Nat.le_of_ble_eq_true rfl, Nat.le_of_ble_eq_true rfl⟩) ⟨pre_blind, va_recv hK hP (ci := 5) (q0 := 0) rfl rfl, fun U hU hW => ⟨rfl, pre_of hP hK hD hnw hU hW⟩⟩ rfl rfl hl.1 rfl (lv_room (Nat.le_of_ble_eq_true rfl)) dX5_clause_122 ⟨Nat.le_of_ble_eq_true rfl, Nat.le_of_ble_eq_true rfl⟩) hS (fun q _ h => hFc q h) hFc (fun u t H locs ht hvm hw hB hz1 hk1 hS => ?_)
                                have hw := hw.symm; subst hw
                                obtain ⟨hP1, hD1⟩ := hB
                                rw [ht] at hP1
                                have hP := hP1
                                have hD := hD1.weaken (fun _ q _ h => hFc q.1 h)
                                refine lv_goto (tgt := 177) hx hb dX5_clause_125 (by decide) ?_
                                exact W.vret hx hb hr (fun t ht hW => ⟨⟨(q15.1, q15.2), rfl, Option.some.inj hf, by rw [ht]; exact hP, hD⟩, hS.F ht⟩) hS.2.2 dX5_clause_177
                              · have hf := if_f sw13 hf
                                by_cases sw14 : v1 = (113 : Int32)
                                · have hf := if_t sw14 hf
                                  refine lv_tabK (tgt := 168) (k := (113 : Int32)) hx hb dX5_clause_34 sw14 (by decide) (by decide) rfl (by decide) ?_
                                  refine lv_aload_n hx hb dX5_clause_168 rfl (lv_at hl 0 rfl) ?_
                                  refine lv_iconst (v := (1 : Int32)) hx hb dX5_clause_169 (by decide) ?_
                                  refine lv_aload_n hx hb dX5_clause_170 rfl (lv_at hl 0 rfl) ?_
                                  refine va_get (D := D) (ci := 5) (v := .int (x 0 2)) (C := RX5) (T := TX5) (N := 6) hx hb hG inG5 hown hK hP 0 at_TL_0_0 rfl 2 (by decide) (hG _ g_96) (fun _ h9 => h9) rfl dX5_clause_171 ?_
                                  obtain ⟨q16, hq16, hf⟩ := bd_x hf
                                  have hPc := subP [0, 1] sub_TL_T_0 hP
                                  have hDc := va_D.sub hD [0, 1] rfl sub_TL_T_0
                                  have hFc := va_free hD hS hA [0, 1] sub_TL_T_0
                                  refine va_callv (va_runV (As := [.int (1 : Int32), .int (x 0 2)]) (rest := []) ⟨hx, hb, hml, hown, hG⟩ (c_X5_fail l D cI cZ a x (1 : Int32) (x 0 2) H.size hq16) (cwV 2 hG (gV g_262 g_263 g_2 g_71 g_264) rfl rfl rfl (by decide +kernel) ⟨Nat.le_of_ble_eq_true rfl, Nat.le_of_ble_eq_true rfl⟩) ⟨pre_blind, va_recv hK hPc (ci := 5) (q0 := 0) rfl rfl, fun U hU hW => ⟨rfl, pre_of hPc hK hDc hnw hU hW⟩⟩ rfl rfl hl.1 rfl (lv_room (Nat.le_of_ble_eq_true rfl)) dX5_clause_174 ⟨Nat.le_of_ble_eq_true rfl, Nat.le_of_ble_eq_true rfl⟩) hS (fun q _ h => hFc q h) hFc (fun u t H locs ht hvm hw hB hz1 hk1 hS => ?_)
                                  have hw := hw.symm; subst hw
                                  obtain ⟨hP1, hD1⟩ := hB
                                  rw [ht] at hP1
                                  obtain ⟨hP, hD⟩ := back hP hD [0, 1] sub_TL_T_0 rfl hk1 hFc hP1 hD1
                                  have hP := wP put_TL_T_0_0 hP
                                  have hD := wD put_TL_T_0_0 hD
                                  exact W.vret hx hb hr (fun t ht hW => ⟨⟨(q16, x1), rfl, Option.some.inj hf, by rw [ht]; exact hP, hD⟩, hS.F ht⟩) hS.2.2 dX5_clause_177
                                · have hf := if_f sw14 hf
                                  by_cases sw15 : v1 = (114 : Int32)
                                  · have hf := if_t sw15 hf
                                    refine lv_tabK (tgt := 152) (k := (114 : Int32)) hx hb dX5_clause_34 sw15 (by decide) (by decide) rfl (by decide) ?_
                                    refine lv_aload_n hx hb dX5_clause_152 rfl (lv_at hl 0 rfl) ?_
                                    refine lv_aload_n hx hb dX5_clause_153 rfl (lv_at hl 1 rfl) ?_
                                    obtain ⟨q17, hq17, hf⟩ := bd_x hf
                                    have hFc := freeS hD hS hA
                                    refine va_callv (va_runV (As := [.ref (a1 0)]) (rest := []) ⟨hx, hb, hml, hown, hG⟩ (c_X5_trickClause l D cI cZ a a1 x x1 H.size hq17) (cwV 1 hG (gV g_289 g_290 g_10 g_71 g_291) rfl rfl rfl (by decide +kernel) ⟨Nat.le_of_ble_eq_true rfl, Nat.le_of_ble_eq_true rfl⟩) ⟨pre_blind, va_recv hK hP (ci := 5) (q0 := 0) rfl rfl, fun U hU hW => ⟨rfl, pre_of hP hK hD hnw hU hW⟩⟩ rfl rfl hl.1 rfl (lv_room (Nat.le_of_ble_eq_true rfl)) dX5_clause_154 ⟨Nat.le_of_ble_eq_true rfl, Nat.le_of_ble_eq_true rfl⟩) hS (fun q _ h => hFc q h) hFc (fun u t H locs ht hvm hw hB hz1 hk1 hS => ?_)
                                    have hw := hw.symm; subst hw
                                    obtain ⟨hP1, hD1⟩ := hB
                                    rw [ht] at hP1
                                    have hP := hP1
                                    have hD := hD1.weaken (fun _ q _ h => hFc q.1 h)
                                    refine lv_goto (tgt := 177) hx hb dX5_clause_157 (by decide) ?_
                                    exact W.vret hx hb hr (fun t ht hW => ⟨⟨(q17.1, q17.2), rfl, Option.some.inj hf, by rw [ht]; exact hP, hD⟩, hS.F ht⟩) hS.2.2 dX5_clause_177
                                  · have hf := if_f sw15 hf
                                    by_cases sw16 : v1 = (115 : Int32)
                                    · have hf := if_t sw16 hf
                                      refine lv_tabK (tgt := 168) (k := (115 : Int32)) hx hb dX5_clause_34 sw16 (by decide) (by decide) rfl (by decide) ?_
                                      refine lv_aload_n hx hb dX5_clause_168 rfl (lv_at hl 0 rfl) ?_
                                      refine lv_iconst (v := (1 : Int32)) hx hb dX5_clause_169 (by decide) ?_
                                      refine lv_aload_n hx hb dX5_clause_170 rfl (lv_at hl 0 rfl) ?_
                                      refine va_get (D := D) (ci := 5) (v := .int (x 0 2)) (C := RX5) (T := TX5) (N := 6) hx hb hG inG5 hown hK hP 0 at_TL_0_0 rfl 2 (by decide) (hG _ g_96) (fun _ h9 => h9) rfl dX5_clause_171 ?_
                                      obtain ⟨q18, hq18, hf⟩ := bd_x hf
                                      have hPc := subP [0, 1] sub_TL_T_0 hP
                                      have hDc := va_D.sub hD [0, 1] rfl sub_TL_T_0
                                      have hFc := va_free hD hS hA [0, 1] sub_TL_T_0
                                      refine va_callv (va_runV (As := [.int (1 : Int32), .int (x 0 2)]) (rest := []) ⟨hx, hb, hml, hown, hG⟩ (c_X5_fail l D cI cZ a x (1 : Int32) (x 0 2) H.size hq18) (cwV 2 hG (gV g_262 g_263 g_2 g_71 g_264) rfl rfl rfl (by decide +kernel) ⟨Nat.le_of_ble_eq_true rfl, Nat.le_of_ble_eq_true rfl⟩) ⟨pre_blind, va_recv hK hPc (ci := 5) (q0 := 0) rfl rfl, fun U hU hW => ⟨rfl, pre_of hPc hK hDc hnw hU hW⟩⟩ rfl rfl hl.1 rfl (lv_room (Nat.le_of_ble_eq_true rfl)) dX5_clause_174 ⟨Nat.le_of_ble_eq_true rfl, Nat.le_of_ble_eq_true rfl⟩) hS (fun q _ h => hFc q h) hFc (fun u t H locs ht hvm hw hB hz1 hk1 hS => ?_)
                                      have hw := hw.symm; subst hw
                                      obtain ⟨hP1, hD1⟩ := hB
                                      rw [ht] at hP1
                                      obtain ⟨hP, hD⟩ := back hP hD [0, 1] sub_TL_T_0 rfl hk1 hFc hP1 hD1
                                      have hP := wP put_TL_T_0_0 hP
                                      have hD := wD put_TL_T_0_0 hD
                                      exact W.vret hx hb hr (fun t ht hW => ⟨⟨(q18, x1), rfl, Option.some.inj hf, by rw [ht]; exact hP, hD⟩, hS.F ht⟩) hS.2.2 dX5_clause_177
                                    · have hf := if_f sw16 hf
                                      by_cases sw17 : v1 = (116 : Int32)
                                      · have hf := if_t sw17 hf
                                        refine lv_tabK (tgt := 144) (k := (116 : Int32)) hx hb dX5_clause_34 sw17 (by decide) (by decide) rfl (by decide) ?_
                                        refine lv_aload_n hx hb dX5_clause_144 rfl (lv_at hl 0 rfl) ?_
                                        refine lv_aload_n hx hb dX5_clause_145 rfl (lv_at hl 1 rfl) ?_
                                        obtain ⟨q19, hq19, hf⟩ := bd_x hf
                                        have hFc := freeS hD hS hA
                                        refine va_callv (va_runV (As := [.ref (a1 0)]) (rest := []) ⟨hx, hb, hml, hown, hG⟩ (c_X5_taskClause l D cI cZ a a1 x x1 H.size hq19) (cwV 1 hG (gV g_286 g_287 g_9 g_71 g_288) rfl rfl rfl (by decide +kernel) ⟨Nat.le_of_ble_eq_true rfl, Nat.le_of_ble_eq_true rfl⟩) ⟨pre_blind, va_recv hK hP (ci := 5) (q0 := 0) rfl rfl, fun U hU hW => ⟨rfl, pre_of hP hK hD hnw hU hW⟩⟩ rfl rfl hl.1 rfl (lv_room (Nat.le_of_ble_eq_true rfl)) dX5_clause_146 ⟨Nat.le_of_ble_eq_true rfl, Nat.le_of_ble_eq_true rfl⟩) hS (fun q _ h => hFc q h) hFc (fun u t H locs ht hvm hw hB hz1 hk1 hS => ?_)
                                        have hw := hw.symm; subst hw
                                        obtain ⟨hP1, hD1⟩ := hB
                                        rw [ht] at hP1
                                        have hP := hP1
                                        have hD := hD1.weaken (fun _ q _ h => hFc q.1 h)
                                        refine lv_goto (tgt := 177) hx hb dX5_clause_149 (by decide) ?_
                                        exact W.vret hx hb hr (fun t ht hW => ⟨⟨(q19.1, q19.2), rfl, Option.some.inj hf, by rw [ht]; exact hP, hD⟩, hS.F ht⟩) hS.2.2 dX5_clause_177
                                      · have hf := if_f sw17 hf
                                        refine lv_tableOut (tgt := 168) hx hb dX5_clause_34 (by have z0 := lv_neT (k := (99 : Int32)) (a := 99) sw0 rfl; have z1 := lv_neT (k := (100 : Int32)) (a := 100) sw1 rfl; have z2 := lv_neT (k := (101 : Int32)) (a := 101) sw2 rfl; have z3 := lv_neT (k := (102 : Int32)) (a := 102) sw3 rfl; have z4 := lv_neT (k := (103 : Int32)) (a := 103) sw4 rfl; have z5 := lv_neT (k := (104 : Int32)) (a := 104) sw5 rfl; have z6 := lv_neT (k := (105 : Int32)) (a := 105) sw6 rfl; have z7 := lv_neT (k := (106 : Int32)) (a := 106) sw7 rfl; have z8 := lv_neT (k := (107 : Int32)) (a := 107) sw8 rfl; have z9 := lv_neT (k := (108 : Int32)) (a := 108) sw9 rfl; have z10 := lv_neT (k := (109 : Int32)) (a := 109) sw10 rfl; have z11 := lv_neT (k := (110 : Int32)) (a := 110) sw11 rfl; have z12 := lv_neT (k := (111 : Int32)) (a := 111) sw12 rfl; have z13 := lv_neT (k := (112 : Int32)) (a := 112) sw13 rfl; have z14 := lv_neT (k := (113 : Int32)) (a := 113) sw14 rfl; have z15 := lv_neT (k := (114 : Int32)) (a := 114) sw15 rfl; have z16 := lv_neT (k := (115 : Int32)) (a := 115) sw16 rfl; have z17 := lv_neT (k := (116 : Int32)) (a := 116) sw17 rfl; omega) (by decide) ?_
                                        refine lv_aload_n hx hb dX5_clause_168 rfl (lv_at hl 0 rfl) ?_
                                        refine lv_iconst (v := (1 : Int32)) hx hb dX5_clause_169 (by decide) ?_
                                        refine lv_aload_n hx hb dX5_clause_170 rfl (lv_at hl 0 rfl) ?_
                                        refine va_get (D := D) (ci := 5) (v := .int (x 0 2)) (C := RX5) (T := TX5) (N := 6) hx hb hG inG5 hown hK hP 0 at_TL_0_0 rfl 2 (by decide) (hG _ g_96) (fun _ h9 => h9) rfl dX5_clause_171 ?_
                                        obtain ⟨q20, hq20, hf⟩ := bd_x hf
                                        have hPc := subP [0, 1] sub_TL_T_0 hP
                                        have hDc := va_D.sub hD [0, 1] rfl sub_TL_T_0
                                        have hFc := va_free hD hS hA [0, 1] sub_TL_T_0
                                        refine va_callv (va_runV (As := [.int (1 : Int32), .int (x 0 2)]) (rest := []) ⟨hx, hb, hml, hown, hG⟩ (c_X5_fail l D cI cZ a x (1 : Int32) (x 0 2) H.size hq20) (cwV 2 hG (gV g_262 g_263 g_2 g_71 g_264) rfl rfl rfl (by decide +kernel) ⟨Nat.le_of_ble_eq_true rfl, Nat.le_of_ble_eq_true rfl⟩) ⟨pre_blind, va_recv hK hPc (ci := 5) (q0 := 0) rfl rfl, fun U hU hW => ⟨rfl, pre_of hPc hK hDc hnw hU hW⟩⟩ rfl rfl hl.1 rfl (lv_room (Nat.le_of_ble_eq_true rfl)) dX5_clause_174 ⟨Nat.le_of_ble_eq_true rfl, Nat.le_of_ble_eq_true rfl⟩) hS (fun q _ h => hFc q h) hFc (fun u t H locs ht hvm hw hB hz1 hk1 hS => ?_)
                                        have hw := hw.symm; subst hw
                                        obtain ⟨hP1, hD1⟩ := hB
                                        rw [ht] at hP1
                                        obtain ⟨hP, hD⟩ := back hP hD [0, 1] sub_TL_T_0 rfl hk1 hFc hP1 hD1
                                        have hP := wP put_TL_T_0_0 hP
                                        have hD := wD put_TL_T_0_0 hD
                                        exact W.vret hx hb hr (fun t ht hW => ⟨⟨(q20, x1), rfl, Option.some.inj hf, by rw [ht]; exact hP, hD⟩, hS.F ht⟩) hS.2.2 dX5_clause_177
  refine lv_if_ne (tgt := 33) hx hb dX5_clause_14 (by decide) (fun cc14 => ?_) (fun cc14 => ?_)
  · have hf := if_f cc14 hf
    exact J33  _ _ _ hP hD hS (lv_sub hl [1, 2, 0] rfl) hf
  · have hf := if_t cc14 hf
    refine lv_iload_n hx hb dX5_clause_17 rfl (lv_at hl 0 rfl) ?_
    refine lv_bipush (v := (112 : Int32)) hx hb dX5_clause_18 (by decide) ?_
    refine lv_icmp_eq (tgt := 33) hx hb dX5_clause_20 (by decide) (fun cc20 => ?_) (fun cc20 => ?_)
    · have hf := if_t cc20 hf
      exact J33  _ _ _ hP hD hS (lv_sub hl [1, 2, 0] rfl) hf
    · have hf := if_f cc20 hf
      refine lv_aload_n hx hb dX5_clause_23 rfl (lv_at hl 1 rfl) ?_
      refine lv_iconst (v := (1 : Int32)) hx hb dX5_clause_24 (by decide) ?_
      refine lv_aload_n hx hb dX5_clause_25 rfl (lv_at hl 1 rfl) ?_
      refine va_get (D := D) (ci := 5) (v := .int (x 0 2)) (C := RX5) (T := TX5) (N := 6) hx hb hG inG5 hown hK hP 0 at_TL_0_0 rfl 2 (by decide) (hG _ g_96) (fun _ h9 => h9) rfl dX5_clause_26 ?_
      obtain ⟨q21, hq21, hf⟩ := bd_x hf
      have hPc := subP [0, 1] sub_TL_T_0 hP
      have hDc := va_D.sub hD [0, 1] rfl sub_TL_T_0
      have hFc := va_free hD hS hA [0, 1] sub_TL_T_0
      refine va_callv (va_runV (As := [.int (1 : Int32), .int (x 0 2)]) (rest := []) ⟨hx, hb, hml, hown, hG⟩ (c_X5_fail l D cI cZ a x (1 : Int32) (x 0 2) s.heap.size hq21) (cwV 2 hG (gV g_262 g_263 g_2 g_71 g_264) rfl rfl rfl (by decide +kernel) ⟨Nat.le_of_ble_eq_true rfl, Nat.le_of_ble_eq_true rfl⟩) ⟨pre_blind, va_recv hK hPc (ci := 5) (q0 := 0) rfl rfl, fun U hU hW => ⟨rfl, pre_of hPc hK hDc hnw hU hW⟩⟩ rfl rfl hl.1 rfl (lv_room (Nat.le_of_ble_eq_true rfl)) dX5_clause_29 ⟨Nat.le_of_ble_eq_true rfl, Nat.le_of_ble_eq_true rfl⟩) hS (fun q _ h => hFc q h) hFc (fun u t H locs ht hvm hw hB hz1 hk1 hS => ?_)
      have hw := hw.symm; subst hw
      obtain ⟨hP1, hD1⟩ := hB
      rw [ht] at hP1
      obtain ⟨hP, hD⟩ := back hP hD [0, 1] sub_TL_T_0 rfl hk1 hFc hP1 hD1
      have hP := wP put_TL_T_0_0 hP
      have hD := wD put_TL_T_0_0 hD
      exact W.vret hx hb hr (fun t ht hW => ⟨⟨(q21, x1), rfl, Option.some.inj hf, by rw [ht]; exact hP, hD⟩, hS.F ht⟩) hS.2.2 dX5_clause_32
def f_X5_parse_j65 (X7 : HC) (X8 : HC)  : Option (Int32 × HC × HC) := nm (sf X7 1 (0 : Int32)) (fun (X9 : HC) => some ((X9 0 4), X9, X8))
def f_X5_parse_b25  (rc25 : Int32 → HC → HC → Option (Int32 × HC × HC)) (v6 : Int32) (X7 : HC) (X8 : HC) : Option (Int32 × HC × HC) := (if (250 : Int32) ≤ v6 then f_X5_parse_j65 X7 X8 else (if (X7 0 4) = 0 then (if (X7 0 1) ≤ (X7 0 2) then f_X5_parse_j65 X7 X8 else bd (f_X5_clause X7 X8) (fun (q10 : HC × HC) => bd (f_X5_skipBlanks q10.1) (fun (q11 : HC) => nm (v6 + (1 : Int32)) (fun (v12 : Int32) => rc25 v12 q11 q10.2)))) else f_X5_parse_j65 X7 X8))
def f_X5_parse (x : HC) (x1 : HC) : Option (Int32 × HC × HC) := bd (f_X2_clear x1) (fun (q1 : HC) => nm (sf x 2 (0 : Int32)) (fun (X2 : HC) => nm (sf X2 4 (0 : Int32)) (fun (X3 : HC) => nm (sf X3 5 (-1 : Int32)) (fun (X4 : HC) => bd (f_X5_skipBlanks X4) (fun (q5 : HC) => lp (fun _ _ _ => none : Int32 → HC → HC → Option (Int32 × HC × HC)) f_X5_parse_b25 FU (0 : Int32) q5 q1)))))
abbrev RM_X5_parse : Room := { frames := 4, cells := 0, slots := 0, locals := 92 }
set_option maxHeartbeats 4000000 in
set_option maxRecDepth 100000 in
theorem c_X5_parse (l : Launch) (D : va_G) (cI cZ : ClassId) (a a1 : Nat → Nat) (x : HC) (x1 : HC) (sz : Nat) {r : Int32 × HC × HC} (hf : f_X5_parse x x1 = some r) : Met l yX5_parse (wM yX5_parse cX5_parse 3 (some .int)) RM_X5_parse (va_Pc [.ref (a 0), .ref (a1 0)] (pre D cI cZ (kT cI a x ++ (kL cI a1 x1)) sz)) (QI D (va_A (kT cI a x ++ (kL cI a1 x1)) sz) (fun (u : HC × HC) => (kT cI a u.1 ++ (kL cI a1 u.2))) r) 0 0 (va_A (kT cI a x ++ (kL cI a1 x1)) sz) := by
  unfold f_X5_parse at hf
  refine Met.ofW (cc := cX5_parse) (maxL := 3) (ret := (some .int)) (by decide) rfl ?_
  intro p e s m args below meth c s₁ B hml hv
  obtain ⟨rfl, hsz, hP, hK, hD0, hnw⟩ := hv
  have hx := B.exec
  have hb := B.bytes
  have hr := B.returns
  have hts := atoms_spec (ws := wM yX5_parse cX5_parse 3 (some .int)) B.pre
  have hG : ∀ w ∈ GW, w.before (([.ref (a 0), .ref (a1 0)] : List Value).toArray) s = true := fun w h => hts w (List.mem_cons_of_mem _ h)
  have hown : s.vm.findClass RX5 = some m.cls := findClass_of_methodNamed B.named
  have hlocks := B.notSynchronized
  subst hsz
  have hD := hD0.self (sz := s.heap.size)
  generalize hAe : va_A (kT cI a x ++ (kL cI a1 x1)) s.heap.size = A at hD ⊢
  have hA : ∀ q : Nat, s.heap.size ≤ q → A q := fun q h => by rw [← hAe]; exact Or.inr h
  have hS : va_S A s.heap s.heap [] := va_S.rf
  have hl := lv_entry ([.ref (a 0), .ref (a1 0)]) (n := 3) (Nat.le_of_ble_eq_true rfl)
  rw [lg_entry_eq]
  generalize (lg_sl ([.ref (a 0), .ref (a1 0)]) ++ List.replicate (3 - (lg_sl ([.ref (a 0), .ref (a1 0)])).length) Slot.unset).toArray = ls at hl ⊢
  have hl : lv_has ls 3 [(0, .ref (a 0)), (1, .ref (a1 0))] := hl
  show W p l e RM_X5_parse s m (([.ref (a 0), .ref (a1 0)] : List Value).toArray) below meth c s.heap [] 0 0 (MQ below (QI D A (fun (u : HC × HC) => (kT cI a u.1 ++ (kL cI a1 u.2))) r) (([.ref (a 0), .ref (a1 0)] : List Value).toArray) s 0 0 A) (F0 m 0 ls [])
  refine lv_aload_n hx hb dX5_parse_0 rfl (lv_at hl 1 rfl) ?_
  obtain ⟨q1, hq1, hf⟩ := bd_x hf
  have hPc := subP [2, 3, 4, 5, 6, 7, 8, 9, 10, 11, 12, 13, 14] sub_TL_L_1 hP
  have hDc := va_D.sub hD [2, 3, 4, 5, 6, 7, 8, 9, 10, 11, 12, 13, 14] rfl sub_TL_L_1
  have hFc := va_free hD hS hA [2, 3, 4, 5, 6, 7, 8, 9, 10, 11, 12, 13, 14] sub_TL_L_1
  refine va_callv (va_runV (As := []) (rest := []) ⟨hx, hb, hml, hown, hG⟩ (c_X2_clear l D cI cZ a1 x1 s.heap.size hq1) (cwV 0 hG (gV g_252 g_253 g_254 g_72 g_255) rfl rfl rfl (by decide +kernel) ⟨Nat.le_of_ble_eq_true rfl, Nat.le_of_ble_eq_true rfl⟩) ⟨pre_blind, va_recv hK hPc (ci := 2) (q0 := 0) rfl rfl, fun U hU hW => ⟨rfl, pre_of hPc hK hDc hnw hU hW⟩⟩ rfl rfl hl.1 rfl (lv_room (Nat.le_of_ble_eq_true rfl)) dX5_parse_1 ⟨Nat.le_of_ble_eq_true rfl, Nat.le_of_ble_eq_true rfl⟩) hS (fun q _ h => hFc q h) hFc (fun u t H locs ht hvm hw hB hz1 hk1 hS => ?_)
  have hw := hw.symm; subst hw
  obtain ⟨hP1, hD1⟩ := hB
  rw [ht] at hP1
  obtain ⟨hP, hD⟩ := back hP hD [2, 3, 4, 5, 6, 7, 8, 9, 10, 11, 12, 13, 14] sub_TL_L_1 rfl hk1 hFc hP1 hD1
  have hP := wP put_TL_L_1_0 hP
  have hD := wD put_TL_L_1_0 hD
  refine lv_aload_n hx hb dX5_parse_4 rfl (lv_at hl 0 rfl) ?_
  refine lv_iconst (v := (0 : Int32)) hx hb dX5_parse_5 (by decide) ?_
  refine va_put (D := D) (ci := 5) (v := .int (0 : Int32)) (ty := .int) (C := RX5) (T := TX5) (N := 6) hx hb hG inG5 tyX5 tyX5_ok nmX5 hown hK hP hD hS 0 at_TL_0_0 rfl 2 (by decide) (hG _ g_96) (fun _ h9 => h9) rfl (by decide +kernel) rfl rfl (Nat.le_of_ble_eq_true rfl) dX5_parse_6 (fun H locs hP hD hS => ?_)
  obtain ⟨X2, eX2⟩ : ∃ y : HC, y = (sf x 2 (0 : Int32)) := ⟨_, rfl⟩
  have hf := nm_x eX2 hf
  have hP := wP (sf_TL_0_2.trans (congrArg (fun z : HC => (kT cI a z ++ (kL cI a1 q1))) eX2.symm)) hP
  have hD := wD (sf_TL_0_2.trans (congrArg (fun z : HC => (kT cI a z ++ (kL cI a1 q1))) eX2.symm)) hD
  refine lv_aload_n hx hb dX5_parse_9 rfl (lv_at hl 0 rfl) ?_
  refine lv_iconst (v := (0 : Int32)) hx hb dX5_parse_10 (by decide) ?_
  refine va_put (D := D) (ci := 5) (v := .int (0 : Int32)) (ty := .int) (C := RX5) (T := TX5) (N := 6) hx hb hG inG5 tyX5 tyX5_ok nmX5 hown hK hP hD hS 0 at_TL_0_0 rfl 4 (by decide) (hG _ g_98) (fun _ h9 => h9) rfl (by decide +kernel) rfl rfl (Nat.le_of_ble_eq_true rfl) dX5_parse_11 (fun H locs hP hD hS => ?_)
  obtain ⟨X3, eX3⟩ : ∃ y : HC, y = (sf X2 4 (0 : Int32)) := ⟨_, rfl⟩
  have hf := nm_x eX3 hf
  have hP := wP (sf_TL_0_4.trans (congrArg (fun z : HC => (kT cI a z ++ (kL cI a1 q1))) eX3.symm)) hP
  have hD := wD (sf_TL_0_4.trans (congrArg (fun z : HC => (kT cI a z ++ (kL cI a1 q1))) eX3.symm)) hD
  refine lv_aload_n hx hb dX5_parse_14 rfl (lv_at hl 0 rfl) ?_
  refine lv_iconst (v := (-1 : Int32)) hx hb dX5_parse_15 (by decide) ?_
  refine va_put (D := D) (ci := 5) (v := .int (-1 : Int32)) (ty := .int) (C := RX5) (T := TX5) (N := 6) hx hb hG inG5 tyX5 tyX5_ok nmX5 hown hK hP hD hS 0 at_TL_0_0 rfl 5 (by decide) (hG _ g_99) (fun _ h9 => h9) rfl (by decide +kernel) rfl rfl (Nat.le_of_ble_eq_true rfl) dX5_parse_16 (fun H locs hP hD hS => ?_)
  obtain ⟨X4, eX4⟩ : ∃ y : HC, y = (sf X3 5 (-1 : Int32)) := ⟨_, rfl⟩
  have hf := nm_x eX4 hf
  have hP := wP (sf_TL_0_5.trans (congrArg (fun z : HC => (kT cI a z ++ (kL cI a1 q1))) eX4.symm)) hP
  have hD := wD (sf_TL_0_5.trans (congrArg (fun z : HC => (kT cI a z ++ (kL cI a1 q1))) eX4.symm)) hD
  refine lv_aload_n hx hb dX5_parse_19 rfl (lv_at hl 0 rfl) ?_
  obtain ⟨q5, hq5, hf⟩ := bd_x hf
  have hPc := subP [0, 1] sub_TL_T_0 hP
  have hDc := va_D.sub hD [0, 1] rfl sub_TL_T_0
  have hFc := va_free hD hS hA [0, 1] sub_TL_T_0
  refine va_callv (va_runV (As := []) (rest := []) ⟨hx, hb, hml, hown, hG⟩ (c_X5_skipBlanks l D cI cZ a X4 H.size hq5) (cwV 0 hG (gV g_256 g_257 g_0 g_71 g_258) rfl rfl rfl (by decide +kernel) ⟨Nat.le_of_ble_eq_true rfl, Nat.le_of_ble_eq_true rfl⟩) ⟨pre_blind, va_recv hK hPc (ci := 5) (q0 := 0) rfl rfl, fun U hU hW => ⟨rfl, pre_of hPc hK hDc hnw hU hW⟩⟩ rfl rfl hl.1 rfl (lv_room (Nat.le_of_ble_eq_true rfl)) dX5_parse_20 ⟨Nat.le_of_ble_eq_true rfl, Nat.le_of_ble_eq_true rfl⟩) hS (fun q _ h => hFc q h) hFc (fun u t H locs ht hvm hw hB hz1 hk1 hS => ?_)
  have hw := hw.symm; subst hw
  obtain ⟨hP1, hD1⟩ := hB
  rw [ht] at hP1
  obtain ⟨hP, hD⟩ := back hP hD [0, 1] sub_TL_T_0 rfl hk1 hFc hP1 hD1
  have hP := wP put_TL_T_0_0 hP
  have hD := wD put_TL_T_0_0 hD
  refine lv_iconst (v := (0 : Int32)) hx hb dX5_parse_23 (by decide) ?_
  refine lv_istore_n (lv' := [(2, .int (0 : Int32)), (0, .ref (a 0)), (1, .ref (a1 0))]) hx hb dX5_parse_24 rfl hl (by decide) rfl (fun ls hl => ?_)
  have L25 : ∀ (n : Nat) (v6 : Int32) (X7 : HC) (X8 : HC) (H : Heap) (locs : List Loc) (ls : Array Slot), va_P D vwCl (kT cI a X7 ++ (kL cI a1 X8)) H → va_D A (kT cI a X7 ++ (kL cI a1 X8)) → va_S A s.heap H locs → lv_has ls 3 [(0, .ref (a 0)), (1, .ref (a1 0)), (2, .int v6)] → lp (fun _ _ _ => none : Int32 → HC → HC → Option (Int32 × HC × HC)) f_X5_parse_b25 n v6 X7 X8 = some r → W p l e RM_X5_parse s m (([.ref (a 0), .ref (a1 0)] : List Value).toArray) below meth c H locs 0 0 (MQ below (QI D A (fun (u : HC × HC) => (kT cI a u.1 ++ (kL cI a1 u.2))) r) (([.ref (a 0), .ref (a1 0)] : List Value).toArray) s 0 0 A) (F0 m 25 ls []) := by
    intro n
    induction n with
    | zero => intro v6 X7 X8 H locs ls _ _ _ _ hf; cases (show (none : Option (Int32 × HC × HC)) = some r from hf)
    | succ n ih25 =>
      intro v6 X7 X8 H locs ls hP hD hS hl hf
      have hf : f_X5_parse_b25 (lp (fun _ _ _ => none : Int32 → HC → HC → Option (Int32 × HC × HC)) f_X5_parse_b25 n) v6 X7 X8 = some r := hf
      generalize lp (fun _ _ _ => none : Int32 → HC → HC → Option (Int32 × HC × HC)) f_X5_parse_b25 n = rc25 at ih25 hf
      unfold f_X5_parse_b25 at hf
      refine lv_iload_n hx hb dX5_parse_25 rfl (lv_at hl 2 rfl) ?_
      refine lv_sipush (v := (250 : Int32)) hx hb dX5_parse_26 (by decide) ?_
      have J65 : ∀  (H : Heap) (locs : List Loc) (ls : Array Slot), va_P D vwCl (kT cI a X7 ++ (kL cI a1 X8)) H → va_D A (kT cI a X7 ++ (kL cI a1 X8)) → va_S A s.heap H locs → lv_has ls 3 [(0, .ref (a 0))] → f_X5_parse_j65 X7 X8  = some r → W p l e RM_X5_parse s m (([.ref (a 0), .ref (a1 0)] : List Value).toArray) below meth c H locs 0 0 (MQ below (QI D A (fun (u : HC × HC) => (kT cI a u.1 ++ (kL cI a1 u.2))) r) (([.ref (a 0), .ref (a1 0)] : List Value).toArray) s 0 0 A) (F0 m 65 ls []) := by
        intro  H locs ls hP hD hS hl hf
        unfold f_X5_parse_j65 at hf
        refine lv_aload_n hx hb dX5_parse_65 rfl (lv_at hl 0 rfl) ?_
        refine lv_iconst (v := (0 : Int32)) hx hb dX5_parse_66 (by decide) ?_
        refine va_put (D := D) (ci := 5) (v := .int (0 : Int32)) (ty := .int) (C := RX5) (T := TX5) (N := 6) hx hb hG inG5 tyX5 tyX5_ok nmX5 hown hK hP hD hS 0 at_TL_0_0 rfl 1 (by decide) (hG _ g_94) (fun _ h9 => h9) rfl (by decide +kernel) rfl rfl (Nat.le_of_ble_eq_true rfl) dX5_parse_67 (fun H locs hP hD hS => ?_)
        obtain ⟨X9, eX9⟩ : ∃ y : HC, y = (sf X7 1 (0 : Int32)) := ⟨_, rfl⟩
        have hf := nm_x eX9 hf
        have hP := wP (sf_TL_0_1.trans (congrArg (fun z : HC => (kT cI a z ++ (kL cI a1 X8))) eX9.symm)) hP
        have hD := wD (sf_TL_0_1.trans (congrArg (fun z : HC => (kT cI a z ++ (kL cI a1 X8))) eX9.symm)) hD
        refine lv_aload_n hx hb dX5_parse_70 rfl (lv_at hl 0 rfl) ?_
        refine va_get (D := D) (ci := 5) (v := .int (X9 0 4)) (C := RX5) (T := TX5) (N := 6) hx hb hG inG5 hown hK hP 0 at_TL_0_0 rfl 4 (by decide) (hG _ g_98) (fun _ h9 => h9) rfl dX5_parse_71 ?_
        exact W.iret (v := (X9 0 4)) hx hb hr (fun t ht hW => ⟨⟨(X9 0 4), (X9, X8), rfl, ⟨pr_1 hf, pr_2 hf⟩, by rw [ht]; exact hP, hD⟩, hS.F ht⟩) hS.2.2 dX5_parse_74
      refine lv_icmp_ge (tgt := 65) hx hb dX5_parse_29 (by decide) (fun cc29 => ?_) (fun cc29 => ?_)
      · have hf := if_t cc29 hf
        exact J65  _ _ _ hP hD hS (lv_sub hl [0] rfl) hf
      · have hf := if_f cc29 hf
        refine lv_aload_n hx hb dX5_parse_32 rfl (lv_at hl 0 rfl) ?_
        refine va_get (D := D) (ci := 5) (v := .int (X7 0 4)) (C := RX5) (T := TX5) (N := 6) hx hb hG inG5 hown hK hP 0 at_TL_0_0 rfl 4 (by decide) (hG _ g_98) (fun _ h9 => h9) rfl dX5_parse_33 ?_
        refine lv_if_ne (tgt := 65) hx hb dX5_parse_36 (by decide) (fun cc36 => ?_) (fun cc36 => ?_)
        · have hf := if_f cc36 hf
          exact J65  _ _ _ hP hD hS (lv_sub hl [0] rfl) hf
        · have hf := if_t cc36 hf
          refine lv_aload_n hx hb dX5_parse_39 rfl (lv_at hl 0 rfl) ?_
          refine va_get (D := D) (ci := 5) (v := .int (X7 0 2)) (C := RX5) (T := TX5) (N := 6) hx hb hG inG5 hown hK hP 0 at_TL_0_0 rfl 2 (by decide) (hG _ g_96) (fun _ h9 => h9) rfl dX5_parse_40 ?_
          refine lv_aload_n hx hb dX5_parse_43 rfl (lv_at hl 0 rfl) ?_
          refine va_get (D := D) (ci := 5) (v := .int (X7 0 1)) (C := RX5) (T := TX5) (N := 6) hx hb hG inG5 hown hK hP 0 at_TL_0_0 rfl 1 (by decide) (hG _ g_94) (fun _ h9 => h9) rfl dX5_parse_44 ?_
          refine lv_icmp_ge (tgt := 65) hx hb dX5_parse_47 (by decide) (fun cc47 => ?_) (fun cc47 => ?_)
          · have hf := if_t cc47 hf
            exact J65  _ _ _ hP hD hS (lv_sub hl [0] rfl) hf
          · have hf := if_f cc47 hf
            refine lv_aload_n hx hb dX5_parse_50 rfl (lv_at hl 0 rfl) ?_
            refine lv_aload_n hx hb dX5_parse_51 rfl (lv_at hl 1 rfl) ?_
            obtain ⟨q10, hq10, hf⟩ := bd_x hf
            have hFc := freeS hD hS hA
            refine va_callv (va_runV (As := [.ref (a1 0)]) (rest := []) ⟨hx, hb, hml, hown, hG⟩ (c_X5_clause l D cI cZ a a1 X7 X8 H.size hq10) (cwV 1 hG (gV g_259 g_260 g_1 g_71 g_261) rfl rfl rfl (by decide +kernel) ⟨Nat.le_of_ble_eq_true rfl, Nat.le_of_ble_eq_true rfl⟩) ⟨pre_blind, va_recv hK hP (ci := 5) (q0 := 0) rfl rfl, fun U hU hW => ⟨rfl, pre_of hP hK hD hnw hU hW⟩⟩ rfl rfl hl.1 rfl (lv_room (Nat.le_of_ble_eq_true rfl)) dX5_parse_52 ⟨Nat.le_of_ble_eq_true rfl, Nat.le_of_ble_eq_true rfl⟩) hS (fun q _ h => hFc q h) hFc (fun u t H locs ht hvm hw hB hz1 hk1 hS => ?_)
            have hw := hw.symm; subst hw
            obtain ⟨hP1, hD1⟩ := hB
            rw [ht] at hP1
            have hP := hP1
            have hD := hD1.weaken (fun _ q _ h => hFc q.1 h)
            refine lv_aload_n hx hb dX5_parse_55 rfl (lv_at hl 0 rfl) ?_
            obtain ⟨q11, hq11, hf⟩ := bd_x hf
            have hPc := subP [0, 1] sub_TL_T_0 hP
            have hDc := va_D.sub hD [0, 1] rfl sub_TL_T_0
            have hFc := va_free hD hS hA [0, 1] sub_TL_T_0
            refine va_callv (va_runV (As := []) (rest := []) ⟨hx, hb, hml, hown, hG⟩ (c_X5_skipBlanks l D cI cZ a q10.1 H.size hq11) (cwV 0 hG (gV g_256 g_257 g_0 g_71 g_258) rfl rfl rfl (by decide +kernel) ⟨Nat.le_of_ble_eq_true rfl, Nat.le_of_ble_eq_true rfl⟩) ⟨pre_blind, va_recv hK hPc (ci := 5) (q0 := 0) rfl rfl, fun U hU hW => ⟨rfl, pre_of hPc hK hDc hnw hU hW⟩⟩ rfl rfl hl.1 rfl (lv_room (Nat.le_of_ble_eq_true rfl)) dX5_parse_56 ⟨Nat.le_of_ble_eq_true rfl, Nat.le_of_ble_eq_true rfl⟩) hS (fun q _ h => hFc q h) hFc (fun u t H locs ht hvm hw hB hz1 hk1 hS => ?_)
            have hw := hw.symm; subst hw
            obtain ⟨hP1, hD1⟩ := hB
            rw [ht] at hP1
            obtain ⟨hP, hD⟩ := back hP hD [0, 1] sub_TL_T_0 rfl hk1 hFc hP1 hD1
            have hP := wP put_TL_T_0_0 hP
            have hD := wD put_TL_T_0_0 hD
            obtain ⟨v12, ev12⟩ : ∃ y : Int32, y = (v6 + (1 : Int32)) := ⟨_, rfl⟩
            have hf := nm_x ev12 hf
            refine lv_iinc (v := v12) (lv' := [(2, .int v12), (0, .ref (a 0)), (1, .ref (a1 0))]) hx hb dX5_parse_59 hl (k := 2) rfl (by rw [ev12]; rfl) (by decide) rfl (fun ls hl => ?_)
            refine lv_goto (tgt := 25) hx hb dX5_parse_62 (by decide) ?_
            exact ih25 v12 q11 q10.2 _ _ _ hP hD hS (lv_sub hl [1, 2, 0] rfl) hf
  exact L25 FU (0 : Int32) q5 q1 _ _ _ hP hD hS (lv_sub hl [1, 2, 0] rfl) hf
