theorem sf_M_0_4 {cI cZ : ClassId} {a : Nat → Nat} {x : HC} {v : Int32} : (kM cI cZ a x).set 0 (a 0, .inr (7, ([.ref (a 1), .ref (a 2), .ref (a 3), .int (x 0 3), .int (x 0 4), .int (x 0 5), .int (x 0 6), .ref (a 4), .ref (a 5), .int (x 0 9), .ref (a 6), .int (x 0 11), .ref (a 7), .int (x 0 13), .ref (a 8), .ref (a 9), .int (x 0 16), .int (x 0 17), .int (x 0 18), .int (x 0 19), .int (x 0 20), .ref (a 10), .int (x 0 22), .ref (a 11), .int (x 0 24), .ref (a 12), .int (x 0 26), .ref (a 13), .ref (a 14), .ref (a 15), .ref (a 16), .ref (a 17)] : List Value).set 4 (.int v))) = (kM cI cZ a (sf x 4 v)) := rfl
theorem sf_M_0_5 {cI cZ : ClassId} {a : Nat → Nat} {x : HC} {v : Int32} : (kM cI cZ a x).set 0 (a 0, .inr (7, ([.ref (a 1), .ref (a 2), .ref (a 3), .int (x 0 3), .int (x 0 4), .int (x 0 5), .int (x 0 6), .ref (a 4), .ref (a 5), .int (x 0 9), .ref (a 6), .int (x 0 11), .ref (a 7), .int (x 0 13), .ref (a 8), .ref (a 9), .int (x 0 16), .int (x 0 17), .int (x 0 18), .int (x 0 19), .int (x 0 20), .ref (a 10), .int (x 0 22), .ref (a 11), .int (x 0 24), .ref (a 12), .int (x 0 26), .ref (a 13), .ref (a 14), .ref (a 15), .ref (a 16), .ref (a 17)] : List Value).set 5 (.int v))) = (kM cI cZ a (sf x 5 v)) := rfl
theorem sf_M_0_6 {cI cZ : ClassId} {a : Nat → Nat} {x : HC} {v : Int32} : (kM cI cZ a x).set 0 (a 0, .inr (7, ([.ref (a 1), .ref (a 2), .ref (a 3), .int (x 0 3), .int (x 0 4), .int (x 0 5), .int (x 0 6), .ref (a 4), .ref (a 5), .int (x 0 9), .ref (a 6), .int (x 0 11), .ref (a 7), .int (x 0 13), .ref (a 8), .ref (a 9), .int (x 0 16), .int (x 0 17), .int (x 0 18), .int (x 0 19), .int (x 0 20), .ref (a 10), .int (x 0 22), .ref (a 11), .int (x 0 24), .ref (a 12), .int (x 0 26), .ref (a 13), .ref (a 14), .ref (a 15), .ref (a 16), .ref (a 17)] : List Value).set 6 (.int v))) = (kM cI cZ a (sf x 6 v)) := rfl
theorem sf_M_0_9 {cI cZ : ClassId} {a : Nat → Nat} {x : HC} {v : Int32} : (kM cI cZ a x).set 0 (a 0, .inr (7, ([.ref (a 1), .ref (a 2), .ref (a 3), .int (x 0 3), .int (x 0 4), .int (x 0 5), .int (x 0 6), .ref (a 4), .ref (a 5), .int (x 0 9), .ref (a 6), .int (x 0 11), .ref (a 7), .int (x 0 13), .ref (a 8), .ref (a 9), .int (x 0 16), .int (x 0 17), .int (x 0 18), .int (x 0 19), .int (x 0 20), .ref (a 10), .int (x 0 22), .ref (a 11), .int (x 0 24), .ref (a 12), .int (x 0 26), .ref (a 13), .ref (a 14), .ref (a 15), .ref (a 16), .ref (a 17)] : List Value).set 9 (.int v))) = (kM cI cZ a (sf x 9 v)) := rfl
theorem sf_M_0_11 {cI cZ : ClassId} {a : Nat → Nat} {x : HC} {v : Int32} : (kM cI cZ a x).set 0 (a 0, .inr (7, ([.ref (a 1), .ref (a 2), .ref (a 3), .int (x 0 3), .int (x 0 4), .int (x 0 5), .int (x 0 6), .ref (a 4), .ref (a 5), .int (x 0 9), .ref (a 6), .int (x 0 11), .ref (a 7), .int (x 0 13), .ref (a 8), .ref (a 9), .int (x 0 16), .int (x 0 17), .int (x 0 18), .int (x 0 19), .int (x 0 20), .ref (a 10), .int (x 0 22), .ref (a 11), .int (x 0 24), .ref (a 12), .int (x 0 26), .ref (a 13), .ref (a 14), .ref (a 15), .ref (a 16), .ref (a 17)] : List Value).set 11 (.int v))) = (kM cI cZ a (sf x 11 v)) := rfl
theorem sf_M_0_13 {cI cZ : ClassId} {a : Nat → Nat} {x : HC} {v : Int32} : (kM cI cZ a x).set 0 (a 0, .inr (7, ([.ref (a 1), .ref (a 2), .ref (a 3), .int (x 0 3), .int (x 0 4), .int (x 0 5), .int (x 0 6), .ref (a 4), .ref (a 5), .int (x 0 9), .ref (a 6), .int (x 0 11), .ref (a 7), .int (x 0 13), .ref (a 8), .ref (a 9), .int (x 0 16), .int (x 0 17), .int (x 0 18), .int (x 0 19), .int (x 0 20), .ref (a 10), .int (x 0 22), .ref (a 11), .int (x 0 24), .ref (a 12), .int (x 0 26), .ref (a 13), .ref (a 14), .ref (a 15), .ref (a 16), .ref (a 17)] : List Value).set 13 (.int v))) = (kM cI cZ a (sf x 13 v)) := rfl
theorem at_M_0_1 {cI cZ : ClassId} {a : Nat → Nat} {x : HC} : (kM cI cZ a x)[1]? = some (a 1, .inl (cI, 141, .inl (x 1))) := rfl
theorem sa_M_0_1 {cI cZ : ClassId} {a : Nat → Nat} {x : HC} {i v : Int32} : (kM cI cZ a x).set 1 (a 1, .inl (cI, 141, .inl (upd (x 1) i.toNatClampNeg v))) = (kM cI cZ a (sa x 1 i v)) := rfl
theorem sf_M_0_16 {cI cZ : ClassId} {a : Nat → Nat} {x : HC} {v : Int32} : (kM cI cZ a x).set 0 (a 0, .inr (7, ([.ref (a 1), .ref (a 2), .ref (a 3), .int (x 0 3), .int (x 0 4), .int (x 0 5), .int (x 0 6), .ref (a 4), .ref (a 5), .int (x 0 9), .ref (a 6), .int (x 0 11), .ref (a 7), .int (x 0 13), .ref (a 8), .ref (a 9), .int (x 0 16), .int (x 0 17), .int (x 0 18), .int (x 0 19), .int (x 0 20), .ref (a 10), .int (x 0 22), .ref (a 11), .int (x 0 24), .ref (a 12), .int (x 0 26), .ref (a 13), .ref (a 14), .ref (a 15), .ref (a 16), .ref (a 17)] : List Value).set 16 (.int v))) = (kM cI cZ a (sf x 16 v)) := rfl
theorem at_M_0_2 {cI cZ : ClassId} {a : Nat → Nat} {x : HC} : (kM cI cZ a x)[2]? = some (a 2, .inl (cZ, 2, .inl (x 2))) := rfl
theorem sa_M_0_2 {cI cZ : ClassId} {a : Nat → Nat} {x : HC} {i v : Int32} : (kM cI cZ a x).set 2 (a 2, .inl (cZ, 2, .inl (upd (x 2) i.toNatClampNeg v))) = (kM cI cZ a (sa x 2 i v)) := rfl
theorem at_M_0_4 {cI cZ : ClassId} {a : Nat → Nat} {x : HC} : (kM cI cZ a x)[4]? = some (a 4, .inl (cI, 5, .inl (x 4))) := rfl
theorem sa_M_0_4 {cI cZ : ClassId} {a : Nat → Nat} {x : HC} {i v : Int32} : (kM cI cZ a x).set 4 (a 4, .inl (cI, 5, .inl (upd (x 4) i.toNatClampNeg v))) = (kM cI cZ a (sa x 4 i v)) := rfl
theorem at_M_0_5 {cI cZ : ClassId} {a : Nat → Nat} {x : HC} : (kM cI cZ a x)[5]? = some (a 5, .inl (cI, 5, .inl (x 5))) := rfl
theorem sa_M_0_5 {cI cZ : ClassId} {a : Nat → Nat} {x : HC} {i v : Int32} : (kM cI cZ a x).set 5 (a 5, .inl (cI, 5, .inl (upd (x 5) i.toNatClampNeg v))) = (kM cI cZ a (sa x 5 i v)) := rfl
theorem at_M_0_6 {cI cZ : ClassId} {a : Nat → Nat} {x : HC} : (kM cI cZ a x)[6]? = some (a 6, .inl (cI, 6, .inl (x 6))) := rfl
theorem sa_M_0_6 {cI cZ : ClassId} {a : Nat → Nat} {x : HC} {i v : Int32} : (kM cI cZ a x).set 6 (a 6, .inl (cI, 6, .inl (upd (x 6) i.toNatClampNeg v))) = (kM cI cZ a (sa x 6 i v)) := rfl
theorem at_M_0_8 {cI cZ : ClassId} {a : Nat → Nat} {x : HC} : (kM cI cZ a x)[8]? = some (a 8, .inl (cI, 12, .inl (x 8))) := rfl
theorem sa_M_0_8 {cI cZ : ClassId} {a : Nat → Nat} {x : HC} {i v : Int32} : (kM cI cZ a x).set 8 (a 8, .inl (cI, 12, .inl (upd (x 8) i.toNatClampNeg v))) = (kM cI cZ a (sa x 8 i v)) := rfl
theorem at_M_0_7 {cI cZ : ClassId} {a : Nat → Nat} {x : HC} : (kM cI cZ a x)[7]? = some (a 7, .inl (cI, 24, .inl (x 7))) := rfl
theorem sa_M_0_7 {cI cZ : ClassId} {a : Nat → Nat} {x : HC} {i v : Int32} : (kM cI cZ a x).set 7 (a 7, .inl (cI, 24, .inl (upd (x 7) i.toNatClampNeg v))) = (kM cI cZ a (sa x 7 i v)) := rfl
def f_X7_faultOf_b78  (rc78 : Int32 → HC → Option (Int32 × HC)) (v12 : Int32) (X13 : HC) : Option (Int32 × HC) := (if v12 = 0 then (if (X13 0 3) ≤ (X13 0 17) then some (v12, X13) else bd (f_X7_clause X13) (fun (q14 : Int32 × HC) => nm q14.1 (fun (v15 : Int32) => (if v15 = 0 then bd (f_X7_skip q14.2) (fun (q16 : HC) => rc78 v15 q16) else rc78 v15 q14.2)))) else some (v12, X13))
def f_X7_faultOf_b53  (rc53 : Int32 → HC → Option (Int32 × HC)) (v9 : Int32) (X10 : HC) : Option (Int32 × HC) := (if (30 : Int32) ≤ v9 then bd (f_X7_skip X10) (fun (q11 : HC) => lp (fun _ _ => none : Int32 → HC → Option (Int32 × HC)) f_X7_faultOf_b78 FU (0 : Int32) q11) else (if inb v9 30 then nm (sa X10 14 v9 (-1 : Int32)) (fun (X17 : HC) => nm (v9 + (1 : Int32)) (fun (v18 : Int32) => rc53 v18 X17)) else none))
def f_X7_faultOf_b32  (rc32 : Int32 → HC → Option (Int32 × HC)) (v7 : Int32) (X8 : HC) : Option (Int32 × HC) := (if (6 : Int32) ≤ v7 then lp (fun _ _ => none : Int32 → HC → Option (Int32 × HC)) f_X7_faultOf_b53 FU (0 : Int32) X8 else (if inb v7 6 then nm (sa X8 11 v7 (0 : Int32)) (fun (X19 : HC) => nm (v7 + (1 : Int32)) (fun (v20 : Int32) => rc32 v20 X19)) else none))
def f_X7_faultOf (x : HC) : Option (Int32 × HC) := nm (sf x 17 (0 : Int32)) (fun (X1 : HC) => nm (sf X1 19 (0 : Int32)) (fun (X2 : HC) => nm (sf X2 20 (0 : Int32)) (fun (X3 : HC) => nm (sf X3 22 (0 : Int32)) (fun (X4 : HC) => nm (sf X4 24 (0 : Int32)) (fun (X5 : HC) => nm (sf X5 26 (0 : Int32)) (fun (X6 : HC) => lp (fun _ _ => none : Int32 → HC → Option (Int32 × HC)) f_X7_faultOf_b32 FU (0 : Int32) X6))))))
abbrev RM_X7_faultOf : Room := { frames := 6, cells := 0, slots := 0, locals := 138 }
set_option maxHeartbeats 4000000 in
set_option maxRecDepth 100000 in
theorem c_X7_faultOf (l : Launch) (D : va_G) (cI cZ : ClassId) (a : Nat → Nat) (x : HC) (sz : Nat) {r : Int32 × HC} (hf : f_X7_faultOf x = some r) : Met l yX7_faultOf (wM yX7_faultOf cX7_faultOf 2 (some .int)) RM_X7_faultOf (va_Pc [.ref (a 0)] (pre D cI cZ (kM cI cZ a x) sz)) (QI D (va_A (kM cI cZ a x) sz) (fun (u : HC) => (kM cI cZ a u)) r) 0 0 (va_A (kM cI cZ a x) sz) := by
  unfold f_X7_faultOf at hf
  refine Met.ofW (cc := cX7_faultOf) (maxL := 2) (ret := (some .int)) (by decide) rfl ?_
  intro p e s m args below meth c s₁ B hml hv
  obtain ⟨rfl, hsz, hP, hK, hD0, hnw⟩ := hv
  have hx := B.exec
  have hb := B.bytes
  have hr := B.returns
  have hts := atoms_spec (ws := wM yX7_faultOf cX7_faultOf 2 (some .int)) B.pre
  have hG : ∀ w ∈ GW, w.before (([.ref (a 0)] : List Value).toArray) s = true := fun w h => hts w (List.mem_cons_of_mem _ h)
  have hown : s.vm.findClass RX7 = some m.cls := findClass_of_methodNamed B.named
  have hlocks := B.notSynchronized
  subst hsz
  have hD := hD0.self (sz := s.heap.size)
  generalize hAe : va_A (kM cI cZ a x) s.heap.size = A at hD ⊢
  have hA : ∀ q : Nat, s.heap.size ≤ q → A q := fun q h => by rw [← hAe]; exact Or.inr h
  have hS : va_S A s.heap s.heap [] := va_S.rf
  have hl := lv_entry ([.ref (a 0)]) (n := 2) (Nat.le_of_ble_eq_true rfl)
  rw [lg_entry_eq]
  generalize (lg_sl ([.ref (a 0)]) ++ List.replicate (2 - (lg_sl ([.ref (a 0)])).length) Slot.unset).toArray = ls at hl ⊢
  have hl : lv_has ls 2 [(0, .ref (a 0))] := hl
  show W p l e RM_X7_faultOf s m (([.ref (a 0)] : List Value).toArray) below meth c s.heap [] 0 0 (MQ below (QI D A (fun (u : HC) => (kM cI cZ a u)) r) (([.ref (a 0)] : List Value).toArray) s 0 0 A) (F0 m 0 ls [])
  refine lv_aload_n hx hb dX7_faultOf_0 rfl (lv_at hl 0 rfl) ?_
  refine lv_iconst (v := (0 : Int32)) hx hb dX7_faultOf_1 (by decide) ?_
  refine va_put (D := D) (ci := 7) (v := .int (0 : Int32)) (ty := .int) (C := RX7) (T := TX7) (N := 32) hx hb hG inG7 tyX7 tyX7_ok nmX7 hown hK hP hD hS 0 at_M_0_0 rfl 17 (by decide) (hG _ g_581) (fun _ h9 => h9) rfl (by decide +kernel) rfl rfl (Nat.le_of_ble_eq_true rfl) dX7_faultOf_2 (fun H locs hP hD hS => ?_)
  obtain ⟨X1, eX1⟩ : ∃ y : HC, y = (sf x 17 (0 : Int32)) := ⟨_, rfl⟩
  have hf := nm_x eX1 hf
  have hP := wP (sf_M_0_17.trans (congrArg (fun z : HC => (kM cI cZ a z)) eX1.symm)) hP
  have hD := wD (sf_M_0_17.trans (congrArg (fun z : HC => (kM cI cZ a z)) eX1.symm)) hD
  refine lv_aload_n hx hb dX7_faultOf_5 rfl (lv_at hl 0 rfl) ?_
  refine lv_iconst (v := (0 : Int32)) hx hb dX7_faultOf_6 (by decide) ?_
  refine va_put (D := D) (ci := 7) (v := .int (0 : Int32)) (ty := .int) (C := RX7) (T := TX7) (N := 32) hx hb hG inG7 tyX7 tyX7_ok nmX7 hown hK hP hD hS 0 at_M_0_0 rfl 19 (by decide) (hG _ g_583) (fun _ h9 => h9) rfl (by decide +kernel) rfl rfl (Nat.le_of_ble_eq_true rfl) dX7_faultOf_7 (fun H locs hP hD hS => ?_)
  obtain ⟨X2, eX2⟩ : ∃ y : HC, y = (sf X1 19 (0 : Int32)) := ⟨_, rfl⟩
  have hf := nm_x eX2 hf
  have hP := wP (sf_M_0_19.trans (congrArg (fun z : HC => (kM cI cZ a z)) eX2.symm)) hP
  have hD := wD (sf_M_0_19.trans (congrArg (fun z : HC => (kM cI cZ a z)) eX2.symm)) hD
  refine lv_aload_n hx hb dX7_faultOf_10 rfl (lv_at hl 0 rfl) ?_
  refine lv_iconst (v := (0 : Int32)) hx hb dX7_faultOf_11 (by decide) ?_
  refine va_put (D := D) (ci := 7) (v := .int (0 : Int32)) (ty := .int) (C := RX7) (T := TX7) (N := 32) hx hb hG inG7 tyX7 tyX7_ok nmX7 hown hK hP hD hS 0 at_M_0_0 rfl 20 (by decide) (hG _ g_584) (fun _ h9 => h9) rfl (by decide +kernel) rfl rfl (Nat.le_of_ble_eq_true rfl) dX7_faultOf_12 (fun H locs hP hD hS => ?_)
  obtain ⟨X3, eX3⟩ : ∃ y : HC, y = (sf X2 20 (0 : Int32)) := ⟨_, rfl⟩
  have hf := nm_x eX3 hf
  have hP := wP (sf_M_0_20.trans (congrArg (fun z : HC => (kM cI cZ a z)) eX3.symm)) hP
  have hD := wD (sf_M_0_20.trans (congrArg (fun z : HC => (kM cI cZ a z)) eX3.symm)) hD
  refine lv_aload_n hx hb dX7_faultOf_15 rfl (lv_at hl 0 rfl) ?_
  refine lv_iconst (v := (0 : Int32)) hx hb dX7_faultOf_16 (by decide) ?_
  refine va_put (D := D) (ci := 7) (v := .int (0 : Int32)) (ty := .int) (C := RX7) (T := TX7) (N := 32) hx hb hG inG7 tyX7 tyX7_ok nmX7 hown hK hP hD hS 0 at_M_0_0 rfl 22 (by decide) (hG _ g_586) (fun _ h9 => h9) rfl (by decide +kernel) rfl rfl (Nat.le_of_ble_eq_true rfl) dX7_faultOf_17 (fun H locs hP hD hS => ?_)
  obtain ⟨X4, eX4⟩ : ∃ y : HC, y = (sf X3 22 (0 : Int32)) := ⟨_, rfl⟩
  have hf := nm_x eX4 hf
  have hP := wP (sf_M_0_22.trans (congrArg (fun z : HC => (kM cI cZ a z)) eX4.symm)) hP
  have hD := wD (sf_M_0_22.trans (congrArg (fun z : HC => (kM cI cZ a z)) eX4.symm)) hD
  refine lv_aload_n hx hb dX7_faultOf_20 rfl (lv_at hl 0 rfl) ?_
  refine lv_iconst (v := (0 : Int32)) hx hb dX7_faultOf_21 (by decide) ?_
  refine va_put (D := D) (ci := 7) (v := .int (0 : Int32)) (ty := .int) (C := RX7) (T := TX7) (N := 32) hx hb hG inG7 tyX7 tyX7_ok nmX7 hown hK hP hD hS 0 at_M_0_0 rfl 24 (by decide) (hG _ g_588) (fun _ h9 => h9) rfl (by decide +kernel) rfl rfl (Nat.le_of_ble_eq_true rfl) dX7_faultOf_22 (fun H locs hP hD hS => ?_)
  obtain ⟨X5, eX5⟩ : ∃ y : HC, y = (sf X4 24 (0 : Int32)) := ⟨_, rfl⟩
  have hf := nm_x eX5 hf
  have hP := wP (sf_M_0_24.trans (congrArg (fun z : HC => (kM cI cZ a z)) eX5.symm)) hP
  have hD := wD (sf_M_0_24.trans (congrArg (fun z : HC => (kM cI cZ a z)) eX5.symm)) hD
  refine lv_aload_n hx hb dX7_faultOf_25 rfl (lv_at hl 0 rfl) ?_
  refine lv_iconst (v := (0 : Int32)) hx hb dX7_faultOf_26 (by decide) ?_
  refine va_put (D := D) (ci := 7) (v := .int (0 : Int32)) (ty := .int) (C := RX7) (T := TX7) (N := 32) hx hb hG inG7 tyX7 tyX7_ok nmX7 hown hK hP hD hS 0 at_M_0_0 rfl 26 (by decide) (hG _ g_590) (fun _ h9 => h9) rfl (by decide +kernel) rfl rfl (Nat.le_of_ble_eq_true rfl) dX7_faultOf_27 (fun H locs hP hD hS => ?_)
  obtain ⟨X6, eX6⟩ : ∃ y : HC, y = (sf X5 26 (0 : Int32)) := ⟨_, rfl⟩
  have hf := nm_x eX6 hf
  have hP := wP (sf_M_0_26.trans (congrArg (fun z : HC => (kM cI cZ a z)) eX6.symm)) hP
  have hD := wD (sf_M_0_26.trans (congrArg (fun z : HC => (kM cI cZ a z)) eX6.symm)) hD
  refine lv_iconst (v := (0 : Int32)) hx hb dX7_faultOf_30 (by decide) ?_
  refine lv_istore_n (lv' := [(1, .int (0 : Int32)), (0, .ref (a 0))]) hx hb dX7_faultOf_31 rfl hl (by decide) rfl (fun ls hl => ?_)
  have L32 : ∀ (n : Nat) (v7 : Int32) (X8 : HC) (H : Heap) (locs : List Loc) (ls : Array Slot), va_P D vwCl (kM cI cZ a X8) H → va_D A (kM cI cZ a X8) → va_S A s.heap H locs → lv_has ls 2 [(0, .ref (a 0)), (1, .int v7)] → lp (fun _ _ => none : Int32 → HC → Option (Int32 × HC)) f_X7_faultOf_b32 n v7 X8 = some r → W p l e RM_X7_faultOf s m (([.ref (a 0)] : List Value).toArray) below meth c H locs 0 0 (MQ below (QI D A (fun (u : HC) => (kM cI cZ a u)) r) (([.ref (a 0)] : List Value).toArray) s 0 0 A) (F0 m 32 ls []) := by
    intro n
    induction n with
    | zero => intro v7 X8 H locs ls _ _ _ _ hf; cases (show (none : Option (Int32 × HC)) = some r from hf)
    | succ n ih32 =>
      intro v7 X8 H locs ls hP hD hS hl hf
      have hf : f_X7_faultOf_b32 (lp (fun _ _ => none : Int32 → HC → Option (Int32 × HC)) f_X7_faultOf_b32 n) v7 X8 = some r := hf
      generalize lp (fun _ _ => none : Int32 → HC → Option (Int32 × HC)) f_X7_faultOf_b32 n = rc32 at ih32 hf
      unfold f_X7_faultOf_b32 at hf
      refine lv_iload_n hx hb dX7_faultOf_32 rfl (lv_at hl 1 rfl) ?_
      refine lv_bipush (v := (6 : Int32)) hx hb dX7_faultOf_33 (by decide) ?_
      refine lv_icmp_ge (tgt := 51) hx hb dX7_faultOf_35 (by decide) (fun cc35 => ?_) (fun cc35 => ?_)
      · have hf := if_t cc35 hf
        refine lv_iconst (v := (0 : Int32)) hx hb dX7_faultOf_51 (by decide) ?_
        refine lv_istore_n (lv' := [(1, .int (0 : Int32)), (0, .ref (a 0))]) hx hb dX7_faultOf_52 rfl hl (by decide) rfl (fun ls hl => ?_)
        have L53 : ∀ (n : Nat) (v9 : Int32) (X10 : HC) (H : Heap) (locs : List Loc) (ls : Array Slot), va_P D vwCl (kM cI cZ a X10) H → va_D A (kM cI cZ a X10) → va_S A s.heap H locs → lv_has ls 2 [(0, .ref (a 0)), (1, .int v9)] → lp (fun _ _ => none : Int32 → HC → Option (Int32 × HC)) f_X7_faultOf_b53 n v9 X10 = some r → W p l e RM_X7_faultOf s m (([.ref (a 0)] : List Value).toArray) below meth c H locs 0 0 (MQ below (QI D A (fun (u : HC) => (kM cI cZ a u)) r) (([.ref (a 0)] : List Value).toArray) s 0 0 A) (F0 m 53 ls []) := by
          intro n
          induction n with
          | zero => intro v9 X10 H locs ls _ _ _ _ hf; cases (show (none : Option (Int32 × HC)) = some r from hf)
          | succ n ih53 =>
            intro v9 X10 H locs ls hP hD hS hl hf
            have hf : f_X7_faultOf_b53 (lp (fun _ _ => none : Int32 → HC → Option (Int32 × HC)) f_X7_faultOf_b53 n) v9 X10 = some r := hf
            generalize lp (fun _ _ => none : Int32 → HC → Option (Int32 × HC)) f_X7_faultOf_b53 n = rc53 at ih53 hf
            unfold f_X7_faultOf_b53 at hf
            refine lv_iload_n hx hb dX7_faultOf_53 rfl (lv_at hl 1 rfl) ?_
            refine lv_bipush (v := (30 : Int32)) hx hb dX7_faultOf_54 (by decide) ?_
            refine lv_icmp_ge (tgt := 72) hx hb dX7_faultOf_56 (by decide) (fun cc56 => ?_) (fun cc56 => ?_)
            · have hf := if_t cc56 hf
              refine lv_aload_n hx hb dX7_faultOf_72 rfl (lv_at hl 0 rfl) ?_
              obtain ⟨q11, hq11, hf⟩ := bd_x hf
              have hFc := freeS hD hS hA
              refine va_callv (va_runV (As := []) (rest := []) ⟨hx, hb, hml, hown, hG⟩ (c_X7_skip l D cI cZ a X10 H.size hq11) (cwV 0 hG (gV g_614 g_615 g_34 g_77 g_616) rfl rfl rfl (by decide +kernel) ⟨Nat.le_of_ble_eq_true rfl, Nat.le_of_ble_eq_true rfl⟩) ⟨pre_blind, va_recv hK hP (ci := 7) (q0 := 0) rfl rfl, fun U hU hW => ⟨rfl, pre_of hP hK hD hnw hU hW⟩⟩ rfl rfl hl.1 rfl (lv_room (Nat.le_of_ble_eq_true rfl)) dX7_faultOf_73 ⟨Nat.le_of_ble_eq_true rfl, Nat.le_of_ble_eq_true rfl⟩) hS (fun q _ h => hFc q h) hFc (fun u t H locs ht hvm hw hB hz1 hk1 hS => ?_)
              have hw := hw.symm; subst hw
              obtain ⟨hP1, hD1⟩ := hB
              rw [ht] at hP1
              have hP := hP1
              have hD := hD1.weaken (fun _ q _ h => hFc q.1 h)
              refine lv_iconst (v := (0 : Int32)) hx hb dX7_faultOf_76 (by decide) ?_
              refine lv_istore_n (lv' := [(1, .int (0 : Int32)), (0, .ref (a 0))]) hx hb dX7_faultOf_77 rfl hl (by decide) rfl (fun ls hl => ?_)
              have L78 : ∀ (n : Nat) (v12 : Int32) (X13 : HC) (H : Heap) (locs : List Loc) (ls : Array Slot), va_P D vwCl (kM cI cZ a X13) H → va_D A (kM cI cZ a X13) → va_S A s.heap H locs → lv_has ls 2 [(0, .ref (a 0)), (1, .int v12)] → lp (fun _ _ => none : Int32 → HC → Option (Int32 × HC)) f_X7_faultOf_b78 n v12 X13 = some r → W p l e RM_X7_faultOf s m (([.ref (a 0)] : List Value).toArray) below meth c H locs 0 0 (MQ below (QI D A (fun (u : HC) => (kM cI cZ a u)) r) (([.ref (a 0)] : List Value).toArray) s 0 0 A) (F0 m 78 ls []) := by
                intro n
                induction n with
                | zero => intro v12 X13 H locs ls _ _ _ _ hf; cases (show (none : Option (Int32 × HC)) = some r from hf)
                | succ n ih78 =>
                  intro v12 X13 H locs ls hP hD hS hl hf
                  have hf : f_X7_faultOf_b78 (lp (fun _ _ => none : Int32 → HC → Option (Int32 × HC)) f_X7_faultOf_b78 n) v12 X13 = some r := hf
                  generalize lp (fun _ _ => none : Int32 → HC → Option (Int32 × HC)) f_X7_faultOf_b78 n = rc78 at ih78 hf
                  unfold f_X7_faultOf_b78 at hf
                  refine lv_iload_n hx hb dX7_faultOf_78 rfl (lv_at hl 1 rfl) ?_
                  refine lv_if_ne (tgt := 109) hx hb dX7_faultOf_79 (by decide) (fun cc79 => ?_) (fun cc79 => ?_)
                  · have hf := if_f cc79 hf
                    refine lv_iload_n hx hb dX7_faultOf_109 rfl (lv_at hl 1 rfl) ?_
                    exact W.iret (v := v12) hx hb hr (fun t ht hW => ⟨⟨v12, X13, rfl, ⟨pr_1 hf, pr_2 hf⟩, by rw [ht]; exact hP, hD⟩, hS.F ht⟩) hS.2.2 dX7_faultOf_110
                  · have hf := if_t cc79 hf
                    refine lv_aload_n hx hb dX7_faultOf_82 rfl (lv_at hl 0 rfl) ?_
                    refine va_get (D := D) (ci := 7) (v := .int (X13 0 17)) (C := RX7) (T := TX7) (N := 32) hx hb hG inG7 hown hK hP 0 at_M_0_0 rfl 17 (by decide) (hG _ g_581) (fun _ h9 => h9) rfl dX7_faultOf_83 ?_
                    refine lv_aload_n hx hb dX7_faultOf_86 rfl (lv_at hl 0 rfl) ?_
                    refine va_get (D := D) (ci := 7) (v := .int (X13 0 3)) (C := RX7) (T := TX7) (N := 32) hx hb hG inG7 hown hK hP 0 at_M_0_0 rfl 3 (by decide) (hG _ g_567) (fun _ h9 => h9) rfl dX7_faultOf_87 ?_
                    refine lv_icmp_ge (tgt := 109) hx hb dX7_faultOf_90 (by decide) (fun cc90 => ?_) (fun cc90 => ?_)
                    · have hf := if_t cc90 hf
                      refine lv_iload_n hx hb dX7_faultOf_109 rfl (lv_at hl 1 rfl) ?_
                      exact W.iret (v := v12) hx hb hr (fun t ht hW => ⟨⟨v12, X13, rfl, ⟨pr_1 hf, pr_2 hf⟩, by rw [ht]; exact hP, hD⟩, hS.F ht⟩) hS.2.2 dX7_faultOf_110
                    · have hf := if_f cc90 hf
                      refine lv_aload_n hx hb dX7_faultOf_93 rfl (lv_at hl 0 rfl) ?_
                      obtain ⟨q14, hq14, hf⟩ := bd_x hf
                      have hFc := freeS hD hS hA
                      refine va_calli (va_runV (As := []) (rest := []) ⟨hx, hb, hml, hown, hG⟩ (c_X7_clause l D cI cZ a X13 H.size hq14) (cwV 0 hG (gV g_617 g_618 g_35 g_77 g_619) rfl rfl rfl (by decide +kernel) ⟨Nat.le_of_ble_eq_true rfl, Nat.le_of_ble_eq_true rfl⟩) ⟨pre_blind, va_recv hK hP (ci := 7) (q0 := 0) rfl rfl, fun U hU hW => ⟨rfl, pre_of hP hK hD hnw hU hW⟩⟩ rfl rfl hl.1 rfl (lv_room (Nat.le_of_ble_eq_true rfl)) dX7_faultOf_94 ⟨Nat.le_of_ble_eq_true rfl, Nat.le_of_ble_eq_true rfl⟩) hS (fun q _ h => hFc q h) hFc (fun v u t H locs ht hvm hw hB hz1 hk1 hS => ?_)
                      obtain ⟨rfl, rfl⟩ := hw
                      obtain ⟨hP1, hD1⟩ := hB
                      rw [ht] at hP1
                      have hP := hP1
                      have hD := hD1.weaken (fun _ q _ h => hFc q.1 h)
                      refine lv_topi (fun v15 ev15 => ?_)
                      have hf := nm_x ev15 hf
                      refine lv_istore_n (lv' := [(1, .int v15), (0, .ref (a 0))]) hx hb dX7_faultOf_97 rfl hl (by decide) rfl (fun ls hl => ?_)
                      refine lv_iload_n hx hb dX7_faultOf_98 rfl (lv_at hl 0 rfl) ?_
                      refine lv_if_ne (tgt := 78) hx hb dX7_faultOf_99 (by decide) (fun cc99 => ?_) (fun cc99 => ?_)
                      · have hf := if_f cc99 hf
                        exact ih78 v15 q14.2 _ _ _ hP hD hS (lv_sub hl [1, 0] rfl) hf
                      · have hf := if_t cc99 hf
                        refine lv_aload_n hx hb dX7_faultOf_102 rfl (lv_at hl 1 rfl) ?_
                        obtain ⟨q16, hq16, hf⟩ := bd_x hf
                        have hFc := freeS hD hS hA
                        refine va_callv (va_runV (As := []) (rest := []) ⟨hx, hb, hml, hown, hG⟩ (c_X7_skip l D cI cZ a q14.2 H.size hq16) (cwV 0 hG (gV g_614 g_615 g_34 g_77 g_616) rfl rfl rfl (by decide +kernel) ⟨Nat.le_of_ble_eq_true rfl, Nat.le_of_ble_eq_true rfl⟩) ⟨pre_blind, va_recv hK hP (ci := 7) (q0 := 0) rfl rfl, fun U hU hW => ⟨rfl, pre_of hP hK hD hnw hU hW⟩⟩ rfl rfl hl.1 rfl (lv_room (Nat.le_of_ble_eq_true rfl)) dX7_faultOf_103 ⟨Nat.le_of_ble_eq_true rfl, Nat.le_of_ble_eq_true rfl⟩) hS (fun q _ h => hFc q h) hFc (fun u t H locs ht hvm hw hB hz1 hk1 hS => ?_)
                        have hw := hw.symm; subst hw
                        obtain ⟨hP1, hD1⟩ := hB
                        rw [ht] at hP1
                        have hP := hP1
                        have hD := hD1.weaken (fun _ q _ h => hFc q.1 h)
                        refine lv_goto (tgt := 78) hx hb dX7_faultOf_106 (by decide) ?_
                        exact ih78 v15 q16 _ _ _ hP hD hS (lv_sub hl [1, 0] rfl) hf
              exact L78 FU (0 : Int32) q11 _ _ _ hP hD hS (lv_sub hl [1, 0] rfl) hf
            · have hf := if_f cc56 hf
              refine lv_aload_n hx hb dX7_faultOf_59 rfl (lv_at hl 0 rfl) ?_
              refine va_get (D := D) (ci := 7) (v := .ref (a 14)) (C := RX7) (T := TX7) (N := 32) hx hb hG inG7 hown hK hP 0 at_M_0_0 rfl 28 (by decide) (hG _ g_592) (fun _ h9 => h9) rfl dX7_faultOf_60 ?_
              refine lv_iload_n hx hb dX7_faultOf_63 rfl (lv_at hl 1 rfl) ?_
              refine lv_iconst (v := (-1 : Int32)) hx hb dX7_faultOf_64 (by decide) ?_
              obtain ⟨hb65, hf⟩ := gd hf
              refine va_iast (cA := cI) (n := 30) (f := X10 14) hx hb hK hP hD hS 14 0 at_M_0_14 rfl (inb_in hb65) dX7_faultOf_65 (fun H locs hP hD hS => ?_)
              obtain ⟨X17, eX17⟩ : ∃ y : HC, y = (sa X10 14 v9 (-1 : Int32)) := ⟨_, rfl⟩
              have hf := nm_x eX17 hf
              have hP := wP (sa_M_0_14.trans (congrArg (fun z : HC => (kM cI cZ a z)) eX17.symm)) hP
              have hD := wD (sa_M_0_14.trans (congrArg (fun z : HC => (kM cI cZ a z)) eX17.symm)) hD
              obtain ⟨v18, ev18⟩ : ∃ y : Int32, y = (v9 + (1 : Int32)) := ⟨_, rfl⟩
              have hf := nm_x ev18 hf
              refine lv_iinc (v := v18) (lv' := [(1, .int v18), (0, .ref (a 0))]) hx hb dX7_faultOf_66 hl (k := 1) rfl (by rw [ev18]; rfl) (by decide) rfl (fun ls hl => ?_)
              refine lv_goto (tgt := 53) hx hb dX7_faultOf_69 (by decide) ?_
              exact ih53 v18 X17 _ _ _ hP hD hS (lv_sub hl [1, 0] rfl) hf
        exact L53 FU (0 : Int32) X8 _ _ _ hP hD hS (lv_sub hl [1, 0] rfl) hf
      · have hf := if_f cc35 hf
        refine lv_aload_n hx hb dX7_faultOf_38 rfl (lv_at hl 0 rfl) ?_
        refine va_get (D := D) (ci := 7) (v := .ref (a 11)) (C := RX7) (T := TX7) (N := 32) hx hb hG inG7 hown hK hP 0 at_M_0_0 rfl 23 (by decide) (hG _ g_587) (fun _ h9 => h9) rfl dX7_faultOf_39 ?_
        refine lv_iload_n hx hb dX7_faultOf_42 rfl (lv_at hl 1 rfl) ?_
        refine lv_iconst (v := (0 : Int32)) hx hb dX7_faultOf_43 (by decide) ?_
        obtain ⟨hb44, hf⟩ := gd hf
        refine va_iast (cA := cI) (n := 6) (f := X8 11) hx hb hK hP hD hS 11 0 at_M_0_11 rfl (inb_in hb44) dX7_faultOf_44 (fun H locs hP hD hS => ?_)
        obtain ⟨X19, eX19⟩ : ∃ y : HC, y = (sa X8 11 v7 (0 : Int32)) := ⟨_, rfl⟩
        have hf := nm_x eX19 hf
        have hP := wP (sa_M_0_11.trans (congrArg (fun z : HC => (kM cI cZ a z)) eX19.symm)) hP
        have hD := wD (sa_M_0_11.trans (congrArg (fun z : HC => (kM cI cZ a z)) eX19.symm)) hD
        obtain ⟨v20, ev20⟩ : ∃ y : Int32, y = (v7 + (1 : Int32)) := ⟨_, rfl⟩
        have hf := nm_x ev20 hf
        refine lv_iinc (v := v20) (lv' := [(1, .int v20), (0, .ref (a 0))]) hx hb dX7_faultOf_45 hl (k := 1) rfl (by rw [ev20]; rfl) (by decide) rfl (fun ls hl => ?_)
        refine lv_goto (tgt := 32) hx hb dX7_faultOf_48 (by decide) ?_
        exact ih32 v20 X19 _ _ _ hP hD hS (lv_sub hl [1, 0] rfl) hf
  exact L32 FU (0 : Int32) X6 _ _ _ hP hD hS (lv_sub hl [1, 0] rfl) hf
def f_X7_land_j289 (rc256 : Int32 → HC → Option (Int32 × HC)) (v23 : Int32) (X24 : HC) (v28 : Int32) : Option (Int32 × HC) := (if inb ((5 : Int32) + v23) 141 then nm (sa X24 1 ((5 : Int32) + v23) v28) (fun (X29 : HC) => nm (v23 + (1 : Int32)) (fun (v30 : Int32) => rc256 v30 X29)) else none)
def f_X7_land_b256  (rc256 : Int32 → HC → Option (Int32 × HC)) (v23 : Int32) (X24 : HC) : Option (Int32 × HC) := (if (30 : Int32) ≤ v23 then nm (sf X24 16 (0 : Int32)) (fun (X25 : HC) => (if inb (0 : Int32) 2 then nm (sa X25 2 (0 : Int32) (0 : Int32)) (fun (X26 : HC) => (if inb (1 : Int32) 2 then nm (sa X26 2 (1 : Int32) (0 : Int32)) (fun (X27 : HC) => some ((X27 0 5), X27)) else none)) else none)) else (if inb v23 30 then (if (X24 14 (Int32.toNatClampNeg v23)) = (-1 : Int32) then f_X7_land_j289 rc256 v23 X24 (0 : Int32) else (if inb v23 30 then f_X7_land_j289 rc256 v23 X24 (X24 14 (Int32.toNatClampNeg v23)) else none)) else none))
def f_X7_land_b192  (rc192 : Int32 → HC → Option (Int32 × HC)) (v21 : Int32) (X22 : HC) : Option (Int32 × HC) := (if (X22 0 6) ≤ v21 then lp (fun _ _ => none : Int32 → HC → Option (Int32 × HC)) f_X7_land_b256 FU (0 : Int32) X22 else (if inb ((3 : Int32) * v21) 15 then (if inb v21 5 then nm (sa X22 4 v21 (X22 10 (Int32.toNatClampNeg ((3 : Int32) * v21)))) (fun (X31 : HC) => (if inb (((3 : Int32) * v21) + (1 : Int32)) 15 then (if inb v21 5 then nm (sa X31 5 v21 (X31 10 (Int32.toNatClampNeg (((3 : Int32) * v21) + (1 : Int32))))) (fun (X32 : HC) => (if inb (((3 : Int32) * v21) + (2 : Int32)) 15 then (if inb ((0 : Int32) + v21) 141 then nm (sa X32 1 ((0 : Int32) + v21) (X32 10 (Int32.toNatClampNeg (((3 : Int32) * v21) + (2 : Int32))))) (fun (X33 : HC) => nm (v21 + (1 : Int32)) (fun (v34 : Int32) => rc192 v34 X33)) else none) else none)) else none) else none)) else none) else none))
def f_X7_land_b163 (v17 : Int32) (rc163 : Int32 → HC → Option (Int32 × HC)) (v18 : Int32) (X19 : HC) : Option (Int32 × HC) := (if (47 : Int32) ≤ v18 then (if inb (46 : Int32) 141 then nm (sa X19 1 (46 : Int32) v17) (fun (X20 : HC) => lp (fun _ _ => none : Int32 → HC → Option (Int32 × HC)) f_X7_land_b192 FU (0 : Int32) X20) else none) else (if inb v18 141 then nm (sa X19 1 v18 (0 : Int32)) (fun (X35 : HC) => nm (v18 + (1 : Int32)) (fun (v36 : Int32) => rc163 v36 X35)) else none))
def f_X7_land_b129  (rc129 : Int32 → HC → Option (Int32 × HC)) (v15 : Int32) (X16 : HC) : Option (Int32 × HC) := (if (6 : Int32) ≤ v15 then (if inb (46 : Int32) 141 then nm (X16 1 (Int32.toNatClampNeg (46 : Int32))) (fun (v17 : Int32) => lp (fun _ _ => none : Int32 → HC → Option (Int32 × HC)) (f_X7_land_b163 v17) FU (0 : Int32) X16) else none) else (if inb v15 6 then (if inb v15 6 then nm (sa X16 6 v15 (X16 11 (Int32.toNatClampNeg v15))) (fun (X37 : HC) => nm (v15 + (1 : Int32)) (fun (v38 : Int32) => rc129 v38 X37)) else none) else none))
def f_X7_land_b103  (rc103 : Int32 → HC → Option (Int32 × HC)) (v13 : Int32) (X14 : HC) : Option (Int32 × HC) := (if (12 : Int32) ≤ v13 then lp (fun _ _ => none : Int32 → HC → Option (Int32 × HC)) f_X7_land_b129 FU (0 : Int32) X14 else (if inb v13 12 then (if inb v13 12 then nm (sa X14 8 v13 (X14 13 (Int32.toNatClampNeg v13))) (fun (X39 : HC) => nm (v13 + (1 : Int32)) (fun (v40 : Int32) => rc103 v40 X39)) else none) else none))
def f_X7_land_b77  (rc77 : Int32 → HC → Option (Int32 × HC)) (v11 : Int32) (X12 : HC) : Option (Int32 × HC) := (if (24 : Int32) ≤ v11 then lp (fun _ _ => none : Int32 → HC → Option (Int32 × HC)) f_X7_land_b103 FU (0 : Int32) X12 else (if inb v11 24 then (if inb v11 24 then nm (sa X12 7 v11 (X12 12 (Int32.toNatClampNeg v11))) (fun (X41 : HC) => nm (v11 + (1 : Int32)) (fun (v42 : Int32) => rc77 v42 X41)) else none) else none))
def f_X7_land_j23 (v2 : Int32) (X3 : HC) (v4 : Int32) : Option (Int32 × HC) := nm (sf X3 4 v4) (fun (X5 : HC) => (if v2 = 0 then nm (sf X5 5 (X5 0 19)) (fun (X6 : HC) => nm (sf X6 6 (X6 0 20)) (fun (X7 : HC) => nm (sf X7 9 (X7 0 22)) (fun (X8 : HC) => nm (sf X8 11 (X8 0 24)) (fun (X9 : HC) => nm (sf X9 13 (X9 0 26)) (fun (X10 : HC) => lp (fun _ _ => none : Int32 → HC → Option (Int32 × HC)) f_X7_land_b77 FU (0 : Int32) X10))))) else some (((-10 : Int32) - v2), X5)))
def f_X7_land (x : HC) : Option (Int32 × HC) := bd (f_X7_faultOf x) (fun (q1 : Int32 × HC) => nm q1.1 (fun (v2 : Int32) => nm (sf q1.2 3 (0 : Int32)) (fun (X3 : HC) => (if v2 = 0 then f_X7_land_j23 v2 X3 (-1 : Int32) else f_X7_land_j23 v2 X3 (X3 0 18)))))
abbrev RM_X7_land : Room := { frames := 7, cells := 0, slots := 0, locals := 159 }
set_option maxHeartbeats 4000000 in
set_option maxRecDepth 100000 in
theorem c_X7_land (l : Launch) (D : va_G) (cI cZ : ClassId) (a : Nat → Nat) (x : HC) (sz : Nat) {r : Int32 × HC} (hf : f_X7_land x = some r) : Met l yX7_land (wM yX7_land cX7_land 4 (some .int)) RM_X7_land (va_Pc [.ref (a 0)] (pre D cI cZ (kM cI cZ a x) sz)) (QI D (va_A (kM cI cZ a x) sz) (fun (u : HC) => (kM cI cZ a u)) r) 0 0 (va_A (kM cI cZ a x) sz) := by
  unfold f_X7_land at hf
  refine Met.ofW (cc := cX7_land) (maxL := 4) (ret := (some .int)) (by decide) rfl ?_
  intro p e s m args below meth c s₁ B hml hv
  obtain ⟨rfl, hsz, hP, hK, hD0, hnw⟩ := hv
  have hx := B.exec
  have hb := B.bytes
  have hr := B.returns
  have hts := atoms_spec (ws := wM yX7_land cX7_land 4 (some .int)) B.pre
  have hG : ∀ w ∈ GW, w.before (([.ref (a 0)] : List Value).toArray) s = true := fun w h => hts w (List.mem_cons_of_mem _ h)
  have hown : s.vm.findClass RX7 = some m.cls := findClass_of_methodNamed B.named
  have hlocks := B.notSynchronized
  subst hsz
  have hD := hD0.self (sz := s.heap.size)
  generalize hAe : va_A (kM cI cZ a x) s.heap.size = A at hD ⊢
  have hA : ∀ q : Nat, s.heap.size ≤ q → A q := fun q h => by rw [← hAe]; exact Or.inr h
  have hS : va_S A s.heap s.heap [] := va_S.rf
  have hl := lv_entry ([.ref (a 0)]) (n := 4) (Nat.le_of_ble_eq_true rfl)
  rw [lg_entry_eq]
  generalize (lg_sl ([.ref (a 0)]) ++ List.replicate (4 - (lg_sl ([.ref (a 0)])).length) Slot.unset).toArray = ls at hl ⊢
  have hl : lv_has ls 4 [(0, .ref (a 0))] := hl
  show W p l e RM_X7_land s m (([.ref (a 0)] : List Value).toArray) below meth c s.heap [] 0 0 (MQ below (QI D A (fun (u : HC) => (kM cI cZ a u)) r) (([.ref (a 0)] : List Value).toArray) s 0 0 A) (F0 m 0 ls [])
  refine lv_aload_n hx hb dX7_land_0 rfl (lv_at hl 0 rfl) ?_
  obtain ⟨q1, hq1, hf⟩ := bd_x hf
  have hFc := freeS hD hS hA
  refine va_calli (va_runV (As := []) (rest := []) ⟨hx, hb, hml, hown, hG⟩ (c_X7_faultOf l D cI cZ a x s.heap.size hq1) (cwV 0 hG (gV g_611 g_612 g_33 g_77 g_613) rfl rfl rfl (by decide +kernel) ⟨Nat.le_of_ble_eq_true rfl, Nat.le_of_ble_eq_true rfl⟩) ⟨pre_blind, va_recv hK hP (ci := 7) (q0 := 0) rfl rfl, fun U hU hW => ⟨rfl, pre_of hP hK hD hnw hU hW⟩⟩ rfl rfl hl.1 rfl (lv_room (Nat.le_of_ble_eq_true rfl)) dX7_land_1 ⟨Nat.le_of_ble_eq_true rfl, Nat.le_of_ble_eq_true rfl⟩) hS (fun q _ h => hFc q h) hFc (fun v u t H locs ht hvm hw hB hz1 hk1 hS => ?_)
  obtain ⟨rfl, rfl⟩ := hw
  obtain ⟨hP1, hD1⟩ := hB
  rw [ht] at hP1
  have hP := hP1
  have hD := hD1.weaken (fun _ q _ h => hFc q.1 h)
  refine lv_topi (fun v2 ev2 => ?_)
  have hf := nm_x ev2 hf
  refine lv_istore_n (lv' := [(1, .int v2), (0, .ref (a 0))]) hx hb dX7_land_4 rfl hl (by decide) rfl (fun ls hl => ?_)
  refine lv_aload_n hx hb dX7_land_5 rfl (lv_at hl 1 rfl) ?_
  refine lv_iconst (v := (0 : Int32)) hx hb dX7_land_6 (by decide) ?_
  refine va_put (D := D) (ci := 7) (v := .int (0 : Int32)) (ty := .int) (C := RX7) (T := TX7) (N := 32) hx hb hG inG7 tyX7 tyX7_ok nmX7 hown hK hP hD hS 0 at_M_0_0 rfl 3 (by decide) (hG _ g_567) (fun _ h9 => h9) rfl (by decide +kernel) rfl rfl (Nat.le_of_ble_eq_true rfl) dX7_land_7 (fun H locs hP hD hS => ?_)
  obtain ⟨X3, eX3⟩ : ∃ y : HC, y = (sf q1.2 3 (0 : Int32)) := ⟨_, rfl⟩
  have hf := nm_x eX3 hf
  have hP := wP (sf_M_0_3.trans (congrArg (fun z : HC => (kM cI cZ a z)) eX3.symm)) hP
  have hD := wD (sf_M_0_3.trans (congrArg (fun z : HC => (kM cI cZ a z)) eX3.symm)) hD
  refine lv_aload_n hx hb dX7_land_10 rfl (lv_at hl 1 rfl) ?_
  refine lv_iload_n hx hb dX7_land_11 rfl (lv_at hl 0 rfl) ?_
  have J23 : ∀ (v4 : Int32) (H : Heap) (locs : List Loc) (ls : Array Slot), va_P D vwCl (kM cI cZ a X3) H → va_D A (kM cI cZ a X3) → va_S A s.heap H locs → lv_has ls 4 [(0, .ref (a 0)), (1, .int v2)] → f_X7_land_j23 v2 X3 v4 = some r → W p l e RM_X7_land s m (([.ref (a 0)] : List Value).toArray) below meth c H locs 0 0 (MQ below (QI D A (fun (u : HC) => (kM cI cZ a u)) r) (([.ref (a 0)] : List Value).toArray) s 0 0 A) (F0 m 23 ls [.int v4, .ref (a 0)]) := by
    intro v4 H locs ls hP hD hS hl hf
    unfold f_X7_land_j23 at hf
    refine va_put (D := D) (ci := 7) (v := .int v4) (ty := .int) (C := RX7) (T := TX7) (N := 32) hx hb hG inG7 tyX7 tyX7_ok nmX7 hown hK hP hD hS 0 at_M_0_0 rfl 4 (by decide) (hG _ g_568) (fun _ h9 => h9) rfl (by decide +kernel) rfl rfl (Nat.le_of_ble_eq_true rfl) dX7_land_23 (fun H locs hP hD hS => ?_)
    obtain ⟨X5, eX5⟩ : ∃ y : HC, y = (sf X3 4 v4) := ⟨_, rfl⟩
    have hf := nm_x eX5 hf
    have hP := wP (sf_M_0_4.trans (congrArg (fun z : HC => (kM cI cZ a z)) eX5.symm)) hP
    have hD := wD (sf_M_0_4.trans (congrArg (fun z : HC => (kM cI cZ a z)) eX5.symm)) hD
    refine lv_iload_n hx hb dX7_land_26 rfl (lv_at hl 1 rfl) ?_
    refine lv_if_eq (tgt := 35) hx hb dX7_land_27 (by decide) (fun cc27 => ?_) (fun cc27 => ?_)
    · have hf := if_t cc27 hf
      refine lv_aload_n hx hb dX7_land_35 rfl (lv_at hl 0 rfl) ?_
      refine lv_aload_n hx hb dX7_land_36 rfl (lv_at hl 0 rfl) ?_
      refine va_get (D := D) (ci := 7) (v := .int (X5 0 19)) (C := RX7) (T := TX7) (N := 32) hx hb hG inG7 hown hK hP 0 at_M_0_0 rfl 19 (by decide) (hG _ g_583) (fun _ h9 => h9) rfl dX7_land_37 ?_
      refine va_put (D := D) (ci := 7) (v := .int (X5 0 19)) (ty := .int) (C := RX7) (T := TX7) (N := 32) hx hb hG inG7 tyX7 tyX7_ok nmX7 hown hK hP hD hS 0 at_M_0_0 rfl 5 (by decide) (hG _ g_569) (fun _ h9 => h9) rfl (by decide +kernel) rfl rfl (Nat.le_of_ble_eq_true rfl) dX7_land_40 (fun H locs hP hD hS => ?_)
      obtain ⟨X6, eX6⟩ : ∃ y : HC, y = (sf X5 5 (X5 0 19)) := ⟨_, rfl⟩
      have hf := nm_x eX6 hf
      have hP := wP (sf_M_0_5.trans (congrArg (fun z : HC => (kM cI cZ a z)) eX6.symm)) hP
      have hD := wD (sf_M_0_5.trans (congrArg (fun z : HC => (kM cI cZ a z)) eX6.symm)) hD
      refine lv_aload_n hx hb dX7_land_43 rfl (lv_at hl 0 rfl) ?_
      refine lv_aload_n hx hb dX7_land_44 rfl (lv_at hl 0 rfl) ?_
      refine va_get (D := D) (ci := 7) (v := .int (X6 0 20)) (C := RX7) (T := TX7) (N := 32) hx hb hG inG7 hown hK hP 0 at_M_0_0 rfl 20 (by decide) (hG _ g_584) (fun _ h9 => h9) rfl dX7_land_45 ?_
      refine va_put (D := D) (ci := 7) (v := .int (X6 0 20)) (ty := .int) (C := RX7) (T := TX7) (N := 32) hx hb hG inG7 tyX7 tyX7_ok nmX7 hown hK hP hD hS 0 at_M_0_0 rfl 6 (by decide) (hG _ g_570) (fun _ h9 => h9) rfl (by decide +kernel) rfl rfl (Nat.le_of_ble_eq_true rfl) dX7_land_48 (fun H locs hP hD hS => ?_)
      obtain ⟨X7, eX7⟩ : ∃ y : HC, y = (sf X6 6 (X6 0 20)) := ⟨_, rfl⟩
      have hf := nm_x eX7 hf
      have hP := wP (sf_M_0_6.trans (congrArg (fun z : HC => (kM cI cZ a z)) eX7.symm)) hP
      have hD := wD (sf_M_0_6.trans (congrArg (fun z : HC => (kM cI cZ a z)) eX7.symm)) hD
      refine lv_aload_n hx hb dX7_land_51 rfl (lv_at hl 0 rfl) ?_
      refine lv_aload_n hx hb dX7_land_52 rfl (lv_at hl 0 rfl) ?_
      refine va_get (D := D) (ci := 7) (v := .int (X7 0 22)) (C := RX7) (T := TX7) (N := 32) hx hb hG inG7 hown hK hP 0 at_M_0_0 rfl 22 (by decide) (hG _ g_586) (fun _ h9 => h9) rfl dX7_land_53 ?_
      refine va_put (D := D) (ci := 7) (v := .int (X7 0 22)) (ty := .int) (C := RX7) (T := TX7) (N := 32) hx hb hG inG7 tyX7 tyX7_ok nmX7 hown hK hP hD hS 0 at_M_0_0 rfl 9 (by decide) (hG _ g_573) (fun _ h9 => h9) rfl (by decide +kernel) rfl rfl (Nat.le_of_ble_eq_true rfl) dX7_land_56 (fun H locs hP hD hS => ?_)
      obtain ⟨X8, eX8⟩ : ∃ y : HC, y = (sf X7 9 (X7 0 22)) := ⟨_, rfl⟩
      have hf := nm_x eX8 hf
      have hP := wP (sf_M_0_9.trans (congrArg (fun z : HC => (kM cI cZ a z)) eX8.symm)) hP
      have hD := wD (sf_M_0_9.trans (congrArg (fun z : HC => (kM cI cZ a z)) eX8.symm)) hD
      refine lv_aload_n hx hb dX7_land_59 rfl (lv_at hl 0 rfl) ?_
      refine lv_aload_n hx hb dX7_land_60 rfl (lv_at hl 0 rfl) ?_
      refine va_get (D := D) (ci := 7) (v := .int (X8 0 24)) (C := RX7) (T := TX7) (N := 32) hx hb hG inG7 hown hK hP 0 at_M_0_0 rfl 24 (by decide) (hG _ g_588) (fun _ h9 => h9) rfl dX7_land_61 ?_
      refine va_put (D := D) (ci := 7) (v := .int (X8 0 24)) (ty := .int) (C := RX7) (T := TX7) (N := 32) hx hb hG inG7 tyX7 tyX7_ok nmX7 hown hK hP hD hS 0 at_M_0_0 rfl 11 (by decide) (hG _ g_575) (fun _ h9 => h9) rfl (by decide +kernel) rfl rfl (Nat.le_of_ble_eq_true rfl) dX7_land_64 (fun H locs hP hD hS => ?_)
      obtain ⟨X9, eX9⟩ : ∃ y : HC, y = (sf X8 11 (X8 0 24)) := ⟨_, rfl⟩
      have hf := nm_x eX9 hf
      have hP := wP (sf_M_0_11.trans (congrArg (fun z : HC => (kM cI cZ a z)) eX9.symm)) hP
      have hD := wD (sf_M_0_11.trans (congrArg (fun z : HC => (kM cI cZ a z)) eX9.symm)) hD
      refine lv_aload_n hx hb dX7_land_67 rfl (lv_at hl 0 rfl) ?_
      refine lv_aload_n hx hb dX7_land_68 rfl (lv_at hl 0 rfl) ?_
      refine va_get (D := D) (ci := 7) (v := .int (X9 0 26)) (C := RX7) (T := TX7) (N := 32) hx hb hG inG7 hown hK hP 0 at_M_0_0 rfl 26 (by decide) (hG _ g_590) (fun _ h9 => h9) rfl dX7_land_69 ?_
      refine va_put (D := D) (ci := 7) (v := .int (X9 0 26)) (ty := .int) (C := RX7) (T := TX7) (N := 32) hx hb hG inG7 tyX7 tyX7_ok nmX7 hown hK hP hD hS 0 at_M_0_0 rfl 13 (by decide) (hG _ g_577) (fun _ h9 => h9) rfl (by decide +kernel) rfl rfl (Nat.le_of_ble_eq_true rfl) dX7_land_72 (fun H locs hP hD hS => ?_)
      obtain ⟨X10, eX10⟩ : ∃ y : HC, y = (sf X9 13 (X9 0 26)) := ⟨_, rfl⟩
      have hf := nm_x eX10 hf
      have hP := wP (sf_M_0_13.trans (congrArg (fun z : HC => (kM cI cZ a z)) eX10.symm)) hP
      have hD := wD (sf_M_0_13.trans (congrArg (fun z : HC => (kM cI cZ a z)) eX10.symm)) hD
      refine lv_iconst (v := (0 : Int32)) hx hb dX7_land_75 (by decide) ?_
      refine lv_istore_n (lv' := [(2, .int (0 : Int32)), (0, .ref (a 0)), (1, .int v2)]) hx hb dX7_land_76 rfl hl (by decide) rfl (fun ls hl => ?_)
      have L77 : ∀ (n : Nat) (v11 : Int32) (X12 : HC) (H : Heap) (locs : List Loc) (ls : Array Slot), va_P D vwCl (kM cI cZ a X12) H → va_D A (kM cI cZ a X12) → va_S A s.heap H locs → lv_has ls 4 [(0, .ref (a 0)), (2, .int v11)] → lp (fun _ _ => none : Int32 → HC → Option (Int32 × HC)) f_X7_land_b77 n v11 X12 = some r → W p l e RM_X7_land s m (([.ref (a 0)] : List Value).toArray) below meth c H locs 0 0 (MQ below (QI D A (fun (u : HC) => (kM cI cZ a u)) r) (([.ref (a 0)] : List Value).toArray) s 0 0 A) (F0 m 77 ls []) := by
        intro n
        induction n with
        | zero => intro v11 X12 H locs ls _ _ _ _ hf; cases (show (none : Option (Int32 × HC)) = some r from hf)
        | succ n ih77 =>
          intro v11 X12 H locs ls hP hD hS hl hf
          have hf : f_X7_land_b77 (lp (fun _ _ => none : Int32 → HC → Option (Int32 × HC)) f_X7_land_b77 n) v11 X12 = some r := hf
          generalize lp (fun _ _ => none : Int32 → HC → Option (Int32 × HC)) f_X7_land_b77 n = rc77 at ih77 hf
          unfold f_X7_land_b77 at hf
          refine lv_iload_n hx hb dX7_land_77 rfl (lv_at hl 1 rfl) ?_
          refine lv_bipush (v := (24 : Int32)) hx hb dX7_land_78 (by decide) ?_
          refine lv_icmp_ge (tgt := 101) hx hb dX7_land_80 (by decide) (fun cc80 => ?_) (fun cc80 => ?_)
          · have hf := if_t cc80 hf
            refine lv_iconst (v := (0 : Int32)) hx hb dX7_land_101 (by decide) ?_
            refine lv_istore_n (lv' := [(2, .int (0 : Int32)), (0, .ref (a 0))]) hx hb dX7_land_102 rfl hl (by decide) rfl (fun ls hl => ?_)
            have L103 : ∀ (n : Nat) (v13 : Int32) (X14 : HC) (H : Heap) (locs : List Loc) (ls : Array Slot), va_P D vwCl (kM cI cZ a X14) H → va_D A (kM cI cZ a X14) → va_S A s.heap H locs → lv_has ls 4 [(0, .ref (a 0)), (2, .int v13)] → lp (fun _ _ => none : Int32 → HC → Option (Int32 × HC)) f_X7_land_b103 n v13 X14 = some r → W p l e RM_X7_land s m (([.ref (a 0)] : List Value).toArray) below meth c H locs 0 0 (MQ below (QI D A (fun (u : HC) => (kM cI cZ a u)) r) (([.ref (a 0)] : List Value).toArray) s 0 0 A) (F0 m 103 ls []) := by
              intro n
              induction n with
              | zero => intro v13 X14 H locs ls _ _ _ _ hf; cases (show (none : Option (Int32 × HC)) = some r from hf)
              | succ n ih103 =>
                intro v13 X14 H locs ls hP hD hS hl hf
                have hf : f_X7_land_b103 (lp (fun _ _ => none : Int32 → HC → Option (Int32 × HC)) f_X7_land_b103 n) v13 X14 = some r := hf
                generalize lp (fun _ _ => none : Int32 → HC → Option (Int32 × HC)) f_X7_land_b103 n = rc103 at ih103 hf
                unfold f_X7_land_b103 at hf
                refine lv_iload_n hx hb dX7_land_103 rfl (lv_at hl 1 rfl) ?_
                refine lv_bipush (v := (12 : Int32)) hx hb dX7_land_104 (by decide) ?_
                refine lv_icmp_ge (tgt := 127) hx hb dX7_land_106 (by decide) (fun cc106 => ?_) (fun cc106 => ?_)
                · have hf := if_t cc106 hf
                  refine lv_iconst (v := (0 : Int32)) hx hb dX7_land_127 (by decide) ?_
                  refine lv_istore_n (lv' := [(2, .int (0 : Int32)), (0, .ref (a 0))]) hx hb dX7_land_128 rfl hl (by decide) rfl (fun ls hl => ?_)
                  have L129 : ∀ (n : Nat) (v15 : Int32) (X16 : HC) (H : Heap) (locs : List Loc) (ls : Array Slot), va_P D vwCl (kM cI cZ a X16) H → va_D A (kM cI cZ a X16) → va_S A s.heap H locs → lv_has ls 4 [(0, .ref (a 0)), (2, .int v15)] → lp (fun _ _ => none : Int32 → HC → Option (Int32 × HC)) f_X7_land_b129 n v15 X16 = some r → W p l e RM_X7_land s m (([.ref (a 0)] : List Value).toArray) below meth c H locs 0 0 (MQ below (QI D A (fun (u : HC) => (kM cI cZ a u)) r) (([.ref (a 0)] : List Value).toArray) s 0 0 A) (F0 m 129 ls []) := by
                    intro n
                    induction n with
                    | zero => intro v15 X16 H locs ls _ _ _ _ hf; cases (show (none : Option (Int32 × HC)) = some r from hf)
                    | succ n ih129 =>
                      intro v15 X16 H locs ls hP hD hS hl hf
                      have hf : f_X7_land_b129 (lp (fun _ _ => none : Int32 → HC → Option (Int32 × HC)) f_X7_land_b129 n) v15 X16 = some r := hf
                      generalize lp (fun _ _ => none : Int32 → HC → Option (Int32 × HC)) f_X7_land_b129 n = rc129 at ih129 hf
                      unfold f_X7_land_b129 at hf
                      refine lv_iload_n hx hb dX7_land_129 rfl (lv_at hl 1 rfl) ?_
                      refine lv_bipush (v := (6 : Int32)) hx hb dX7_land_130 (by decide) ?_
                      refine lv_icmp_ge (tgt := 153) hx hb dX7_land_132 (by decide) (fun cc132 => ?_) (fun cc132 => ?_)
                      · have hf := if_t cc132 hf
                        refine lv_aload_n hx hb dX7_land_153 rfl (lv_at hl 0 rfl) ?_
                        refine va_get (D := D) (ci := 7) (v := .ref (a 1)) (C := RX7) (T := TX7) (N := 32) hx hb hG inG7 hown hK hP 0 at_M_0_0 rfl 0 (by decide) (hG _ g_564) (fun _ h9 => h9) rfl dX7_land_154 ?_
                        refine lv_bipush (v := (46 : Int32)) hx hb dX7_land_157 (by decide) ?_
                        obtain ⟨hb159, hf⟩ := gd hf
                        refine va_iald (cA := cI) (n := 141) (f := X16 1) hx hb hK hP 1 0 at_M_0_1 rfl (inb_in hb159) dX7_land_159 ?_
                        refine lv_topi (fun v17 ev17 => ?_)
                        have hf := nm_x ev17 hf
                        refine lv_istore_n (lv' := [(2, .int v17), (0, .ref (a 0))]) hx hb dX7_land_160 rfl hl (by decide) rfl (fun ls hl => ?_)
                        refine lv_iconst (v := (0 : Int32)) hx hb dX7_land_161 (by decide) ?_
                        refine lv_istore_n (lv' := [(3, .int (0 : Int32)), (2, .int v17), (0, .ref (a 0))]) hx hb dX7_land_162 rfl hl (by decide) rfl (fun ls hl => ?_)
                        have L163 : ∀ (n : Nat) (v18 : Int32) (X19 : HC) (H : Heap) (locs : List Loc) (ls : Array Slot), va_P D vwCl (kM cI cZ a X19) H → va_D A (kM cI cZ a X19) → va_S A s.heap H locs → lv_has ls 4 [(0, .ref (a 0)), (2, .int v17), (3, .int v18)] → lp (fun _ _ => none : Int32 → HC → Option (Int32 × HC)) (f_X7_land_b163 v17) n v18 X19 = some r → W p l e RM_X7_land s m (([.ref (a 0)] : List Value).toArray) below meth c H locs 0 0 (MQ below (QI D A (fun (u : HC) => (kM cI cZ a u)) r) (([.ref (a 0)] : List Value).toArray) s 0 0 A) (F0 m 163 ls []) := by
                          intro n
                          induction n with
                          | zero => intro v18 X19 H locs ls _ _ _ _ hf; cases (show (none : Option (Int32 × HC)) = some r from hf)
                          | succ n ih163 =>
                            intro v18 X19 H locs ls hP hD hS hl hf
                            have hf : (f_X7_land_b163 v17) (lp (fun _ _ => none : Int32 → HC → Option (Int32 × HC)) (f_X7_land_b163 v17) n) v18 X19 = some r := hf
                            generalize lp (fun _ _ => none : Int32 → HC → Option (Int32 × HC)) (f_X7_land_b163 v17) n = rc163 at ih163 hf
                            unfold f_X7_land_b163 at hf
                            refine lv_iload_n hx hb dX7_land_163 rfl (lv_at hl 2 rfl) ?_
                            refine lv_bipush (v := (47 : Int32)) hx hb dX7_land_164 (by decide) ?_
                            refine lv_icmp_ge (tgt := 182) hx hb dX7_land_166 (by decide) (fun cc166 => ?_) (fun cc166 => ?_)
                            · have hf := if_t cc166 hf
                              refine lv_aload_n hx hb dX7_land_182 rfl (lv_at hl 0 rfl) ?_
                              refine va_get (D := D) (ci := 7) (v := .ref (a 1)) (C := RX7) (T := TX7) (N := 32) hx hb hG inG7 hown hK hP 0 at_M_0_0 rfl 0 (by decide) (hG _ g_564) (fun _ h9 => h9) rfl dX7_land_183 ?_
                              refine lv_bipush (v := (46 : Int32)) hx hb dX7_land_186 (by decide) ?_
                              refine lv_iload_n hx hb dX7_land_188 rfl (lv_at hl 1 rfl) ?_
                              obtain ⟨hb189, hf⟩ := gd hf
                              refine va_iast (cA := cI) (n := 141) (f := X19 1) hx hb hK hP hD hS 1 0 at_M_0_1 rfl (inb_in hb189) dX7_land_189 (fun H locs hP hD hS => ?_)
                              obtain ⟨X20, eX20⟩ : ∃ y : HC, y = (sa X19 1 (46 : Int32) v17) := ⟨_, rfl⟩
                              have hf := nm_x eX20 hf
                              have hP := wP (sa_M_0_1.trans (congrArg (fun z : HC => (kM cI cZ a z)) eX20.symm)) hP
                              have hD := wD (sa_M_0_1.trans (congrArg (fun z : HC => (kM cI cZ a z)) eX20.symm)) hD
                              refine lv_iconst (v := (0 : Int32)) hx hb dX7_land_190 (by decide) ?_
                              refine lv_istore_n (lv' := [(3, .int (0 : Int32)), (0, .ref (a 0)), (2, .int v17)]) hx hb dX7_land_191 rfl hl (by decide) rfl (fun ls hl => ?_)
                              have L192 : ∀ (n : Nat) (v21 : Int32) (X22 : HC) (H : Heap) (locs : List Loc) (ls : Array Slot), va_P D vwCl (kM cI cZ a X22) H → va_D A (kM cI cZ a X22) → va_S A s.heap H locs → lv_has ls 4 [(0, .ref (a 0)), (3, .int v21)] → lp (fun _ _ => none : Int32 → HC → Option (Int32 × HC)) f_X7_land_b192 n v21 X22 = some r → W p l e RM_X7_land s m (([.ref (a 0)] : List Value).toArray) below meth c H locs 0 0 (MQ below (QI D A (fun (u : HC) => (kM cI cZ a u)) r) (([.ref (a 0)] : List Value).toArray) s 0 0 A) (F0 m 192 ls []) := by
                                intro n
                                induction n with
                                | zero => intro v21 X22 H locs ls _ _ _ _ hf; cases (show (none : Option (Int32 × HC)) = some r from hf)
                                | succ n ih192 =>
                                  intro v21 X22 H locs ls hP hD hS hl hf
                                  have hf : f_X7_land_b192 (lp (fun _ _ => none : Int32 → HC → Option (Int32 × HC)) f_X7_land_b192 n) v21 X22 = some r := hf
                                  generalize lp (fun _ _ => none : Int32 → HC → Option (Int32 × HC)) f_X7_land_b192 n = rc192 at ih192 hf
                                  unfold f_X7_land_b192 at hf
                                  refine lv_iload_n hx hb dX7_land_192 rfl (lv_at hl 1 rfl) ?_
                                  refine lv_aload_n hx hb dX7_land_193 rfl (lv_at hl 0 rfl) ?_
                                  refine va_get (D := D) (ci := 7) (v := .int (X22 0 6)) (C := RX7) (T := TX7) (N := 32) hx hb hG inG7 hown hK hP 0 at_M_0_0 rfl 6 (by decide) (hG _ g_570) (fun _ h9 => h9) rfl dX7_land_194 ?_
                                  refine lv_icmp_ge (tgt := 254) hx hb dX7_land_197 (by decide) (fun cc197 => ?_) (fun cc197 => ?_)
                                  · have hf := if_t cc197 hf
                                    refine lv_iconst (v := (0 : Int32)) hx hb dX7_land_254 (by decide) ?_
                                    refine lv_istore_n (lv' := [(3, .int (0 : Int32)), (0, .ref (a 0))]) hx hb dX7_land_255 rfl hl (by decide) rfl (fun ls hl => ?_)
                                    have L256 : ∀ (n : Nat) (v23 : Int32) (X24 : HC) (H : Heap) (locs : List Loc) (ls : Array Slot), va_P D vwCl (kM cI cZ a X24) H → va_D A (kM cI cZ a X24) → va_S A s.heap H locs → lv_has ls 4 [(0, .ref (a 0)), (3, .int v23)] → lp (fun _ _ => none : Int32 → HC → Option (Int32 × HC)) f_X7_land_b256 n v23 X24 = some r → W p l e RM_X7_land s m (([.ref (a 0)] : List Value).toArray) below meth c H locs 0 0 (MQ below (QI D A (fun (u : HC) => (kM cI cZ a u)) r) (([.ref (a 0)] : List Value).toArray) s 0 0 A) (F0 m 256 ls []) := by
                                      intro n
                                      induction n with
                                      | zero => intro v23 X24 H locs ls _ _ _ _ hf; cases (show (none : Option (Int32 × HC)) = some r from hf)
                                      | succ n ih256 =>
                                        intro v23 X24 H locs ls hP hD hS hl hf
                                        have hf : f_X7_land_b256 (lp (fun _ _ => none : Int32 → HC → Option (Int32 × HC)) f_X7_land_b256 n) v23 X24 = some r := hf
                                        generalize lp (fun _ _ => none : Int32 → HC → Option (Int32 × HC)) f_X7_land_b256 n = rc256 at ih256 hf
                                        unfold f_X7_land_b256 at hf
                                        refine lv_iload_n hx hb dX7_land_256 rfl (lv_at hl 1 rfl) ?_
                                        refine lv_bipush (v := (30 : Int32)) hx hb dX7_land_257 (by decide) ?_
                                        refine lv_icmp_ge (tgt := 296) hx hb dX7_land_259 (by decide) (fun cc259 => ?_) (fun cc259 => ?_)
                                        · have hf := if_t cc259 hf
                                          refine lv_aload_n hx hb dX7_land_296 rfl (lv_at hl 0 rfl) ?_
                                          refine lv_iconst (v := (0 : Int32)) hx hb dX7_land_297 (by decide) ?_
                                          refine va_put (D := D) (ci := 7) (v := .int (0 : Int32)) (ty := .int) (C := RX7) (T := TX7) (N := 32) hx hb hG inG7 tyX7 tyX7_ok nmX7 hown hK hP hD hS 0 at_M_0_0 rfl 16 (by decide) (hG _ g_580) (fun _ h9 => h9) rfl (by decide +kernel) rfl rfl (Nat.le_of_ble_eq_true rfl) dX7_land_298 (fun H locs hP hD hS => ?_)
                                          obtain ⟨X25, eX25⟩ : ∃ y : HC, y = (sf X24 16 (0 : Int32)) := ⟨_, rfl⟩
                                          have hf := nm_x eX25 hf
                                          have hP := wP (sf_M_0_16.trans (congrArg (fun z : HC => (kM cI cZ a z)) eX25.symm)) hP
                                          have hD := wD (sf_M_0_16.trans (congrArg (fun z : HC => (kM cI cZ a z)) eX25.symm)) hD
                                          refine lv_aload_n hx hb dX7_land_301 rfl (lv_at hl 0 rfl) ?_
                                          refine va_get (D := D) (ci := 7) (v := .ref (a 2)) (C := RX7) (T := TX7) (N := 32) hx hb hG inG7 hown hK hP 0 at_M_0_0 rfl 1 (by decide) (hG _ g_565) (fun _ h9 => h9) rfl dX7_land_302 ?_
                                          refine lv_iconst (v := (0 : Int32)) hx hb dX7_land_305 (by decide) ?_
                                          refine lv_iconst (v := (0 : Int32)) hx hb dX7_land_306 (by decide) ?_
                                          obtain ⟨hb307, hf⟩ := gd hf
                                          refine va_zast (cA := cZ) (n := 2) (f := X25 2) hx hb hK hP hD hS 2 1 at_M_0_2 rfl (inb_in hb307) dX7_land_307 (fun H locs hP hD hS => ?_)
                                          obtain ⟨X26, eX26⟩ : ∃ y : HC, y = (sa X25 2 (0 : Int32) (0 : Int32)) := ⟨_, rfl⟩
                                          have hf := nm_x eX26 hf
                                          have hP := wP (sa_M_0_2.trans (congrArg (fun z : HC => (kM cI cZ a z)) eX26.symm)) hP
                                          have hD := wD (sa_M_0_2.trans (congrArg (fun z : HC => (kM cI cZ a z)) eX26.symm)) hD
                                          refine lv_aload_n hx hb dX7_land_308 rfl (lv_at hl 0 rfl) ?_
                                          refine va_get (D := D) (ci := 7) (v := .ref (a 2)) (C := RX7) (T := TX7) (N := 32) hx hb hG inG7 hown hK hP 0 at_M_0_0 rfl 1 (by decide) (hG _ g_565) (fun _ h9 => h9) rfl dX7_land_309 ?_
                                          refine lv_iconst (v := (1 : Int32)) hx hb dX7_land_312 (by decide) ?_
                                          refine lv_iconst (v := (0 : Int32)) hx hb dX7_land_313 (by decide) ?_
                                          obtain ⟨hb314, hf⟩ := gd hf
                                          refine va_zast (cA := cZ) (n := 2) (f := X26 2) hx hb hK hP hD hS 2 1 at_M_0_2 rfl (inb_in hb314) dX7_land_314 (fun H locs hP hD hS => ?_)
                                          obtain ⟨X27, eX27⟩ : ∃ y : HC, y = (sa X26 2 (1 : Int32) (0 : Int32)) := ⟨_, rfl⟩
                                          have hf := nm_x eX27 hf
                                          have hP := wP (sa_M_0_2.trans (congrArg (fun z : HC => (kM cI cZ a z)) eX27.symm)) hP
                                          have hD := wD (sa_M_0_2.trans (congrArg (fun z : HC => (kM cI cZ a z)) eX27.symm)) hD
                                          refine lv_aload_n hx hb dX7_land_315 rfl (lv_at hl 0 rfl) ?_
                                          refine va_get (D := D) (ci := 7) (v := .int (X27 0 5)) (C := RX7) (T := TX7) (N := 32) hx hb hG inG7 hown hK hP 0 at_M_0_0 rfl 5 (by decide) (hG _ g_569) (fun _ h9 => h9) rfl dX7_land_316 ?_
                                          exact W.iret (v := (X27 0 5)) hx hb hr (fun t ht hW => ⟨⟨(X27 0 5), X27, rfl, ⟨pr_1 hf, pr_2 hf⟩, by rw [ht]; exact hP, hD⟩, hS.F ht⟩) hS.2.2 dX7_land_319
                                        · have hf := if_f cc259 hf
                                          refine lv_aload_n hx hb dX7_land_262 rfl (lv_at hl 0 rfl) ?_
                                          refine va_get (D := D) (ci := 7) (v := .ref (a 1)) (C := RX7) (T := TX7) (N := 32) hx hb hG inG7 hown hK hP 0 at_M_0_0 rfl 0 (by decide) (hG _ g_564) (fun _ h9 => h9) rfl dX7_land_263 ?_
                                          refine lv_iconst (v := (5 : Int32)) hx hb dX7_land_266 (by decide) ?_
                                          refine lv_iload_n hx hb dX7_land_267 rfl (lv_at hl 1 rfl) ?_
                                          refine lv_iadd hx hb dX7_land_268 ?_
                                          refine lv_aload_n hx hb dX7_land_269 rfl (lv_at hl 0 rfl) ?_
                                          refine va_get (D := D) (ci := 7) (v := .ref (a 14)) (C := RX7) (T := TX7) (N := 32) hx hb hG inG7 hown hK hP 0 at_M_0_0 rfl 28 (by decide) (hG _ g_592) (fun _ h9 => h9) rfl dX7_land_270 ?_
                                          refine lv_iload_n hx hb dX7_land_273 rfl (lv_at hl 1 rfl) ?_
                                          obtain ⟨hb274, hf⟩ := gd hf
                                          refine va_iald (cA := cI) (n := 30) (f := X24 14) hx hb hK hP 14 0 at_M_0_14 rfl (inb_in hb274) dX7_land_274 ?_
                                          refine lv_iconst (v := (-1 : Int32)) hx hb dX7_land_275 (by decide) ?_
                                          have J289 : ∀ (v28 : Int32) (H : Heap) (locs : List Loc) (ls : Array Slot), va_P D vwCl (kM cI cZ a X24) H → va_D A (kM cI cZ a X24) → va_S A s.heap H locs → lv_has ls 4 [(0, .ref (a 0)), (3, .int v23)] → f_X7_land_j289 rc256 v23 X24 v28 = some r → W p l e RM_X7_land s m (([.ref (a 0)] : List Value).toArray) below meth c H locs 0 0 (MQ below (QI D A (fun (u : HC) => (kM cI cZ a u)) r) (([.ref (a 0)] : List Value).toArray) s 0 0 A) (F0 m 289 ls [.int v28, .int ((5 : Int32) + v23), .ref (a 1)]) := by
                                            intro v28 H locs ls hP hD hS hl hf
                                            unfold f_X7_land_j289 at hf
                                            obtain ⟨hb289, hf⟩ := gd hf
                                            refine va_iast (cA := cI) (n := 141) (f := X24 1) hx hb hK hP hD hS 1 0 at_M_0_1 rfl (inb_in hb289) dX7_land_289 (fun H locs hP hD hS => ?_)
                                            obtain ⟨X29, eX29⟩ : ∃ y : HC, y = (sa X24 1 ((5 : Int32) + v23) v28) := ⟨_, rfl⟩
                                            have hf := nm_x eX29 hf
                                            have hP := wP (sa_M_0_1.trans (congrArg (fun z : HC => (kM cI cZ a z)) eX29.symm)) hP
                                            have hD := wD (sa_M_0_1.trans (congrArg (fun z : HC => (kM cI cZ a z)) eX29.symm)) hD
                                            obtain ⟨v30, ev30⟩ : ∃ y : Int32, y = (v23 + (1 : Int32)) := ⟨_, rfl⟩
                                            have hf := nm_x ev30 hf
                                            refine lv_iinc (v := v30) (lv' := [(3, .int v30), (0, .ref (a 0))]) hx hb dX7_land_290 hl (k := 1) rfl (by rw [ev30]; rfl) (by decide) rfl (fun ls hl => ?_)
                                            refine lv_goto (tgt := 256) hx hb dX7_land_293 (by decide) ?_
                                            exact ih256 v30 X29 _ _ _ hP hD hS (lv_sub hl [1, 0] rfl) hf
                                          refine lv_icmp_ne (tgt := 283) hx hb dX7_land_276 (by decide) (fun cc276 => ?_) (fun cc276 => ?_)
                                          · have hf := if_f cc276 hf
                                            refine lv_aload_n hx hb dX7_land_283 rfl (lv_at hl 0 rfl) ?_
                                            refine va_get (D := D) (ci := 7) (v := .ref (a 14)) (C := RX7) (T := TX7) (N := 32) hx hb hG inG7 hown hK hP 0 at_M_0_0 rfl 28 (by decide) (hG _ g_592) (fun _ h9 => h9) rfl dX7_land_284 ?_
                                            refine lv_iload_n hx hb dX7_land_287 rfl (lv_at hl 1 rfl) ?_
                                            obtain ⟨hb288, hf⟩ := gd hf
                                            refine va_iald (cA := cI) (n := 30) (f := X24 14) hx hb hK hP 14 0 at_M_0_14 rfl (inb_in hb288) dX7_land_288 ?_
                                            exact J289 (X24 14 (Int32.toNatClampNeg v23)) _ _ _ hP hD hS (lv_sub hl [0, 1] rfl) hf
                                          · have hf := if_t cc276 hf
                                            refine lv_iconst (v := (0 : Int32)) hx hb dX7_land_279 (by decide) ?_
                                            refine lv_goto (tgt := 289) hx hb dX7_land_280 (by decide) ?_
                                            exact J289 (0 : Int32) _ _ _ hP hD hS (lv_sub hl [0, 1] rfl) hf
                                    exact L256 FU (0 : Int32) X22 _ _ _ hP hD hS (lv_sub hl [1, 0] rfl) hf
                                  · have hf := if_f cc197 hf
                                    refine lv_aload_n hx hb dX7_land_200 rfl (lv_at hl 0 rfl) ?_
                                    refine va_get (D := D) (ci := 7) (v := .ref (a 4)) (C := RX7) (T := TX7) (N := 32) hx hb hG inG7 hown hK hP 0 at_M_0_0 rfl 7 (by decide) (hG _ g_571) (fun _ h9 => h9) rfl dX7_land_201 ?_
                                    refine lv_iload_n hx hb dX7_land_204 rfl (lv_at hl 1 rfl) ?_
                                    refine lv_aload_n hx hb dX7_land_205 rfl (lv_at hl 0 rfl) ?_
                                    refine va_get (D := D) (ci := 7) (v := .ref (a 10)) (C := RX7) (T := TX7) (N := 32) hx hb hG inG7 hown hK hP 0 at_M_0_0 rfl 21 (by decide) (hG _ g_585) (fun _ h9 => h9) rfl dX7_land_206 ?_
                                    refine lv_iconst (v := (3 : Int32)) hx hb dX7_land_209 (by decide) ?_
                                    refine lv_iload_n hx hb dX7_land_210 rfl (lv_at hl 1 rfl) ?_
                                    refine lv_imul hx hb dX7_land_211 ?_
                                    obtain ⟨hb212, hf⟩ := gd hf
                                    refine va_iald (cA := cI) (n := 15) (f := X22 10) hx hb hK hP 10 0 at_M_0_10 rfl (inb_in hb212) dX7_land_212 ?_
                                    obtain ⟨hb213, hf⟩ := gd hf
                                    refine va_iast (cA := cI) (n := 5) (f := X22 4) hx hb hK hP hD hS 4 0 at_M_0_4 rfl (inb_in hb213) dX7_land_213 (fun H locs hP hD hS => ?_)
                                    obtain ⟨X31, eX31⟩ : ∃ y : HC, y = (sa X22 4 v21 (X22 10 (Int32.toNatClampNeg ((3 : Int32) * v21)))) := ⟨_, rfl⟩
                                    have hf := nm_x eX31 hf
                                    have hP := wP (sa_M_0_4.trans (congrArg (fun z : HC => (kM cI cZ a z)) eX31.symm)) hP
                                    have hD := wD (sa_M_0_4.trans (congrArg (fun z : HC => (kM cI cZ a z)) eX31.symm)) hD
                                    refine lv_aload_n hx hb dX7_land_214 rfl (lv_at hl 0 rfl) ?_
                                    refine va_get (D := D) (ci := 7) (v := .ref (a 5)) (C := RX7) (T := TX7) (N := 32) hx hb hG inG7 hown hK hP 0 at_M_0_0 rfl 8 (by decide) (hG _ g_572) (fun _ h9 => h9) rfl dX7_land_215 ?_
                                    refine lv_iload_n hx hb dX7_land_218 rfl (lv_at hl 1 rfl) ?_
                                    refine lv_aload_n hx hb dX7_land_219 rfl (lv_at hl 0 rfl) ?_
                                    refine va_get (D := D) (ci := 7) (v := .ref (a 10)) (C := RX7) (T := TX7) (N := 32) hx hb hG inG7 hown hK hP 0 at_M_0_0 rfl 21 (by decide) (hG _ g_585) (fun _ h9 => h9) rfl dX7_land_220 ?_
                                    refine lv_iconst (v := (3 : Int32)) hx hb dX7_land_223 (by decide) ?_
                                    refine lv_iload_n hx hb dX7_land_224 rfl (lv_at hl 1 rfl) ?_
                                    refine lv_imul hx hb dX7_land_225 ?_
                                    refine lv_iconst (v := (1 : Int32)) hx hb dX7_land_226 (by decide) ?_
                                    refine lv_iadd hx hb dX7_land_227 ?_
                                    obtain ⟨hb228, hf⟩ := gd hf
                                    refine va_iald (cA := cI) (n := 15) (f := X31 10) hx hb hK hP 10 0 at_M_0_10 rfl (inb_in hb228) dX7_land_228 ?_
                                    obtain ⟨hb229, hf⟩ := gd hf
                                    refine va_iast (cA := cI) (n := 5) (f := X31 5) hx hb hK hP hD hS 5 0 at_M_0_5 rfl (inb_in hb229) dX7_land_229 (fun H locs hP hD hS => ?_)
                                    obtain ⟨X32, eX32⟩ : ∃ y : HC, y = (sa X31 5 v21 (X31 10 (Int32.toNatClampNeg (((3 : Int32) * v21) + (1 : Int32))))) := ⟨_, rfl⟩
                                    have hf := nm_x eX32 hf
                                    have hP := wP (sa_M_0_5.trans (congrArg (fun z : HC => (kM cI cZ a z)) eX32.symm)) hP
                                    have hD := wD (sa_M_0_5.trans (congrArg (fun z : HC => (kM cI cZ a z)) eX32.symm)) hD
                                    refine lv_aload_n hx hb dX7_land_230 rfl (lv_at hl 0 rfl) ?_
                                    refine va_get (D := D) (ci := 7) (v := .ref (a 1)) (C := RX7) (T := TX7) (N := 32) hx hb hG inG7 hown hK hP 0 at_M_0_0 rfl 0 (by decide) (hG _ g_564) (fun _ h9 => h9) rfl dX7_land_231 ?_
                                    refine lv_iconst (v := (0 : Int32)) hx hb dX7_land_234 (by decide) ?_
                                    refine lv_iload_n hx hb dX7_land_235 rfl (lv_at hl 1 rfl) ?_
                                    refine lv_iadd hx hb dX7_land_236 ?_
                                    refine lv_aload_n hx hb dX7_land_237 rfl (lv_at hl 0 rfl) ?_
                                    refine va_get (D := D) (ci := 7) (v := .ref (a 10)) (C := RX7) (T := TX7) (N := 32) hx hb hG inG7 hown hK hP 0 at_M_0_0 rfl 21 (by decide) (hG _ g_585) (fun _ h9 => h9) rfl dX7_land_238 ?_
                                    refine lv_iconst (v := (3 : Int32)) hx hb dX7_land_241 (by decide) ?_
                                    refine lv_iload_n hx hb dX7_land_242 rfl (lv_at hl 1 rfl) ?_
                                    refine lv_imul hx hb dX7_land_243 ?_
                                    refine lv_iconst (v := (2 : Int32)) hx hb dX7_land_244 (by decide) ?_
                                    refine lv_iadd hx hb dX7_land_245 ?_
                                    obtain ⟨hb246, hf⟩ := gd hf
                                    refine va_iald (cA := cI) (n := 15) (f := X32 10) hx hb hK hP 10 0 at_M_0_10 rfl (inb_in hb246) dX7_land_246 ?_
                                    obtain ⟨hb247, hf⟩ := gd hf
                                    refine va_iast (cA := cI) (n := 141) (f := X32 1) hx hb hK hP hD hS 1 0 at_M_0_1 rfl (inb_in hb247) dX7_land_247 (fun H locs hP hD hS => ?_)
                                    obtain ⟨X33, eX33⟩ : ∃ y : HC, y = (sa X32 1 ((0 : Int32) + v21) (X32 10 (Int32.toNatClampNeg (((3 : Int32) * v21) + (2 : Int32))))) := ⟨_, rfl⟩
                                    have hf := nm_x eX33 hf
                                    have hP := wP (sa_M_0_1.trans (congrArg (fun z : HC => (kM cI cZ a z)) eX33.symm)) hP
                                    have hD := wD (sa_M_0_1.trans (congrArg (fun z : HC => (kM cI cZ a z)) eX33.symm)) hD
                                    obtain ⟨v34, ev34⟩ : ∃ y : Int32, y = (v21 + (1 : Int32)) := ⟨_, rfl⟩
                                    have hf := nm_x ev34 hf
                                    refine lv_iinc (v := v34) (lv' := [(3, .int v34), (0, .ref (a 0))]) hx hb dX7_land_248 hl (k := 1) rfl (by rw [ev34]; rfl) (by decide) rfl (fun ls hl => ?_)
                                    refine lv_goto (tgt := 192) hx hb dX7_land_251 (by decide) ?_
                                    exact ih192 v34 X33 _ _ _ hP hD hS (lv_sub hl [1, 0] rfl) hf
                              exact L192 FU (0 : Int32) X20 _ _ _ hP hD hS (lv_sub hl [1, 0] rfl) hf
                            · have hf := if_f cc166 hf
                              refine lv_aload_n hx hb dX7_land_169 rfl (lv_at hl 0 rfl) ?_
                              refine va_get (D := D) (ci := 7) (v := .ref (a 1)) (C := RX7) (T := TX7) (N := 32) hx hb hG inG7 hown hK hP 0 at_M_0_0 rfl 0 (by decide) (hG _ g_564) (fun _ h9 => h9) rfl dX7_land_170 ?_
                              refine lv_iload_n hx hb dX7_land_173 rfl (lv_at hl 2 rfl) ?_
                              refine lv_iconst (v := (0 : Int32)) hx hb dX7_land_174 (by decide) ?_
                              obtain ⟨hb175, hf⟩ := gd hf
                              refine va_iast (cA := cI) (n := 141) (f := X19 1) hx hb hK hP hD hS 1 0 at_M_0_1 rfl (inb_in hb175) dX7_land_175 (fun H locs hP hD hS => ?_)
                              obtain ⟨X35, eX35⟩ : ∃ y : HC, y = (sa X19 1 v18 (0 : Int32)) := ⟨_, rfl⟩
                              have hf := nm_x eX35 hf
                              have hP := wP (sa_M_0_1.trans (congrArg (fun z : HC => (kM cI cZ a z)) eX35.symm)) hP
                              have hD := wD (sa_M_0_1.trans (congrArg (fun z : HC => (kM cI cZ a z)) eX35.symm)) hD
                              obtain ⟨v36, ev36⟩ : ∃ y : Int32, y = (v18 + (1 : Int32)) := ⟨_, rfl⟩
                              have hf := nm_x ev36 hf
                              refine lv_iinc (v := v36) (lv' := [(3, .int v36), (0, .ref (a 0)), (2, .int v17)]) hx hb dX7_land_176 hl (k := 2) rfl (by rw [ev36]; rfl) (by decide) rfl (fun ls hl => ?_)
                              refine lv_goto (tgt := 163) hx hb dX7_land_179 (by decide) ?_
                              exact ih163 v36 X35 _ _ _ hP hD hS (lv_sub hl [1, 2, 0] rfl) hf
                        exact L163 FU (0 : Int32) X16 _ _ _ hP hD hS (lv_sub hl [2, 1, 0] rfl) hf
                      · have hf := if_f cc132 hf
                        refine lv_aload_n hx hb dX7_land_135 rfl (lv_at hl 0 rfl) ?_
                        refine va_get (D := D) (ci := 7) (v := .ref (a 6)) (C := RX7) (T := TX7) (N := 32) hx hb hG inG7 hown hK hP 0 at_M_0_0 rfl 10 (by decide) (hG _ g_574) (fun _ h9 => h9) rfl dX7_land_136 ?_
                        refine lv_iload_n hx hb dX7_land_139 rfl (lv_at hl 1 rfl) ?_
                        refine lv_aload_n hx hb dX7_land_140 rfl (lv_at hl 0 rfl) ?_
                        refine va_get (D := D) (ci := 7) (v := .ref (a 11)) (C := RX7) (T := TX7) (N := 32) hx hb hG inG7 hown hK hP 0 at_M_0_0 rfl 23 (by decide) (hG _ g_587) (fun _ h9 => h9) rfl dX7_land_141 ?_
                        refine lv_iload_n hx hb dX7_land_144 rfl (lv_at hl 1 rfl) ?_
                        obtain ⟨hb145, hf⟩ := gd hf
                        refine va_iald (cA := cI) (n := 6) (f := X16 11) hx hb hK hP 11 0 at_M_0_11 rfl (inb_in hb145) dX7_land_145 ?_
                        obtain ⟨hb146, hf⟩ := gd hf
                        refine va_iast (cA := cI) (n := 6) (f := X16 6) hx hb hK hP hD hS 6 0 at_M_0_6 rfl (inb_in hb146) dX7_land_146 (fun H locs hP hD hS => ?_)
                        obtain ⟨X37, eX37⟩ : ∃ y : HC, y = (sa X16 6 v15 (X16 11 (Int32.toNatClampNeg v15))) := ⟨_, rfl⟩
                        have hf := nm_x eX37 hf
                        have hP := wP (sa_M_0_6.trans (congrArg (fun z : HC => (kM cI cZ a z)) eX37.symm)) hP
                        have hD := wD (sa_M_0_6.trans (congrArg (fun z : HC => (kM cI cZ a z)) eX37.symm)) hD
                        obtain ⟨v38, ev38⟩ : ∃ y : Int32, y = (v15 + (1 : Int32)) := ⟨_, rfl⟩
                        have hf := nm_x ev38 hf
                        refine lv_iinc (v := v38) (lv' := [(2, .int v38), (0, .ref (a 0))]) hx hb dX7_land_147 hl (k := 1) rfl (by rw [ev38]; rfl) (by decide) rfl (fun ls hl => ?_)
                        refine lv_goto (tgt := 129) hx hb dX7_land_150 (by decide) ?_
                        exact ih129 v38 X37 _ _ _ hP hD hS (lv_sub hl [1, 0] rfl) hf
                  exact L129 FU (0 : Int32) X14 _ _ _ hP hD hS (lv_sub hl [1, 0] rfl) hf
                · have hf := if_f cc106 hf
                  refine lv_aload_n hx hb dX7_land_109 rfl (lv_at hl 0 rfl) ?_
                  refine va_get (D := D) (ci := 7) (v := .ref (a 8)) (C := RX7) (T := TX7) (N := 32) hx hb hG inG7 hown hK hP 0 at_M_0_0 rfl 14 (by decide) (hG _ g_578) (fun _ h9 => h9) rfl dX7_land_110 ?_
                  refine lv_iload_n hx hb dX7_land_113 rfl (lv_at hl 1 rfl) ?_
                  refine lv_aload_n hx hb dX7_land_114 rfl (lv_at hl 0 rfl) ?_
                  refine va_get (D := D) (ci := 7) (v := .ref (a 13)) (C := RX7) (T := TX7) (N := 32) hx hb hG inG7 hown hK hP 0 at_M_0_0 rfl 27 (by decide) (hG _ g_591) (fun _ h9 => h9) rfl dX7_land_115 ?_
                  refine lv_iload_n hx hb dX7_land_118 rfl (lv_at hl 1 rfl) ?_
                  obtain ⟨hb119, hf⟩ := gd hf
                  refine va_iald (cA := cI) (n := 12) (f := X14 13) hx hb hK hP 13 0 at_M_0_13 rfl (inb_in hb119) dX7_land_119 ?_
                  obtain ⟨hb120, hf⟩ := gd hf
                  refine va_iast (cA := cI) (n := 12) (f := X14 8) hx hb hK hP hD hS 8 0 at_M_0_8 rfl (inb_in hb120) dX7_land_120 (fun H locs hP hD hS => ?_)
                  obtain ⟨X39, eX39⟩ : ∃ y : HC, y = (sa X14 8 v13 (X14 13 (Int32.toNatClampNeg v13))) := ⟨_, rfl⟩
                  have hf := nm_x eX39 hf
                  have hP := wP (sa_M_0_8.trans (congrArg (fun z : HC => (kM cI cZ a z)) eX39.symm)) hP
                  have hD := wD (sa_M_0_8.trans (congrArg (fun z : HC => (kM cI cZ a z)) eX39.symm)) hD
                  obtain ⟨v40, ev40⟩ : ∃ y : Int32, y = (v13 + (1 : Int32)) := ⟨_, rfl⟩
                  have hf := nm_x ev40 hf
                  refine lv_iinc (v := v40) (lv' := [(2, .int v40), (0, .ref (a 0))]) hx hb dX7_land_121 hl (k := 1) rfl (by rw [ev40]; rfl) (by decide) rfl (fun ls hl => ?_)
                  refine lv_goto (tgt := 103) hx hb dX7_land_124 (by decide) ?_
                  exact ih103 v40 X39 _ _ _ hP hD hS (lv_sub hl [1, 0] rfl) hf
            exact L103 FU (0 : Int32) X12 _ _ _ hP hD hS (lv_sub hl [1, 0] rfl) hf
          · have hf := if_f cc80 hf
            refine lv_aload_n hx hb dX7_land_83 rfl (lv_at hl 0 rfl) ?_
            refine va_get (D := D) (ci := 7) (v := .ref (a 7)) (C := RX7) (T := TX7) (N := 32) hx hb hG inG7 hown hK hP 0 at_M_0_0 rfl 12 (by decide) (hG _ g_576) (fun _ h9 => h9) rfl dX7_land_84 ?_
            refine lv_iload_n hx hb dX7_land_87 rfl (lv_at hl 1 rfl) ?_
            refine lv_aload_n hx hb dX7_land_88 rfl (lv_at hl 0 rfl) ?_
            refine va_get (D := D) (ci := 7) (v := .ref (a 12)) (C := RX7) (T := TX7) (N := 32) hx hb hG inG7 hown hK hP 0 at_M_0_0 rfl 25 (by decide) (hG _ g_589) (fun _ h9 => h9) rfl dX7_land_89 ?_
            refine lv_iload_n hx hb dX7_land_92 rfl (lv_at hl 1 rfl) ?_
            obtain ⟨hb93, hf⟩ := gd hf
            refine va_iald (cA := cI) (n := 24) (f := X12 12) hx hb hK hP 12 0 at_M_0_12 rfl (inb_in hb93) dX7_land_93 ?_
            obtain ⟨hb94, hf⟩ := gd hf
            refine va_iast (cA := cI) (n := 24) (f := X12 7) hx hb hK hP hD hS 7 0 at_M_0_7 rfl (inb_in hb94) dX7_land_94 (fun H locs hP hD hS => ?_)
            obtain ⟨X41, eX41⟩ : ∃ y : HC, y = (sa X12 7 v11 (X12 12 (Int32.toNatClampNeg v11))) := ⟨_, rfl⟩
            have hf := nm_x eX41 hf
            have hP := wP (sa_M_0_7.trans (congrArg (fun z : HC => (kM cI cZ a z)) eX41.symm)) hP
            have hD := wD (sa_M_0_7.trans (congrArg (fun z : HC => (kM cI cZ a z)) eX41.symm)) hD
            obtain ⟨v42, ev42⟩ : ∃ y : Int32, y = (v11 + (1 : Int32)) := ⟨_, rfl⟩
            have hf := nm_x ev42 hf
            refine lv_iinc (v := v42) (lv' := [(2, .int v42), (0, .ref (a 0))]) hx hb dX7_land_95 hl (k := 1) rfl (by rw [ev42]; rfl) (by decide) rfl (fun ls hl => ?_)
            refine lv_goto (tgt := 77) hx hb dX7_land_98 (by decide) ?_
            exact ih77 v42 X41 _ _ _ hP hD hS (lv_sub hl [1, 0] rfl) hf
      exact L77 FU (0 : Int32) X10 _ _ _ hP hD hS (lv_sub hl [1, 0] rfl) hf
    · have hf := if_f cc27 hf
      refine lv_bipush (v := (-10 : Int32)) hx hb dX7_land_30 (by decide) ?_
      refine lv_iload_n hx hb dX7_land_32 rfl (lv_at hl 1 rfl) ?_
      refine lv_isub hx hb dX7_land_33 ?_
      exact W.iret (v := ((-10 : Int32) - v2)) hx hb hr (fun t ht hW => ⟨⟨((-10 : Int32) - v2), X5, rfl, ⟨pr_1 hf, pr_2 hf⟩, by rw [ht]; exact hP, hD⟩, hS.F ht⟩) hS.2.2 dX7_land_34
  refine lv_if_ne (tgt := 19) hx hb dX7_land_12 (by decide) (fun cc12 => ?_) (fun cc12 => ?_)
  · have hf := if_f cc12 hf
    refine lv_aload_n hx hb dX7_land_19 rfl (lv_at hl 1 rfl) ?_
    refine va_get (D := D) (ci := 7) (v := .int (X3 0 18)) (C := RX7) (T := TX7) (N := 32) hx hb hG inG7 hown hK hP 0 at_M_0_0 rfl 18 (by decide) (hG _ g_582) (fun _ h9 => h9) rfl dX7_land_20 ?_
    exact J23 (X3 0 18) _ _ _ hP hD hS (lv_sub hl [1, 0] rfl) hf
  · have hf := if_t cc12 hf
    refine lv_iconst (v := (-1 : Int32)) hx hb dX7_land_15 (by decide) ?_
    refine lv_goto (tgt := 23) hx hb dX7_land_16 (by decide) ?_
    exact J23 (-1 : Int32) _ _ _ hP hD hS (lv_sub hl [1, 0] rfl) hf
def f_X7_fault (x : HC) : Option (Int32) := some (x 0 4)
abbrev RM_X7_fault : Room := { frames := 0, cells := 0, slots := 0, locals := 0 }
set_option maxHeartbeats 4000000 in
set_option maxRecDepth 100000 in
theorem c_X7_fault (l : Launch) (D : va_G) (cI cZ : ClassId) (a : Nat → Nat) (x : HC) (sz : Nat) {r : Int32} (hf : f_X7_fault x = some r) : Met l yX7_fault (wM yX7_fault cX7_fault 1 (some .int)) RM_X7_fault (va_Pc [.ref (a 0)] (pre D cI cZ (kM cI cZ a x) sz)) (QI0 D (va_A (kM cI cZ a x) sz) (kM cI cZ a x) r) 0 0 (va_A (kM cI cZ a x) sz) := by
  unfold f_X7_fault at hf
  refine Met.ofW (cc := cX7_fault) (maxL := 1) (ret := (some .int)) (by decide) rfl ?_
  intro p e s m args below meth c s₁ B hml hv
  obtain ⟨rfl, hsz, hP, hK, hD0, hnw⟩ := hv
  have hx := B.exec
  have hb := B.bytes
  have hr := B.returns
  have hts := atoms_spec (ws := wM yX7_fault cX7_fault 1 (some .int)) B.pre
  have hG : ∀ w ∈ GW, w.before (([.ref (a 0)] : List Value).toArray) s = true := fun w h => hts w (List.mem_cons_of_mem _ h)
  have hown : s.vm.findClass RX7 = some m.cls := findClass_of_methodNamed B.named
  have hlocks := B.notSynchronized
  subst hsz
  have hD := hD0.self (sz := s.heap.size)
  generalize hAe : va_A (kM cI cZ a x) s.heap.size = A at hD ⊢
  have hA : ∀ q : Nat, s.heap.size ≤ q → A q := fun q h => by rw [← hAe]; exact Or.inr h
  have hS : va_S A s.heap s.heap [] := va_S.rf
  have hl := lv_entry ([.ref (a 0)]) (n := 1) (Nat.le_of_ble_eq_true rfl)
  rw [lg_entry_eq]
  generalize (lg_sl ([.ref (a 0)]) ++ List.replicate (1 - (lg_sl ([.ref (a 0)])).length) Slot.unset).toArray = ls at hl ⊢
  have hl : lv_has ls 1 [(0, .ref (a 0))] := hl
  show W p l e RM_X7_fault s m (([.ref (a 0)] : List Value).toArray) below meth c s.heap [] 0 0 (MQ below (QI0 D A (kM cI cZ a x) r) (([.ref (a 0)] : List Value).toArray) s 0 0 A) (F0 m 0 ls [])
  refine lv_aload_n hx hb dX7_fault_0 rfl (lv_at hl 0 rfl) ?_
  refine va_get (D := D) (ci := 7) (v := .int (x 0 4)) (C := RX7) (T := TX7) (N := 32) hx hb hG inG7 hown hK hP 0 at_M_0_0 rfl 4 (by decide) (hG _ g_568) (fun _ h9 => h9) rfl dX7_fault_1 ?_
  exact W.iret (v := (x 0 4)) hx hb hr (fun t ht hW => ⟨⟨(x 0 4), (), rfl, Option.some.inj hf, by rw [ht]; exact hP, hD⟩, hS.F ht⟩) hS.2.2 dX7_fault_4
def f_X7_isOne (x : HC) (p1 : Int32) : Option (Int32) := bd (f_X7_in (Int32.toInt64 p1) (0 : Int64) (Int32.toInt64 ((x 0 5) - (1 : Int32)))) (fun (q1 : Int32) => (if bz q1 then some q1 else none))
abbrev RM_X7_isOne : Room := { frames := 1, cells := 0, slots := 0, locals := 25 }
set_option maxHeartbeats 4000000 in
set_option maxRecDepth 100000 in
theorem c_X7_isOne (l : Launch) (D : va_G) (cI cZ : ClassId) (a : Nat → Nat) (x : HC) (p1 : Int32) (sz : Nat) {r : Int32} (hf : f_X7_isOne x p1 = some r) : Met l yX7_isOne (wM yX7_isOne cX7_isOne 2 (some .boolean)) RM_X7_isOne (va_Pc [.ref (a 0), .int p1] (pre D cI cZ (kM cI cZ a x) sz)) (QI0 D (va_A (kM cI cZ a x) sz) (kM cI cZ a x) r) 0 0 (va_A (kM cI cZ a x) sz) := by
  unfold f_X7_isOne at hf
  refine Met.ofW (cc := cX7_isOne) (maxL := 2) (ret := (some .boolean)) (by decide) rfl ?_
  intro p e s m args below meth c s₁ B hml hv
  obtain ⟨rfl, hsz, hP, hK, hD0, hnw⟩ := hv
  have hx := B.exec
  have hb := B.bytes
  have hr := B.returns
  have hts := atoms_spec (ws := wM yX7_isOne cX7_isOne 2 (some .boolean)) B.pre
  have hG : ∀ w ∈ GW, w.before (([.ref (a 0), .int p1] : List Value).toArray) s = true := fun w h => hts w (List.mem_cons_of_mem _ h)
  have hown : s.vm.findClass RX7 = some m.cls := findClass_of_methodNamed B.named
  have hlocks := B.notSynchronized
  subst hsz
  have hD := hD0.self (sz := s.heap.size)
  generalize hAe : va_A (kM cI cZ a x) s.heap.size = A at hD ⊢
  have hA : ∀ q : Nat, s.heap.size ≤ q → A q := fun q h => by rw [← hAe]; exact Or.inr h
  have hS : va_S A s.heap s.heap [] := va_S.rf
  have hl := lv_entry ([.ref (a 0), .int p1]) (n := 2) (Nat.le_of_ble_eq_true rfl)
  rw [lg_entry_eq]
  generalize (lg_sl ([.ref (a 0), .int p1]) ++ List.replicate (2 - (lg_sl ([.ref (a 0), .int p1])).length) Slot.unset).toArray = ls at hl ⊢
  have hl : lv_has ls 2 [(0, .ref (a 0)), (1, .int p1)] := hl
  show W p l e RM_X7_isOne s m (([.ref (a 0), .int p1] : List Value).toArray) below meth c s.heap [] 0 0 (MQ below (QI0 D A (kM cI cZ a x) r) (([.ref (a 0), .int p1] : List Value).toArray) s 0 0 A) (F0 m 0 ls [])
  refine lv_iload_n hx hb dX7_isOne_0 rfl (lv_at hl 1 rfl) ?_
  refine lv_i2l hx hb dX7_isOne_1 rfl ?_
  refine lv_lconst (v := (0 : Int64)) hx hb dX7_isOne_2 (by decide) ?_
  refine lv_aload_n hx hb dX7_isOne_3 rfl (lv_at hl 0 rfl) ?_
  refine va_get (D := D) (ci := 7) (v := .int (x 0 5)) (C := RX7) (T := TX7) (N := 32) hx hb hG inG7 hown hK hP 0 at_M_0_0 rfl 5 (by decide) (hG _ g_569) (fun _ h9 => h9) rfl dX7_isOne_4 ?_
  refine lv_iconst (v := (1 : Int32)) hx hb dX7_isOne_7 (by decide) ?_
  refine lv_isub hx hb dX7_isOne_8 ?_
  refine lv_i2l hx hb dX7_isOne_9 rfl ?_
  obtain ⟨q1, hq1, hf⟩ := bd_x hf
  have hFc := va_free (wc := []) hD hS hA [] rfl
  refine va_calli (va_runS (As := [.long (Int32.toInt64 p1), .long (0 : Int64), .long (Int32.toInt64 ((x 0 5) - (1 : Int32)))]) (rest := []) ⟨hx, hb, hml, hown, hG⟩ (c_X7_in l D cI cZ (Int32.toInt64 p1) (0 : Int64) (Int32.toInt64 ((x 0 5) - (1 : Int32))) s.heap.size hq1) (cwS 3 hG (gS g_602 g_603 g_77 g_604) rfl rfl rfl (by decide +kernel) ⟨Nat.le_of_ble_eq_true rfl, Nat.le_of_ble_eq_true rfl⟩) ⟨pre_blind, fun U hU hW => ⟨rfl, pre_of P_nil hK D_nil hnw hU hW⟩⟩ rfl rfl hl.1 rfl (lv_room (Nat.le_of_ble_eq_true rfl)) dX7_isOne_10 ⟨Nat.le_of_ble_eq_true rfl, Nat.le_of_ble_eq_true rfl⟩) hS (fun q _ h => hFc q h) hFc (fun v u t H locs ht hvm hw hB hz1 hk1 hS => ?_)
  have hw := hw.symm; subst hw
  obtain ⟨hP1, hD1⟩ := hB
  rw [ht] at hP1
  obtain ⟨hP, hD⟩ := back hP hD [] rfl rfl hk1 hFc hP1 hD1
  obtain ⟨hz13, hf⟩ := gd hf
  exact W.zret (v := q1) hx hb hr (bz_n hz13) (fun t ht hW => ⟨⟨q1, (), rfl, Option.some.inj hf, by rw [ht]; exact hP, hD⟩, hS.F ht⟩) hS.2.2 dX7_isOne_13
def f_X7_isFighter (x : HC) (p1 : Int32) : Option (Int32) := bd (f_X7_in (Int32.toInt64 p1) (0 : Int64) (Int32.toInt64 ((x 0 6) - (1 : Int32)))) (fun (q1 : Int32) => (if bz q1 then some q1 else none))
abbrev RM_X7_isFighter : Room := { frames := 1, cells := 0, slots := 0, locals := 25 }
set_option maxHeartbeats 4000000 in
set_option maxRecDepth 100000 in
theorem c_X7_isFighter (l : Launch) (D : va_G) (cI cZ : ClassId) (a : Nat → Nat) (x : HC) (p1 : Int32) (sz : Nat) {r : Int32} (hf : f_X7_isFighter x p1 = some r) : Met l yX7_isFighter (wM yX7_isFighter cX7_isFighter 2 (some .boolean)) RM_X7_isFighter (va_Pc [.ref (a 0), .int p1] (pre D cI cZ (kM cI cZ a x) sz)) (QI0 D (va_A (kM cI cZ a x) sz) (kM cI cZ a x) r) 0 0 (va_A (kM cI cZ a x) sz) := by
  unfold f_X7_isFighter at hf
  refine Met.ofW (cc := cX7_isFighter) (maxL := 2) (ret := (some .boolean)) (by decide) rfl ?_
  intro p e s m args below meth c s₁ B hml hv
  obtain ⟨rfl, hsz, hP, hK, hD0, hnw⟩ := hv
  have hx := B.exec
  have hb := B.bytes
  have hr := B.returns
  have hts := atoms_spec (ws := wM yX7_isFighter cX7_isFighter 2 (some .boolean)) B.pre
  have hG : ∀ w ∈ GW, w.before (([.ref (a 0), .int p1] : List Value).toArray) s = true := fun w h => hts w (List.mem_cons_of_mem _ h)
  have hown : s.vm.findClass RX7 = some m.cls := findClass_of_methodNamed B.named
  have hlocks := B.notSynchronized
  subst hsz
  have hD := hD0.self (sz := s.heap.size)
  generalize hAe : va_A (kM cI cZ a x) s.heap.size = A at hD ⊢
  have hA : ∀ q : Nat, s.heap.size ≤ q → A q := fun q h => by rw [← hAe]; exact Or.inr h
  have hS : va_S A s.heap s.heap [] := va_S.rf
  have hl := lv_entry ([.ref (a 0), .int p1]) (n := 2) (Nat.le_of_ble_eq_true rfl)
  rw [lg_entry_eq]
  generalize (lg_sl ([.ref (a 0), .int p1]) ++ List.replicate (2 - (lg_sl ([.ref (a 0), .int p1])).length) Slot.unset).toArray = ls at hl ⊢
  have hl : lv_has ls 2 [(0, .ref (a 0)), (1, .int p1)] := hl
  show W p l e RM_X7_isFighter s m (([.ref (a 0), .int p1] : List Value).toArray) below meth c s.heap [] 0 0 (MQ below (QI0 D A (kM cI cZ a x) r) (([.ref (a 0), .int p1] : List Value).toArray) s 0 0 A) (F0 m 0 ls [])
  refine lv_iload_n hx hb dX7_isFighter_0 rfl (lv_at hl 1 rfl) ?_
  refine lv_i2l hx hb dX7_isFighter_1 rfl ?_
  refine lv_lconst (v := (0 : Int64)) hx hb dX7_isFighter_2 (by decide) ?_
  refine lv_aload_n hx hb dX7_isFighter_3 rfl (lv_at hl 0 rfl) ?_
  refine va_get (D := D) (ci := 7) (v := .int (x 0 6)) (C := RX7) (T := TX7) (N := 32) hx hb hG inG7 hown hK hP 0 at_M_0_0 rfl 6 (by decide) (hG _ g_570) (fun _ h9 => h9) rfl dX7_isFighter_4 ?_
  refine lv_iconst (v := (1 : Int32)) hx hb dX7_isFighter_7 (by decide) ?_
  refine lv_isub hx hb dX7_isFighter_8 ?_
  refine lv_i2l hx hb dX7_isFighter_9 rfl ?_
  obtain ⟨q1, hq1, hf⟩ := bd_x hf
  have hFc := va_free (wc := []) hD hS hA [] rfl
  refine va_calli (va_runS (As := [.long (Int32.toInt64 p1), .long (0 : Int64), .long (Int32.toInt64 ((x 0 6) - (1 : Int32)))]) (rest := []) ⟨hx, hb, hml, hown, hG⟩ (c_X7_in l D cI cZ (Int32.toInt64 p1) (0 : Int64) (Int32.toInt64 ((x 0 6) - (1 : Int32))) s.heap.size hq1) (cwS 3 hG (gS g_602 g_603 g_77 g_604) rfl rfl rfl (by decide +kernel) ⟨Nat.le_of_ble_eq_true rfl, Nat.le_of_ble_eq_true rfl⟩) ⟨pre_blind, fun U hU hW => ⟨rfl, pre_of P_nil hK D_nil hnw hU hW⟩⟩ rfl rfl hl.1 rfl (lv_room (Nat.le_of_ble_eq_true rfl)) dX7_isFighter_10 ⟨Nat.le_of_ble_eq_true rfl, Nat.le_of_ble_eq_true rfl⟩) hS (fun q _ h => hFc q h) hFc (fun v u t H locs ht hvm hw hB hz1 hk1 hS => ?_)
  have hw := hw.symm; subst hw
  obtain ⟨hP1, hD1⟩ := hB
  rw [ht] at hP1
  obtain ⟨hP, hD⟩ := back hP hD [] rfl rfl hk1 hFc hP1 hD1
  obtain ⟨hz13, hf⟩ := gd hf
  exact W.zret (v := q1) hx hb hr (bz_n hz13) (fun t ht hW => ⟨⟨q1, (), rfl, Option.some.inj hf, by rw [ht]; exact hP, hD⟩, hS.F ht⟩) hS.2.2 dX7_isFighter_13
def f_X7_isTask (x : HC) (p1 : Int32) : Option (Int32) := bd (f_X7_in (Int32.toInt64 p1) (0 : Int64) (Int32.toInt64 ((x 0 11) - (1 : Int32)))) (fun (q1 : Int32) => (if bz q1 then some q1 else none))
abbrev RM_X7_isTask : Room := { frames := 1, cells := 0, slots := 0, locals := 25 }
set_option maxHeartbeats 4000000 in
set_option maxRecDepth 100000 in
theorem c_X7_isTask (l : Launch) (D : va_G) (cI cZ : ClassId) (a : Nat → Nat) (x : HC) (p1 : Int32) (sz : Nat) {r : Int32} (hf : f_X7_isTask x p1 = some r) : Met l yX7_isTask (wM yX7_isTask cX7_isTask 2 (some .boolean)) RM_X7_isTask (va_Pc [.ref (a 0), .int p1] (pre D cI cZ (kM cI cZ a x) sz)) (QI0 D (va_A (kM cI cZ a x) sz) (kM cI cZ a x) r) 0 0 (va_A (kM cI cZ a x) sz) := by
  unfold f_X7_isTask at hf
  refine Met.ofW (cc := cX7_isTask) (maxL := 2) (ret := (some .boolean)) (by decide) rfl ?_
  intro p e s m args below meth c s₁ B hml hv
  obtain ⟨rfl, hsz, hP, hK, hD0, hnw⟩ := hv
  have hx := B.exec
  have hb := B.bytes
  have hr := B.returns
  have hts := atoms_spec (ws := wM yX7_isTask cX7_isTask 2 (some .boolean)) B.pre
  have hG : ∀ w ∈ GW, w.before (([.ref (a 0), .int p1] : List Value).toArray) s = true := fun w h => hts w (List.mem_cons_of_mem _ h)
  have hown : s.vm.findClass RX7 = some m.cls := findClass_of_methodNamed B.named
  have hlocks := B.notSynchronized
  subst hsz
  have hD := hD0.self (sz := s.heap.size)
  generalize hAe : va_A (kM cI cZ a x) s.heap.size = A at hD ⊢
  have hA : ∀ q : Nat, s.heap.size ≤ q → A q := fun q h => by rw [← hAe]; exact Or.inr h
  have hS : va_S A s.heap s.heap [] := va_S.rf
  have hl := lv_entry ([.ref (a 0), .int p1]) (n := 2) (Nat.le_of_ble_eq_true rfl)
  rw [lg_entry_eq]
  generalize (lg_sl ([.ref (a 0), .int p1]) ++ List.replicate (2 - (lg_sl ([.ref (a 0), .int p1])).length) Slot.unset).toArray = ls at hl ⊢
  have hl : lv_has ls 2 [(0, .ref (a 0)), (1, .int p1)] := hl
  show W p l e RM_X7_isTask s m (([.ref (a 0), .int p1] : List Value).toArray) below meth c s.heap [] 0 0 (MQ below (QI0 D A (kM cI cZ a x) r) (([.ref (a 0), .int p1] : List Value).toArray) s 0 0 A) (F0 m 0 ls [])
  refine lv_iload_n hx hb dX7_isTask_0 rfl (lv_at hl 1 rfl) ?_
  refine lv_i2l hx hb dX7_isTask_1 rfl ?_
  refine lv_lconst (v := (0 : Int64)) hx hb dX7_isTask_2 (by decide) ?_
  refine lv_aload_n hx hb dX7_isTask_3 rfl (lv_at hl 0 rfl) ?_
  refine va_get (D := D) (ci := 7) (v := .int (x 0 11)) (C := RX7) (T := TX7) (N := 32) hx hb hG inG7 hown hK hP 0 at_M_0_0 rfl 11 (by decide) (hG _ g_575) (fun _ h9 => h9) rfl dX7_isTask_4 ?_
  refine lv_iconst (v := (1 : Int32)) hx hb dX7_isTask_7 (by decide) ?_
  refine lv_isub hx hb dX7_isTask_8 ?_
  refine lv_i2l hx hb dX7_isTask_9 rfl ?_
  obtain ⟨q1, hq1, hf⟩ := bd_x hf
  have hFc := va_free (wc := []) hD hS hA [] rfl
  refine va_calli (va_runS (As := [.long (Int32.toInt64 p1), .long (0 : Int64), .long (Int32.toInt64 ((x 0 11) - (1 : Int32)))]) (rest := []) ⟨hx, hb, hml, hown, hG⟩ (c_X7_in l D cI cZ (Int32.toInt64 p1) (0 : Int64) (Int32.toInt64 ((x 0 11) - (1 : Int32))) s.heap.size hq1) (cwS 3 hG (gS g_602 g_603 g_77 g_604) rfl rfl rfl (by decide +kernel) ⟨Nat.le_of_ble_eq_true rfl, Nat.le_of_ble_eq_true rfl⟩) ⟨pre_blind, fun U hU hW => ⟨rfl, pre_of P_nil hK D_nil hnw hU hW⟩⟩ rfl rfl hl.1 rfl (lv_room (Nat.le_of_ble_eq_true rfl)) dX7_isTask_10 ⟨Nat.le_of_ble_eq_true rfl, Nat.le_of_ble_eq_true rfl⟩) hS (fun q _ h => hFc q h) hFc (fun v u t H locs ht hvm hw hB hz1 hk1 hS => ?_)
  have hw := hw.symm; subst hw
  obtain ⟨hP1, hD1⟩ := hB
  rw [ht] at hP1
  obtain ⟨hP, hD⟩ := back hP hD [] rfl rfl hk1 hFc hP1 hD1
  obtain ⟨hz13, hf⟩ := gd hf
  exact W.zret (v := q1) hx hb hr (bz_n hz13) (fun t ht hW => ⟨⟨q1, (), rfl, Option.some.inj hf, by rw [ht]; exact hP, hD⟩, hS.F ht⟩) hS.2.2 dX7_isTask_13
def f_X7_thought (x : HC) (p1 : Int32) (p2 : Int32) : Option (Int32) := (if inb (((5 : Int32) + ((5 : Int32) * p1)) + p2) 141 then some (x 1 (Int32.toNatClampNeg (((5 : Int32) + ((5 : Int32) * p1)) + p2))) else none)
abbrev RM_X7_thought : Room := { frames := 0, cells := 0, slots := 0, locals := 0 }
set_option maxHeartbeats 4000000 in
set_option maxRecDepth 100000 in
theorem c_X7_thought (l : Launch) (D : va_G) (cI cZ : ClassId) (a : Nat → Nat) (x : HC) (p1 : Int32) (p2 : Int32) (sz : Nat) {r : Int32} (hf : f_X7_thought x p1 p2 = some r) : Met l yX7_thought (wM yX7_thought cX7_thought 3 (some .int)) RM_X7_thought (va_Pc [.ref (a 0), .int p1, .int p2] (pre D cI cZ (kM cI cZ a x) sz)) (QI0 D (va_A (kM cI cZ a x) sz) (kM cI cZ a x) r) 0 0 (va_A (kM cI cZ a x) sz) := by
  unfold f_X7_thought at hf
  refine Met.ofW (cc := cX7_thought) (maxL := 3) (ret := (some .int)) (by decide) rfl ?_
  intro p e s m args below meth c s₁ B hml hv
  obtain ⟨rfl, hsz, hP, hK, hD0, hnw⟩ := hv
  have hx := B.exec
  have hb := B.bytes
  have hr := B.returns
  have hts := atoms_spec (ws := wM yX7_thought cX7_thought 3 (some .int)) B.pre
  have hG : ∀ w ∈ GW, w.before (([.ref (a 0), .int p1, .int p2] : List Value).toArray) s = true := fun w h => hts w (List.mem_cons_of_mem _ h)
  have hown : s.vm.findClass RX7 = some m.cls := findClass_of_methodNamed B.named
  have hlocks := B.notSynchronized
  subst hsz
  have hD := hD0.self (sz := s.heap.size)
  generalize hAe : va_A (kM cI cZ a x) s.heap.size = A at hD ⊢
  have hA : ∀ q : Nat, s.heap.size ≤ q → A q := fun q h => by rw [← hAe]; exact Or.inr h
  have hS : va_S A s.heap s.heap [] := va_S.rf
  have hl := lv_entry ([.ref (a 0), .int p1, .int p2]) (n := 3) (Nat.le_of_ble_eq_true rfl)
  rw [lg_entry_eq]
  generalize (lg_sl ([.ref (a 0), .int p1, .int p2]) ++ List.replicate (3 - (lg_sl ([.ref (a 0), .int p1, .int p2])).length) Slot.unset).toArray = ls at hl ⊢
  have hl : lv_has ls 3 [(0, .ref (a 0)), (1, .int p1), (2, .int p2)] := hl
  show W p l e RM_X7_thought s m (([.ref (a 0), .int p1, .int p2] : List Value).toArray) below meth c s.heap [] 0 0 (MQ below (QI0 D A (kM cI cZ a x) r) (([.ref (a 0), .int p1, .int p2] : List Value).toArray) s 0 0 A) (F0 m 0 ls [])
  refine lv_aload_n hx hb dX7_thought_0 rfl (lv_at hl 0 rfl) ?_
  refine va_get (D := D) (ci := 7) (v := .ref (a 1)) (C := RX7) (T := TX7) (N := 32) hx hb hG inG7 hown hK hP 0 at_M_0_0 rfl 0 (by decide) (hG _ g_564) (fun _ h9 => h9) rfl dX7_thought_1 ?_
  refine lv_iconst (v := (5 : Int32)) hx hb dX7_thought_4 (by decide) ?_
  refine lv_iconst (v := (5 : Int32)) hx hb dX7_thought_5 (by decide) ?_
  refine lv_iload_n hx hb dX7_thought_6 rfl (lv_at hl 1 rfl) ?_
  refine lv_imul hx hb dX7_thought_7 ?_
  refine lv_iadd hx hb dX7_thought_8 ?_
  refine lv_iload_n hx hb dX7_thought_9 rfl (lv_at hl 2 rfl) ?_
  refine lv_iadd hx hb dX7_thought_10 ?_
  obtain ⟨hb11, hf⟩ := gd hf
  refine va_iald (cA := cI) (n := 141) (f := x 1) hx hb hK hP 1 0 at_M_0_1 rfl (inb_in hb11) dX7_thought_11 ?_
  exact W.iret (v := (x 1 (Int32.toNatClampNeg (((5 : Int32) + ((5 : Int32) * p1)) + p2)))) hx hb hr (fun t ht hW => ⟨⟨(x 1 (Int32.toNatClampNeg (((5 : Int32) + ((5 : Int32) * p1)) + p2))), (), rfl, Option.some.inj hf, by rw [ht]; exact hP, hD⟩, hS.F ht⟩) hS.2.2 dX7_thought_12
def f_X7_think (x : HC) (p1 : Int32) (p2 : Int32) (p3 : Int32) : Option (HC) := (if p3 ≤ (99 : Int32) then (if inb (((5 : Int32) + ((5 : Int32) * p1)) + p2) 141 then nm (sa x 1 (((5 : Int32) + ((5 : Int32) * p1)) + p2) p3) (fun (X1 : HC) => some X1) else none) else (if inb (((5 : Int32) + ((5 : Int32) * p1)) + p2) 141 then nm (sa x 1 (((5 : Int32) + ((5 : Int32) * p1)) + p2) (99 : Int32)) (fun (X2 : HC) => some X2) else none))
abbrev RM_X7_think : Room := { frames := 0, cells := 0, slots := 0, locals := 0 }
set_option maxHeartbeats 4000000 in
set_option maxRecDepth 100000 in
theorem c_X7_think (l : Launch) (D : va_G) (cI cZ : ClassId) (a : Nat → Nat) (x : HC) (p1 : Int32) (p2 : Int32) (p3 : Int32) (sz : Nat) {r : HC} (hf : f_X7_think x p1 p2 p3 = some r) : Met l yX7_think (wM yX7_think cX7_think 4 none) RM_X7_think (va_Pc [.ref (a 0), .int p1, .int p2, .int p3] (pre D cI cZ (kM cI cZ a x) sz)) (QV D (va_A (kM cI cZ a x) sz) (fun (u : HC) => (kM cI cZ a u)) r) 0 0 (va_A (kM cI cZ a x) sz) := by
  unfold f_X7_think at hf
  refine Met.ofW (cc := cX7_think) (maxL := 4) (ret := none) (by decide) rfl ?_
  intro p e s m args below meth c s₁ B hml hv
  obtain ⟨rfl, hsz, hP, hK, hD0, hnw⟩ := hv
  have hx := B.exec
  have hb := B.bytes
  have hr := B.returns
  have hts := atoms_spec (ws := wM yX7_think cX7_think 4 none) B.pre
  have hG : ∀ w ∈ GW, w.before (([.ref (a 0), .int p1, .int p2, .int p3] : List Value).toArray) s = true := fun w h => hts w (List.mem_cons_of_mem _ h)
  have hown : s.vm.findClass RX7 = some m.cls := findClass_of_methodNamed B.named
  have hlocks := B.notSynchronized
  subst hsz
  have hD := hD0.self (sz := s.heap.size)
  generalize hAe : va_A (kM cI cZ a x) s.heap.size = A at hD ⊢
  have hA : ∀ q : Nat, s.heap.size ≤ q → A q := fun q h => by rw [← hAe]; exact Or.inr h
  have hS : va_S A s.heap s.heap [] := va_S.rf
  have hl := lv_entry ([.ref (a 0), .int p1, .int p2, .int p3]) (n := 4) (Nat.le_of_ble_eq_true rfl)
  rw [lg_entry_eq]
  generalize (lg_sl ([.ref (a 0), .int p1, .int p2, .int p3]) ++ List.replicate (4 - (lg_sl ([.ref (a 0), .int p1, .int p2, .int p3])).length) Slot.unset).toArray = ls at hl ⊢
  have hl : lv_has ls 4 [(0, .ref (a 0)), (1, .int p1), (2, .int p2), (3, .int p3)] := hl
  show W p l e RM_X7_think s m (([.ref (a 0), .int p1, .int p2, .int p3] : List Value).toArray) below meth c s.heap [] 0 0 (MQ below (QV D A (fun (u : HC) => (kM cI cZ a u)) r) (([.ref (a 0), .int p1, .int p2, .int p3] : List Value).toArray) s 0 0 A) (F0 m 0 ls [])
  refine lv_aload_n hx hb dX7_think_0 rfl (lv_at hl 0 rfl) ?_
  refine va_get (D := D) (ci := 7) (v := .ref (a 1)) (C := RX7) (T := TX7) (N := 32) hx hb hG inG7 hown hK hP 0 at_M_0_0 rfl 0 (by decide) (hG _ g_564) (fun _ h9 => h9) rfl dX7_think_1 ?_
  refine lv_iconst (v := (5 : Int32)) hx hb dX7_think_4 (by decide) ?_
  refine lv_iconst (v := (5 : Int32)) hx hb dX7_think_5 (by decide) ?_
  refine lv_iload_n hx hb dX7_think_6 rfl (lv_at hl 1 rfl) ?_
  refine lv_imul hx hb dX7_think_7 ?_
  refine lv_iadd hx hb dX7_think_8 ?_
  refine lv_iload_n hx hb dX7_think_9 rfl (lv_at hl 2 rfl) ?_
  refine lv_iadd hx hb dX7_think_10 ?_
  refine lv_iload_n hx hb dX7_think_11 rfl (lv_at hl 3 rfl) ?_
  refine lv_bipush (v := (99 : Int32)) hx hb dX7_think_12 (by decide) ?_
  refine lv_icmp_le (tgt := 22) hx hb dX7_think_14 (by decide) (fun cc14 => ?_) (fun cc14 => ?_)
  · have hf := if_t cc14 hf
    refine lv_iload_n hx hb dX7_think_22 rfl (lv_at hl 3 rfl) ?_
    obtain ⟨hb23, hf⟩ := gd hf
    refine va_iast (cA := cI) (n := 141) (f := x 1) hx hb hK hP hD hS 1 0 at_M_0_1 rfl (inb_in hb23) dX7_think_23 (fun H locs hP hD hS => ?_)
    obtain ⟨X1, eX1⟩ : ∃ y : HC, y = (sa x 1 (((5 : Int32) + ((5 : Int32) * p1)) + p2) p3) := ⟨_, rfl⟩
    have hf := nm_x eX1 hf
    have hP := wP (sa_M_0_1.trans (congrArg (fun z : HC => (kM cI cZ a z)) eX1.symm)) hP
    have hD := wD (sa_M_0_1.trans (congrArg (fun z : HC => (kM cI cZ a z)) eX1.symm)) hD
    exact W.vret hx hb hr (fun t ht hW => ⟨⟨X1, rfl, Option.some.inj hf, by rw [ht]; exact hP, hD⟩, hS.F ht⟩) hS.2.2 dX7_think_24
  · have hf := if_f cc14 hf
    refine lv_bipush (v := (99 : Int32)) hx hb dX7_think_17 (by decide) ?_
    refine lv_goto (tgt := 23) hx hb dX7_think_19 (by decide) ?_
    obtain ⟨hb23, hf⟩ := gd hf
    refine va_iast (cA := cI) (n := 141) (f := x 1) hx hb hK hP hD hS 1 0 at_M_0_1 rfl (inb_in hb23) dX7_think_23 (fun H locs hP hD hS => ?_)
    obtain ⟨X2, eX2⟩ : ∃ y : HC, y = (sa x 1 (((5 : Int32) + ((5 : Int32) * p1)) + p2) (99 : Int32)) := ⟨_, rfl⟩
    have hf := nm_x eX2 hf
    have hP := wP (sa_M_0_1.trans (congrArg (fun z : HC => (kM cI cZ a z)) eX2.symm)) hP
    have hD := wD (sa_M_0_1.trans (congrArg (fun z : HC => (kM cI cZ a z)) eX2.symm)) hD
    exact W.vret hx hb hr (fun t ht hW => ⟨⟨X2, rfl, Option.some.inj hf, by rw [ht]; exact hP, hD⟩, hS.F ht⟩) hS.2.2 dX7_think_24
def f_X7_allThoughts_b14 (x : HC) (rc4 : Int32 → Int32 → Option (Int32)) (v2 : Int32) (rc14 : Int32 → Int32 → Option (Int32)) (v3 : Int32) (v4 : Int32) : Option (Int32) := (if (x 0 6) ≤ v4 then nm (v2 + (1 : Int32)) (fun (v5 : Int32) => rc4 v3 v5) else bd (f_X7_thought x v2 v4) (fun (q6 : Int32) => nm (v3 + q6) (fun (v7 : Int32) => nm (v4 + (1 : Int32)) (fun (v8 : Int32) => rc14 v7 v8))))
def f_X7_allThoughts_b4 (x : HC) (rc4 : Int32 → Int32 → Option (Int32)) (v1 : Int32) (v2 : Int32) : Option (Int32) := (if (x 0 5) ≤ v2 then some v1 else lp (fun _ _ => none : Int32 → Int32 → Option (Int32)) (f_X7_allThoughts_b14 x rc4 v2) FU v1 (0 : Int32))
def f_X7_allThoughts (x : HC) : Option (Int32) := lp (fun _ _ => none : Int32 → Int32 → Option (Int32)) (f_X7_allThoughts_b4 x) FU (0 : Int32) (0 : Int32)
abbrev RM_X7_allThoughts : Room := { frames := 1, cells := 0, slots := 0, locals := 22 }
set_option maxHeartbeats 4000000 in
set_option maxRecDepth 100000 in
theorem c_X7_allThoughts (l : Launch) (D : va_G) (cI cZ : ClassId) (a : Nat → Nat) (x : HC) (sz : Nat) {r : Int32} (hf : f_X7_allThoughts x = some r) : Met l yX7_allThoughts (wM yX7_allThoughts cX7_allThoughts 4 (some .int)) RM_X7_allThoughts (va_Pc [.ref (a 0)] (pre D cI cZ (kM cI cZ a x) sz)) (QI0 D (va_A (kM cI cZ a x) sz) (kM cI cZ a x) r) 0 0 (va_A (kM cI cZ a x) sz) := by
  unfold f_X7_allThoughts at hf
  refine Met.ofW (cc := cX7_allThoughts) (maxL := 4) (ret := (some .int)) (by decide) rfl ?_
  intro p e s m args below meth c s₁ B hml hv
  obtain ⟨rfl, hsz, hP, hK, hD0, hnw⟩ := hv
  have hx := B.exec
  have hb := B.bytes
  have hr := B.returns
  have hts := atoms_spec (ws := wM yX7_allThoughts cX7_allThoughts 4 (some .int)) B.pre
  have hG : ∀ w ∈ GW, w.before (([.ref (a 0)] : List Value).toArray) s = true := fun w h => hts w (List.mem_cons_of_mem _ h)
  have hown : s.vm.findClass RX7 = some m.cls := findClass_of_methodNamed B.named
  have hlocks := B.notSynchronized
  subst hsz
  have hD := hD0.self (sz := s.heap.size)
  generalize hAe : va_A (kM cI cZ a x) s.heap.size = A at hD ⊢
  have hA : ∀ q : Nat, s.heap.size ≤ q → A q := fun q h => by rw [← hAe]; exact Or.inr h
  have hS : va_S A s.heap s.heap [] := va_S.rf
  have hl := lv_entry ([.ref (a 0)]) (n := 4) (Nat.le_of_ble_eq_true rfl)
  rw [lg_entry_eq]
  generalize (lg_sl ([.ref (a 0)]) ++ List.replicate (4 - (lg_sl ([.ref (a 0)])).length) Slot.unset).toArray = ls at hl ⊢
  have hl : lv_has ls 4 [(0, .ref (a 0))] := hl
  show W p l e RM_X7_allThoughts s m (([.ref (a 0)] : List Value).toArray) below meth c s.heap [] 0 0 (MQ below (QI0 D A (kM cI cZ a x) r) (([.ref (a 0)] : List Value).toArray) s 0 0 A) (F0 m 0 ls [])
  refine lv_iconst (v := (0 : Int32)) hx hb dX7_allThoughts_0 (by decide) ?_
  refine lv_istore_n (lv' := [(1, .int (0 : Int32)), (0, .ref (a 0))]) hx hb dX7_allThoughts_1 rfl hl (by decide) rfl (fun ls hl => ?_)
  refine lv_iconst (v := (0 : Int32)) hx hb dX7_allThoughts_2 (by decide) ?_
  refine lv_istore_n (lv' := [(2, .int (0 : Int32)), (1, .int (0 : Int32)), (0, .ref (a 0))]) hx hb dX7_allThoughts_3 rfl hl (by decide) rfl (fun ls hl => ?_)
  have L4 : ∀ (n : Nat) (v1 : Int32) (v2 : Int32) (H : Heap) (locs : List Loc) (ls : Array Slot), va_P D vwCl (kM cI cZ a x) H → va_D A (kM cI cZ a x) → va_S A s.heap H locs → lv_has ls 4 [(0, .ref (a 0)), (1, .int v1), (2, .int v2)] → lp (fun _ _ => none : Int32 → Int32 → Option (Int32)) (f_X7_allThoughts_b4 x) n v1 v2 = some r → W p l e RM_X7_allThoughts s m (([.ref (a 0)] : List Value).toArray) below meth c H locs 0 0 (MQ below (QI0 D A (kM cI cZ a x) r) (([.ref (a 0)] : List Value).toArray) s 0 0 A) (F0 m 4 ls []) := by
    intro n
    induction n with
    | zero => intro v1 v2 H locs ls _ _ _ _ hf; cases (show (none : Option (Int32)) = some r from hf)
    | succ n ih4 =>
      intro v1 v2 H locs ls hP hD hS hl hf
      have hf : (f_X7_allThoughts_b4 x) (lp (fun _ _ => none : Int32 → Int32 → Option (Int32)) (f_X7_allThoughts_b4 x) n) v1 v2 = some r := hf
      generalize lp (fun _ _ => none : Int32 → Int32 → Option (Int32)) (f_X7_allThoughts_b4 x) n = rc4 at ih4 hf
      unfold f_X7_allThoughts_b4 at hf
      refine lv_iload_n hx hb dX7_allThoughts_4 rfl (lv_at hl 2 rfl) ?_
      refine lv_aload_n hx hb dX7_allThoughts_5 rfl (lv_at hl 0 rfl) ?_
      refine va_get (D := D) (ci := 7) (v := .int (x 0 5)) (C := RX7) (T := TX7) (N := 32) hx hb hG inG7 hown hK hP 0 at_M_0_0 rfl 5 (by decide) (hG _ g_569) (fun _ h9 => h9) rfl dX7_allThoughts_6 ?_
      refine lv_icmp_ge (tgt := 43) hx hb dX7_allThoughts_9 (by decide) (fun cc9 => ?_) (fun cc9 => ?_)
      · have hf := if_t cc9 hf
        refine lv_iload_n hx hb dX7_allThoughts_43 rfl (lv_at hl 1 rfl) ?_
        exact W.iret (v := v1) hx hb hr (fun t ht hW => ⟨⟨v1, (), rfl, Option.some.inj hf, by rw [ht]; exact hP, hD⟩, hS.F ht⟩) hS.2.2 dX7_allThoughts_44
      · have hf := if_f cc9 hf
        refine lv_iconst (v := (0 : Int32)) hx hb dX7_allThoughts_12 (by decide) ?_
        refine lv_istore_n (lv' := [(3, .int (0 : Int32)), (0, .ref (a 0)), (1, .int v1), (2, .int v2)]) hx hb dX7_allThoughts_13 rfl hl (by decide) rfl (fun ls hl => ?_)
        have L14 : ∀ (n : Nat) (v3 : Int32) (v4 : Int32) (H : Heap) (locs : List Loc) (ls : Array Slot), va_P D vwCl (kM cI cZ a x) H → va_D A (kM cI cZ a x) → va_S A s.heap H locs → lv_has ls 4 [(0, .ref (a 0)), (1, .int v3), (2, .int v2), (3, .int v4)] → lp (fun _ _ => none : Int32 → Int32 → Option (Int32)) (f_X7_allThoughts_b14 x rc4 v2) n v3 v4 = some r → W p l e RM_X7_allThoughts s m (([.ref (a 0)] : List Value).toArray) below meth c H locs 0 0 (MQ below (QI0 D A (kM cI cZ a x) r) (([.ref (a 0)] : List Value).toArray) s 0 0 A) (F0 m 14 ls []) := by
          intro n
          induction n with
          | zero => intro v3 v4 H locs ls _ _ _ _ hf; cases (show (none : Option (Int32)) = some r from hf)
          | succ n ih14 =>
            intro v3 v4 H locs ls hP hD hS hl hf
            have hf : (f_X7_allThoughts_b14 x rc4 v2) (lp (fun _ _ => none : Int32 → Int32 → Option (Int32)) (f_X7_allThoughts_b14 x rc4 v2) n) v3 v4 = some r := hf
            generalize lp (fun _ _ => none : Int32 → Int32 → Option (Int32)) (f_X7_allThoughts_b14 x rc4 v2) n = rc14 at ih14 hf
            unfold f_X7_allThoughts_b14 at hf
            refine lv_iload_n hx hb dX7_allThoughts_14 rfl (lv_at hl 3 rfl) ?_
            refine lv_aload_n hx hb dX7_allThoughts_15 rfl (lv_at hl 0 rfl) ?_
            refine va_get (D := D) (ci := 7) (v := .int (x 0 6)) (C := RX7) (T := TX7) (N := 32) hx hb hG inG7 hown hK hP 0 at_M_0_0 rfl 6 (by decide) (hG _ g_570) (fun _ h9 => h9) rfl dX7_allThoughts_16 ?_
            refine lv_icmp_ge (tgt := 37) hx hb dX7_allThoughts_19 (by decide) (fun cc19 => ?_) (fun cc19 => ?_)
            · have hf := if_t cc19 hf
              obtain ⟨v5, ev5⟩ : ∃ y : Int32, y = (v2 + (1 : Int32)) := ⟨_, rfl⟩
              have hf := nm_x ev5 hf
              refine lv_iinc (v := v5) (lv' := [(2, .int v5), (0, .ref (a 0)), (1, .int v3), (3, .int v4)]) hx hb dX7_allThoughts_37 hl (k := 2) rfl (by rw [ev5]; rfl) (by decide) rfl (fun ls hl => ?_)
              refine lv_goto (tgt := 4) hx hb dX7_allThoughts_40 (by decide) ?_
              exact ih4 v3 v5 _ _ _ hP hD hS (lv_sub hl [1, 2, 0] rfl) hf
            · have hf := if_f cc19 hf
              refine lv_iload_n hx hb dX7_allThoughts_22 rfl (lv_at hl 1 rfl) ?_
              refine lv_aload_n hx hb dX7_allThoughts_23 rfl (lv_at hl 0 rfl) ?_
              refine lv_iload_n hx hb dX7_allThoughts_24 rfl (lv_at hl 2 rfl) ?_
              refine lv_iload_n hx hb dX7_allThoughts_25 rfl (lv_at hl 3 rfl) ?_
              obtain ⟨q6, hq6, hf⟩ := bd_x hf
              have hFc := freeS hD hS hA
              refine va_calli (va_runV (As := [.int v2, .int v4]) (rest := [.int v3]) ⟨hx, hb, hml, hown, hG⟩ (c_X7_thought l D cI cZ a x v2 v4 H.size hq6) (cwV 2 hG (gV g_666 g_667 g_46 g_77 g_668) rfl rfl rfl (by decide +kernel) ⟨Nat.le_of_ble_eq_true rfl, Nat.le_of_ble_eq_true rfl⟩) ⟨pre_blind, va_recv hK hP (ci := 7) (q0 := 0) rfl rfl, fun U hU hW => ⟨rfl, pre_of hP hK hD hnw hU hW⟩⟩ rfl rfl hl.1 rfl (lv_room (Nat.le_of_ble_eq_true rfl)) dX7_allThoughts_26 ⟨Nat.le_of_ble_eq_true rfl, Nat.le_of_ble_eq_true rfl⟩) hS (fun q _ h => hFc q h) hFc (fun v u t H locs ht hvm hw hB hz1 hk1 hS => ?_)
              have hw := hw.symm; subst hw
              obtain ⟨hP1, hD1⟩ := hB
              rw [ht] at hP1
              have hP := hP1
              have hD := hD1.weaken (fun _ q _ h => hFc q.1 h)
              refine lv_iadd hx hb dX7_allThoughts_29 ?_
              refine lv_topi (fun v7 ev7 => ?_)
              have hf := nm_x ev7 hf
              refine lv_istore_n (lv' := [(1, .int v7), (0, .ref (a 0)), (2, .int v2), (3, .int v4)]) hx hb dX7_allThoughts_30 rfl hl (by decide) rfl (fun ls hl => ?_)
              obtain ⟨v8, ev8⟩ : ∃ y : Int32, y = (v4 + (1 : Int32)) := ⟨_, rfl⟩
              have hf := nm_x ev8 hf
              refine lv_iinc (v := v8) (lv' := [(3, .int v8), (1, .int v7), (0, .ref (a 0)), (2, .int v2)]) hx hb dX7_allThoughts_31 hl (k := 3) rfl (by rw [ev8]; rfl) (by decide) rfl (fun ls hl => ?_)
              refine lv_goto (tgt := 14) hx hb dX7_allThoughts_34 (by decide) ?_
              exact ih14 v7 v8 _ _ _ hP hD hS (lv_sub hl [2, 1, 3, 0] rfl) hf
        exact L14 FU v1 (0 : Int32) _ _ _ hP hD hS (lv_sub hl [1, 2, 3, 0] rfl) hf
  exact L4 FU (0 : Int32) (0 : Int32) _ _ _ hP hD hS (lv_sub hl [2, 1, 0] rfl) hf
def f_X7_told (x : HC) (p1 : Int32) : Option (Int32) := (if p1 = (0 : Int32) then some (x 0 5) else (if p1 = (1 : Int32) then some (x 0 6) else (if p1 = (2 : Int32) then some (x 0 9) else (if p1 = (3 : Int32) then some (x 0 11) else (if p1 = (4 : Int32) then some (x 0 13) else (if p1 = (5 : Int32) then some (x 0 3) else (if p1 = (6 : Int32) then (if inb (45 : Int32) 141 then some (x 1 (Int32.toNatClampNeg (45 : Int32))) else none) else (if p1 = (7 : Int32) then bd (f_X7_allThoughts x) (fun (q1 : Int32) => some q1) else (if p1 = (8 : Int32) then some (x 0 16) else some (-1000000002 : Int32))))))))))
abbrev RM_X7_told : Room := { frames := 2, cells := 0, slots := 0, locals := 45 }
set_option maxHeartbeats 4000000 in
set_option maxRecDepth 100000 in
theorem c_X7_told (l : Launch) (D : va_G) (cI cZ : ClassId) (a : Nat → Nat) (x : HC) (p1 : Int32) (sz : Nat) {r : Int32} (hf : f_X7_told x p1 = some r) : Met l yX7_told (wM yX7_told cX7_told 2 (some .int)) RM_X7_told (va_Pc [.ref (a 0), .int p1] (pre D cI cZ (kM cI cZ a x) sz)) (QI0 D (va_A (kM cI cZ a x) sz) (kM cI cZ a x) r) 0 0 (va_A (kM cI cZ a x) sz) := by
  unfold f_X7_told at hf
  refine Met.ofW (cc := cX7_told) (maxL := 2) (ret := (some .int)) (by decide) rfl ?_
  intro p e s m args below meth c s₁ B hml hv
  obtain ⟨rfl, hsz, hP, hK, hD0, hnw⟩ := hv
  have hx := B.exec
  have hb := B.bytes
  have hr := B.returns
  have hts := atoms_spec (ws := wM yX7_told cX7_told 2 (some .int)) B.pre
  have hG : ∀ w ∈ GW, w.before (([.ref (a 0), .int p1] : List Value).toArray) s = true := fun w h => hts w (List.mem_cons_of_mem _ h)
  have hown : s.vm.findClass RX7 = some m.cls := findClass_of_methodNamed B.named
  have hlocks := B.notSynchronized
  subst hsz
  have hD := hD0.self (sz := s.heap.size)
  generalize hAe : va_A (kM cI cZ a x) s.heap.size = A at hD ⊢
  have hA : ∀ q : Nat, s.heap.size ≤ q → A q := fun q h => by rw [← hAe]; exact Or.inr h
  have hS : va_S A s.heap s.heap [] := va_S.rf
  have hl := lv_entry ([.ref (a 0), .int p1]) (n := 2) (Nat.le_of_ble_eq_true rfl)
  rw [lg_entry_eq]
  generalize (lg_sl ([.ref (a 0), .int p1]) ++ List.replicate (2 - (lg_sl ([.ref (a 0), .int p1])).length) Slot.unset).toArray = ls at hl ⊢
  have hl : lv_has ls 2 [(0, .ref (a 0)), (1, .int p1)] := hl
  show W p l e RM_X7_told s m (([.ref (a 0), .int p1] : List Value).toArray) below meth c s.heap [] 0 0 (MQ below (QI0 D A (kM cI cZ a x) r) (([.ref (a 0), .int p1] : List Value).toArray) s 0 0 A) (F0 m 0 ls [])
  refine lv_iload_n hx hb dX7_told_0 rfl (lv_at hl 1 rfl) ?_
  by_cases sw0 : p1 = (0 : Int32)
  · have hf := if_t sw0 hf
    refine lv_tabK (tgt := 52) (k := (0 : Int32)) hx hb dX7_told_1 sw0 (by decide) (by decide) rfl (by decide) ?_
    refine lv_aload_n hx hb dX7_told_52 rfl (lv_at hl 0 rfl) ?_
    refine va_get (D := D) (ci := 7) (v := .int (x 0 5)) (C := RX7) (T := TX7) (N := 32) hx hb hG inG7 hown hK hP 0 at_M_0_0 rfl 5 (by decide) (hG _ g_569) (fun _ h9 => h9) rfl dX7_told_53 ?_
    exact W.iret (v := (x 0 5)) hx hb hr (fun t ht hW => ⟨⟨(x 0 5), (), rfl, Option.some.inj hf, by rw [ht]; exact hP, hD⟩, hS.F ht⟩) hS.2.2 dX7_told_56
  · have hf := if_f sw0 hf
    by_cases sw1 : p1 = (1 : Int32)
    · have hf := if_t sw1 hf
      refine lv_tabK (tgt := 57) (k := (1 : Int32)) hx hb dX7_told_1 sw1 (by decide) (by decide) rfl (by decide) ?_
      refine lv_aload_n hx hb dX7_told_57 rfl (lv_at hl 0 rfl) ?_
      refine va_get (D := D) (ci := 7) (v := .int (x 0 6)) (C := RX7) (T := TX7) (N := 32) hx hb hG inG7 hown hK hP 0 at_M_0_0 rfl 6 (by decide) (hG _ g_570) (fun _ h9 => h9) rfl dX7_told_58 ?_
      exact W.iret (v := (x 0 6)) hx hb hr (fun t ht hW => ⟨⟨(x 0 6), (), rfl, Option.some.inj hf, by rw [ht]; exact hP, hD⟩, hS.F ht⟩) hS.2.2 dX7_told_61
    · have hf := if_f sw1 hf
      by_cases sw2 : p1 = (2 : Int32)
      · have hf := if_t sw2 hf
        refine lv_tabK (tgt := 62) (k := (2 : Int32)) hx hb dX7_told_1 sw2 (by decide) (by decide) rfl (by decide) ?_
        refine lv_aload_n hx hb dX7_told_62 rfl (lv_at hl 0 rfl) ?_
        refine va_get (D := D) (ci := 7) (v := .int (x 0 9)) (C := RX7) (T := TX7) (N := 32) hx hb hG inG7 hown hK hP 0 at_M_0_0 rfl 9 (by decide) (hG _ g_573) (fun _ h9 => h9) rfl dX7_told_63 ?_
        exact W.iret (v := (x 0 9)) hx hb hr (fun t ht hW => ⟨⟨(x 0 9), (), rfl, Option.some.inj hf, by rw [ht]; exact hP, hD⟩, hS.F ht⟩) hS.2.2 dX7_told_66
      · have hf := if_f sw2 hf
        by_cases sw3 : p1 = (3 : Int32)
        · have hf := if_t sw3 hf
          refine lv_tabK (tgt := 67) (k := (3 : Int32)) hx hb dX7_told_1 sw3 (by decide) (by decide) rfl (by decide) ?_
          refine lv_aload_n hx hb dX7_told_67 rfl (lv_at hl 0 rfl) ?_
          refine va_get (D := D) (ci := 7) (v := .int (x 0 11)) (C := RX7) (T := TX7) (N := 32) hx hb hG inG7 hown hK hP 0 at_M_0_0 rfl 11 (by decide) (hG _ g_575) (fun _ h9 => h9) rfl dX7_told_68 ?_
          exact W.iret (v := (x 0 11)) hx hb hr (fun t ht hW => ⟨⟨(x 0 11), (), rfl, Option.some.inj hf, by rw [ht]; exact hP, hD⟩, hS.F ht⟩) hS.2.2 dX7_told_71
        · have hf := if_f sw3 hf
          by_cases sw4 : p1 = (4 : Int32)
          · have hf := if_t sw4 hf
            refine lv_tabK (tgt := 72) (k := (4 : Int32)) hx hb dX7_told_1 sw4 (by decide) (by decide) rfl (by decide) ?_
            refine lv_aload_n hx hb dX7_told_72 rfl (lv_at hl 0 rfl) ?_
            refine va_get (D := D) (ci := 7) (v := .int (x 0 13)) (C := RX7) (T := TX7) (N := 32) hx hb hG inG7 hown hK hP 0 at_M_0_0 rfl 13 (by decide) (hG _ g_577) (fun _ h9 => h9) rfl dX7_told_73 ?_
            exact W.iret (v := (x 0 13)) hx hb hr (fun t ht hW => ⟨⟨(x 0 13), (), rfl, Option.some.inj hf, by rw [ht]; exact hP, hD⟩, hS.F ht⟩) hS.2.2 dX7_told_76
          · have hf := if_f sw4 hf
            by_cases sw5 : p1 = (5 : Int32)
            · have hf := if_t sw5 hf
              refine lv_tabK (tgt := 77) (k := (5 : Int32)) hx hb dX7_told_1 sw5 (by decide) (by decide) rfl (by decide) ?_
              refine lv_aload_n hx hb dX7_told_77 rfl (lv_at hl 0 rfl) ?_
              refine va_get (D := D) (ci := 7) (v := .int (x 0 3)) (C := RX7) (T := TX7) (N := 32) hx hb hG inG7 hown hK hP 0 at_M_0_0 rfl 3 (by decide) (hG _ g_567) (fun _ h9 => h9) rfl dX7_told_78 ?_
              exact W.iret (v := (x 0 3)) hx hb hr (fun t ht hW => ⟨⟨(x 0 3), (), rfl, Option.some.inj hf, by rw [ht]; exact hP, hD⟩, hS.F ht⟩) hS.2.2 dX7_told_81
            · have hf := if_f sw5 hf
              by_cases sw6 : p1 = (6 : Int32)
              · have hf := if_t sw6 hf
                refine lv_tabK (tgt := 82) (k := (6 : Int32)) hx hb dX7_told_1 sw6 (by decide) (by decide) rfl (by decide) ?_
                refine lv_aload_n hx hb dX7_told_82 rfl (lv_at hl 0 rfl) ?_
                refine va_get (D := D) (ci := 7) (v := .ref (a 1)) (C := RX7) (T := TX7) (N := 32) hx hb hG inG7 hown hK hP 0 at_M_0_0 rfl 0 (by decide) (hG _ g_564) (fun _ h9 => h9) rfl dX7_told_83 ?_
                refine lv_bipush (v := (45 : Int32)) hx hb dX7_told_86 (by decide) ?_
                obtain ⟨hb88, hf⟩ := gd hf
                refine va_iald (cA := cI) (n := 141) (f := x 1) hx hb hK hP 1 0 at_M_0_1 rfl (inb_in hb88) dX7_told_88 ?_
                exact W.iret (v := (x 1 (Int32.toNatClampNeg (45 : Int32)))) hx hb hr (fun t ht hW => ⟨⟨(x 1 (Int32.toNatClampNeg (45 : Int32))), (), rfl, Option.some.inj hf, by rw [ht]; exact hP, hD⟩, hS.F ht⟩) hS.2.2 dX7_told_89
              · have hf := if_f sw6 hf
                by_cases sw7 : p1 = (7 : Int32)
                · have hf := if_t sw7 hf
                  refine lv_tabK (tgt := 90) (k := (7 : Int32)) hx hb dX7_told_1 sw7 (by decide) (by decide) rfl (by decide) ?_
                  refine lv_aload_n hx hb dX7_told_90 rfl (lv_at hl 0 rfl) ?_
                  obtain ⟨q1, hq1, hf⟩ := bd_x hf
                  have hFc := freeS hD hS hA
                  refine va_calli (va_runV (As := []) (rest := []) ⟨hx, hb, hml, hown, hG⟩ (c_X7_allThoughts l D cI cZ a x s.heap.size hq1) (cwV 0 hG (gV g_663 g_664 g_45 g_77 g_665) rfl rfl rfl (by decide +kernel) ⟨Nat.le_of_ble_eq_true rfl, Nat.le_of_ble_eq_true rfl⟩) ⟨pre_blind, va_recv hK hP (ci := 7) (q0 := 0) rfl rfl, fun U hU hW => ⟨rfl, pre_of hP hK hD hnw hU hW⟩⟩ rfl rfl hl.1 rfl (lv_room (Nat.le_of_ble_eq_true rfl)) dX7_told_91 ⟨Nat.le_of_ble_eq_true rfl, Nat.le_of_ble_eq_true rfl⟩) hS (fun q _ h => hFc q h) hFc (fun v u t H locs ht hvm hw hB hz1 hk1 hS => ?_)
                  have hw := hw.symm; subst hw
                  obtain ⟨hP1, hD1⟩ := hB
                  rw [ht] at hP1
                  have hP := hP1
                  have hD := hD1.weaken (fun _ q _ h => hFc q.1 h)
                  exact W.iret (v := q1) hx hb hr (fun t ht hW => ⟨⟨q1, (), rfl, Option.some.inj hf, by rw [ht]; exact hP, hD⟩, hS.F ht⟩) hS.2.2 dX7_told_94
                · have hf := if_f sw7 hf
                  by_cases sw8 : p1 = (8 : Int32)
                  · have hf := if_t sw8 hf
                    refine lv_tabK (tgt := 95) (k := (8 : Int32)) hx hb dX7_told_1 sw8 (by decide) (by decide) rfl (by decide) ?_
                    refine lv_aload_n hx hb dX7_told_95 rfl (lv_at hl 0 rfl) ?_
                    refine va_get (D := D) (ci := 7) (v := .int (x 0 16)) (C := RX7) (T := TX7) (N := 32) hx hb hG inG7 hown hK hP 0 at_M_0_0 rfl 16 (by decide) (hG _ g_580) (fun _ h9 => h9) rfl dX7_told_96 ?_
                    exact W.iret (v := (x 0 16)) hx hb hr (fun t ht hW => ⟨⟨(x 0 16), (), rfl, Option.some.inj hf, by rw [ht]; exact hP, hD⟩, hS.F ht⟩) hS.2.2 dX7_told_99
                  · have hf := if_f sw8 hf
                    refine lv_tableOut (tgt := 100) hx hb dX7_told_1 (by have z0 := lv_neT (k := (0 : Int32)) (a := 0) sw0 rfl; have z1 := lv_neT (k := (1 : Int32)) (a := 1) sw1 rfl; have z2 := lv_neT (k := (2 : Int32)) (a := 2) sw2 rfl; have z3 := lv_neT (k := (3 : Int32)) (a := 3) sw3 rfl; have z4 := lv_neT (k := (4 : Int32)) (a := 4) sw4 rfl; have z5 := lv_neT (k := (5 : Int32)) (a := 5) sw5 rfl; have z6 := lv_neT (k := (6 : Int32)) (a := 6) sw6 rfl; have z7 := lv_neT (k := (7 : Int32)) (a := 7) sw7 rfl; have z8 := lv_neT (k := (8 : Int32)) (a := 8) sw8 rfl; omega) (by decide) ?_
                    refine lv_ldc hx hb hown (hG _ g_605) dX7_told_100 ?_
                    exact W.iret (v := (-1000000002 : Int32)) hx hb hr (fun t ht hW => ⟨⟨(-1000000002 : Int32), (), rfl, Option.some.inj hf, by rw [ht]; exact hP, hD⟩, hS.F ht⟩) hS.2.2 dX7_told_102
def f_X7_reads (x : HC) (p1 : Int32) (p2 : Int32) : Option (Int32) := nm (p2 + (p2 / (2 : Int32))) (fun (v1 : Int32) => (if inb p1 5 then (if (x 4 (Int32.toNatClampNeg p1)) = (1 : Int32) then some (0 : Int32) else (if inb p1 5 then (if (x 4 (Int32.toNatClampNeg p1)) = (2 : Int32) then (if v1 ≤ (99 : Int32) then some v1 else some (99 : Int32)) else some p2) else none)) else none))
abbrev RM_X7_reads : Room := { frames := 0, cells := 0, slots := 0, locals := 0 }
set_option maxHeartbeats 4000000 in
set_option maxRecDepth 100000 in
theorem c_X7_reads (l : Launch) (D : va_G) (cI cZ : ClassId) (a : Nat → Nat) (x : HC) (p1 : Int32) (p2 : Int32) (sz : Nat) {r : Int32} (hf : f_X7_reads x p1 p2 = some r) : Met l yX7_reads (wM yX7_reads cX7_reads 4 (some .int)) RM_X7_reads (va_Pc [.ref (a 0), .int p1, .int p2] (pre D cI cZ (kM cI cZ a x) sz)) (QI0 D (va_A (kM cI cZ a x) sz) (kM cI cZ a x) r) 0 0 (va_A (kM cI cZ a x) sz) := by
  unfold f_X7_reads at hf
  refine Met.ofW (cc := cX7_reads) (maxL := 4) (ret := (some .int)) (by decide) rfl ?_
  intro p e s m args below meth c s₁ B hml hv
  obtain ⟨rfl, hsz, hP, hK, hD0, hnw⟩ := hv
  have hx := B.exec
  have hb := B.bytes
  have hr := B.returns
  have hts := atoms_spec (ws := wM yX7_reads cX7_reads 4 (some .int)) B.pre
  have hG : ∀ w ∈ GW, w.before (([.ref (a 0), .int p1, .int p2] : List Value).toArray) s = true := fun w h => hts w (List.mem_cons_of_mem _ h)
  have hown : s.vm.findClass RX7 = some m.cls := findClass_of_methodNamed B.named
  have hlocks := B.notSynchronized
  subst hsz
  have hD := hD0.self (sz := s.heap.size)
  generalize hAe : va_A (kM cI cZ a x) s.heap.size = A at hD ⊢
  have hA : ∀ q : Nat, s.heap.size ≤ q → A q := fun q h => by rw [← hAe]; exact Or.inr h
  have hS : va_S A s.heap s.heap [] := va_S.rf
  have hl := lv_entry ([.ref (a 0), .int p1, .int p2]) (n := 4) (Nat.le_of_ble_eq_true rfl)
  rw [lg_entry_eq]
  generalize (lg_sl ([.ref (a 0), .int p1, .int p2]) ++ List.replicate (4 - (lg_sl ([.ref (a 0), .int p1, .int p2])).length) Slot.unset).toArray = ls at hl ⊢
  have hl : lv_has ls 4 [(0, .ref (a 0)), (1, .int p1), (2, .int p2)] := hl
  show W p l e RM_X7_reads s m (([.ref (a 0), .int p1, .int p2] : List Value).toArray) below meth c s.heap [] 0 0 (MQ below (QI0 D A (kM cI cZ a x) r) (([.ref (a 0), .int p1, .int p2] : List Value).toArray) s 0 0 A) (F0 m 0 ls [])
  refine lv_iload_n hx hb dX7_reads_0 rfl (lv_at hl 2 rfl) ?_
  refine lv_iload_n hx hb dX7_reads_1 rfl (lv_at hl 2 rfl) ?_
  refine lv_iconst (v := (2 : Int32)) hx hb dX7_reads_2 (by decide) ?_
  refine lv_idiv hx hb dX7_reads_3 (by decide) ?_
  refine lv_iadd hx hb dX7_reads_4 ?_
  refine lv_topi (fun v1 ev1 => ?_)
  have hf := nm_x ev1 hf
  refine lv_istore_n (lv' := [(3, .int v1), (0, .ref (a 0)), (1, .int p1), (2, .int p2)]) hx hb dX7_reads_5 rfl hl (by decide) rfl (fun ls hl => ?_)
  refine lv_aload_n hx hb dX7_reads_6 rfl (lv_at hl 1 rfl) ?_
  refine va_get (D := D) (ci := 7) (v := .ref (a 4)) (C := RX7) (T := TX7) (N := 32) hx hb hG inG7 hown hK hP 0 at_M_0_0 rfl 7 (by decide) (hG _ g_571) (fun _ h9 => h9) rfl dX7_reads_7 ?_
  refine lv_iload_n hx hb dX7_reads_10 rfl (lv_at hl 2 rfl) ?_
  obtain ⟨hb11, hf⟩ := gd hf
  refine va_iald (cA := cI) (n := 5) (f := x 4) hx hb hK hP 4 0 at_M_0_4 rfl (inb_in hb11) dX7_reads_11 ?_
  refine lv_iconst (v := (1 : Int32)) hx hb dX7_reads_12 (by decide) ?_
  refine lv_icmp_ne (tgt := 20) hx hb dX7_reads_13 (by decide) (fun cc13 => ?_) (fun cc13 => ?_)
  · have hf := if_f cc13 hf
    refine lv_aload_n hx hb dX7_reads_20 rfl (lv_at hl 1 rfl) ?_
    refine va_get (D := D) (ci := 7) (v := .ref (a 4)) (C := RX7) (T := TX7) (N := 32) hx hb hG inG7 hown hK hP 0 at_M_0_0 rfl 7 (by decide) (hG _ g_571) (fun _ h9 => h9) rfl dX7_reads_21 ?_
    refine lv_iload_n hx hb dX7_reads_24 rfl (lv_at hl 2 rfl) ?_
    obtain ⟨hb25, hf⟩ := gd hf
    refine va_iald (cA := cI) (n := 5) (f := x 4) hx hb hK hP 4 0 at_M_0_4 rfl (inb_in hb25) dX7_reads_25 ?_
    refine lv_iconst (v := (2 : Int32)) hx hb dX7_reads_26 (by decide) ?_
    refine lv_icmp_eq (tgt := 34) hx hb dX7_reads_27 (by decide) (fun cc27 => ?_) (fun cc27 => ?_)
    · have hf := if_t cc27 hf
      refine lv_iload_n hx hb dX7_reads_34 rfl (lv_at hl 0 rfl) ?_
      refine lv_bipush (v := (99 : Int32)) hx hb dX7_reads_35 (by decide) ?_
      refine lv_icmp_le (tgt := 45) hx hb dX7_reads_37 (by decide) (fun cc37 => ?_) (fun cc37 => ?_)
      · have hf := if_t cc37 hf
        refine lv_iload_n hx hb dX7_reads_45 rfl (lv_at hl 0 rfl) ?_
        exact W.iret (v := v1) hx hb hr (fun t ht hW => ⟨⟨v1, (), rfl, Option.some.inj hf, by rw [ht]; exact hP, hD⟩, hS.F ht⟩) hS.2.2 dX7_reads_46
      · have hf := if_f cc37 hf
        refine lv_bipush (v := (99 : Int32)) hx hb dX7_reads_40 (by decide) ?_
        refine lv_goto (tgt := 46) hx hb dX7_reads_42 (by decide) ?_
        exact W.iret (v := (99 : Int32)) hx hb hr (fun t ht hW => ⟨⟨(99 : Int32), (), rfl, Option.some.inj hf, by rw [ht]; exact hP, hD⟩, hS.F ht⟩) hS.2.2 dX7_reads_46
    · have hf := if_f cc27 hf
      refine lv_iload_n hx hb dX7_reads_30 rfl (lv_at hl 3 rfl) ?_
      refine lv_goto (tgt := 46) hx hb dX7_reads_31 (by decide) ?_
      exact W.iret (v := p2) hx hb hr (fun t ht hW => ⟨⟨p2, (), rfl, Option.some.inj hf, by rw [ht]; exact hP, hD⟩, hS.F ht⟩) hS.2.2 dX7_reads_46
  · have hf := if_t cc13 hf
    refine lv_iconst (v := (0 : Int32)) hx hb dX7_reads_16 (by decide) ?_
    refine lv_goto (tgt := 46) hx hb dX7_reads_17 (by decide) ?_
    exact W.iret (v := (0 : Int32)) hx hb hr (fun t ht hW => ⟨⟨(0 : Int32), (), rfl, Option.some.inj hf, by rw [ht]; exact hP, hD⟩, hS.F ht⟩) hS.2.2 dX7_reads_46
def f_X7_readsNow (x : HC) (p1 : Int32) : Option (Int32) := (if inb ((0 : Int32) + p1) 141 then bd (f_X7_reads x p1 (x 1 (Int32.toNatClampNeg ((0 : Int32) + p1)))) (fun (q1 : Int32) => some q1) else none)
abbrev RM_X7_readsNow : Room := { frames := 1, cells := 0, slots := 0, locals := 23 }
set_option maxHeartbeats 4000000 in
set_option maxRecDepth 100000 in
theorem c_X7_readsNow (l : Launch) (D : va_G) (cI cZ : ClassId) (a : Nat → Nat) (x : HC) (p1 : Int32) (sz : Nat) {r : Int32} (hf : f_X7_readsNow x p1 = some r) : Met l yX7_readsNow (wM yX7_readsNow cX7_readsNow 2 (some .int)) RM_X7_readsNow (va_Pc [.ref (a 0), .int p1] (pre D cI cZ (kM cI cZ a x) sz)) (QI0 D (va_A (kM cI cZ a x) sz) (kM cI cZ a x) r) 0 0 (va_A (kM cI cZ a x) sz) := by
  unfold f_X7_readsNow at hf
  refine Met.ofW (cc := cX7_readsNow) (maxL := 2) (ret := (some .int)) (by decide) rfl ?_
  intro p e s m args below meth c s₁ B hml hv
  obtain ⟨rfl, hsz, hP, hK, hD0, hnw⟩ := hv
  have hx := B.exec
  have hb := B.bytes
  have hr := B.returns
  have hts := atoms_spec (ws := wM yX7_readsNow cX7_readsNow 2 (some .int)) B.pre
  have hG : ∀ w ∈ GW, w.before (([.ref (a 0), .int p1] : List Value).toArray) s = true := fun w h => hts w (List.mem_cons_of_mem _ h)
  have hown : s.vm.findClass RX7 = some m.cls := findClass_of_methodNamed B.named
  have hlocks := B.notSynchronized
  subst hsz
  have hD := hD0.self (sz := s.heap.size)
  generalize hAe : va_A (kM cI cZ a x) s.heap.size = A at hD ⊢
  have hA : ∀ q : Nat, s.heap.size ≤ q → A q := fun q h => by rw [← hAe]; exact Or.inr h
  have hS : va_S A s.heap s.heap [] := va_S.rf
  have hl := lv_entry ([.ref (a 0), .int p1]) (n := 2) (Nat.le_of_ble_eq_true rfl)
  rw [lg_entry_eq]
  generalize (lg_sl ([.ref (a 0), .int p1]) ++ List.replicate (2 - (lg_sl ([.ref (a 0), .int p1])).length) Slot.unset).toArray = ls at hl ⊢
  have hl : lv_has ls 2 [(0, .ref (a 0)), (1, .int p1)] := hl
  show W p l e RM_X7_readsNow s m (([.ref (a 0), .int p1] : List Value).toArray) below meth c s.heap [] 0 0 (MQ below (QI0 D A (kM cI cZ a x) r) (([.ref (a 0), .int p1] : List Value).toArray) s 0 0 A) (F0 m 0 ls [])
  refine lv_aload_n hx hb dX7_readsNow_0 rfl (lv_at hl 0 rfl) ?_
  refine lv_iload_n hx hb dX7_readsNow_1 rfl (lv_at hl 1 rfl) ?_
  refine lv_aload_n hx hb dX7_readsNow_2 rfl (lv_at hl 0 rfl) ?_
  refine va_get (D := D) (ci := 7) (v := .ref (a 1)) (C := RX7) (T := TX7) (N := 32) hx hb hG inG7 hown hK hP 0 at_M_0_0 rfl 0 (by decide) (hG _ g_564) (fun _ h9 => h9) rfl dX7_readsNow_3 ?_
  refine lv_iconst (v := (0 : Int32)) hx hb dX7_readsNow_6 (by decide) ?_
  refine lv_iload_n hx hb dX7_readsNow_7 rfl (lv_at hl 1 rfl) ?_
  refine lv_iadd hx hb dX7_readsNow_8 ?_
  obtain ⟨hb9, hf⟩ := gd hf
  refine va_iald (cA := cI) (n := 141) (f := x 1) hx hb hK hP 1 0 at_M_0_1 rfl (inb_in hb9) dX7_readsNow_9 ?_
  obtain ⟨q1, hq1, hf⟩ := bd_x hf
  have hFc := freeS hD hS hA
  refine va_calli (va_runV (As := [.int p1, .int (x 1 (Int32.toNatClampNeg ((0 : Int32) + p1)))]) (rest := []) ⟨hx, hb, hml, hown, hG⟩ (c_X7_reads l D cI cZ a x p1 (x 1 (Int32.toNatClampNeg ((0 : Int32) + p1))) s.heap.size hq1) (cwV 2 hG (gV g_680 g_681 g_49 g_77 g_682) rfl rfl rfl (by decide +kernel) ⟨Nat.le_of_ble_eq_true rfl, Nat.le_of_ble_eq_true rfl⟩) ⟨pre_blind, va_recv hK hP (ci := 7) (q0 := 0) rfl rfl, fun U hU hW => ⟨rfl, pre_of hP hK hD hnw hU hW⟩⟩ rfl rfl hl.1 rfl (lv_room (Nat.le_of_ble_eq_true rfl)) dX7_readsNow_10 ⟨Nat.le_of_ble_eq_true rfl, Nat.le_of_ble_eq_true rfl⟩) hS (fun q _ h => hFc q h) hFc (fun v u t H locs ht hvm hw hB hz1 hk1 hS => ?_)
  have hw := hw.symm; subst hw
  obtain ⟨hP1, hD1⟩ := hB
  rw [ht] at hP1
  have hP := hP1
  have hD := hD1.weaken (fun _ q _ h => hFc q.1 h)
  exact W.iret (v := q1) hx hb hr (fun t ht hW => ⟨⟨q1, (), rfl, Option.some.inj hf, by rw [ht]; exact hP, hD⟩, hS.F ht⟩) hS.2.2 dX7_readsNow_13
def f_X7_worthOf_j35 (rc4 : Int32 → Int32 → Option (Int32)) (v1 : Int32) (v2 : Int32) (v4 : Int32) : Option (Int32) := nm (v1 + v4) (fun (v5 : Int32) => nm (v2 + (1 : Int32)) (fun (v6 : Int32) => rc4 v5 v6))
def f_X7_worthOf_b4 (x : HC) (p1 : Int32) (rc4 : Int32 → Int32 → Option (Int32)) (v1 : Int32) (v2 : Int32) : Option (Int32) := (if (x 0 11) ≤ v2 then some v1 else bd (f_X7_has p1 v2) (fun (q3 : Int32) => (if q3 = 0 then f_X7_worthOf_j35 rc4 v1 v2 (0 : Int32) else (if inb (((4 : Int32) * v2) + (2 : Int32)) 24 then f_X7_worthOf_j35 rc4 v1 v2 (x 7 (Int32.toNatClampNeg (((4 : Int32) * v2) + (2 : Int32)))) else none))))
def f_X7_worthOf (x : HC) (p1 : Int32) : Option (Int32) := lp (fun _ _ => none : Int32 → Int32 → Option (Int32)) (f_X7_worthOf_b4 x p1) FU (0 : Int32) (0 : Int32)
abbrev RM_X7_worthOf : Room := { frames := 1, cells := 0, slots := 0, locals := 21 }
set_option maxHeartbeats 4000000 in
set_option maxRecDepth 100000 in
theorem c_X7_worthOf (l : Launch) (D : va_G) (cI cZ : ClassId) (a : Nat → Nat) (x : HC) (p1 : Int32) (sz : Nat) {r : Int32} (hf : f_X7_worthOf x p1 = some r) : Met l yX7_worthOf (wM yX7_worthOf cX7_worthOf 4 (some .int)) RM_X7_worthOf (va_Pc [.ref (a 0), .int p1] (pre D cI cZ (kM cI cZ a x) sz)) (QI0 D (va_A (kM cI cZ a x) sz) (kM cI cZ a x) r) 0 0 (va_A (kM cI cZ a x) sz) := by
  unfold f_X7_worthOf at hf
  refine Met.ofW (cc := cX7_worthOf) (maxL := 4) (ret := (some .int)) (by decide) rfl ?_
  intro p e s m args below meth c s₁ B hml hv
  obtain ⟨rfl, hsz, hP, hK, hD0, hnw⟩ := hv
  have hx := B.exec
  have hb := B.bytes
  have hr := B.returns
  have hts := atoms_spec (ws := wM yX7_worthOf cX7_worthOf 4 (some .int)) B.pre
  have hG : ∀ w ∈ GW, w.before (([.ref (a 0), .int p1] : List Value).toArray) s = true := fun w h => hts w (List.mem_cons_of_mem _ h)
  have hown : s.vm.findClass RX7 = some m.cls := findClass_of_methodNamed B.named
  have hlocks := B.notSynchronized
  subst hsz
  have hD := hD0.self (sz := s.heap.size)
  generalize hAe : va_A (kM cI cZ a x) s.heap.size = A at hD ⊢
  have hA : ∀ q : Nat, s.heap.size ≤ q → A q := fun q h => by rw [← hAe]; exact Or.inr h
  have hS : va_S A s.heap s.heap [] := va_S.rf
  have hl := lv_entry ([.ref (a 0), .int p1]) (n := 4) (Nat.le_of_ble_eq_true rfl)
  rw [lg_entry_eq]
  generalize (lg_sl ([.ref (a 0), .int p1]) ++ List.replicate (4 - (lg_sl ([.ref (a 0), .int p1])).length) Slot.unset).toArray = ls at hl ⊢
  have hl : lv_has ls 4 [(0, .ref (a 0)), (1, .int p1)] := hl
  show W p l e RM_X7_worthOf s m (([.ref (a 0), .int p1] : List Value).toArray) below meth c s.heap [] 0 0 (MQ below (QI0 D A (kM cI cZ a x) r) (([.ref (a 0), .int p1] : List Value).toArray) s 0 0 A) (F0 m 0 ls [])
  refine lv_iconst (v := (0 : Int32)) hx hb dX7_worthOf_0 (by decide) ?_
  refine lv_istore_n (lv' := [(2, .int (0 : Int32)), (0, .ref (a 0)), (1, .int p1)]) hx hb dX7_worthOf_1 rfl hl (by decide) rfl (fun ls hl => ?_)
  refine lv_iconst (v := (0 : Int32)) hx hb dX7_worthOf_2 (by decide) ?_
  refine lv_istore_n (lv' := [(3, .int (0 : Int32)), (2, .int (0 : Int32)), (0, .ref (a 0)), (1, .int p1)]) hx hb dX7_worthOf_3 rfl hl (by decide) rfl (fun ls hl => ?_)
  have L4 : ∀ (n : Nat) (v1 : Int32) (v2 : Int32) (H : Heap) (locs : List Loc) (ls : Array Slot), va_P D vwCl (kM cI cZ a x) H → va_D A (kM cI cZ a x) → va_S A s.heap H locs → lv_has ls 4 [(0, .ref (a 0)), (1, .int p1), (2, .int v1), (3, .int v2)] → lp (fun _ _ => none : Int32 → Int32 → Option (Int32)) (f_X7_worthOf_b4 x p1) n v1 v2 = some r → W p l e RM_X7_worthOf s m (([.ref (a 0), .int p1] : List Value).toArray) below meth c H locs 0 0 (MQ below (QI0 D A (kM cI cZ a x) r) (([.ref (a 0), .int p1] : List Value).toArray) s 0 0 A) (F0 m 4 ls []) := by
    intro n
    induction n with
    | zero => intro v1 v2 H locs ls _ _ _ _ hf; cases (show (none : Option (Int32)) = some r from hf)
    | succ n ih4 =>
      intro v1 v2 H locs ls hP hD hS hl hf
      have hf : (f_X7_worthOf_b4 x p1) (lp (fun _ _ => none : Int32 → Int32 → Option (Int32)) (f_X7_worthOf_b4 x p1) n) v1 v2 = some r := hf
      generalize lp (fun _ _ => none : Int32 → Int32 → Option (Int32)) (f_X7_worthOf_b4 x p1) n = rc4 at ih4 hf
      unfold f_X7_worthOf_b4 at hf
      refine lv_iload_n hx hb dX7_worthOf_4 rfl (lv_at hl 3 rfl) ?_
      refine lv_aload_n hx hb dX7_worthOf_5 rfl (lv_at hl 0 rfl) ?_
      refine va_get (D := D) (ci := 7) (v := .int (x 0 11)) (C := RX7) (T := TX7) (N := 32) hx hb hG inG7 hown hK hP 0 at_M_0_0 rfl 11 (by decide) (hG _ g_575) (fun _ h9 => h9) rfl dX7_worthOf_6 ?_
      refine lv_icmp_ge (tgt := 43) hx hb dX7_worthOf_9 (by decide) (fun cc9 => ?_) (fun cc9 => ?_)
      · have hf := if_t cc9 hf
        refine lv_iload_n hx hb dX7_worthOf_43 rfl (lv_at hl 2 rfl) ?_
        exact W.iret (v := v1) hx hb hr (fun t ht hW => ⟨⟨v1, (), rfl, Option.some.inj hf, by rw [ht]; exact hP, hD⟩, hS.F ht⟩) hS.2.2 dX7_worthOf_44
      · have hf := if_f cc9 hf
        refine lv_iload_n hx hb dX7_worthOf_12 rfl (lv_at hl 2 rfl) ?_
        refine lv_iload_n hx hb dX7_worthOf_13 rfl (lv_at hl 1 rfl) ?_
        refine lv_iload_n hx hb dX7_worthOf_14 rfl (lv_at hl 3 rfl) ?_
        obtain ⟨q3, hq3, hf⟩ := bd_x hf
        have hFc := va_free (wc := []) hD hS hA [] rfl
        refine va_calli (va_runS (As := [.int p1, .int v2]) (rest := [.int v1]) ⟨hx, hb, hml, hown, hG⟩ (c_X7_has l D cI cZ p1 v2 H.size hq3) (cwS 2 hG (gS g_643 g_644 g_77 g_645) rfl rfl rfl (by decide +kernel) ⟨Nat.le_of_ble_eq_true rfl, Nat.le_of_ble_eq_true rfl⟩) ⟨pre_blind, fun U hU hW => ⟨rfl, pre_of P_nil hK D_nil hnw hU hW⟩⟩ rfl rfl hl.1 rfl (lv_room (Nat.le_of_ble_eq_true rfl)) dX7_worthOf_15 ⟨Nat.le_of_ble_eq_true rfl, Nat.le_of_ble_eq_true rfl⟩) hS (fun q _ h => hFc q h) hFc (fun v u t H locs ht hvm hw hB hz1 hk1 hS => ?_)
        have hw := hw.symm; subst hw
        obtain ⟨hP1, hD1⟩ := hB
        rw [ht] at hP1
        obtain ⟨hP, hD⟩ := back hP hD [] rfl rfl hk1 hFc hP1 hD1
        have J35 : ∀ (v4 : Int32) (H : Heap) (locs : List Loc) (ls : Array Slot), va_P D vwCl (kM cI cZ a x) H → va_D A (kM cI cZ a x) → va_S A s.heap H locs → lv_has ls 4 [(0, .ref (a 0)), (1, .int p1), (3, .int v2)] → f_X7_worthOf_j35 rc4 v1 v2 v4 = some r → W p l e RM_X7_worthOf s m (([.ref (a 0), .int p1] : List Value).toArray) below meth c H locs 0 0 (MQ below (QI0 D A (kM cI cZ a x) r) (([.ref (a 0), .int p1] : List Value).toArray) s 0 0 A) (F0 m 35 ls [.int v4, .int v1]) := by
          intro v4 H locs ls hP hD hS hl hf
          unfold f_X7_worthOf_j35 at hf
          refine lv_iadd hx hb dX7_worthOf_35 ?_
          refine lv_topi (fun v5 ev5 => ?_)
          have hf := nm_x ev5 hf
          refine lv_istore_n (lv' := [(2, .int v5), (0, .ref (a 0)), (1, .int p1), (3, .int v2)]) hx hb dX7_worthOf_36 rfl hl (by decide) rfl (fun ls hl => ?_)
          obtain ⟨v6, ev6⟩ : ∃ y : Int32, y = (v2 + (1 : Int32)) := ⟨_, rfl⟩
          have hf := nm_x ev6 hf
          refine lv_iinc (v := v6) (lv' := [(3, .int v6), (2, .int v5), (0, .ref (a 0)), (1, .int p1)]) hx hb dX7_worthOf_37 hl (k := 3) rfl (by rw [ev6]; rfl) (by decide) rfl (fun ls hl => ?_)
          refine lv_goto (tgt := 4) hx hb dX7_worthOf_40 (by decide) ?_
          exact ih4 v5 v6 _ _ _ hP hD hS (lv_sub hl [2, 3, 1, 0] rfl) hf
        refine lv_if_eq (tgt := 34) hx hb dX7_worthOf_18 (by decide) (fun cc18 => ?_) (fun cc18 => ?_)
        · have hf := if_t cc18 hf
          refine lv_iconst (v := (0 : Int32)) hx hb dX7_worthOf_34 (by decide) ?_
          exact J35 (0 : Int32) _ _ _ hP hD hS (lv_sub hl [0, 1, 3] rfl) hf
        · have hf := if_f cc18 hf
          refine lv_aload_n hx hb dX7_worthOf_21 rfl (lv_at hl 0 rfl) ?_
          refine va_get (D := D) (ci := 7) (v := .ref (a 7)) (C := RX7) (T := TX7) (N := 32) hx hb hG inG7 hown hK hP 0 at_M_0_0 rfl 12 (by decide) (hG _ g_576) (fun _ h9 => h9) rfl dX7_worthOf_22 ?_
          refine lv_iconst (v := (4 : Int32)) hx hb dX7_worthOf_25 (by decide) ?_
          refine lv_iload_n hx hb dX7_worthOf_26 rfl (lv_at hl 3 rfl) ?_
          refine lv_imul hx hb dX7_worthOf_27 ?_
          refine lv_iconst (v := (2 : Int32)) hx hb dX7_worthOf_28 (by decide) ?_
          refine lv_iadd hx hb dX7_worthOf_29 ?_
          obtain ⟨hb30, hf⟩ := gd hf
          refine va_iald (cA := cI) (n := 24) (f := x 7) hx hb hK hP 7 0 at_M_0_7 rfl (inb_in hb30) dX7_worthOf_30 ?_
          refine lv_goto (tgt := 35) hx hb dX7_worthOf_31 (by decide) ?_
          exact J35 (x 7 (Int32.toNatClampNeg (((4 : Int32) * v2) + (2 : Int32)))) _ _ _ hP hD hS (lv_sub hl [0, 1, 3] rfl) hf
  exact L4 FU (0 : Int32) (0 : Int32) _ _ _ hP hD hS (lv_sub hl [2, 3, 1, 0] rfl) hf
def f_X7_fighter (x : HC) (p1 : Int32) (p2 : Int32) : Option (Int32) := bd (f_X7_isFighter x p1) (fun (q1 : Int32) => (if q1 = 0 then some (-1000000001 : Int32) else (if p2 = (0 : Int32) then (if inb p1 5 then some (x 4 (Int32.toNatClampNeg p1)) else none) else (if p2 = (1 : Int32) then (if inb p1 5 then some (x 5 (Int32.toNatClampNeg p1)) else none) else (if p2 = (2 : Int32) then (if inb ((0 : Int32) + p1) 141 then some (x 1 (Int32.toNatClampNeg ((0 : Int32) + p1))) else none) else (if p2 = (3 : Int32) then bd (f_X7_readsNow x p1) (fun (q2 : Int32) => some q2) else (if p2 = (4 : Int32) then (if inb ((35 : Int32) + p1) 141 then some (x 1 (Int32.toNatClampNeg ((35 : Int32) + p1))) else none) else (if p2 = (5 : Int32) then (if inb ((40 : Int32) + p1) 141 then some (x 1 (Int32.toNatClampNeg ((40 : Int32) + p1))) else none) else (if p2 = (6 : Int32) then (if inb ((35 : Int32) + p1) 141 then bd (f_X7_worthOf x (x 1 (Int32.toNatClampNeg ((35 : Int32) + p1)))) (fun (q3 : Int32) => some q3) else none) else some (-1000000002 : Int32))))))))))
abbrev RM_X7_fighter : Room := { frames := 2, cells := 0, slots := 0, locals := 46 }
set_option maxHeartbeats 4000000 in
set_option maxRecDepth 100000 in
theorem c_X7_fighter (l : Launch) (D : va_G) (cI cZ : ClassId) (a : Nat → Nat) (x : HC) (p1 : Int32) (p2 : Int32) (sz : Nat) {r : Int32} (hf : f_X7_fighter x p1 p2 = some r) : Met l yX7_fighter (wM yX7_fighter cX7_fighter 3 (some .int)) RM_X7_fighter (va_Pc [.ref (a 0), .int p1, .int p2] (pre D cI cZ (kM cI cZ a x) sz)) (QI0 D (va_A (kM cI cZ a x) sz) (kM cI cZ a x) r) 0 0 (va_A (kM cI cZ a x) sz) := by
  unfold f_X7_fighter at hf
  refine Met.ofW (cc := cX7_fighter) (maxL := 3) (ret := (some .int)) (by decide) rfl ?_
  intro p e s m args below meth c s₁ B hml hv
  obtain ⟨rfl, hsz, hP, hK, hD0, hnw⟩ := hv
  have hx := B.exec
  have hb := B.bytes
  have hr := B.returns
  have hts := atoms_spec (ws := wM yX7_fighter cX7_fighter 3 (some .int)) B.pre
  have hG : ∀ w ∈ GW, w.before (([.ref (a 0), .int p1, .int p2] : List Value).toArray) s = true := fun w h => hts w (List.mem_cons_of_mem _ h)
  have hown : s.vm.findClass RX7 = some m.cls := findClass_of_methodNamed B.named
  have hlocks := B.notSynchronized
  subst hsz
  have hD := hD0.self (sz := s.heap.size)
  generalize hAe : va_A (kM cI cZ a x) s.heap.size = A at hD ⊢
  have hA : ∀ q : Nat, s.heap.size ≤ q → A q := fun q h => by rw [← hAe]; exact Or.inr h
  have hS : va_S A s.heap s.heap [] := va_S.rf
  have hl := lv_entry ([.ref (a 0), .int p1, .int p2]) (n := 3) (Nat.le_of_ble_eq_true rfl)
  rw [lg_entry_eq]
  generalize (lg_sl ([.ref (a 0), .int p1, .int p2]) ++ List.replicate (3 - (lg_sl ([.ref (a 0), .int p1, .int p2])).length) Slot.unset).toArray = ls at hl ⊢
  have hl : lv_has ls 3 [(0, .ref (a 0)), (1, .int p1), (2, .int p2)] := hl
  show W p l e RM_X7_fighter s m (([.ref (a 0), .int p1, .int p2] : List Value).toArray) below meth c s.heap [] 0 0 (MQ below (QI0 D A (kM cI cZ a x) r) (([.ref (a 0), .int p1, .int p2] : List Value).toArray) s 0 0 A) (F0 m 0 ls [])
  refine lv_aload_n hx hb dX7_fighter_0 rfl (lv_at hl 0 rfl) ?_
  refine lv_iload_n hx hb dX7_fighter_1 rfl (lv_at hl 1 rfl) ?_
  obtain ⟨q1, hq1, hf⟩ := bd_x hf
  have hFc := freeS hD hS hA
  refine va_calli (va_runV (As := [.int p1]) (rest := []) ⟨hx, hb, hml, hown, hG⟩ (c_X7_isFighter l D cI cZ a x p1 s.heap.size hq1) (cwV 1 hG (gV g_673 g_674 g_47 g_77 g_675) rfl rfl rfl (by decide +kernel) ⟨Nat.le_of_ble_eq_true rfl, Nat.le_of_ble_eq_true rfl⟩) ⟨pre_blind, va_recv hK hP (ci := 7) (q0 := 0) rfl rfl, fun U hU hW => ⟨rfl, pre_of hP hK hD hnw hU hW⟩⟩ rfl rfl hl.1 rfl (lv_room (Nat.le_of_ble_eq_true rfl)) dX7_fighter_2 ⟨Nat.le_of_ble_eq_true rfl, Nat.le_of_ble_eq_true rfl⟩) hS (fun q _ h => hFc q h) hFc (fun v u t H locs ht hvm hw hB hz1 hk1 hS => ?_)
  have hw := hw.symm; subst hw
  obtain ⟨hP1, hD1⟩ := hB
  rw [ht] at hP1
  have hP := hP1
  have hD := hD1.weaken (fun _ q _ h => hFc q.1 h)
  refine lv_if_ne (tgt := 11) hx hb dX7_fighter_5 (by decide) (fun cc5 => ?_) (fun cc5 => ?_)
  · have hf := if_f cc5 hf
    refine lv_iload_n hx hb dX7_fighter_11 rfl (lv_at hl 2 rfl) ?_
    by_cases sw0 : p2 = (0 : Int32)
    · have hf := if_t sw0 hf
      refine lv_tabK (tgt := 56) (k := (0 : Int32)) hx hb dX7_fighter_12 sw0 (by decide) (by decide) rfl (by decide) ?_
      refine lv_aload_n hx hb dX7_fighter_56 rfl (lv_at hl 0 rfl) ?_
      refine va_get (D := D) (ci := 7) (v := .ref (a 4)) (C := RX7) (T := TX7) (N := 32) hx hb hG inG7 hown hK hP 0 at_M_0_0 rfl 7 (by decide) (hG _ g_571) (fun _ h9 => h9) rfl dX7_fighter_57 ?_
      refine lv_iload_n hx hb dX7_fighter_60 rfl (lv_at hl 1 rfl) ?_
      obtain ⟨hb61, hf⟩ := gd hf
      refine va_iald (cA := cI) (n := 5) (f := x 4) hx hb hK hP 4 0 at_M_0_4 rfl (inb_in hb61) dX7_fighter_61 ?_
      exact W.iret (v := (x 4 (Int32.toNatClampNeg p1))) hx hb hr (fun t ht hW => ⟨⟨(x 4 (Int32.toNatClampNeg p1)), (), rfl, Option.some.inj hf, by rw [ht]; exact hP, hD⟩, hS.F ht⟩) hS.2.2 dX7_fighter_62
    · have hf := if_f sw0 hf
      by_cases sw1 : p2 = (1 : Int32)
      · have hf := if_t sw1 hf
        refine lv_tabK (tgt := 63) (k := (1 : Int32)) hx hb dX7_fighter_12 sw1 (by decide) (by decide) rfl (by decide) ?_
        refine lv_aload_n hx hb dX7_fighter_63 rfl (lv_at hl 0 rfl) ?_
        refine va_get (D := D) (ci := 7) (v := .ref (a 5)) (C := RX7) (T := TX7) (N := 32) hx hb hG inG7 hown hK hP 0 at_M_0_0 rfl 8 (by decide) (hG _ g_572) (fun _ h9 => h9) rfl dX7_fighter_64 ?_
        refine lv_iload_n hx hb dX7_fighter_67 rfl (lv_at hl 1 rfl) ?_
        obtain ⟨hb68, hf⟩ := gd hf
        refine va_iald (cA := cI) (n := 5) (f := x 5) hx hb hK hP 5 0 at_M_0_5 rfl (inb_in hb68) dX7_fighter_68 ?_
        exact W.iret (v := (x 5 (Int32.toNatClampNeg p1))) hx hb hr (fun t ht hW => ⟨⟨(x 5 (Int32.toNatClampNeg p1)), (), rfl, Option.some.inj hf, by rw [ht]; exact hP, hD⟩, hS.F ht⟩) hS.2.2 dX7_fighter_69
      · have hf := if_f sw1 hf
        by_cases sw2 : p2 = (2 : Int32)
        · have hf := if_t sw2 hf
          refine lv_tabK (tgt := 70) (k := (2 : Int32)) hx hb dX7_fighter_12 sw2 (by decide) (by decide) rfl (by decide) ?_
          refine lv_aload_n hx hb dX7_fighter_70 rfl (lv_at hl 0 rfl) ?_
          refine va_get (D := D) (ci := 7) (v := .ref (a 1)) (C := RX7) (T := TX7) (N := 32) hx hb hG inG7 hown hK hP 0 at_M_0_0 rfl 0 (by decide) (hG _ g_564) (fun _ h9 => h9) rfl dX7_fighter_71 ?_
          refine lv_iconst (v := (0 : Int32)) hx hb dX7_fighter_74 (by decide) ?_
          refine lv_iload_n hx hb dX7_fighter_75 rfl (lv_at hl 1 rfl) ?_
          refine lv_iadd hx hb dX7_fighter_76 ?_
          obtain ⟨hb77, hf⟩ := gd hf
          refine va_iald (cA := cI) (n := 141) (f := x 1) hx hb hK hP 1 0 at_M_0_1 rfl (inb_in hb77) dX7_fighter_77 ?_
          exact W.iret (v := (x 1 (Int32.toNatClampNeg ((0 : Int32) + p1)))) hx hb hr (fun t ht hW => ⟨⟨(x 1 (Int32.toNatClampNeg ((0 : Int32) + p1))), (), rfl, Option.some.inj hf, by rw [ht]; exact hP, hD⟩, hS.F ht⟩) hS.2.2 dX7_fighter_78
        · have hf := if_f sw2 hf
          by_cases sw3 : p2 = (3 : Int32)
          · have hf := if_t sw3 hf
            refine lv_tabK (tgt := 79) (k := (3 : Int32)) hx hb dX7_fighter_12 sw3 (by decide) (by decide) rfl (by decide) ?_
            refine lv_aload_n hx hb dX7_fighter_79 rfl (lv_at hl 0 rfl) ?_
            refine lv_iload_n hx hb dX7_fighter_80 rfl (lv_at hl 1 rfl) ?_
            obtain ⟨q2, hq2, hf⟩ := bd_x hf
            have hFc := freeS hD hS hA
            refine va_calli (va_runV (As := [.int p1]) (rest := []) ⟨hx, hb, hml, hown, hG⟩ (c_X7_readsNow l D cI cZ a x p1 H.size hq2) (cwV 1 hG (gV g_677 g_678 g_48 g_77 g_679) rfl rfl rfl (by decide +kernel) ⟨Nat.le_of_ble_eq_true rfl, Nat.le_of_ble_eq_true rfl⟩) ⟨pre_blind, va_recv hK hP (ci := 7) (q0 := 0) rfl rfl, fun U hU hW => ⟨rfl, pre_of hP hK hD hnw hU hW⟩⟩ rfl rfl hl.1 rfl (lv_room (Nat.le_of_ble_eq_true rfl)) dX7_fighter_81 ⟨Nat.le_of_ble_eq_true rfl, Nat.le_of_ble_eq_true rfl⟩) hS (fun q _ h => hFc q h) hFc (fun v u t H locs ht hvm hw hB hz1 hk1 hS => ?_)
            have hw := hw.symm; subst hw
            obtain ⟨hP1, hD1⟩ := hB
            rw [ht] at hP1
            have hP := hP1
            have hD := hD1.weaken (fun _ q _ h => hFc q.1 h)
            exact W.iret (v := q2) hx hb hr (fun t ht hW => ⟨⟨q2, (), rfl, Option.some.inj hf, by rw [ht]; exact hP, hD⟩, hS.F ht⟩) hS.2.2 dX7_fighter_84
          · have hf := if_f sw3 hf
            by_cases sw4 : p2 = (4 : Int32)
            · have hf := if_t sw4 hf
              refine lv_tabK (tgt := 85) (k := (4 : Int32)) hx hb dX7_fighter_12 sw4 (by decide) (by decide) rfl (by decide) ?_
              refine lv_aload_n hx hb dX7_fighter_85 rfl (lv_at hl 0 rfl) ?_
              refine va_get (D := D) (ci := 7) (v := .ref (a 1)) (C := RX7) (T := TX7) (N := 32) hx hb hG inG7 hown hK hP 0 at_M_0_0 rfl 0 (by decide) (hG _ g_564) (fun _ h9 => h9) rfl dX7_fighter_86 ?_
              refine lv_bipush (v := (35 : Int32)) hx hb dX7_fighter_89 (by decide) ?_
              refine lv_iload_n hx hb dX7_fighter_91 rfl (lv_at hl 1 rfl) ?_
              refine lv_iadd hx hb dX7_fighter_92 ?_
              obtain ⟨hb93, hf⟩ := gd hf
              refine va_iald (cA := cI) (n := 141) (f := x 1) hx hb hK hP 1 0 at_M_0_1 rfl (inb_in hb93) dX7_fighter_93 ?_
              exact W.iret (v := (x 1 (Int32.toNatClampNeg ((35 : Int32) + p1)))) hx hb hr (fun t ht hW => ⟨⟨(x 1 (Int32.toNatClampNeg ((35 : Int32) + p1))), (), rfl, Option.some.inj hf, by rw [ht]; exact hP, hD⟩, hS.F ht⟩) hS.2.2 dX7_fighter_94
            · have hf := if_f sw4 hf
              by_cases sw5 : p2 = (5 : Int32)
              · have hf := if_t sw5 hf
                refine lv_tabK (tgt := 95) (k := (5 : Int32)) hx hb dX7_fighter_12 sw5 (by decide) (by decide) rfl (by decide) ?_
                refine lv_aload_n hx hb dX7_fighter_95 rfl (lv_at hl 0 rfl) ?_
                refine va_get (D := D) (ci := 7) (v := .ref (a 1)) (C := RX7) (T := TX7) (N := 32) hx hb hG inG7 hown hK hP 0 at_M_0_0 rfl 0 (by decide) (hG _ g_564) (fun _ h9 => h9) rfl dX7_fighter_96 ?_
                refine lv_bipush (v := (40 : Int32)) hx hb dX7_fighter_99 (by decide) ?_
                refine lv_iload_n hx hb dX7_fighter_101 rfl (lv_at hl 1 rfl) ?_
                refine lv_iadd hx hb dX7_fighter_102 ?_
                obtain ⟨hb103, hf⟩ := gd hf
                refine va_iald (cA := cI) (n := 141) (f := x 1) hx hb hK hP 1 0 at_M_0_1 rfl (inb_in hb103) dX7_fighter_103 ?_
                exact W.iret (v := (x 1 (Int32.toNatClampNeg ((40 : Int32) + p1)))) hx hb hr (fun t ht hW => ⟨⟨(x 1 (Int32.toNatClampNeg ((40 : Int32) + p1))), (), rfl, Option.some.inj hf, by rw [ht]; exact hP, hD⟩, hS.F ht⟩) hS.2.2 dX7_fighter_104
              · have hf := if_f sw5 hf
                by_cases sw6 : p2 = (6 : Int32)
                · have hf := if_t sw6 hf
                  refine lv_tabK (tgt := 105) (k := (6 : Int32)) hx hb dX7_fighter_12 sw6 (by decide) (by decide) rfl (by decide) ?_
                  refine lv_aload_n hx hb dX7_fighter_105 rfl (lv_at hl 0 rfl) ?_
                  refine lv_aload_n hx hb dX7_fighter_106 rfl (lv_at hl 0 rfl) ?_
                  refine va_get (D := D) (ci := 7) (v := .ref (a 1)) (C := RX7) (T := TX7) (N := 32) hx hb hG inG7 hown hK hP 0 at_M_0_0 rfl 0 (by decide) (hG _ g_564) (fun _ h9 => h9) rfl dX7_fighter_107 ?_
                  refine lv_bipush (v := (35 : Int32)) hx hb dX7_fighter_110 (by decide) ?_
                  refine lv_iload_n hx hb dX7_fighter_112 rfl (lv_at hl 1 rfl) ?_
                  refine lv_iadd hx hb dX7_fighter_113 ?_
                  obtain ⟨hb114, hf⟩ := gd hf
                  refine va_iald (cA := cI) (n := 141) (f := x 1) hx hb hK hP 1 0 at_M_0_1 rfl (inb_in hb114) dX7_fighter_114 ?_
                  obtain ⟨q3, hq3, hf⟩ := bd_x hf
                  have hFc := freeS hD hS hA
                  refine va_calli (va_runV (As := [.int (x 1 (Int32.toNatClampNeg ((35 : Int32) + p1)))]) (rest := []) ⟨hx, hb, hml, hown, hG⟩ (c_X7_worthOf l D cI cZ a x (x 1 (Int32.toNatClampNeg ((35 : Int32) + p1))) H.size hq3) (cwV 1 hG (gV g_683 g_684 g_50 g_77 g_685) rfl rfl rfl (by decide +kernel) ⟨Nat.le_of_ble_eq_true rfl, Nat.le_of_ble_eq_true rfl⟩) ⟨pre_blind, va_recv hK hP (ci := 7) (q0 := 0) rfl rfl, fun U hU hW => ⟨rfl, pre_of hP hK hD hnw hU hW⟩⟩ rfl rfl hl.1 rfl (lv_room (Nat.le_of_ble_eq_true rfl)) dX7_fighter_115 ⟨Nat.le_of_ble_eq_true rfl, Nat.le_of_ble_eq_true rfl⟩) hS (fun q _ h => hFc q h) hFc (fun v u t H locs ht hvm hw hB hz1 hk1 hS => ?_)
                  have hw := hw.symm; subst hw
                  obtain ⟨hP1, hD1⟩ := hB
                  rw [ht] at hP1
                  have hP := hP1
                  have hD := hD1.weaken (fun _ q _ h => hFc q.1 h)
                  exact W.iret (v := q3) hx hb hr (fun t ht hW => ⟨⟨q3, (), rfl, Option.some.inj hf, by rw [ht]; exact hP, hD⟩, hS.F ht⟩) hS.2.2 dX7_fighter_118
                · have hf := if_f sw6 hf
                  refine lv_tableOut (tgt := 119) hx hb dX7_fighter_12 (by have z0 := lv_neT (k := (0 : Int32)) (a := 0) sw0 rfl; have z1 := lv_neT (k := (1 : Int32)) (a := 1) sw1 rfl; have z2 := lv_neT (k := (2 : Int32)) (a := 2) sw2 rfl; have z3 := lv_neT (k := (3 : Int32)) (a := 3) sw3 rfl; have z4 := lv_neT (k := (4 : Int32)) (a := 4) sw4 rfl; have z5 := lv_neT (k := (5 : Int32)) (a := 5) sw5 rfl; have z6 := lv_neT (k := (6 : Int32)) (a := 6) sw6 rfl; omega) (by decide) ?_
                  refine lv_ldc hx hb hown (hG _ g_605) dX7_fighter_119 ?_
                  exact W.iret (v := (-1000000002 : Int32)) hx hb hr (fun t ht hW => ⟨⟨(-1000000002 : Int32), (), rfl, Option.some.inj hf, by rw [ht]; exact hP, hD⟩, hS.F ht⟩) hS.2.2 dX7_fighter_121
  · have hf := if_t cc5 hf
    refine lv_ldc hx hb hown (hG _ g_676) dX7_fighter_8 ?_
    exact W.iret (v := (-1000000001 : Int32)) hx hb hr (fun t ht hW => ⟨⟨(-1000000001 : Int32), (), rfl, Option.some.inj hf, by rw [ht]; exact hP, hD⟩, hS.F ht⟩) hS.2.2 dX7_fighter_10
def f_X7_thinks_j25   : Option (Int32) := some (-1000000001 : Int32)
def f_X7_thinks (x : HC) (p1 : Int32) (p2 : Int32) : Option (Int32) := bd (f_X7_isOne x p1) (fun (q1 : Int32) => (if q1 = 0 then f_X7_thinks_j25 else bd (f_X7_isFighter x p2) (fun (q2 : Int32) => (if q2 = 0 then f_X7_thinks_j25 else bd (f_X7_thought x p1 p2) (fun (q3 : Int32) => some q3)))))
abbrev RM_X7_thinks : Room := { frames := 2, cells := 0, slots := 0, locals := 46 }
set_option maxHeartbeats 4000000 in
set_option maxRecDepth 100000 in
theorem c_X7_thinks (l : Launch) (D : va_G) (cI cZ : ClassId) (a : Nat → Nat) (x : HC) (p1 : Int32) (p2 : Int32) (sz : Nat) {r : Int32} (hf : f_X7_thinks x p1 p2 = some r) : Met l yX7_thinks (wM yX7_thinks cX7_thinks 3 (some .int)) RM_X7_thinks (va_Pc [.ref (a 0), .int p1, .int p2] (pre D cI cZ (kM cI cZ a x) sz)) (QI0 D (va_A (kM cI cZ a x) sz) (kM cI cZ a x) r) 0 0 (va_A (kM cI cZ a x) sz) := by
  unfold f_X7_thinks at hf
  refine Met.ofW (cc := cX7_thinks) (maxL := 3) (ret := (some .int)) (by decide) rfl ?_
  intro p e s m args below meth c s₁ B hml hv
  obtain ⟨rfl, hsz, hP, hK, hD0, hnw⟩ := hv
  have hx := B.exec
  have hb := B.bytes
  have hr := B.returns
  have hts := atoms_spec (ws := wM yX7_thinks cX7_thinks 3 (some .int)) B.pre
  have hG : ∀ w ∈ GW, w.before (([.ref (a 0), .int p1, .int p2] : List Value).toArray) s = true := fun w h => hts w (List.mem_cons_of_mem _ h)
  have hown : s.vm.findClass RX7 = some m.cls := findClass_of_methodNamed B.named
  have hlocks := B.notSynchronized
  subst hsz
  have hD := hD0.self (sz := s.heap.size)
  generalize hAe : va_A (kM cI cZ a x) s.heap.size = A at hD ⊢
  have hA : ∀ q : Nat, s.heap.size ≤ q → A q := fun q h => by rw [← hAe]; exact Or.inr h
  have hS : va_S A s.heap s.heap [] := va_S.rf
  have hl := lv_entry ([.ref (a 0), .int p1, .int p2]) (n := 3) (Nat.le_of_ble_eq_true rfl)
  rw [lg_entry_eq]
  generalize (lg_sl ([.ref (a 0), .int p1, .int p2]) ++ List.replicate (3 - (lg_sl ([.ref (a 0), .int p1, .int p2])).length) Slot.unset).toArray = ls at hl ⊢
  have hl : lv_has ls 3 [(0, .ref (a 0)), (1, .int p1), (2, .int p2)] := hl
  show W p l e RM_X7_thinks s m (([.ref (a 0), .int p1, .int p2] : List Value).toArray) below meth c s.heap [] 0 0 (MQ below (QI0 D A (kM cI cZ a x) r) (([.ref (a 0), .int p1, .int p2] : List Value).toArray) s 0 0 A) (F0 m 0 ls [])
  refine lv_aload_n hx hb dX7_thinks_0 rfl (lv_at hl 0 rfl) ?_
  refine lv_iload_n hx hb dX7_thinks_1 rfl (lv_at hl 1 rfl) ?_
  obtain ⟨q1, hq1, hf⟩ := bd_x hf
  have hFc := freeS hD hS hA
  refine va_calli (va_runV (As := [.int p1]) (rest := []) ⟨hx, hb, hml, hown, hG⟩ (c_X7_isOne l D cI cZ a x p1 s.heap.size hq1) (cwV 1 hG (gV g_690 g_691 g_51 g_77 g_692) rfl rfl rfl (by decide +kernel) ⟨Nat.le_of_ble_eq_true rfl, Nat.le_of_ble_eq_true rfl⟩) ⟨pre_blind, va_recv hK hP (ci := 7) (q0 := 0) rfl rfl, fun U hU hW => ⟨rfl, pre_of hP hK hD hnw hU hW⟩⟩ rfl rfl hl.1 rfl (lv_room (Nat.le_of_ble_eq_true rfl)) dX7_thinks_2 ⟨Nat.le_of_ble_eq_true rfl, Nat.le_of_ble_eq_true rfl⟩) hS (fun q _ h => hFc q h) hFc (fun v u t H locs ht hvm hw hB hz1 hk1 hS => ?_)
  have hw := hw.symm; subst hw
  obtain ⟨hP1, hD1⟩ := hB
  rw [ht] at hP1
  have hP := hP1
  have hD := hD1.weaken (fun _ q _ h => hFc q.1 h)
  have J25 : ∀  (H : Heap) (locs : List Loc) (ls : Array Slot), va_P D vwCl (kM cI cZ a x) H → va_D A (kM cI cZ a x) → va_S A s.heap H locs → lv_has ls 3 [] → f_X7_thinks_j25  = some r → W p l e RM_X7_thinks s m (([.ref (a 0), .int p1, .int p2] : List Value).toArray) below meth c H locs 0 0 (MQ below (QI0 D A (kM cI cZ a x) r) (([.ref (a 0), .int p1, .int p2] : List Value).toArray) s 0 0 A) (F0 m 25 ls []) := by
    intro  H locs ls hP hD hS hl hf
    unfold f_X7_thinks_j25 at hf
    refine lv_ldc hx hb hown (hG _ g_676) dX7_thinks_25 ?_
    exact W.iret (v := (-1000000001 : Int32)) hx hb hr (fun t ht hW => ⟨⟨(-1000000001 : Int32), (), rfl, Option.some.inj hf, by rw [ht]; exact hP, hD⟩, hS.F ht⟩) hS.2.2 dX7_thinks_27
  refine lv_if_eq (tgt := 25) hx hb dX7_thinks_5 (by decide) (fun cc5 => ?_) (fun cc5 => ?_)
  · have hf := if_t cc5 hf
    exact J25  _ _ _ hP hD hS (lv_sub hl [] rfl) hf
  · have hf := if_f cc5 hf
    refine lv_aload_n hx hb dX7_thinks_8 rfl (lv_at hl 0 rfl) ?_
    refine lv_iload_n hx hb dX7_thinks_9 rfl (lv_at hl 2 rfl) ?_
    obtain ⟨q2, hq2, hf⟩ := bd_x hf
    have hFc := freeS hD hS hA
    refine va_calli (va_runV (As := [.int p2]) (rest := []) ⟨hx, hb, hml, hown, hG⟩ (c_X7_isFighter l D cI cZ a x p2 H.size hq2) (cwV 1 hG (gV g_673 g_674 g_47 g_77 g_675) rfl rfl rfl (by decide +kernel) ⟨Nat.le_of_ble_eq_true rfl, Nat.le_of_ble_eq_true rfl⟩) ⟨pre_blind, va_recv hK hP (ci := 7) (q0 := 0) rfl rfl, fun U hU hW => ⟨rfl, pre_of hP hK hD hnw hU hW⟩⟩ rfl rfl hl.1 rfl (lv_room (Nat.le_of_ble_eq_true rfl)) dX7_thinks_10 ⟨Nat.le_of_ble_eq_true rfl, Nat.le_of_ble_eq_true rfl⟩) hS (fun q _ h => hFc q h) hFc (fun v u t H locs ht hvm hw hB hz1 hk1 hS => ?_)
    have hw := hw.symm; subst hw
    obtain ⟨hP1, hD1⟩ := hB
    rw [ht] at hP1
    have hP := hP1
    have hD := hD1.weaken (fun _ q _ h => hFc q.1 h)
    refine lv_if_eq (tgt := 25) hx hb dX7_thinks_13 (by decide) (fun cc13 => ?_) (fun cc13 => ?_)
    · have hf := if_t cc13 hf
      exact J25  _ _ _ hP hD hS (lv_sub hl [] rfl) hf
    · have hf := if_f cc13 hf
      refine lv_aload_n hx hb dX7_thinks_16 rfl (lv_at hl 0 rfl) ?_
      refine lv_iload_n hx hb dX7_thinks_17 rfl (lv_at hl 1 rfl) ?_
      refine lv_iload_n hx hb dX7_thinks_18 rfl (lv_at hl 2 rfl) ?_
      obtain ⟨q3, hq3, hf⟩ := bd_x hf
      have hFc := freeS hD hS hA
      refine va_calli (va_runV (As := [.int p1, .int p2]) (rest := []) ⟨hx, hb, hml, hown, hG⟩ (c_X7_thought l D cI cZ a x p1 p2 H.size hq3) (cwV 2 hG (gV g_666 g_667 g_46 g_77 g_668) rfl rfl rfl (by decide +kernel) ⟨Nat.le_of_ble_eq_true rfl, Nat.le_of_ble_eq_true rfl⟩) ⟨pre_blind, va_recv hK hP (ci := 7) (q0 := 0) rfl rfl, fun U hU hW => ⟨rfl, pre_of hP hK hD hnw hU hW⟩⟩ rfl rfl hl.1 rfl (lv_room (Nat.le_of_ble_eq_true rfl)) dX7_thinks_19 ⟨Nat.le_of_ble_eq_true rfl, Nat.le_of_ble_eq_true rfl⟩) hS (fun q _ h => hFc q h) hFc (fun v u t H locs ht hvm hw hB hz1 hk1 hS => ?_)
      have hw := hw.symm; subst hw
      obtain ⟨hP1, hD1⟩ := hB
      rw [ht] at hP1
      have hP := hP1
      have hD := hD1.weaken (fun _ q _ h => hFc q.1 h)
      refine lv_goto (tgt := 27) hx hb dX7_thinks_22 (by decide) ?_
      exact W.iret (v := q3) hx hb hr (fun t ht hW => ⟨⟨q3, (), rfl, Option.some.inj hf, by rw [ht]; exact hP, hD⟩, hS.F ht⟩) hS.2.2 dX7_thinks_27
def f_X7_chats (x : HC) (p1 : Int32) : Option (Int32) := bd (f_X7_isOne x p1) (fun (q1 : Int32) => (if q1 = 0 then some (-1000000001 : Int32) else (if inb p1 6 then some (x 6 (Int32.toNatClampNeg p1)) else none)))
abbrev RM_X7_chats : Room := { frames := 2, cells := 0, slots := 0, locals := 46 }
set_option maxHeartbeats 4000000 in
set_option maxRecDepth 100000 in
theorem c_X7_chats (l : Launch) (D : va_G) (cI cZ : ClassId) (a : Nat → Nat) (x : HC) (p1 : Int32) (sz : Nat) {r : Int32} (hf : f_X7_chats x p1 = some r) : Met l yX7_chats (wM yX7_chats cX7_chats 2 (some .int)) RM_X7_chats (va_Pc [.ref (a 0), .int p1] (pre D cI cZ (kM cI cZ a x) sz)) (QI0 D (va_A (kM cI cZ a x) sz) (kM cI cZ a x) r) 0 0 (va_A (kM cI cZ a x) sz) := by
  unfold f_X7_chats at hf
  refine Met.ofW (cc := cX7_chats) (maxL := 2) (ret := (some .int)) (by decide) rfl ?_
  intro p e s m args below meth c s₁ B hml hv
  obtain ⟨rfl, hsz, hP, hK, hD0, hnw⟩ := hv
  have hx := B.exec
  have hb := B.bytes
  have hr := B.returns
  have hts := atoms_spec (ws := wM yX7_chats cX7_chats 2 (some .int)) B.pre
  have hG : ∀ w ∈ GW, w.before (([.ref (a 0), .int p1] : List Value).toArray) s = true := fun w h => hts w (List.mem_cons_of_mem _ h)
  have hown : s.vm.findClass RX7 = some m.cls := findClass_of_methodNamed B.named
  have hlocks := B.notSynchronized
  subst hsz
  have hD := hD0.self (sz := s.heap.size)
  generalize hAe : va_A (kM cI cZ a x) s.heap.size = A at hD ⊢
  have hA : ∀ q : Nat, s.heap.size ≤ q → A q := fun q h => by rw [← hAe]; exact Or.inr h
  have hS : va_S A s.heap s.heap [] := va_S.rf
  have hl := lv_entry ([.ref (a 0), .int p1]) (n := 2) (Nat.le_of_ble_eq_true rfl)
  rw [lg_entry_eq]
  generalize (lg_sl ([.ref (a 0), .int p1]) ++ List.replicate (2 - (lg_sl ([.ref (a 0), .int p1])).length) Slot.unset).toArray = ls at hl ⊢
  have hl : lv_has ls 2 [(0, .ref (a 0)), (1, .int p1)] := hl
  show W p l e RM_X7_chats s m (([.ref (a 0), .int p1] : List Value).toArray) below meth c s.heap [] 0 0 (MQ below (QI0 D A (kM cI cZ a x) r) (([.ref (a 0), .int p1] : List Value).toArray) s 0 0 A) (F0 m 0 ls [])
  refine lv_aload_n hx hb dX7_chats_0 rfl (lv_at hl 0 rfl) ?_
  refine lv_iload_n hx hb dX7_chats_1 rfl (lv_at hl 1 rfl) ?_
  obtain ⟨q1, hq1, hf⟩ := bd_x hf
  have hFc := freeS hD hS hA
  refine va_calli (va_runV (As := [.int p1]) (rest := []) ⟨hx, hb, hml, hown, hG⟩ (c_X7_isOne l D cI cZ a x p1 s.heap.size hq1) (cwV 1 hG (gV g_690 g_691 g_51 g_77 g_692) rfl rfl rfl (by decide +kernel) ⟨Nat.le_of_ble_eq_true rfl, Nat.le_of_ble_eq_true rfl⟩) ⟨pre_blind, va_recv hK hP (ci := 7) (q0 := 0) rfl rfl, fun U hU hW => ⟨rfl, pre_of hP hK hD hnw hU hW⟩⟩ rfl rfl hl.1 rfl (lv_room (Nat.le_of_ble_eq_true rfl)) dX7_chats_2 ⟨Nat.le_of_ble_eq_true rfl, Nat.le_of_ble_eq_true rfl⟩) hS (fun q _ h => hFc q h) hFc (fun v u t H locs ht hvm hw hB hz1 hk1 hS => ?_)
  have hw := hw.symm; subst hw
  obtain ⟨hP1, hD1⟩ := hB
  rw [ht] at hP1
  have hP := hP1
  have hD := hD1.weaken (fun _ q _ h => hFc q.1 h)
  refine lv_if_eq (tgt := 17) hx hb dX7_chats_5 (by decide) (fun cc5 => ?_) (fun cc5 => ?_)
  · have hf := if_t cc5 hf
    refine lv_ldc hx hb hown (hG _ g_676) dX7_chats_17 ?_
    exact W.iret (v := (-1000000001 : Int32)) hx hb hr (fun t ht hW => ⟨⟨(-1000000001 : Int32), (), rfl, Option.some.inj hf, by rw [ht]; exact hP, hD⟩, hS.F ht⟩) hS.2.2 dX7_chats_19
  · have hf := if_f cc5 hf
    refine lv_aload_n hx hb dX7_chats_8 rfl (lv_at hl 0 rfl) ?_
    refine va_get (D := D) (ci := 7) (v := .ref (a 6)) (C := RX7) (T := TX7) (N := 32) hx hb hG inG7 hown hK hP 0 at_M_0_0 rfl 10 (by decide) (hG _ g_574) (fun _ h9 => h9) rfl dX7_chats_9 ?_
    refine lv_iload_n hx hb dX7_chats_12 rfl (lv_at hl 1 rfl) ?_
    obtain ⟨hb13, hf⟩ := gd hf
    refine va_iald (cA := cI) (n := 6) (f := x 6) hx hb hK hP 6 0 at_M_0_6 rfl (inb_in hb13) dX7_chats_13 ?_
    refine lv_goto (tgt := 19) hx hb dX7_chats_14 (by decide) ?_
    exact W.iret (v := (x 6 (Int32.toNatClampNeg p1))) hx hb hr (fun t ht hW => ⟨⟨(x 6 (Int32.toNatClampNeg p1)), (), rfl, Option.some.inj hf, by rw [ht]; exact hP, hD⟩, hS.F ht⟩) hS.2.2 dX7_chats_19
def f_X7_tricksOf_j32 (rc4 : Int32 → Int32 → Option (Int32)) (v1 : Int32) (v2 : Int32) (v3 : Int32) : Option (Int32) := nm (v1 ||| v3) (fun (v4 : Int32) => nm (v2 + (1 : Int32)) (fun (v5 : Int32) => rc4 v4 v5))
def f_X7_tricksOf_b4 (x : HC) (p1 : Int32) (rc4 : Int32 → Int32 → Option (Int32)) (v1 : Int32) (v2 : Int32) : Option (Int32) := (if (x 0 13) ≤ v2 then some v1 else (if inb ((3 : Int32) * v2) 12 then (if (x 8 (Int32.toNatClampNeg ((3 : Int32) * v2))) = p1 then f_X7_tricksOf_j32 rc4 v1 v2 ((1 : Int32) <<< (v2 &&& 31)) else f_X7_tricksOf_j32 rc4 v1 v2 (0 : Int32)) else none))
def f_X7_tricksOf (x : HC) (p1 : Int32) : Option (Int32) := lp (fun _ _ => none : Int32 → Int32 → Option (Int32)) (f_X7_tricksOf_b4 x p1) FU (0 : Int32) (0 : Int32)
abbrev RM_X7_tricksOf : Room := { frames := 0, cells := 0, slots := 0, locals := 0 }
set_option maxHeartbeats 4000000 in
set_option maxRecDepth 100000 in
theorem c_X7_tricksOf (l : Launch) (D : va_G) (cI cZ : ClassId) (a : Nat → Nat) (x : HC) (p1 : Int32) (sz : Nat) {r : Int32} (hf : f_X7_tricksOf x p1 = some r) : Met l yX7_tricksOf (wM yX7_tricksOf cX7_tricksOf 4 (some .int)) RM_X7_tricksOf (va_Pc [.ref (a 0), .int p1] (pre D cI cZ (kM cI cZ a x) sz)) (QI0 D (va_A (kM cI cZ a x) sz) (kM cI cZ a x) r) 0 0 (va_A (kM cI cZ a x) sz) := by
  unfold f_X7_tricksOf at hf
  refine Met.ofW (cc := cX7_tricksOf) (maxL := 4) (ret := (some .int)) (by decide) rfl ?_
  intro p e s m args below meth c s₁ B hml hv
  obtain ⟨rfl, hsz, hP, hK, hD0, hnw⟩ := hv
  have hx := B.exec
  have hb := B.bytes
  have hr := B.returns
  have hts := atoms_spec (ws := wM yX7_tricksOf cX7_tricksOf 4 (some .int)) B.pre
  have hG : ∀ w ∈ GW, w.before (([.ref (a 0), .int p1] : List Value).toArray) s = true := fun w h => hts w (List.mem_cons_of_mem _ h)
  have hown : s.vm.findClass RX7 = some m.cls := findClass_of_methodNamed B.named
  have hlocks := B.notSynchronized
  subst hsz
  have hD := hD0.self (sz := s.heap.size)
  generalize hAe : va_A (kM cI cZ a x) s.heap.size = A at hD ⊢
  have hA : ∀ q : Nat, s.heap.size ≤ q → A q := fun q h => by rw [← hAe]; exact Or.inr h
  have hS : va_S A s.heap s.heap [] := va_S.rf
  have hl := lv_entry ([.ref (a 0), .int p1]) (n := 4) (Nat.le_of_ble_eq_true rfl)
  rw [lg_entry_eq]
  generalize (lg_sl ([.ref (a 0), .int p1]) ++ List.replicate (4 - (lg_sl ([.ref (a 0), .int p1])).length) Slot.unset).toArray = ls at hl ⊢
  have hl : lv_has ls 4 [(0, .ref (a 0)), (1, .int p1)] := hl
  show W p l e RM_X7_tricksOf s m (([.ref (a 0), .int p1] : List Value).toArray) below meth c s.heap [] 0 0 (MQ below (QI0 D A (kM cI cZ a x) r) (([.ref (a 0), .int p1] : List Value).toArray) s 0 0 A) (F0 m 0 ls [])
  refine lv_iconst (v := (0 : Int32)) hx hb dX7_tricksOf_0 (by decide) ?_
  refine lv_istore_n (lv' := [(2, .int (0 : Int32)), (0, .ref (a 0)), (1, .int p1)]) hx hb dX7_tricksOf_1 rfl hl (by decide) rfl (fun ls hl => ?_)
  refine lv_iconst (v := (0 : Int32)) hx hb dX7_tricksOf_2 (by decide) ?_
  refine lv_istore_n (lv' := [(3, .int (0 : Int32)), (2, .int (0 : Int32)), (0, .ref (a 0)), (1, .int p1)]) hx hb dX7_tricksOf_3 rfl hl (by decide) rfl (fun ls hl => ?_)
  have L4 : ∀ (n : Nat) (v1 : Int32) (v2 : Int32) (H : Heap) (locs : List Loc) (ls : Array Slot), va_P D vwCl (kM cI cZ a x) H → va_D A (kM cI cZ a x) → va_S A s.heap H locs → lv_has ls 4 [(0, .ref (a 0)), (1, .int p1), (2, .int v1), (3, .int v2)] → lp (fun _ _ => none : Int32 → Int32 → Option (Int32)) (f_X7_tricksOf_b4 x p1) n v1 v2 = some r → W p l e RM_X7_tricksOf s m (([.ref (a 0), .int p1] : List Value).toArray) below meth c H locs 0 0 (MQ below (QI0 D A (kM cI cZ a x) r) (([.ref (a 0), .int p1] : List Value).toArray) s 0 0 A) (F0 m 4 ls []) := by
    intro n
    induction n with
    | zero => intro v1 v2 H locs ls _ _ _ _ hf; cases (show (none : Option (Int32)) = some r from hf)
    | succ n ih4 =>
      intro v1 v2 H locs ls hP hD hS hl hf
      have hf : (f_X7_tricksOf_b4 x p1) (lp (fun _ _ => none : Int32 → Int32 → Option (Int32)) (f_X7_tricksOf_b4 x p1) n) v1 v2 = some r := hf
      generalize lp (fun _ _ => none : Int32 → Int32 → Option (Int32)) (f_X7_tricksOf_b4 x p1) n = rc4 at ih4 hf
      unfold f_X7_tricksOf_b4 at hf
      refine lv_iload_n hx hb dX7_tricksOf_4 rfl (lv_at hl 3 rfl) ?_
      refine lv_aload_n hx hb dX7_tricksOf_5 rfl (lv_at hl 0 rfl) ?_
      refine va_get (D := D) (ci := 7) (v := .int (x 0 13)) (C := RX7) (T := TX7) (N := 32) hx hb hG inG7 hown hK hP 0 at_M_0_0 rfl 13 (by decide) (hG _ g_577) (fun _ h9 => h9) rfl dX7_tricksOf_6 ?_
      refine lv_icmp_ge (tgt := 40) hx hb dX7_tricksOf_9 (by decide) (fun cc9 => ?_) (fun cc9 => ?_)
      · have hf := if_t cc9 hf
        refine lv_iload_n hx hb dX7_tricksOf_40 rfl (lv_at hl 2 rfl) ?_
        exact W.iret (v := v1) hx hb hr (fun t ht hW => ⟨⟨v1, (), rfl, Option.some.inj hf, by rw [ht]; exact hP, hD⟩, hS.F ht⟩) hS.2.2 dX7_tricksOf_41
      · have hf := if_f cc9 hf
        refine lv_iload_n hx hb dX7_tricksOf_12 rfl (lv_at hl 2 rfl) ?_
        refine lv_aload_n hx hb dX7_tricksOf_13 rfl (lv_at hl 0 rfl) ?_
        refine va_get (D := D) (ci := 7) (v := .ref (a 8)) (C := RX7) (T := TX7) (N := 32) hx hb hG inG7 hown hK hP 0 at_M_0_0 rfl 14 (by decide) (hG _ g_578) (fun _ h9 => h9) rfl dX7_tricksOf_14 ?_
        refine lv_iconst (v := (3 : Int32)) hx hb dX7_tricksOf_17 (by decide) ?_
        refine lv_iload_n hx hb dX7_tricksOf_18 rfl (lv_at hl 3 rfl) ?_
        refine lv_imul hx hb dX7_tricksOf_19 ?_
        obtain ⟨hb20, hf⟩ := gd hf
        refine va_iald (cA := cI) (n := 12) (f := x 8) hx hb hK hP 8 0 at_M_0_8 rfl (inb_in hb20) dX7_tricksOf_20 ?_
        refine lv_iload_n hx hb dX7_tricksOf_21 rfl (lv_at hl 1 rfl) ?_
        have J32 : ∀ (v3 : Int32) (H : Heap) (locs : List Loc) (ls : Array Slot), va_P D vwCl (kM cI cZ a x) H → va_D A (kM cI cZ a x) → va_S A s.heap H locs → lv_has ls 4 [(0, .ref (a 0)), (1, .int p1), (3, .int v2)] → f_X7_tricksOf_j32 rc4 v1 v2 v3 = some r → W p l e RM_X7_tricksOf s m (([.ref (a 0), .int p1] : List Value).toArray) below meth c H locs 0 0 (MQ below (QI0 D A (kM cI cZ a x) r) (([.ref (a 0), .int p1] : List Value).toArray) s 0 0 A) (F0 m 32 ls [.int v3, .int v1]) := by
          intro v3 H locs ls hP hD hS hl hf
          unfold f_X7_tricksOf_j32 at hf
          refine lv_ior hx hb dX7_tricksOf_32 ?_
          refine lv_topi (fun v4 ev4 => ?_)
          have hf := nm_x ev4 hf
          refine lv_istore_n (lv' := [(2, .int v4), (0, .ref (a 0)), (1, .int p1), (3, .int v2)]) hx hb dX7_tricksOf_33 rfl hl (by decide) rfl (fun ls hl => ?_)
          obtain ⟨v5, ev5⟩ : ∃ y : Int32, y = (v2 + (1 : Int32)) := ⟨_, rfl⟩
          have hf := nm_x ev5 hf
          refine lv_iinc (v := v5) (lv' := [(3, .int v5), (2, .int v4), (0, .ref (a 0)), (1, .int p1)]) hx hb dX7_tricksOf_34 hl (k := 3) rfl (by rw [ev5]; rfl) (by decide) rfl (fun ls hl => ?_)
          refine lv_goto (tgt := 4) hx hb dX7_tricksOf_37 (by decide) ?_
          exact ih4 v4 v5 _ _ _ hP hD hS (lv_sub hl [2, 3, 1, 0] rfl) hf
        refine lv_icmp_ne (tgt := 31) hx hb dX7_tricksOf_22 (by decide) (fun cc22 => ?_) (fun cc22 => ?_)
        · have hf := if_f cc22 hf
          refine lv_iconst (v := (0 : Int32)) hx hb dX7_tricksOf_31 (by decide) ?_
          exact J32 (0 : Int32) _ _ _ hP hD hS (lv_sub hl [0, 1, 3] rfl) hf
        · have hf := if_t cc22 hf
          refine lv_iconst (v := (1 : Int32)) hx hb dX7_tricksOf_25 (by decide) ?_
          refine lv_iload_n hx hb dX7_tricksOf_26 rfl (lv_at hl 3 rfl) ?_
          refine lv_ishl hx hb dX7_tricksOf_27 ?_
          refine lv_goto (tgt := 32) hx hb dX7_tricksOf_28 (by decide) ?_
          exact J32 ((1 : Int32) <<< (v2 &&& 31)) _ _ _ hP hD hS (lv_sub hl [0, 1, 3] rfl) hf
  exact L4 FU (0 : Int32) (0 : Int32) _ _ _ hP hD hS (lv_sub hl [2, 3, 1, 0] rfl) hf
def f_X7_task (x : HC) (p1 : Int32) (p2 : Int32) : Option (Int32) := bd (f_X7_isTask x p1) (fun (q1 : Int32) => (if q1 = 0 then some (-1000000001 : Int32) else bd (f_X7_in (Int32.toInt64 p2) (0 : Int64) (3 : Int64)) (fun (q2 : Int32) => (if q2 = 0 then (if p2 = (4 : Int32) then bd (f_X7_tricksOf x p1) (fun (q3 : Int32) => some q3) else some (-1000000002 : Int32)) else (if inb (((4 : Int32) * p1) + p2) 24 then some (x 7 (Int32.toNatClampNeg (((4 : Int32) * p1) + p2))) else none)))))
abbrev RM_X7_task : Room := { frames := 2, cells := 0, slots := 0, locals := 46 }
set_option maxHeartbeats 4000000 in
set_option maxRecDepth 100000 in
theorem c_X7_task (l : Launch) (D : va_G) (cI cZ : ClassId) (a : Nat → Nat) (x : HC) (p1 : Int32) (p2 : Int32) (sz : Nat) {r : Int32} (hf : f_X7_task x p1 p2 = some r) : Met l yX7_task (wM yX7_task cX7_task 3 (some .int)) RM_X7_task (va_Pc [.ref (a 0), .int p1, .int p2] (pre D cI cZ (kM cI cZ a x) sz)) (QI0 D (va_A (kM cI cZ a x) sz) (kM cI cZ a x) r) 0 0 (va_A (kM cI cZ a x) sz) := by
  unfold f_X7_task at hf
  refine Met.ofW (cc := cX7_task) (maxL := 3) (ret := (some .int)) (by decide) rfl ?_
  intro p e s m args below meth c s₁ B hml hv
  obtain ⟨rfl, hsz, hP, hK, hD0, hnw⟩ := hv
  have hx := B.exec
  have hb := B.bytes
  have hr := B.returns
  have hts := atoms_spec (ws := wM yX7_task cX7_task 3 (some .int)) B.pre
  have hG : ∀ w ∈ GW, w.before (([.ref (a 0), .int p1, .int p2] : List Value).toArray) s = true := fun w h => hts w (List.mem_cons_of_mem _ h)
  have hown : s.vm.findClass RX7 = some m.cls := findClass_of_methodNamed B.named
  have hlocks := B.notSynchronized
  subst hsz
  have hD := hD0.self (sz := s.heap.size)
  generalize hAe : va_A (kM cI cZ a x) s.heap.size = A at hD ⊢
  have hA : ∀ q : Nat, s.heap.size ≤ q → A q := fun q h => by rw [← hAe]; exact Or.inr h
  have hS : va_S A s.heap s.heap [] := va_S.rf
  have hl := lv_entry ([.ref (a 0), .int p1, .int p2]) (n := 3) (Nat.le_of_ble_eq_true rfl)
  rw [lg_entry_eq]
  generalize (lg_sl ([.ref (a 0), .int p1, .int p2]) ++ List.replicate (3 - (lg_sl ([.ref (a 0), .int p1, .int p2])).length) Slot.unset).toArray = ls at hl ⊢
  have hl : lv_has ls 3 [(0, .ref (a 0)), (1, .int p1), (2, .int p2)] := hl
  show W p l e RM_X7_task s m (([.ref (a 0), .int p1, .int p2] : List Value).toArray) below meth c s.heap [] 0 0 (MQ below (QI0 D A (kM cI cZ a x) r) (([.ref (a 0), .int p1, .int p2] : List Value).toArray) s 0 0 A) (F0 m 0 ls [])
  refine lv_aload_n hx hb dX7_task_0 rfl (lv_at hl 0 rfl) ?_
  refine lv_iload_n hx hb dX7_task_1 rfl (lv_at hl 1 rfl) ?_
  obtain ⟨q1, hq1, hf⟩ := bd_x hf
  have hFc := freeS hD hS hA
  refine va_calli (va_runV (As := [.int p1]) (rest := []) ⟨hx, hb, hml, hown, hG⟩ (c_X7_isTask l D cI cZ a x p1 s.heap.size hq1) (cwV 1 hG (gV g_701 g_702 g_52 g_77 g_703) rfl rfl rfl (by decide +kernel) ⟨Nat.le_of_ble_eq_true rfl, Nat.le_of_ble_eq_true rfl⟩) ⟨pre_blind, va_recv hK hP (ci := 7) (q0 := 0) rfl rfl, fun U hU hW => ⟨rfl, pre_of hP hK hD hnw hU hW⟩⟩ rfl rfl hl.1 rfl (lv_room (Nat.le_of_ble_eq_true rfl)) dX7_task_2 ⟨Nat.le_of_ble_eq_true rfl, Nat.le_of_ble_eq_true rfl⟩) hS (fun q _ h => hFc q h) hFc (fun v u t H locs ht hvm hw hB hz1 hk1 hS => ?_)
  have hw := hw.symm; subst hw
  obtain ⟨hP1, hD1⟩ := hB
  rw [ht] at hP1
  have hP := hP1
  have hD := hD1.weaken (fun _ q _ h => hFc q.1 h)
  refine lv_if_ne (tgt := 13) hx hb dX7_task_5 (by decide) (fun cc5 => ?_) (fun cc5 => ?_)
  · have hf := if_f cc5 hf
    refine lv_iload_n hx hb dX7_task_13 rfl (lv_at hl 2 rfl) ?_
    refine lv_i2l hx hb dX7_task_14 rfl ?_
    refine lv_lconst (v := (0 : Int64)) hx hb dX7_task_15 (by decide) ?_
    refine lv_ldc2 hx hb hown (hG _ g_704) dX7_task_16 ?_
    obtain ⟨q2, hq2, hf⟩ := bd_x hf
    have hFc := va_free (wc := []) hD hS hA [] rfl
    refine va_calli (va_runS (As := [.long (Int32.toInt64 p2), .long (0 : Int64), .long (3 : Int64)]) (rest := []) ⟨hx, hb, hml, hown, hG⟩ (c_X7_in l D cI cZ (Int32.toInt64 p2) (0 : Int64) (3 : Int64) H.size hq2) (cwS 3 hG (gS g_602 g_603 g_77 g_604) rfl rfl rfl (by decide +kernel) ⟨Nat.le_of_ble_eq_true rfl, Nat.le_of_ble_eq_true rfl⟩) ⟨pre_blind, fun U hU hW => ⟨rfl, pre_of P_nil hK D_nil hnw hU hW⟩⟩ rfl rfl hl.1 rfl (lv_room (Nat.le_of_ble_eq_true rfl)) dX7_task_19 ⟨Nat.le_of_ble_eq_true rfl, Nat.le_of_ble_eq_true rfl⟩) hS (fun q _ h => hFc q h) hFc (fun v u t H locs ht hvm hw hB hz1 hk1 hS => ?_)
    have hw := hw.symm; subst hw
    obtain ⟨hP1, hD1⟩ := hB
    rw [ht] at hP1
    obtain ⟨hP, hD⟩ := back hP hD [] rfl rfl hk1 hFc hP1 hD1
    refine lv_if_eq (tgt := 38) hx hb dX7_task_22 (by decide) (fun cc22 => ?_) (fun cc22 => ?_)
    · have hf := if_t cc22 hf
      refine lv_iload_n hx hb dX7_task_38 rfl (lv_at hl 2 rfl) ?_
      refine lv_iconst (v := (4 : Int32)) hx hb dX7_task_39 (by decide) ?_
      refine lv_icmp_ne (tgt := 51) hx hb dX7_task_40 (by decide) (fun cc40 => ?_) (fun cc40 => ?_)
      · have hf := if_f cc40 hf
        refine lv_ldc hx hb hown (hG _ g_605) dX7_task_51 ?_
        exact W.iret (v := (-1000000002 : Int32)) hx hb hr (fun t ht hW => ⟨⟨(-1000000002 : Int32), (), rfl, Option.some.inj hf, by rw [ht]; exact hP, hD⟩, hS.F ht⟩) hS.2.2 dX7_task_53
      · have hf := if_t cc40 hf
        refine lv_aload_n hx hb dX7_task_43 rfl (lv_at hl 0 rfl) ?_
        refine lv_iload_n hx hb dX7_task_44 rfl (lv_at hl 1 rfl) ?_
        obtain ⟨q3, hq3, hf⟩ := bd_x hf
        have hFc := freeS hD hS hA
        refine va_calli (va_runV (As := [.int p1]) (rest := []) ⟨hx, hb, hml, hown, hG⟩ (c_X7_tricksOf l D cI cZ a x p1 H.size hq3) (cwV 1 hG (gV g_705 g_706 g_53 g_77 g_707) rfl rfl rfl (by decide +kernel) ⟨Nat.le_of_ble_eq_true rfl, Nat.le_of_ble_eq_true rfl⟩) ⟨pre_blind, va_recv hK hP (ci := 7) (q0 := 0) rfl rfl, fun U hU hW => ⟨rfl, pre_of hP hK hD hnw hU hW⟩⟩ rfl rfl hl.1 rfl (lv_room (Nat.le_of_ble_eq_true rfl)) dX7_task_45 ⟨Nat.le_of_ble_eq_true rfl, Nat.le_of_ble_eq_true rfl⟩) hS (fun q _ h => hFc q h) hFc (fun v u t H locs ht hvm hw hB hz1 hk1 hS => ?_)
        have hw := hw.symm; subst hw
        obtain ⟨hP1, hD1⟩ := hB
        rw [ht] at hP1
        have hP := hP1
        have hD := hD1.weaken (fun _ q _ h => hFc q.1 h)
        refine lv_goto (tgt := 53) hx hb dX7_task_48 (by decide) ?_
        exact W.iret (v := q3) hx hb hr (fun t ht hW => ⟨⟨q3, (), rfl, Option.some.inj hf, by rw [ht]; exact hP, hD⟩, hS.F ht⟩) hS.2.2 dX7_task_53
    · have hf := if_f cc22 hf
      refine lv_aload_n hx hb dX7_task_25 rfl (lv_at hl 0 rfl) ?_
      refine va_get (D := D) (ci := 7) (v := .ref (a 7)) (C := RX7) (T := TX7) (N := 32) hx hb hG inG7 hown hK hP 0 at_M_0_0 rfl 12 (by decide) (hG _ g_576) (fun _ h9 => h9) rfl dX7_task_26 ?_
      refine lv_iconst (v := (4 : Int32)) hx hb dX7_task_29 (by decide) ?_
      refine lv_iload_n hx hb dX7_task_30 rfl (lv_at hl 1 rfl) ?_
      refine lv_imul hx hb dX7_task_31 ?_
      refine lv_iload_n hx hb dX7_task_32 rfl (lv_at hl 2 rfl) ?_
      refine lv_iadd hx hb dX7_task_33 ?_
      obtain ⟨hb34, hf⟩ := gd hf
      refine va_iald (cA := cI) (n := 24) (f := x 7) hx hb hK hP 7 0 at_M_0_7 rfl (inb_in hb34) dX7_task_34 ?_
      refine lv_goto (tgt := 53) hx hb dX7_task_35 (by decide) ?_
      exact W.iret (v := (x 7 (Int32.toNatClampNeg (((4 : Int32) * p1) + p2)))) hx hb hr (fun t ht hW => ⟨⟨(x 7 (Int32.toNatClampNeg (((4 : Int32) * p1) + p2))), (), rfl, Option.some.inj hf, by rw [ht]; exact hP, hD⟩, hS.F ht⟩) hS.2.2 dX7_task_53
  · have hf := if_t cc5 hf
    refine lv_ldc hx hb hown (hG _ g_676) dX7_task_8 ?_
    refine lv_goto (tgt := 53) hx hb dX7_task_10 (by decide) ?_
    exact W.iret (v := (-1000000001 : Int32)) hx hb hr (fun t ht hW => ⟨⟨(-1000000001 : Int32), (), rfl, Option.some.inj hf, by rw [ht]; exact hP, hD⟩, hS.F ht⟩) hS.2.2 dX7_task_53
def f_X7_trick (x : HC) (p1 : Int32) (p2 : Int32) : Option (Int32) := bd (f_X7_in (Int32.toInt64 p1) (0 : Int64) (Int32.toInt64 ((x 0 13) - (1 : Int32)))) (fun (q1 : Int32) => (if q1 = 0 then some (-1000000001 : Int32) else bd (f_X7_in (Int32.toInt64 p2) (0 : Int64) (2 : Int64)) (fun (q2 : Int32) => (if q2 = 0 then some (-1000000002 : Int32) else (if inb (((3 : Int32) * p1) + p2) 12 then some (x 8 (Int32.toNatClampNeg (((3 : Int32) * p1) + p2))) else none)))))
abbrev RM_X7_trick : Room := { frames := 1, cells := 0, slots := 0, locals := 25 }
set_option maxHeartbeats 4000000 in
set_option maxRecDepth 100000 in
theorem c_X7_trick (l : Launch) (D : va_G) (cI cZ : ClassId) (a : Nat → Nat) (x : HC) (p1 : Int32) (p2 : Int32) (sz : Nat) {r : Int32} (hf : f_X7_trick x p1 p2 = some r) : Met l yX7_trick (wM yX7_trick cX7_trick 3 (some .int)) RM_X7_trick (va_Pc [.ref (a 0), .int p1, .int p2] (pre D cI cZ (kM cI cZ a x) sz)) (QI0 D (va_A (kM cI cZ a x) sz) (kM cI cZ a x) r) 0 0 (va_A (kM cI cZ a x) sz) := by
  unfold f_X7_trick at hf
  refine Met.ofW (cc := cX7_trick) (maxL := 3) (ret := (some .int)) (by decide) rfl ?_
  intro p e s m args below meth c s₁ B hml hv
  obtain ⟨rfl, hsz, hP, hK, hD0, hnw⟩ := hv
  have hx := B.exec
  have hb := B.bytes
  have hr := B.returns
  have hts := atoms_spec (ws := wM yX7_trick cX7_trick 3 (some .int)) B.pre
  have hG : ∀ w ∈ GW, w.before (([.ref (a 0), .int p1, .int p2] : List Value).toArray) s = true := fun w h => hts w (List.mem_cons_of_mem _ h)
  have hown : s.vm.findClass RX7 = some m.cls := findClass_of_methodNamed B.named
  have hlocks := B.notSynchronized
  subst hsz
  have hD := hD0.self (sz := s.heap.size)
  generalize hAe : va_A (kM cI cZ a x) s.heap.size = A at hD ⊢
  have hA : ∀ q : Nat, s.heap.size ≤ q → A q := fun q h => by rw [← hAe]; exact Or.inr h
  have hS : va_S A s.heap s.heap [] := va_S.rf
  have hl := lv_entry ([.ref (a 0), .int p1, .int p2]) (n := 3) (Nat.le_of_ble_eq_true rfl)
  rw [lg_entry_eq]
  generalize (lg_sl ([.ref (a 0), .int p1, .int p2]) ++ List.replicate (3 - (lg_sl ([.ref (a 0), .int p1, .int p2])).length) Slot.unset).toArray = ls at hl ⊢
  have hl : lv_has ls 3 [(0, .ref (a 0)), (1, .int p1), (2, .int p2)] := hl
  show W p l e RM_X7_trick s m (([.ref (a 0), .int p1, .int p2] : List Value).toArray) below meth c s.heap [] 0 0 (MQ below (QI0 D A (kM cI cZ a x) r) (([.ref (a 0), .int p1, .int p2] : List Value).toArray) s 0 0 A) (F0 m 0 ls [])
  refine lv_iload_n hx hb dX7_trick_0 rfl (lv_at hl 1 rfl) ?_
  refine lv_i2l hx hb dX7_trick_1 rfl ?_
  refine lv_lconst (v := (0 : Int64)) hx hb dX7_trick_2 (by decide) ?_
  refine lv_aload_n hx hb dX7_trick_3 rfl (lv_at hl 0 rfl) ?_
  refine va_get (D := D) (ci := 7) (v := .int (x 0 13)) (C := RX7) (T := TX7) (N := 32) hx hb hG inG7 hown hK hP 0 at_M_0_0 rfl 13 (by decide) (hG _ g_577) (fun _ h9 => h9) rfl dX7_trick_4 ?_
  refine lv_iconst (v := (1 : Int32)) hx hb dX7_trick_7 (by decide) ?_
  refine lv_isub hx hb dX7_trick_8 ?_
  refine lv_i2l hx hb dX7_trick_9 rfl ?_
  obtain ⟨q1, hq1, hf⟩ := bd_x hf
  have hFc := va_free (wc := []) hD hS hA [] rfl
  refine va_calli (va_runS (As := [.long (Int32.toInt64 p1), .long (0 : Int64), .long (Int32.toInt64 ((x 0 13) - (1 : Int32)))]) (rest := []) ⟨hx, hb, hml, hown, hG⟩ (c_X7_in l D cI cZ (Int32.toInt64 p1) (0 : Int64) (Int32.toInt64 ((x 0 13) - (1 : Int32))) s.heap.size hq1) (cwS 3 hG (gS g_602 g_603 g_77 g_604) rfl rfl rfl (by decide +kernel) ⟨Nat.le_of_ble_eq_true rfl, Nat.le_of_ble_eq_true rfl⟩) ⟨pre_blind, fun U hU hW => ⟨rfl, pre_of P_nil hK D_nil hnw hU hW⟩⟩ rfl rfl hl.1 rfl (lv_room (Nat.le_of_ble_eq_true rfl)) dX7_trick_10 ⟨Nat.le_of_ble_eq_true rfl, Nat.le_of_ble_eq_true rfl⟩) hS (fun q _ h => hFc q h) hFc (fun v u t H locs ht hvm hw hB hz1 hk1 hS => ?_)
  have hw := hw.symm; subst hw
  obtain ⟨hP1, hD1⟩ := hB
  rw [ht] at hP1
  obtain ⟨hP, hD⟩ := back hP hD [] rfl rfl hk1 hFc hP1 hD1
  refine lv_if_ne (tgt := 21) hx hb dX7_trick_13 (by decide) (fun cc13 => ?_) (fun cc13 => ?_)
  · have hf := if_f cc13 hf
    refine lv_iload_n hx hb dX7_trick_21 rfl (lv_at hl 2 rfl) ?_
    refine lv_i2l hx hb dX7_trick_22 rfl ?_
    refine lv_lconst (v := (0 : Int64)) hx hb dX7_trick_23 (by decide) ?_
    refine lv_ldc2 hx hb hown (hG _ g_712) dX7_trick_24 ?_
    obtain ⟨q2, hq2, hf⟩ := bd_x hf
    have hFc := va_free (wc := []) hD hS hA [] rfl
    refine va_calli (va_runS (As := [.long (Int32.toInt64 p2), .long (0 : Int64), .long (2 : Int64)]) (rest := []) ⟨hx, hb, hml, hown, hG⟩ (c_X7_in l D cI cZ (Int32.toInt64 p2) (0 : Int64) (2 : Int64) H.size hq2) (cwS 3 hG (gS g_602 g_603 g_77 g_604) rfl rfl rfl (by decide +kernel) ⟨Nat.le_of_ble_eq_true rfl, Nat.le_of_ble_eq_true rfl⟩) ⟨pre_blind, fun U hU hW => ⟨rfl, pre_of P_nil hK D_nil hnw hU hW⟩⟩ rfl rfl hl.1 rfl (lv_room (Nat.le_of_ble_eq_true rfl)) dX7_trick_27 ⟨Nat.le_of_ble_eq_true rfl, Nat.le_of_ble_eq_true rfl⟩) hS (fun q _ h => hFc q h) hFc (fun v u t H locs ht hvm hw hB hz1 hk1 hS => ?_)
    have hw := hw.symm; subst hw
    obtain ⟨hP1, hD1⟩ := hB
    rw [ht] at hP1
    obtain ⟨hP, hD⟩ := back hP hD [] rfl rfl hk1 hFc hP1 hD1
    refine lv_if_eq (tgt := 46) hx hb dX7_trick_30 (by decide) (fun cc30 => ?_) (fun cc30 => ?_)
    · have hf := if_t cc30 hf
      refine lv_ldc hx hb hown (hG _ g_605) dX7_trick_46 ?_
      exact W.iret (v := (-1000000002 : Int32)) hx hb hr (fun t ht hW => ⟨⟨(-1000000002 : Int32), (), rfl, Option.some.inj hf, by rw [ht]; exact hP, hD⟩, hS.F ht⟩) hS.2.2 dX7_trick_48
    · have hf := if_f cc30 hf
      refine lv_aload_n hx hb dX7_trick_33 rfl (lv_at hl 0 rfl) ?_
      refine va_get (D := D) (ci := 7) (v := .ref (a 8)) (C := RX7) (T := TX7) (N := 32) hx hb hG inG7 hown hK hP 0 at_M_0_0 rfl 14 (by decide) (hG _ g_578) (fun _ h9 => h9) rfl dX7_trick_34 ?_
      refine lv_iconst (v := (3 : Int32)) hx hb dX7_trick_37 (by decide) ?_
      refine lv_iload_n hx hb dX7_trick_38 rfl (lv_at hl 1 rfl) ?_
      refine lv_imul hx hb dX7_trick_39 ?_
      refine lv_iload_n hx hb dX7_trick_40 rfl (lv_at hl 2 rfl) ?_
      refine lv_iadd hx hb dX7_trick_41 ?_
      obtain ⟨hb42, hf⟩ := gd hf
      refine va_iald (cA := cI) (n := 12) (f := x 8) hx hb hK hP 8 0 at_M_0_8 rfl (inb_in hb42) dX7_trick_42 ?_
      refine lv_goto (tgt := 48) hx hb dX7_trick_43 (by decide) ?_
      exact W.iret (v := (x 8 (Int32.toNatClampNeg (((3 : Int32) * p1) + p2)))) hx hb hr (fun t ht hW => ⟨⟨(x 8 (Int32.toNatClampNeg (((3 : Int32) * p1) + p2))), (), rfl, Option.some.inj hf, by rw [ht]; exact hP, hD⟩, hS.F ht⟩) hS.2.2 dX7_trick_48
  · have hf := if_t cc13 hf
    refine lv_ldc hx hb hown (hG _ g_676) dX7_trick_16 ?_
    refine lv_goto (tgt := 48) hx hb dX7_trick_18 (by decide) ?_
    exact W.iret (v := (-1000000001 : Int32)) hx hb hr (fun t ht hW => ⟨⟨(-1000000001 : Int32), (), rfl, Option.some.inj hf, by rw [ht]; exact hP, hD⟩, hS.F ht⟩) hS.2.2 dX7_trick_48
def f_X7_doRead (x : HC) (p1 : Int32) (p2 : Int32) : Option (HC) := bd (f_X7_thought x p1 p2) (fun (q1 : Int32) => bd (f_X7_readsNow x p2) (fun (q2 : Int32) => (if q1 ≤ q2 then bd (f_X7_readsNow x p2) (fun (q3 : Int32) => bd (f_X7_think x p1 p2 q3) (fun (q4 : HC) => some q4)) else bd (f_X7_thought x p1 p2) (fun (q5 : Int32) => bd (f_X7_think x p1 p2 q5) (fun (q6 : HC) => some q6)))))
abbrev RM_X7_doRead : Room := { frames := 2, cells := 0, slots := 0, locals := 44 }
set_option maxHeartbeats 4000000 in
set_option maxRecDepth 100000 in
theorem c_X7_doRead (l : Launch) (D : va_G) (cI cZ : ClassId) (a : Nat → Nat) (x : HC) (p1 : Int32) (p2 : Int32) (sz : Nat) {r : HC} (hf : f_X7_doRead x p1 p2 = some r) : Met l yX7_doRead (wM yX7_doRead cX7_doRead 3 none) RM_X7_doRead (va_Pc [.ref (a 0), .int p1, .int p2] (pre D cI cZ (kM cI cZ a x) sz)) (QV D (va_A (kM cI cZ a x) sz) (fun (u : HC) => (kM cI cZ a u)) r) 0 0 (va_A (kM cI cZ a x) sz) := by
  unfold f_X7_doRead at hf
  refine Met.ofW (cc := cX7_doRead) (maxL := 3) (ret := none) (by decide) rfl ?_
  intro p e s m args below meth c s₁ B hml hv
  obtain ⟨rfl, hsz, hP, hK, hD0, hnw⟩ := hv
  have hx := B.exec
  have hb := B.bytes
  have hr := B.returns
  have hts := atoms_spec (ws := wM yX7_doRead cX7_doRead 3 none) B.pre
  have hG : ∀ w ∈ GW, w.before (([.ref (a 0), .int p1, .int p2] : List Value).toArray) s = true := fun w h => hts w (List.mem_cons_of_mem _ h)
  have hown : s.vm.findClass RX7 = some m.cls := findClass_of_methodNamed B.named
  have hlocks := B.notSynchronized
  subst hsz
  have hD := hD0.self (sz := s.heap.size)
  generalize hAe : va_A (kM cI cZ a x) s.heap.size = A at hD ⊢
  have hA : ∀ q : Nat, s.heap.size ≤ q → A q := fun q h => by rw [← hAe]; exact Or.inr h
  have hS : va_S A s.heap s.heap [] := va_S.rf
  have hl := lv_entry ([.ref (a 0), .int p1, .int p2]) (n := 3) (Nat.le_of_ble_eq_true rfl)
  rw [lg_entry_eq]
  generalize (lg_sl ([.ref (a 0), .int p1, .int p2]) ++ List.replicate (3 - (lg_sl ([.ref (a 0), .int p1, .int p2])).length) Slot.unset).toArray = ls at hl ⊢
  have hl : lv_has ls 3 [(0, .ref (a 0)), (1, .int p1), (2, .int p2)] := hl
  show W p l e RM_X7_doRead s m (([.ref (a 0), .int p1, .int p2] : List Value).toArray) below meth c s.heap [] 0 0 (MQ below (QV D A (fun (u : HC) => (kM cI cZ a u)) r) (([.ref (a 0), .int p1, .int p2] : List Value).toArray) s 0 0 A) (F0 m 0 ls [])
  refine lv_aload_n hx hb dX7_doRead_0 rfl (lv_at hl 0 rfl) ?_
  refine lv_iload_n hx hb dX7_doRead_1 rfl (lv_at hl 1 rfl) ?_
  refine lv_iload_n hx hb dX7_doRead_2 rfl (lv_at hl 2 rfl) ?_
  refine lv_aload_n hx hb dX7_doRead_3 rfl (lv_at hl 0 rfl) ?_
  refine lv_iload_n hx hb dX7_doRead_4 rfl (lv_at hl 1 rfl) ?_
  refine lv_iload_n hx hb dX7_doRead_5 rfl (lv_at hl 2 rfl) ?_
  obtain ⟨q1, hq1, hf⟩ := bd_x hf
  have hFc := freeS hD hS hA
  refine va_calli (va_runV (As := [.int p1, .int p2]) (rest := [.int p2, .int p1, .ref (a 0)]) ⟨hx, hb, hml, hown, hG⟩ (c_X7_thought l D cI cZ a x p1 p2 s.heap.size hq1) (cwV 2 hG (gV g_666 g_667 g_46 g_77 g_668) rfl rfl rfl (by decide +kernel) ⟨Nat.le_of_ble_eq_true rfl, Nat.le_of_ble_eq_true rfl⟩) ⟨pre_blind, va_recv hK hP (ci := 7) (q0 := 0) rfl rfl, fun U hU hW => ⟨rfl, pre_of hP hK hD hnw hU hW⟩⟩ rfl rfl hl.1 rfl (lv_room (Nat.le_of_ble_eq_true rfl)) dX7_doRead_6 ⟨Nat.le_of_ble_eq_true rfl, Nat.le_of_ble_eq_true rfl⟩) hS (fun q _ h => hFc q h) hFc (fun v u t H locs ht hvm hw hB hz1 hk1 hS => ?_)
  have hw := hw.symm; subst hw
  obtain ⟨hP1, hD1⟩ := hB
  rw [ht] at hP1
  have hP := hP1
  have hD := hD1.weaken (fun _ q _ h => hFc q.1 h)
  refine lv_aload_n hx hb dX7_doRead_9 rfl (lv_at hl 0 rfl) ?_
  refine lv_iload_n hx hb dX7_doRead_10 rfl (lv_at hl 2 rfl) ?_
  obtain ⟨q2, hq2, hf⟩ := bd_x hf
  have hFc := freeS hD hS hA
  refine va_calli (va_runV (As := [.int p2]) (rest := [.int q1, .int p2, .int p1, .ref (a 0)]) ⟨hx, hb, hml, hown, hG⟩ (c_X7_readsNow l D cI cZ a x p2 H.size hq2) (cwV 1 hG (gV g_677 g_678 g_48 g_77 g_679) rfl rfl rfl (by decide +kernel) ⟨Nat.le_of_ble_eq_true rfl, Nat.le_of_ble_eq_true rfl⟩) ⟨pre_blind, va_recv hK hP (ci := 7) (q0 := 0) rfl rfl, fun U hU hW => ⟨rfl, pre_of hP hK hD hnw hU hW⟩⟩ rfl rfl hl.1 rfl (lv_room (Nat.le_of_ble_eq_true rfl)) dX7_doRead_11 ⟨Nat.le_of_ble_eq_true rfl, Nat.le_of_ble_eq_true rfl⟩) hS (fun q _ h => hFc q h) hFc (fun v u t H locs ht hvm hw hB hz1 hk1 hS => ?_)
  have hw := hw.symm; subst hw
  obtain ⟨hP1, hD1⟩ := hB
  rw [ht] at hP1
  have hP := hP1
  have hD := hD1.weaken (fun _ q _ h => hFc q.1 h)
  refine lv_icmp_le (tgt := 26) hx hb dX7_doRead_14 (by decide) (fun cc14 => ?_) (fun cc14 => ?_)
  · have hf := if_t cc14 hf
    refine lv_aload_n hx hb dX7_doRead_26 rfl (lv_at hl 0 rfl) ?_
    refine lv_iload_n hx hb dX7_doRead_27 rfl (lv_at hl 2 rfl) ?_
    obtain ⟨q3, hq3, hf⟩ := bd_x hf
    have hFc := freeS hD hS hA
    refine va_calli (va_runV (As := [.int p2]) (rest := [.int p2, .int p1, .ref (a 0)]) ⟨hx, hb, hml, hown, hG⟩ (c_X7_readsNow l D cI cZ a x p2 H.size hq3) (cwV 1 hG (gV g_677 g_678 g_48 g_77 g_679) rfl rfl rfl (by decide +kernel) ⟨Nat.le_of_ble_eq_true rfl, Nat.le_of_ble_eq_true rfl⟩) ⟨pre_blind, va_recv hK hP (ci := 7) (q0 := 0) rfl rfl, fun U hU hW => ⟨rfl, pre_of hP hK hD hnw hU hW⟩⟩ rfl rfl hl.1 rfl (lv_room (Nat.le_of_ble_eq_true rfl)) dX7_doRead_28 ⟨Nat.le_of_ble_eq_true rfl, Nat.le_of_ble_eq_true rfl⟩) hS (fun q _ h => hFc q h) hFc (fun v u t H locs ht hvm hw hB hz1 hk1 hS => ?_)
    have hw := hw.symm; subst hw
    obtain ⟨hP1, hD1⟩ := hB
    rw [ht] at hP1
    have hP := hP1
    have hD := hD1.weaken (fun _ q _ h => hFc q.1 h)
    obtain ⟨q4, hq4, hf⟩ := bd_x hf
    have hFc := freeS hD hS hA
    refine va_callv (va_runV (As := [.int p1, .int p2, .int q3]) (rest := []) ⟨hx, hb, hml, hown, hG⟩ (c_X7_think l D cI cZ a x p1 p2 q3 H.size hq4) (cwV 3 hG (gV g_720 g_721 g_55 g_77 g_722) rfl rfl rfl (by decide +kernel) ⟨Nat.le_of_ble_eq_true rfl, Nat.le_of_ble_eq_true rfl⟩) ⟨pre_blind, va_recv hK hP (ci := 7) (q0 := 0) rfl rfl, fun U hU hW => ⟨rfl, pre_of hP hK hD hnw hU hW⟩⟩ rfl rfl hl.1 rfl (lv_room (Nat.le_of_ble_eq_true rfl)) dX7_doRead_31 ⟨Nat.le_of_ble_eq_true rfl, Nat.le_of_ble_eq_true rfl⟩) hS (fun q _ h => hFc q h) hFc (fun u t H locs ht hvm hw hB hz1 hk1 hS => ?_)
    have hw := hw.symm; subst hw
    obtain ⟨hP1, hD1⟩ := hB
    rw [ht] at hP1
    have hP := hP1
    have hD := hD1.weaken (fun _ q _ h => hFc q.1 h)
    exact W.vret hx hb hr (fun t ht hW => ⟨⟨q4, rfl, Option.some.inj hf, by rw [ht]; exact hP, hD⟩, hS.F ht⟩) hS.2.2 dX7_doRead_34
  · have hf := if_f cc14 hf
    refine lv_aload_n hx hb dX7_doRead_17 rfl (lv_at hl 0 rfl) ?_
    refine lv_iload_n hx hb dX7_doRead_18 rfl (lv_at hl 1 rfl) ?_
    refine lv_iload_n hx hb dX7_doRead_19 rfl (lv_at hl 2 rfl) ?_
    obtain ⟨q5, hq5, hf⟩ := bd_x hf
    have hFc := freeS hD hS hA
    refine va_calli (va_runV (As := [.int p1, .int p2]) (rest := [.int p2, .int p1, .ref (a 0)]) ⟨hx, hb, hml, hown, hG⟩ (c_X7_thought l D cI cZ a x p1 p2 H.size hq5) (cwV 2 hG (gV g_666 g_667 g_46 g_77 g_668) rfl rfl rfl (by decide +kernel) ⟨Nat.le_of_ble_eq_true rfl, Nat.le_of_ble_eq_true rfl⟩) ⟨pre_blind, va_recv hK hP (ci := 7) (q0 := 0) rfl rfl, fun U hU hW => ⟨rfl, pre_of hP hK hD hnw hU hW⟩⟩ rfl rfl hl.1 rfl (lv_room (Nat.le_of_ble_eq_true rfl)) dX7_doRead_20 ⟨Nat.le_of_ble_eq_true rfl, Nat.le_of_ble_eq_true rfl⟩) hS (fun q _ h => hFc q h) hFc (fun v u t H locs ht hvm hw hB hz1 hk1 hS => ?_)
    have hw := hw.symm; subst hw
    obtain ⟨hP1, hD1⟩ := hB
    rw [ht] at hP1
    have hP := hP1
    have hD := hD1.weaken (fun _ q _ h => hFc q.1 h)
    refine lv_goto (tgt := 31) hx hb dX7_doRead_23 (by decide) ?_
    obtain ⟨q6, hq6, hf⟩ := bd_x hf
    have hFc := freeS hD hS hA
    refine va_callv (va_runV (As := [.int p1, .int p2, .int q5]) (rest := []) ⟨hx, hb, hml, hown, hG⟩ (c_X7_think l D cI cZ a x p1 p2 q5 H.size hq6) (cwV 3 hG (gV g_720 g_721 g_55 g_77 g_722) rfl rfl rfl (by decide +kernel) ⟨Nat.le_of_ble_eq_true rfl, Nat.le_of_ble_eq_true rfl⟩) ⟨pre_blind, va_recv hK hP (ci := 7) (q0 := 0) rfl rfl, fun U hU hW => ⟨rfl, pre_of hP hK hD hnw hU hW⟩⟩ rfl rfl hl.1 rfl (lv_room (Nat.le_of_ble_eq_true rfl)) dX7_doRead_31 ⟨Nat.le_of_ble_eq_true rfl, Nat.le_of_ble_eq_true rfl⟩) hS (fun q _ h => hFc q h) hFc (fun u t H locs ht hvm hw hB hz1 hk1 hS => ?_)
    have hw := hw.symm; subst hw
    obtain ⟨hP1, hD1⟩ := hB
    rw [ht] at hP1
    have hP := hP1
    have hD := hD1.weaken (fun _ q _ h => hFc q.1 h)
    exact W.vret hx hb hr (fun t ht hW => ⟨⟨q6, rfl, Option.some.inj hf, by rw [ht]; exact hP, hD⟩, hS.F ht⟩) hS.2.2 dX7_doRead_34
def f_X7_read (x : HC) (p1 : Int32) (p2 : Int32) : Option (Int32 × HC) := bd (f_X7_isOne x p1) (fun (q1 : Int32) => (if q1 = 0 then some ((-1000000001 : Int32), x) else bd (f_X7_isFighter x p2) (fun (q2 : Int32) => (if q2 = 0 then some ((-1000000001 : Int32), x) else bd (f_X7_doRead x p1 p2) (fun (q3 : HC) => bd (f_X7_thought q3 p1 p2) (fun (q4 : Int32) => some (q4, q3)))))))
abbrev RM_X7_read : Room := { frames := 3, cells := 0, slots := 0, locals := 66 }
set_option maxHeartbeats 4000000 in
set_option maxRecDepth 100000 in
theorem c_X7_read (l : Launch) (D : va_G) (cI cZ : ClassId) (a : Nat → Nat) (x : HC) (p1 : Int32) (p2 : Int32) (sz : Nat) {r : Int32 × HC} (hf : f_X7_read x p1 p2 = some r) : Met l yX7_read (wM yX7_read cX7_read 3 (some .int)) RM_X7_read (va_Pc [.ref (a 0), .int p1, .int p2] (pre D cI cZ (kM cI cZ a x) sz)) (QI D (va_A (kM cI cZ a x) sz) (fun (u : HC) => (kM cI cZ a u)) r) 0 0 (va_A (kM cI cZ a x) sz) := by
  unfold f_X7_read at hf
  refine Met.ofW (cc := cX7_read) (maxL := 3) (ret := (some .int)) (by decide) rfl ?_
  intro p e s m args below meth c s₁ B hml hv
  obtain ⟨rfl, hsz, hP, hK, hD0, hnw⟩ := hv
  have hx := B.exec
  have hb := B.bytes
  have hr := B.returns
  have hts := atoms_spec (ws := wM yX7_read cX7_read 3 (some .int)) B.pre
  have hG : ∀ w ∈ GW, w.before (([.ref (a 0), .int p1, .int p2] : List Value).toArray) s = true := fun w h => hts w (List.mem_cons_of_mem _ h)
  have hown : s.vm.findClass RX7 = some m.cls := findClass_of_methodNamed B.named
  have hlocks := B.notSynchronized
  subst hsz
  have hD := hD0.self (sz := s.heap.size)
  generalize hAe : va_A (kM cI cZ a x) s.heap.size = A at hD ⊢
  have hA : ∀ q : Nat, s.heap.size ≤ q → A q := fun q h => by rw [← hAe]; exact Or.inr h
  have hS : va_S A s.heap s.heap [] := va_S.rf
  have hl := lv_entry ([.ref (a 0), .int p1, .int p2]) (n := 3) (Nat.le_of_ble_eq_true rfl)
  rw [lg_entry_eq]
  generalize (lg_sl ([.ref (a 0), .int p1, .int p2]) ++ List.replicate (3 - (lg_sl ([.ref (a 0), .int p1, .int p2])).length) Slot.unset).toArray = ls at hl ⊢
  have hl : lv_has ls 3 [(0, .ref (a 0)), (1, .int p1), (2, .int p2)] := hl
  show W p l e RM_X7_read s m (([.ref (a 0), .int p1, .int p2] : List Value).toArray) below meth c s.heap [] 0 0 (MQ below (QI D A (fun (u : HC) => (kM cI cZ a u)) r) (([.ref (a 0), .int p1, .int p2] : List Value).toArray) s 0 0 A) (F0 m 0 ls [])
  refine lv_aload_n hx hb dX7_read_0 rfl (lv_at hl 0 rfl) ?_
  refine lv_iload_n hx hb dX7_read_1 rfl (lv_at hl 1 rfl) ?_
  obtain ⟨q1, hq1, hf⟩ := bd_x hf
  have hFc := freeS hD hS hA
  refine va_calli (va_runV (As := [.int p1]) (rest := []) ⟨hx, hb, hml, hown, hG⟩ (c_X7_isOne l D cI cZ a x p1 s.heap.size hq1) (cwV 1 hG (gV g_690 g_691 g_51 g_77 g_692) rfl rfl rfl (by decide +kernel) ⟨Nat.le_of_ble_eq_true rfl, Nat.le_of_ble_eq_true rfl⟩) ⟨pre_blind, va_recv hK hP (ci := 7) (q0 := 0) rfl rfl, fun U hU hW => ⟨rfl, pre_of hP hK hD hnw hU hW⟩⟩ rfl rfl hl.1 rfl (lv_room (Nat.le_of_ble_eq_true rfl)) dX7_read_2 ⟨Nat.le_of_ble_eq_true rfl, Nat.le_of_ble_eq_true rfl⟩) hS (fun q _ h => hFc q h) hFc (fun v u t H locs ht hvm hw hB hz1 hk1 hS => ?_)
  have hw := hw.symm; subst hw
  obtain ⟨hP1, hD1⟩ := hB
  rw [ht] at hP1
  have hP := hP1
  have hD := hD1.weaken (fun _ q _ h => hFc q.1 h)
  refine lv_if_eq (tgt := 16) hx hb dX7_read_5 (by decide) (fun cc5 => ?_) (fun cc5 => ?_)
  · have hf := if_t cc5 hf
    refine lv_ldc hx hb hown (hG _ g_676) dX7_read_16 ?_
    exact W.iret (v := (-1000000001 : Int32)) hx hb hr (fun t ht hW => ⟨⟨(-1000000001 : Int32), x, rfl, ⟨pr_1 hf, pr_2 hf⟩, by rw [ht]; exact hP, hD⟩, hS.F ht⟩) hS.2.2 dX7_read_18
  · have hf := if_f cc5 hf
    refine lv_aload_n hx hb dX7_read_8 rfl (lv_at hl 0 rfl) ?_
    refine lv_iload_n hx hb dX7_read_9 rfl (lv_at hl 2 rfl) ?_
    obtain ⟨q2, hq2, hf⟩ := bd_x hf
    have hFc := freeS hD hS hA
    refine va_calli (va_runV (As := [.int p2]) (rest := []) ⟨hx, hb, hml, hown, hG⟩ (c_X7_isFighter l D cI cZ a x p2 H.size hq2) (cwV 1 hG (gV g_673 g_674 g_47 g_77 g_675) rfl rfl rfl (by decide +kernel) ⟨Nat.le_of_ble_eq_true rfl, Nat.le_of_ble_eq_true rfl⟩) ⟨pre_blind, va_recv hK hP (ci := 7) (q0 := 0) rfl rfl, fun U hU hW => ⟨rfl, pre_of hP hK hD hnw hU hW⟩⟩ rfl rfl hl.1 rfl (lv_room (Nat.le_of_ble_eq_true rfl)) dX7_read_10 ⟨Nat.le_of_ble_eq_true rfl, Nat.le_of_ble_eq_true rfl⟩) hS (fun q _ h => hFc q h) hFc (fun v u t H locs ht hvm hw hB hz1 hk1 hS => ?_)
    have hw := hw.symm; subst hw
    obtain ⟨hP1, hD1⟩ := hB
    rw [ht] at hP1
    have hP := hP1
    have hD := hD1.weaken (fun _ q _ h => hFc q.1 h)
    refine lv_if_ne (tgt := 19) hx hb dX7_read_13 (by decide) (fun cc13 => ?_) (fun cc13 => ?_)
    · have hf := if_f cc13 hf
      refine lv_aload_n hx hb dX7_read_19 rfl (lv_at hl 0 rfl) ?_
      refine lv_iload_n hx hb dX7_read_20 rfl (lv_at hl 1 rfl) ?_
      refine lv_iload_n hx hb dX7_read_21 rfl (lv_at hl 2 rfl) ?_
      obtain ⟨q3, hq3, hf⟩ := bd_x hf
      have hFc := freeS hD hS hA
      refine va_callv (va_runV (As := [.int p1, .int p2]) (rest := []) ⟨hx, hb, hml, hown, hG⟩ (c_X7_doRead l D cI cZ a x p1 p2 H.size hq3) (cwV 2 hG (gV g_717 g_718 g_54 g_77 g_719) rfl rfl rfl (by decide +kernel) ⟨Nat.le_of_ble_eq_true rfl, Nat.le_of_ble_eq_true rfl⟩) ⟨pre_blind, va_recv hK hP (ci := 7) (q0 := 0) rfl rfl, fun U hU hW => ⟨rfl, pre_of hP hK hD hnw hU hW⟩⟩ rfl rfl hl.1 rfl (lv_room (Nat.le_of_ble_eq_true rfl)) dX7_read_22 ⟨Nat.le_of_ble_eq_true rfl, Nat.le_of_ble_eq_true rfl⟩) hS (fun q _ h => hFc q h) hFc (fun u t H locs ht hvm hw hB hz1 hk1 hS => ?_)
      have hw := hw.symm; subst hw
      obtain ⟨hP1, hD1⟩ := hB
      rw [ht] at hP1
      have hP := hP1
      have hD := hD1.weaken (fun _ q _ h => hFc q.1 h)
      refine lv_aload_n hx hb dX7_read_25 rfl (lv_at hl 0 rfl) ?_
      refine lv_iload_n hx hb dX7_read_26 rfl (lv_at hl 1 rfl) ?_
      refine lv_iload_n hx hb dX7_read_27 rfl (lv_at hl 2 rfl) ?_
      obtain ⟨q4, hq4, hf⟩ := bd_x hf
      have hFc := freeS hD hS hA
      refine va_calli (va_runV (As := [.int p1, .int p2]) (rest := []) ⟨hx, hb, hml, hown, hG⟩ (c_X7_thought l D cI cZ a q3 p1 p2 H.size hq4) (cwV 2 hG (gV g_666 g_667 g_46 g_77 g_668) rfl rfl rfl (by decide +kernel) ⟨Nat.le_of_ble_eq_true rfl, Nat.le_of_ble_eq_true rfl⟩) ⟨pre_blind, va_recv hK hP (ci := 7) (q0 := 0) rfl rfl, fun U hU hW => ⟨rfl, pre_of hP hK hD hnw hU hW⟩⟩ rfl rfl hl.1 rfl (lv_room (Nat.le_of_ble_eq_true rfl)) dX7_read_28 ⟨Nat.le_of_ble_eq_true rfl, Nat.le_of_ble_eq_true rfl⟩) hS (fun q _ h => hFc q h) hFc (fun v u t H locs ht hvm hw hB hz1 hk1 hS => ?_)
      have hw := hw.symm; subst hw
      obtain ⟨hP1, hD1⟩ := hB
      rw [ht] at hP1
      have hP := hP1
      have hD := hD1.weaken (fun _ q _ h => hFc q.1 h)
      exact W.iret (v := q4) hx hb hr (fun t ht hW => ⟨⟨q4, q3, rfl, ⟨pr_1 hf, pr_2 hf⟩, by rw [ht]; exact hP, hD⟩, hS.F ht⟩) hS.2.2 dX7_read_31
    · have hf := if_t cc13 hf
      refine lv_ldc hx hb hown (hG _ g_676) dX7_read_16 ?_
      exact W.iret (v := (-1000000001 : Int32)) hx hb hr (fun t ht hW => ⟨⟨(-1000000001 : Int32), x, rfl, ⟨pr_1 hf, pr_2 hf⟩, by rw [ht]; exact hP, hD⟩, hS.F ht⟩) hS.2.2 dX7_read_18
