theorem sub_C_PLS_8_2_4 {cI : ClassId} {a : Nat → Nat → Nat} {C : CC} : [48, 49, 50, 4, 5, 6, 7, 8, 9, 10, 11, 12, 13, 14, 15, 16, 30, 31, 32, 33, 34].map (fun i => (cW cI a C)[i]?) = (kP cI (a 8) (C 8) ++ (kL cI (a 2) (C 2) ++ (kS cI (a 4) (C 4)))).map some := rfl
theorem pc_C_8 {cI : ClassId} {a : Nat → Nat → Nat} {C : CC} {u : HC} : putL (cW cI a C) [48, 49, 50] (kP cI (a 8) u) = cW cI a (va_up C 8 u) := rfl
theorem pcs_C_4 {cI : ClassId} {a : Nat → Nat → Nat} {C : CC} {u : HC} (h : C 4 = u) : putL (cW cI a C) [30, 31, 32, 33, 34] (kS cI (a 4) u) = cW cI a C := by subst h; rfl
theorem put_C_PLS_8_2_4_0 {cI : ClassId} {a : Nat → Nat → Nat} {C : CC} {u0 : HC} : putL (cW cI a C) [48, 49, 50, 4, 5, 6, 7, 8, 9, 10, 11, 12, 13, 14, 15, 16, 30, 31, 32, 33, 34] (kP cI (a 8) u0 ++ (kL cI (a 2) (C 2) ++ (kS cI (a 4) (C 4)))) = (cW cI a (va_up C 8 u0)) := ((putL_app (is1 := [48, 49, 50]) (is2 := [4, 5, 6, 7, 8, 9, 10, 11, 12, 13, 14, 15, 16, 30, 31, 32, 33, 34]) (w2 := (kL cI (a 2) (C 2) ++ (kS cI (a 4) (C 4)))) rfl).trans ((congrArg (fun z => putL z [4, 5, 6, 7, 8, 9, 10, 11, 12, 13, 14, 15, 16, 30, 31, 32, 33, 34] (kL cI (a 2) (C 2) ++ (kS cI (a 4) (C 4)))) pc_C_8).trans ((putL_app (is1 := [4, 5, 6, 7, 8, 9, 10, 11, 12, 13, 14, 15, 16]) (is2 := [30, 31, 32, 33, 34]) (w2 := (kS cI (a 4) (C 4))) rfl).trans ((congrArg (fun z => putL z [30, 31, 32, 33, 34] (kS cI (a 4) (C 4))) (pcs_C_2 rfl)).trans (pcs_C_4 rfl)))))
theorem sub_C_PL_8_2 {cI : ClassId} {a : Nat → Nat → Nat} {C : CC} : [48, 49, 50, 4, 5, 6, 7, 8, 9, 10, 11, 12, 13, 14, 15, 16].map (fun i => (cW cI a C)[i]?) = (kP cI (a 8) (C 8) ++ (kL cI (a 2) (C 2))).map some := rfl
theorem pcs_C_8 {cI : ClassId} {a : Nat → Nat → Nat} {C : CC} {u : HC} (h : C 8 = u) : putL (cW cI a C) [48, 49, 50] (kP cI (a 8) u) = cW cI a C := by subst h; rfl
theorem put_C_PL_8_2_ {cI : ClassId} {a : Nat → Nat → Nat} {C : CC}  : putL (cW cI a C) [48, 49, 50, 4, 5, 6, 7, 8, 9, 10, 11, 12, 13, 14, 15, 16] (kP cI (a 8) (C 8) ++ (kL cI (a 2) (C 2))) = (cW cI a C) := ((putL_app (is1 := [48, 49, 50]) (is2 := [4, 5, 6, 7, 8, 9, 10, 11, 12, 13, 14, 15, 16]) (w2 := (kL cI (a 2) (C 2))) rfl).trans ((congrArg (fun z => putL z [4, 5, 6, 7, 8, 9, 10, 11, 12, 13, 14, 15, 16] (kL cI (a 2) (C 2))) (pcs_C_8 rfl)).trans (pcs_C_2 rfl)))
theorem at_C_8_0 {cI : ClassId} {a : Nat → Nat → Nat} {C : CC} : (cW cI a C)[48]? = some (a 8 0, .inr (3, [.ref (a 8 1), .ref (a 8 2), .int (C 8 0 2), .int (C 8 0 3)])) := rfl
theorem at_C_8_2 {cI : ClassId} {a : Nat → Nat → Nat} {C : CC} : (cW cI a C)[50]? = some (a 8 2, .inl (cI, 6, .inl (C 8 2))) := rfl
theorem at_C_8_1 {cI : ClassId} {a : Nat → Nat → Nat} {C : CC} : (cW cI a C)[49]? = some (a 8 1, .inl (cI, 6, .inl (C 8 1))) := rfl
theorem sub_C_WLS_9_2_4 {cI : ClassId} {a : Nat → Nat → Nat} {C : CC} : [51, 52, 53, 4, 5, 6, 7, 8, 9, 10, 11, 12, 13, 14, 15, 16, 30, 31, 32, 33, 34].map (fun i => (cW cI a C)[i]?) = (kW cI (a 9) (C 9) ++ (kL cI (a 2) (C 2) ++ (kS cI (a 4) (C 4)))).map some := rfl
theorem pc_C_9 {cI : ClassId} {a : Nat → Nat → Nat} {C : CC} {u : HC} : putL (cW cI a C) [51, 52, 53] (kW cI (a 9) u) = cW cI a (va_up C 9 u) := rfl
theorem put_C_WLS_9_2_4_0 {cI : ClassId} {a : Nat → Nat → Nat} {C : CC} {u0 : HC} : putL (cW cI a C) [51, 52, 53, 4, 5, 6, 7, 8, 9, 10, 11, 12, 13, 14, 15, 16, 30, 31, 32, 33, 34] (kW cI (a 9) u0 ++ (kL cI (a 2) (C 2) ++ (kS cI (a 4) (C 4)))) = (cW cI a (va_up C 9 u0)) := ((putL_app (is1 := [51, 52, 53]) (is2 := [4, 5, 6, 7, 8, 9, 10, 11, 12, 13, 14, 15, 16, 30, 31, 32, 33, 34]) (w2 := (kL cI (a 2) (C 2) ++ (kS cI (a 4) (C 4)))) rfl).trans ((congrArg (fun z => putL z [4, 5, 6, 7, 8, 9, 10, 11, 12, 13, 14, 15, 16, 30, 31, 32, 33, 34] (kL cI (a 2) (C 2) ++ (kS cI (a 4) (C 4)))) pc_C_9).trans ((putL_app (is1 := [4, 5, 6, 7, 8, 9, 10, 11, 12, 13, 14, 15, 16]) (is2 := [30, 31, 32, 33, 34]) (w2 := (kS cI (a 4) (C 4))) rfl).trans ((congrArg (fun z => putL z [30, 31, 32, 33, 34] (kS cI (a 4) (C 4))) (pcs_C_2 rfl)).trans (pcs_C_4 rfl)))))
theorem at_C_9_0 {cI : ClassId} {a : Nat → Nat → Nat} {C : CC} : (cW cI a C)[51]? = some (a 9 0, .inr (0, [.ref (a 9 1), .ref (a 9 2)])) := rfl
theorem at_C_9_1 {cI : ClassId} {a : Nat → Nat → Nat} {C : CC} : (cW cI a C)[52]? = some (a 9 1, .inl (cI, 5, .inl (C 9 1))) := rfl
theorem sub_C_B_7 {cI : ClassId} {a : Nat → Nat → Nat} {C : CC} : [45, 46, 47].map (fun i => (cW cI a C)[i]?) = (kB cI (a 7) (C 7)).map some := rfl
theorem pc_C_7 {cI : ClassId} {a : Nat → Nat → Nat} {C : CC} {u : HC} : putL (cW cI a C) [45, 46, 47] (kB cI (a 7) u) = cW cI a (va_up C 7 u) := rfl
theorem put_C_B_7_0 {cI : ClassId} {a : Nat → Nat → Nat} {C : CC} {u0 : HC} : putL (cW cI a C) [45, 46, 47] (kB cI (a 7) u0) = (cW cI a (va_up C 7 u0)) := pc_C_7
theorem sf_C_7_2 {cI : ClassId} {a : Nat → Nat → Nat} {C : CC} {v : Int32} : (cW cI a C).set 45 (a 7 0, .inr (1, ([.ref (a 7 1), .ref (a 7 2), .int (C 7 0 2)] : List Value).set 2 (.int v))) = (cW cI a (va_up C 7 (sf (C 7) 2 v))) := rfl
theorem sub_C_BS_7_4 {cI : ClassId} {a : Nat → Nat → Nat} {C : CC} : [45, 46, 47, 30, 31, 32, 33, 34].map (fun i => (cW cI a C)[i]?) = (kB cI (a 7) (C 7) ++ (kS cI (a 4) (C 4))).map some := rfl
theorem pcs_C_7 {cI : ClassId} {a : Nat → Nat → Nat} {C : CC} {u : HC} (h : C 7 = u) : putL (cW cI a C) [45, 46, 47] (kB cI (a 7) u) = cW cI a C := by subst h; rfl
theorem put_C_BS_7_4_ {cI : ClassId} {a : Nat → Nat → Nat} {C : CC}  : putL (cW cI a C) [45, 46, 47, 30, 31, 32, 33, 34] (kB cI (a 7) (C 7) ++ (kS cI (a 4) (C 4))) = (cW cI a C) := ((putL_app (is1 := [45, 46, 47]) (is2 := [30, 31, 32, 33, 34]) (w2 := (kS cI (a 4) (C 4))) rfl).trans ((congrArg (fun z => putL z [30, 31, 32, 33, 34] (kS cI (a 4) (C 4))) (pcs_C_7 rfl)).trans (pcs_C_4 rfl)))
theorem sf_C_4_5 {cI : ClassId} {a : Nat → Nat → Nat} {C : CC} {v : Int32} : (cW cI a C).set 30 (a 4 0, .inr (4, ([.ref (a 4 1), .ref (a 4 2), .ref (a 4 3), .ref (a 4 4), .int (C 4 0 4), .int (C 4 0 5), .int (C 4 0 6)] : List Value).set 5 (.int v))) = (cW cI a (va_up C 4 (sf (C 4) 5 v))) := rfl
theorem sub_C_SS_6_4 {cI : ClassId} {a : Nat → Nat → Nat} {C : CC} : [40, 41, 42, 43, 44, 30, 31, 32, 33, 34].map (fun i => (cW cI a C)[i]?) = (kS cI (a 6) (C 6) ++ (kS cI (a 4) (C 4))).map some := rfl
theorem pc_C_6 {cI : ClassId} {a : Nat → Nat → Nat} {C : CC} {u : HC} : putL (cW cI a C) [40, 41, 42, 43, 44] (kS cI (a 6) u) = cW cI a (va_up C 6 u) := rfl
theorem put_C_SS_6_4_0 {cI : ClassId} {a : Nat → Nat → Nat} {C : CC} {u0 : HC} : putL (cW cI a C) [40, 41, 42, 43, 44, 30, 31, 32, 33, 34] (kS cI (a 6) u0 ++ (kS cI (a 4) (C 4))) = (cW cI a (va_up C 6 u0)) := ((putL_app (is1 := [40, 41, 42, 43, 44]) (is2 := [30, 31, 32, 33, 34]) (w2 := (kS cI (a 4) (C 4))) rfl).trans ((congrArg (fun z => putL z [30, 31, 32, 33, 34] (kS cI (a 4) (C 4))) pc_C_6).trans (pcs_C_4 rfl)))
theorem at_C_6_0 {cI : ClassId} {a : Nat → Nat → Nat} {C : CC} : (cW cI a C)[40]? = some (a 6 0, .inr (4, [.ref (a 6 1), .ref (a 6 2), .ref (a 6 3), .ref (a 6 4), .int (C 6 0 4), .int (C 6 0 5), .int (C 6 0 6)])) := rfl
theorem sf_C_6_6 {cI : ClassId} {a : Nat → Nat → Nat} {C : CC} {v : Int32} : (cW cI a C).set 40 (a 6 0, .inr (4, ([.ref (a 6 1), .ref (a 6 2), .ref (a 6 3), .ref (a 6 4), .int (C 6 0 4), .int (C 6 0 5), .int (C 6 0 6)] : List Value).set 6 (.int v))) = (cW cI a (va_up C 6 (sf (C 6) 6 v))) := rfl
theorem sub_C_SS_5_4 {cI : ClassId} {a : Nat → Nat → Nat} {C : CC} : [35, 36, 37, 38, 39, 30, 31, 32, 33, 34].map (fun i => (cW cI a C)[i]?) = (kS cI (a 5) (C 5) ++ (kS cI (a 4) (C 4))).map some := rfl
theorem pc_C_5 {cI : ClassId} {a : Nat → Nat → Nat} {C : CC} {u : HC} : putL (cW cI a C) [35, 36, 37, 38, 39] (kS cI (a 5) u) = cW cI a (va_up C 5 u) := rfl
theorem put_C_SS_5_4_0 {cI : ClassId} {a : Nat → Nat → Nat} {C : CC} {u0 : HC} : putL (cW cI a C) [35, 36, 37, 38, 39, 30, 31, 32, 33, 34] (kS cI (a 5) u0 ++ (kS cI (a 4) (C 4))) = (cW cI a (va_up C 5 u0)) := ((putL_app (is1 := [35, 36, 37, 38, 39]) (is2 := [30, 31, 32, 33, 34]) (w2 := (kS cI (a 4) (C 4))) rfl).trans ((congrArg (fun z => putL z [30, 31, 32, 33, 34] (kS cI (a 4) (C 4))) pc_C_5).trans (pcs_C_4 rfl)))
theorem at_C_5_0 {cI : ClassId} {a : Nat → Nat → Nat} {C : CC} : (cW cI a C)[35]? = some (a 5 0, .inr (4, [.ref (a 5 1), .ref (a 5 2), .ref (a 5 3), .ref (a 5 4), .int (C 5 0 4), .int (C 5 0 5), .int (C 5 0 6)])) := rfl
theorem sf_C_5_6 {cI : ClassId} {a : Nat → Nat → Nat} {C : CC} {v : Int32} : (cW cI a C).set 35 (a 5 0, .inr (4, ([.ref (a 5 1), .ref (a 5 2), .ref (a 5 3), .ref (a 5 4), .int (C 5 0 4), .int (C 5 0 5), .int (C 5 0 6)] : List Value).set 6 (.int v))) = (cW cI a (va_up C 5 (sf (C 5) 6 v))) := rfl
theorem sub_C_SS_4_6 {cI : ClassId} {a : Nat → Nat → Nat} {C : CC} : [30, 31, 32, 33, 34, 40, 41, 42, 43, 44].map (fun i => (cW cI a C)[i]?) = (kS cI (a 4) (C 4) ++ (kS cI (a 6) (C 6))).map some := rfl
theorem pcs_C_6 {cI : ClassId} {a : Nat → Nat → Nat} {C : CC} {u : HC} (h : C 6 = u) : putL (cW cI a C) [40, 41, 42, 43, 44] (kS cI (a 6) u) = cW cI a C := by subst h; rfl
theorem put_C_SS_4_6_0 {cI : ClassId} {a : Nat → Nat → Nat} {C : CC} {u0 : HC} : putL (cW cI a C) [30, 31, 32, 33, 34, 40, 41, 42, 43, 44] (kS cI (a 4) u0 ++ (kS cI (a 6) (C 6))) = (cW cI a (va_up C 4 u0)) := ((putL_app (is1 := [30, 31, 32, 33, 34]) (is2 := [40, 41, 42, 43, 44]) (w2 := (kS cI (a 6) (C 6))) rfl).trans ((congrArg (fun z => putL z [40, 41, 42, 43, 44] (kS cI (a 6) (C 6))) pc_C_4).trans (pcs_C_6 rfl)))
theorem sub_C_SS_4_5 {cI : ClassId} {a : Nat → Nat → Nat} {C : CC} : [30, 31, 32, 33, 34, 35, 36, 37, 38, 39].map (fun i => (cW cI a C)[i]?) = (kS cI (a 4) (C 4) ++ (kS cI (a 5) (C 5))).map some := rfl
theorem pcs_C_5 {cI : ClassId} {a : Nat → Nat → Nat} {C : CC} {u : HC} (h : C 5 = u) : putL (cW cI a C) [35, 36, 37, 38, 39] (kS cI (a 5) u) = cW cI a C := by subst h; rfl
theorem put_C_SS_4_5_0 {cI : ClassId} {a : Nat → Nat → Nat} {C : CC} {u0 : HC} : putL (cW cI a C) [30, 31, 32, 33, 34, 35, 36, 37, 38, 39] (kS cI (a 4) u0 ++ (kS cI (a 5) (C 5))) = (cW cI a (va_up C 4 u0)) := ((putL_app (is1 := [30, 31, 32, 33, 34]) (is2 := [35, 36, 37, 38, 39]) (w2 := (kS cI (a 5) (C 5))) rfl).trans ((congrArg (fun z => putL z [35, 36, 37, 38, 39] (kS cI (a 5) (C 5))) pc_C_4).trans (pcs_C_5 rfl)))
def f_X6_drift_b54 (p1 : Int32) (rc54 : Int32 → CC → Option (Int32 × CC)) (v1 : Int32) (X2 : CC) : Option (Int32 × CC) := (if p1 ≤ v1 then some (((X2 4) 0 4), X2) else bd (f_X6_liveOneDay X2) (fun (q3 : CC) => nm (v1 + (1 : Int32)) (fun (v4 : Int32) => rc54 v4 q3)))
def f_X6_drift (C : CC) (p1 : Int32) : Option (Int32 × CC) := (if p1 < (1 : Int32) then some ((-1000000002 : Int32), C) else (if p1 ≤ (99 : Int32) then (if ((C 2) 0 0) = 0 then some ((-1000000003 : Int32), C) else (if ((C 2) 0 1) = 0 then some ((-1000000003 : Int32), C) else (if ((C 4) 0 4) ≤ (90000 : Int32) then lp (fun _ _ => none : Int32 → CC → Option (Int32 × CC)) (f_X6_drift_b54 p1) FU (0 : Int32) C else some ((-1000000004 : Int32), C)))) else some ((-1000000002 : Int32), C)))
abbrev RM_X6_drift : Room := { frames := 5, cells := 0, slots := 0, locals := 110 }
set_option maxHeartbeats 4000000 in
set_option maxRecDepth 100000 in
theorem c_X6_drift (l : Launch) (D : va_G) (cI cZ : ClassId) (a : Nat → Nat → Nat) (C : CC) (p1 : Int32) (sz : Nat) {r : Int32 × CC} (hf : f_X6_drift C p1 = some r) : Met l yX6_drift (wM yX6_drift cX6_drift 3 (some .int)) RM_X6_drift (va_Pc [.ref (a 0 0), .int p1] (pre D cI cZ (cW cI a C) sz)) (QI D (va_A (cW cI a C) sz) (fun (u : CC) => (cW cI a u)) r) 0 0 (va_A (cW cI a C) sz) := by
  unfold f_X6_drift at hf
  refine Met.ofW (cc := cX6_drift) (maxL := 3) (ret := (some .int)) (by decide) rfl ?_
  intro p e s m args below meth c s₁ B hml hv
  obtain ⟨rfl, hsz, hP, hK, hD0, hnw⟩ := hv
  have hx := B.exec
  have hb := B.bytes
  have hr := B.returns
  have hts := atoms_spec (ws := wM yX6_drift cX6_drift 3 (some .int)) B.pre
  have hG : ∀ w ∈ GW, w.before (([.ref (a 0 0), .int p1] : List Value).toArray) s = true := fun w h => hts w (List.mem_cons_of_mem _ h)
  have hown : s.vm.findClass RX6 = some m.cls := findClass_of_methodNamed B.named
  have hlocks := B.notSynchronized
  subst hsz
  have hD := hD0.self (sz := s.heap.size)
  generalize hAe : va_A (cW cI a C) s.heap.size = A at hD ⊢
  have hA : ∀ q : Nat, s.heap.size ≤ q → A q := fun q h => by rw [← hAe]; exact Or.inr h
  have hS : va_S A s.heap s.heap [] := va_S.rf
  have hl := lv_entry ([.ref (a 0 0), .int p1]) (n := 3) (Nat.le_of_ble_eq_true rfl)
  rw [lg_entry_eq]
  generalize (lg_sl ([.ref (a 0 0), .int p1]) ++ List.replicate (3 - (lg_sl ([.ref (a 0 0), .int p1])).length) Slot.unset).toArray = ls at hl ⊢
  have hl : lv_has ls 3 [(0, .ref (a 0 0)), (1, .int p1)] := hl
  show W p l e RM_X6_drift s m (([.ref (a 0 0), .int p1] : List Value).toArray) below meth c s.heap [] 0 0 (MQ below (QI D A (fun (u : CC) => (cW cI a u)) r) (([.ref (a 0 0), .int p1] : List Value).toArray) s 0 0 A) (F0 m 0 ls [])
  refine lv_iload_n hx hb dX6_drift_0 rfl (lv_at hl 1 rfl) ?_
  refine lv_iconst (v := (1 : Int32)) hx hb dX6_drift_1 (by decide) ?_
  refine lv_icmp_lt (tgt := 11) hx hb dX6_drift_2 (by decide) (fun cc2 => ?_) (fun cc2 => ?_)
  · have hf := if_t cc2 hf
    refine lv_ldc hx hb hown (hG _ g_238) dX6_drift_11 ?_
    exact W.iret (v := (-1000000002 : Int32)) hx hb hr (fun t ht hW => ⟨⟨(-1000000002 : Int32), C, rfl, ⟨pr_1 hf, pr_2 hf⟩, by rw [ht]; exact hP, hD⟩, hS.F ht⟩) hS.2.2 dX6_drift_13
  · have hf := if_f cc2 hf
    refine lv_iload_n hx hb dX6_drift_5 rfl (lv_at hl 1 rfl) ?_
    refine lv_bipush (v := (99 : Int32)) hx hb dX6_drift_6 (by decide) ?_
    refine lv_icmp_le (tgt := 14) hx hb dX6_drift_8 (by decide) (fun cc8 => ?_) (fun cc8 => ?_)
    · have hf := if_t cc8 hf
      refine lv_aload_n hx hb dX6_drift_14 rfl (lv_at hl 0 rfl) ?_
      refine va_get (D := D) (ci := 6) (v := .ref (a 2 0)) (C := RX6) (T := TX6) (N := 10) hx hb hG inG6 hown hK hP 0 at_C_0_0 rfl 1 (by decide) (hG _ g_225) (fun _ h9 => h9) rfl dX6_drift_15 ?_
      refine va_get (D := D) (ci := 2) (v := .int ((C 2) 0 0)) (C := RX2) (T := TX2) (N := 18) hx hb hG inG2 hown hK hP 4 at_C_2_0 rfl 0 (by decide) (hG _ g_109) (fun _ h9 => h9) rfl dX6_drift_18 ?_
      refine lv_if_eq (tgt := 34) hx hb dX6_drift_21 (by decide) (fun cc21 => ?_) (fun cc21 => ?_)
      · have hf := if_t cc21 hf
        refine lv_ldc hx hb hown (hG _ g_402) dX6_drift_34 ?_
        exact W.iret (v := (-1000000003 : Int32)) hx hb hr (fun t ht hW => ⟨⟨(-1000000003 : Int32), C, rfl, ⟨pr_1 hf, pr_2 hf⟩, by rw [ht]; exact hP, hD⟩, hS.F ht⟩) hS.2.2 dX6_drift_36
      · have hf := if_f cc21 hf
        refine lv_aload_n hx hb dX6_drift_24 rfl (lv_at hl 0 rfl) ?_
        refine va_get (D := D) (ci := 6) (v := .ref (a 2 0)) (C := RX6) (T := TX6) (N := 10) hx hb hG inG6 hown hK hP 0 at_C_0_0 rfl 1 (by decide) (hG _ g_225) (fun _ h9 => h9) rfl dX6_drift_25 ?_
        refine va_get (D := D) (ci := 2) (v := .int ((C 2) 0 1)) (C := RX2) (T := TX2) (N := 18) hx hb hG inG2 hown hK hP 4 at_C_2_0 rfl 1 (by decide) (hG _ g_114) (fun _ h9 => h9) rfl dX6_drift_28 ?_
        refine lv_if_ne (tgt := 37) hx hb dX6_drift_31 (by decide) (fun cc31 => ?_) (fun cc31 => ?_)
        · have hf := if_f cc31 hf
          refine lv_aload_n hx hb dX6_drift_37 rfl (lv_at hl 0 rfl) ?_
          refine va_get (D := D) (ci := 6) (v := .ref (a 4 0)) (C := RX6) (T := TX6) (N := 10) hx hb hG inG6 hown hK hP 0 at_C_0_0 rfl 3 (by decide) (hG _ g_227) (fun _ h9 => h9) rfl dX6_drift_38 ?_
          refine va_get (D := D) (ci := 4) (v := .int ((C 4) 0 4)) (C := RX4) (T := TX4) (N := 7) hx hb hG inG4 hown hK hP 30 at_C_4_0 rfl 4 (by decide) (hG _ g_188) (fun _ h9 => h9) rfl dX6_drift_41 ?_
          refine lv_ldc hx hb hown (hG _ g_419) dX6_drift_44 ?_
          refine lv_icmp_le (tgt := 52) hx hb dX6_drift_46 (by decide) (fun cc46 => ?_) (fun cc46 => ?_)
          · have hf := if_t cc46 hf
            refine lv_iconst (v := (0 : Int32)) hx hb dX6_drift_52 (by decide) ?_
            refine lv_istore_n (lv' := [(2, .int (0 : Int32)), (0, .ref (a 0 0)), (1, .int p1)]) hx hb dX6_drift_53 rfl hl (by decide) rfl (fun ls hl => ?_)
            have L54 : ∀ (n : Nat) (v1 : Int32) (X2 : CC) (H : Heap) (locs : List Loc) (ls : Array Slot), va_P D vwCl (cW cI a X2) H → va_D A (cW cI a X2) → va_S A s.heap H locs → lv_has ls 3 [(0, .ref (a 0 0)), (1, .int p1), (2, .int v1)] → lp (fun _ _ => none : Int32 → CC → Option (Int32 × CC)) (f_X6_drift_b54 p1) n v1 X2 = some r → W p l e RM_X6_drift s m (([.ref (a 0 0), .int p1] : List Value).toArray) below meth c H locs 0 0 (MQ below (QI D A (fun (u : CC) => (cW cI a u)) r) (([.ref (a 0 0), .int p1] : List Value).toArray) s 0 0 A) (F0 m 54 ls []) := by
              intro n
              induction n with
              | zero => intro v1 X2 H locs ls _ _ _ _ hf; cases (show (none : Option (Int32 × CC)) = some r from hf)
              | succ n ih54 =>
                intro v1 X2 H locs ls hP hD hS hl hf
                have hf : (f_X6_drift_b54 p1) (lp (fun _ _ => none : Int32 → CC → Option (Int32 × CC)) (f_X6_drift_b54 p1) n) v1 X2 = some r := hf
                generalize lp (fun _ _ => none : Int32 → CC → Option (Int32 × CC)) (f_X6_drift_b54 p1) n = rc54 at ih54 hf
                unfold f_X6_drift_b54 at hf
                refine lv_iload_n hx hb dX6_drift_54 rfl (lv_at hl 2 rfl) ?_
                refine lv_iload_n hx hb dX6_drift_55 rfl (lv_at hl 1 rfl) ?_
                refine lv_icmp_ge (tgt := 69) hx hb dX6_drift_56 (by decide) (fun cc56 => ?_) (fun cc56 => ?_)
                · have hf := if_t cc56 hf
                  refine lv_aload_n hx hb dX6_drift_69 rfl (lv_at hl 0 rfl) ?_
                  refine va_get (D := D) (ci := 6) (v := .ref (a 4 0)) (C := RX6) (T := TX6) (N := 10) hx hb hG inG6 hown hK hP 0 at_C_0_0 rfl 3 (by decide) (hG _ g_227) (fun _ h9 => h9) rfl dX6_drift_70 ?_
                  refine va_get (D := D) (ci := 4) (v := .int ((X2 4) 0 4)) (C := RX4) (T := TX4) (N := 7) hx hb hG inG4 hown hK hP 30 at_C_4_0 rfl 4 (by decide) (hG _ g_188) (fun _ h9 => h9) rfl dX6_drift_73 ?_
                  exact W.iret (v := ((X2 4) 0 4)) hx hb hr (fun t ht hW => ⟨⟨((X2 4) 0 4), X2, rfl, ⟨pr_1 hf, pr_2 hf⟩, by rw [ht]; exact hP, hD⟩, hS.F ht⟩) hS.2.2 dX6_drift_76
                · have hf := if_f cc56 hf
                  refine lv_aload_n hx hb dX6_drift_59 rfl (lv_at hl 0 rfl) ?_
                  obtain ⟨q3, hq3, hf⟩ := bd_x hf
                  have hFc := freeS hD hS hA
                  refine va_callv (va_runV (As := []) (rest := []) ⟨hx, hb, hml, hown, hG⟩ (c_X6_liveOneDay l D cI cZ a X2 H.size hq3) (cwV 0 hG (gV g_421 g_422 g_24 g_70 g_423) rfl rfl rfl (by decide +kernel) ⟨Nat.le_of_ble_eq_true rfl, Nat.le_of_ble_eq_true rfl⟩) ⟨pre_blind, va_recv hK hP (ci := 6) (q0 := 0) rfl rfl, fun U hU hW => ⟨rfl, pre_of hP hK hD hnw hU hW⟩⟩ rfl rfl hl.1 rfl (lv_room (Nat.le_of_ble_eq_true rfl)) dX6_drift_60 ⟨Nat.le_of_ble_eq_true rfl, Nat.le_of_ble_eq_true rfl⟩) hS (fun q _ h => hFc q h) hFc (fun u t H locs ht hvm hw hB hz1 hk1 hS => ?_)
                  have hw := hw.symm; subst hw
                  obtain ⟨hP1, hD1⟩ := hB
                  rw [ht] at hP1
                  have hP := hP1
                  have hD := hD1.weaken (fun _ q _ h => hFc q.1 h)
                  obtain ⟨v4, ev4⟩ : ∃ y : Int32, y = (v1 + (1 : Int32)) := ⟨_, rfl⟩
                  have hf := nm_x ev4 hf
                  refine lv_iinc (v := v4) (lv' := [(2, .int v4), (0, .ref (a 0 0)), (1, .int p1)]) hx hb dX6_drift_63 hl (k := 2) rfl (by rw [ev4]; rfl) (by decide) rfl (fun ls hl => ?_)
                  refine lv_goto (tgt := 54) hx hb dX6_drift_66 (by decide) ?_
                  exact ih54 v4 q3 _ _ _ hP hD hS (lv_sub hl [1, 2, 0] rfl) hf
            exact L54 FU (0 : Int32) C _ _ _ hP hD hS (lv_sub hl [1, 2, 0] rfl) hf
          · have hf := if_f cc46 hf
            refine lv_ldc hx hb hown (hG _ g_420) dX6_drift_49 ?_
            exact W.iret (v := (-1000000004 : Int32)) hx hb hr (fun t ht hW => ⟨⟨(-1000000004 : Int32), C, rfl, ⟨pr_1 hf, pr_2 hf⟩, by rw [ht]; exact hP, hD⟩, hS.F ht⟩) hS.2.2 dX6_drift_51
        · have hf := if_t cc31 hf
          refine lv_ldc hx hb hown (hG _ g_402) dX6_drift_34 ?_
          exact W.iret (v := (-1000000003 : Int32)) hx hb hr (fun t ht hW => ⟨⟨(-1000000003 : Int32), C, rfl, ⟨pr_1 hf, pr_2 hf⟩, by rw [ht]; exact hP, hD⟩, hS.F ht⟩) hS.2.2 dX6_drift_36
    · have hf := if_f cc8 hf
      refine lv_ldc hx hb hown (hG _ g_238) dX6_drift_11 ?_
      exact W.iret (v := (-1000000002 : Int32)) hx hb hr (fun t ht hW => ⟨⟨(-1000000002 : Int32), C, rfl, ⟨pr_1 hf, pr_2 hf⟩, by rw [ht]; exact hP, hD⟩, hS.F ht⟩) hS.2.2 dX6_drift_13
def f_X6_plan (C : CC) (p1 : Int32) (p2 : Int32) (p3 : Int32) : Option (Int32 × CC) := bd (f_X6_isFighter C p1) (fun (q1 : Int32) => (if q1 = 0 then some ((-1000000001 : Int32), C) else (if p3 < 0 then some ((-1000000002 : Int32), C) else (if p3 ≤ (1 : Int32) then bd (f_X3_walk (C 8) (C 2) (C 4) p1) (fun (q2 : HC) => nm (va_up C 8 q2) (fun (X3 : CC) => (if p2 = (-1 : Int32) then bd (f_X2_worthOf (X3 2) ((X3 8) 0 3)) (fun (q5 : Int32) => some (q5, X3)) else (if p2 < 0 then some ((-1 : Int32), X3) else bd (f_X3_lengthOfPlan (X3 8) (X3 2)) (fun (q4 : Int32) => (if p2 < q4 then (if p3 = 0 then (if inb p2 6 then some (((X3 8) 1 (Int32.toNatClampNeg p2)), X3) else none) else (if inb p2 6 then some (((X3 8) 2 (Int32.toNatClampNeg p2)), X3) else none)) else some ((-1 : Int32), X3))))))) else some ((-1000000002 : Int32), C)))))
abbrev RM_X6_plan : Room := { frames := 6, cells := 0, slots := 0, locals := 147 }
set_option maxHeartbeats 4000000 in
set_option maxRecDepth 100000 in
theorem c_X6_plan (l : Launch) (D : va_G) (cI cZ : ClassId) (a : Nat → Nat → Nat) (C : CC) (p1 : Int32) (p2 : Int32) (p3 : Int32) (sz : Nat) {r : Int32 × CC} (hf : f_X6_plan C p1 p2 p3 = some r) : Met l yX6_plan (wM yX6_plan cX6_plan 4 (some .int)) RM_X6_plan (va_Pc [.ref (a 0 0), .int p1, .int p2, .int p3] (pre D cI cZ (cW cI a C) sz)) (QI D (va_A (cW cI a C) sz) (fun (u : CC) => (cW cI a u)) r) 0 0 (va_A (cW cI a C) sz) := by
  unfold f_X6_plan at hf
  refine Met.ofW (cc := cX6_plan) (maxL := 4) (ret := (some .int)) (by decide) rfl ?_
  intro p e s m args below meth c s₁ B hml hv
  obtain ⟨rfl, hsz, hP, hK, hD0, hnw⟩ := hv
  have hx := B.exec
  have hb := B.bytes
  have hr := B.returns
  have hts := atoms_spec (ws := wM yX6_plan cX6_plan 4 (some .int)) B.pre
  have hG : ∀ w ∈ GW, w.before (([.ref (a 0 0), .int p1, .int p2, .int p3] : List Value).toArray) s = true := fun w h => hts w (List.mem_cons_of_mem _ h)
  have hown : s.vm.findClass RX6 = some m.cls := findClass_of_methodNamed B.named
  have hlocks := B.notSynchronized
  subst hsz
  have hD := hD0.self (sz := s.heap.size)
  generalize hAe : va_A (cW cI a C) s.heap.size = A at hD ⊢
  have hA : ∀ q : Nat, s.heap.size ≤ q → A q := fun q h => by rw [← hAe]; exact Or.inr h
  have hS : va_S A s.heap s.heap [] := va_S.rf
  have hl := lv_entry ([.ref (a 0 0), .int p1, .int p2, .int p3]) (n := 4) (Nat.le_of_ble_eq_true rfl)
  rw [lg_entry_eq]
  generalize (lg_sl ([.ref (a 0 0), .int p1, .int p2, .int p3]) ++ List.replicate (4 - (lg_sl ([.ref (a 0 0), .int p1, .int p2, .int p3])).length) Slot.unset).toArray = ls at hl ⊢
  have hl : lv_has ls 4 [(0, .ref (a 0 0)), (1, .int p1), (2, .int p2), (3, .int p3)] := hl
  show W p l e RM_X6_plan s m (([.ref (a 0 0), .int p1, .int p2, .int p3] : List Value).toArray) below meth c s.heap [] 0 0 (MQ below (QI D A (fun (u : CC) => (cW cI a u)) r) (([.ref (a 0 0), .int p1, .int p2, .int p3] : List Value).toArray) s 0 0 A) (F0 m 0 ls [])
  refine lv_aload_n hx hb dX6_plan_0 rfl (lv_at hl 0 rfl) ?_
  refine lv_iload_n hx hb dX6_plan_1 rfl (lv_at hl 1 rfl) ?_
  obtain ⟨q1, hq1, hf⟩ := bd_x hf
  have hFc := freeS hD hS hA
  refine va_calli (va_runV (As := [.int p1]) (rest := []) ⟨hx, hb, hml, hown, hG⟩ (c_X6_isFighter l D cI cZ a C p1 s.heap.size hq1) (cwV 1 hG (gV g_318 g_319 g_13 g_70 g_320) rfl rfl rfl (by decide +kernel) ⟨Nat.le_of_ble_eq_true rfl, Nat.le_of_ble_eq_true rfl⟩) ⟨pre_blind, va_recv hK hP (ci := 6) (q0 := 0) rfl rfl, fun U hU hW => ⟨rfl, pre_of hP hK hD hnw hU hW⟩⟩ rfl rfl hl.1 rfl (lv_room (Nat.le_of_ble_eq_true rfl)) dX6_plan_2 ⟨Nat.le_of_ble_eq_true rfl, Nat.le_of_ble_eq_true rfl⟩) hS (fun q _ h => hFc q h) hFc (fun v u t H locs ht hvm hw hB hz1 hk1 hS => ?_)
  have hw := hw.symm; subst hw
  obtain ⟨hP1, hD1⟩ := hB
  rw [ht] at hP1
  have hP := hP1
  have hD := hD1.weaken (fun _ q _ h => hFc q.1 h)
  refine lv_if_ne (tgt := 11) hx hb dX6_plan_5 (by decide) (fun cc5 => ?_) (fun cc5 => ?_)
  · have hf := if_f cc5 hf
    refine lv_iload_n hx hb dX6_plan_11 rfl (lv_at hl 3 rfl) ?_
    refine lv_if_lt (tgt := 20) hx hb dX6_plan_12 (by decide) (fun cc12 => ?_) (fun cc12 => ?_)
    · have hf := if_t cc12 hf
      refine lv_ldc hx hb hown (hG _ g_238) dX6_plan_20 ?_
      exact W.iret (v := (-1000000002 : Int32)) hx hb hr (fun t ht hW => ⟨⟨(-1000000002 : Int32), C, rfl, ⟨pr_1 hf, pr_2 hf⟩, by rw [ht]; exact hP, hD⟩, hS.F ht⟩) hS.2.2 dX6_plan_22
    · have hf := if_f cc12 hf
      refine lv_iload_n hx hb dX6_plan_15 rfl (lv_at hl 3 rfl) ?_
      refine lv_iconst (v := (1 : Int32)) hx hb dX6_plan_16 (by decide) ?_
      refine lv_icmp_le (tgt := 23) hx hb dX6_plan_17 (by decide) (fun cc17 => ?_) (fun cc17 => ?_)
      · have hf := if_t cc17 hf
        refine lv_aload_n hx hb dX6_plan_23 rfl (lv_at hl 0 rfl) ?_
        refine va_get (D := D) (ci := 6) (v := .ref (a 8 0)) (C := RX6) (T := TX6) (N := 10) hx hb hG inG6 hown hK hP 0 at_C_0_0 rfl 7 (by decide) (hG _ g_231) (fun _ h9 => h9) rfl dX6_plan_24 ?_
        refine lv_aload_n hx hb dX6_plan_27 rfl (lv_at hl 0 rfl) ?_
        refine va_get (D := D) (ci := 6) (v := .ref (a 2 0)) (C := RX6) (T := TX6) (N := 10) hx hb hG inG6 hown hK hP 0 at_C_0_0 rfl 1 (by decide) (hG _ g_225) (fun _ h9 => h9) rfl dX6_plan_28 ?_
        refine lv_aload_n hx hb dX6_plan_31 rfl (lv_at hl 0 rfl) ?_
        refine va_get (D := D) (ci := 6) (v := .ref (a 4 0)) (C := RX6) (T := TX6) (N := 10) hx hb hG inG6 hown hK hP 0 at_C_0_0 rfl 3 (by decide) (hG _ g_227) (fun _ h9 => h9) rfl dX6_plan_32 ?_
        refine lv_iload_n hx hb dX6_plan_35 rfl (lv_at hl 1 rfl) ?_
        obtain ⟨q2, hq2, hf⟩ := bd_x hf
        have hPc := subP [48, 49, 50, 4, 5, 6, 7, 8, 9, 10, 11, 12, 13, 14, 15, 16, 30, 31, 32, 33, 34] sub_C_PLS_8_2_4 hP
        have hDc := va_D.sub hD [48, 49, 50, 4, 5, 6, 7, 8, 9, 10, 11, 12, 13, 14, 15, 16, 30, 31, 32, 33, 34] rfl sub_C_PLS_8_2_4
        have hFc := va_free hD hS hA [48, 49, 50, 4, 5, 6, 7, 8, 9, 10, 11, 12, 13, 14, 15, 16, 30, 31, 32, 33, 34] sub_C_PLS_8_2_4
        refine va_callv (va_runV (As := [.ref (a 2 0), .ref (a 4 0), .int p1]) (rest := []) ⟨hx, hb, hml, hown, hG⟩ (c_X3_walk l D cI cZ (a 8) (a 2) (a 4) (C 8) (C 2) (C 4) p1 H.size hq2) (cwV 3 hG (gV g_436 g_437 g_438 g_75 g_439) rfl rfl rfl (by decide +kernel) ⟨Nat.le_of_ble_eq_true rfl, Nat.le_of_ble_eq_true rfl⟩) ⟨pre_blind, va_recv hK hPc (ci := 3) (q0 := 0) rfl rfl, fun U hU hW => ⟨rfl, pre_of hPc hK hDc hnw hU hW⟩⟩ rfl rfl hl.1 rfl (lv_room (Nat.le_of_ble_eq_true rfl)) dX6_plan_36 ⟨Nat.le_of_ble_eq_true rfl, Nat.le_of_ble_eq_true rfl⟩) hS (fun q _ h => hFc q h) hFc (fun u t H locs ht hvm hw hB hz1 hk1 hS => ?_)
        have hw := hw.symm; subst hw
        obtain ⟨hP1, hD1⟩ := hB
        rw [ht] at hP1
        obtain ⟨hP, hD⟩ := back hP hD [48, 49, 50, 4, 5, 6, 7, 8, 9, 10, 11, 12, 13, 14, 15, 16, 30, 31, 32, 33, 34] sub_C_PLS_8_2_4 rfl hk1 hFc hP1 hD1
        obtain ⟨X3, eX3⟩ : ∃ y : CC, y = (va_up C 8 q2) := ⟨_, rfl⟩
        have hf := nm_x eX3 hf
        have hP := wP (put_C_PLS_8_2_4_0.trans (congrArg (fun z => cW cI a z) eX3.symm)) hP
        have hD := wD (put_C_PLS_8_2_4_0.trans (congrArg (fun z => cW cI a z) eX3.symm)) hD
        refine lv_iload_n hx hb dX6_plan_39 rfl (lv_at hl 2 rfl) ?_
        refine lv_iconst (v := (-1 : Int32)) hx hb dX6_plan_40 (by decide) ?_
        refine lv_icmp_ne (tgt := 59) hx hb dX6_plan_41 (by decide) (fun cc41 => ?_) (fun cc41 => ?_)
        · have hf := if_f cc41 hf
          refine lv_iload_n hx hb dX6_plan_59 rfl (lv_at hl 2 rfl) ?_
          refine lv_if_lt (tgt := 78) hx hb dX6_plan_60 (by decide) (fun cc60 => ?_) (fun cc60 => ?_)
          · have hf := if_t cc60 hf
            refine lv_iconst (v := (-1 : Int32)) hx hb dX6_plan_78 (by decide) ?_
            exact W.iret (v := (-1 : Int32)) hx hb hr (fun t ht hW => ⟨⟨(-1 : Int32), X3, rfl, ⟨pr_1 hf, pr_2 hf⟩, by rw [ht]; exact hP, hD⟩, hS.F ht⟩) hS.2.2 dX6_plan_79
          · have hf := if_f cc60 hf
            refine lv_iload_n hx hb dX6_plan_63 rfl (lv_at hl 2 rfl) ?_
            refine lv_aload_n hx hb dX6_plan_64 rfl (lv_at hl 0 rfl) ?_
            refine va_get (D := D) (ci := 6) (v := .ref (a 8 0)) (C := RX6) (T := TX6) (N := 10) hx hb hG inG6 hown hK hP 0 at_C_0_0 rfl 7 (by decide) (hG _ g_231) (fun _ h9 => h9) rfl dX6_plan_65 ?_
            refine lv_aload_n hx hb dX6_plan_68 rfl (lv_at hl 0 rfl) ?_
            refine va_get (D := D) (ci := 6) (v := .ref (a 2 0)) (C := RX6) (T := TX6) (N := 10) hx hb hG inG6 hown hK hP 0 at_C_0_0 rfl 1 (by decide) (hG _ g_225) (fun _ h9 => h9) rfl dX6_plan_69 ?_
            obtain ⟨q4, hq4, hf⟩ := bd_x hf
            have hPc := subP [48, 49, 50, 4, 5, 6, 7, 8, 9, 10, 11, 12, 13, 14, 15, 16] sub_C_PL_8_2 hP
            have hDc := va_D.sub hD [48, 49, 50, 4, 5, 6, 7, 8, 9, 10, 11, 12, 13, 14, 15, 16] rfl sub_C_PL_8_2
            have hFc := va_free hD hS hA [48, 49, 50, 4, 5, 6, 7, 8, 9, 10, 11, 12, 13, 14, 15, 16] sub_C_PL_8_2
            refine va_calli (va_runV (As := [.ref (a 2 0)]) (rest := [.int p2]) ⟨hx, hb, hml, hown, hG⟩ (c_X3_lengthOfPlan l D cI cZ (a 8) (a 2) (X3 8) (X3 2) H.size hq4) (cwV 1 hG (gV g_455 g_456 g_457 g_75 g_458) rfl rfl rfl (by decide +kernel) ⟨Nat.le_of_ble_eq_true rfl, Nat.le_of_ble_eq_true rfl⟩) ⟨pre_blind, va_recv hK hPc (ci := 3) (q0 := 0) rfl rfl, fun U hU hW => ⟨rfl, pre_of hPc hK hDc hnw hU hW⟩⟩ rfl rfl hl.1 rfl (lv_room (Nat.le_of_ble_eq_true rfl)) dX6_plan_72 ⟨Nat.le_of_ble_eq_true rfl, Nat.le_of_ble_eq_true rfl⟩) hS (fun q _ h => hFc q h) hFc (fun v u t H locs ht hvm hw hB hz1 hk1 hS => ?_)
            have hw := hw.symm; subst hw
            obtain ⟨hP1, hD1⟩ := hB
            rw [ht] at hP1
            obtain ⟨hP, hD⟩ := back hP hD [48, 49, 50, 4, 5, 6, 7, 8, 9, 10, 11, 12, 13, 14, 15, 16] sub_C_PL_8_2 rfl hk1 hFc hP1 hD1
            have hP := wP put_C_PL_8_2_ hP
            have hD := wD put_C_PL_8_2_ hD
            refine lv_icmp_lt (tgt := 80) hx hb dX6_plan_75 (by decide) (fun cc75 => ?_) (fun cc75 => ?_)
            · have hf := if_t cc75 hf
              refine lv_iload_n hx hb dX6_plan_80 rfl (lv_at hl 3 rfl) ?_
              refine lv_if_ne (tgt := 96) hx hb dX6_plan_81 (by decide) (fun cc81 => ?_) (fun cc81 => ?_)
              · have hf := if_f cc81 hf
                refine lv_aload_n hx hb dX6_plan_96 rfl (lv_at hl 0 rfl) ?_
                refine va_get (D := D) (ci := 6) (v := .ref (a 8 0)) (C := RX6) (T := TX6) (N := 10) hx hb hG inG6 hown hK hP 0 at_C_0_0 rfl 7 (by decide) (hG _ g_231) (fun _ h9 => h9) rfl dX6_plan_97 ?_
                refine va_get (D := D) (ci := 3) (v := .ref (a 8 2)) (C := RX3) (T := TX3) (N := 4) hx hb hG inG3 hown hK hP 48 at_C_8_0 rfl 1 (by decide) (hG _ g_211) (fun _ h9 => h9) rfl dX6_plan_100 ?_
                refine lv_iload_n hx hb dX6_plan_103 rfl (lv_at hl 2 rfl) ?_
                obtain ⟨hb104, hf⟩ := gd hf
                refine va_iald (cA := cI) (n := 6) (f := (X3 8) 2) hx hb hK hP 50 0 at_C_8_2 rfl (inb_in hb104) dX6_plan_104 ?_
                exact W.iret (v := ((X3 8) 2 (Int32.toNatClampNeg p2))) hx hb hr (fun t ht hW => ⟨⟨((X3 8) 2 (Int32.toNatClampNeg p2)), X3, rfl, ⟨pr_1 hf, pr_2 hf⟩, by rw [ht]; exact hP, hD⟩, hS.F ht⟩) hS.2.2 dX6_plan_105
              · have hf := if_t cc81 hf
                refine lv_aload_n hx hb dX6_plan_84 rfl (lv_at hl 0 rfl) ?_
                refine va_get (D := D) (ci := 6) (v := .ref (a 8 0)) (C := RX6) (T := TX6) (N := 10) hx hb hG inG6 hown hK hP 0 at_C_0_0 rfl 7 (by decide) (hG _ g_231) (fun _ h9 => h9) rfl dX6_plan_85 ?_
                refine va_get (D := D) (ci := 3) (v := .ref (a 8 1)) (C := RX3) (T := TX3) (N := 4) hx hb hG inG3 hown hK hP 48 at_C_8_0 rfl 0 (by decide) (hG _ g_209) (fun _ h9 => h9) rfl dX6_plan_88 ?_
                refine lv_iload_n hx hb dX6_plan_91 rfl (lv_at hl 2 rfl) ?_
                obtain ⟨hb92, hf⟩ := gd hf
                refine va_iald (cA := cI) (n := 6) (f := (X3 8) 1) hx hb hK hP 49 0 at_C_8_1 rfl (inb_in hb92) dX6_plan_92 ?_
                refine lv_goto (tgt := 105) hx hb dX6_plan_93 (by decide) ?_
                exact W.iret (v := ((X3 8) 1 (Int32.toNatClampNeg p2))) hx hb hr (fun t ht hW => ⟨⟨((X3 8) 1 (Int32.toNatClampNeg p2)), X3, rfl, ⟨pr_1 hf, pr_2 hf⟩, by rw [ht]; exact hP, hD⟩, hS.F ht⟩) hS.2.2 dX6_plan_105
            · have hf := if_f cc75 hf
              refine lv_iconst (v := (-1 : Int32)) hx hb dX6_plan_78 (by decide) ?_
              exact W.iret (v := (-1 : Int32)) hx hb hr (fun t ht hW => ⟨⟨(-1 : Int32), X3, rfl, ⟨pr_1 hf, pr_2 hf⟩, by rw [ht]; exact hP, hD⟩, hS.F ht⟩) hS.2.2 dX6_plan_79
        · have hf := if_t cc41 hf
          refine lv_aload_n hx hb dX6_plan_44 rfl (lv_at hl 0 rfl) ?_
          refine va_get (D := D) (ci := 6) (v := .ref (a 2 0)) (C := RX6) (T := TX6) (N := 10) hx hb hG inG6 hown hK hP 0 at_C_0_0 rfl 1 (by decide) (hG _ g_225) (fun _ h9 => h9) rfl dX6_plan_45 ?_
          refine lv_aload_n hx hb dX6_plan_48 rfl (lv_at hl 0 rfl) ?_
          refine va_get (D := D) (ci := 6) (v := .ref (a 8 0)) (C := RX6) (T := TX6) (N := 10) hx hb hG inG6 hown hK hP 0 at_C_0_0 rfl 7 (by decide) (hG _ g_231) (fun _ h9 => h9) rfl dX6_plan_49 ?_
          refine va_get (D := D) (ci := 3) (v := .int ((X3 8) 0 3)) (C := RX3) (T := TX3) (N := 4) hx hb hG inG3 hown hK hP 48 at_C_8_0 rfl 3 (by decide) (hG _ g_214) (fun _ h9 => h9) rfl dX6_plan_52 ?_
          obtain ⟨q5, hq5, hf⟩ := bd_x hf
          have hPc := subP [4, 5, 6, 7, 8, 9, 10, 11, 12, 13, 14, 15, 16] sub_C_L_2 hP
          have hDc := va_D.sub hD [4, 5, 6, 7, 8, 9, 10, 11, 12, 13, 14, 15, 16] rfl sub_C_L_2
          have hFc := va_free hD hS hA [4, 5, 6, 7, 8, 9, 10, 11, 12, 13, 14, 15, 16] sub_C_L_2
          refine va_calli (va_runV (As := [.int ((X3 8) 0 3)]) (rest := []) ⟨hx, hb, hml, hown, hG⟩ (c_X2_worthOf l D cI cZ (a 2) (X3 2) ((X3 8) 0 3) H.size hq5) (cwV 1 hG (gV g_332 g_333 g_334 g_72 g_335) rfl rfl rfl (by decide +kernel) ⟨Nat.le_of_ble_eq_true rfl, Nat.le_of_ble_eq_true rfl⟩) ⟨pre_blind, va_recv hK hPc (ci := 2) (q0 := 0) rfl rfl, fun U hU hW => ⟨rfl, pre_of hPc hK hDc hnw hU hW⟩⟩ rfl rfl hl.1 rfl (lv_room (Nat.le_of_ble_eq_true rfl)) dX6_plan_55 ⟨Nat.le_of_ble_eq_true rfl, Nat.le_of_ble_eq_true rfl⟩) hS (fun q _ h => hFc q h) hFc (fun v u t H locs ht hvm hw hB hz1 hk1 hS => ?_)
          have hw := hw.symm; subst hw
          obtain ⟨hP1, hD1⟩ := hB
          rw [ht] at hP1
          obtain ⟨hP, hD⟩ := back hP hD [4, 5, 6, 7, 8, 9, 10, 11, 12, 13, 14, 15, 16] sub_C_L_2 rfl hk1 hFc hP1 hD1
          have hP := wP put_C_L_2_ hP
          have hD := wD put_C_L_2_ hD
          exact W.iret (v := q5) hx hb hr (fun t ht hW => ⟨⟨q5, X3, rfl, ⟨pr_1 hf, pr_2 hf⟩, by rw [ht]; exact hP, hD⟩, hS.F ht⟩) hS.2.2 dX6_plan_58
      · have hf := if_f cc17 hf
        refine lv_ldc hx hb hown (hG _ g_238) dX6_plan_20 ?_
        exact W.iret (v := (-1000000002 : Int32)) hx hb hr (fun t ht hW => ⟨⟨(-1000000002 : Int32), C, rfl, ⟨pr_1 hf, pr_2 hf⟩, by rw [ht]; exact hP, hD⟩, hS.F ht⟩) hS.2.2 dX6_plan_22
  · have hf := if_t cc5 hf
    refine lv_ldc hx hb hown (hG _ g_321) dX6_plan_8 ?_
    exact W.iret (v := (-1000000001 : Int32)) hx hb hr (fun t ht hW => ⟨⟨(-1000000001 : Int32), C, rfl, ⟨pr_1 hf, pr_2 hf⟩, by rw [ht]; exact hP, hD⟩, hS.F ht⟩) hS.2.2 dX6_plan_10
def f_X6_stops_b47 (X3 : CC) (v4 : Int32) (rc47 : Int32 → Option (Int32 × CC)) (v5 : Int32) : Option (Int32 × CC) := (if ((X3 2) 0 3) ≤ v5 then some ((-1 : Int32), X3) else bd (f_X6_has v4 v5) (fun (q6 : Int32) => (if q6 = 0 then some (v5, X3) else nm (v5 + (1 : Int32)) (fun (v7 : Int32) => rc47 v7))))
def f_X6_stops (C : CC) (p1 : Int32) : Option (Int32 × CC) := bd (f_X6_isFighter C p1) (fun (q1 : Int32) => (if q1 = 0 then some ((-1000000001 : Int32), C) else bd (f_X3_walk (C 8) (C 2) (C 4) p1) (fun (q2 : HC) => nm (va_up C 8 q2) (fun (X3 : CC) => (if inb p1 5 then nm (((X3 8) 0 3) ||| ((X3 4) 2 (Int32.toNatClampNeg p1))) (fun (v4 : Int32) => lp (fun _ => none : Int32 → Option (Int32 × CC)) (f_X6_stops_b47 X3 v4) FU (0 : Int32)) else none)))))
abbrev RM_X6_stops : Room := { frames := 6, cells := 0, slots := 0, locals := 147 }
set_option maxHeartbeats 4000000 in
set_option maxRecDepth 100000 in
theorem c_X6_stops (l : Launch) (D : va_G) (cI cZ : ClassId) (a : Nat → Nat → Nat) (C : CC) (p1 : Int32) (sz : Nat) {r : Int32 × CC} (hf : f_X6_stops C p1 = some r) : Met l yX6_stops (wM yX6_stops cX6_stops 4 (some .int)) RM_X6_stops (va_Pc [.ref (a 0 0), .int p1] (pre D cI cZ (cW cI a C) sz)) (QI D (va_A (cW cI a C) sz) (fun (u : CC) => (cW cI a u)) r) 0 0 (va_A (cW cI a C) sz) := by
  unfold f_X6_stops at hf
  refine Met.ofW (cc := cX6_stops) (maxL := 4) (ret := (some .int)) (by decide) rfl ?_
  intro p e s m args below meth c s₁ B hml hv
  obtain ⟨rfl, hsz, hP, hK, hD0, hnw⟩ := hv
  have hx := B.exec
  have hb := B.bytes
  have hr := B.returns
  have hts := atoms_spec (ws := wM yX6_stops cX6_stops 4 (some .int)) B.pre
  have hG : ∀ w ∈ GW, w.before (([.ref (a 0 0), .int p1] : List Value).toArray) s = true := fun w h => hts w (List.mem_cons_of_mem _ h)
  have hown : s.vm.findClass RX6 = some m.cls := findClass_of_methodNamed B.named
  have hlocks := B.notSynchronized
  subst hsz
  have hD := hD0.self (sz := s.heap.size)
  generalize hAe : va_A (cW cI a C) s.heap.size = A at hD ⊢
  have hA : ∀ q : Nat, s.heap.size ≤ q → A q := fun q h => by rw [← hAe]; exact Or.inr h
  have hS : va_S A s.heap s.heap [] := va_S.rf
  have hl := lv_entry ([.ref (a 0 0), .int p1]) (n := 4) (Nat.le_of_ble_eq_true rfl)
  rw [lg_entry_eq]
  generalize (lg_sl ([.ref (a 0 0), .int p1]) ++ List.replicate (4 - (lg_sl ([.ref (a 0 0), .int p1])).length) Slot.unset).toArray = ls at hl ⊢
  have hl : lv_has ls 4 [(0, .ref (a 0 0)), (1, .int p1)] := hl
  show W p l e RM_X6_stops s m (([.ref (a 0 0), .int p1] : List Value).toArray) below meth c s.heap [] 0 0 (MQ below (QI D A (fun (u : CC) => (cW cI a u)) r) (([.ref (a 0 0), .int p1] : List Value).toArray) s 0 0 A) (F0 m 0 ls [])
  refine lv_aload_n hx hb dX6_stops_0 rfl (lv_at hl 0 rfl) ?_
  refine lv_iload_n hx hb dX6_stops_1 rfl (lv_at hl 1 rfl) ?_
  obtain ⟨q1, hq1, hf⟩ := bd_x hf
  have hFc := freeS hD hS hA
  refine va_calli (va_runV (As := [.int p1]) (rest := []) ⟨hx, hb, hml, hown, hG⟩ (c_X6_isFighter l D cI cZ a C p1 s.heap.size hq1) (cwV 1 hG (gV g_318 g_319 g_13 g_70 g_320) rfl rfl rfl (by decide +kernel) ⟨Nat.le_of_ble_eq_true rfl, Nat.le_of_ble_eq_true rfl⟩) ⟨pre_blind, va_recv hK hP (ci := 6) (q0 := 0) rfl rfl, fun U hU hW => ⟨rfl, pre_of hP hK hD hnw hU hW⟩⟩ rfl rfl hl.1 rfl (lv_room (Nat.le_of_ble_eq_true rfl)) dX6_stops_2 ⟨Nat.le_of_ble_eq_true rfl, Nat.le_of_ble_eq_true rfl⟩) hS (fun q _ h => hFc q h) hFc (fun v u t H locs ht hvm hw hB hz1 hk1 hS => ?_)
  have hw := hw.symm; subst hw
  obtain ⟨hP1, hD1⟩ := hB
  rw [ht] at hP1
  have hP := hP1
  have hD := hD1.weaken (fun _ q _ h => hFc q.1 h)
  refine lv_if_ne (tgt := 11) hx hb dX6_stops_5 (by decide) (fun cc5 => ?_) (fun cc5 => ?_)
  · have hf := if_f cc5 hf
    refine lv_aload_n hx hb dX6_stops_11 rfl (lv_at hl 0 rfl) ?_
    refine va_get (D := D) (ci := 6) (v := .ref (a 8 0)) (C := RX6) (T := TX6) (N := 10) hx hb hG inG6 hown hK hP 0 at_C_0_0 rfl 7 (by decide) (hG _ g_231) (fun _ h9 => h9) rfl dX6_stops_12 ?_
    refine lv_aload_n hx hb dX6_stops_15 rfl (lv_at hl 0 rfl) ?_
    refine va_get (D := D) (ci := 6) (v := .ref (a 2 0)) (C := RX6) (T := TX6) (N := 10) hx hb hG inG6 hown hK hP 0 at_C_0_0 rfl 1 (by decide) (hG _ g_225) (fun _ h9 => h9) rfl dX6_stops_16 ?_
    refine lv_aload_n hx hb dX6_stops_19 rfl (lv_at hl 0 rfl) ?_
    refine va_get (D := D) (ci := 6) (v := .ref (a 4 0)) (C := RX6) (T := TX6) (N := 10) hx hb hG inG6 hown hK hP 0 at_C_0_0 rfl 3 (by decide) (hG _ g_227) (fun _ h9 => h9) rfl dX6_stops_20 ?_
    refine lv_iload_n hx hb dX6_stops_23 rfl (lv_at hl 1 rfl) ?_
    obtain ⟨q2, hq2, hf⟩ := bd_x hf
    have hPc := subP [48, 49, 50, 4, 5, 6, 7, 8, 9, 10, 11, 12, 13, 14, 15, 16, 30, 31, 32, 33, 34] sub_C_PLS_8_2_4 hP
    have hDc := va_D.sub hD [48, 49, 50, 4, 5, 6, 7, 8, 9, 10, 11, 12, 13, 14, 15, 16, 30, 31, 32, 33, 34] rfl sub_C_PLS_8_2_4
    have hFc := va_free hD hS hA [48, 49, 50, 4, 5, 6, 7, 8, 9, 10, 11, 12, 13, 14, 15, 16, 30, 31, 32, 33, 34] sub_C_PLS_8_2_4
    refine va_callv (va_runV (As := [.ref (a 2 0), .ref (a 4 0), .int p1]) (rest := []) ⟨hx, hb, hml, hown, hG⟩ (c_X3_walk l D cI cZ (a 8) (a 2) (a 4) (C 8) (C 2) (C 4) p1 H.size hq2) (cwV 3 hG (gV g_436 g_437 g_438 g_75 g_439) rfl rfl rfl (by decide +kernel) ⟨Nat.le_of_ble_eq_true rfl, Nat.le_of_ble_eq_true rfl⟩) ⟨pre_blind, va_recv hK hPc (ci := 3) (q0 := 0) rfl rfl, fun U hU hW => ⟨rfl, pre_of hPc hK hDc hnw hU hW⟩⟩ rfl rfl hl.1 rfl (lv_room (Nat.le_of_ble_eq_true rfl)) dX6_stops_24 ⟨Nat.le_of_ble_eq_true rfl, Nat.le_of_ble_eq_true rfl⟩) hS (fun q _ h => hFc q h) hFc (fun u t H locs ht hvm hw hB hz1 hk1 hS => ?_)
    have hw := hw.symm; subst hw
    obtain ⟨hP1, hD1⟩ := hB
    rw [ht] at hP1
    obtain ⟨hP, hD⟩ := back hP hD [48, 49, 50, 4, 5, 6, 7, 8, 9, 10, 11, 12, 13, 14, 15, 16, 30, 31, 32, 33, 34] sub_C_PLS_8_2_4 rfl hk1 hFc hP1 hD1
    obtain ⟨X3, eX3⟩ : ∃ y : CC, y = (va_up C 8 q2) := ⟨_, rfl⟩
    have hf := nm_x eX3 hf
    have hP := wP (put_C_PLS_8_2_4_0.trans (congrArg (fun z => cW cI a z) eX3.symm)) hP
    have hD := wD (put_C_PLS_8_2_4_0.trans (congrArg (fun z => cW cI a z) eX3.symm)) hD
    refine lv_aload_n hx hb dX6_stops_27 rfl (lv_at hl 0 rfl) ?_
    refine va_get (D := D) (ci := 6) (v := .ref (a 8 0)) (C := RX6) (T := TX6) (N := 10) hx hb hG inG6 hown hK hP 0 at_C_0_0 rfl 7 (by decide) (hG _ g_231) (fun _ h9 => h9) rfl dX6_stops_28 ?_
    refine va_get (D := D) (ci := 3) (v := .int ((X3 8) 0 3)) (C := RX3) (T := TX3) (N := 4) hx hb hG inG3 hown hK hP 48 at_C_8_0 rfl 3 (by decide) (hG _ g_214) (fun _ h9 => h9) rfl dX6_stops_31 ?_
    refine lv_aload_n hx hb dX6_stops_34 rfl (lv_at hl 0 rfl) ?_
    refine va_get (D := D) (ci := 6) (v := .ref (a 4 0)) (C := RX6) (T := TX6) (N := 10) hx hb hG inG6 hown hK hP 0 at_C_0_0 rfl 3 (by decide) (hG _ g_227) (fun _ h9 => h9) rfl dX6_stops_35 ?_
    refine va_get (D := D) (ci := 4) (v := .ref (a 4 2)) (C := RX4) (T := TX4) (N := 7) hx hb hG inG4 hown hK hP 30 at_C_4_0 rfl 1 (by decide) (hG _ g_178) (fun _ h9 => h9) rfl dX6_stops_38 ?_
    refine lv_iload_n hx hb dX6_stops_41 rfl (lv_at hl 1 rfl) ?_
    obtain ⟨hb42, hf⟩ := gd hf
    refine va_iald (cA := cI) (n := 5) (f := (X3 4) 2) hx hb hK hP 32 0 at_C_4_2 rfl (inb_in hb42) dX6_stops_42 ?_
    refine lv_ior hx hb dX6_stops_43 ?_
    refine lv_topi (fun v4 ev4 => ?_)
    have hf := nm_x ev4 hf
    refine lv_istore_n (lv' := [(2, .int v4), (0, .ref (a 0 0)), (1, .int p1)]) hx hb dX6_stops_44 rfl hl (by decide) rfl (fun ls hl => ?_)
    refine lv_iconst (v := (0 : Int32)) hx hb dX6_stops_45 (by decide) ?_
    refine lv_istore_n (lv' := [(3, .int (0 : Int32)), (2, .int v4), (0, .ref (a 0 0)), (1, .int p1)]) hx hb dX6_stops_46 rfl hl (by decide) rfl (fun ls hl => ?_)
    have L47 : ∀ (n : Nat) (v5 : Int32) (H : Heap) (locs : List Loc) (ls : Array Slot), va_P D vwCl (cW cI a X3) H → va_D A (cW cI a X3) → va_S A s.heap H locs → lv_has ls 4 [(0, .ref (a 0 0)), (2, .int v4), (3, .int v5)] → lp (fun _ => none : Int32 → Option (Int32 × CC)) (f_X6_stops_b47 X3 v4) n v5 = some r → W p l e RM_X6_stops s m (([.ref (a 0 0), .int p1] : List Value).toArray) below meth c H locs 0 0 (MQ below (QI D A (fun (u : CC) => (cW cI a u)) r) (([.ref (a 0 0), .int p1] : List Value).toArray) s 0 0 A) (F0 m 47 ls []) := by
      intro n
      induction n with
      | zero => intro v5 H locs ls _ _ _ _ hf; cases (show (none : Option (Int32 × CC)) = some r from hf)
      | succ n ih47 =>
        intro v5 H locs ls hP hD hS hl hf
        have hf : (f_X6_stops_b47 X3 v4) (lp (fun _ => none : Int32 → Option (Int32 × CC)) (f_X6_stops_b47 X3 v4) n) v5 = some r := hf
        generalize lp (fun _ => none : Int32 → Option (Int32 × CC)) (f_X6_stops_b47 X3 v4) n = rc47 at ih47 hf
        unfold f_X6_stops_b47 at hf
        refine lv_iload_n hx hb dX6_stops_47 rfl (lv_at hl 2 rfl) ?_
        refine lv_aload_n hx hb dX6_stops_48 rfl (lv_at hl 0 rfl) ?_
        refine va_get (D := D) (ci := 6) (v := .ref (a 2 0)) (C := RX6) (T := TX6) (N := 10) hx hb hG inG6 hown hK hP 0 at_C_0_0 rfl 1 (by decide) (hG _ g_225) (fun _ h9 => h9) rfl dX6_stops_49 ?_
        refine va_get (D := D) (ci := 2) (v := .int ((X3 2) 0 3)) (C := RX2) (T := TX2) (N := 18) hx hb hG inG2 hown hK hP 4 at_C_2_0 rfl 3 (by decide) (hG _ g_121) (fun _ h9 => h9) rfl dX6_stops_52 ?_
        refine lv_icmp_ge (tgt := 74) hx hb dX6_stops_55 (by decide) (fun cc55 => ?_) (fun cc55 => ?_)
        · have hf := if_t cc55 hf
          refine lv_iconst (v := (-1 : Int32)) hx hb dX6_stops_74 (by decide) ?_
          exact W.iret (v := (-1 : Int32)) hx hb hr (fun t ht hW => ⟨⟨(-1 : Int32), X3, rfl, ⟨pr_1 hf, pr_2 hf⟩, by rw [ht]; exact hP, hD⟩, hS.F ht⟩) hS.2.2 dX6_stops_75
        · have hf := if_f cc55 hf
          refine lv_iload_n hx hb dX6_stops_58 rfl (lv_at hl 1 rfl) ?_
          refine lv_iload_n hx hb dX6_stops_59 rfl (lv_at hl 2 rfl) ?_
          obtain ⟨q6, hq6, hf⟩ := bd_x hf
          have hFc := va_free (wc := []) hD hS hA [] rfl
          refine va_calli (va_runS (As := [.int v4, .int v5]) (rest := []) ⟨hx, hb, hml, hown, hG⟩ (c_X6_has l D cI cZ v4 v5 H.size hq6) (cwS 2 hG (gS g_386 g_284 g_70 g_285) rfl rfl rfl (by decide +kernel) ⟨Nat.le_of_ble_eq_true rfl, Nat.le_of_ble_eq_true rfl⟩) ⟨pre_blind, fun U hU hW => ⟨rfl, pre_of P_nil hK D_nil hnw hU hW⟩⟩ rfl rfl hl.1 rfl (lv_room (Nat.le_of_ble_eq_true rfl)) dX6_stops_60 ⟨Nat.le_of_ble_eq_true rfl, Nat.le_of_ble_eq_true rfl⟩) hS (fun q _ h => hFc q h) hFc (fun v u t H locs ht hvm hw hB hz1 hk1 hS => ?_)
          have hw := hw.symm; subst hw
          obtain ⟨hP1, hD1⟩ := hB
          rw [ht] at hP1
          obtain ⟨hP, hD⟩ := back hP hD [] rfl rfl hk1 hFc hP1 hD1
          refine lv_if_ne (tgt := 68) hx hb dX6_stops_63 (by decide) (fun cc63 => ?_) (fun cc63 => ?_)
          · have hf := if_f cc63 hf
            obtain ⟨v7, ev7⟩ : ∃ y : Int32, y = (v5 + (1 : Int32)) := ⟨_, rfl⟩
            have hf := nm_x ev7 hf
            refine lv_iinc (v := v7) (lv' := [(3, .int v7), (0, .ref (a 0 0)), (2, .int v4)]) hx hb dX6_stops_68 hl (k := 2) rfl (by rw [ev7]; rfl) (by decide) rfl (fun ls hl => ?_)
            refine lv_goto (tgt := 47) hx hb dX6_stops_71 (by decide) ?_
            exact ih47 v7 _ _ _ hP hD hS (lv_sub hl [1, 2, 0] rfl) hf
          · have hf := if_t cc63 hf
            refine lv_iload_n hx hb dX6_stops_66 rfl (lv_at hl 2 rfl) ?_
            exact W.iret (v := v5) hx hb hr (fun t ht hW => ⟨⟨v5, X3, rfl, ⟨pr_1 hf, pr_2 hf⟩, by rw [ht]; exact hP, hD⟩, hS.F ht⟩) hS.2.2 dX6_stops_67
    exact L47 FU (0 : Int32) _ _ _ hP hD hS (lv_sub hl [2, 1, 0] rfl) hf
  · have hf := if_t cc5 hf
    refine lv_ldc hx hb hown (hG _ g_321) dX6_stops_8 ?_
    exact W.iret (v := (-1000000001 : Int32)) hx hb hr (fun t ht hW => ⟨⟨(-1000000001 : Int32), C, rfl, ⟨pr_1 hf, pr_2 hf⟩, by rw [ht]; exact hP, hD⟩, hS.F ht⟩) hS.2.2 dX6_stops_10
def f_X6_write_j16 (C : CC) (p1 : Int32)  : Option (Int32 × CC) := bd (f_X0_settle (C 9) (C 2) (C 4)) (fun (q1 : Int32 × HC) => nm (va_up C 9 q1.2) (fun (X2 : CC) => nm q1.1 (fun (v3 : Int32) => (if v3 = (-1 : Int32) then some (v3, X2) else (if p1 = (-1 : Int32) then some (v3, X2) else (if inb p1 5 then some (((X2 9) 1 (Int32.toNatClampNeg p1)), X2) else none))))))
def f_X6_write (C : CC) (p1 : Int32) : Option (Int32 × CC) := (if p1 = (-1 : Int32) then f_X6_write_j16 C p1 else bd (f_X6_isFighter C p1) (fun (q4 : Int32) => (if q4 = 0 then some ((-1000000001 : Int32), C) else f_X6_write_j16 C p1)))
abbrev RM_X6_write : Room := { frames := 6, cells := 0, slots := 0, locals := 145 }
set_option maxHeartbeats 4000000 in
set_option maxRecDepth 100000 in
theorem c_X6_write (l : Launch) (D : va_G) (cI cZ : ClassId) (a : Nat → Nat → Nat) (C : CC) (p1 : Int32) (sz : Nat) {r : Int32 × CC} (hf : f_X6_write C p1 = some r) : Met l yX6_write (wM yX6_write cX6_write 3 (some .int)) RM_X6_write (va_Pc [.ref (a 0 0), .int p1] (pre D cI cZ (cW cI a C) sz)) (QI D (va_A (cW cI a C) sz) (fun (u : CC) => (cW cI a u)) r) 0 0 (va_A (cW cI a C) sz) := by
  unfold f_X6_write at hf
  refine Met.ofW (cc := cX6_write) (maxL := 3) (ret := (some .int)) (by decide) rfl ?_
  intro p e s m args below meth c s₁ B hml hv
  obtain ⟨rfl, hsz, hP, hK, hD0, hnw⟩ := hv
  have hx := B.exec
  have hb := B.bytes
  have hr := B.returns
  have hts := atoms_spec (ws := wM yX6_write cX6_write 3 (some .int)) B.pre
  have hG : ∀ w ∈ GW, w.before (([.ref (a 0 0), .int p1] : List Value).toArray) s = true := fun w h => hts w (List.mem_cons_of_mem _ h)
  have hown : s.vm.findClass RX6 = some m.cls := findClass_of_methodNamed B.named
  have hlocks := B.notSynchronized
  subst hsz
  have hD := hD0.self (sz := s.heap.size)
  generalize hAe : va_A (cW cI a C) s.heap.size = A at hD ⊢
  have hA : ∀ q : Nat, s.heap.size ≤ q → A q := fun q h => by rw [← hAe]; exact Or.inr h
  have hS : va_S A s.heap s.heap [] := va_S.rf
  have hl := lv_entry ([.ref (a 0 0), .int p1]) (n := 3) (Nat.le_of_ble_eq_true rfl)
  rw [lg_entry_eq]
  generalize (lg_sl ([.ref (a 0 0), .int p1]) ++ List.replicate (3 - (lg_sl ([.ref (a 0 0), .int p1])).length) Slot.unset).toArray = ls at hl ⊢
  have hl : lv_has ls 3 [(0, .ref (a 0 0)), (1, .int p1)] := hl
  show W p l e RM_X6_write s m (([.ref (a 0 0), .int p1] : List Value).toArray) below meth c s.heap [] 0 0 (MQ below (QI D A (fun (u : CC) => (cW cI a u)) r) (([.ref (a 0 0), .int p1] : List Value).toArray) s 0 0 A) (F0 m 0 ls [])
  refine lv_iload_n hx hb dX6_write_0 rfl (lv_at hl 1 rfl) ?_
  refine lv_iconst (v := (-1 : Int32)) hx hb dX6_write_1 (by decide) ?_
  have J16 : ∀  (H : Heap) (locs : List Loc) (ls : Array Slot), va_P D vwCl (cW cI a C) H → va_D A (cW cI a C) → va_S A s.heap H locs → lv_has ls 3 [(0, .ref (a 0 0)), (1, .int p1)] → f_X6_write_j16 C p1  = some r → W p l e RM_X6_write s m (([.ref (a 0 0), .int p1] : List Value).toArray) below meth c H locs 0 0 (MQ below (QI D A (fun (u : CC) => (cW cI a u)) r) (([.ref (a 0 0), .int p1] : List Value).toArray) s 0 0 A) (F0 m 16 ls []) := by
    intro  H locs ls hP hD hS hl hf
    unfold f_X6_write_j16 at hf
    refine lv_aload_n hx hb dX6_write_16 rfl (lv_at hl 0 rfl) ?_
    refine va_get (D := D) (ci := 6) (v := .ref (a 9 0)) (C := RX6) (T := TX6) (N := 10) hx hb hG inG6 hown hK hP 0 at_C_0_0 rfl 8 (by decide) (hG _ g_232) (fun _ h9 => h9) rfl dX6_write_17 ?_
    refine lv_aload_n hx hb dX6_write_20 rfl (lv_at hl 0 rfl) ?_
    refine va_get (D := D) (ci := 6) (v := .ref (a 2 0)) (C := RX6) (T := TX6) (N := 10) hx hb hG inG6 hown hK hP 0 at_C_0_0 rfl 1 (by decide) (hG _ g_225) (fun _ h9 => h9) rfl dX6_write_21 ?_
    refine lv_aload_n hx hb dX6_write_24 rfl (lv_at hl 0 rfl) ?_
    refine va_get (D := D) (ci := 6) (v := .ref (a 4 0)) (C := RX6) (T := TX6) (N := 10) hx hb hG inG6 hown hK hP 0 at_C_0_0 rfl 3 (by decide) (hG _ g_227) (fun _ h9 => h9) rfl dX6_write_25 ?_
    obtain ⟨q1, hq1, hf⟩ := bd_x hf
    have hPc := subP [51, 52, 53, 4, 5, 6, 7, 8, 9, 10, 11, 12, 13, 14, 15, 16, 30, 31, 32, 33, 34] sub_C_WLS_9_2_4 hP
    have hDc := va_D.sub hD [51, 52, 53, 4, 5, 6, 7, 8, 9, 10, 11, 12, 13, 14, 15, 16, 30, 31, 32, 33, 34] rfl sub_C_WLS_9_2_4
    have hFc := va_free hD hS hA [51, 52, 53, 4, 5, 6, 7, 8, 9, 10, 11, 12, 13, 14, 15, 16, 30, 31, 32, 33, 34] sub_C_WLS_9_2_4
    refine va_calli (va_runV (As := [.ref (a 2 0), .ref (a 4 0)]) (rest := []) ⟨hx, hb, hml, hown, hG⟩ (c_X0_settle l D cI cZ (a 9) (a 2) (a 4) (C 9) (C 2) (C 4) H.size hq1) (cwV 2 hG (gV g_467 g_468 g_469 g_76 g_470) rfl rfl rfl (by decide +kernel) ⟨Nat.le_of_ble_eq_true rfl, Nat.le_of_ble_eq_true rfl⟩) ⟨pre_blind, va_recv hK hPc (ci := 0) (q0 := 0) rfl rfl, fun U hU hW => ⟨rfl, pre_of hPc hK hDc hnw hU hW⟩⟩ rfl rfl hl.1 rfl (lv_room (Nat.le_of_ble_eq_true rfl)) dX6_write_28 ⟨Nat.le_of_ble_eq_true rfl, Nat.le_of_ble_eq_true rfl⟩) hS (fun q _ h => hFc q h) hFc (fun v u t H locs ht hvm hw hB hz1 hk1 hS => ?_)
    obtain ⟨rfl, rfl⟩ := hw
    obtain ⟨hP1, hD1⟩ := hB
    rw [ht] at hP1
    obtain ⟨hP, hD⟩ := back hP hD [51, 52, 53, 4, 5, 6, 7, 8, 9, 10, 11, 12, 13, 14, 15, 16, 30, 31, 32, 33, 34] sub_C_WLS_9_2_4 rfl hk1 hFc hP1 hD1
    obtain ⟨X2, eX2⟩ : ∃ y : CC, y = (va_up C 9 q1.2) := ⟨_, rfl⟩
    have hf := nm_x eX2 hf
    have hP := wP (put_C_WLS_9_2_4_0.trans (congrArg (fun z => cW cI a z) eX2.symm)) hP
    have hD := wD (put_C_WLS_9_2_4_0.trans (congrArg (fun z => cW cI a z) eX2.symm)) hD
    refine lv_topi (fun v3 ev3 => ?_)
    have hf := nm_x ev3 hf
    refine lv_istore_n (lv' := [(2, .int v3), (0, .ref (a 0 0)), (1, .int p1)]) hx hb dX6_write_31 rfl hl (by decide) rfl (fun ls hl => ?_)
    refine lv_iload_n hx hb dX6_write_32 rfl (lv_at hl 0 rfl) ?_
    refine lv_iconst (v := (-1 : Int32)) hx hb dX6_write_33 (by decide) ?_
    refine lv_icmp_eq (tgt := 42) hx hb dX6_write_34 (by decide) (fun cc34 => ?_) (fun cc34 => ?_)
    · have hf := if_t cc34 hf
      refine lv_iload_n hx hb dX6_write_42 rfl (lv_at hl 0 rfl) ?_
      exact W.iret (v := v3) hx hb hr (fun t ht hW => ⟨⟨v3, X2, rfl, ⟨pr_1 hf, pr_2 hf⟩, by rw [ht]; exact hP, hD⟩, hS.F ht⟩) hS.2.2 dX6_write_43
    · have hf := if_f cc34 hf
      refine lv_iload_n hx hb dX6_write_37 rfl (lv_at hl 2 rfl) ?_
      refine lv_iconst (v := (-1 : Int32)) hx hb dX6_write_38 (by decide) ?_
      refine lv_icmp_ne (tgt := 44) hx hb dX6_write_39 (by decide) (fun cc39 => ?_) (fun cc39 => ?_)
      · have hf := if_f cc39 hf
        refine lv_aload_n hx hb dX6_write_44 rfl (lv_at hl 1 rfl) ?_
        refine va_get (D := D) (ci := 6) (v := .ref (a 9 0)) (C := RX6) (T := TX6) (N := 10) hx hb hG inG6 hown hK hP 0 at_C_0_0 rfl 8 (by decide) (hG _ g_232) (fun _ h9 => h9) rfl dX6_write_45 ?_
        refine va_get (D := D) (ci := 0) (v := .ref (a 9 1)) (C := RX0) (T := TX0) (N := 2) hx hb hG inG0 hown hK hP 51 at_C_9_0 rfl 0 (by decide) (hG _ g_222) (fun _ h9 => h9) rfl dX6_write_48 ?_
        refine lv_iload_n hx hb dX6_write_51 rfl (lv_at hl 2 rfl) ?_
        obtain ⟨hb52, hf⟩ := gd hf
        refine va_iald (cA := cI) (n := 5) (f := (X2 9) 1) hx hb hK hP 52 0 at_C_9_1 rfl (inb_in hb52) dX6_write_52 ?_
        exact W.iret (v := ((X2 9) 1 (Int32.toNatClampNeg p1))) hx hb hr (fun t ht hW => ⟨⟨((X2 9) 1 (Int32.toNatClampNeg p1)), X2, rfl, ⟨pr_1 hf, pr_2 hf⟩, by rw [ht]; exact hP, hD⟩, hS.F ht⟩) hS.2.2 dX6_write_53
      · have hf := if_t cc39 hf
        refine lv_iload_n hx hb dX6_write_42 rfl (lv_at hl 0 rfl) ?_
        exact W.iret (v := v3) hx hb hr (fun t ht hW => ⟨⟨v3, X2, rfl, ⟨pr_1 hf, pr_2 hf⟩, by rw [ht]; exact hP, hD⟩, hS.F ht⟩) hS.2.2 dX6_write_43
  refine lv_icmp_eq (tgt := 16) hx hb dX6_write_2 (by decide) (fun cc2 => ?_) (fun cc2 => ?_)
  · have hf := if_t cc2 hf
    exact J16  _ _ _ hP hD hS (lv_sub hl [0, 1] rfl) hf
  · have hf := if_f cc2 hf
    refine lv_aload_n hx hb dX6_write_5 rfl (lv_at hl 0 rfl) ?_
    refine lv_iload_n hx hb dX6_write_6 rfl (lv_at hl 1 rfl) ?_
    obtain ⟨q4, hq4, hf⟩ := bd_x hf
    have hFc := freeS hD hS hA
    refine va_calli (va_runV (As := [.int p1]) (rest := []) ⟨hx, hb, hml, hown, hG⟩ (c_X6_isFighter l D cI cZ a C p1 s.heap.size hq4) (cwV 1 hG (gV g_318 g_319 g_13 g_70 g_320) rfl rfl rfl (by decide +kernel) ⟨Nat.le_of_ble_eq_true rfl, Nat.le_of_ble_eq_true rfl⟩) ⟨pre_blind, va_recv hK hP (ci := 6) (q0 := 0) rfl rfl, fun U hU hW => ⟨rfl, pre_of hP hK hD hnw hU hW⟩⟩ rfl rfl hl.1 rfl (lv_room (Nat.le_of_ble_eq_true rfl)) dX6_write_7 ⟨Nat.le_of_ble_eq_true rfl, Nat.le_of_ble_eq_true rfl⟩) hS (fun q _ h => hFc q h) hFc (fun v u t H locs ht hvm hw hB hz1 hk1 hS => ?_)
    have hw := hw.symm; subst hw
    obtain ⟨hP1, hD1⟩ := hB
    rw [ht] at hP1
    have hP := hP1
    have hD := hD1.weaken (fun _ q _ h => hFc q.1 h)
    refine lv_if_ne (tgt := 16) hx hb dX6_write_10 (by decide) (fun cc10 => ?_) (fun cc10 => ?_)
    · have hf := if_f cc10 hf
      exact J16  _ _ _ hP hD hS (lv_sub hl [0, 1] rfl) hf
    · have hf := if_t cc10 hf
      refine lv_ldc hx hb hown (hG _ g_321) dX6_write_13 ?_
      exact W.iret (v := (-1000000001 : Int32)) hx hb hr (fun t ht hW => ⟨⟨(-1000000001 : Int32), C, rfl, ⟨pr_1 hf, pr_2 hf⟩, by rw [ht]; exact hP, hD⟩, hS.F ht⟩) hS.2.2 dX6_write_15
def f_X6_commonDivisor_j21 (rc2 : Int32 → Option (Int32)) (v1 : Int32)  : Option (Int32) := nm (v1 + (-1 : Int32)) (fun (v2 : Int32) => rc2 v2)
def f_X6_commonDivisor_b2 (p1 : Int32) (p2 : Int32) (rc2 : Int32 → Option (Int32)) (v1 : Int32) : Option (Int32) := (if v1 ≤ (1 : Int32) then some (1 : Int32) else (if ¬ v1 = 0 then (if (p1 - p1 / v1 * v1) = 0 then (if ¬ v1 = 0 then (if (p2 - p2 / v1 * v1) = 0 then some v1 else f_X6_commonDivisor_j21 rc2 v1) else none) else f_X6_commonDivisor_j21 rc2 v1) else none))
def f_X6_commonDivisor (p1 : Int32) (p2 : Int32) : Option (Int32) := lp (fun _ => none : Int32 → Option (Int32)) (f_X6_commonDivisor_b2 p1 p2) FU p1
abbrev RM_X6_commonDivisor : Room := { frames := 0, cells := 0, slots := 0, locals := 0 }
set_option maxHeartbeats 4000000 in
set_option maxRecDepth 100000 in
theorem c_X6_commonDivisor (l : Launch) (D : va_G) (cI cZ : ClassId)  (p1 : Int32) (p2 : Int32) (sz : Nat) {r : Int32} (hf : f_X6_commonDivisor p1 p2 = some r) : Met l yX6_commonDivisor (wM yX6_commonDivisor cX6_commonDivisor 3 (some .int)) RM_X6_commonDivisor (va_Pc [.int p1, .int p2] (pre D cI cZ ([] : va_W) sz)) (QI0 D (va_A ([] : va_W) sz) ([] : va_W) r) 0 0 (va_A ([] : va_W) sz) := by
  unfold f_X6_commonDivisor at hf
  refine Met.ofW (cc := cX6_commonDivisor) (maxL := 3) (ret := (some .int)) (by decide) rfl ?_
  intro p e s m args below meth c s₁ B hml hv
  obtain ⟨rfl, hsz, hP, hK, hD0, hnw⟩ := hv
  have hx := B.exec
  have hb := B.bytes
  have hr := B.returns
  have hts := atoms_spec (ws := wM yX6_commonDivisor cX6_commonDivisor 3 (some .int)) B.pre
  have hG : ∀ w ∈ GW, w.before (([.int p1, .int p2] : List Value).toArray) s = true := fun w h => hts w (List.mem_cons_of_mem _ h)
  have hown : s.vm.findClass RX6 = some m.cls := findClass_of_methodNamed B.named
  have hlocks := B.notSynchronized
  subst hsz
  have hD := hD0.self (sz := s.heap.size)
  generalize hAe : va_A ([] : va_W) s.heap.size = A at hD ⊢
  have hA : ∀ q : Nat, s.heap.size ≤ q → A q := fun q h => by rw [← hAe]; exact Or.inr h
  have hS : va_S A s.heap s.heap [] := va_S.rf
  have hl := lv_entry ([.int p1, .int p2]) (n := 3) (Nat.le_of_ble_eq_true rfl)
  rw [lg_entry_eq]
  generalize (lg_sl ([.int p1, .int p2]) ++ List.replicate (3 - (lg_sl ([.int p1, .int p2])).length) Slot.unset).toArray = ls at hl ⊢
  have hl : lv_has ls 3 [(0, .int p1), (1, .int p2)] := hl
  show W p l e RM_X6_commonDivisor s m (([.int p1, .int p2] : List Value).toArray) below meth c s.heap [] 0 0 (MQ below (QI0 D A ([] : va_W) r) (([.int p1, .int p2] : List Value).toArray) s 0 0 A) (F0 m 0 ls [])
  refine lv_iload_n hx hb dX6_commonDivisor_0 rfl (lv_at hl 0 rfl) ?_
  refine lv_istore_n (lv' := [(2, .int p1), (0, .int p1), (1, .int p2)]) hx hb dX6_commonDivisor_1 rfl hl (by decide) rfl (fun ls hl => ?_)
  have L2 : ∀ (n : Nat) (v1 : Int32) (H : Heap) (locs : List Loc) (ls : Array Slot), va_P D vwCl ([] : va_W) H → va_D A ([] : va_W) → va_S A s.heap H locs → lv_has ls 3 [(0, .int p1), (1, .int p2), (2, .int v1)] → lp (fun _ => none : Int32 → Option (Int32)) (f_X6_commonDivisor_b2 p1 p2) n v1 = some r → W p l e RM_X6_commonDivisor s m (([.int p1, .int p2] : List Value).toArray) below meth c H locs 0 0 (MQ below (QI0 D A ([] : va_W) r) (([.int p1, .int p2] : List Value).toArray) s 0 0 A) (F0 m 2 ls []) := by
    intro n
    induction n with
    | zero => intro v1 H locs ls _ _ _ _ hf; cases (show (none : Option (Int32)) = some r from hf)
    | succ n ih2 =>
      intro v1 H locs ls hP hD hS hl hf
      have hf : (f_X6_commonDivisor_b2 p1 p2) (lp (fun _ => none : Int32 → Option (Int32)) (f_X6_commonDivisor_b2 p1 p2) n) v1 = some r := hf
      generalize lp (fun _ => none : Int32 → Option (Int32)) (f_X6_commonDivisor_b2 p1 p2) n = rc2 at ih2 hf
      unfold f_X6_commonDivisor_b2 at hf
      refine lv_iload_n hx hb dX6_commonDivisor_2 rfl (lv_at hl 2 rfl) ?_
      refine lv_iconst (v := (1 : Int32)) hx hb dX6_commonDivisor_3 (by decide) ?_
      refine lv_icmp_le (tgt := 27) hx hb dX6_commonDivisor_4 (by decide) (fun cc4 => ?_) (fun cc4 => ?_)
      · have hf := if_t cc4 hf
        refine lv_iconst (v := (1 : Int32)) hx hb dX6_commonDivisor_27 (by decide) ?_
        exact W.iret (v := (1 : Int32)) hx hb hr (fun t ht hW => ⟨⟨(1 : Int32), (), rfl, Option.some.inj hf, by rw [ht]; exact hP, hD⟩, hS.F ht⟩) hS.2.2 dX6_commonDivisor_28
      · have hf := if_f cc4 hf
        refine lv_iload_n hx hb dX6_commonDivisor_7 rfl (lv_at hl 0 rfl) ?_
        refine lv_iload_n hx hb dX6_commonDivisor_8 rfl (lv_at hl 2 rfl) ?_
        obtain ⟨hz9, hf⟩ := gd hf
        refine lv_irem hx hb dX6_commonDivisor_9 hz9 ?_
        have J21 : ∀  (H : Heap) (locs : List Loc) (ls : Array Slot), va_P D vwCl ([] : va_W) H → va_D A ([] : va_W) → va_S A s.heap H locs → lv_has ls 3 [(0, .int p1), (1, .int p2), (2, .int v1)] → f_X6_commonDivisor_j21 rc2 v1  = some r → W p l e RM_X6_commonDivisor s m (([.int p1, .int p2] : List Value).toArray) below meth c H locs 0 0 (MQ below (QI0 D A ([] : va_W) r) (([.int p1, .int p2] : List Value).toArray) s 0 0 A) (F0 m 21 ls []) := by
          intro  H locs ls hP hD hS hl hf
          unfold f_X6_commonDivisor_j21 at hf
          obtain ⟨v2, ev2⟩ : ∃ y : Int32, y = (v1 + (-1 : Int32)) := ⟨_, rfl⟩
          have hf := nm_x ev2 hf
          refine lv_iinc (v := v2) (lv' := [(2, .int v2), (0, .int p1), (1, .int p2)]) hx hb dX6_commonDivisor_21 hl (k := 2) rfl (by rw [ev2]; rfl) (by decide) rfl (fun ls hl => ?_)
          refine lv_goto (tgt := 2) hx hb dX6_commonDivisor_24 (by decide) ?_
          exact ih2 v2 _ _ _ hP hD hS (lv_sub hl [1, 2, 0] rfl) hf
        refine lv_if_ne (tgt := 21) hx hb dX6_commonDivisor_10 (by decide) (fun cc10 => ?_) (fun cc10 => ?_)
        · have hf := if_f cc10 hf
          exact J21  _ _ _ hP hD hS (lv_sub hl [0, 1, 2] rfl) hf
        · have hf := if_t cc10 hf
          refine lv_iload_n hx hb dX6_commonDivisor_13 rfl (lv_at hl 1 rfl) ?_
          refine lv_iload_n hx hb dX6_commonDivisor_14 rfl (lv_at hl 2 rfl) ?_
          obtain ⟨hz15, hf⟩ := gd hf
          refine lv_irem hx hb dX6_commonDivisor_15 hz15 ?_
          refine lv_if_ne (tgt := 21) hx hb dX6_commonDivisor_16 (by decide) (fun cc16 => ?_) (fun cc16 => ?_)
          · have hf := if_f cc16 hf
            exact J21  _ _ _ hP hD hS (lv_sub hl [0, 1, 2] rfl) hf
          · have hf := if_t cc16 hf
            refine lv_iload_n hx hb dX6_commonDivisor_19 rfl (lv_at hl 2 rfl) ?_
            exact W.iret (v := v1) hx hb hr (fun t ht hW => ⟨⟨v1, (), rfl, Option.some.inj hf, by rw [ht]; exact hP, hD⟩, hS.F ht⟩) hS.2.2 dX6_commonDivisor_20
  exact L2 FU p1 _ _ _ hP hD hS (lv_sub hl [1, 2, 0] rfl) hf
def f_X6_tells_j107 (v1 : Int32) (v2 : Int32) (v4 : Int32) : Option (Int32) := bd (f_X6_commonDivisor v2 v1) (fun (q5 : Int32) => (if ¬ q5 = 0 then some (v4 / q5) else none))
def f_X6_tells_j83 (rc41 : Int32 → Int32 → Int32 → Option (Int32)) (v3 : Int32) (v7 : Int32) (v8 : Int32) : Option (Int32) := nm (v3 + (1 : Int32)) (fun (v9 : Int32) => rc41 v7 v8 v9)
def f_X6_tells_b41 (C : CC) (p1 : Int32) (p2 : Int32) (p3 : Int32) (rc41 : Int32 → Int32 → Int32 → Option (Int32)) (v1 : Int32) (v2 : Int32) (v3 : Int32) : Option (Int32) := (if ((C 2) 0 1) ≤ v3 then (if v2 = 0 then some p3 else (if p3 = 0 then f_X6_tells_j107 v1 v2 v2 else f_X6_tells_j107 v1 v2 v1)) else bd (f_X6_readsNow C v3) (fun (q6 : Int32) => (if q6 = p1 then nm (v1 + (1 : Int32)) (fun (v10 : Int32) => (if inb v3 5 then (if ((C 2) 2 (Int32.toNatClampNeg v3)) < p2 then f_X6_tells_j83 rc41 v3 v10 v2 else nm (v2 + (1 : Int32)) (fun (v11 : Int32) => f_X6_tells_j83 rc41 v3 v10 v11)) else none)) else f_X6_tells_j83 rc41 v3 v1 v2)))
def f_X6_tells (C : CC) (p1 : Int32) (p2 : Int32) (p3 : Int32) : Option (Int32) := (if p1 < 0 then some (-1000000002 : Int32) else (if (99 : Int32) < p1 then some (-1000000002 : Int32) else (if p2 < 0 then some (-1000000002 : Int32) else (if (99 : Int32) < p2 then some (-1000000002 : Int32) else (if p3 < 0 then some (-1000000002 : Int32) else (if p3 ≤ (1 : Int32) then lp (fun _ _ _ => none : Int32 → Int32 → Int32 → Option (Int32)) (f_X6_tells_b41 C p1 p2 p3) FU (0 : Int32) (0 : Int32) (0 : Int32) else some (-1000000002 : Int32)))))))
abbrev RM_X6_tells : Room := { frames := 3, cells := 0, slots := 0, locals := 64 }
set_option maxHeartbeats 4000000 in
set_option maxRecDepth 100000 in
theorem c_X6_tells (l : Launch) (D : va_G) (cI cZ : ClassId) (a : Nat → Nat → Nat) (C : CC) (p1 : Int32) (p2 : Int32) (p3 : Int32) (sz : Nat) {r : Int32} (hf : f_X6_tells C p1 p2 p3 = some r) : Met l yX6_tells (wM yX6_tells cX6_tells 7 (some .int)) RM_X6_tells (va_Pc [.ref (a 0 0), .int p1, .int p2, .int p3] (pre D cI cZ (cW cI a C) sz)) (QI0 D (va_A (cW cI a C) sz) (cW cI a C) r) 0 0 (va_A (cW cI a C) sz) := by
  unfold f_X6_tells at hf
  refine Met.ofW (cc := cX6_tells) (maxL := 7) (ret := (some .int)) (by decide) rfl ?_
  intro p e s m args below meth c s₁ B hml hv
  obtain ⟨rfl, hsz, hP, hK, hD0, hnw⟩ := hv
  have hx := B.exec
  have hb := B.bytes
  have hr := B.returns
  have hts := atoms_spec (ws := wM yX6_tells cX6_tells 7 (some .int)) B.pre
  have hG : ∀ w ∈ GW, w.before (([.ref (a 0 0), .int p1, .int p2, .int p3] : List Value).toArray) s = true := fun w h => hts w (List.mem_cons_of_mem _ h)
  have hown : s.vm.findClass RX6 = some m.cls := findClass_of_methodNamed B.named
  have hlocks := B.notSynchronized
  subst hsz
  have hD := hD0.self (sz := s.heap.size)
  generalize hAe : va_A (cW cI a C) s.heap.size = A at hD ⊢
  have hA : ∀ q : Nat, s.heap.size ≤ q → A q := fun q h => by rw [← hAe]; exact Or.inr h
  have hS : va_S A s.heap s.heap [] := va_S.rf
  have hl := lv_entry ([.ref (a 0 0), .int p1, .int p2, .int p3]) (n := 7) (Nat.le_of_ble_eq_true rfl)
  rw [lg_entry_eq]
  generalize (lg_sl ([.ref (a 0 0), .int p1, .int p2, .int p3]) ++ List.replicate (7 - (lg_sl ([.ref (a 0 0), .int p1, .int p2, .int p3])).length) Slot.unset).toArray = ls at hl ⊢
  have hl : lv_has ls 7 [(0, .ref (a 0 0)), (1, .int p1), (2, .int p2), (3, .int p3)] := hl
  show W p l e RM_X6_tells s m (([.ref (a 0 0), .int p1, .int p2, .int p3] : List Value).toArray) below meth c s.heap [] 0 0 (MQ below (QI0 D A (cW cI a C) r) (([.ref (a 0 0), .int p1, .int p2, .int p3] : List Value).toArray) s 0 0 A) (F0 m 0 ls [])
  refine lv_iload_n hx hb dX6_tells_0 rfl (lv_at hl 1 rfl) ?_
  refine lv_if_lt (tgt := 29) hx hb dX6_tells_1 (by decide) (fun cc1 => ?_) (fun cc1 => ?_)
  · have hf := if_t cc1 hf
    refine lv_ldc hx hb hown (hG _ g_238) dX6_tells_29 ?_
    exact W.iret (v := (-1000000002 : Int32)) hx hb hr (fun t ht hW => ⟨⟨(-1000000002 : Int32), (), rfl, Option.some.inj hf, by rw [ht]; exact hP, hD⟩, hS.F ht⟩) hS.2.2 dX6_tells_31
  · have hf := if_f cc1 hf
    refine lv_iload_n hx hb dX6_tells_4 rfl (lv_at hl 1 rfl) ?_
    refine lv_bipush (v := (99 : Int32)) hx hb dX6_tells_5 (by decide) ?_
    refine lv_icmp_gt (tgt := 29) hx hb dX6_tells_7 (by decide) (fun cc7 => ?_) (fun cc7 => ?_)
    · have hf := if_t cc7 hf
      refine lv_ldc hx hb hown (hG _ g_238) dX6_tells_29 ?_
      exact W.iret (v := (-1000000002 : Int32)) hx hb hr (fun t ht hW => ⟨⟨(-1000000002 : Int32), (), rfl, Option.some.inj hf, by rw [ht]; exact hP, hD⟩, hS.F ht⟩) hS.2.2 dX6_tells_31
    · have hf := if_f cc7 hf
      refine lv_iload_n hx hb dX6_tells_10 rfl (lv_at hl 2 rfl) ?_
      refine lv_if_lt (tgt := 29) hx hb dX6_tells_11 (by decide) (fun cc11 => ?_) (fun cc11 => ?_)
      · have hf := if_t cc11 hf
        refine lv_ldc hx hb hown (hG _ g_238) dX6_tells_29 ?_
        exact W.iret (v := (-1000000002 : Int32)) hx hb hr (fun t ht hW => ⟨⟨(-1000000002 : Int32), (), rfl, Option.some.inj hf, by rw [ht]; exact hP, hD⟩, hS.F ht⟩) hS.2.2 dX6_tells_31
      · have hf := if_f cc11 hf
        refine lv_iload_n hx hb dX6_tells_14 rfl (lv_at hl 2 rfl) ?_
        refine lv_bipush (v := (99 : Int32)) hx hb dX6_tells_15 (by decide) ?_
        refine lv_icmp_gt (tgt := 29) hx hb dX6_tells_17 (by decide) (fun cc17 => ?_) (fun cc17 => ?_)
        · have hf := if_t cc17 hf
          refine lv_ldc hx hb hown (hG _ g_238) dX6_tells_29 ?_
          exact W.iret (v := (-1000000002 : Int32)) hx hb hr (fun t ht hW => ⟨⟨(-1000000002 : Int32), (), rfl, Option.some.inj hf, by rw [ht]; exact hP, hD⟩, hS.F ht⟩) hS.2.2 dX6_tells_31
        · have hf := if_f cc17 hf
          refine lv_iload_n hx hb dX6_tells_20 rfl (lv_at hl 3 rfl) ?_
          refine lv_if_lt (tgt := 29) hx hb dX6_tells_21 (by decide) (fun cc21 => ?_) (fun cc21 => ?_)
          · have hf := if_t cc21 hf
            refine lv_ldc hx hb hown (hG _ g_238) dX6_tells_29 ?_
            exact W.iret (v := (-1000000002 : Int32)) hx hb hr (fun t ht hW => ⟨⟨(-1000000002 : Int32), (), rfl, Option.some.inj hf, by rw [ht]; exact hP, hD⟩, hS.F ht⟩) hS.2.2 dX6_tells_31
          · have hf := if_f cc21 hf
            refine lv_iload_n hx hb dX6_tells_24 rfl (lv_at hl 3 rfl) ?_
            refine lv_iconst (v := (1 : Int32)) hx hb dX6_tells_25 (by decide) ?_
            refine lv_icmp_le (tgt := 32) hx hb dX6_tells_26 (by decide) (fun cc26 => ?_) (fun cc26 => ?_)
            · have hf := if_t cc26 hf
              refine lv_iconst (v := (0 : Int32)) hx hb dX6_tells_32 (by decide) ?_
              refine lv_istore (lv' := [(4, .int (0 : Int32)), (0, .ref (a 0 0)), (1, .int p1), (2, .int p2), (3, .int p3)]) hx hb dX6_tells_33 hl (by decide) rfl (fun ls hl => ?_)
              refine lv_iconst (v := (0 : Int32)) hx hb dX6_tells_35 (by decide) ?_
              refine lv_istore (lv' := [(5, .int (0 : Int32)), (4, .int (0 : Int32)), (0, .ref (a 0 0)), (1, .int p1), (2, .int p2), (3, .int p3)]) hx hb dX6_tells_36 hl (by decide) rfl (fun ls hl => ?_)
              refine lv_iconst (v := (0 : Int32)) hx hb dX6_tells_38 (by decide) ?_
              refine lv_istore (lv' := [(6, .int (0 : Int32)), (5, .int (0 : Int32)), (4, .int (0 : Int32)), (0, .ref (a 0 0)), (1, .int p1), (2, .int p2), (3, .int p3)]) hx hb dX6_tells_39 hl (by decide) rfl (fun ls hl => ?_)
              have L41 : ∀ (n : Nat) (v1 : Int32) (v2 : Int32) (v3 : Int32) (H : Heap) (locs : List Loc) (ls : Array Slot), va_P D vwCl (cW cI a C) H → va_D A (cW cI a C) → va_S A s.heap H locs → lv_has ls 7 [(0, .ref (a 0 0)), (1, .int p1), (2, .int p2), (3, .int p3), (4, .int v1), (5, .int v2), (6, .int v3)] → lp (fun _ _ _ => none : Int32 → Int32 → Int32 → Option (Int32)) (f_X6_tells_b41 C p1 p2 p3) n v1 v2 v3 = some r → W p l e RM_X6_tells s m (([.ref (a 0 0), .int p1, .int p2, .int p3] : List Value).toArray) below meth c H locs 0 0 (MQ below (QI0 D A (cW cI a C) r) (([.ref (a 0 0), .int p1, .int p2, .int p3] : List Value).toArray) s 0 0 A) (F0 m 41 ls []) := by
                intro n
                induction n with
                | zero => intro v1 v2 v3 H locs ls _ _ _ _ hf; cases (show (none : Option (Int32)) = some r from hf)
                | succ n ih41 =>
                  intro v1 v2 v3 H locs ls hP hD hS hl hf
                  have hf : (f_X6_tells_b41 C p1 p2 p3) (lp (fun _ _ _ => none : Int32 → Int32 → Int32 → Option (Int32)) (f_X6_tells_b41 C p1 p2 p3) n) v1 v2 v3 = some r := hf
                  generalize lp (fun _ _ _ => none : Int32 → Int32 → Int32 → Option (Int32)) (f_X6_tells_b41 C p1 p2 p3) n = rc41 at ih41 hf
                  unfold f_X6_tells_b41 at hf
                  refine lv_iload hx hb dX6_tells_41 (lv_at hl 6 rfl) ?_
                  refine lv_aload_n hx hb dX6_tells_43 rfl (lv_at hl 0 rfl) ?_
                  refine va_get (D := D) (ci := 6) (v := .ref (a 2 0)) (C := RX6) (T := TX6) (N := 10) hx hb hG inG6 hown hK hP 0 at_C_0_0 rfl 1 (by decide) (hG _ g_225) (fun _ h9 => h9) rfl dX6_tells_44 ?_
                  refine va_get (D := D) (ci := 2) (v := .int ((C 2) 0 1)) (C := RX2) (T := TX2) (N := 18) hx hb hG inG2 hown hK hP 4 at_C_2_0 rfl 1 (by decide) (hG _ g_114) (fun _ h9 => h9) rfl dX6_tells_47 ?_
                  refine lv_icmp_ge (tgt := 89) hx hb dX6_tells_50 (by decide) (fun cc50 => ?_) (fun cc50 => ?_)
                  · have hf := if_t cc50 hf
                    refine lv_iload hx hb dX6_tells_89 (lv_at hl 5 rfl) ?_
                    refine lv_if_ne (tgt := 96) hx hb dX6_tells_91 (by decide) (fun cc91 => ?_) (fun cc91 => ?_)
                    · have hf := if_f cc91 hf
                      refine lv_iload_n hx hb dX6_tells_96 rfl (lv_at hl 3 rfl) ?_
                      have J107 : ∀ (v4 : Int32) (H : Heap) (locs : List Loc) (ls : Array Slot), va_P D vwCl (cW cI a C) H → va_D A (cW cI a C) → va_S A s.heap H locs → lv_has ls 7 [(4, .int v1), (5, .int v2)] → f_X6_tells_j107 v1 v2 v4 = some r → W p l e RM_X6_tells s m (([.ref (a 0 0), .int p1, .int p2, .int p3] : List Value).toArray) below meth c H locs 0 0 (MQ below (QI0 D A (cW cI a C) r) (([.ref (a 0 0), .int p1, .int p2, .int p3] : List Value).toArray) s 0 0 A) (F0 m 107 ls [.int v4]) := by
                        intro v4 H locs ls hP hD hS hl hf
                        unfold f_X6_tells_j107 at hf
                        refine lv_iload hx hb dX6_tells_107 (lv_at hl 1 rfl) ?_
                        refine lv_iload hx hb dX6_tells_109 (lv_at hl 0 rfl) ?_
                        obtain ⟨q5, hq5, hf⟩ := bd_x hf
                        have hFc := va_free (wc := []) hD hS hA [] rfl
                        refine va_calli (va_runS (As := [.int v2, .int v1]) (rest := [.int v4]) ⟨hx, hb, hml, hown, hG⟩ (c_X6_commonDivisor l D cI cZ v2 v1 H.size hq5) (cwS 2 hG (gS g_490 g_491 g_70 g_492) rfl rfl rfl (by decide +kernel) ⟨Nat.le_of_ble_eq_true rfl, Nat.le_of_ble_eq_true rfl⟩) ⟨pre_blind, fun U hU hW => ⟨rfl, pre_of P_nil hK D_nil hnw hU hW⟩⟩ rfl rfl hl.1 rfl (lv_room (Nat.le_of_ble_eq_true rfl)) dX6_tells_111 ⟨Nat.le_of_ble_eq_true rfl, Nat.le_of_ble_eq_true rfl⟩) hS (fun q _ h => hFc q h) hFc (fun v u t H locs ht hvm hw hB hz1 hk1 hS => ?_)
                        have hw := hw.symm; subst hw
                        obtain ⟨hP1, hD1⟩ := hB
                        rw [ht] at hP1
                        obtain ⟨hP, hD⟩ := back hP hD [] rfl rfl hk1 hFc hP1 hD1
                        obtain ⟨hz114, hf⟩ := gd hf
                        refine lv_idiv hx hb dX6_tells_114 hz114 ?_
                        exact W.iret (v := (v4 / q5)) hx hb hr (fun t ht hW => ⟨⟨(v4 / q5), (), rfl, Option.some.inj hf, by rw [ht]; exact hP, hD⟩, hS.F ht⟩) hS.2.2 dX6_tells_115
                      refine lv_if_ne (tgt := 105) hx hb dX6_tells_97 (by decide) (fun cc97 => ?_) (fun cc97 => ?_)
                      · have hf := if_f cc97 hf
                        refine lv_iload hx hb dX6_tells_105 (lv_at hl 4 rfl) ?_
                        exact J107 v1 _ _ _ hP hD hS (lv_sub hl [4, 5] rfl) hf
                      · have hf := if_t cc97 hf
                        refine lv_iload hx hb dX6_tells_100 (lv_at hl 5 rfl) ?_
                        refine lv_goto (tgt := 107) hx hb dX6_tells_102 (by decide) ?_
                        exact J107 v2 _ _ _ hP hD hS (lv_sub hl [4, 5] rfl) hf
                    · have hf := if_t cc91 hf
                      refine lv_iload_n hx hb dX6_tells_94 rfl (lv_at hl 3 rfl) ?_
                      exact W.iret (v := p3) hx hb hr (fun t ht hW => ⟨⟨p3, (), rfl, Option.some.inj hf, by rw [ht]; exact hP, hD⟩, hS.F ht⟩) hS.2.2 dX6_tells_95
                  · have hf := if_f cc50 hf
                    refine lv_aload_n hx hb dX6_tells_53 rfl (lv_at hl 0 rfl) ?_
                    refine lv_iload hx hb dX6_tells_54 (lv_at hl 6 rfl) ?_
                    obtain ⟨q6, hq6, hf⟩ := bd_x hf
                    have hFc := freeS hD hS hA
                    refine va_calli (va_runV (As := [.int v3]) (rest := []) ⟨hx, hb, hml, hown, hG⟩ (c_X6_readsNow l D cI cZ a C v3 H.size hq6) (cwV 1 hG (gV g_322 g_323 g_14 g_70 g_324) rfl rfl rfl (by decide +kernel) ⟨Nat.le_of_ble_eq_true rfl, Nat.le_of_ble_eq_true rfl⟩) ⟨pre_blind, va_recv hK hP (ci := 6) (q0 := 0) rfl rfl, fun U hU hW => ⟨rfl, pre_of hP hK hD hnw hU hW⟩⟩ rfl rfl hl.1 rfl (lv_room (Nat.le_of_ble_eq_true rfl)) dX6_tells_56 ⟨Nat.le_of_ble_eq_true rfl, Nat.le_of_ble_eq_true rfl⟩) hS (fun q _ h => hFc q h) hFc (fun v u t H locs ht hvm hw hB hz1 hk1 hS => ?_)
                    have hw := hw.symm; subst hw
                    obtain ⟨hP1, hD1⟩ := hB
                    rw [ht] at hP1
                    have hP := hP1
                    have hD := hD1.weaken (fun _ q _ h => hFc q.1 h)
                    refine lv_iload_n hx hb dX6_tells_59 rfl (lv_at hl 1 rfl) ?_
                    have J83 : ∀ (v7 : Int32) (v8 : Int32) (H : Heap) (locs : List Loc) (ls : Array Slot), va_P D vwCl (cW cI a C) H → va_D A (cW cI a C) → va_S A s.heap H locs → lv_has ls 7 [(0, .ref (a 0 0)), (1, .int p1), (2, .int p2), (3, .int p3), (4, .int v7), (5, .int v8), (6, .int v3)] → f_X6_tells_j83 rc41 v3 v7 v8 = some r → W p l e RM_X6_tells s m (([.ref (a 0 0), .int p1, .int p2, .int p3] : List Value).toArray) below meth c H locs 0 0 (MQ below (QI0 D A (cW cI a C) r) (([.ref (a 0 0), .int p1, .int p2, .int p3] : List Value).toArray) s 0 0 A) (F0 m 83 ls []) := by
                      intro v7 v8 H locs ls hP hD hS hl hf
                      unfold f_X6_tells_j83 at hf
                      obtain ⟨v9, ev9⟩ : ∃ y : Int32, y = (v3 + (1 : Int32)) := ⟨_, rfl⟩
                      have hf := nm_x ev9 hf
                      refine lv_iinc (v := v9) (lv' := [(6, .int v9), (0, .ref (a 0 0)), (1, .int p1), (2, .int p2), (3, .int p3), (4, .int v7), (5, .int v8)]) hx hb dX6_tells_83 hl (k := 6) rfl (by rw [ev9]; rfl) (by decide) rfl (fun ls hl => ?_)
                      refine lv_goto (tgt := 41) hx hb dX6_tells_86 (by decide) ?_
                      exact ih41 v7 v8 v9 _ _ _ hP hD hS (lv_sub hl [1, 2, 3, 4, 5, 6, 0] rfl) hf
                    refine lv_icmp_ne (tgt := 83) hx hb dX6_tells_60 (by decide) (fun cc60 => ?_) (fun cc60 => ?_)
                    · have hf := if_f cc60 hf
                      exact J83 v1 v2 _ _ _ hP hD hS (lv_sub hl [0, 1, 2, 3, 4, 5, 6] rfl) hf
                    · have hf := if_t cc60 hf
                      obtain ⟨v10, ev10⟩ : ∃ y : Int32, y = (v1 + (1 : Int32)) := ⟨_, rfl⟩
                      have hf := nm_x ev10 hf
                      refine lv_iinc (v := v10) (lv' := [(4, .int v10), (0, .ref (a 0 0)), (1, .int p1), (2, .int p2), (3, .int p3), (5, .int v2), (6, .int v3)]) hx hb dX6_tells_63 hl (k := 4) rfl (by rw [ev10]; rfl) (by decide) rfl (fun ls hl => ?_)
                      refine lv_aload_n hx hb dX6_tells_66 rfl (lv_at hl 1 rfl) ?_
                      refine va_get (D := D) (ci := 6) (v := .ref (a 2 0)) (C := RX6) (T := TX6) (N := 10) hx hb hG inG6 hown hK hP 0 at_C_0_0 rfl 1 (by decide) (hG _ g_225) (fun _ h9 => h9) rfl dX6_tells_67 ?_
                      refine va_get (D := D) (ci := 2) (v := .ref (a 2 2)) (C := RX2) (T := TX2) (N := 18) hx hb hG inG2 hown hK hP 4 at_C_2_0 rfl 7 (by decide) (hG _ g_133) (fun _ h9 => h9) rfl dX6_tells_70 ?_
                      refine lv_iload hx hb dX6_tells_73 (lv_at hl 6 rfl) ?_
                      obtain ⟨hb75, hf⟩ := gd hf
                      refine va_iald (cA := cI) (n := 5) (f := (C 2) 2) hx hb hK hP 6 0 at_C_2_2 rfl (inb_in hb75) dX6_tells_75 ?_
                      refine lv_iload_n hx hb dX6_tells_76 rfl (lv_at hl 3 rfl) ?_
                      refine lv_icmp_lt (tgt := 83) hx hb dX6_tells_77 (by decide) (fun cc77 => ?_) (fun cc77 => ?_)
                      · have hf := if_t cc77 hf
                        exact J83 v10 v2 _ _ _ hP hD hS (lv_sub hl [1, 2, 3, 4, 0, 5, 6] rfl) hf
                      · have hf := if_f cc77 hf
                        obtain ⟨v11, ev11⟩ : ∃ y : Int32, y = (v2 + (1 : Int32)) := ⟨_, rfl⟩
                        have hf := nm_x ev11 hf
                        refine lv_iinc (v := v11) (lv' := [(5, .int v11), (4, .int v10), (0, .ref (a 0 0)), (1, .int p1), (2, .int p2), (3, .int p3), (6, .int v3)]) hx hb dX6_tells_80 hl (k := 5) rfl (by rw [ev11]; rfl) (by decide) rfl (fun ls hl => ?_)
                        exact J83 v10 v11 _ _ _ hP hD hS (lv_sub hl [2, 3, 4, 5, 1, 0, 6] rfl) hf
              exact L41 FU (0 : Int32) (0 : Int32) (0 : Int32) _ _ _ hP hD hS (lv_sub hl [3, 4, 5, 6, 2, 1, 0] rfl) hf
            · have hf := if_f cc26 hf
              refine lv_ldc hx hb hown (hG _ g_238) dX6_tells_29 ?_
              exact W.iret (v := (-1000000002 : Int32)) hx hb hr (fun t ht hW => ⟨⟨(-1000000002 : Int32), (), rfl, Option.some.inj hf, by rw [ht]; exact hP, hD⟩, hS.F ht⟩) hS.2.2 dX6_tells_31
def f_X6_wordsTo (C : CC) (p1 : Int32) (p2 : Int32) : Option (Int32) := (if inb p1 5 then nm (p2 - ((C 2) 2 (Int32.toNatClampNeg p1))) (fun (v1 : Int32) => (if 0 ≤ v1 then some ((v1 / (10 : Int32)) + (1 : Int32)) else some (0 : Int32))) else none)
abbrev RM_X6_wordsTo : Room := { frames := 0, cells := 0, slots := 0, locals := 0 }
set_option maxHeartbeats 4000000 in
set_option maxRecDepth 100000 in
theorem c_X6_wordsTo (l : Launch) (D : va_G) (cI cZ : ClassId) (a : Nat → Nat → Nat) (C : CC) (p1 : Int32) (p2 : Int32) (sz : Nat) {r : Int32} (hf : f_X6_wordsTo C p1 p2 = some r) : Met l yX6_wordsTo (wM yX6_wordsTo cX6_wordsTo 4 (some .int)) RM_X6_wordsTo (va_Pc [.ref (a 0 0), .int p1, .int p2] (pre D cI cZ (cW cI a C) sz)) (QI0 D (va_A (cW cI a C) sz) (cW cI a C) r) 0 0 (va_A (cW cI a C) sz) := by
  unfold f_X6_wordsTo at hf
  refine Met.ofW (cc := cX6_wordsTo) (maxL := 4) (ret := (some .int)) (by decide) rfl ?_
  intro p e s m args below meth c s₁ B hml hv
  obtain ⟨rfl, hsz, hP, hK, hD0, hnw⟩ := hv
  have hx := B.exec
  have hb := B.bytes
  have hr := B.returns
  have hts := atoms_spec (ws := wM yX6_wordsTo cX6_wordsTo 4 (some .int)) B.pre
  have hG : ∀ w ∈ GW, w.before (([.ref (a 0 0), .int p1, .int p2] : List Value).toArray) s = true := fun w h => hts w (List.mem_cons_of_mem _ h)
  have hown : s.vm.findClass RX6 = some m.cls := findClass_of_methodNamed B.named
  have hlocks := B.notSynchronized
  subst hsz
  have hD := hD0.self (sz := s.heap.size)
  generalize hAe : va_A (cW cI a C) s.heap.size = A at hD ⊢
  have hA : ∀ q : Nat, s.heap.size ≤ q → A q := fun q h => by rw [← hAe]; exact Or.inr h
  have hS : va_S A s.heap s.heap [] := va_S.rf
  have hl := lv_entry ([.ref (a 0 0), .int p1, .int p2]) (n := 4) (Nat.le_of_ble_eq_true rfl)
  rw [lg_entry_eq]
  generalize (lg_sl ([.ref (a 0 0), .int p1, .int p2]) ++ List.replicate (4 - (lg_sl ([.ref (a 0 0), .int p1, .int p2])).length) Slot.unset).toArray = ls at hl ⊢
  have hl : lv_has ls 4 [(0, .ref (a 0 0)), (1, .int p1), (2, .int p2)] := hl
  show W p l e RM_X6_wordsTo s m (([.ref (a 0 0), .int p1, .int p2] : List Value).toArray) below meth c s.heap [] 0 0 (MQ below (QI0 D A (cW cI a C) r) (([.ref (a 0 0), .int p1, .int p2] : List Value).toArray) s 0 0 A) (F0 m 0 ls [])
  refine lv_iload_n hx hb dX6_wordsTo_0 rfl (lv_at hl 2 rfl) ?_
  refine lv_aload_n hx hb dX6_wordsTo_1 rfl (lv_at hl 0 rfl) ?_
  refine va_get (D := D) (ci := 6) (v := .ref (a 2 0)) (C := RX6) (T := TX6) (N := 10) hx hb hG inG6 hown hK hP 0 at_C_0_0 rfl 1 (by decide) (hG _ g_225) (fun _ h9 => h9) rfl dX6_wordsTo_2 ?_
  refine va_get (D := D) (ci := 2) (v := .ref (a 2 2)) (C := RX2) (T := TX2) (N := 18) hx hb hG inG2 hown hK hP 4 at_C_2_0 rfl 7 (by decide) (hG _ g_133) (fun _ h9 => h9) rfl dX6_wordsTo_5 ?_
  refine lv_iload_n hx hb dX6_wordsTo_8 rfl (lv_at hl 1 rfl) ?_
  obtain ⟨hb9, hf⟩ := gd hf
  refine va_iald (cA := cI) (n := 5) (f := (C 2) 2) hx hb hK hP 6 0 at_C_2_2 rfl (inb_in hb9) dX6_wordsTo_9 ?_
  refine lv_isub hx hb dX6_wordsTo_10 ?_
  refine lv_topi (fun v1 ev1 => ?_)
  have hf := nm_x ev1 hf
  refine lv_istore_n (lv' := [(3, .int v1), (0, .ref (a 0 0)), (1, .int p1), (2, .int p2)]) hx hb dX6_wordsTo_11 rfl hl (by decide) rfl (fun ls hl => ?_)
  refine lv_iload_n hx hb dX6_wordsTo_12 rfl (lv_at hl 0 rfl) ?_
  refine lv_if_ge (tgt := 20) hx hb dX6_wordsTo_13 (by decide) (fun cc13 => ?_) (fun cc13 => ?_)
  · have hf := if_t cc13 hf
    refine lv_iload_n hx hb dX6_wordsTo_20 rfl (lv_at hl 0 rfl) ?_
    refine lv_bipush (v := (10 : Int32)) hx hb dX6_wordsTo_21 (by decide) ?_
    refine lv_idiv hx hb dX6_wordsTo_23 (by decide) ?_
    refine lv_iconst (v := (1 : Int32)) hx hb dX6_wordsTo_24 (by decide) ?_
    refine lv_iadd hx hb dX6_wordsTo_25 ?_
    exact W.iret (v := ((v1 / (10 : Int32)) + (1 : Int32))) hx hb hr (fun t ht hW => ⟨⟨((v1 / (10 : Int32)) + (1 : Int32)), (), rfl, Option.some.inj hf, by rw [ht]; exact hP, hD⟩, hS.F ht⟩) hS.2.2 dX6_wordsTo_26
  · have hf := if_f cc13 hf
    refine lv_iconst (v := (0 : Int32)) hx hb dX6_wordsTo_16 (by decide) ?_
    refine lv_goto (tgt := 26) hx hb dX6_wordsTo_17 (by decide) ?_
    exact W.iret (v := (0 : Int32)) hx hb hr (fun t ht hW => ⟨⟨(0 : Int32), (), rfl, Option.some.inj hf, by rw [ht]; exact hP, hD⟩, hS.F ht⟩) hS.2.2 dX6_wordsTo_26
def f_X6_words (C : CC) (p1 : Int32) (p2 : Int32) : Option (Int32) := bd (f_X6_isFighter C p1) (fun (q1 : Int32) => (if q1 = 0 then some (-1000000001 : Int32) else bd (f_X6_isFighter C p2) (fun (q2 : Int32) => (if q2 = 0 then some (-1000000001 : Int32) else (if p1 = p2 then some (-1000000001 : Int32) else (if inb p1 5 then (if ((C 2) 2 (Int32.toNatClampNeg p1)) = 0 then some (-1 : Int32) else (if inb p2 5 then (if ((C 2) 2 (Int32.toNatClampNeg p2)) = 0 then some (-1 : Int32) else bd (f_X6_readsNow C p2) (fun (q3 : Int32) => bd (f_X6_wordsTo C p1 q3) (fun (q4 : Int32) => bd (f_X6_readsNow C p1) (fun (q5 : Int32) => bd (f_X6_wordsTo C p2 q5) (fun (q6 : Int32) => some (q4 + q6)))))) else none)) else none))))))
abbrev RM_X6_words : Room := { frames := 3, cells := 0, slots := 0, locals := 64 }
set_option maxHeartbeats 4000000 in
set_option maxRecDepth 100000 in
theorem c_X6_words (l : Launch) (D : va_G) (cI cZ : ClassId) (a : Nat → Nat → Nat) (C : CC) (p1 : Int32) (p2 : Int32) (sz : Nat) {r : Int32} (hf : f_X6_words C p1 p2 = some r) : Met l yX6_words (wM yX6_words cX6_words 3 (some .int)) RM_X6_words (va_Pc [.ref (a 0 0), .int p1, .int p2] (pre D cI cZ (cW cI a C) sz)) (QI0 D (va_A (cW cI a C) sz) (cW cI a C) r) 0 0 (va_A (cW cI a C) sz) := by
  unfold f_X6_words at hf
  refine Met.ofW (cc := cX6_words) (maxL := 3) (ret := (some .int)) (by decide) rfl ?_
  intro p e s m args below meth c s₁ B hml hv
  obtain ⟨rfl, hsz, hP, hK, hD0, hnw⟩ := hv
  have hx := B.exec
  have hb := B.bytes
  have hr := B.returns
  have hts := atoms_spec (ws := wM yX6_words cX6_words 3 (some .int)) B.pre
  have hG : ∀ w ∈ GW, w.before (([.ref (a 0 0), .int p1, .int p2] : List Value).toArray) s = true := fun w h => hts w (List.mem_cons_of_mem _ h)
  have hown : s.vm.findClass RX6 = some m.cls := findClass_of_methodNamed B.named
  have hlocks := B.notSynchronized
  subst hsz
  have hD := hD0.self (sz := s.heap.size)
  generalize hAe : va_A (cW cI a C) s.heap.size = A at hD ⊢
  have hA : ∀ q : Nat, s.heap.size ≤ q → A q := fun q h => by rw [← hAe]; exact Or.inr h
  have hS : va_S A s.heap s.heap [] := va_S.rf
  have hl := lv_entry ([.ref (a 0 0), .int p1, .int p2]) (n := 3) (Nat.le_of_ble_eq_true rfl)
  rw [lg_entry_eq]
  generalize (lg_sl ([.ref (a 0 0), .int p1, .int p2]) ++ List.replicate (3 - (lg_sl ([.ref (a 0 0), .int p1, .int p2])).length) Slot.unset).toArray = ls at hl ⊢
  have hl : lv_has ls 3 [(0, .ref (a 0 0)), (1, .int p1), (2, .int p2)] := hl
  show W p l e RM_X6_words s m (([.ref (a 0 0), .int p1, .int p2] : List Value).toArray) below meth c s.heap [] 0 0 (MQ below (QI0 D A (cW cI a C) r) (([.ref (a 0 0), .int p1, .int p2] : List Value).toArray) s 0 0 A) (F0 m 0 ls [])
  refine lv_aload_n hx hb dX6_words_0 rfl (lv_at hl 0 rfl) ?_
  refine lv_iload_n hx hb dX6_words_1 rfl (lv_at hl 1 rfl) ?_
  obtain ⟨q1, hq1, hf⟩ := bd_x hf
  have hFc := freeS hD hS hA
  refine va_calli (va_runV (As := [.int p1]) (rest := []) ⟨hx, hb, hml, hown, hG⟩ (c_X6_isFighter l D cI cZ a C p1 s.heap.size hq1) (cwV 1 hG (gV g_318 g_319 g_13 g_70 g_320) rfl rfl rfl (by decide +kernel) ⟨Nat.le_of_ble_eq_true rfl, Nat.le_of_ble_eq_true rfl⟩) ⟨pre_blind, va_recv hK hP (ci := 6) (q0 := 0) rfl rfl, fun U hU hW => ⟨rfl, pre_of hP hK hD hnw hU hW⟩⟩ rfl rfl hl.1 rfl (lv_room (Nat.le_of_ble_eq_true rfl)) dX6_words_2 ⟨Nat.le_of_ble_eq_true rfl, Nat.le_of_ble_eq_true rfl⟩) hS (fun q _ h => hFc q h) hFc (fun v u t H locs ht hvm hw hB hz1 hk1 hS => ?_)
  have hw := hw.symm; subst hw
  obtain ⟨hP1, hD1⟩ := hB
  rw [ht] at hP1
  have hP := hP1
  have hD := hD1.weaken (fun _ q _ h => hFc q.1 h)
  refine lv_if_eq (tgt := 21) hx hb dX6_words_5 (by decide) (fun cc5 => ?_) (fun cc5 => ?_)
  · have hf := if_t cc5 hf
    refine lv_ldc hx hb hown (hG _ g_321) dX6_words_21 ?_
    exact W.iret (v := (-1000000001 : Int32)) hx hb hr (fun t ht hW => ⟨⟨(-1000000001 : Int32), (), rfl, Option.some.inj hf, by rw [ht]; exact hP, hD⟩, hS.F ht⟩) hS.2.2 dX6_words_23
  · have hf := if_f cc5 hf
    refine lv_aload_n hx hb dX6_words_8 rfl (lv_at hl 0 rfl) ?_
    refine lv_iload_n hx hb dX6_words_9 rfl (lv_at hl 2 rfl) ?_
    obtain ⟨q2, hq2, hf⟩ := bd_x hf
    have hFc := freeS hD hS hA
    refine va_calli (va_runV (As := [.int p2]) (rest := []) ⟨hx, hb, hml, hown, hG⟩ (c_X6_isFighter l D cI cZ a C p2 H.size hq2) (cwV 1 hG (gV g_318 g_319 g_13 g_70 g_320) rfl rfl rfl (by decide +kernel) ⟨Nat.le_of_ble_eq_true rfl, Nat.le_of_ble_eq_true rfl⟩) ⟨pre_blind, va_recv hK hP (ci := 6) (q0 := 0) rfl rfl, fun U hU hW => ⟨rfl, pre_of hP hK hD hnw hU hW⟩⟩ rfl rfl hl.1 rfl (lv_room (Nat.le_of_ble_eq_true rfl)) dX6_words_10 ⟨Nat.le_of_ble_eq_true rfl, Nat.le_of_ble_eq_true rfl⟩) hS (fun q _ h => hFc q h) hFc (fun v u t H locs ht hvm hw hB hz1 hk1 hS => ?_)
    have hw := hw.symm; subst hw
    obtain ⟨hP1, hD1⟩ := hB
    rw [ht] at hP1
    have hP := hP1
    have hD := hD1.weaken (fun _ q _ h => hFc q.1 h)
    refine lv_if_eq (tgt := 21) hx hb dX6_words_13 (by decide) (fun cc13 => ?_) (fun cc13 => ?_)
    · have hf := if_t cc13 hf
      refine lv_ldc hx hb hown (hG _ g_321) dX6_words_21 ?_
      exact W.iret (v := (-1000000001 : Int32)) hx hb hr (fun t ht hW => ⟨⟨(-1000000001 : Int32), (), rfl, Option.some.inj hf, by rw [ht]; exact hP, hD⟩, hS.F ht⟩) hS.2.2 dX6_words_23
    · have hf := if_f cc13 hf
      refine lv_iload_n hx hb dX6_words_16 rfl (lv_at hl 1 rfl) ?_
      refine lv_iload_n hx hb dX6_words_17 rfl (lv_at hl 2 rfl) ?_
      refine lv_icmp_ne (tgt := 24) hx hb dX6_words_18 (by decide) (fun cc18 => ?_) (fun cc18 => ?_)
      · have hf := if_f cc18 hf
        refine lv_aload_n hx hb dX6_words_24 rfl (lv_at hl 0 rfl) ?_
        refine va_get (D := D) (ci := 6) (v := .ref (a 2 0)) (C := RX6) (T := TX6) (N := 10) hx hb hG inG6 hown hK hP 0 at_C_0_0 rfl 1 (by decide) (hG _ g_225) (fun _ h9 => h9) rfl dX6_words_25 ?_
        refine va_get (D := D) (ci := 2) (v := .ref (a 2 2)) (C := RX2) (T := TX2) (N := 18) hx hb hG inG2 hown hK hP 4 at_C_2_0 rfl 7 (by decide) (hG _ g_133) (fun _ h9 => h9) rfl dX6_words_28 ?_
        refine lv_iload_n hx hb dX6_words_31 rfl (lv_at hl 1 rfl) ?_
        obtain ⟨hb32, hf⟩ := gd hf
        refine va_iald (cA := cI) (n := 5) (f := (C 2) 2) hx hb hK hP 6 0 at_C_2_2 rfl (inb_in hb32) dX6_words_32 ?_
        refine lv_if_eq (tgt := 48) hx hb dX6_words_33 (by decide) (fun cc33 => ?_) (fun cc33 => ?_)
        · have hf := if_t cc33 hf
          refine lv_iconst (v := (-1 : Int32)) hx hb dX6_words_48 (by decide) ?_
          exact W.iret (v := (-1 : Int32)) hx hb hr (fun t ht hW => ⟨⟨(-1 : Int32), (), rfl, Option.some.inj hf, by rw [ht]; exact hP, hD⟩, hS.F ht⟩) hS.2.2 dX6_words_49
        · have hf := if_f cc33 hf
          refine lv_aload_n hx hb dX6_words_36 rfl (lv_at hl 0 rfl) ?_
          refine va_get (D := D) (ci := 6) (v := .ref (a 2 0)) (C := RX6) (T := TX6) (N := 10) hx hb hG inG6 hown hK hP 0 at_C_0_0 rfl 1 (by decide) (hG _ g_225) (fun _ h9 => h9) rfl dX6_words_37 ?_
          refine va_get (D := D) (ci := 2) (v := .ref (a 2 2)) (C := RX2) (T := TX2) (N := 18) hx hb hG inG2 hown hK hP 4 at_C_2_0 rfl 7 (by decide) (hG _ g_133) (fun _ h9 => h9) rfl dX6_words_40 ?_
          refine lv_iload_n hx hb dX6_words_43 rfl (lv_at hl 2 rfl) ?_
          obtain ⟨hb44, hf⟩ := gd hf
          refine va_iald (cA := cI) (n := 5) (f := (C 2) 2) hx hb hK hP 6 0 at_C_2_2 rfl (inb_in hb44) dX6_words_44 ?_
          refine lv_if_ne (tgt := 50) hx hb dX6_words_45 (by decide) (fun cc45 => ?_) (fun cc45 => ?_)
          · have hf := if_f cc45 hf
            refine lv_aload_n hx hb dX6_words_50 rfl (lv_at hl 0 rfl) ?_
            refine lv_iload_n hx hb dX6_words_51 rfl (lv_at hl 1 rfl) ?_
            refine lv_aload_n hx hb dX6_words_52 rfl (lv_at hl 0 rfl) ?_
            refine lv_iload_n hx hb dX6_words_53 rfl (lv_at hl 2 rfl) ?_
            obtain ⟨q3, hq3, hf⟩ := bd_x hf
            have hFc := freeS hD hS hA
            refine va_calli (va_runV (As := [.int p2]) (rest := [.int p1, .ref (a 0 0)]) ⟨hx, hb, hml, hown, hG⟩ (c_X6_readsNow l D cI cZ a C p2 H.size hq3) (cwV 1 hG (gV g_322 g_323 g_14 g_70 g_324) rfl rfl rfl (by decide +kernel) ⟨Nat.le_of_ble_eq_true rfl, Nat.le_of_ble_eq_true rfl⟩) ⟨pre_blind, va_recv hK hP (ci := 6) (q0 := 0) rfl rfl, fun U hU hW => ⟨rfl, pre_of hP hK hD hnw hU hW⟩⟩ rfl rfl hl.1 rfl (lv_room (Nat.le_of_ble_eq_true rfl)) dX6_words_54 ⟨Nat.le_of_ble_eq_true rfl, Nat.le_of_ble_eq_true rfl⟩) hS (fun q _ h => hFc q h) hFc (fun v u t H locs ht hvm hw hB hz1 hk1 hS => ?_)
            have hw := hw.symm; subst hw
            obtain ⟨hP1, hD1⟩ := hB
            rw [ht] at hP1
            have hP := hP1
            have hD := hD1.weaken (fun _ q _ h => hFc q.1 h)
            obtain ⟨q4, hq4, hf⟩ := bd_x hf
            have hFc := freeS hD hS hA
            refine va_calli (va_runV (As := [.int p1, .int q3]) (rest := []) ⟨hx, hb, hml, hown, hG⟩ (c_X6_wordsTo l D cI cZ a C p1 q3 H.size hq4) (cwV 2 hG (gV g_497 g_498 g_30 g_70 g_499) rfl rfl rfl (by decide +kernel) ⟨Nat.le_of_ble_eq_true rfl, Nat.le_of_ble_eq_true rfl⟩) ⟨pre_blind, va_recv hK hP (ci := 6) (q0 := 0) rfl rfl, fun U hU hW => ⟨rfl, pre_of hP hK hD hnw hU hW⟩⟩ rfl rfl hl.1 rfl (lv_room (Nat.le_of_ble_eq_true rfl)) dX6_words_57 ⟨Nat.le_of_ble_eq_true rfl, Nat.le_of_ble_eq_true rfl⟩) hS (fun q _ h => hFc q h) hFc (fun v u t H locs ht hvm hw hB hz1 hk1 hS => ?_)
            have hw := hw.symm; subst hw
            obtain ⟨hP1, hD1⟩ := hB
            rw [ht] at hP1
            have hP := hP1
            have hD := hD1.weaken (fun _ q _ h => hFc q.1 h)
            refine lv_aload_n hx hb dX6_words_60 rfl (lv_at hl 0 rfl) ?_
            refine lv_iload_n hx hb dX6_words_61 rfl (lv_at hl 2 rfl) ?_
            refine lv_aload_n hx hb dX6_words_62 rfl (lv_at hl 0 rfl) ?_
            refine lv_iload_n hx hb dX6_words_63 rfl (lv_at hl 1 rfl) ?_
            obtain ⟨q5, hq5, hf⟩ := bd_x hf
            have hFc := freeS hD hS hA
            refine va_calli (va_runV (As := [.int p1]) (rest := [.int p2, .ref (a 0 0), .int q4]) ⟨hx, hb, hml, hown, hG⟩ (c_X6_readsNow l D cI cZ a C p1 H.size hq5) (cwV 1 hG (gV g_322 g_323 g_14 g_70 g_324) rfl rfl rfl (by decide +kernel) ⟨Nat.le_of_ble_eq_true rfl, Nat.le_of_ble_eq_true rfl⟩) ⟨pre_blind, va_recv hK hP (ci := 6) (q0 := 0) rfl rfl, fun U hU hW => ⟨rfl, pre_of hP hK hD hnw hU hW⟩⟩ rfl rfl hl.1 rfl (lv_room (Nat.le_of_ble_eq_true rfl)) dX6_words_64 ⟨Nat.le_of_ble_eq_true rfl, Nat.le_of_ble_eq_true rfl⟩) hS (fun q _ h => hFc q h) hFc (fun v u t H locs ht hvm hw hB hz1 hk1 hS => ?_)
            have hw := hw.symm; subst hw
            obtain ⟨hP1, hD1⟩ := hB
            rw [ht] at hP1
            have hP := hP1
            have hD := hD1.weaken (fun _ q _ h => hFc q.1 h)
            obtain ⟨q6, hq6, hf⟩ := bd_x hf
            have hFc := freeS hD hS hA
            refine va_calli (va_runV (As := [.int p2, .int q5]) (rest := [.int q4]) ⟨hx, hb, hml, hown, hG⟩ (c_X6_wordsTo l D cI cZ a C p2 q5 H.size hq6) (cwV 2 hG (gV g_497 g_498 g_30 g_70 g_499) rfl rfl rfl (by decide +kernel) ⟨Nat.le_of_ble_eq_true rfl, Nat.le_of_ble_eq_true rfl⟩) ⟨pre_blind, va_recv hK hP (ci := 6) (q0 := 0) rfl rfl, fun U hU hW => ⟨rfl, pre_of hP hK hD hnw hU hW⟩⟩ rfl rfl hl.1 rfl (lv_room (Nat.le_of_ble_eq_true rfl)) dX6_words_67 ⟨Nat.le_of_ble_eq_true rfl, Nat.le_of_ble_eq_true rfl⟩) hS (fun q _ h => hFc q h) hFc (fun v u t H locs ht hvm hw hB hz1 hk1 hS => ?_)
            have hw := hw.symm; subst hw
            obtain ⟨hP1, hD1⟩ := hB
            rw [ht] at hP1
            have hP := hP1
            have hD := hD1.weaken (fun _ q _ h => hFc q.1 h)
            refine lv_iadd hx hb dX6_words_70 ?_
            exact W.iret (v := (q4 + q6)) hx hb hr (fun t ht hW => ⟨⟨(q4 + q6), (), rfl, Option.some.inj hf, by rw [ht]; exact hP, hD⟩, hS.F ht⟩) hS.2.2 dX6_words_71
          · have hf := if_t cc45 hf
            refine lv_iconst (v := (-1 : Int32)) hx hb dX6_words_48 (by decide) ?_
            exact W.iret (v := (-1 : Int32)) hx hb hr (fun t ht hW => ⟨⟨(-1 : Int32), (), rfl, Option.some.inj hf, by rw [ht]; exact hP, hD⟩, hS.F ht⟩) hS.2.2 dX6_words_49
      · have hf := if_t cc18 hf
        refine lv_ldc hx hb hown (hG _ g_321) dX6_words_21 ?_
        exact W.iret (v := (-1000000001 : Int32)) hx hb hr (fun t ht hW => ⟨⟨(-1000000001 : Int32), (), rfl, Option.some.inj hf, by rw [ht]; exact hP, hD⟩, hS.F ht⟩) hS.2.2 dX6_words_23
def f_X6_topBidder_j59 (rc8 : Int32 → Int32 → Int32 → Option (Int32)) (v3 : Int32) (v7 : Int32) (v8 : Int32) : Option (Int32) := nm (v3 + (1 : Int32)) (fun (v9 : Int32) => rc8 v7 v8 v9)
def f_X6_topBidder_b8 (C : CC) (p1 : Int32) (p2 : Int32) (rc8 : Int32 → Int32 → Int32 → Option (Int32)) (v1 : Int32) (v2 : Int32) (v3 : Int32) : Option (Int32) := (if ((C 2) 0 0) ≤ v3 then some v1 else bd (f_X6_slot v3 p1) (fun (q4 : Int32) => (if inb q4 30 then nm ((C 4) 4 (Int32.toNatClampNeg q4)) (fun (v5 : Int32) => bd (f_X6_has p2 v3) (fun (q6 : Int32) => (if q6 = 0 then (if v5 ≤ v2 then f_X6_topBidder_j59 rc8 v3 v1 v2 else f_X6_topBidder_j59 rc8 v3 v3 v5) else f_X6_topBidder_j59 rc8 v3 v1 v2))) else none)))
def f_X6_topBidder (C : CC) (p1 : Int32) (p2 : Int32) : Option (Int32) := lp (fun _ _ _ => none : Int32 → Int32 → Int32 → Option (Int32)) (f_X6_topBidder_b8 C p1 p2) FU (-1 : Int32) (0 : Int32) (0 : Int32)
abbrev RM_X6_topBidder : Room := { frames := 1, cells := 0, slots := 0, locals := 21 }
set_option maxHeartbeats 4000000 in
set_option maxRecDepth 100000 in
theorem c_X6_topBidder (l : Launch) (D : va_G) (cI cZ : ClassId) (a : Nat → Nat → Nat) (C : CC) (p1 : Int32) (p2 : Int32) (sz : Nat) {r : Int32} (hf : f_X6_topBidder C p1 p2 = some r) : Met l yX6_topBidder (wM yX6_topBidder cX6_topBidder 7 (some .int)) RM_X6_topBidder (va_Pc [.ref (a 0 0), .int p1, .int p2] (pre D cI cZ (cW cI a C) sz)) (QI0 D (va_A (cW cI a C) sz) (cW cI a C) r) 0 0 (va_A (cW cI a C) sz) := by
  unfold f_X6_topBidder at hf
  refine Met.ofW (cc := cX6_topBidder) (maxL := 7) (ret := (some .int)) (by decide) rfl ?_
  intro p e s m args below meth c s₁ B hml hv
  obtain ⟨rfl, hsz, hP, hK, hD0, hnw⟩ := hv
  have hx := B.exec
  have hb := B.bytes
  have hr := B.returns
  have hts := atoms_spec (ws := wM yX6_topBidder cX6_topBidder 7 (some .int)) B.pre
  have hG : ∀ w ∈ GW, w.before (([.ref (a 0 0), .int p1, .int p2] : List Value).toArray) s = true := fun w h => hts w (List.mem_cons_of_mem _ h)
  have hown : s.vm.findClass RX6 = some m.cls := findClass_of_methodNamed B.named
  have hlocks := B.notSynchronized
  subst hsz
  have hD := hD0.self (sz := s.heap.size)
  generalize hAe : va_A (cW cI a C) s.heap.size = A at hD ⊢
  have hA : ∀ q : Nat, s.heap.size ≤ q → A q := fun q h => by rw [← hAe]; exact Or.inr h
  have hS : va_S A s.heap s.heap [] := va_S.rf
  have hl := lv_entry ([.ref (a 0 0), .int p1, .int p2]) (n := 7) (Nat.le_of_ble_eq_true rfl)
  rw [lg_entry_eq]
  generalize (lg_sl ([.ref (a 0 0), .int p1, .int p2]) ++ List.replicate (7 - (lg_sl ([.ref (a 0 0), .int p1, .int p2])).length) Slot.unset).toArray = ls at hl ⊢
  have hl : lv_has ls 7 [(0, .ref (a 0 0)), (1, .int p1), (2, .int p2)] := hl
  show W p l e RM_X6_topBidder s m (([.ref (a 0 0), .int p1, .int p2] : List Value).toArray) below meth c s.heap [] 0 0 (MQ below (QI0 D A (cW cI a C) r) (([.ref (a 0 0), .int p1, .int p2] : List Value).toArray) s 0 0 A) (F0 m 0 ls [])
  refine lv_iconst (v := (-1 : Int32)) hx hb dX6_topBidder_0 (by decide) ?_
  refine lv_istore_n (lv' := [(3, .int (-1 : Int32)), (0, .ref (a 0 0)), (1, .int p1), (2, .int p2)]) hx hb dX6_topBidder_1 rfl hl (by decide) rfl (fun ls hl => ?_)
  refine lv_iconst (v := (0 : Int32)) hx hb dX6_topBidder_2 (by decide) ?_
  refine lv_istore (lv' := [(4, .int (0 : Int32)), (3, .int (-1 : Int32)), (0, .ref (a 0 0)), (1, .int p1), (2, .int p2)]) hx hb dX6_topBidder_3 hl (by decide) rfl (fun ls hl => ?_)
  refine lv_iconst (v := (0 : Int32)) hx hb dX6_topBidder_5 (by decide) ?_
  refine lv_istore (lv' := [(5, .int (0 : Int32)), (4, .int (0 : Int32)), (3, .int (-1 : Int32)), (0, .ref (a 0 0)), (1, .int p1), (2, .int p2)]) hx hb dX6_topBidder_6 hl (by decide) rfl (fun ls hl => ?_)
  have L8 : ∀ (n : Nat) (v1 : Int32) (v2 : Int32) (v3 : Int32) (H : Heap) (locs : List Loc) (ls : Array Slot), va_P D vwCl (cW cI a C) H → va_D A (cW cI a C) → va_S A s.heap H locs → lv_has ls 7 [(0, .ref (a 0 0)), (1, .int p1), (2, .int p2), (3, .int v1), (4, .int v2), (5, .int v3)] → lp (fun _ _ _ => none : Int32 → Int32 → Int32 → Option (Int32)) (f_X6_topBidder_b8 C p1 p2) n v1 v2 v3 = some r → W p l e RM_X6_topBidder s m (([.ref (a 0 0), .int p1, .int p2] : List Value).toArray) below meth c H locs 0 0 (MQ below (QI0 D A (cW cI a C) r) (([.ref (a 0 0), .int p1, .int p2] : List Value).toArray) s 0 0 A) (F0 m 8 ls []) := by
    intro n
    induction n with
    | zero => intro v1 v2 v3 H locs ls _ _ _ _ hf; cases (show (none : Option (Int32)) = some r from hf)
    | succ n ih8 =>
      intro v1 v2 v3 H locs ls hP hD hS hl hf
      have hf : (f_X6_topBidder_b8 C p1 p2) (lp (fun _ _ _ => none : Int32 → Int32 → Int32 → Option (Int32)) (f_X6_topBidder_b8 C p1 p2) n) v1 v2 v3 = some r := hf
      generalize lp (fun _ _ _ => none : Int32 → Int32 → Int32 → Option (Int32)) (f_X6_topBidder_b8 C p1 p2) n = rc8 at ih8 hf
      unfold f_X6_topBidder_b8 at hf
      refine lv_iload hx hb dX6_topBidder_8 (lv_at hl 5 rfl) ?_
      refine lv_aload_n hx hb dX6_topBidder_10 rfl (lv_at hl 0 rfl) ?_
      refine va_get (D := D) (ci := 6) (v := .ref (a 2 0)) (C := RX6) (T := TX6) (N := 10) hx hb hG inG6 hown hK hP 0 at_C_0_0 rfl 1 (by decide) (hG _ g_225) (fun _ h9 => h9) rfl dX6_topBidder_11 ?_
      refine va_get (D := D) (ci := 2) (v := .int ((C 2) 0 0)) (C := RX2) (T := TX2) (N := 18) hx hb hG inG2 hown hK hP 4 at_C_2_0 rfl 0 (by decide) (hG _ g_109) (fun _ h9 => h9) rfl dX6_topBidder_14 ?_
      refine lv_icmp_ge (tgt := 65) hx hb dX6_topBidder_17 (by decide) (fun cc17 => ?_) (fun cc17 => ?_)
      · have hf := if_t cc17 hf
        refine lv_iload_n hx hb dX6_topBidder_65 rfl (lv_at hl 3 rfl) ?_
        exact W.iret (v := v1) hx hb hr (fun t ht hW => ⟨⟨v1, (), rfl, Option.some.inj hf, by rw [ht]; exact hP, hD⟩, hS.F ht⟩) hS.2.2 dX6_topBidder_66
      · have hf := if_f cc17 hf
        refine lv_aload_n hx hb dX6_topBidder_20 rfl (lv_at hl 0 rfl) ?_
        refine va_get (D := D) (ci := 6) (v := .ref (a 4 0)) (C := RX6) (T := TX6) (N := 10) hx hb hG inG6 hown hK hP 0 at_C_0_0 rfl 3 (by decide) (hG _ g_227) (fun _ h9 => h9) rfl dX6_topBidder_21 ?_
        refine va_get (D := D) (ci := 4) (v := .ref (a 4 4)) (C := RX4) (T := TX4) (N := 7) hx hb hG inG4 hown hK hP 30 at_C_4_0 rfl 3 (by decide) (hG _ g_186) (fun _ h9 => h9) rfl dX6_topBidder_24 ?_
        refine lv_iload hx hb dX6_topBidder_27 (lv_at hl 5 rfl) ?_
        refine lv_iload_n hx hb dX6_topBidder_29 rfl (lv_at hl 1 rfl) ?_
        obtain ⟨q4, hq4, hf⟩ := bd_x hf
        have hFc := va_free (wc := []) hD hS hA [] rfl
        refine va_calli (va_runS (As := [.int v3, .int p1]) (rest := [.ref (a 4 4)]) ⟨hx, hb, hml, hown, hG⟩ (c_X6_slot l D cI cZ v3 p1 H.size hq4) (cwS 2 hG (gS g_313 g_296 g_70 g_297) rfl rfl rfl (by decide +kernel) ⟨Nat.le_of_ble_eq_true rfl, Nat.le_of_ble_eq_true rfl⟩) ⟨pre_blind, fun U hU hW => ⟨rfl, pre_of P_nil hK D_nil hnw hU hW⟩⟩ rfl rfl hl.1 rfl (lv_room (Nat.le_of_ble_eq_true rfl)) dX6_topBidder_30 ⟨Nat.le_of_ble_eq_true rfl, Nat.le_of_ble_eq_true rfl⟩) hS (fun q _ h => hFc q h) hFc (fun v u t H locs ht hvm hw hB hz1 hk1 hS => ?_)
        have hw := hw.symm; subst hw
        obtain ⟨hP1, hD1⟩ := hB
        rw [ht] at hP1
        obtain ⟨hP, hD⟩ := back hP hD [] rfl rfl hk1 hFc hP1 hD1
        obtain ⟨hb33, hf⟩ := gd hf
        refine va_iald (cA := cI) (n := 30) (f := (C 4) 4) hx hb hK hP 34 0 at_C_4_4 rfl (inb_in hb33) dX6_topBidder_33 ?_
        refine lv_topi (fun v5 ev5 => ?_)
        have hf := nm_x ev5 hf
        refine lv_istore (lv' := [(6, .int v5), (0, .ref (a 0 0)), (1, .int p1), (2, .int p2), (3, .int v1), (4, .int v2), (5, .int v3)]) hx hb dX6_topBidder_34 hl (by decide) rfl (fun ls hl => ?_)
        refine lv_iload_n hx hb dX6_topBidder_36 rfl (lv_at hl 3 rfl) ?_
        refine lv_iload hx hb dX6_topBidder_37 (lv_at hl 6 rfl) ?_
        obtain ⟨q6, hq6, hf⟩ := bd_x hf
        have hFc := va_free (wc := []) hD hS hA [] rfl
        refine va_calli (va_runS (As := [.int p2, .int v3]) (rest := []) ⟨hx, hb, hml, hown, hG⟩ (c_X6_has l D cI cZ p2 v3 H.size hq6) (cwS 2 hG (gS g_386 g_284 g_70 g_285) rfl rfl rfl (by decide +kernel) ⟨Nat.le_of_ble_eq_true rfl, Nat.le_of_ble_eq_true rfl⟩) ⟨pre_blind, fun U hU hW => ⟨rfl, pre_of P_nil hK D_nil hnw hU hW⟩⟩ rfl rfl hl.1 rfl (lv_room (Nat.le_of_ble_eq_true rfl)) dX6_topBidder_39 ⟨Nat.le_of_ble_eq_true rfl, Nat.le_of_ble_eq_true rfl⟩) hS (fun q _ h => hFc q h) hFc (fun v u t H locs ht hvm hw hB hz1 hk1 hS => ?_)
        have hw := hw.symm; subst hw
        obtain ⟨hP1, hD1⟩ := hB
        rw [ht] at hP1
        obtain ⟨hP, hD⟩ := back hP hD [] rfl rfl hk1 hFc hP1 hD1
        have J59 : ∀ (v7 : Int32) (v8 : Int32) (H : Heap) (locs : List Loc) (ls : Array Slot), va_P D vwCl (cW cI a C) H → va_D A (cW cI a C) → va_S A s.heap H locs → lv_has ls 7 [(0, .ref (a 0 0)), (1, .int p1), (2, .int p2), (3, .int v7), (4, .int v8), (5, .int v3)] → f_X6_topBidder_j59 rc8 v3 v7 v8 = some r → W p l e RM_X6_topBidder s m (([.ref (a 0 0), .int p1, .int p2] : List Value).toArray) below meth c H locs 0 0 (MQ below (QI0 D A (cW cI a C) r) (([.ref (a 0 0), .int p1, .int p2] : List Value).toArray) s 0 0 A) (F0 m 59 ls []) := by
          intro v7 v8 H locs ls hP hD hS hl hf
          unfold f_X6_topBidder_j59 at hf
          obtain ⟨v9, ev9⟩ : ∃ y : Int32, y = (v3 + (1 : Int32)) := ⟨_, rfl⟩
          have hf := nm_x ev9 hf
          refine lv_iinc (v := v9) (lv' := [(5, .int v9), (0, .ref (a 0 0)), (1, .int p1), (2, .int p2), (3, .int v7), (4, .int v8)]) hx hb dX6_topBidder_59 hl (k := 5) rfl (by rw [ev9]; rfl) (by decide) rfl (fun ls hl => ?_)
          refine lv_goto (tgt := 8) hx hb dX6_topBidder_62 (by decide) ?_
          exact ih8 v7 v8 v9 _ _ _ hP hD hS (lv_sub hl [1, 2, 3, 4, 5, 0] rfl) hf
        refine lv_if_ne (tgt := 59) hx hb dX6_topBidder_42 (by decide) (fun cc42 => ?_) (fun cc42 => ?_)
        · have hf := if_f cc42 hf
          exact J59 v1 v2 _ _ _ hP hD hS (lv_sub hl [1, 2, 3, 4, 5, 6] rfl) hf
        · have hf := if_t cc42 hf
          refine lv_iload hx hb dX6_topBidder_45 (lv_at hl 0 rfl) ?_
          refine lv_iload hx hb dX6_topBidder_47 (lv_at hl 5 rfl) ?_
          refine lv_icmp_le (tgt := 59) hx hb dX6_topBidder_49 (by decide) (fun cc49 => ?_) (fun cc49 => ?_)
          · have hf := if_t cc49 hf
            exact J59 v1 v2 _ _ _ hP hD hS (lv_sub hl [1, 2, 3, 4, 5, 6] rfl) hf
          · have hf := if_f cc49 hf
            refine lv_iload hx hb dX6_topBidder_52 (lv_at hl 6 rfl) ?_
            refine lv_istore_n (lv' := [(3, .int v3), (6, .int v5), (0, .ref (a 0 0)), (1, .int p1), (2, .int p2), (4, .int v2), (5, .int v3)]) hx hb dX6_topBidder_54 rfl hl (by decide) rfl (fun ls hl => ?_)
            refine lv_iload hx hb dX6_topBidder_55 (lv_at hl 1 rfl) ?_
            refine lv_istore (lv' := [(4, .int v5), (3, .int v3), (6, .int v5), (0, .ref (a 0 0)), (1, .int p1), (2, .int p2), (5, .int v3)]) hx hb dX6_topBidder_57 hl (by decide) rfl (fun ls hl => ?_)
            exact J59 v3 v5 _ _ _ hP hD hS (lv_sub hl [3, 4, 5, 1, 0, 6] rfl) hf
  exact L8 FU (-1 : Int32) (0 : Int32) (0 : Int32) _ _ _ hP hD hS (lv_sub hl [3, 4, 5, 2, 1, 0] rfl) hf
def f_X6_hire_j56 (rc28 : Int32 → Int32 → Option (Int32)) (v3 : Int32) (v8 : Int32) : Option (Int32) := nm (v3 + (1 : Int32)) (fun (v9 : Int32) => rc28 v8 v9)
def f_X6_hire_b28 (C : CC) (p1 : Int32) (p2 : Int32) (rc28 : Int32 → Int32 → Option (Int32)) (v2 : Int32) (v3 : Int32) : Option (Int32) := (if p1 ≤ v3 then bd (f_X6_topBidder C p1 v2) (fun (q4 : Int32) => (if q4 = (-1 : Int32) then some q4 else (if p2 = 0 then some q4 else bd (f_X6_topBidder C p1 (v2 ||| ((1 : Int32) <<< (q4 &&& 31)))) (fun (q5 : Int32) => (if q5 = (-1 : Int32) then some (0 : Int32) else bd (f_X6_slot q5 p1) (fun (q6 : Int32) => (if inb q6 30 then some ((C 4) 4 (Int32.toNatClampNeg q6)) else none))))))) else bd (f_X6_topBidder C v3 v2) (fun (q7 : Int32) => (if q7 = (-1 : Int32) then f_X6_hire_j56 rc28 v3 v2 else nm (v2 ||| ((1 : Int32) <<< (q7 &&& 31))) (fun (v10 : Int32) => f_X6_hire_j56 rc28 v3 v10))))
def f_X6_hire (C : CC) (p1 : Int32) (p2 : Int32) : Option (Int32) := bd (f_X6_isFighter C p1) (fun (q1 : Int32) => (if q1 = 0 then some (-1000000001 : Int32) else (if p2 < 0 then some (-1000000002 : Int32) else (if p2 ≤ (1 : Int32) then lp (fun _ _ => none : Int32 → Int32 → Option (Int32)) (f_X6_hire_b28 C p1 p2) FU (0 : Int32) (0 : Int32) else some (-1000000002 : Int32)))))
abbrev RM_X6_hire : Room := { frames := 2, cells := 0, slots := 0, locals := 47 }
set_option maxHeartbeats 4000000 in
set_option maxRecDepth 100000 in
theorem c_X6_hire (l : Launch) (D : va_G) (cI cZ : ClassId) (a : Nat → Nat → Nat) (C : CC) (p1 : Int32) (p2 : Int32) (sz : Nat) {r : Int32} (hf : f_X6_hire C p1 p2 = some r) : Met l yX6_hire (wM yX6_hire cX6_hire 6 (some .int)) RM_X6_hire (va_Pc [.ref (a 0 0), .int p1, .int p2] (pre D cI cZ (cW cI a C) sz)) (QI0 D (va_A (cW cI a C) sz) (cW cI a C) r) 0 0 (va_A (cW cI a C) sz) := by
  unfold f_X6_hire at hf
  refine Met.ofW (cc := cX6_hire) (maxL := 6) (ret := (some .int)) (by decide) rfl ?_
  intro p e s m args below meth c s₁ B hml hv
  obtain ⟨rfl, hsz, hP, hK, hD0, hnw⟩ := hv
  have hx := B.exec
  have hb := B.bytes
  have hr := B.returns
  have hts := atoms_spec (ws := wM yX6_hire cX6_hire 6 (some .int)) B.pre
  have hG : ∀ w ∈ GW, w.before (([.ref (a 0 0), .int p1, .int p2] : List Value).toArray) s = true := fun w h => hts w (List.mem_cons_of_mem _ h)
  have hown : s.vm.findClass RX6 = some m.cls := findClass_of_methodNamed B.named
  have hlocks := B.notSynchronized
  subst hsz
  have hD := hD0.self (sz := s.heap.size)
  generalize hAe : va_A (cW cI a C) s.heap.size = A at hD ⊢
  have hA : ∀ q : Nat, s.heap.size ≤ q → A q := fun q h => by rw [← hAe]; exact Or.inr h
  have hS : va_S A s.heap s.heap [] := va_S.rf
  have hl := lv_entry ([.ref (a 0 0), .int p1, .int p2]) (n := 6) (Nat.le_of_ble_eq_true rfl)
  rw [lg_entry_eq]
  generalize (lg_sl ([.ref (a 0 0), .int p1, .int p2]) ++ List.replicate (6 - (lg_sl ([.ref (a 0 0), .int p1, .int p2])).length) Slot.unset).toArray = ls at hl ⊢
  have hl : lv_has ls 6 [(0, .ref (a 0 0)), (1, .int p1), (2, .int p2)] := hl
  show W p l e RM_X6_hire s m (([.ref (a 0 0), .int p1, .int p2] : List Value).toArray) below meth c s.heap [] 0 0 (MQ below (QI0 D A (cW cI a C) r) (([.ref (a 0 0), .int p1, .int p2] : List Value).toArray) s 0 0 A) (F0 m 0 ls [])
  refine lv_aload_n hx hb dX6_hire_0 rfl (lv_at hl 0 rfl) ?_
  refine lv_iload_n hx hb dX6_hire_1 rfl (lv_at hl 1 rfl) ?_
  obtain ⟨q1, hq1, hf⟩ := bd_x hf
  have hFc := freeS hD hS hA
  refine va_calli (va_runV (As := [.int p1]) (rest := []) ⟨hx, hb, hml, hown, hG⟩ (c_X6_isFighter l D cI cZ a C p1 s.heap.size hq1) (cwV 1 hG (gV g_318 g_319 g_13 g_70 g_320) rfl rfl rfl (by decide +kernel) ⟨Nat.le_of_ble_eq_true rfl, Nat.le_of_ble_eq_true rfl⟩) ⟨pre_blind, va_recv hK hP (ci := 6) (q0 := 0) rfl rfl, fun U hU hW => ⟨rfl, pre_of hP hK hD hnw hU hW⟩⟩ rfl rfl hl.1 rfl (lv_room (Nat.le_of_ble_eq_true rfl)) dX6_hire_2 ⟨Nat.le_of_ble_eq_true rfl, Nat.le_of_ble_eq_true rfl⟩) hS (fun q _ h => hFc q h) hFc (fun v u t H locs ht hvm hw hB hz1 hk1 hS => ?_)
  have hw := hw.symm; subst hw
  obtain ⟨hP1, hD1⟩ := hB
  rw [ht] at hP1
  have hP := hP1
  have hD := hD1.weaken (fun _ q _ h => hFc q.1 h)
  refine lv_if_ne (tgt := 11) hx hb dX6_hire_5 (by decide) (fun cc5 => ?_) (fun cc5 => ?_)
  · have hf := if_f cc5 hf
    refine lv_iload_n hx hb dX6_hire_11 rfl (lv_at hl 2 rfl) ?_
    refine lv_if_lt (tgt := 20) hx hb dX6_hire_12 (by decide) (fun cc12 => ?_) (fun cc12 => ?_)
    · have hf := if_t cc12 hf
      refine lv_ldc hx hb hown (hG _ g_238) dX6_hire_20 ?_
      exact W.iret (v := (-1000000002 : Int32)) hx hb hr (fun t ht hW => ⟨⟨(-1000000002 : Int32), (), rfl, Option.some.inj hf, by rw [ht]; exact hP, hD⟩, hS.F ht⟩) hS.2.2 dX6_hire_22
    · have hf := if_f cc12 hf
      refine lv_iload_n hx hb dX6_hire_15 rfl (lv_at hl 2 rfl) ?_
      refine lv_iconst (v := (1 : Int32)) hx hb dX6_hire_16 (by decide) ?_
      refine lv_icmp_le (tgt := 23) hx hb dX6_hire_17 (by decide) (fun cc17 => ?_) (fun cc17 => ?_)
      · have hf := if_t cc17 hf
        refine lv_iconst (v := (0 : Int32)) hx hb dX6_hire_23 (by decide) ?_
        refine lv_istore_n (lv' := [(3, .int (0 : Int32)), (0, .ref (a 0 0)), (1, .int p1), (2, .int p2)]) hx hb dX6_hire_24 rfl hl (by decide) rfl (fun ls hl => ?_)
        refine lv_iconst (v := (0 : Int32)) hx hb dX6_hire_25 (by decide) ?_
        refine lv_istore (lv' := [(4, .int (0 : Int32)), (3, .int (0 : Int32)), (0, .ref (a 0 0)), (1, .int p1), (2, .int p2)]) hx hb dX6_hire_26 hl (by decide) rfl (fun ls hl => ?_)
        have L28 : ∀ (n : Nat) (v2 : Int32) (v3 : Int32) (H : Heap) (locs : List Loc) (ls : Array Slot), va_P D vwCl (cW cI a C) H → va_D A (cW cI a C) → va_S A s.heap H locs → lv_has ls 6 [(0, .ref (a 0 0)), (1, .int p1), (2, .int p2), (3, .int v2), (4, .int v3)] → lp (fun _ _ => none : Int32 → Int32 → Option (Int32)) (f_X6_hire_b28 C p1 p2) n v2 v3 = some r → W p l e RM_X6_hire s m (([.ref (a 0 0), .int p1, .int p2] : List Value).toArray) below meth c H locs 0 0 (MQ below (QI0 D A (cW cI a C) r) (([.ref (a 0 0), .int p1, .int p2] : List Value).toArray) s 0 0 A) (F0 m 28 ls []) := by
          intro n
          induction n with
          | zero => intro v2 v3 H locs ls _ _ _ _ hf; cases (show (none : Option (Int32)) = some r from hf)
          | succ n ih28 =>
            intro v2 v3 H locs ls hP hD hS hl hf
            have hf : (f_X6_hire_b28 C p1 p2) (lp (fun _ _ => none : Int32 → Int32 → Option (Int32)) (f_X6_hire_b28 C p1 p2) n) v2 v3 = some r := hf
            generalize lp (fun _ _ => none : Int32 → Int32 → Option (Int32)) (f_X6_hire_b28 C p1 p2) n = rc28 at ih28 hf
            unfold f_X6_hire_b28 at hf
            refine lv_iload hx hb dX6_hire_28 (lv_at hl 4 rfl) ?_
            refine lv_iload_n hx hb dX6_hire_30 rfl (lv_at hl 1 rfl) ?_
            refine lv_icmp_ge (tgt := 62) hx hb dX6_hire_31 (by decide) (fun cc31 => ?_) (fun cc31 => ?_)
            · have hf := if_t cc31 hf
              refine lv_aload_n hx hb dX6_hire_62 rfl (lv_at hl 0 rfl) ?_
              refine lv_iload_n hx hb dX6_hire_63 rfl (lv_at hl 1 rfl) ?_
              refine lv_iload_n hx hb dX6_hire_64 rfl (lv_at hl 3 rfl) ?_
              obtain ⟨q4, hq4, hf⟩ := bd_x hf
              have hFc := freeS hD hS hA
              refine va_calli (va_runV (As := [.int p1, .int v2]) (rest := []) ⟨hx, hb, hml, hown, hG⟩ (c_X6_topBidder l D cI cZ a C p1 v2 H.size hq4) (cwV 2 hG (gV g_504 g_505 g_31 g_70 g_506) rfl rfl rfl (by decide +kernel) ⟨Nat.le_of_ble_eq_true rfl, Nat.le_of_ble_eq_true rfl⟩) ⟨pre_blind, va_recv hK hP (ci := 6) (q0 := 0) rfl rfl, fun U hU hW => ⟨rfl, pre_of hP hK hD hnw hU hW⟩⟩ rfl rfl hl.1 rfl (lv_room (Nat.le_of_ble_eq_true rfl)) dX6_hire_65 ⟨Nat.le_of_ble_eq_true rfl, Nat.le_of_ble_eq_true rfl⟩) hS (fun q _ h => hFc q h) hFc (fun v u t H locs ht hvm hw hB hz1 hk1 hS => ?_)
              have hw := hw.symm; subst hw
              obtain ⟨hP1, hD1⟩ := hB
              rw [ht] at hP1
              have hP := hP1
              have hD := hD1.weaken (fun _ q _ h => hFc q.1 h)
              refine lv_istore (lv' := [(4, .int q4), (0, .ref (a 0 0)), (1, .int p1), (2, .int p2), (3, .int v2)]) hx hb dX6_hire_68 hl (by decide) rfl (fun ls hl => ?_)
              refine lv_iload hx hb dX6_hire_70 (lv_at hl 0 rfl) ?_
              refine lv_iconst (v := (-1 : Int32)) hx hb dX6_hire_72 (by decide) ?_
              refine lv_icmp_eq (tgt := 80) hx hb dX6_hire_73 (by decide) (fun cc73 => ?_) (fun cc73 => ?_)
              · have hf := if_t cc73 hf
                refine lv_iload hx hb dX6_hire_80 (lv_at hl 0 rfl) ?_
                exact W.iret (v := q4) hx hb hr (fun t ht hW => ⟨⟨q4, (), rfl, Option.some.inj hf, by rw [ht]; exact hP, hD⟩, hS.F ht⟩) hS.2.2 dX6_hire_82
              · have hf := if_f cc73 hf
                refine lv_iload_n hx hb dX6_hire_76 rfl (lv_at hl 3 rfl) ?_
                refine lv_if_ne (tgt := 83) hx hb dX6_hire_77 (by decide) (fun cc77 => ?_) (fun cc77 => ?_)
                · have hf := if_f cc77 hf
                  refine lv_aload_n hx hb dX6_hire_83 rfl (lv_at hl 1 rfl) ?_
                  refine lv_iload_n hx hb dX6_hire_84 rfl (lv_at hl 2 rfl) ?_
                  refine lv_iload_n hx hb dX6_hire_85 rfl (lv_at hl 4 rfl) ?_
                  refine lv_iconst (v := (1 : Int32)) hx hb dX6_hire_86 (by decide) ?_
                  refine lv_iload hx hb dX6_hire_87 (lv_at hl 0 rfl) ?_
                  refine lv_ishl hx hb dX6_hire_89 ?_
                  refine lv_ior hx hb dX6_hire_90 ?_
                  obtain ⟨q5, hq5, hf⟩ := bd_x hf
                  have hFc := freeS hD hS hA
                  refine va_calli (va_runV (As := [.int p1, .int (v2 ||| ((1 : Int32) <<< (q4 &&& 31)))]) (rest := []) ⟨hx, hb, hml, hown, hG⟩ (c_X6_topBidder l D cI cZ a C p1 (v2 ||| ((1 : Int32) <<< (q4 &&& 31))) H.size hq5) (cwV 2 hG (gV g_504 g_505 g_31 g_70 g_506) rfl rfl rfl (by decide +kernel) ⟨Nat.le_of_ble_eq_true rfl, Nat.le_of_ble_eq_true rfl⟩) ⟨pre_blind, va_recv hK hP (ci := 6) (q0 := 0) rfl rfl, fun U hU hW => ⟨rfl, pre_of hP hK hD hnw hU hW⟩⟩ rfl rfl hl.1 rfl (lv_room (Nat.le_of_ble_eq_true rfl)) dX6_hire_91 ⟨Nat.le_of_ble_eq_true rfl, Nat.le_of_ble_eq_true rfl⟩) hS (fun q _ h => hFc q h) hFc (fun v u t H locs ht hvm hw hB hz1 hk1 hS => ?_)
                  have hw := hw.symm; subst hw
                  obtain ⟨hP1, hD1⟩ := hB
                  rw [ht] at hP1
                  have hP := hP1
                  have hD := hD1.weaken (fun _ q _ h => hFc q.1 h)
                  refine lv_istore (lv' := [(5, .int q5), (4, .int q4), (0, .ref (a 0 0)), (1, .int p1), (2, .int p2), (3, .int v2)]) hx hb dX6_hire_94 hl (by decide) rfl (fun ls hl => ?_)
                  refine lv_iload hx hb dX6_hire_96 (lv_at hl 0 rfl) ?_
                  refine lv_iconst (v := (-1 : Int32)) hx hb dX6_hire_98 (by decide) ?_
                  refine lv_icmp_ne (tgt := 106) hx hb dX6_hire_99 (by decide) (fun cc99 => ?_) (fun cc99 => ?_)
                  · have hf := if_f cc99 hf
                    refine lv_aload_n hx hb dX6_hire_106 rfl (lv_at hl 2 rfl) ?_
                    refine va_get (D := D) (ci := 6) (v := .ref (a 4 0)) (C := RX6) (T := TX6) (N := 10) hx hb hG inG6 hown hK hP 0 at_C_0_0 rfl 3 (by decide) (hG _ g_227) (fun _ h9 => h9) rfl dX6_hire_107 ?_
                    refine va_get (D := D) (ci := 4) (v := .ref (a 4 4)) (C := RX4) (T := TX4) (N := 7) hx hb hG inG4 hown hK hP 30 at_C_4_0 rfl 3 (by decide) (hG _ g_186) (fun _ h9 => h9) rfl dX6_hire_110 ?_
                    refine lv_iload hx hb dX6_hire_113 (lv_at hl 0 rfl) ?_
                    refine lv_iload_n hx hb dX6_hire_115 rfl (lv_at hl 3 rfl) ?_
                    obtain ⟨q6, hq6, hf⟩ := bd_x hf
                    have hFc := va_free (wc := []) hD hS hA [] rfl
                    refine va_calli (va_runS (As := [.int q5, .int p1]) (rest := [.ref (a 4 4)]) ⟨hx, hb, hml, hown, hG⟩ (c_X6_slot l D cI cZ q5 p1 H.size hq6) (cwS 2 hG (gS g_313 g_296 g_70 g_297) rfl rfl rfl (by decide +kernel) ⟨Nat.le_of_ble_eq_true rfl, Nat.le_of_ble_eq_true rfl⟩) ⟨pre_blind, fun U hU hW => ⟨rfl, pre_of P_nil hK D_nil hnw hU hW⟩⟩ rfl rfl hl.1 rfl (lv_room (Nat.le_of_ble_eq_true rfl)) dX6_hire_116 ⟨Nat.le_of_ble_eq_true rfl, Nat.le_of_ble_eq_true rfl⟩) hS (fun q _ h => hFc q h) hFc (fun v u t H locs ht hvm hw hB hz1 hk1 hS => ?_)
                    have hw := hw.symm; subst hw
                    obtain ⟨hP1, hD1⟩ := hB
                    rw [ht] at hP1
                    obtain ⟨hP, hD⟩ := back hP hD [] rfl rfl hk1 hFc hP1 hD1
                    obtain ⟨hb119, hf⟩ := gd hf
                    refine va_iald (cA := cI) (n := 30) (f := (C 4) 4) hx hb hK hP 34 0 at_C_4_4 rfl (inb_in hb119) dX6_hire_119 ?_
                    exact W.iret (v := ((C 4) 4 (Int32.toNatClampNeg q6))) hx hb hr (fun t ht hW => ⟨⟨((C 4) 4 (Int32.toNatClampNeg q6)), (), rfl, Option.some.inj hf, by rw [ht]; exact hP, hD⟩, hS.F ht⟩) hS.2.2 dX6_hire_120
                  · have hf := if_t cc99 hf
                    refine lv_iconst (v := (0 : Int32)) hx hb dX6_hire_102 (by decide) ?_
                    refine lv_goto (tgt := 120) hx hb dX6_hire_103 (by decide) ?_
                    exact W.iret (v := (0 : Int32)) hx hb hr (fun t ht hW => ⟨⟨(0 : Int32), (), rfl, Option.some.inj hf, by rw [ht]; exact hP, hD⟩, hS.F ht⟩) hS.2.2 dX6_hire_120
                · have hf := if_t cc77 hf
                  refine lv_iload hx hb dX6_hire_80 (lv_at hl 0 rfl) ?_
                  exact W.iret (v := q4) hx hb hr (fun t ht hW => ⟨⟨q4, (), rfl, Option.some.inj hf, by rw [ht]; exact hP, hD⟩, hS.F ht⟩) hS.2.2 dX6_hire_82
            · have hf := if_f cc31 hf
              refine lv_aload_n hx hb dX6_hire_34 rfl (lv_at hl 0 rfl) ?_
              refine lv_iload hx hb dX6_hire_35 (lv_at hl 4 rfl) ?_
              refine lv_iload_n hx hb dX6_hire_37 rfl (lv_at hl 3 rfl) ?_
              obtain ⟨q7, hq7, hf⟩ := bd_x hf
              have hFc := freeS hD hS hA
              refine va_calli (va_runV (As := [.int v3, .int v2]) (rest := []) ⟨hx, hb, hml, hown, hG⟩ (c_X6_topBidder l D cI cZ a C v3 v2 H.size hq7) (cwV 2 hG (gV g_504 g_505 g_31 g_70 g_506) rfl rfl rfl (by decide +kernel) ⟨Nat.le_of_ble_eq_true rfl, Nat.le_of_ble_eq_true rfl⟩) ⟨pre_blind, va_recv hK hP (ci := 6) (q0 := 0) rfl rfl, fun U hU hW => ⟨rfl, pre_of hP hK hD hnw hU hW⟩⟩ rfl rfl hl.1 rfl (lv_room (Nat.le_of_ble_eq_true rfl)) dX6_hire_38 ⟨Nat.le_of_ble_eq_true rfl, Nat.le_of_ble_eq_true rfl⟩) hS (fun q _ h => hFc q h) hFc (fun v u t H locs ht hvm hw hB hz1 hk1 hS => ?_)
              have hw := hw.symm; subst hw
              obtain ⟨hP1, hD1⟩ := hB
              rw [ht] at hP1
              have hP := hP1
              have hD := hD1.weaken (fun _ q _ h => hFc q.1 h)
              refine lv_istore (lv' := [(5, .int q7), (0, .ref (a 0 0)), (1, .int p1), (2, .int p2), (3, .int v2), (4, .int v3)]) hx hb dX6_hire_41 hl (by decide) rfl (fun ls hl => ?_)
              refine lv_iload hx hb dX6_hire_43 (lv_at hl 0 rfl) ?_
              refine lv_iconst (v := (-1 : Int32)) hx hb dX6_hire_45 (by decide) ?_
              have J56 : ∀ (v8 : Int32) (H : Heap) (locs : List Loc) (ls : Array Slot), va_P D vwCl (cW cI a C) H → va_D A (cW cI a C) → va_S A s.heap H locs → lv_has ls 6 [(0, .ref (a 0 0)), (1, .int p1), (2, .int p2), (3, .int v8), (4, .int v3)] → f_X6_hire_j56 rc28 v3 v8 = some r → W p l e RM_X6_hire s m (([.ref (a 0 0), .int p1, .int p2] : List Value).toArray) below meth c H locs 0 0 (MQ below (QI0 D A (cW cI a C) r) (([.ref (a 0 0), .int p1, .int p2] : List Value).toArray) s 0 0 A) (F0 m 56 ls []) := by
                intro v8 H locs ls hP hD hS hl hf
                unfold f_X6_hire_j56 at hf
                obtain ⟨v9, ev9⟩ : ∃ y : Int32, y = (v3 + (1 : Int32)) := ⟨_, rfl⟩
                have hf := nm_x ev9 hf
                refine lv_iinc (v := v9) (lv' := [(4, .int v9), (0, .ref (a 0 0)), (1, .int p1), (2, .int p2), (3, .int v8)]) hx hb dX6_hire_56 hl (k := 4) rfl (by rw [ev9]; rfl) (by decide) rfl (fun ls hl => ?_)
                refine lv_goto (tgt := 28) hx hb dX6_hire_59 (by decide) ?_
                exact ih28 v8 v9 _ _ _ hP hD hS (lv_sub hl [1, 2, 3, 4, 0] rfl) hf
              refine lv_icmp_eq (tgt := 56) hx hb dX6_hire_46 (by decide) (fun cc46 => ?_) (fun cc46 => ?_)
              · have hf := if_t cc46 hf
                exact J56 v2 _ _ _ hP hD hS (lv_sub hl [1, 2, 3, 4, 5] rfl) hf
              · have hf := if_f cc46 hf
                refine lv_iload_n hx hb dX6_hire_49 rfl (lv_at hl 4 rfl) ?_
                refine lv_iconst (v := (1 : Int32)) hx hb dX6_hire_50 (by decide) ?_
                refine lv_iload hx hb dX6_hire_51 (lv_at hl 0 rfl) ?_
                refine lv_ishl hx hb dX6_hire_53 ?_
                refine lv_ior hx hb dX6_hire_54 ?_
                refine lv_topi (fun v10 ev10 => ?_)
                have hf := nm_x ev10 hf
                refine lv_istore_n (lv' := [(3, .int v10), (5, .int q7), (0, .ref (a 0 0)), (1, .int p1), (2, .int p2), (4, .int v3)]) hx hb dX6_hire_55 rfl hl (by decide) rfl (fun ls hl => ?_)
                exact J56 v10 _ _ _ hP hD hS (lv_sub hl [2, 3, 4, 0, 5] rfl) hf
        exact L28 FU (0 : Int32) (0 : Int32) _ _ _ hP hD hS (lv_sub hl [2, 3, 4, 1, 0] rfl) hf
      · have hf := if_f cc17 hf
        refine lv_ldc hx hb hown (hG _ g_238) dX6_hire_20 ?_
        exact W.iret (v := (-1000000002 : Int32)) hx hb hr (fun t ht hW => ⟨⟨(-1000000002 : Int32), (), rfl, Option.some.inj hf, by rw [ht]; exact hP, hD⟩, hS.F ht⟩) hS.2.2 dX6_hire_22
  · have hf := if_t cc5 hf
    refine lv_ldc hx hb hown (hG _ g_321) dX6_hire_8 ?_
    exact W.iret (v := (-1000000001 : Int32)) hx hb hr (fun t ht hW => ⟨⟨(-1000000001 : Int32), (), rfl, Option.some.inj hf, by rw [ht]; exact hP, hD⟩, hS.F ht⟩) hS.2.2 dX6_hire_10
def f_X6_waysBy_j26 (p2 : Int32) (p3 : Int32) (q1 : Int32) (v2 : Int32) : Option (Int32) := (if (if (p2 + q1) < (99 : Int32) then (p2 + q1) else (99 : Int32)) = p3 then some (v2 + (1 : Int32)) else some (v2 + (0 : Int32)))
def f_X6_waysBy (C : CC) (p1 : Int32) (p2 : Int32) (p3 : Int32) : Option (Int32) := bd (f_X2_fameOf (C 2) p1) (fun (q1 : Int32) => (if (if q1 < (99 : Int32) then q1 else (99 : Int32)) = p3 then f_X6_waysBy_j26 p2 p3 q1 (1 : Int32) else f_X6_waysBy_j26 p2 p3 q1 (0 : Int32)))
abbrev RM_X6_waysBy : Room := { frames := 3, cells := 0, slots := 0, locals := 66 }
set_option maxHeartbeats 4000000 in
set_option maxRecDepth 100000 in
theorem c_X6_waysBy (l : Launch) (D : va_G) (cI cZ : ClassId) (a : Nat → Nat → Nat) (C : CC) (p1 : Int32) (p2 : Int32) (p3 : Int32) (sz : Nat) {r : Int32} (hf : f_X6_waysBy C p1 p2 p3 = some r) : Met l yX6_waysBy (wM yX6_waysBy cX6_waysBy 6 (some .int)) RM_X6_waysBy (va_Pc [.ref (a 0 0), .int p1, .int p2, .int p3] (pre D cI cZ (cW cI a C) sz)) (QI0 D (va_A (cW cI a C) sz) (cW cI a C) r) 0 0 (va_A (cW cI a C) sz) := by
  unfold f_X6_waysBy at hf
  refine Met.ofW (cc := cX6_waysBy) (maxL := 6) (ret := (some .int)) (by decide) rfl ?_
  intro p e s m args below meth c s₁ B hml hv
  obtain ⟨rfl, hsz, hP, hK, hD0, hnw⟩ := hv
  have hx := B.exec
  have hb := B.bytes
  have hr := B.returns
  have hts := atoms_spec (ws := wM yX6_waysBy cX6_waysBy 6 (some .int)) B.pre
  have hG : ∀ w ∈ GW, w.before (([.ref (a 0 0), .int p1, .int p2, .int p3] : List Value).toArray) s = true := fun w h => hts w (List.mem_cons_of_mem _ h)
  have hown : s.vm.findClass RX6 = some m.cls := findClass_of_methodNamed B.named
  have hlocks := B.notSynchronized
  subst hsz
  have hD := hD0.self (sz := s.heap.size)
  generalize hAe : va_A (cW cI a C) s.heap.size = A at hD ⊢
  have hA : ∀ q : Nat, s.heap.size ≤ q → A q := fun q h => by rw [← hAe]; exact Or.inr h
  have hS : va_S A s.heap s.heap [] := va_S.rf
  have hl := lv_entry ([.ref (a 0 0), .int p1, .int p2, .int p3]) (n := 6) (Nat.le_of_ble_eq_true rfl)
  rw [lg_entry_eq]
  generalize (lg_sl ([.ref (a 0 0), .int p1, .int p2, .int p3]) ++ List.replicate (6 - (lg_sl ([.ref (a 0 0), .int p1, .int p2, .int p3])).length) Slot.unset).toArray = ls at hl ⊢
  have hl : lv_has ls 6 [(0, .ref (a 0 0)), (1, .int p1), (2, .int p2), (3, .int p3)] := hl
  show W p l e RM_X6_waysBy s m (([.ref (a 0 0), .int p1, .int p2, .int p3] : List Value).toArray) below meth c s.heap [] 0 0 (MQ below (QI0 D A (cW cI a C) r) (([.ref (a 0 0), .int p1, .int p2, .int p3] : List Value).toArray) s 0 0 A) (F0 m 0 ls [])
  refine lv_aload_n hx hb dX6_waysBy_0 rfl (lv_at hl 0 rfl) ?_
  refine va_get (D := D) (ci := 6) (v := .ref (a 2 0)) (C := RX6) (T := TX6) (N := 10) hx hb hG inG6 hown hK hP 0 at_C_0_0 rfl 1 (by decide) (hG _ g_225) (fun _ h9 => h9) rfl dX6_waysBy_1 ?_
  refine lv_iload_n hx hb dX6_waysBy_4 rfl (lv_at hl 1 rfl) ?_
  obtain ⟨q1, hq1, hf⟩ := bd_x hf
  have hPc := subP [4, 5, 6, 7, 8, 9, 10, 11, 12, 13, 14, 15, 16] sub_C_L_2 hP
  have hDc := va_D.sub hD [4, 5, 6, 7, 8, 9, 10, 11, 12, 13, 14, 15, 16] rfl sub_C_L_2
  have hFc := va_free hD hS hA [4, 5, 6, 7, 8, 9, 10, 11, 12, 13, 14, 15, 16] sub_C_L_2
  refine va_calli (va_runV (As := [.int p1]) (rest := []) ⟨hx, hb, hml, hown, hG⟩ (c_X2_fameOf l D cI cZ (a 2) (C 2) p1 s.heap.size hq1) (cwV 1 hG (gV g_514 g_444 g_445 g_72 g_446) rfl rfl rfl (by decide +kernel) ⟨Nat.le_of_ble_eq_true rfl, Nat.le_of_ble_eq_true rfl⟩) ⟨pre_blind, va_recv hK hPc (ci := 2) (q0 := 0) rfl rfl, fun U hU hW => ⟨rfl, pre_of hPc hK hDc hnw hU hW⟩⟩ rfl rfl hl.1 rfl (lv_room (Nat.le_of_ble_eq_true rfl)) dX6_waysBy_5 ⟨Nat.le_of_ble_eq_true rfl, Nat.le_of_ble_eq_true rfl⟩) hS (fun q _ h => hFc q h) hFc (fun v u t H locs ht hvm hw hB hz1 hk1 hS => ?_)
  have hw := hw.symm; subst hw
  obtain ⟨hP1, hD1⟩ := hB
  rw [ht] at hP1
  obtain ⟨hP, hD⟩ := back hP hD [4, 5, 6, 7, 8, 9, 10, 11, 12, 13, 14, 15, 16] sub_C_L_2 rfl hk1 hFc hP1 hD1
  have hP := wP put_C_L_2_ hP
  have hD := wD put_C_L_2_ hD
  refine lv_istore (lv' := [(4, .int q1), (0, .ref (a 0 0)), (1, .int p1), (2, .int p2), (3, .int p3)]) hx hb dX6_waysBy_8 hl (by decide) rfl (fun ls hl => ?_)
  refine lv_bipush (v := (99 : Int32)) hx hb dX6_waysBy_10 (by decide) ?_
  refine lv_iload hx hb dX6_waysBy_12 (lv_at hl 0 rfl) ?_
  refine va_mmin hx hb (hml.trans hl.1.symm) hown (hG _ g_414) (hG _ g_330) (hG _ g_78) (hG _ g_331) (Nat.le_of_ble_eq_true rfl) (Nat.le_of_ble_eq_true rfl) (Nat.zero_le _) (Nat.zero_le _) dX6_waysBy_14 ?_
  refine lv_iload_n hx hb dX6_waysBy_17 rfl (lv_at hl 4 rfl) ?_
  have J26 : ∀ (v2 : Int32) (H : Heap) (locs : List Loc) (ls : Array Slot), va_P D vwCl (cW cI a C) H → va_D A (cW cI a C) → va_S A s.heap H locs → lv_has ls 6 [(2, .int p2), (3, .int p3), (4, .int q1)] → f_X6_waysBy_j26 p2 p3 q1 v2 = some r → W p l e RM_X6_waysBy s m (([.ref (a 0 0), .int p1, .int p2, .int p3] : List Value).toArray) below meth c H locs 0 0 (MQ below (QI0 D A (cW cI a C) r) (([.ref (a 0 0), .int p1, .int p2, .int p3] : List Value).toArray) s 0 0 A) (F0 m 26 ls [.int v2]) := by
    intro v2 H locs ls hP hD hS hl hf
    unfold f_X6_waysBy_j26 at hf
    refine lv_istore (lv' := [(5, .int v2), (2, .int p2), (3, .int p3), (4, .int q1)]) hx hb dX6_waysBy_26 hl (by decide) rfl (fun ls hl => ?_)
    refine lv_iload hx hb dX6_waysBy_28 (lv_at hl 0 rfl) ?_
    refine lv_bipush (v := (99 : Int32)) hx hb dX6_waysBy_30 (by decide) ?_
    refine lv_iload_n hx hb dX6_waysBy_32 rfl (lv_at hl 1 rfl) ?_
    refine lv_iload hx hb dX6_waysBy_33 (lv_at hl 3 rfl) ?_
    refine lv_iadd hx hb dX6_waysBy_35 ?_
    refine va_mmin hx hb (hml.trans hl.1.symm) hown (hG _ g_414) (hG _ g_330) (hG _ g_78) (hG _ g_331) (Nat.le_of_ble_eq_true rfl) (Nat.le_of_ble_eq_true rfl) (Nat.zero_le _) (Nat.zero_le _) dX6_waysBy_36 ?_
    refine lv_iload_n hx hb dX6_waysBy_39 rfl (lv_at hl 2 rfl) ?_
    refine lv_icmp_ne (tgt := 47) hx hb dX6_waysBy_40 (by decide) (fun cc40 => ?_) (fun cc40 => ?_)
    · have hf := if_f cc40 hf
      refine lv_iconst (v := (0 : Int32)) hx hb dX6_waysBy_47 (by decide) ?_
      refine lv_iadd hx hb dX6_waysBy_48 ?_
      exact W.iret (v := (v2 + (0 : Int32))) hx hb hr (fun t ht hW => ⟨⟨(v2 + (0 : Int32)), (), rfl, Option.some.inj hf, by rw [ht]; exact hP, hD⟩, hS.F ht⟩) hS.2.2 dX6_waysBy_49
    · have hf := if_t cc40 hf
      refine lv_iconst (v := (1 : Int32)) hx hb dX6_waysBy_43 (by decide) ?_
      refine lv_goto (tgt := 48) hx hb dX6_waysBy_44 (by decide) ?_
      refine lv_iadd hx hb dX6_waysBy_48 ?_
      exact W.iret (v := (v2 + (1 : Int32))) hx hb hr (fun t ht hW => ⟨⟨(v2 + (1 : Int32)), (), rfl, Option.some.inj hf, by rw [ht]; exact hP, hD⟩, hS.F ht⟩) hS.2.2 dX6_waysBy_49
  refine lv_icmp_ne (tgt := 25) hx hb dX6_waysBy_18 (by decide) (fun cc18 => ?_) (fun cc18 => ?_)
  · have hf := if_f cc18 hf
    refine lv_iconst (v := (0 : Int32)) hx hb dX6_waysBy_25 (by decide) ?_
    exact J26 (0 : Int32) _ _ _ hP hD hS (lv_sub hl [3, 4, 0] rfl) hf
  · have hf := if_t cc18 hf
    refine lv_iconst (v := (1 : Int32)) hx hb dX6_waysBy_21 (by decide) ?_
    refine lv_goto (tgt := 26) hx hb dX6_waysBy_22 (by decide) ?_
    exact J26 (1 : Int32) _ _ _ hP hD hS (lv_sub hl [3, 4, 0] rfl) hf
def f_X6_saw_j125 (rc63 : Int32 → Int32 → Int32 → Option (Int32)) (v8 : Int32) (v10 : Int32) (v11 : Int32) : Option (Int32) := nm (v8 + (1 : Int32)) (fun (v12 : Int32) => rc63 v10 v11 v12)
def f_X6_saw_j104 (rc63 : Int32 → Int32 → Int32 → Option (Int32)) (v6 : Int32) (v7 : Int32) (v8 : Int32) (v9 : Int32) : Option (Int32) := nm (v6 + v9) (fun (v10 : Int32) => (if v9 ≤ 0 then f_X6_saw_j125 rc63 v8 v10 v7 else nm (v7 &&& v8) (fun (v13 : Int32) => f_X6_saw_j125 rc63 v8 v10 v13)))
def f_X6_saw_b63 (C : CC) (p2 : Int32) (p3 : Int32) (v4 : Int32) (rc63 : Int32 → Int32 → Int32 → Option (Int32)) (v6 : Int32) (v7 : Int32) (v8 : Int32) : Option (Int32) := (if (64 : Int32) ≤ v8 then (if p3 = 0 then some v6 else (if v6 = 0 then some (0 : Int32) else some v7)) else (if inb p2 5 then (if (v8 &&& (((C 4) 2 (Int32.toNatClampNeg p2)) ^^^ (-1 : Int32))) = 0 then bd (f_X6_readsNow C p2) (fun (q14 : Int32) => bd (f_X6_waysBy C v8 q14 v4) (fun (q15 : Int32) => f_X6_saw_j104 rc63 v6 v7 v8 q15)) else f_X6_saw_j104 rc63 v6 v7 v8 (0 : Int32)) else none))
def f_X6_saw (C : CC) (p1 : Int32) (p2 : Int32) (p3 : Int32) : Option (Int32) := bd (f_X6_isPerson C p1) (fun (q1 : Int32) => (if q1 = 0 then some (-1000000001 : Int32) else bd (f_X6_isFighter C p2) (fun (q2 : Int32) => (if q2 = 0 then some (-1000000001 : Int32) else (if p3 < 0 then some (-1000000002 : Int32) else (if p3 ≤ (1 : Int32) then bd (f_X6_slot p1 p2) (fun (q3 : Int32) => (if inb q3 30 then nm ((C 4) 4 (Int32.toNatClampNeg q3)) (fun (v4 : Int32) => (if inb p2 5 then nm ((C 4) 2 (Int32.toNatClampNeg p2)) (fun (v5 : Int32) => lp (fun _ _ _ => none : Int32 → Int32 → Int32 → Option (Int32)) (f_X6_saw_b63 C p2 p3 v4) FU (0 : Int32) v5 (0 : Int32)) else none)) else none)) else some (-1000000002 : Int32)))))))
abbrev RM_X6_saw : Room := { frames := 4, cells := 0, slots := 0, locals := 91 }
set_option maxHeartbeats 4000000 in
set_option maxRecDepth 100000 in
theorem c_X6_saw (l : Launch) (D : va_G) (cI cZ : ClassId) (a : Nat → Nat → Nat) (C : CC) (p1 : Int32) (p2 : Int32) (p3 : Int32) (sz : Nat) {r : Int32} (hf : f_X6_saw C p1 p2 p3 = some r) : Met l yX6_saw (wM yX6_saw cX6_saw 9 (some .int)) RM_X6_saw (va_Pc [.ref (a 0 0), .int p1, .int p2, .int p3] (pre D cI cZ (cW cI a C) sz)) (QI0 D (va_A (cW cI a C) sz) (cW cI a C) r) 0 0 (va_A (cW cI a C) sz) := by
  unfold f_X6_saw at hf
  refine Met.ofW (cc := cX6_saw) (maxL := 9) (ret := (some .int)) (by decide) rfl ?_
  intro p e s m args below meth c s₁ B hml hv
  obtain ⟨rfl, hsz, hP, hK, hD0, hnw⟩ := hv
  have hx := B.exec
  have hb := B.bytes
  have hr := B.returns
  have hts := atoms_spec (ws := wM yX6_saw cX6_saw 9 (some .int)) B.pre
  have hG : ∀ w ∈ GW, w.before (([.ref (a 0 0), .int p1, .int p2, .int p3] : List Value).toArray) s = true := fun w h => hts w (List.mem_cons_of_mem _ h)
  have hown : s.vm.findClass RX6 = some m.cls := findClass_of_methodNamed B.named
  have hlocks := B.notSynchronized
  subst hsz
  have hD := hD0.self (sz := s.heap.size)
  generalize hAe : va_A (cW cI a C) s.heap.size = A at hD ⊢
  have hA : ∀ q : Nat, s.heap.size ≤ q → A q := fun q h => by rw [← hAe]; exact Or.inr h
  have hS : va_S A s.heap s.heap [] := va_S.rf
  have hl := lv_entry ([.ref (a 0 0), .int p1, .int p2, .int p3]) (n := 9) (Nat.le_of_ble_eq_true rfl)
  rw [lg_entry_eq]
  generalize (lg_sl ([.ref (a 0 0), .int p1, .int p2, .int p3]) ++ List.replicate (9 - (lg_sl ([.ref (a 0 0), .int p1, .int p2, .int p3])).length) Slot.unset).toArray = ls at hl ⊢
  have hl : lv_has ls 9 [(0, .ref (a 0 0)), (1, .int p1), (2, .int p2), (3, .int p3)] := hl
  show W p l e RM_X6_saw s m (([.ref (a 0 0), .int p1, .int p2, .int p3] : List Value).toArray) below meth c s.heap [] 0 0 (MQ below (QI0 D A (cW cI a C) r) (([.ref (a 0 0), .int p1, .int p2, .int p3] : List Value).toArray) s 0 0 A) (F0 m 0 ls [])
  refine lv_aload_n hx hb dX6_saw_0 rfl (lv_at hl 0 rfl) ?_
  refine lv_iload_n hx hb dX6_saw_1 rfl (lv_at hl 1 rfl) ?_
  obtain ⟨q1, hq1, hf⟩ := bd_x hf
  have hFc := freeS hD hS hA
  refine va_calli (va_runV (As := [.int p1]) (rest := []) ⟨hx, hb, hml, hown, hG⟩ (c_X6_isPerson l D cI cZ a C p1 s.heap.size hq1) (cwV 1 hG (gV g_344 g_345 g_16 g_70 g_346) rfl rfl rfl (by decide +kernel) ⟨Nat.le_of_ble_eq_true rfl, Nat.le_of_ble_eq_true rfl⟩) ⟨pre_blind, va_recv hK hP (ci := 6) (q0 := 0) rfl rfl, fun U hU hW => ⟨rfl, pre_of hP hK hD hnw hU hW⟩⟩ rfl rfl hl.1 rfl (lv_room (Nat.le_of_ble_eq_true rfl)) dX6_saw_2 ⟨Nat.le_of_ble_eq_true rfl, Nat.le_of_ble_eq_true rfl⟩) hS (fun q _ h => hFc q h) hFc (fun v u t H locs ht hvm hw hB hz1 hk1 hS => ?_)
  have hw := hw.symm; subst hw
  obtain ⟨hP1, hD1⟩ := hB
  rw [ht] at hP1
  have hP := hP1
  have hD := hD1.weaken (fun _ q _ h => hFc q.1 h)
  refine lv_if_eq (tgt := 16) hx hb dX6_saw_5 (by decide) (fun cc5 => ?_) (fun cc5 => ?_)
  · have hf := if_t cc5 hf
    refine lv_ldc hx hb hown (hG _ g_321) dX6_saw_16 ?_
    exact W.iret (v := (-1000000001 : Int32)) hx hb hr (fun t ht hW => ⟨⟨(-1000000001 : Int32), (), rfl, Option.some.inj hf, by rw [ht]; exact hP, hD⟩, hS.F ht⟩) hS.2.2 dX6_saw_18
  · have hf := if_f cc5 hf
    refine lv_aload_n hx hb dX6_saw_8 rfl (lv_at hl 0 rfl) ?_
    refine lv_iload_n hx hb dX6_saw_9 rfl (lv_at hl 2 rfl) ?_
    obtain ⟨q2, hq2, hf⟩ := bd_x hf
    have hFc := freeS hD hS hA
    refine va_calli (va_runV (As := [.int p2]) (rest := []) ⟨hx, hb, hml, hown, hG⟩ (c_X6_isFighter l D cI cZ a C p2 H.size hq2) (cwV 1 hG (gV g_318 g_319 g_13 g_70 g_320) rfl rfl rfl (by decide +kernel) ⟨Nat.le_of_ble_eq_true rfl, Nat.le_of_ble_eq_true rfl⟩) ⟨pre_blind, va_recv hK hP (ci := 6) (q0 := 0) rfl rfl, fun U hU hW => ⟨rfl, pre_of hP hK hD hnw hU hW⟩⟩ rfl rfl hl.1 rfl (lv_room (Nat.le_of_ble_eq_true rfl)) dX6_saw_10 ⟨Nat.le_of_ble_eq_true rfl, Nat.le_of_ble_eq_true rfl⟩) hS (fun q _ h => hFc q h) hFc (fun v u t H locs ht hvm hw hB hz1 hk1 hS => ?_)
    have hw := hw.symm; subst hw
    obtain ⟨hP1, hD1⟩ := hB
    rw [ht] at hP1
    have hP := hP1
    have hD := hD1.weaken (fun _ q _ h => hFc q.1 h)
    refine lv_if_ne (tgt := 19) hx hb dX6_saw_13 (by decide) (fun cc13 => ?_) (fun cc13 => ?_)
    · have hf := if_f cc13 hf
      refine lv_iload_n hx hb dX6_saw_19 rfl (lv_at hl 3 rfl) ?_
      refine lv_if_lt (tgt := 28) hx hb dX6_saw_20 (by decide) (fun cc20 => ?_) (fun cc20 => ?_)
      · have hf := if_t cc20 hf
        refine lv_ldc hx hb hown (hG _ g_238) dX6_saw_28 ?_
        exact W.iret (v := (-1000000002 : Int32)) hx hb hr (fun t ht hW => ⟨⟨(-1000000002 : Int32), (), rfl, Option.some.inj hf, by rw [ht]; exact hP, hD⟩, hS.F ht⟩) hS.2.2 dX6_saw_30
      · have hf := if_f cc20 hf
        refine lv_iload_n hx hb dX6_saw_23 rfl (lv_at hl 3 rfl) ?_
        refine lv_iconst (v := (1 : Int32)) hx hb dX6_saw_24 (by decide) ?_
        refine lv_icmp_le (tgt := 31) hx hb dX6_saw_25 (by decide) (fun cc25 => ?_) (fun cc25 => ?_)
        · have hf := if_t cc25 hf
          refine lv_aload_n hx hb dX6_saw_31 rfl (lv_at hl 0 rfl) ?_
          refine va_get (D := D) (ci := 6) (v := .ref (a 4 0)) (C := RX6) (T := TX6) (N := 10) hx hb hG inG6 hown hK hP 0 at_C_0_0 rfl 3 (by decide) (hG _ g_227) (fun _ h9 => h9) rfl dX6_saw_32 ?_
          refine va_get (D := D) (ci := 4) (v := .ref (a 4 4)) (C := RX4) (T := TX4) (N := 7) hx hb hG inG4 hown hK hP 30 at_C_4_0 rfl 3 (by decide) (hG _ g_186) (fun _ h9 => h9) rfl dX6_saw_35 ?_
          refine lv_iload_n hx hb dX6_saw_38 rfl (lv_at hl 1 rfl) ?_
          refine lv_iload_n hx hb dX6_saw_39 rfl (lv_at hl 2 rfl) ?_
          obtain ⟨q3, hq3, hf⟩ := bd_x hf
          have hFc := va_free (wc := []) hD hS hA [] rfl
          refine va_calli (va_runS (As := [.int p1, .int p2]) (rest := [.ref (a 4 4)]) ⟨hx, hb, hml, hown, hG⟩ (c_X6_slot l D cI cZ p1 p2 H.size hq3) (cwS 2 hG (gS g_313 g_296 g_70 g_297) rfl rfl rfl (by decide +kernel) ⟨Nat.le_of_ble_eq_true rfl, Nat.le_of_ble_eq_true rfl⟩) ⟨pre_blind, fun U hU hW => ⟨rfl, pre_of P_nil hK D_nil hnw hU hW⟩⟩ rfl rfl hl.1 rfl (lv_room (Nat.le_of_ble_eq_true rfl)) dX6_saw_40 ⟨Nat.le_of_ble_eq_true rfl, Nat.le_of_ble_eq_true rfl⟩) hS (fun q _ h => hFc q h) hFc (fun v u t H locs ht hvm hw hB hz1 hk1 hS => ?_)
          have hw := hw.symm; subst hw
          obtain ⟨hP1, hD1⟩ := hB
          rw [ht] at hP1
          obtain ⟨hP, hD⟩ := back hP hD [] rfl rfl hk1 hFc hP1 hD1
          obtain ⟨hb43, hf⟩ := gd hf
          refine va_iald (cA := cI) (n := 30) (f := (C 4) 4) hx hb hK hP 34 0 at_C_4_4 rfl (inb_in hb43) dX6_saw_43 ?_
          refine lv_topi (fun v4 ev4 => ?_)
          have hf := nm_x ev4 hf
          refine lv_istore (lv' := [(4, .int v4), (0, .ref (a 0 0)), (1, .int p1), (2, .int p2), (3, .int p3)]) hx hb dX6_saw_44 hl (by decide) rfl (fun ls hl => ?_)
          refine lv_iconst (v := (0 : Int32)) hx hb dX6_saw_46 (by decide) ?_
          refine lv_istore (lv' := [(5, .int (0 : Int32)), (4, .int v4), (0, .ref (a 0 0)), (1, .int p1), (2, .int p2), (3, .int p3)]) hx hb dX6_saw_47 hl (by decide) rfl (fun ls hl => ?_)
          refine lv_aload_n hx hb dX6_saw_49 rfl (lv_at hl 2 rfl) ?_
          refine va_get (D := D) (ci := 6) (v := .ref (a 4 0)) (C := RX6) (T := TX6) (N := 10) hx hb hG inG6 hown hK hP 0 at_C_0_0 rfl 3 (by decide) (hG _ g_227) (fun _ h9 => h9) rfl dX6_saw_50 ?_
          refine va_get (D := D) (ci := 4) (v := .ref (a 4 2)) (C := RX4) (T := TX4) (N := 7) hx hb hG inG4 hown hK hP 30 at_C_4_0 rfl 1 (by decide) (hG _ g_178) (fun _ h9 => h9) rfl dX6_saw_53 ?_
          refine lv_iload_n hx hb dX6_saw_56 rfl (lv_at hl 4 rfl) ?_
          obtain ⟨hb57, hf⟩ := gd hf
          refine va_iald (cA := cI) (n := 5) (f := (C 4) 2) hx hb hK hP 32 0 at_C_4_2 rfl (inb_in hb57) dX6_saw_57 ?_
          refine lv_topi (fun v5 ev5 => ?_)
          have hf := nm_x ev5 hf
          refine lv_istore (lv' := [(6, .int v5), (5, .int (0 : Int32)), (4, .int v4), (0, .ref (a 0 0)), (1, .int p1), (2, .int p2), (3, .int p3)]) hx hb dX6_saw_58 hl (by decide) rfl (fun ls hl => ?_)
          refine lv_iconst (v := (0 : Int32)) hx hb dX6_saw_60 (by decide) ?_
          refine lv_istore (lv' := [(7, .int (0 : Int32)), (6, .int v5), (5, .int (0 : Int32)), (4, .int v4), (0, .ref (a 0 0)), (1, .int p1), (2, .int p2), (3, .int p3)]) hx hb dX6_saw_61 hl (by decide) rfl (fun ls hl => ?_)
          have L63 : ∀ (n : Nat) (v6 : Int32) (v7 : Int32) (v8 : Int32) (H : Heap) (locs : List Loc) (ls : Array Slot), va_P D vwCl (cW cI a C) H → va_D A (cW cI a C) → va_S A s.heap H locs → lv_has ls 9 [(0, .ref (a 0 0)), (2, .int p2), (3, .int p3), (4, .int v4), (5, .int v6), (6, .int v7), (7, .int v8)] → lp (fun _ _ _ => none : Int32 → Int32 → Int32 → Option (Int32)) (f_X6_saw_b63 C p2 p3 v4) n v6 v7 v8 = some r → W p l e RM_X6_saw s m (([.ref (a 0 0), .int p1, .int p2, .int p3] : List Value).toArray) below meth c H locs 0 0 (MQ below (QI0 D A (cW cI a C) r) (([.ref (a 0 0), .int p1, .int p2, .int p3] : List Value).toArray) s 0 0 A) (F0 m 63 ls []) := by
            intro n
            induction n with
            | zero => intro v6 v7 v8 H locs ls _ _ _ _ hf; cases (show (none : Option (Int32)) = some r from hf)
            | succ n ih63 =>
              intro v6 v7 v8 H locs ls hP hD hS hl hf
              have hf : (f_X6_saw_b63 C p2 p3 v4) (lp (fun _ _ _ => none : Int32 → Int32 → Int32 → Option (Int32)) (f_X6_saw_b63 C p2 p3 v4) n) v6 v7 v8 = some r := hf
              generalize lp (fun _ _ _ => none : Int32 → Int32 → Int32 → Option (Int32)) (f_X6_saw_b63 C p2 p3 v4) n = rc63 at ih63 hf
              unfold f_X6_saw_b63 at hf
              refine lv_iload hx hb dX6_saw_63 (lv_at hl 6 rfl) ?_
              refine lv_bipush (v := (64 : Int32)) hx hb dX6_saw_65 (by decide) ?_
              refine lv_icmp_ge (tgt := 131) hx hb dX6_saw_67 (by decide) (fun cc67 => ?_) (fun cc67 => ?_)
              · have hf := if_t cc67 hf
                refine lv_iload_n hx hb dX6_saw_131 rfl (lv_at hl 2 rfl) ?_
                refine lv_if_ne (tgt := 138) hx hb dX6_saw_132 (by decide) (fun cc132 => ?_) (fun cc132 => ?_)
                · have hf := if_f cc132 hf
                  refine lv_iload hx hb dX6_saw_138 (lv_at hl 4 rfl) ?_
                  refine lv_if_ne (tgt := 147) hx hb dX6_saw_140 (by decide) (fun cc140 => ?_) (fun cc140 => ?_)
                  · have hf := if_f cc140 hf
                    refine lv_iload hx hb dX6_saw_147 (lv_at hl 5 rfl) ?_
                    exact W.iret (v := v7) hx hb hr (fun t ht hW => ⟨⟨v7, (), rfl, Option.some.inj hf, by rw [ht]; exact hP, hD⟩, hS.F ht⟩) hS.2.2 dX6_saw_149
                  · have hf := if_t cc140 hf
                    refine lv_iconst (v := (0 : Int32)) hx hb dX6_saw_143 (by decide) ?_
                    refine lv_goto (tgt := 149) hx hb dX6_saw_144 (by decide) ?_
                    exact W.iret (v := (0 : Int32)) hx hb hr (fun t ht hW => ⟨⟨(0 : Int32), (), rfl, Option.some.inj hf, by rw [ht]; exact hP, hD⟩, hS.F ht⟩) hS.2.2 dX6_saw_149
                · have hf := if_t cc132 hf
                  refine lv_iload hx hb dX6_saw_135 (lv_at hl 4 rfl) ?_
                  exact W.iret (v := v6) hx hb hr (fun t ht hW => ⟨⟨v6, (), rfl, Option.some.inj hf, by rw [ht]; exact hP, hD⟩, hS.F ht⟩) hS.2.2 dX6_saw_137
              · have hf := if_f cc67 hf
                refine lv_iload hx hb dX6_saw_70 (lv_at hl 6 rfl) ?_
                refine lv_aload_n hx hb dX6_saw_72 rfl (lv_at hl 0 rfl) ?_
                refine va_get (D := D) (ci := 6) (v := .ref (a 4 0)) (C := RX6) (T := TX6) (N := 10) hx hb hG inG6 hown hK hP 0 at_C_0_0 rfl 3 (by decide) (hG _ g_227) (fun _ h9 => h9) rfl dX6_saw_73 ?_
                refine va_get (D := D) (ci := 4) (v := .ref (a 4 2)) (C := RX4) (T := TX4) (N := 7) hx hb hG inG4 hown hK hP 30 at_C_4_0 rfl 1 (by decide) (hG _ g_178) (fun _ h9 => h9) rfl dX6_saw_76 ?_
                refine lv_iload_n hx hb dX6_saw_79 rfl (lv_at hl 1 rfl) ?_
                obtain ⟨hb80, hf⟩ := gd hf
                refine va_iald (cA := cI) (n := 5) (f := (C 4) 2) hx hb hK hP 32 0 at_C_4_2 rfl (inb_in hb80) dX6_saw_80 ?_
                refine lv_iconst (v := (-1 : Int32)) hx hb dX6_saw_81 (by decide) ?_
                refine lv_ixor hx hb dX6_saw_82 ?_
                refine lv_iand hx hb dX6_saw_83 ?_
                have J104 : ∀ (v9 : Int32) (H : Heap) (locs : List Loc) (ls : Array Slot), va_P D vwCl (cW cI a C) H → va_D A (cW cI a C) → va_S A s.heap H locs → lv_has ls 9 [(0, .ref (a 0 0)), (2, .int p2), (3, .int p3), (4, .int v4), (5, .int v6), (6, .int v7), (7, .int v8)] → f_X6_saw_j104 rc63 v6 v7 v8 v9 = some r → W p l e RM_X6_saw s m (([.ref (a 0 0), .int p1, .int p2, .int p3] : List Value).toArray) below meth c H locs 0 0 (MQ below (QI0 D A (cW cI a C) r) (([.ref (a 0 0), .int p1, .int p2, .int p3] : List Value).toArray) s 0 0 A) (F0 m 104 ls [.int v9]) := by
                  intro v9 H locs ls hP hD hS hl hf
                  unfold f_X6_saw_j104 at hf
                  refine lv_istore (lv' := [(8, .int v9), (0, .ref (a 0 0)), (2, .int p2), (3, .int p3), (4, .int v4), (5, .int v6), (6, .int v7), (7, .int v8)]) hx hb dX6_saw_104 hl (by decide) rfl (fun ls hl => ?_)
                  refine lv_iload hx hb dX6_saw_106 (lv_at hl 5 rfl) ?_
                  refine lv_iload hx hb dX6_saw_108 (lv_at hl 0 rfl) ?_
                  refine lv_iadd hx hb dX6_saw_110 ?_
                  refine lv_topi (fun v10 ev10 => ?_)
                  have hf := nm_x ev10 hf
                  refine lv_istore (lv' := [(5, .int v10), (8, .int v9), (0, .ref (a 0 0)), (2, .int p2), (3, .int p3), (4, .int v4), (6, .int v7), (7, .int v8)]) hx hb dX6_saw_111 hl (by decide) rfl (fun ls hl => ?_)
                  refine lv_iload hx hb dX6_saw_113 (lv_at hl 1 rfl) ?_
                  have J125 : ∀ (v11 : Int32) (H : Heap) (locs : List Loc) (ls : Array Slot), va_P D vwCl (cW cI a C) H → va_D A (cW cI a C) → va_S A s.heap H locs → lv_has ls 9 [(0, .ref (a 0 0)), (2, .int p2), (3, .int p3), (4, .int v4), (5, .int v10), (6, .int v11), (7, .int v8)] → f_X6_saw_j125 rc63 v8 v10 v11 = some r → W p l e RM_X6_saw s m (([.ref (a 0 0), .int p1, .int p2, .int p3] : List Value).toArray) below meth c H locs 0 0 (MQ below (QI0 D A (cW cI a C) r) (([.ref (a 0 0), .int p1, .int p2, .int p3] : List Value).toArray) s 0 0 A) (F0 m 125 ls []) := by
                    intro v11 H locs ls hP hD hS hl hf
                    unfold f_X6_saw_j125 at hf
                    obtain ⟨v12, ev12⟩ : ∃ y : Int32, y = (v8 + (1 : Int32)) := ⟨_, rfl⟩
                    have hf := nm_x ev12 hf
                    refine lv_iinc (v := v12) (lv' := [(7, .int v12), (0, .ref (a 0 0)), (2, .int p2), (3, .int p3), (4, .int v4), (5, .int v10), (6, .int v11)]) hx hb dX6_saw_125 hl (k := 6) rfl (by rw [ev12]; rfl) (by decide) rfl (fun ls hl => ?_)
                    refine lv_goto (tgt := 63) hx hb dX6_saw_128 (by decide) ?_
                    exact ih63 v10 v11 v12 _ _ _ hP hD hS (lv_sub hl [1, 2, 3, 4, 5, 6, 0] rfl) hf
                  refine lv_if_le (tgt := 125) hx hb dX6_saw_115 (by decide) (fun cc115 => ?_) (fun cc115 => ?_)
                  · have hf := if_t cc115 hf
                    exact J125 v7 _ _ _ hP hD hS (lv_sub hl [2, 3, 4, 5, 0, 6, 7] rfl) hf
                  · have hf := if_f cc115 hf
                    refine lv_iload hx hb dX6_saw_118 (lv_at hl 6 rfl) ?_
                    refine lv_iload hx hb dX6_saw_120 (lv_at hl 7 rfl) ?_
                    refine lv_iand hx hb dX6_saw_122 ?_
                    refine lv_topi (fun v13 ev13 => ?_)
                    have hf := nm_x ev13 hf
                    refine lv_istore (lv' := [(6, .int v13), (5, .int v10), (8, .int v9), (0, .ref (a 0 0)), (2, .int p2), (3, .int p3), (4, .int v4), (7, .int v8)]) hx hb dX6_saw_123 hl (by decide) rfl (fun ls hl => ?_)
                    exact J125 v13 _ _ _ hP hD hS (lv_sub hl [3, 4, 5, 6, 1, 0, 7] rfl) hf
                refine lv_if_eq (tgt := 91) hx hb dX6_saw_84 (by decide) (fun cc84 => ?_) (fun cc84 => ?_)
                · have hf := if_t cc84 hf
                  refine lv_aload_n hx hb dX6_saw_91 rfl (lv_at hl 0 rfl) ?_
                  refine lv_iload hx hb dX6_saw_92 (lv_at hl 6 rfl) ?_
                  refine lv_aload_n hx hb dX6_saw_94 rfl (lv_at hl 0 rfl) ?_
                  refine lv_iload_n hx hb dX6_saw_95 rfl (lv_at hl 1 rfl) ?_
                  obtain ⟨q14, hq14, hf⟩ := bd_x hf
                  have hFc := freeS hD hS hA
                  refine va_calli (va_runV (As := [.int p2]) (rest := [.int v8, .ref (a 0 0)]) ⟨hx, hb, hml, hown, hG⟩ (c_X6_readsNow l D cI cZ a C p2 H.size hq14) (cwV 1 hG (gV g_322 g_323 g_14 g_70 g_324) rfl rfl rfl (by decide +kernel) ⟨Nat.le_of_ble_eq_true rfl, Nat.le_of_ble_eq_true rfl⟩) ⟨pre_blind, va_recv hK hP (ci := 6) (q0 := 0) rfl rfl, fun U hU hW => ⟨rfl, pre_of hP hK hD hnw hU hW⟩⟩ rfl rfl hl.1 rfl (lv_room (Nat.le_of_ble_eq_true rfl)) dX6_saw_96 ⟨Nat.le_of_ble_eq_true rfl, Nat.le_of_ble_eq_true rfl⟩) hS (fun q _ h => hFc q h) hFc (fun v u t H locs ht hvm hw hB hz1 hk1 hS => ?_)
                  have hw := hw.symm; subst hw
                  obtain ⟨hP1, hD1⟩ := hB
                  rw [ht] at hP1
                  have hP := hP1
                  have hD := hD1.weaken (fun _ q _ h => hFc q.1 h)
                  refine lv_iload hx hb dX6_saw_99 (lv_at hl 3 rfl) ?_
                  obtain ⟨q15, hq15, hf⟩ := bd_x hf
                  have hFc := freeS hD hS hA
                  refine va_calli (va_runV (As := [.int v8, .int q14, .int v4]) (rest := []) ⟨hx, hb, hml, hown, hG⟩ (c_X6_waysBy l D cI cZ a C v8 q14 v4 H.size hq15) (cwV 3 hG (gV g_511 g_512 g_32 g_70 g_513) rfl rfl rfl (by decide +kernel) ⟨Nat.le_of_ble_eq_true rfl, Nat.le_of_ble_eq_true rfl⟩) ⟨pre_blind, va_recv hK hP (ci := 6) (q0 := 0) rfl rfl, fun U hU hW => ⟨rfl, pre_of hP hK hD hnw hU hW⟩⟩ rfl rfl hl.1 rfl (lv_room (Nat.le_of_ble_eq_true rfl)) dX6_saw_101 ⟨Nat.le_of_ble_eq_true rfl, Nat.le_of_ble_eq_true rfl⟩) hS (fun q _ h => hFc q h) hFc (fun v u t H locs ht hvm hw hB hz1 hk1 hS => ?_)
                  have hw := hw.symm; subst hw
                  obtain ⟨hP1, hD1⟩ := hB
                  rw [ht] at hP1
                  have hP := hP1
                  have hD := hD1.weaken (fun _ q _ h => hFc q.1 h)
                  exact J104 q15 _ _ _ hP hD hS (lv_sub hl [0, 1, 2, 3, 4, 5, 6] rfl) hf
                · have hf := if_f cc84 hf
                  refine lv_iconst (v := (0 : Int32)) hx hb dX6_saw_87 (by decide) ?_
                  refine lv_goto (tgt := 104) hx hb dX6_saw_88 (by decide) ?_
                  exact J104 (0 : Int32) _ _ _ hP hD hS (lv_sub hl [0, 1, 2, 3, 4, 5, 6] rfl) hf
          exact L63 FU (0 : Int32) v5 (0 : Int32) _ _ _ hP hD hS (lv_sub hl [4, 6, 7, 3, 2, 1, 0] rfl) hf
        · have hf := if_f cc25 hf
          refine lv_ldc hx hb hown (hG _ g_238) dX6_saw_28 ?_
          exact W.iret (v := (-1000000002 : Int32)) hx hb hr (fun t ht hW => ⟨⟨(-1000000002 : Int32), (), rfl, Option.some.inj hf, by rw [ht]; exact hP, hD⟩, hS.F ht⟩) hS.2.2 dX6_saw_30
    · have hf := if_t cc13 hf
      refine lv_ldc hx hb hown (hG _ g_321) dX6_saw_16 ?_
      exact W.iret (v := (-1000000001 : Int32)) hx hb hr (fun t ht hW => ⟨⟨(-1000000001 : Int32), (), rfl, Option.some.inj hf, by rw [ht]; exact hP, hD⟩, hS.F ht⟩) hS.2.2 dX6_saw_18
def f_X6_hides_b31 (p1 : Int32) (p2 : Int32) (rc31 : Int64 → Int32 → Option (Int32)) (v1 : Int64) (v2 : Int32) : Option (Int32) := (if p1 ≤ v2 then some (Int64.toInt32 v1) else nm ((v1 * (Int32.toInt64 ((100 : Int32) - p2))) / (100 : Int64)) (fun (v3 : Int64) => nm (v2 + (1 : Int32)) (fun (v4 : Int32) => rc31 v3 v4)))
def f_X6_hides (C : CC) (p1 : Int32) (p2 : Int32) : Option (Int32) := (if p1 < (1 : Int32) then some (-1000000002 : Int32) else (if (9 : Int32) < p1 then some (-1000000002 : Int32) else (if p2 < 0 then some (-1000000002 : Int32) else (if p2 ≤ (100 : Int32) then lp (fun _ _ => none : Int64 → Int32 → Option (Int32)) (f_X6_hides_b31 p1 p2) FU (1000000000 : Int64) (0 : Int32) else some (-1000000002 : Int32)))))
abbrev RM_X6_hides : Room := { frames := 0, cells := 0, slots := 0, locals := 0 }
set_option maxHeartbeats 4000000 in
set_option maxRecDepth 100000 in
theorem c_X6_hides (l : Launch) (D : va_G) (cI cZ : ClassId) (a : Nat → Nat → Nat) (C : CC) (p1 : Int32) (p2 : Int32) (sz : Nat) {r : Int32} (hf : f_X6_hides C p1 p2 = some r) : Met l yX6_hides (wM yX6_hides cX6_hides 6 (some .int)) RM_X6_hides (va_Pc [.ref (a 0 0), .int p1, .int p2] (pre D cI cZ (cW cI a C) sz)) (QI0 D (va_A (cW cI a C) sz) (cW cI a C) r) 0 0 (va_A (cW cI a C) sz) := by
  unfold f_X6_hides at hf
  refine Met.ofW (cc := cX6_hides) (maxL := 6) (ret := (some .int)) (by decide) rfl ?_
  intro p e s m args below meth c s₁ B hml hv
  obtain ⟨rfl, hsz, hP, hK, hD0, hnw⟩ := hv
  have hx := B.exec
  have hb := B.bytes
  have hr := B.returns
  have hts := atoms_spec (ws := wM yX6_hides cX6_hides 6 (some .int)) B.pre
  have hG : ∀ w ∈ GW, w.before (([.ref (a 0 0), .int p1, .int p2] : List Value).toArray) s = true := fun w h => hts w (List.mem_cons_of_mem _ h)
  have hown : s.vm.findClass RX6 = some m.cls := findClass_of_methodNamed B.named
  have hlocks := B.notSynchronized
  subst hsz
  have hD := hD0.self (sz := s.heap.size)
  generalize hAe : va_A (cW cI a C) s.heap.size = A at hD ⊢
  have hA : ∀ q : Nat, s.heap.size ≤ q → A q := fun q h => by rw [← hAe]; exact Or.inr h
  have hS : va_S A s.heap s.heap [] := va_S.rf
  have hl := lv_entry ([.ref (a 0 0), .int p1, .int p2]) (n := 6) (Nat.le_of_ble_eq_true rfl)
  rw [lg_entry_eq]
  generalize (lg_sl ([.ref (a 0 0), .int p1, .int p2]) ++ List.replicate (6 - (lg_sl ([.ref (a 0 0), .int p1, .int p2])).length) Slot.unset).toArray = ls at hl ⊢
  have hl : lv_has ls 6 [(0, .ref (a 0 0)), (1, .int p1), (2, .int p2)] := hl
  show W p l e RM_X6_hides s m (([.ref (a 0 0), .int p1, .int p2] : List Value).toArray) below meth c s.heap [] 0 0 (MQ below (QI0 D A (cW cI a C) r) (([.ref (a 0 0), .int p1, .int p2] : List Value).toArray) s 0 0 A) (F0 m 0 ls [])
  refine lv_iload_n hx hb dX6_hides_0 rfl (lv_at hl 1 rfl) ?_
  refine lv_iconst (v := (1 : Int32)) hx hb dX6_hides_1 (by decide) ?_
  refine lv_icmp_lt (tgt := 21) hx hb dX6_hides_2 (by decide) (fun cc2 => ?_) (fun cc2 => ?_)
  · have hf := if_t cc2 hf
    refine lv_ldc hx hb hown (hG _ g_238) dX6_hides_21 ?_
    exact W.iret (v := (-1000000002 : Int32)) hx hb hr (fun t ht hW => ⟨⟨(-1000000002 : Int32), (), rfl, Option.some.inj hf, by rw [ht]; exact hP, hD⟩, hS.F ht⟩) hS.2.2 dX6_hides_23
  · have hf := if_f cc2 hf
    refine lv_iload_n hx hb dX6_hides_5 rfl (lv_at hl 1 rfl) ?_
    refine lv_bipush (v := (9 : Int32)) hx hb dX6_hides_6 (by decide) ?_
    refine lv_icmp_gt (tgt := 21) hx hb dX6_hides_8 (by decide) (fun cc8 => ?_) (fun cc8 => ?_)
    · have hf := if_t cc8 hf
      refine lv_ldc hx hb hown (hG _ g_238) dX6_hides_21 ?_
      exact W.iret (v := (-1000000002 : Int32)) hx hb hr (fun t ht hW => ⟨⟨(-1000000002 : Int32), (), rfl, Option.some.inj hf, by rw [ht]; exact hP, hD⟩, hS.F ht⟩) hS.2.2 dX6_hides_23
    · have hf := if_f cc8 hf
      refine lv_iload_n hx hb dX6_hides_11 rfl (lv_at hl 2 rfl) ?_
      refine lv_if_lt (tgt := 21) hx hb dX6_hides_12 (by decide) (fun cc12 => ?_) (fun cc12 => ?_)
      · have hf := if_t cc12 hf
        refine lv_ldc hx hb hown (hG _ g_238) dX6_hides_21 ?_
        exact W.iret (v := (-1000000002 : Int32)) hx hb hr (fun t ht hW => ⟨⟨(-1000000002 : Int32), (), rfl, Option.some.inj hf, by rw [ht]; exact hP, hD⟩, hS.F ht⟩) hS.2.2 dX6_hides_23
      · have hf := if_f cc12 hf
        refine lv_iload_n hx hb dX6_hides_15 rfl (lv_at hl 2 rfl) ?_
        refine lv_bipush (v := (100 : Int32)) hx hb dX6_hides_16 (by decide) ?_
        refine lv_icmp_le (tgt := 24) hx hb dX6_hides_18 (by decide) (fun cc18 => ?_) (fun cc18 => ?_)
        · have hf := if_t cc18 hf
          refine lv_ldc2 hx hb hown (hG _ g_519) dX6_hides_24 ?_
          refine lv_lstore_n (lv' := [(3, .long (1000000000 : Int64)), (0, .ref (a 0 0)), (1, .int p1), (2, .int p2)]) hx hb dX6_hides_27 rfl hl (by decide) rfl (fun ls hl => ?_)
          refine lv_iconst (v := (0 : Int32)) hx hb dX6_hides_28 (by decide) ?_
          refine lv_istore (lv' := [(5, .int (0 : Int32)), (3, .long (1000000000 : Int64)), (0, .ref (a 0 0)), (1, .int p1), (2, .int p2)]) hx hb dX6_hides_29 hl (by decide) rfl (fun ls hl => ?_)
          have L31 : ∀ (n : Nat) (v1 : Int64) (v2 : Int32) (H : Heap) (locs : List Loc) (ls : Array Slot), va_P D vwCl (cW cI a C) H → va_D A (cW cI a C) → va_S A s.heap H locs → lv_has ls 6 [(1, .int p1), (2, .int p2), (3, .long v1), (5, .int v2)] → lp (fun _ _ => none : Int64 → Int32 → Option (Int32)) (f_X6_hides_b31 p1 p2) n v1 v2 = some r → W p l e RM_X6_hides s m (([.ref (a 0 0), .int p1, .int p2] : List Value).toArray) below meth c H locs 0 0 (MQ below (QI0 D A (cW cI a C) r) (([.ref (a 0 0), .int p1, .int p2] : List Value).toArray) s 0 0 A) (F0 m 31 ls []) := by
            intro n
            induction n with
            | zero => intro v1 v2 H locs ls _ _ _ _ hf; cases (show (none : Option (Int32)) = some r from hf)
            | succ n ih31 =>
              intro v1 v2 H locs ls hP hD hS hl hf
              have hf : (f_X6_hides_b31 p1 p2) (lp (fun _ _ => none : Int64 → Int32 → Option (Int32)) (f_X6_hides_b31 p1 p2) n) v1 v2 = some r := hf
              generalize lp (fun _ _ => none : Int64 → Int32 → Option (Int32)) (f_X6_hides_b31 p1 p2) n = rc31 at ih31 hf
              unfold f_X6_hides_b31 at hf
              refine lv_iload hx hb dX6_hides_31 (lv_at hl 3 rfl) ?_
              refine lv_iload_n hx hb dX6_hides_33 rfl (lv_at hl 0 rfl) ?_
              refine lv_icmp_ge (tgt := 55) hx hb dX6_hides_34 (by decide) (fun cc34 => ?_) (fun cc34 => ?_)
              · have hf := if_t cc34 hf
                refine lv_lload_n hx hb dX6_hides_55 rfl (lv_at hl 2 rfl) ?_
                refine lv_l2i hx hb dX6_hides_56 rfl ?_
                exact W.iret (v := (Int64.toInt32 v1)) hx hb hr (fun t ht hW => ⟨⟨(Int64.toInt32 v1), (), rfl, Option.some.inj hf, by rw [ht]; exact hP, hD⟩, hS.F ht⟩) hS.2.2 dX6_hides_57
              · have hf := if_f cc34 hf
                refine lv_lload_n hx hb dX6_hides_37 rfl (lv_at hl 2 rfl) ?_
                refine lv_bipush (v := (100 : Int32)) hx hb dX6_hides_38 (by decide) ?_
                refine lv_iload_n hx hb dX6_hides_40 rfl (lv_at hl 1 rfl) ?_
                refine lv_isub hx hb dX6_hides_41 ?_
                refine lv_i2l hx hb dX6_hides_42 rfl ?_
                refine lv_lmul hx hb dX6_hides_43 ?_
                refine lv_ldc2 hx hb hown (hG _ g_520) dX6_hides_44 ?_
                refine lv_ldiv hx hb dX6_hides_47 (by decide) ?_
                refine lv_topl (fun v3 ev3 => ?_)
                have hf := nm_x ev3 hf
                refine lv_lstore_n (lv' := [(3, .long v3), (1, .int p1), (2, .int p2), (5, .int v2)]) hx hb dX6_hides_48 rfl hl (by decide) rfl (fun ls hl => ?_)
                obtain ⟨v4, ev4⟩ : ∃ y : Int32, y = (v2 + (1 : Int32)) := ⟨_, rfl⟩
                have hf := nm_x ev4 hf
                refine lv_iinc (v := v4) (lv' := [(5, .int v4), (3, .long v3), (1, .int p1), (2, .int p2)]) hx hb dX6_hides_49 hl (k := 3) rfl (by rw [ev4]; rfl) (by decide) rfl (fun ls hl => ?_)
                refine lv_goto (tgt := 31) hx hb dX6_hides_52 (by decide) ?_
                exact ih31 v3 v4 _ _ _ hP hD hS (lv_sub hl [2, 3, 1, 0] rfl) hf
          exact L31 FU (1000000000 : Int64) (0 : Int32) _ _ _ hP hD hS (lv_sub hl [3, 4, 1, 0] rfl) hf
        · have hf := if_f cc18 hf
          refine lv_ldc hx hb hown (hG _ g_238) dX6_hides_21 ?_
          exact W.iret (v := (-1000000002 : Int32)) hx hb hr (fun t ht hW => ⟨⟨(-1000000002 : Int32), (), rfl, Option.some.inj hf, by rw [ht]; exact hP, hD⟩, hS.F ht⟩) hS.2.2 dX6_hides_23
def f_X6_note (C : CC) (p1 : Int32) (p2 : Int32) (p3 : Int32) : Option (Int32 × CC) := bd (f_X6_isPerson C p1) (fun (q1 : Int32) => (if q1 = 0 then some ((-1000000001 : Int32), C) else bd (f_X6_isFighter C p2) (fun (q2 : Int32) => (if q2 = 0 then some ((-1000000001 : Int32), C) else (if p3 < 0 then some ((-1000000002 : Int32), C) else (if p3 ≤ (99 : Int32) then bd (f_X6_slot p1 p2) (fun (q3 : Int32) => bd (f_X1_enter (C 7) q3 p3) (fun (q4 : Int32 × HC) => nm (va_up C 7 q4.2) (fun (X5 : CC) => some (q4.1, X5)))) else some ((-1000000002 : Int32), C)))))))
abbrev RM_X6_note : Room := { frames := 1, cells := 0, slots := 0, locals := 22 }
set_option maxHeartbeats 4000000 in
set_option maxRecDepth 100000 in
theorem c_X6_note (l : Launch) (D : va_G) (cI cZ : ClassId) (a : Nat → Nat → Nat) (C : CC) (p1 : Int32) (p2 : Int32) (p3 : Int32) (sz : Nat) {r : Int32 × CC} (hf : f_X6_note C p1 p2 p3 = some r) : Met l yX6_note (wM yX6_note cX6_note 4 (some .int)) RM_X6_note (va_Pc [.ref (a 0 0), .int p1, .int p2, .int p3] (pre D cI cZ (cW cI a C) sz)) (QI D (va_A (cW cI a C) sz) (fun (u : CC) => (cW cI a u)) r) 0 0 (va_A (cW cI a C) sz) := by
  unfold f_X6_note at hf
  refine Met.ofW (cc := cX6_note) (maxL := 4) (ret := (some .int)) (by decide) rfl ?_
  intro p e s m args below meth c s₁ B hml hv
  obtain ⟨rfl, hsz, hP, hK, hD0, hnw⟩ := hv
  have hx := B.exec
  have hb := B.bytes
  have hr := B.returns
  have hts := atoms_spec (ws := wM yX6_note cX6_note 4 (some .int)) B.pre
  have hG : ∀ w ∈ GW, w.before (([.ref (a 0 0), .int p1, .int p2, .int p3] : List Value).toArray) s = true := fun w h => hts w (List.mem_cons_of_mem _ h)
  have hown : s.vm.findClass RX6 = some m.cls := findClass_of_methodNamed B.named
  have hlocks := B.notSynchronized
  subst hsz
  have hD := hD0.self (sz := s.heap.size)
  generalize hAe : va_A (cW cI a C) s.heap.size = A at hD ⊢
  have hA : ∀ q : Nat, s.heap.size ≤ q → A q := fun q h => by rw [← hAe]; exact Or.inr h
  have hS : va_S A s.heap s.heap [] := va_S.rf
  have hl := lv_entry ([.ref (a 0 0), .int p1, .int p2, .int p3]) (n := 4) (Nat.le_of_ble_eq_true rfl)
  rw [lg_entry_eq]
  generalize (lg_sl ([.ref (a 0 0), .int p1, .int p2, .int p3]) ++ List.replicate (4 - (lg_sl ([.ref (a 0 0), .int p1, .int p2, .int p3])).length) Slot.unset).toArray = ls at hl ⊢
  have hl : lv_has ls 4 [(0, .ref (a 0 0)), (1, .int p1), (2, .int p2), (3, .int p3)] := hl
  show W p l e RM_X6_note s m (([.ref (a 0 0), .int p1, .int p2, .int p3] : List Value).toArray) below meth c s.heap [] 0 0 (MQ below (QI D A (fun (u : CC) => (cW cI a u)) r) (([.ref (a 0 0), .int p1, .int p2, .int p3] : List Value).toArray) s 0 0 A) (F0 m 0 ls [])
  refine lv_aload_n hx hb dX6_note_0 rfl (lv_at hl 0 rfl) ?_
  refine lv_iload_n hx hb dX6_note_1 rfl (lv_at hl 1 rfl) ?_
  obtain ⟨q1, hq1, hf⟩ := bd_x hf
  have hFc := freeS hD hS hA
  refine va_calli (va_runV (As := [.int p1]) (rest := []) ⟨hx, hb, hml, hown, hG⟩ (c_X6_isPerson l D cI cZ a C p1 s.heap.size hq1) (cwV 1 hG (gV g_344 g_345 g_16 g_70 g_346) rfl rfl rfl (by decide +kernel) ⟨Nat.le_of_ble_eq_true rfl, Nat.le_of_ble_eq_true rfl⟩) ⟨pre_blind, va_recv hK hP (ci := 6) (q0 := 0) rfl rfl, fun U hU hW => ⟨rfl, pre_of hP hK hD hnw hU hW⟩⟩ rfl rfl hl.1 rfl (lv_room (Nat.le_of_ble_eq_true rfl)) dX6_note_2 ⟨Nat.le_of_ble_eq_true rfl, Nat.le_of_ble_eq_true rfl⟩) hS (fun q _ h => hFc q h) hFc (fun v u t H locs ht hvm hw hB hz1 hk1 hS => ?_)
  have hw := hw.symm; subst hw
  obtain ⟨hP1, hD1⟩ := hB
  rw [ht] at hP1
  have hP := hP1
  have hD := hD1.weaken (fun _ q _ h => hFc q.1 h)
  refine lv_if_eq (tgt := 16) hx hb dX6_note_5 (by decide) (fun cc5 => ?_) (fun cc5 => ?_)
  · have hf := if_t cc5 hf
    refine lv_ldc hx hb hown (hG _ g_321) dX6_note_16 ?_
    exact W.iret (v := (-1000000001 : Int32)) hx hb hr (fun t ht hW => ⟨⟨(-1000000001 : Int32), C, rfl, ⟨pr_1 hf, pr_2 hf⟩, by rw [ht]; exact hP, hD⟩, hS.F ht⟩) hS.2.2 dX6_note_18
  · have hf := if_f cc5 hf
    refine lv_aload_n hx hb dX6_note_8 rfl (lv_at hl 0 rfl) ?_
    refine lv_iload_n hx hb dX6_note_9 rfl (lv_at hl 2 rfl) ?_
    obtain ⟨q2, hq2, hf⟩ := bd_x hf
    have hFc := freeS hD hS hA
    refine va_calli (va_runV (As := [.int p2]) (rest := []) ⟨hx, hb, hml, hown, hG⟩ (c_X6_isFighter l D cI cZ a C p2 H.size hq2) (cwV 1 hG (gV g_318 g_319 g_13 g_70 g_320) rfl rfl rfl (by decide +kernel) ⟨Nat.le_of_ble_eq_true rfl, Nat.le_of_ble_eq_true rfl⟩) ⟨pre_blind, va_recv hK hP (ci := 6) (q0 := 0) rfl rfl, fun U hU hW => ⟨rfl, pre_of hP hK hD hnw hU hW⟩⟩ rfl rfl hl.1 rfl (lv_room (Nat.le_of_ble_eq_true rfl)) dX6_note_10 ⟨Nat.le_of_ble_eq_true rfl, Nat.le_of_ble_eq_true rfl⟩) hS (fun q _ h => hFc q h) hFc (fun v u t H locs ht hvm hw hB hz1 hk1 hS => ?_)
    have hw := hw.symm; subst hw
    obtain ⟨hP1, hD1⟩ := hB
    rw [ht] at hP1
    have hP := hP1
    have hD := hD1.weaken (fun _ q _ h => hFc q.1 h)
    refine lv_if_ne (tgt := 19) hx hb dX6_note_13 (by decide) (fun cc13 => ?_) (fun cc13 => ?_)
    · have hf := if_f cc13 hf
      refine lv_iload_n hx hb dX6_note_19 rfl (lv_at hl 3 rfl) ?_
      refine lv_if_lt (tgt := 29) hx hb dX6_note_20 (by decide) (fun cc20 => ?_) (fun cc20 => ?_)
      · have hf := if_t cc20 hf
        refine lv_ldc hx hb hown (hG _ g_238) dX6_note_29 ?_
        exact W.iret (v := (-1000000002 : Int32)) hx hb hr (fun t ht hW => ⟨⟨(-1000000002 : Int32), C, rfl, ⟨pr_1 hf, pr_2 hf⟩, by rw [ht]; exact hP, hD⟩, hS.F ht⟩) hS.2.2 dX6_note_31
      · have hf := if_f cc20 hf
        refine lv_iload_n hx hb dX6_note_23 rfl (lv_at hl 3 rfl) ?_
        refine lv_bipush (v := (99 : Int32)) hx hb dX6_note_24 (by decide) ?_
        refine lv_icmp_le (tgt := 32) hx hb dX6_note_26 (by decide) (fun cc26 => ?_) (fun cc26 => ?_)
        · have hf := if_t cc26 hf
          refine lv_aload_n hx hb dX6_note_32 rfl (lv_at hl 0 rfl) ?_
          refine va_get (D := D) (ci := 6) (v := .ref (a 7 0)) (C := RX6) (T := TX6) (N := 10) hx hb hG inG6 hown hK hP 0 at_C_0_0 rfl 6 (by decide) (hG _ g_230) (fun _ h9 => h9) rfl dX6_note_33 ?_
          refine lv_iload_n hx hb dX6_note_36 rfl (lv_at hl 1 rfl) ?_
          refine lv_iload_n hx hb dX6_note_37 rfl (lv_at hl 2 rfl) ?_
          obtain ⟨q3, hq3, hf⟩ := bd_x hf
          have hFc := va_free (wc := []) hD hS hA [] rfl
          refine va_calli (va_runS (As := [.int p1, .int p2]) (rest := [.ref (a 7 0)]) ⟨hx, hb, hml, hown, hG⟩ (c_X6_slot l D cI cZ p1 p2 H.size hq3) (cwS 2 hG (gS g_313 g_296 g_70 g_297) rfl rfl rfl (by decide +kernel) ⟨Nat.le_of_ble_eq_true rfl, Nat.le_of_ble_eq_true rfl⟩) ⟨pre_blind, fun U hU hW => ⟨rfl, pre_of P_nil hK D_nil hnw hU hW⟩⟩ rfl rfl hl.1 rfl (lv_room (Nat.le_of_ble_eq_true rfl)) dX6_note_38 ⟨Nat.le_of_ble_eq_true rfl, Nat.le_of_ble_eq_true rfl⟩) hS (fun q _ h => hFc q h) hFc (fun v u t H locs ht hvm hw hB hz1 hk1 hS => ?_)
          have hw := hw.symm; subst hw
          obtain ⟨hP1, hD1⟩ := hB
          rw [ht] at hP1
          obtain ⟨hP, hD⟩ := back hP hD [] rfl rfl hk1 hFc hP1 hD1
          refine lv_iload_n hx hb dX6_note_41 rfl (lv_at hl 3 rfl) ?_
          obtain ⟨q4, hq4, hf⟩ := bd_x hf
          have hPc := subP [45, 46, 47] sub_C_B_7 hP
          have hDc := va_D.sub hD [45, 46, 47] rfl sub_C_B_7
          have hFc := va_free hD hS hA [45, 46, 47] sub_C_B_7
          refine va_calli (va_runV (As := [.int q3, .int p3]) (rest := []) ⟨hx, hb, hml, hown, hG⟩ (c_X1_enter l D cI cZ (a 7) (C 7) q3 p3 H.size hq4) (cwV 2 hG (gV g_525 g_526 g_527 g_74 g_528) rfl rfl rfl (by decide +kernel) ⟨Nat.le_of_ble_eq_true rfl, Nat.le_of_ble_eq_true rfl⟩) ⟨pre_blind, va_recv hK hPc (ci := 1) (q0 := 0) rfl rfl, fun U hU hW => ⟨rfl, pre_of hPc hK hDc hnw hU hW⟩⟩ rfl rfl hl.1 rfl (lv_room (Nat.le_of_ble_eq_true rfl)) dX6_note_42 ⟨Nat.le_of_ble_eq_true rfl, Nat.le_of_ble_eq_true rfl⟩) hS (fun q _ h => hFc q h) hFc (fun v u t H locs ht hvm hw hB hz1 hk1 hS => ?_)
          obtain ⟨rfl, rfl⟩ := hw
          obtain ⟨hP1, hD1⟩ := hB
          rw [ht] at hP1
          obtain ⟨hP, hD⟩ := back hP hD [45, 46, 47] sub_C_B_7 rfl hk1 hFc hP1 hD1
          obtain ⟨X5, eX5⟩ : ∃ y : CC, y = (va_up C 7 q4.2) := ⟨_, rfl⟩
          have hf := nm_x eX5 hf
          have hP := wP (put_C_B_7_0.trans (congrArg (fun z => cW cI a z) eX5.symm)) hP
          have hD := wD (put_C_B_7_0.trans (congrArg (fun z => cW cI a z) eX5.symm)) hD
          exact W.iret (v := q4.1) hx hb hr (fun t ht hW => ⟨⟨q4.1, X5, rfl, ⟨pr_1 hf, pr_2 hf⟩, by rw [ht]; exact hP, hD⟩, hS.F ht⟩) hS.2.2 dX6_note_45
        · have hf := if_f cc26 hf
          refine lv_ldc hx hb hown (hG _ g_238) dX6_note_29 ?_
          exact W.iret (v := (-1000000002 : Int32)) hx hb hr (fun t ht hW => ⟨⟨(-1000000002 : Int32), C, rfl, ⟨pr_1 hf, pr_2 hf⟩, by rw [ht]; exact hP, hD⟩, hS.F ht⟩) hS.2.2 dX6_note_31
    · have hf := if_t cc13 hf
      refine lv_ldc hx hb hown (hG _ g_321) dX6_note_16 ?_
      exact W.iret (v := (-1000000001 : Int32)) hx hb hr (fun t ht hW => ⟨⟨(-1000000001 : Int32), C, rfl, ⟨pr_1 hf, pr_2 hf⟩, by rw [ht]; exact hP, hD⟩, hS.F ht⟩) hS.2.2 dX6_note_18
def f_X6_tear (C : CC) : Option (Int32 × CC) := nm ((C 7) 0 2) (fun (v1 : Int32) => nm (va_up C 7 (sf (C 7) 2 (0 : Int32))) (fun (X2 : CC) => some (v1, X2)))
abbrev RM_X6_tear : Room := { frames := 0, cells := 0, slots := 0, locals := 0 }
set_option maxHeartbeats 4000000 in
set_option maxRecDepth 100000 in
theorem c_X6_tear (l : Launch) (D : va_G) (cI cZ : ClassId) (a : Nat → Nat → Nat) (C : CC) (sz : Nat) {r : Int32 × CC} (hf : f_X6_tear C = some r) : Met l yX6_tear (wM yX6_tear cX6_tear 2 (some .int)) RM_X6_tear (va_Pc [.ref (a 0 0)] (pre D cI cZ (cW cI a C) sz)) (QI D (va_A (cW cI a C) sz) (fun (u : CC) => (cW cI a u)) r) 0 0 (va_A (cW cI a C) sz) := by
  unfold f_X6_tear at hf
  refine Met.ofW (cc := cX6_tear) (maxL := 2) (ret := (some .int)) (by decide) rfl ?_
  intro p e s m args below meth c s₁ B hml hv
  obtain ⟨rfl, hsz, hP, hK, hD0, hnw⟩ := hv
  have hx := B.exec
  have hb := B.bytes
  have hr := B.returns
  have hts := atoms_spec (ws := wM yX6_tear cX6_tear 2 (some .int)) B.pre
  have hG : ∀ w ∈ GW, w.before (([.ref (a 0 0)] : List Value).toArray) s = true := fun w h => hts w (List.mem_cons_of_mem _ h)
  have hown : s.vm.findClass RX6 = some m.cls := findClass_of_methodNamed B.named
  have hlocks := B.notSynchronized
  subst hsz
  have hD := hD0.self (sz := s.heap.size)
  generalize hAe : va_A (cW cI a C) s.heap.size = A at hD ⊢
  have hA : ∀ q : Nat, s.heap.size ≤ q → A q := fun q h => by rw [← hAe]; exact Or.inr h
  have hS : va_S A s.heap s.heap [] := va_S.rf
  have hl := lv_entry ([.ref (a 0 0)]) (n := 2) (Nat.le_of_ble_eq_true rfl)
  rw [lg_entry_eq]
  generalize (lg_sl ([.ref (a 0 0)]) ++ List.replicate (2 - (lg_sl ([.ref (a 0 0)])).length) Slot.unset).toArray = ls at hl ⊢
  have hl : lv_has ls 2 [(0, .ref (a 0 0))] := hl
  show W p l e RM_X6_tear s m (([.ref (a 0 0)] : List Value).toArray) below meth c s.heap [] 0 0 (MQ below (QI D A (fun (u : CC) => (cW cI a u)) r) (([.ref (a 0 0)] : List Value).toArray) s 0 0 A) (F0 m 0 ls [])
  refine lv_aload_n hx hb dX6_tear_0 rfl (lv_at hl 0 rfl) ?_
  refine va_get (D := D) (ci := 6) (v := .ref (a 7 0)) (C := RX6) (T := TX6) (N := 10) hx hb hG inG6 hown hK hP 0 at_C_0_0 rfl 6 (by decide) (hG _ g_230) (fun _ h9 => h9) rfl dX6_tear_1 ?_
  refine va_get (D := D) (ci := 1) (v := .int ((C 7) 0 2)) (C := RX1) (T := TX1) (N := 3) hx hb hG inG1 hown hK hP 45 at_C_7_0 rfl 2 (by decide) (hG _ g_201) (fun _ h9 => h9) rfl dX6_tear_4 ?_
  refine lv_topi (fun v1 ev1 => ?_)
  have hf := nm_x ev1 hf
  refine lv_istore_n (lv' := [(1, .int v1), (0, .ref (a 0 0))]) hx hb dX6_tear_7 rfl hl (by decide) rfl (fun ls hl => ?_)
  refine lv_aload_n hx hb dX6_tear_8 rfl (lv_at hl 1 rfl) ?_
  refine va_get (D := D) (ci := 6) (v := .ref (a 7 0)) (C := RX6) (T := TX6) (N := 10) hx hb hG inG6 hown hK hP 0 at_C_0_0 rfl 6 (by decide) (hG _ g_230) (fun _ h9 => h9) rfl dX6_tear_9 ?_
  refine lv_iconst (v := (0 : Int32)) hx hb dX6_tear_12 (by decide) ?_
  refine va_put (D := D) (ci := 1) (v := .int (0 : Int32)) (ty := .int) (C := RX1) (T := TX1) (N := 3) hx hb hG inG1 tyX1 tyX1_ok nmX1 hown hK hP hD hS 45 at_C_7_0 rfl 2 (by decide) (hG _ g_201) (fun _ h9 => h9) rfl (by decide +kernel) rfl rfl (Nat.le_of_ble_eq_true rfl) dX6_tear_13 (fun H locs hP hD hS => ?_)
  obtain ⟨X2, eX2⟩ : ∃ y : CC, y = (va_up C 7 (sf (C 7) 2 (0 : Int32))) := ⟨_, rfl⟩
  have hf := nm_x eX2 hf
  have hP := wP (sf_C_7_2.trans (congrArg (fun z => cW cI a z) eX2.symm)) hP
  have hD := wD (sf_C_7_2.trans (congrArg (fun z => cW cI a z) eX2.symm)) hD
  refine lv_iload_n hx hb dX6_tear_16 rfl (lv_at hl 0 rfl) ?_
  exact W.iret (v := v1) hx hb hr (fun t ht hW => ⟨⟨v1, X2, rfl, ⟨pr_1 hf, pr_2 hf⟩, by rw [ht]; exact hP, hD⟩, hS.F ht⟩) hS.2.2 dX6_tear_17
def f_X6_judge (C : CC) : Option (Int32) := bd (f_X1_firstWrong (C 7) (C 4)) (fun (q1 : Int32) => some q1)
abbrev RM_X6_judge : Room := { frames := 1, cells := 0, slots := 0, locals := 22 }
set_option maxHeartbeats 4000000 in
set_option maxRecDepth 100000 in
theorem c_X6_judge (l : Launch) (D : va_G) (cI cZ : ClassId) (a : Nat → Nat → Nat) (C : CC) (sz : Nat) {r : Int32} (hf : f_X6_judge C = some r) : Met l yX6_judge (wM yX6_judge cX6_judge 1 (some .int)) RM_X6_judge (va_Pc [.ref (a 0 0)] (pre D cI cZ (cW cI a C) sz)) (QI0 D (va_A (cW cI a C) sz) (cW cI a C) r) 0 0 (va_A (cW cI a C) sz) := by
  unfold f_X6_judge at hf
  refine Met.ofW (cc := cX6_judge) (maxL := 1) (ret := (some .int)) (by decide) rfl ?_
  intro p e s m args below meth c s₁ B hml hv
  obtain ⟨rfl, hsz, hP, hK, hD0, hnw⟩ := hv
  have hx := B.exec
  have hb := B.bytes
  have hr := B.returns
  have hts := atoms_spec (ws := wM yX6_judge cX6_judge 1 (some .int)) B.pre
  have hG : ∀ w ∈ GW, w.before (([.ref (a 0 0)] : List Value).toArray) s = true := fun w h => hts w (List.mem_cons_of_mem _ h)
  have hown : s.vm.findClass RX6 = some m.cls := findClass_of_methodNamed B.named
  have hlocks := B.notSynchronized
  subst hsz
  have hD := hD0.self (sz := s.heap.size)
  generalize hAe : va_A (cW cI a C) s.heap.size = A at hD ⊢
  have hA : ∀ q : Nat, s.heap.size ≤ q → A q := fun q h => by rw [← hAe]; exact Or.inr h
  have hS : va_S A s.heap s.heap [] := va_S.rf
  have hl := lv_entry ([.ref (a 0 0)]) (n := 1) (Nat.le_of_ble_eq_true rfl)
  rw [lg_entry_eq]
  generalize (lg_sl ([.ref (a 0 0)]) ++ List.replicate (1 - (lg_sl ([.ref (a 0 0)])).length) Slot.unset).toArray = ls at hl ⊢
  have hl : lv_has ls 1 [(0, .ref (a 0 0))] := hl
  show W p l e RM_X6_judge s m (([.ref (a 0 0)] : List Value).toArray) below meth c s.heap [] 0 0 (MQ below (QI0 D A (cW cI a C) r) (([.ref (a 0 0)] : List Value).toArray) s 0 0 A) (F0 m 0 ls [])
  refine lv_aload_n hx hb dX6_judge_0 rfl (lv_at hl 0 rfl) ?_
  refine va_get (D := D) (ci := 6) (v := .ref (a 7 0)) (C := RX6) (T := TX6) (N := 10) hx hb hG inG6 hown hK hP 0 at_C_0_0 rfl 6 (by decide) (hG _ g_230) (fun _ h9 => h9) rfl dX6_judge_1 ?_
  refine lv_aload_n hx hb dX6_judge_4 rfl (lv_at hl 0 rfl) ?_
  refine va_get (D := D) (ci := 6) (v := .ref (a 4 0)) (C := RX6) (T := TX6) (N := 10) hx hb hG inG6 hown hK hP 0 at_C_0_0 rfl 3 (by decide) (hG _ g_227) (fun _ h9 => h9) rfl dX6_judge_5 ?_
  obtain ⟨q1, hq1, hf⟩ := bd_x hf
  have hPc := subP [45, 46, 47, 30, 31, 32, 33, 34] sub_C_BS_7_4 hP
  have hDc := va_D.sub hD [45, 46, 47, 30, 31, 32, 33, 34] rfl sub_C_BS_7_4
  have hFc := va_free hD hS hA [45, 46, 47, 30, 31, 32, 33, 34] sub_C_BS_7_4
  refine va_calli (va_runV (As := [.ref (a 4 0)]) (rest := []) ⟨hx, hb, hml, hown, hG⟩ (c_X1_firstWrong l D cI cZ (a 7) (a 4) (C 7) (C 4) s.heap.size hq1) (cwV 1 hG (gV g_538 g_539 g_540 g_74 g_541) rfl rfl rfl (by decide +kernel) ⟨Nat.le_of_ble_eq_true rfl, Nat.le_of_ble_eq_true rfl⟩) ⟨pre_blind, va_recv hK hPc (ci := 1) (q0 := 0) rfl rfl, fun U hU hW => ⟨rfl, pre_of hPc hK hDc hnw hU hW⟩⟩ rfl rfl hl.1 rfl (lv_room (Nat.le_of_ble_eq_true rfl)) dX6_judge_8 ⟨Nat.le_of_ble_eq_true rfl, Nat.le_of_ble_eq_true rfl⟩) hS (fun q _ h => hFc q h) hFc (fun v u t H locs ht hvm hw hB hz1 hk1 hS => ?_)
  have hw := hw.symm; subst hw
  obtain ⟨hP1, hD1⟩ := hB
  rw [ht] at hP1
  obtain ⟨hP, hD⟩ := back hP hD [45, 46, 47, 30, 31, 32, 33, 34] sub_C_BS_7_4 rfl hk1 hFc hP1 hD1
  have hP := wP put_C_BS_7_4_ hP
  have hD := wD put_C_BS_7_4_ hD
  exact W.iret (v := q1) hx hb hr (fun t ht hW => ⟨⟨q1, (), rfl, Option.some.inj hf, by rw [ht]; exact hP, hD⟩, hS.F ht⟩) hS.2.2 dX6_judge_11
def f_X6_seed (C : CC) (p1 : Int32) : Option (Int32 × CC) := (if 0 ≤ p1 then nm ((C 4) 0 5) (fun (v1 : Int32) => nm (va_up C 4 (sf (C 4) 5 p1)) (fun (X2 : CC) => some (v1, X2))) else some ((-1000000002 : Int32), C))
abbrev RM_X6_seed : Room := { frames := 0, cells := 0, slots := 0, locals := 0 }
set_option maxHeartbeats 4000000 in
set_option maxRecDepth 100000 in
theorem c_X6_seed (l : Launch) (D : va_G) (cI cZ : ClassId) (a : Nat → Nat → Nat) (C : CC) (p1 : Int32) (sz : Nat) {r : Int32 × CC} (hf : f_X6_seed C p1 = some r) : Met l yX6_seed (wM yX6_seed cX6_seed 3 (some .int)) RM_X6_seed (va_Pc [.ref (a 0 0), .int p1] (pre D cI cZ (cW cI a C) sz)) (QI D (va_A (cW cI a C) sz) (fun (u : CC) => (cW cI a u)) r) 0 0 (va_A (cW cI a C) sz) := by
  unfold f_X6_seed at hf
  refine Met.ofW (cc := cX6_seed) (maxL := 3) (ret := (some .int)) (by decide) rfl ?_
  intro p e s m args below meth c s₁ B hml hv
  obtain ⟨rfl, hsz, hP, hK, hD0, hnw⟩ := hv
  have hx := B.exec
  have hb := B.bytes
  have hr := B.returns
  have hts := atoms_spec (ws := wM yX6_seed cX6_seed 3 (some .int)) B.pre
  have hG : ∀ w ∈ GW, w.before (([.ref (a 0 0), .int p1] : List Value).toArray) s = true := fun w h => hts w (List.mem_cons_of_mem _ h)
  have hown : s.vm.findClass RX6 = some m.cls := findClass_of_methodNamed B.named
  have hlocks := B.notSynchronized
  subst hsz
  have hD := hD0.self (sz := s.heap.size)
  generalize hAe : va_A (cW cI a C) s.heap.size = A at hD ⊢
  have hA : ∀ q : Nat, s.heap.size ≤ q → A q := fun q h => by rw [← hAe]; exact Or.inr h
  have hS : va_S A s.heap s.heap [] := va_S.rf
  have hl := lv_entry ([.ref (a 0 0), .int p1]) (n := 3) (Nat.le_of_ble_eq_true rfl)
  rw [lg_entry_eq]
  generalize (lg_sl ([.ref (a 0 0), .int p1]) ++ List.replicate (3 - (lg_sl ([.ref (a 0 0), .int p1])).length) Slot.unset).toArray = ls at hl ⊢
  have hl : lv_has ls 3 [(0, .ref (a 0 0)), (1, .int p1)] := hl
  show W p l e RM_X6_seed s m (([.ref (a 0 0), .int p1] : List Value).toArray) below meth c s.heap [] 0 0 (MQ below (QI D A (fun (u : CC) => (cW cI a u)) r) (([.ref (a 0 0), .int p1] : List Value).toArray) s 0 0 A) (F0 m 0 ls [])
  refine lv_iload_n hx hb dX6_seed_0 rfl (lv_at hl 1 rfl) ?_
  refine lv_if_ge (tgt := 7) hx hb dX6_seed_1 (by decide) (fun cc1 => ?_) (fun cc1 => ?_)
  · have hf := if_t cc1 hf
    refine lv_aload_n hx hb dX6_seed_7 rfl (lv_at hl 0 rfl) ?_
    refine va_get (D := D) (ci := 6) (v := .ref (a 4 0)) (C := RX6) (T := TX6) (N := 10) hx hb hG inG6 hown hK hP 0 at_C_0_0 rfl 3 (by decide) (hG _ g_227) (fun _ h9 => h9) rfl dX6_seed_8 ?_
    refine va_get (D := D) (ci := 4) (v := .int ((C 4) 0 5)) (C := RX4) (T := TX4) (N := 7) hx hb hG inG4 hown hK hP 30 at_C_4_0 rfl 5 (by decide) (hG _ g_190) (fun _ h9 => h9) rfl dX6_seed_11 ?_
    refine lv_topi (fun v1 ev1 => ?_)
    have hf := nm_x ev1 hf
    refine lv_istore_n (lv' := [(2, .int v1), (0, .ref (a 0 0)), (1, .int p1)]) hx hb dX6_seed_14 rfl hl (by decide) rfl (fun ls hl => ?_)
    refine lv_aload_n hx hb dX6_seed_15 rfl (lv_at hl 1 rfl) ?_
    refine va_get (D := D) (ci := 6) (v := .ref (a 4 0)) (C := RX6) (T := TX6) (N := 10) hx hb hG inG6 hown hK hP 0 at_C_0_0 rfl 3 (by decide) (hG _ g_227) (fun _ h9 => h9) rfl dX6_seed_16 ?_
    refine lv_iload_n hx hb dX6_seed_19 rfl (lv_at hl 2 rfl) ?_
    refine va_put (D := D) (ci := 4) (v := .int p1) (ty := .int) (C := RX4) (T := TX4) (N := 7) hx hb hG inG4 tyX4 tyX4_ok nmX4 hown hK hP hD hS 30 at_C_4_0 rfl 5 (by decide) (hG _ g_190) (fun _ h9 => h9) rfl (by decide +kernel) rfl rfl (Nat.le_of_ble_eq_true rfl) dX6_seed_20 (fun H locs hP hD hS => ?_)
    obtain ⟨X2, eX2⟩ : ∃ y : CC, y = (va_up C 4 (sf (C 4) 5 p1)) := ⟨_, rfl⟩
    have hf := nm_x eX2 hf
    have hP := wP (sf_C_4_5.trans (congrArg (fun z => cW cI a z) eX2.symm)) hP
    have hD := wD (sf_C_4_5.trans (congrArg (fun z => cW cI a z) eX2.symm)) hD
    refine lv_iload_n hx hb dX6_seed_23 rfl (lv_at hl 0 rfl) ?_
    exact W.iret (v := v1) hx hb hr (fun t ht hW => ⟨⟨v1, X2, rfl, ⟨pr_1 hf, pr_2 hf⟩, by rw [ht]; exact hP, hD⟩, hS.F ht⟩) hS.2.2 dX6_seed_24
  · have hf := if_f cc1 hf
    refine lv_ldc hx hb hown (hG _ g_238) dX6_seed_4 ?_
    exact W.iret (v := (-1000000002 : Int32)) hx hb hr (fun t ht hW => ⟨⟨(-1000000002 : Int32), C, rfl, ⟨pr_1 hf, pr_2 hf⟩, by rw [ht]; exact hP, hD⟩, hS.F ht⟩) hS.2.2 dX6_seed_6
def f_X6_keep (C : CC) (p1 : Int32) : Option (Int32 × CC) := (if p1 < 0 then some ((-1000000001 : Int32), C) else (if p1 ≤ (1 : Int32) then (if p1 = 0 then bd (f_X4_become (C 5) (C 4)) (fun (q4 : HC) => nm (va_up C 5 q4) (fun (X5 : CC) => nm (va_up X5 5 (sf (X5 5) 6 (1 : Int32))) (fun (X6 : CC) => some ((1 : Int32), X6)))) else bd (f_X4_become (C 6) (C 4)) (fun (q1 : HC) => nm (va_up C 6 q1) (fun (X2 : CC) => nm (va_up X2 6 (sf (X2 6) 6 (1 : Int32))) (fun (X3 : CC) => some ((1 : Int32), X3))))) else some ((-1000000001 : Int32), C)))
abbrev RM_X6_keep : Room := { frames := 1, cells := 0, slots := 0, locals := 22 }
set_option maxHeartbeats 4000000 in
set_option maxRecDepth 100000 in
theorem c_X6_keep (l : Launch) (D : va_G) (cI cZ : ClassId) (a : Nat → Nat → Nat) (C : CC) (p1 : Int32) (sz : Nat) {r : Int32 × CC} (hf : f_X6_keep C p1 = some r) : Met l yX6_keep (wM yX6_keep cX6_keep 3 (some .int)) RM_X6_keep (va_Pc [.ref (a 0 0), .int p1] (pre D cI cZ (cW cI a C) sz)) (QI D (va_A (cW cI a C) sz) (fun (u : CC) => (cW cI a u)) r) 0 0 (va_A (cW cI a C) sz) := by
  unfold f_X6_keep at hf
  refine Met.ofW (cc := cX6_keep) (maxL := 3) (ret := (some .int)) (by decide) rfl ?_
  intro p e s m args below meth c s₁ B hml hv
  obtain ⟨rfl, hsz, hP, hK, hD0, hnw⟩ := hv
  have hx := B.exec
  have hb := B.bytes
  have hr := B.returns
  have hts := atoms_spec (ws := wM yX6_keep cX6_keep 3 (some .int)) B.pre
  have hG : ∀ w ∈ GW, w.before (([.ref (a 0 0), .int p1] : List Value).toArray) s = true := fun w h => hts w (List.mem_cons_of_mem _ h)
  have hown : s.vm.findClass RX6 = some m.cls := findClass_of_methodNamed B.named
  have hlocks := B.notSynchronized
  subst hsz
  have hD := hD0.self (sz := s.heap.size)
  generalize hAe : va_A (cW cI a C) s.heap.size = A at hD ⊢
  have hA : ∀ q : Nat, s.heap.size ≤ q → A q := fun q h => by rw [← hAe]; exact Or.inr h
  have hS : va_S A s.heap s.heap [] := va_S.rf
  have hl := lv_entry ([.ref (a 0 0), .int p1]) (n := 3) (Nat.le_of_ble_eq_true rfl)
  rw [lg_entry_eq]
  generalize (lg_sl ([.ref (a 0 0), .int p1]) ++ List.replicate (3 - (lg_sl ([.ref (a 0 0), .int p1])).length) Slot.unset).toArray = ls at hl ⊢
  have hl : lv_has ls 3 [(0, .ref (a 0 0)), (1, .int p1)] := hl
  show W p l e RM_X6_keep s m (([.ref (a 0 0), .int p1] : List Value).toArray) below meth c s.heap [] 0 0 (MQ below (QI D A (fun (u : CC) => (cW cI a u)) r) (([.ref (a 0 0), .int p1] : List Value).toArray) s 0 0 A) (F0 m 0 ls [])
  refine lv_iload_n hx hb dX6_keep_0 rfl (lv_at hl 1 rfl) ?_
  refine lv_if_lt (tgt := 9) hx hb dX6_keep_1 (by decide) (fun cc1 => ?_) (fun cc1 => ?_)
  · have hf := if_t cc1 hf
    refine lv_ldc hx hb hown (hG _ g_321) dX6_keep_9 ?_
    exact W.iret (v := (-1000000001 : Int32)) hx hb hr (fun t ht hW => ⟨⟨(-1000000001 : Int32), C, rfl, ⟨pr_1 hf, pr_2 hf⟩, by rw [ht]; exact hP, hD⟩, hS.F ht⟩) hS.2.2 dX6_keep_11
  · have hf := if_f cc1 hf
    refine lv_iload_n hx hb dX6_keep_4 rfl (lv_at hl 1 rfl) ?_
    refine lv_iconst (v := (1 : Int32)) hx hb dX6_keep_5 (by decide) ?_
    refine lv_icmp_le (tgt := 12) hx hb dX6_keep_6 (by decide) (fun cc6 => ?_) (fun cc6 => ?_)
    · have hf := if_t cc6 hf
      refine lv_iload_n hx hb dX6_keep_12 rfl (lv_at hl 1 rfl) ?_
      refine lv_if_ne (tgt := 23) hx hb dX6_keep_13 (by decide) (fun cc13 => ?_) (fun cc13 => ?_)
      · have hf := if_f cc13 hf
        refine lv_aload_n hx hb dX6_keep_23 rfl (lv_at hl 0 rfl) ?_
        refine va_get (D := D) (ci := 6) (v := .ref (a 6 0)) (C := RX6) (T := TX6) (N := 10) hx hb hG inG6 hown hK hP 0 at_C_0_0 rfl 5 (by decide) (hG _ g_229) (fun _ h9 => h9) rfl dX6_keep_24 ?_
        refine lv_astore_n (lv' := [(2, .ref (a 6 0)), (0, .ref (a 0 0)), (1, .int p1)]) hx hb dX6_keep_27 rfl hl (by decide) rfl (fun ls hl => ?_)
        refine lv_aload_n hx hb dX6_keep_28 rfl (lv_at hl 0 rfl) ?_
        refine lv_aload_n hx hb dX6_keep_29 rfl (lv_at hl 1 rfl) ?_
        refine va_get (D := D) (ci := 6) (v := .ref (a 4 0)) (C := RX6) (T := TX6) (N := 10) hx hb hG inG6 hown hK hP 0 at_C_0_0 rfl 3 (by decide) (hG _ g_227) (fun _ h9 => h9) rfl dX6_keep_30 ?_
        obtain ⟨q1, hq1, hf⟩ := bd_x hf
        have hPc := subP [40, 41, 42, 43, 44, 30, 31, 32, 33, 34] sub_C_SS_6_4 hP
        have hDc := va_D.sub hD [40, 41, 42, 43, 44, 30, 31, 32, 33, 34] rfl sub_C_SS_6_4
        have hFc := va_free hD hS hA [40, 41, 42, 43, 44, 30, 31, 32, 33, 34] sub_C_SS_6_4
        refine va_callv (va_runV (As := [.ref (a 4 0)]) (rest := []) ⟨hx, hb, hml, hown, hG⟩ (c_X4_become l D cI cZ (a 6) (a 4) (C 6) (C 4) s.heap.size hq1) (cwV 1 hG (gV g_550 g_551 g_552 g_73 g_553) rfl rfl rfl (by decide +kernel) ⟨Nat.le_of_ble_eq_true rfl, Nat.le_of_ble_eq_true rfl⟩) ⟨pre_blind, va_recv hK hPc (ci := 4) (q0 := 0) rfl rfl, fun U hU hW => ⟨rfl, pre_of hPc hK hDc hnw hU hW⟩⟩ rfl rfl hl.1 rfl (lv_room (Nat.le_of_ble_eq_true rfl)) dX6_keep_33 ⟨Nat.le_of_ble_eq_true rfl, Nat.le_of_ble_eq_true rfl⟩) hS (fun q _ h => hFc q h) hFc (fun u t H locs ht hvm hw hB hz1 hk1 hS => ?_)
        have hw := hw.symm; subst hw
        obtain ⟨hP1, hD1⟩ := hB
        rw [ht] at hP1
        obtain ⟨hP, hD⟩ := back hP hD [40, 41, 42, 43, 44, 30, 31, 32, 33, 34] sub_C_SS_6_4 rfl hk1 hFc hP1 hD1
        obtain ⟨X2, eX2⟩ : ∃ y : CC, y = (va_up C 6 q1) := ⟨_, rfl⟩
        have hf := nm_x eX2 hf
        have hP := wP (put_C_SS_6_4_0.trans (congrArg (fun z => cW cI a z) eX2.symm)) hP
        have hD := wD (put_C_SS_6_4_0.trans (congrArg (fun z => cW cI a z) eX2.symm)) hD
        refine lv_aload_n hx hb dX6_keep_36 rfl (lv_at hl 0 rfl) ?_
        refine lv_iconst (v := (1 : Int32)) hx hb dX6_keep_37 (by decide) ?_
        refine va_put (D := D) (ci := 4) (v := .int (1 : Int32)) (ty := .boolean) (C := RX4) (T := TX4) (N := 7) hx hb hG inG4 tyX4 tyX4_ok nmX4 hown hK hP hD hS 40 at_C_6_0 rfl 6 (by decide) (hG _ g_191) (fun _ h9 => h9) rfl (by decide +kernel) rfl rfl (Nat.le_of_ble_eq_true rfl) dX6_keep_38 (fun H locs hP hD hS => ?_)
        obtain ⟨X3, eX3⟩ : ∃ y : CC, y = (va_up X2 6 (sf (X2 6) 6 (1 : Int32))) := ⟨_, rfl⟩
        have hf := nm_x eX3 hf
        have hP := wP (sf_C_6_6.trans (congrArg (fun z => cW cI a z) eX3.symm)) hP
        have hD := wD (sf_C_6_6.trans (congrArg (fun z => cW cI a z) eX3.symm)) hD
        refine lv_iconst (v := (1 : Int32)) hx hb dX6_keep_41 (by decide) ?_
        exact W.iret (v := (1 : Int32)) hx hb hr (fun t ht hW => ⟨⟨(1 : Int32), X3, rfl, ⟨pr_1 hf, pr_2 hf⟩, by rw [ht]; exact hP, hD⟩, hS.F ht⟩) hS.2.2 dX6_keep_42
      · have hf := if_t cc13 hf
        refine lv_aload_n hx hb dX6_keep_16 rfl (lv_at hl 0 rfl) ?_
        refine va_get (D := D) (ci := 6) (v := .ref (a 5 0)) (C := RX6) (T := TX6) (N := 10) hx hb hG inG6 hown hK hP 0 at_C_0_0 rfl 4 (by decide) (hG _ g_228) (fun _ h9 => h9) rfl dX6_keep_17 ?_
        refine lv_goto (tgt := 27) hx hb dX6_keep_20 (by decide) ?_
        refine lv_astore_n (lv' := [(2, .ref (a 5 0)), (0, .ref (a 0 0)), (1, .int p1)]) hx hb dX6_keep_27 rfl hl (by decide) rfl (fun ls hl => ?_)
        refine lv_aload_n hx hb dX6_keep_28 rfl (lv_at hl 0 rfl) ?_
        refine lv_aload_n hx hb dX6_keep_29 rfl (lv_at hl 1 rfl) ?_
        refine va_get (D := D) (ci := 6) (v := .ref (a 4 0)) (C := RX6) (T := TX6) (N := 10) hx hb hG inG6 hown hK hP 0 at_C_0_0 rfl 3 (by decide) (hG _ g_227) (fun _ h9 => h9) rfl dX6_keep_30 ?_
        obtain ⟨q4, hq4, hf⟩ := bd_x hf
        have hPc := subP [35, 36, 37, 38, 39, 30, 31, 32, 33, 34] sub_C_SS_5_4 hP
        have hDc := va_D.sub hD [35, 36, 37, 38, 39, 30, 31, 32, 33, 34] rfl sub_C_SS_5_4
        have hFc := va_free hD hS hA [35, 36, 37, 38, 39, 30, 31, 32, 33, 34] sub_C_SS_5_4
        refine va_callv (va_runV (As := [.ref (a 4 0)]) (rest := []) ⟨hx, hb, hml, hown, hG⟩ (c_X4_become l D cI cZ (a 5) (a 4) (C 5) (C 4) s.heap.size hq4) (cwV 1 hG (gV g_550 g_551 g_552 g_73 g_553) rfl rfl rfl (by decide +kernel) ⟨Nat.le_of_ble_eq_true rfl, Nat.le_of_ble_eq_true rfl⟩) ⟨pre_blind, va_recv hK hPc (ci := 4) (q0 := 0) rfl rfl, fun U hU hW => ⟨rfl, pre_of hPc hK hDc hnw hU hW⟩⟩ rfl rfl hl.1 rfl (lv_room (Nat.le_of_ble_eq_true rfl)) dX6_keep_33 ⟨Nat.le_of_ble_eq_true rfl, Nat.le_of_ble_eq_true rfl⟩) hS (fun q _ h => hFc q h) hFc (fun u t H locs ht hvm hw hB hz1 hk1 hS => ?_)
        have hw := hw.symm; subst hw
        obtain ⟨hP1, hD1⟩ := hB
        rw [ht] at hP1
        obtain ⟨hP, hD⟩ := back hP hD [35, 36, 37, 38, 39, 30, 31, 32, 33, 34] sub_C_SS_5_4 rfl hk1 hFc hP1 hD1
        obtain ⟨X5, eX5⟩ : ∃ y : CC, y = (va_up C 5 q4) := ⟨_, rfl⟩
        have hf := nm_x eX5 hf
        have hP := wP (put_C_SS_5_4_0.trans (congrArg (fun z => cW cI a z) eX5.symm)) hP
        have hD := wD (put_C_SS_5_4_0.trans (congrArg (fun z => cW cI a z) eX5.symm)) hD
        refine lv_aload_n hx hb dX6_keep_36 rfl (lv_at hl 0 rfl) ?_
        refine lv_iconst (v := (1 : Int32)) hx hb dX6_keep_37 (by decide) ?_
        refine va_put (D := D) (ci := 4) (v := .int (1 : Int32)) (ty := .boolean) (C := RX4) (T := TX4) (N := 7) hx hb hG inG4 tyX4 tyX4_ok nmX4 hown hK hP hD hS 35 at_C_5_0 rfl 6 (by decide) (hG _ g_191) (fun _ h9 => h9) rfl (by decide +kernel) rfl rfl (Nat.le_of_ble_eq_true rfl) dX6_keep_38 (fun H locs hP hD hS => ?_)
        obtain ⟨X6, eX6⟩ : ∃ y : CC, y = (va_up X5 5 (sf (X5 5) 6 (1 : Int32))) := ⟨_, rfl⟩
        have hf := nm_x eX6 hf
        have hP := wP (sf_C_5_6.trans (congrArg (fun z => cW cI a z) eX6.symm)) hP
        have hD := wD (sf_C_5_6.trans (congrArg (fun z => cW cI a z) eX6.symm)) hD
        refine lv_iconst (v := (1 : Int32)) hx hb dX6_keep_41 (by decide) ?_
        exact W.iret (v := (1 : Int32)) hx hb hr (fun t ht hW => ⟨⟨(1 : Int32), X6, rfl, ⟨pr_1 hf, pr_2 hf⟩, by rw [ht]; exact hP, hD⟩, hS.F ht⟩) hS.2.2 dX6_keep_42
    · have hf := if_f cc6 hf
      refine lv_ldc hx hb hown (hG _ g_321) dX6_keep_9 ?_
      exact W.iret (v := (-1000000001 : Int32)) hx hb hr (fun t ht hW => ⟨⟨(-1000000001 : Int32), C, rfl, ⟨pr_1 hf, pr_2 hf⟩, by rw [ht]; exact hP, hD⟩, hS.F ht⟩) hS.2.2 dX6_keep_11
def f_X6_goBack (C : CC) (p1 : Int32) : Option (Int32 × CC) := (if p1 < 0 then some ((-1000000001 : Int32), C) else (if p1 ≤ (1 : Int32) then (if p1 = 0 then (if ((C 5) 0 6) = 0 then some ((-1000000003 : Int32), C) else bd (f_X4_become (C 4) (C 5)) (fun (q3 : HC) => nm (va_up C 4 q3) (fun (X4 : CC) => some ((1 : Int32), X4)))) else (if ((C 6) 0 6) = 0 then some ((-1000000003 : Int32), C) else bd (f_X4_become (C 4) (C 6)) (fun (q1 : HC) => nm (va_up C 4 q1) (fun (X2 : CC) => some ((1 : Int32), X2))))) else some ((-1000000001 : Int32), C)))
abbrev RM_X6_goBack : Room := { frames := 1, cells := 0, slots := 0, locals := 22 }
set_option maxHeartbeats 4000000 in
set_option maxRecDepth 100000 in
theorem c_X6_goBack (l : Launch) (D : va_G) (cI cZ : ClassId) (a : Nat → Nat → Nat) (C : CC) (p1 : Int32) (sz : Nat) {r : Int32 × CC} (hf : f_X6_goBack C p1 = some r) : Met l yX6_goBack (wM yX6_goBack cX6_goBack 3 (some .int)) RM_X6_goBack (va_Pc [.ref (a 0 0), .int p1] (pre D cI cZ (cW cI a C) sz)) (QI D (va_A (cW cI a C) sz) (fun (u : CC) => (cW cI a u)) r) 0 0 (va_A (cW cI a C) sz) := by
  unfold f_X6_goBack at hf
  refine Met.ofW (cc := cX6_goBack) (maxL := 3) (ret := (some .int)) (by decide) rfl ?_
  intro p e s m args below meth c s₁ B hml hv
  obtain ⟨rfl, hsz, hP, hK, hD0, hnw⟩ := hv
  have hx := B.exec
  have hb := B.bytes
  have hr := B.returns
  have hts := atoms_spec (ws := wM yX6_goBack cX6_goBack 3 (some .int)) B.pre
  have hG : ∀ w ∈ GW, w.before (([.ref (a 0 0), .int p1] : List Value).toArray) s = true := fun w h => hts w (List.mem_cons_of_mem _ h)
  have hown : s.vm.findClass RX6 = some m.cls := findClass_of_methodNamed B.named
  have hlocks := B.notSynchronized
  subst hsz
  have hD := hD0.self (sz := s.heap.size)
  generalize hAe : va_A (cW cI a C) s.heap.size = A at hD ⊢
  have hA : ∀ q : Nat, s.heap.size ≤ q → A q := fun q h => by rw [← hAe]; exact Or.inr h
  have hS : va_S A s.heap s.heap [] := va_S.rf
  have hl := lv_entry ([.ref (a 0 0), .int p1]) (n := 3) (Nat.le_of_ble_eq_true rfl)
  rw [lg_entry_eq]
  generalize (lg_sl ([.ref (a 0 0), .int p1]) ++ List.replicate (3 - (lg_sl ([.ref (a 0 0), .int p1])).length) Slot.unset).toArray = ls at hl ⊢
  have hl : lv_has ls 3 [(0, .ref (a 0 0)), (1, .int p1)] := hl
  show W p l e RM_X6_goBack s m (([.ref (a 0 0), .int p1] : List Value).toArray) below meth c s.heap [] 0 0 (MQ below (QI D A (fun (u : CC) => (cW cI a u)) r) (([.ref (a 0 0), .int p1] : List Value).toArray) s 0 0 A) (F0 m 0 ls [])
  refine lv_iload_n hx hb dX6_goBack_0 rfl (lv_at hl 1 rfl) ?_
  refine lv_if_lt (tgt := 9) hx hb dX6_goBack_1 (by decide) (fun cc1 => ?_) (fun cc1 => ?_)
  · have hf := if_t cc1 hf
    refine lv_ldc hx hb hown (hG _ g_321) dX6_goBack_9 ?_
    exact W.iret (v := (-1000000001 : Int32)) hx hb hr (fun t ht hW => ⟨⟨(-1000000001 : Int32), C, rfl, ⟨pr_1 hf, pr_2 hf⟩, by rw [ht]; exact hP, hD⟩, hS.F ht⟩) hS.2.2 dX6_goBack_11
  · have hf := if_f cc1 hf
    refine lv_iload_n hx hb dX6_goBack_4 rfl (lv_at hl 1 rfl) ?_
    refine lv_iconst (v := (1 : Int32)) hx hb dX6_goBack_5 (by decide) ?_
    refine lv_icmp_le (tgt := 12) hx hb dX6_goBack_6 (by decide) (fun cc6 => ?_) (fun cc6 => ?_)
    · have hf := if_t cc6 hf
      refine lv_iload_n hx hb dX6_goBack_12 rfl (lv_at hl 1 rfl) ?_
      refine lv_if_ne (tgt := 23) hx hb dX6_goBack_13 (by decide) (fun cc13 => ?_) (fun cc13 => ?_)
      · have hf := if_f cc13 hf
        refine lv_aload_n hx hb dX6_goBack_23 rfl (lv_at hl 0 rfl) ?_
        refine va_get (D := D) (ci := 6) (v := .ref (a 6 0)) (C := RX6) (T := TX6) (N := 10) hx hb hG inG6 hown hK hP 0 at_C_0_0 rfl 5 (by decide) (hG _ g_229) (fun _ h9 => h9) rfl dX6_goBack_24 ?_
        refine lv_astore_n (lv' := [(2, .ref (a 6 0)), (0, .ref (a 0 0)), (1, .int p1)]) hx hb dX6_goBack_27 rfl hl (by decide) rfl (fun ls hl => ?_)
        refine lv_aload_n hx hb dX6_goBack_28 rfl (lv_at hl 0 rfl) ?_
        refine va_get (D := D) (ci := 4) (v := .int ((C 6) 0 6)) (C := RX4) (T := TX4) (N := 7) hx hb hG inG4 hown hK hP 40 at_C_6_0 rfl 6 (by decide) (hG _ g_191) (fun _ h9 => h9) rfl dX6_goBack_29 ?_
        refine lv_if_ne (tgt := 38) hx hb dX6_goBack_32 (by decide) (fun cc32 => ?_) (fun cc32 => ?_)
        · have hf := if_f cc32 hf
          refine lv_aload_n hx hb dX6_goBack_38 rfl (lv_at hl 1 rfl) ?_
          refine va_get (D := D) (ci := 6) (v := .ref (a 4 0)) (C := RX6) (T := TX6) (N := 10) hx hb hG inG6 hown hK hP 0 at_C_0_0 rfl 3 (by decide) (hG _ g_227) (fun _ h9 => h9) rfl dX6_goBack_39 ?_
          refine lv_aload_n hx hb dX6_goBack_42 rfl (lv_at hl 0 rfl) ?_
          obtain ⟨q1, hq1, hf⟩ := bd_x hf
          have hPc := subP [30, 31, 32, 33, 34, 40, 41, 42, 43, 44] sub_C_SS_4_6 hP
          have hDc := va_D.sub hD [30, 31, 32, 33, 34, 40, 41, 42, 43, 44] rfl sub_C_SS_4_6
          have hFc := va_free hD hS hA [30, 31, 32, 33, 34, 40, 41, 42, 43, 44] sub_C_SS_4_6
          refine va_callv (va_runV (As := [.ref (a 6 0)]) (rest := []) ⟨hx, hb, hml, hown, hG⟩ (c_X4_become l D cI cZ (a 4) (a 6) (C 4) (C 6) s.heap.size hq1) (cwV 1 hG (gV g_550 g_551 g_552 g_73 g_553) rfl rfl rfl (by decide +kernel) ⟨Nat.le_of_ble_eq_true rfl, Nat.le_of_ble_eq_true rfl⟩) ⟨pre_blind, va_recv hK hPc (ci := 4) (q0 := 0) rfl rfl, fun U hU hW => ⟨rfl, pre_of hPc hK hDc hnw hU hW⟩⟩ rfl rfl hl.1 rfl (lv_room (Nat.le_of_ble_eq_true rfl)) dX6_goBack_43 ⟨Nat.le_of_ble_eq_true rfl, Nat.le_of_ble_eq_true rfl⟩) hS (fun q _ h => hFc q h) hFc (fun u t H locs ht hvm hw hB hz1 hk1 hS => ?_)
          have hw := hw.symm; subst hw
          obtain ⟨hP1, hD1⟩ := hB
          rw [ht] at hP1
          obtain ⟨hP, hD⟩ := back hP hD [30, 31, 32, 33, 34, 40, 41, 42, 43, 44] sub_C_SS_4_6 rfl hk1 hFc hP1 hD1
          obtain ⟨X2, eX2⟩ : ∃ y : CC, y = (va_up C 4 q1) := ⟨_, rfl⟩
          have hf := nm_x eX2 hf
          have hP := wP (put_C_SS_4_6_0.trans (congrArg (fun z => cW cI a z) eX2.symm)) hP
          have hD := wD (put_C_SS_4_6_0.trans (congrArg (fun z => cW cI a z) eX2.symm)) hD
          refine lv_iconst (v := (1 : Int32)) hx hb dX6_goBack_46 (by decide) ?_
          exact W.iret (v := (1 : Int32)) hx hb hr (fun t ht hW => ⟨⟨(1 : Int32), X2, rfl, ⟨pr_1 hf, pr_2 hf⟩, by rw [ht]; exact hP, hD⟩, hS.F ht⟩) hS.2.2 dX6_goBack_47
        · have hf := if_t cc32 hf
          refine lv_ldc hx hb hown (hG _ g_402) dX6_goBack_35 ?_
          exact W.iret (v := (-1000000003 : Int32)) hx hb hr (fun t ht hW => ⟨⟨(-1000000003 : Int32), C, rfl, ⟨pr_1 hf, pr_2 hf⟩, by rw [ht]; exact hP, hD⟩, hS.F ht⟩) hS.2.2 dX6_goBack_37
      · have hf := if_t cc13 hf
        refine lv_aload_n hx hb dX6_goBack_16 rfl (lv_at hl 0 rfl) ?_
        refine va_get (D := D) (ci := 6) (v := .ref (a 5 0)) (C := RX6) (T := TX6) (N := 10) hx hb hG inG6 hown hK hP 0 at_C_0_0 rfl 4 (by decide) (hG _ g_228) (fun _ h9 => h9) rfl dX6_goBack_17 ?_
        refine lv_goto (tgt := 27) hx hb dX6_goBack_20 (by decide) ?_
        refine lv_astore_n (lv' := [(2, .ref (a 5 0)), (0, .ref (a 0 0)), (1, .int p1)]) hx hb dX6_goBack_27 rfl hl (by decide) rfl (fun ls hl => ?_)
        refine lv_aload_n hx hb dX6_goBack_28 rfl (lv_at hl 0 rfl) ?_
        refine va_get (D := D) (ci := 4) (v := .int ((C 5) 0 6)) (C := RX4) (T := TX4) (N := 7) hx hb hG inG4 hown hK hP 35 at_C_5_0 rfl 6 (by decide) (hG _ g_191) (fun _ h9 => h9) rfl dX6_goBack_29 ?_
        refine lv_if_ne (tgt := 38) hx hb dX6_goBack_32 (by decide) (fun cc32 => ?_) (fun cc32 => ?_)
        · have hf := if_f cc32 hf
          refine lv_aload_n hx hb dX6_goBack_38 rfl (lv_at hl 1 rfl) ?_
          refine va_get (D := D) (ci := 6) (v := .ref (a 4 0)) (C := RX6) (T := TX6) (N := 10) hx hb hG inG6 hown hK hP 0 at_C_0_0 rfl 3 (by decide) (hG _ g_227) (fun _ h9 => h9) rfl dX6_goBack_39 ?_
          refine lv_aload_n hx hb dX6_goBack_42 rfl (lv_at hl 0 rfl) ?_
          obtain ⟨q3, hq3, hf⟩ := bd_x hf
          have hPc := subP [30, 31, 32, 33, 34, 35, 36, 37, 38, 39] sub_C_SS_4_5 hP
          have hDc := va_D.sub hD [30, 31, 32, 33, 34, 35, 36, 37, 38, 39] rfl sub_C_SS_4_5
          have hFc := va_free hD hS hA [30, 31, 32, 33, 34, 35, 36, 37, 38, 39] sub_C_SS_4_5
          refine va_callv (va_runV (As := [.ref (a 5 0)]) (rest := []) ⟨hx, hb, hml, hown, hG⟩ (c_X4_become l D cI cZ (a 4) (a 5) (C 4) (C 5) s.heap.size hq3) (cwV 1 hG (gV g_550 g_551 g_552 g_73 g_553) rfl rfl rfl (by decide +kernel) ⟨Nat.le_of_ble_eq_true rfl, Nat.le_of_ble_eq_true rfl⟩) ⟨pre_blind, va_recv hK hPc (ci := 4) (q0 := 0) rfl rfl, fun U hU hW => ⟨rfl, pre_of hPc hK hDc hnw hU hW⟩⟩ rfl rfl hl.1 rfl (lv_room (Nat.le_of_ble_eq_true rfl)) dX6_goBack_43 ⟨Nat.le_of_ble_eq_true rfl, Nat.le_of_ble_eq_true rfl⟩) hS (fun q _ h => hFc q h) hFc (fun u t H locs ht hvm hw hB hz1 hk1 hS => ?_)
          have hw := hw.symm; subst hw
          obtain ⟨hP1, hD1⟩ := hB
          rw [ht] at hP1
          obtain ⟨hP, hD⟩ := back hP hD [30, 31, 32, 33, 34, 35, 36, 37, 38, 39] sub_C_SS_4_5 rfl hk1 hFc hP1 hD1
          obtain ⟨X4, eX4⟩ : ∃ y : CC, y = (va_up C 4 q3) := ⟨_, rfl⟩
          have hf := nm_x eX4 hf
          have hP := wP (put_C_SS_4_5_0.trans (congrArg (fun z => cW cI a z) eX4.symm)) hP
          have hD := wD (put_C_SS_4_5_0.trans (congrArg (fun z => cW cI a z) eX4.symm)) hD
          refine lv_iconst (v := (1 : Int32)) hx hb dX6_goBack_46 (by decide) ?_
          exact W.iret (v := (1 : Int32)) hx hb hr (fun t ht hW => ⟨⟨(1 : Int32), X4, rfl, ⟨pr_1 hf, pr_2 hf⟩, by rw [ht]; exact hP, hD⟩, hS.F ht⟩) hS.2.2 dX6_goBack_47
        · have hf := if_t cc32 hf
          refine lv_ldc hx hb hown (hG _ g_402) dX6_goBack_35 ?_
          exact W.iret (v := (-1000000003 : Int32)) hx hb hr (fun t ht hW => ⟨⟨(-1000000003 : Int32), C, rfl, ⟨pr_1 hf, pr_2 hf⟩, by rw [ht]; exact hP, hD⟩, hS.F ht⟩) hS.2.2 dX6_goBack_37
    · have hf := if_f cc6 hf
      refine lv_ldc hx hb hown (hG _ g_321) dX6_goBack_9 ?_
      exact W.iret (v := (-1000000001 : Int32)) hx hb hr (fun t ht hW => ⟨⟨(-1000000001 : Int32), C, rfl, ⟨pr_1 hf, pr_2 hf⟩, by rw [ht]; exact hP, hD⟩, hS.F ht⟩) hS.2.2 dX6_goBack_11
