theorem at_C_0_0 {cI : ClassId} {a : Nat → Nat → Nat} {C : CC} : (cW cI a C)[0]? = some (a 0 0, .inr (6, [.ref (a 1 0), .ref (a 2 0), .ref (a 3 0), .ref (a 4 0), .ref (a 5 0), .ref (a 6 0), .ref (a 7 0), .ref (a 8 0), .ref (a 9 0), .ref (a 0 1)])) := rfl
theorem sub_C_T_1 {cI : ClassId} {a : Nat → Nat → Nat} {C : CC} : [2, 3].map (fun i => (cW cI a C)[i]?) = (kT cI (a 1) (C 1)).map some := rfl
theorem pc_C_1 {cI : ClassId} {a : Nat → Nat → Nat} {C : CC} {u : HC} : putL (cW cI a C) [2, 3] (kT cI (a 1) u) = cW cI a (va_up C 1 u) := rfl
theorem put_C_T_1_0 {cI : ClassId} {a : Nat → Nat → Nat} {C : CC} {u0 : HC} : putL (cW cI a C) [2, 3] (kT cI (a 1) u0) = (cW cI a (va_up C 1 u0)) := pc_C_1
theorem at_C_1_0 {cI : ClassId} {a : Nat → Nat → Nat} {C : CC} : (cW cI a C)[2]? = some (a 1 0, .inr (5, [.ref (a 1 1), .int (C 1 0 1), .int (C 1 0 2), .int (C 1 0 3), .int (C 1 0 4), .int (C 1 0 5)])) := rfl
theorem at_C_2_0 {cI : ClassId} {a : Nat → Nat → Nat} {C : CC} : (cW cI a C)[4]? = some (a 2 0, .inr (2, [.int (C 2 0 0), .int (C 2 0 1), .int (C 2 0 2), .int (C 2 0 3), .int (C 2 0 4), .int (C 2 0 5), .ref (a 2 1), .ref (a 2 2), .ref (a 2 3), .ref (a 2 4), .ref (a 2 5), .ref (a 2 6), .ref (a 2 7), .ref (a 2 8), .ref (a 2 9), .ref (a 2 10), .ref (a 2 11), .ref (a 2 12)])) := rfl
theorem at_C_4_0 {cI : ClassId} {a : Nat → Nat → Nat} {C : CC} : (cW cI a C)[30]? = some (a 4 0, .inr (4, [.ref (a 4 1), .ref (a 4 2), .ref (a 4 3), .ref (a 4 4), .int (C 4 0 4), .int (C 4 0 5), .int (C 4 0 6)])) := rfl
theorem at_C_4_4 {cI : ClassId} {a : Nat → Nat → Nat} {C : CC} : (cW cI a C)[34]? = some (a 4 4, .inl (cI, 30, .inl (C 4 4))) := rfl
theorem at_C_7_0 {cI : ClassId} {a : Nat → Nat → Nat} {C : CC} : (cW cI a C)[45]? = some (a 7 0, .inr (1, [.ref (a 7 1), .ref (a 7 2), .int (C 7 0 2)])) := rfl
theorem at_C_4_1 {cI : ClassId} {a : Nat → Nat → Nat} {C : CC} : (cW cI a C)[31]? = some (a 4 1, .inl (cI, 5, .inl (C 4 1))) := rfl
theorem sub_C_L_2 {cI : ClassId} {a : Nat → Nat → Nat} {C : CC} : [4, 5, 6, 7, 8, 9, 10, 11, 12, 13, 14, 15, 16].map (fun i => (cW cI a C)[i]?) = (kL cI (a 2) (C 2)).map some := rfl
theorem pcs_C_2 {cI : ClassId} {a : Nat → Nat → Nat} {C : CC} {u : HC} (h : C 2 = u) : putL (cW cI a C) [4, 5, 6, 7, 8, 9, 10, 11, 12, 13, 14, 15, 16] (kL cI (a 2) u) = cW cI a C := by subst h; rfl
theorem put_C_L_2_ {cI : ClassId} {a : Nat → Nat → Nat} {C : CC}  : putL (cW cI a C) [4, 5, 6, 7, 8, 9, 10, 11, 12, 13, 14, 15, 16] (kL cI (a 2) (C 2)) = (cW cI a C) := (pcs_C_2 rfl)
theorem at_C_2_1 {cI : ClassId} {a : Nat → Nat → Nat} {C : CC} : (cW cI a C)[5]? = some (a 2 1, .inl (cI, 5, .inl (C 2 1))) := rfl
theorem at_C_2_2 {cI : ClassId} {a : Nat → Nat → Nat} {C : CC} : (cW cI a C)[6]? = some (a 2 2, .inl (cI, 5, .inl (C 2 2))) := rfl
theorem at_C_4_2 {cI : ClassId} {a : Nat → Nat → Nat} {C : CC} : (cW cI a C)[32]? = some (a 4 2, .inl (cI, 5, .inl (C 4 2))) := rfl
theorem at_C_4_3 {cI : ClassId} {a : Nat → Nat → Nat} {C : CC} : (cW cI a C)[33]? = some (a 4 3, .inl (cI, 5, .inl (C 4 3))) := rfl
theorem at_C_2_4 {cI : ClassId} {a : Nat → Nat → Nat} {C : CC} : (cW cI a C)[8]? = some (a 2 4, .inl (cI, 6, .inl (C 2 4))) := rfl
theorem at_C_2_5 {cI : ClassId} {a : Nat → Nat → Nat} {C : CC} : (cW cI a C)[9]? = some (a 2 5, .inl (cI, 6, .inl (C 2 5))) := rfl
theorem at_C_2_6 {cI : ClassId} {a : Nat → Nat → Nat} {C : CC} : (cW cI a C)[10]? = some (a 2 6, .inl (cI, 6, .inl (C 2 6))) := rfl
theorem at_C_2_7 {cI : ClassId} {a : Nat → Nat → Nat} {C : CC} : (cW cI a C)[11]? = some (a 2 7, .inl (cI, 6, .inl (C 2 7))) := rfl
theorem at_C_2_8 {cI : ClassId} {a : Nat → Nat → Nat} {C : CC} : (cW cI a C)[12]? = some (a 2 8, .inl (cI, 6, .inl (C 2 8))) := rfl
theorem at_C_2_9 {cI : ClassId} {a : Nat → Nat → Nat} {C : CC} : (cW cI a C)[13]? = some (a 2 9, .inl (cI, 4, .inl (C 2 9))) := rfl
theorem at_C_2_10 {cI : ClassId} {a : Nat → Nat → Nat} {C : CC} : (cW cI a C)[14]? = some (a 2 10, .inl (cI, 4, .inl (C 2 10))) := rfl
theorem at_C_2_11 {cI : ClassId} {a : Nat → Nat → Nat} {C : CC} : (cW cI a C)[15]? = some (a 2 11, .inl (cI, 4, .inl (C 2 11))) := rfl
theorem sa_C_4_4 {cI : ClassId} {a : Nat → Nat → Nat} {C : CC} {i v : Int32} : (cW cI a C).set 34 (a 4 4, .inl (cI, 30, .inl (upd (C 4 4) i.toNatClampNeg v))) = (cW cI a (va_up C 4 (sa (C 4) 4 i v))) := rfl
theorem at_C_0_1 {cI : ClassId} {a : Nat → Nat → Nat} {C : CC} : (cW cI a C)[1]? = some (a 0 1, .inl (cI, 6, .inl (C 0 1))) := rfl
theorem sa_C_0_1 {cI : ClassId} {a : Nat → Nat → Nat} {C : CC} {i v : Int32} : (cW cI a C).set 1 (a 0 1, .inl (cI, 6, .inl (upd (C 0 1) i.toNatClampNeg v))) = (cW cI a (va_up C 0 (sa (C 0) 1 i v))) := rfl
theorem sa_C_4_1 {cI : ClassId} {a : Nat → Nat → Nat} {C : CC} {i v : Int32} : (cW cI a C).set 31 (a 4 1, .inl (cI, 5, .inl (upd (C 4 1) i.toNatClampNeg v))) = (cW cI a (va_up C 4 (sa (C 4) 1 i v))) := rfl
theorem sa_C_4_3 {cI : ClassId} {a : Nat → Nat → Nat} {C : CC} {i v : Int32} : (cW cI a C).set 33 (a 4 3, .inl (cI, 5, .inl (upd (C 4 3) i.toNatClampNeg v))) = (cW cI a (va_up C 4 (sa (C 4) 3 i v))) := rfl
theorem sa_C_4_2 {cI : ClassId} {a : Nat → Nat → Nat} {C : CC} {i v : Int32} : (cW cI a C).set 32 (a 4 2, .inl (cI, 5, .inl (upd (C 4 2) i.toNatClampNeg v))) = (cW cI a (va_up C 4 (sa (C 4) 2 i v))) := rfl
theorem sub_C_S_4 {cI : ClassId} {a : Nat → Nat → Nat} {C : CC} : [30, 31, 32, 33, 34].map (fun i => (cW cI a C)[i]?) = (kS cI (a 4) (C 4)).map some := rfl
theorem pc_C_4 {cI : ClassId} {a : Nat → Nat → Nat} {C : CC} {u : HC} : putL (cW cI a C) [30, 31, 32, 33, 34] (kS cI (a 4) u) = cW cI a (va_up C 4 u) := rfl
theorem put_C_S_4_0 {cI : ClassId} {a : Nat → Nat → Nat} {C : CC} {u0 : HC} : putL (cW cI a C) [30, 31, 32, 33, 34] (kS cI (a 4) u0) = (cW cI a (va_up C 4 u0)) := pc_C_4
theorem sf_C_4_4 {cI : ClassId} {a : Nat → Nat → Nat} {C : CC} {v : Int32} : (cW cI a C).set 30 (a 4 0, .inr (4, ([.ref (a 4 1), .ref (a 4 2), .ref (a 4 3), .ref (a 4 4), .int (C 4 0 4), .int (C 4 0 5), .int (C 4 0 6)] : List Value).set 4 (.int v))) = (cW cI a (va_up C 4 (sf (C 4) 4 v))) := rfl
def f_X6_feed (C : CC) (p1 : Int32) : Option (Int32 × CC) := (if p1 < 0 then some ((-1000000002 : Int32), C) else (if p1 ≤ (255 : Int32) then bd (f_X5_append (C 1) p1) (fun (q1 : Int32 × HC) => nm (va_up C 1 q1.2) (fun (X2 : CC) => some (q1.1, X2))) else some ((-1000000002 : Int32), C)))
abbrev RM_X6_feed : Room := { frames := 1, cells := 0, slots := 0, locals := 21 }
set_option maxHeartbeats 4000000 in
set_option maxRecDepth 100000 in
theorem c_X6_feed (l : Launch) (D : va_G) (cI cZ : ClassId) (a : Nat → Nat → Nat) (C : CC) (p1 : Int32) (sz : Nat) {r : Int32 × CC} (hf : f_X6_feed C p1 = some r) : Met l yX6_feed (wM yX6_feed cX6_feed 2 (some .int)) RM_X6_feed (va_Pc [.ref (a 0 0), .int p1] (pre D cI cZ (cW cI a C) sz)) (QI D (va_A (cW cI a C) sz) (fun (u : CC) => (cW cI a u)) r) 0 0 (va_A (cW cI a C) sz) := by
  unfold f_X6_feed at hf
  refine Met.ofW (cc := cX6_feed) (maxL := 2) (ret := (some .int)) (by decide) rfl ?_
  intro p e s m args below meth c s₁ B hml hv
  obtain ⟨rfl, hsz, hP, hK, hD0, hnw⟩ := hv
  have hx := B.exec
  have hb := B.bytes
  have hr := B.returns
  have hts := atoms_spec (ws := wM yX6_feed cX6_feed 2 (some .int)) B.pre
  have hG : ∀ w ∈ GW, w.before (([.ref (a 0 0), .int p1] : List Value).toArray) s = true := fun w h => hts w (List.mem_cons_of_mem _ h)
  have hown : s.vm.findClass RX6 = some m.cls := findClass_of_methodNamed B.named
  have hlocks := B.notSynchronized
  subst hsz
  have hD := hD0.self (sz := s.heap.size)
  generalize hAe : va_A (cW cI a C) s.heap.size = A at hD ⊢
  have hA : ∀ q : Nat, s.heap.size ≤ q → A q := fun q h => by rw [← hAe]; exact Or.inr h
  have hS : va_S A s.heap s.heap [] := va_S.rf
  have hl := lv_entry ([.ref (a 0 0), .int p1]) (n := 2) (Nat.le_of_ble_eq_true rfl)
  rw [lg_entry_eq]
  generalize (lg_sl ([.ref (a 0 0), .int p1]) ++ List.replicate (2 - (lg_sl ([.ref (a 0 0), .int p1])).length) Slot.unset).toArray = ls at hl ⊢
  have hl : lv_has ls 2 [(0, .ref (a 0 0)), (1, .int p1)] := hl
  show W p l e RM_X6_feed s m (([.ref (a 0 0), .int p1] : List Value).toArray) below meth c s.heap [] 0 0 (MQ below (QI D A (fun (u : CC) => (cW cI a u)) r) (([.ref (a 0 0), .int p1] : List Value).toArray) s 0 0 A) (F0 m 0 ls [])
  refine lv_iload_n hx hb dX6_feed_0 rfl (lv_at hl 1 rfl) ?_
  refine lv_if_lt (tgt := 11) hx hb dX6_feed_1 (by decide) (fun cc1 => ?_) (fun cc1 => ?_)
  · have hf := if_t cc1 hf
    refine lv_ldc hx hb hown (hG _ g_238) dX6_feed_11 ?_
    exact W.iret (v := (-1000000002 : Int32)) hx hb hr (fun t ht hW => ⟨⟨(-1000000002 : Int32), C, rfl, ⟨pr_1 hf, pr_2 hf⟩, by rw [ht]; exact hP, hD⟩, hS.F ht⟩) hS.2.2 dX6_feed_13
  · have hf := if_f cc1 hf
    refine lv_iload_n hx hb dX6_feed_4 rfl (lv_at hl 1 rfl) ?_
    refine lv_sipush (v := (255 : Int32)) hx hb dX6_feed_5 (by decide) ?_
    refine lv_icmp_le (tgt := 14) hx hb dX6_feed_8 (by decide) (fun cc8 => ?_) (fun cc8 => ?_)
    · have hf := if_t cc8 hf
      refine lv_aload_n hx hb dX6_feed_14 rfl (lv_at hl 0 rfl) ?_
      refine va_get (D := D) (ci := 6) (v := .ref (a 1 0)) (C := RX6) (T := TX6) (N := 10) hx hb hG inG6 hown hK hP 0 at_C_0_0 rfl 0 (by decide) (hG _ g_224) (fun _ h9 => h9) rfl dX6_feed_15 ?_
      refine lv_iload_n hx hb dX6_feed_18 rfl (lv_at hl 1 rfl) ?_
      obtain ⟨q1, hq1, hf⟩ := bd_x hf
      have hPc := subP [2, 3] sub_C_T_1 hP
      have hDc := va_D.sub hD [2, 3] rfl sub_C_T_1
      have hFc := va_free hD hS hA [2, 3] sub_C_T_1
      refine va_calli (va_runV (As := [.int p1]) (rest := []) ⟨hx, hb, hml, hown, hG⟩ (c_X5_append l D cI cZ (a 1) (C 1) p1 s.heap.size hq1) (cwV 1 hG (gV g_239 g_240 g_241 g_71 g_242) rfl rfl rfl (by decide +kernel) ⟨Nat.le_of_ble_eq_true rfl, Nat.le_of_ble_eq_true rfl⟩) ⟨pre_blind, va_recv hK hPc (ci := 5) (q0 := 0) rfl rfl, fun U hU hW => ⟨rfl, pre_of hPc hK hDc hnw hU hW⟩⟩ rfl rfl hl.1 rfl (lv_room (Nat.le_of_ble_eq_true rfl)) dX6_feed_19 ⟨Nat.le_of_ble_eq_true rfl, Nat.le_of_ble_eq_true rfl⟩) hS (fun q _ h => hFc q h) hFc (fun v u t H locs ht hvm hw hB hz1 hk1 hS => ?_)
      obtain ⟨rfl, rfl⟩ := hw
      obtain ⟨hP1, hD1⟩ := hB
      rw [ht] at hP1
      obtain ⟨hP, hD⟩ := back hP hD [2, 3] sub_C_T_1 rfl hk1 hFc hP1 hD1
      obtain ⟨X2, eX2⟩ : ∃ y : CC, y = (va_up C 1 q1.2) := ⟨_, rfl⟩
      have hf := nm_x eX2 hf
      have hP := wP (put_C_T_1_0.trans (congrArg (fun z => cW cI a z) eX2.symm)) hP
      have hD := wD (put_C_T_1_0.trans (congrArg (fun z => cW cI a z) eX2.symm)) hD
      exact W.iret (v := q1.1) hx hb hr (fun t ht hW => ⟨⟨q1.1, X2, rfl, ⟨pr_1 hf, pr_2 hf⟩, by rw [ht]; exact hP, hD⟩, hS.F ht⟩) hS.2.2 dX6_feed_22
    · have hf := if_f cc8 hf
      refine lv_ldc hx hb hown (hG _ g_238) dX6_feed_11 ?_
      exact W.iret (v := (-1000000002 : Int32)) hx hb hr (fun t ht hW => ⟨⟨(-1000000002 : Int32), C, rfl, ⟨pr_1 hf, pr_2 hf⟩, by rw [ht]; exact hP, hD⟩, hS.F ht⟩) hS.2.2 dX6_feed_13
def f_X6_fault (C : CC) : Option (Int32) := some ((C 1) 0 5)
abbrev RM_X6_fault : Room := { frames := 0, cells := 0, slots := 0, locals := 0 }
set_option maxHeartbeats 4000000 in
set_option maxRecDepth 100000 in
theorem c_X6_fault (l : Launch) (D : va_G) (cI cZ : ClassId) (a : Nat → Nat → Nat) (C : CC) (sz : Nat) {r : Int32} (hf : f_X6_fault C = some r) : Met l yX6_fault (wM yX6_fault cX6_fault 1 (some .int)) RM_X6_fault (va_Pc [.ref (a 0 0)] (pre D cI cZ (cW cI a C) sz)) (QI0 D (va_A (cW cI a C) sz) (cW cI a C) r) 0 0 (va_A (cW cI a C) sz) := by
  unfold f_X6_fault at hf
  refine Met.ofW (cc := cX6_fault) (maxL := 1) (ret := (some .int)) (by decide) rfl ?_
  intro p e s m args below meth c s₁ B hml hv
  obtain ⟨rfl, hsz, hP, hK, hD0, hnw⟩ := hv
  have hx := B.exec
  have hb := B.bytes
  have hr := B.returns
  have hts := atoms_spec (ws := wM yX6_fault cX6_fault 1 (some .int)) B.pre
  have hG : ∀ w ∈ GW, w.before (([.ref (a 0 0)] : List Value).toArray) s = true := fun w h => hts w (List.mem_cons_of_mem _ h)
  have hown : s.vm.findClass RX6 = some m.cls := findClass_of_methodNamed B.named
  have hlocks := B.notSynchronized
  subst hsz
  have hD := hD0.self (sz := s.heap.size)
  generalize hAe : va_A (cW cI a C) s.heap.size = A at hD ⊢
  have hA : ∀ q : Nat, s.heap.size ≤ q → A q := fun q h => by rw [← hAe]; exact Or.inr h
  have hS : va_S A s.heap s.heap [] := va_S.rf
  have hl := lv_entry ([.ref (a 0 0)]) (n := 1) (Nat.le_of_ble_eq_true rfl)
  rw [lg_entry_eq]
  generalize (lg_sl ([.ref (a 0 0)]) ++ List.replicate (1 - (lg_sl ([.ref (a 0 0)])).length) Slot.unset).toArray = ls at hl ⊢
  have hl : lv_has ls 1 [(0, .ref (a 0 0))] := hl
  show W p l e RM_X6_fault s m (([.ref (a 0 0)] : List Value).toArray) below meth c s.heap [] 0 0 (MQ below (QI0 D A (cW cI a C) r) (([.ref (a 0 0)] : List Value).toArray) s 0 0 A) (F0 m 0 ls [])
  refine lv_aload_n hx hb dX6_fault_0 rfl (lv_at hl 0 rfl) ?_
  refine va_get (D := D) (ci := 6) (v := .ref (a 1 0)) (C := RX6) (T := TX6) (N := 10) hx hb hG inG6 hown hK hP 0 at_C_0_0 rfl 0 (by decide) (hG _ g_224) (fun _ h9 => h9) rfl dX6_fault_1 ?_
  refine va_get (D := D) (ci := 5) (v := .int ((C 1) 0 5)) (C := RX5) (T := TX5) (N := 6) hx hb hG inG5 hown hK hP 2 at_C_1_0 rfl 5 (by decide) (hG _ g_100) (fun _ h9 => h9) rfl dX6_fault_4 ?_
  exact W.iret (v := ((C 1) 0 5)) hx hb hr (fun t ht hW => ⟨⟨((C 1) 0 5), (), rfl, Option.some.inj hf, by rw [ht]; exact hP, hD⟩, hS.F ht⟩) hS.2.2 dX6_fault_7
def f_X6_allThoughts_b17 (C : CC) (rc4 : Int32 → Int32 → Option (Int32)) (v2 : Int32) (rc17 : Int32 → Int32 → Option (Int32)) (v3 : Int32) (v4 : Int32) : Option (Int32) := (if ((C 2) 0 1) ≤ v4 then nm (v2 + (1 : Int32)) (fun (v5 : Int32) => rc4 v3 v5) else bd (f_X6_slot v2 v4) (fun (q6 : Int32) => (if inb q6 30 then nm (v3 + ((C 4) 4 (Int32.toNatClampNeg q6))) (fun (v7 : Int32) => nm (v4 + (1 : Int32)) (fun (v8 : Int32) => rc17 v7 v8)) else none)))
def f_X6_allThoughts_b4 (C : CC) (rc4 : Int32 → Int32 → Option (Int32)) (v1 : Int32) (v2 : Int32) : Option (Int32) := (if ((C 2) 0 0) ≤ v2 then some v1 else lp (fun _ _ => none : Int32 → Int32 → Option (Int32)) (f_X6_allThoughts_b17 C rc4 v2) FU v1 (0 : Int32))
def f_X6_allThoughts (C : CC) : Option (Int32) := lp (fun _ _ => none : Int32 → Int32 → Option (Int32)) (f_X6_allThoughts_b4 C) FU (0 : Int32) (0 : Int32)
abbrev RM_X6_allThoughts : Room := { frames := 1, cells := 0, slots := 0, locals := 21 }
set_option maxHeartbeats 4000000 in
set_option maxRecDepth 100000 in
theorem c_X6_allThoughts (l : Launch) (D : va_G) (cI cZ : ClassId) (a : Nat → Nat → Nat) (C : CC) (sz : Nat) {r : Int32} (hf : f_X6_allThoughts C = some r) : Met l yX6_allThoughts (wM yX6_allThoughts cX6_allThoughts 4 (some .int)) RM_X6_allThoughts (va_Pc [.ref (a 0 0)] (pre D cI cZ (cW cI a C) sz)) (QI0 D (va_A (cW cI a C) sz) (cW cI a C) r) 0 0 (va_A (cW cI a C) sz) := by
  unfold f_X6_allThoughts at hf
  refine Met.ofW (cc := cX6_allThoughts) (maxL := 4) (ret := (some .int)) (by decide) rfl ?_
  intro p e s m args below meth c s₁ B hml hv
  obtain ⟨rfl, hsz, hP, hK, hD0, hnw⟩ := hv
  have hx := B.exec
  have hb := B.bytes
  have hr := B.returns
  have hts := atoms_spec (ws := wM yX6_allThoughts cX6_allThoughts 4 (some .int)) B.pre
  have hG : ∀ w ∈ GW, w.before (([.ref (a 0 0)] : List Value).toArray) s = true := fun w h => hts w (List.mem_cons_of_mem _ h)
  have hown : s.vm.findClass RX6 = some m.cls := findClass_of_methodNamed B.named
  have hlocks := B.notSynchronized
  subst hsz
  have hD := hD0.self (sz := s.heap.size)
  generalize hAe : va_A (cW cI a C) s.heap.size = A at hD ⊢
  have hA : ∀ q : Nat, s.heap.size ≤ q → A q := fun q h => by rw [← hAe]; exact Or.inr h
  have hS : va_S A s.heap s.heap [] := va_S.rf
  have hl := lv_entry ([.ref (a 0 0)]) (n := 4) (Nat.le_of_ble_eq_true rfl)
  rw [lg_entry_eq]
  generalize (lg_sl ([.ref (a 0 0)]) ++ List.replicate (4 - (lg_sl ([.ref (a 0 0)])).length) Slot.unset).toArray = ls at hl ⊢
  have hl : lv_has ls 4 [(0, .ref (a 0 0))] := hl
  show W p l e RM_X6_allThoughts s m (([.ref (a 0 0)] : List Value).toArray) below meth c s.heap [] 0 0 (MQ below (QI0 D A (cW cI a C) r) (([.ref (a 0 0)] : List Value).toArray) s 0 0 A) (F0 m 0 ls [])
  refine lv_iconst (v := (0 : Int32)) hx hb dX6_allThoughts_0 (by decide) ?_
  refine lv_istore_n (lv' := [(1, .int (0 : Int32)), (0, .ref (a 0 0))]) hx hb dX6_allThoughts_1 rfl hl (by decide) rfl (fun ls hl => ?_)
  refine lv_iconst (v := (0 : Int32)) hx hb dX6_allThoughts_2 (by decide) ?_
  refine lv_istore_n (lv' := [(2, .int (0 : Int32)), (1, .int (0 : Int32)), (0, .ref (a 0 0))]) hx hb dX6_allThoughts_3 rfl hl (by decide) rfl (fun ls hl => ?_)
  have L4 : ∀ (n : Nat) (v1 : Int32) (v2 : Int32) (H : Heap) (locs : List Loc) (ls : Array Slot), va_P D vwCl (cW cI a C) H → va_D A (cW cI a C) → va_S A s.heap H locs → lv_has ls 4 [(0, .ref (a 0 0)), (1, .int v1), (2, .int v2)] → lp (fun _ _ => none : Int32 → Int32 → Option (Int32)) (f_X6_allThoughts_b4 C) n v1 v2 = some r → W p l e RM_X6_allThoughts s m (([.ref (a 0 0)] : List Value).toArray) below meth c H locs 0 0 (MQ below (QI0 D A (cW cI a C) r) (([.ref (a 0 0)] : List Value).toArray) s 0 0 A) (F0 m 4 ls []) := by
    intro n
    induction n with
    | zero => intro v1 v2 H locs ls _ _ _ _ hf; cases (show (none : Option (Int32)) = some r from hf)
    | succ n ih4 =>
      intro v1 v2 H locs ls hP hD hS hl hf
      have hf : (f_X6_allThoughts_b4 C) (lp (fun _ _ => none : Int32 → Int32 → Option (Int32)) (f_X6_allThoughts_b4 C) n) v1 v2 = some r := hf
      generalize lp (fun _ _ => none : Int32 → Int32 → Option (Int32)) (f_X6_allThoughts_b4 C) n = rc4 at ih4 hf
      unfold f_X6_allThoughts_b4 at hf
      refine lv_iload_n hx hb dX6_allThoughts_4 rfl (lv_at hl 2 rfl) ?_
      refine lv_aload_n hx hb dX6_allThoughts_5 rfl (lv_at hl 0 rfl) ?_
      refine va_get (D := D) (ci := 6) (v := .ref (a 2 0)) (C := RX6) (T := TX6) (N := 10) hx hb hG inG6 hown hK hP 0 at_C_0_0 rfl 1 (by decide) (hG _ g_225) (fun _ h9 => h9) rfl dX6_allThoughts_6 ?_
      refine va_get (D := D) (ci := 2) (v := .int ((C 2) 0 0)) (C := RX2) (T := TX2) (N := 18) hx hb hG inG2 hown hK hP 4 at_C_2_0 rfl 0 (by decide) (hG _ g_109) (fun _ h9 => h9) rfl dX6_allThoughts_9 ?_
      refine lv_icmp_ge (tgt := 56) hx hb dX6_allThoughts_12 (by decide) (fun cc12 => ?_) (fun cc12 => ?_)
      · have hf := if_t cc12 hf
        refine lv_iload_n hx hb dX6_allThoughts_56 rfl (lv_at hl 1 rfl) ?_
        exact W.iret (v := v1) hx hb hr (fun t ht hW => ⟨⟨v1, (), rfl, Option.some.inj hf, by rw [ht]; exact hP, hD⟩, hS.F ht⟩) hS.2.2 dX6_allThoughts_57
      · have hf := if_f cc12 hf
        refine lv_iconst (v := (0 : Int32)) hx hb dX6_allThoughts_15 (by decide) ?_
        refine lv_istore_n (lv' := [(3, .int (0 : Int32)), (0, .ref (a 0 0)), (1, .int v1), (2, .int v2)]) hx hb dX6_allThoughts_16 rfl hl (by decide) rfl (fun ls hl => ?_)
        have L17 : ∀ (n : Nat) (v3 : Int32) (v4 : Int32) (H : Heap) (locs : List Loc) (ls : Array Slot), va_P D vwCl (cW cI a C) H → va_D A (cW cI a C) → va_S A s.heap H locs → lv_has ls 4 [(0, .ref (a 0 0)), (1, .int v3), (2, .int v2), (3, .int v4)] → lp (fun _ _ => none : Int32 → Int32 → Option (Int32)) (f_X6_allThoughts_b17 C rc4 v2) n v3 v4 = some r → W p l e RM_X6_allThoughts s m (([.ref (a 0 0)] : List Value).toArray) below meth c H locs 0 0 (MQ below (QI0 D A (cW cI a C) r) (([.ref (a 0 0)] : List Value).toArray) s 0 0 A) (F0 m 17 ls []) := by
          intro n
          induction n with
          | zero => intro v3 v4 H locs ls _ _ _ _ hf; cases (show (none : Option (Int32)) = some r from hf)
          | succ n ih17 =>
            intro v3 v4 H locs ls hP hD hS hl hf
            have hf : (f_X6_allThoughts_b17 C rc4 v2) (lp (fun _ _ => none : Int32 → Int32 → Option (Int32)) (f_X6_allThoughts_b17 C rc4 v2) n) v3 v4 = some r := hf
            generalize lp (fun _ _ => none : Int32 → Int32 → Option (Int32)) (f_X6_allThoughts_b17 C rc4 v2) n = rc17 at ih17 hf
            unfold f_X6_allThoughts_b17 at hf
            refine lv_iload_n hx hb dX6_allThoughts_17 rfl (lv_at hl 3 rfl) ?_
            refine lv_aload_n hx hb dX6_allThoughts_18 rfl (lv_at hl 0 rfl) ?_
            refine va_get (D := D) (ci := 6) (v := .ref (a 2 0)) (C := RX6) (T := TX6) (N := 10) hx hb hG inG6 hown hK hP 0 at_C_0_0 rfl 1 (by decide) (hG _ g_225) (fun _ h9 => h9) rfl dX6_allThoughts_19 ?_
            refine va_get (D := D) (ci := 2) (v := .int ((C 2) 0 1)) (C := RX2) (T := TX2) (N := 18) hx hb hG inG2 hown hK hP 4 at_C_2_0 rfl 1 (by decide) (hG _ g_114) (fun _ h9 => h9) rfl dX6_allThoughts_22 ?_
            refine lv_icmp_ge (tgt := 50) hx hb dX6_allThoughts_25 (by decide) (fun cc25 => ?_) (fun cc25 => ?_)
            · have hf := if_t cc25 hf
              obtain ⟨v5, ev5⟩ : ∃ y : Int32, y = (v2 + (1 : Int32)) := ⟨_, rfl⟩
              have hf := nm_x ev5 hf
              refine lv_iinc (v := v5) (lv' := [(2, .int v5), (0, .ref (a 0 0)), (1, .int v3), (3, .int v4)]) hx hb dX6_allThoughts_50 hl (k := 2) rfl (by rw [ev5]; rfl) (by decide) rfl (fun ls hl => ?_)
              refine lv_goto (tgt := 4) hx hb dX6_allThoughts_53 (by decide) ?_
              exact ih4 v3 v5 _ _ _ hP hD hS (lv_sub hl [1, 2, 0] rfl) hf
            · have hf := if_f cc25 hf
              refine lv_iload_n hx hb dX6_allThoughts_28 rfl (lv_at hl 1 rfl) ?_
              refine lv_aload_n hx hb dX6_allThoughts_29 rfl (lv_at hl 0 rfl) ?_
              refine va_get (D := D) (ci := 6) (v := .ref (a 4 0)) (C := RX6) (T := TX6) (N := 10) hx hb hG inG6 hown hK hP 0 at_C_0_0 rfl 3 (by decide) (hG _ g_227) (fun _ h9 => h9) rfl dX6_allThoughts_30 ?_
              refine va_get (D := D) (ci := 4) (v := .ref (a 4 4)) (C := RX4) (T := TX4) (N := 7) hx hb hG inG4 hown hK hP 30 at_C_4_0 rfl 3 (by decide) (hG _ g_186) (fun _ h9 => h9) rfl dX6_allThoughts_33 ?_
              refine lv_iload_n hx hb dX6_allThoughts_36 rfl (lv_at hl 2 rfl) ?_
              refine lv_iload_n hx hb dX6_allThoughts_37 rfl (lv_at hl 3 rfl) ?_
              obtain ⟨q6, hq6, hf⟩ := bd_x hf
              have hFc := va_free (wc := []) hD hS hA [] rfl
              refine va_calli (va_runS (As := [.int v2, .int v4]) (rest := [.ref (a 4 4), .int v3]) ⟨hx, hb, hml, hown, hG⟩ (c_X6_slot l D cI cZ v2 v4 H.size hq6) (cwS 2 hG (gS g_313 g_296 g_70 g_297) rfl rfl rfl (by decide +kernel) ⟨Nat.le_of_ble_eq_true rfl, Nat.le_of_ble_eq_true rfl⟩) ⟨pre_blind, fun U hU hW => ⟨rfl, pre_of P_nil hK D_nil hnw hU hW⟩⟩ rfl rfl hl.1 rfl (lv_room (Nat.le_of_ble_eq_true rfl)) dX6_allThoughts_38 ⟨Nat.le_of_ble_eq_true rfl, Nat.le_of_ble_eq_true rfl⟩) hS (fun q _ h => hFc q h) hFc (fun v u t H locs ht hvm hw hB hz1 hk1 hS => ?_)
              have hw := hw.symm; subst hw
              obtain ⟨hP1, hD1⟩ := hB
              rw [ht] at hP1
              obtain ⟨hP, hD⟩ := back hP hD [] rfl rfl hk1 hFc hP1 hD1
              obtain ⟨hb41, hf⟩ := gd hf
              refine va_iald (cA := cI) (n := 30) (f := (C 4) 4) hx hb hK hP 34 0 at_C_4_4 rfl (inb_in hb41) dX6_allThoughts_41 ?_
              refine lv_iadd hx hb dX6_allThoughts_42 ?_
              refine lv_topi (fun v7 ev7 => ?_)
              have hf := nm_x ev7 hf
              refine lv_istore_n (lv' := [(1, .int v7), (0, .ref (a 0 0)), (2, .int v2), (3, .int v4)]) hx hb dX6_allThoughts_43 rfl hl (by decide) rfl (fun ls hl => ?_)
              obtain ⟨v8, ev8⟩ : ∃ y : Int32, y = (v4 + (1 : Int32)) := ⟨_, rfl⟩
              have hf := nm_x ev8 hf
              refine lv_iinc (v := v8) (lv' := [(3, .int v8), (1, .int v7), (0, .ref (a 0 0)), (2, .int v2)]) hx hb dX6_allThoughts_44 hl (k := 3) rfl (by rw [ev8]; rfl) (by decide) rfl (fun ls hl => ?_)
              refine lv_goto (tgt := 17) hx hb dX6_allThoughts_47 (by decide) ?_
              exact ih17 v7 v8 _ _ _ hP hD hS (lv_sub hl [2, 1, 3, 0] rfl) hf
        exact L17 FU v1 (0 : Int32) _ _ _ hP hD hS (lv_sub hl [1, 2, 3, 0] rfl) hf
  exact L4 FU (0 : Int32) (0 : Int32) _ _ _ hP hD hS (lv_sub hl [2, 1, 0] rfl) hf
def f_X6_told (C : CC) (p1 : Int32) : Option (Int32) := (if p1 = (0 : Int32) then some ((C 2) 0 0) else (if p1 = (1 : Int32) then some ((C 2) 0 1) else (if p1 = (2 : Int32) then some ((C 2) 0 2) else (if p1 = (3 : Int32) then some ((C 2) 0 3) else (if p1 = (4 : Int32) then some ((C 2) 0 4) else (if p1 = (5 : Int32) then some ((C 1) 0 1) else (if p1 = (6 : Int32) then some ((C 4) 0 4) else (if p1 = (7 : Int32) then bd (f_X6_allThoughts C) (fun (q1 : Int32) => some q1) else (if p1 = (8 : Int32) then some ((C 7) 0 2) else some (-1000000002 : Int32))))))))))
abbrev RM_X6_told : Room := { frames := 2, cells := 0, slots := 0, locals := 44 }
set_option maxHeartbeats 4000000 in
set_option maxRecDepth 100000 in
theorem c_X6_told (l : Launch) (D : va_G) (cI cZ : ClassId) (a : Nat → Nat → Nat) (C : CC) (p1 : Int32) (sz : Nat) {r : Int32} (hf : f_X6_told C p1 = some r) : Met l yX6_told (wM yX6_told cX6_told 2 (some .int)) RM_X6_told (va_Pc [.ref (a 0 0), .int p1] (pre D cI cZ (cW cI a C) sz)) (QI0 D (va_A (cW cI a C) sz) (cW cI a C) r) 0 0 (va_A (cW cI a C) sz) := by
  unfold f_X6_told at hf
  refine Met.ofW (cc := cX6_told) (maxL := 2) (ret := (some .int)) (by decide) rfl ?_
  intro p e s m args below meth c s₁ B hml hv
  obtain ⟨rfl, hsz, hP, hK, hD0, hnw⟩ := hv
  have hx := B.exec
  have hb := B.bytes
  have hr := B.returns
  have hts := atoms_spec (ws := wM yX6_told cX6_told 2 (some .int)) B.pre
  have hG : ∀ w ∈ GW, w.before (([.ref (a 0 0), .int p1] : List Value).toArray) s = true := fun w h => hts w (List.mem_cons_of_mem _ h)
  have hown : s.vm.findClass RX6 = some m.cls := findClass_of_methodNamed B.named
  have hlocks := B.notSynchronized
  subst hsz
  have hD := hD0.self (sz := s.heap.size)
  generalize hAe : va_A (cW cI a C) s.heap.size = A at hD ⊢
  have hA : ∀ q : Nat, s.heap.size ≤ q → A q := fun q h => by rw [← hAe]; exact Or.inr h
  have hS : va_S A s.heap s.heap [] := va_S.rf
  have hl := lv_entry ([.ref (a 0 0), .int p1]) (n := 2) (Nat.le_of_ble_eq_true rfl)
  rw [lg_entry_eq]
  generalize (lg_sl ([.ref (a 0 0), .int p1]) ++ List.replicate (2 - (lg_sl ([.ref (a 0 0), .int p1])).length) Slot.unset).toArray = ls at hl ⊢
  have hl : lv_has ls 2 [(0, .ref (a 0 0)), (1, .int p1)] := hl
  show W p l e RM_X6_told s m (([.ref (a 0 0), .int p1] : List Value).toArray) below meth c s.heap [] 0 0 (MQ below (QI0 D A (cW cI a C) r) (([.ref (a 0 0), .int p1] : List Value).toArray) s 0 0 A) (F0 m 0 ls [])
  refine lv_iload_n hx hb dX6_told_0 rfl (lv_at hl 1 rfl) ?_
  by_cases sw0 : p1 = (0 : Int32)
  · have hf := if_t sw0 hf
    refine lv_tabK (tgt := 52) (k := (0 : Int32)) hx hb dX6_told_1 sw0 (by decide) (by decide) rfl (by decide) ?_
    refine lv_aload_n hx hb dX6_told_52 rfl (lv_at hl 0 rfl) ?_
    refine va_get (D := D) (ci := 6) (v := .ref (a 2 0)) (C := RX6) (T := TX6) (N := 10) hx hb hG inG6 hown hK hP 0 at_C_0_0 rfl 1 (by decide) (hG _ g_225) (fun _ h9 => h9) rfl dX6_told_53 ?_
    refine va_get (D := D) (ci := 2) (v := .int ((C 2) 0 0)) (C := RX2) (T := TX2) (N := 18) hx hb hG inG2 hown hK hP 4 at_C_2_0 rfl 0 (by decide) (hG _ g_109) (fun _ h9 => h9) rfl dX6_told_56 ?_
    exact W.iret (v := ((C 2) 0 0)) hx hb hr (fun t ht hW => ⟨⟨((C 2) 0 0), (), rfl, Option.some.inj hf, by rw [ht]; exact hP, hD⟩, hS.F ht⟩) hS.2.2 dX6_told_59
  · have hf := if_f sw0 hf
    by_cases sw1 : p1 = (1 : Int32)
    · have hf := if_t sw1 hf
      refine lv_tabK (tgt := 60) (k := (1 : Int32)) hx hb dX6_told_1 sw1 (by decide) (by decide) rfl (by decide) ?_
      refine lv_aload_n hx hb dX6_told_60 rfl (lv_at hl 0 rfl) ?_
      refine va_get (D := D) (ci := 6) (v := .ref (a 2 0)) (C := RX6) (T := TX6) (N := 10) hx hb hG inG6 hown hK hP 0 at_C_0_0 rfl 1 (by decide) (hG _ g_225) (fun _ h9 => h9) rfl dX6_told_61 ?_
      refine va_get (D := D) (ci := 2) (v := .int ((C 2) 0 1)) (C := RX2) (T := TX2) (N := 18) hx hb hG inG2 hown hK hP 4 at_C_2_0 rfl 1 (by decide) (hG _ g_114) (fun _ h9 => h9) rfl dX6_told_64 ?_
      exact W.iret (v := ((C 2) 0 1)) hx hb hr (fun t ht hW => ⟨⟨((C 2) 0 1), (), rfl, Option.some.inj hf, by rw [ht]; exact hP, hD⟩, hS.F ht⟩) hS.2.2 dX6_told_67
    · have hf := if_f sw1 hf
      by_cases sw2 : p1 = (2 : Int32)
      · have hf := if_t sw2 hf
        refine lv_tabK (tgt := 68) (k := (2 : Int32)) hx hb dX6_told_1 sw2 (by decide) (by decide) rfl (by decide) ?_
        refine lv_aload_n hx hb dX6_told_68 rfl (lv_at hl 0 rfl) ?_
        refine va_get (D := D) (ci := 6) (v := .ref (a 2 0)) (C := RX6) (T := TX6) (N := 10) hx hb hG inG6 hown hK hP 0 at_C_0_0 rfl 1 (by decide) (hG _ g_225) (fun _ h9 => h9) rfl dX6_told_69 ?_
        refine va_get (D := D) (ci := 2) (v := .int ((C 2) 0 2)) (C := RX2) (T := TX2) (N := 18) hx hb hG inG2 hown hK hP 4 at_C_2_0 rfl 2 (by decide) (hG _ g_117) (fun _ h9 => h9) rfl dX6_told_72 ?_
        exact W.iret (v := ((C 2) 0 2)) hx hb hr (fun t ht hW => ⟨⟨((C 2) 0 2), (), rfl, Option.some.inj hf, by rw [ht]; exact hP, hD⟩, hS.F ht⟩) hS.2.2 dX6_told_75
      · have hf := if_f sw2 hf
        by_cases sw3 : p1 = (3 : Int32)
        · have hf := if_t sw3 hf
          refine lv_tabK (tgt := 76) (k := (3 : Int32)) hx hb dX6_told_1 sw3 (by decide) (by decide) rfl (by decide) ?_
          refine lv_aload_n hx hb dX6_told_76 rfl (lv_at hl 0 rfl) ?_
          refine va_get (D := D) (ci := 6) (v := .ref (a 2 0)) (C := RX6) (T := TX6) (N := 10) hx hb hG inG6 hown hK hP 0 at_C_0_0 rfl 1 (by decide) (hG _ g_225) (fun _ h9 => h9) rfl dX6_told_77 ?_
          refine va_get (D := D) (ci := 2) (v := .int ((C 2) 0 3)) (C := RX2) (T := TX2) (N := 18) hx hb hG inG2 hown hK hP 4 at_C_2_0 rfl 3 (by decide) (hG _ g_121) (fun _ h9 => h9) rfl dX6_told_80 ?_
          exact W.iret (v := ((C 2) 0 3)) hx hb hr (fun t ht hW => ⟨⟨((C 2) 0 3), (), rfl, Option.some.inj hf, by rw [ht]; exact hP, hD⟩, hS.F ht⟩) hS.2.2 dX6_told_83
        · have hf := if_f sw3 hf
          by_cases sw4 : p1 = (4 : Int32)
          · have hf := if_t sw4 hf
            refine lv_tabK (tgt := 84) (k := (4 : Int32)) hx hb dX6_told_1 sw4 (by decide) (by decide) rfl (by decide) ?_
            refine lv_aload_n hx hb dX6_told_84 rfl (lv_at hl 0 rfl) ?_
            refine va_get (D := D) (ci := 6) (v := .ref (a 2 0)) (C := RX6) (T := TX6) (N := 10) hx hb hG inG6 hown hK hP 0 at_C_0_0 rfl 1 (by decide) (hG _ g_225) (fun _ h9 => h9) rfl dX6_told_85 ?_
            refine va_get (D := D) (ci := 2) (v := .int ((C 2) 0 4)) (C := RX2) (T := TX2) (N := 18) hx hb hG inG2 hown hK hP 4 at_C_2_0 rfl 4 (by decide) (hG _ g_124) (fun _ h9 => h9) rfl dX6_told_88 ?_
            exact W.iret (v := ((C 2) 0 4)) hx hb hr (fun t ht hW => ⟨⟨((C 2) 0 4), (), rfl, Option.some.inj hf, by rw [ht]; exact hP, hD⟩, hS.F ht⟩) hS.2.2 dX6_told_91
          · have hf := if_f sw4 hf
            by_cases sw5 : p1 = (5 : Int32)
            · have hf := if_t sw5 hf
              refine lv_tabK (tgt := 92) (k := (5 : Int32)) hx hb dX6_told_1 sw5 (by decide) (by decide) rfl (by decide) ?_
              refine lv_aload_n hx hb dX6_told_92 rfl (lv_at hl 0 rfl) ?_
              refine va_get (D := D) (ci := 6) (v := .ref (a 1 0)) (C := RX6) (T := TX6) (N := 10) hx hb hG inG6 hown hK hP 0 at_C_0_0 rfl 0 (by decide) (hG _ g_224) (fun _ h9 => h9) rfl dX6_told_93 ?_
              refine va_get (D := D) (ci := 5) (v := .int ((C 1) 0 1)) (C := RX5) (T := TX5) (N := 6) hx hb hG inG5 hown hK hP 2 at_C_1_0 rfl 1 (by decide) (hG _ g_95) (fun _ h9 => h9) rfl dX6_told_96 ?_
              exact W.iret (v := ((C 1) 0 1)) hx hb hr (fun t ht hW => ⟨⟨((C 1) 0 1), (), rfl, Option.some.inj hf, by rw [ht]; exact hP, hD⟩, hS.F ht⟩) hS.2.2 dX6_told_99
            · have hf := if_f sw5 hf
              by_cases sw6 : p1 = (6 : Int32)
              · have hf := if_t sw6 hf
                refine lv_tabK (tgt := 100) (k := (6 : Int32)) hx hb dX6_told_1 sw6 (by decide) (by decide) rfl (by decide) ?_
                refine lv_aload_n hx hb dX6_told_100 rfl (lv_at hl 0 rfl) ?_
                refine va_get (D := D) (ci := 6) (v := .ref (a 4 0)) (C := RX6) (T := TX6) (N := 10) hx hb hG inG6 hown hK hP 0 at_C_0_0 rfl 3 (by decide) (hG _ g_227) (fun _ h9 => h9) rfl dX6_told_101 ?_
                refine va_get (D := D) (ci := 4) (v := .int ((C 4) 0 4)) (C := RX4) (T := TX4) (N := 7) hx hb hG inG4 hown hK hP 30 at_C_4_0 rfl 4 (by decide) (hG _ g_188) (fun _ h9 => h9) rfl dX6_told_104 ?_
                exact W.iret (v := ((C 4) 0 4)) hx hb hr (fun t ht hW => ⟨⟨((C 4) 0 4), (), rfl, Option.some.inj hf, by rw [ht]; exact hP, hD⟩, hS.F ht⟩) hS.2.2 dX6_told_107
              · have hf := if_f sw6 hf
                by_cases sw7 : p1 = (7 : Int32)
                · have hf := if_t sw7 hf
                  refine lv_tabK (tgt := 108) (k := (7 : Int32)) hx hb dX6_told_1 sw7 (by decide) (by decide) rfl (by decide) ?_
                  refine lv_aload_n hx hb dX6_told_108 rfl (lv_at hl 0 rfl) ?_
                  obtain ⟨q1, hq1, hf⟩ := bd_x hf
                  have hFc := freeS hD hS hA
                  refine va_calli (va_runV (As := []) (rest := []) ⟨hx, hb, hml, hown, hG⟩ (c_X6_allThoughts l D cI cZ a C s.heap.size hq1) (cwV 0 hG (gV g_310 g_311 g_12 g_70 g_312) rfl rfl rfl (by decide +kernel) ⟨Nat.le_of_ble_eq_true rfl, Nat.le_of_ble_eq_true rfl⟩) ⟨pre_blind, va_recv hK hP (ci := 6) (q0 := 0) rfl rfl, fun U hU hW => ⟨rfl, pre_of hP hK hD hnw hU hW⟩⟩ rfl rfl hl.1 rfl (lv_room (Nat.le_of_ble_eq_true rfl)) dX6_told_109 ⟨Nat.le_of_ble_eq_true rfl, Nat.le_of_ble_eq_true rfl⟩) hS (fun q _ h => hFc q h) hFc (fun v u t H locs ht hvm hw hB hz1 hk1 hS => ?_)
                  have hw := hw.symm; subst hw
                  obtain ⟨hP1, hD1⟩ := hB
                  rw [ht] at hP1
                  have hP := hP1
                  have hD := hD1.weaken (fun _ q _ h => hFc q.1 h)
                  exact W.iret (v := q1) hx hb hr (fun t ht hW => ⟨⟨q1, (), rfl, Option.some.inj hf, by rw [ht]; exact hP, hD⟩, hS.F ht⟩) hS.2.2 dX6_told_112
                · have hf := if_f sw7 hf
                  by_cases sw8 : p1 = (8 : Int32)
                  · have hf := if_t sw8 hf
                    refine lv_tabK (tgt := 113) (k := (8 : Int32)) hx hb dX6_told_1 sw8 (by decide) (by decide) rfl (by decide) ?_
                    refine lv_aload_n hx hb dX6_told_113 rfl (lv_at hl 0 rfl) ?_
                    refine va_get (D := D) (ci := 6) (v := .ref (a 7 0)) (C := RX6) (T := TX6) (N := 10) hx hb hG inG6 hown hK hP 0 at_C_0_0 rfl 6 (by decide) (hG _ g_230) (fun _ h9 => h9) rfl dX6_told_114 ?_
                    refine va_get (D := D) (ci := 1) (v := .int ((C 7) 0 2)) (C := RX1) (T := TX1) (N := 3) hx hb hG inG1 hown hK hP 45 at_C_7_0 rfl 2 (by decide) (hG _ g_201) (fun _ h9 => h9) rfl dX6_told_117 ?_
                    exact W.iret (v := ((C 7) 0 2)) hx hb hr (fun t ht hW => ⟨⟨((C 7) 0 2), (), rfl, Option.some.inj hf, by rw [ht]; exact hP, hD⟩, hS.F ht⟩) hS.2.2 dX6_told_120
                  · have hf := if_f sw8 hf
                    refine lv_tableOut (tgt := 121) hx hb dX6_told_1 (by have z0 := lv_neT (k := (0 : Int32)) (a := 0) sw0 rfl; have z1 := lv_neT (k := (1 : Int32)) (a := 1) sw1 rfl; have z2 := lv_neT (k := (2 : Int32)) (a := 2) sw2 rfl; have z3 := lv_neT (k := (3 : Int32)) (a := 3) sw3 rfl; have z4 := lv_neT (k := (4 : Int32)) (a := 4) sw4 rfl; have z5 := lv_neT (k := (5 : Int32)) (a := 5) sw5 rfl; have z6 := lv_neT (k := (6 : Int32)) (a := 6) sw6 rfl; have z7 := lv_neT (k := (7 : Int32)) (a := 7) sw7 rfl; have z8 := lv_neT (k := (8 : Int32)) (a := 8) sw8 rfl; omega) (by decide) ?_
                    refine lv_ldc hx hb hown (hG _ g_238) dX6_told_121 ?_
                    exact W.iret (v := (-1000000002 : Int32)) hx hb hr (fun t ht hW => ⟨⟨(-1000000002 : Int32), (), rfl, Option.some.inj hf, by rw [ht]; exact hP, hD⟩, hS.F ht⟩) hS.2.2 dX6_told_123
def f_X6_isFighter_j19   : Option (Int32) := some (0 : Int32)
def f_X6_isFighter (C : CC) (p1 : Int32) : Option (Int32) := (if p1 < 0 then f_X6_isFighter_j19 else (if ((C 2) 0 1) ≤ p1 then f_X6_isFighter_j19 else some (1 : Int32)))
abbrev RM_X6_isFighter : Room := { frames := 0, cells := 0, slots := 0, locals := 0 }
set_option maxHeartbeats 4000000 in
set_option maxRecDepth 100000 in
theorem c_X6_isFighter (l : Launch) (D : va_G) (cI cZ : ClassId) (a : Nat → Nat → Nat) (C : CC) (p1 : Int32) (sz : Nat) {r : Int32} (hf : f_X6_isFighter C p1 = some r) : Met l yX6_isFighter (wM yX6_isFighter cX6_isFighter 2 (some .boolean)) RM_X6_isFighter (va_Pc [.ref (a 0 0), .int p1] (pre D cI cZ (cW cI a C) sz)) (QI0 D (va_A (cW cI a C) sz) (cW cI a C) r) 0 0 (va_A (cW cI a C) sz) := by
  unfold f_X6_isFighter at hf
  refine Met.ofW (cc := cX6_isFighter) (maxL := 2) (ret := (some .boolean)) (by decide) rfl ?_
  intro p e s m args below meth c s₁ B hml hv
  obtain ⟨rfl, hsz, hP, hK, hD0, hnw⟩ := hv
  have hx := B.exec
  have hb := B.bytes
  have hr := B.returns
  have hts := atoms_spec (ws := wM yX6_isFighter cX6_isFighter 2 (some .boolean)) B.pre
  have hG : ∀ w ∈ GW, w.before (([.ref (a 0 0), .int p1] : List Value).toArray) s = true := fun w h => hts w (List.mem_cons_of_mem _ h)
  have hown : s.vm.findClass RX6 = some m.cls := findClass_of_methodNamed B.named
  have hlocks := B.notSynchronized
  subst hsz
  have hD := hD0.self (sz := s.heap.size)
  generalize hAe : va_A (cW cI a C) s.heap.size = A at hD ⊢
  have hA : ∀ q : Nat, s.heap.size ≤ q → A q := fun q h => by rw [← hAe]; exact Or.inr h
  have hS : va_S A s.heap s.heap [] := va_S.rf
  have hl := lv_entry ([.ref (a 0 0), .int p1]) (n := 2) (Nat.le_of_ble_eq_true rfl)
  rw [lg_entry_eq]
  generalize (lg_sl ([.ref (a 0 0), .int p1]) ++ List.replicate (2 - (lg_sl ([.ref (a 0 0), .int p1])).length) Slot.unset).toArray = ls at hl ⊢
  have hl : lv_has ls 2 [(0, .ref (a 0 0)), (1, .int p1)] := hl
  show W p l e RM_X6_isFighter s m (([.ref (a 0 0), .int p1] : List Value).toArray) below meth c s.heap [] 0 0 (MQ below (QI0 D A (cW cI a C) r) (([.ref (a 0 0), .int p1] : List Value).toArray) s 0 0 A) (F0 m 0 ls [])
  refine lv_iload_n hx hb dX6_isFighter_0 rfl (lv_at hl 1 rfl) ?_
  have J19 : ∀  (H : Heap) (locs : List Loc) (ls : Array Slot), va_P D vwCl (cW cI a C) H → va_D A (cW cI a C) → va_S A s.heap H locs → lv_has ls 2 [] → f_X6_isFighter_j19  = some r → W p l e RM_X6_isFighter s m (([.ref (a 0 0), .int p1] : List Value).toArray) below meth c H locs 0 0 (MQ below (QI0 D A (cW cI a C) r) (([.ref (a 0 0), .int p1] : List Value).toArray) s 0 0 A) (F0 m 19 ls []) := by
    intro  H locs ls hP hD hS hl hf
    unfold f_X6_isFighter_j19 at hf
    refine lv_iconst (v := (0 : Int32)) hx hb dX6_isFighter_19 (by decide) ?_
    exact W.zret (v := (0 : Int32)) hx hb hr (by decide) (fun t ht hW => ⟨⟨(0 : Int32), (), rfl, Option.some.inj hf, by rw [ht]; exact hP, hD⟩, hS.F ht⟩) hS.2.2 dX6_isFighter_20
  refine lv_if_lt (tgt := 19) hx hb dX6_isFighter_1 (by decide) (fun cc1 => ?_) (fun cc1 => ?_)
  · have hf := if_t cc1 hf
    exact J19  _ _ _ hP hD hS (lv_sub hl [] rfl) hf
  · have hf := if_f cc1 hf
    refine lv_iload_n hx hb dX6_isFighter_4 rfl (lv_at hl 1 rfl) ?_
    refine lv_aload_n hx hb dX6_isFighter_5 rfl (lv_at hl 0 rfl) ?_
    refine va_get (D := D) (ci := 6) (v := .ref (a 2 0)) (C := RX6) (T := TX6) (N := 10) hx hb hG inG6 hown hK hP 0 at_C_0_0 rfl 1 (by decide) (hG _ g_225) (fun _ h9 => h9) rfl dX6_isFighter_6 ?_
    refine va_get (D := D) (ci := 2) (v := .int ((C 2) 0 1)) (C := RX2) (T := TX2) (N := 18) hx hb hG inG2 hown hK hP 4 at_C_2_0 rfl 1 (by decide) (hG _ g_114) (fun _ h9 => h9) rfl dX6_isFighter_9 ?_
    refine lv_icmp_ge (tgt := 19) hx hb dX6_isFighter_12 (by decide) (fun cc12 => ?_) (fun cc12 => ?_)
    · have hf := if_t cc12 hf
      exact J19  _ _ _ hP hD hS (lv_sub hl [] rfl) hf
    · have hf := if_f cc12 hf
      refine lv_iconst (v := (1 : Int32)) hx hb dX6_isFighter_15 (by decide) ?_
      refine lv_goto (tgt := 20) hx hb dX6_isFighter_16 (by decide) ?_
      exact W.zret (v := (1 : Int32)) hx hb hr (by decide) (fun t ht hW => ⟨⟨(1 : Int32), (), rfl, Option.some.inj hf, by rw [ht]; exact hP, hD⟩, hS.F ht⟩) hS.2.2 dX6_isFighter_20
def f_X6_readsNow (C : CC) (p1 : Int32) : Option (Int32) := (if inb p1 5 then bd (f_X2_readsAs (C 2) p1 ((C 4) 1 (Int32.toNatClampNeg p1))) (fun (q1 : Int32) => some q1) else none)
abbrev RM_X6_readsNow : Room := { frames := 2, cells := 0, slots := 0, locals := 43 }
set_option maxHeartbeats 4000000 in
set_option maxRecDepth 100000 in
theorem c_X6_readsNow (l : Launch) (D : va_G) (cI cZ : ClassId) (a : Nat → Nat → Nat) (C : CC) (p1 : Int32) (sz : Nat) {r : Int32} (hf : f_X6_readsNow C p1 = some r) : Met l yX6_readsNow (wM yX6_readsNow cX6_readsNow 2 (some .int)) RM_X6_readsNow (va_Pc [.ref (a 0 0), .int p1] (pre D cI cZ (cW cI a C) sz)) (QI0 D (va_A (cW cI a C) sz) (cW cI a C) r) 0 0 (va_A (cW cI a C) sz) := by
  unfold f_X6_readsNow at hf
  refine Met.ofW (cc := cX6_readsNow) (maxL := 2) (ret := (some .int)) (by decide) rfl ?_
  intro p e s m args below meth c s₁ B hml hv
  obtain ⟨rfl, hsz, hP, hK, hD0, hnw⟩ := hv
  have hx := B.exec
  have hb := B.bytes
  have hr := B.returns
  have hts := atoms_spec (ws := wM yX6_readsNow cX6_readsNow 2 (some .int)) B.pre
  have hG : ∀ w ∈ GW, w.before (([.ref (a 0 0), .int p1] : List Value).toArray) s = true := fun w h => hts w (List.mem_cons_of_mem _ h)
  have hown : s.vm.findClass RX6 = some m.cls := findClass_of_methodNamed B.named
  have hlocks := B.notSynchronized
  subst hsz
  have hD := hD0.self (sz := s.heap.size)
  generalize hAe : va_A (cW cI a C) s.heap.size = A at hD ⊢
  have hA : ∀ q : Nat, s.heap.size ≤ q → A q := fun q h => by rw [← hAe]; exact Or.inr h
  have hS : va_S A s.heap s.heap [] := va_S.rf
  have hl := lv_entry ([.ref (a 0 0), .int p1]) (n := 2) (Nat.le_of_ble_eq_true rfl)
  rw [lg_entry_eq]
  generalize (lg_sl ([.ref (a 0 0), .int p1]) ++ List.replicate (2 - (lg_sl ([.ref (a 0 0), .int p1])).length) Slot.unset).toArray = ls at hl ⊢
  have hl : lv_has ls 2 [(0, .ref (a 0 0)), (1, .int p1)] := hl
  show W p l e RM_X6_readsNow s m (([.ref (a 0 0), .int p1] : List Value).toArray) below meth c s.heap [] 0 0 (MQ below (QI0 D A (cW cI a C) r) (([.ref (a 0 0), .int p1] : List Value).toArray) s 0 0 A) (F0 m 0 ls [])
  refine lv_aload_n hx hb dX6_readsNow_0 rfl (lv_at hl 0 rfl) ?_
  refine va_get (D := D) (ci := 6) (v := .ref (a 2 0)) (C := RX6) (T := TX6) (N := 10) hx hb hG inG6 hown hK hP 0 at_C_0_0 rfl 1 (by decide) (hG _ g_225) (fun _ h9 => h9) rfl dX6_readsNow_1 ?_
  refine lv_iload_n hx hb dX6_readsNow_4 rfl (lv_at hl 1 rfl) ?_
  refine lv_aload_n hx hb dX6_readsNow_5 rfl (lv_at hl 0 rfl) ?_
  refine va_get (D := D) (ci := 6) (v := .ref (a 4 0)) (C := RX6) (T := TX6) (N := 10) hx hb hG inG6 hown hK hP 0 at_C_0_0 rfl 3 (by decide) (hG _ g_227) (fun _ h9 => h9) rfl dX6_readsNow_6 ?_
  refine va_get (D := D) (ci := 4) (v := .ref (a 4 1)) (C := RX4) (T := TX4) (N := 7) hx hb hG inG4 hown hK hP 30 at_C_4_0 rfl 0 (by decide) (hG _ g_175) (fun _ h9 => h9) rfl dX6_readsNow_9 ?_
  refine lv_iload_n hx hb dX6_readsNow_12 rfl (lv_at hl 1 rfl) ?_
  obtain ⟨hb13, hf⟩ := gd hf
  refine va_iald (cA := cI) (n := 5) (f := (C 4) 1) hx hb hK hP 31 0 at_C_4_1 rfl (inb_in hb13) dX6_readsNow_13 ?_
  obtain ⟨q1, hq1, hf⟩ := bd_x hf
  have hPc := subP [4, 5, 6, 7, 8, 9, 10, 11, 12, 13, 14, 15, 16] sub_C_L_2 hP
  have hDc := va_D.sub hD [4, 5, 6, 7, 8, 9, 10, 11, 12, 13, 14, 15, 16] rfl sub_C_L_2
  have hFc := va_free hD hS hA [4, 5, 6, 7, 8, 9, 10, 11, 12, 13, 14, 15, 16] sub_C_L_2
  refine va_calli (va_runV (As := [.int p1, .int ((C 4) 1 (Int32.toNatClampNeg p1))]) (rest := []) ⟨hx, hb, hml, hown, hG⟩ (c_X2_readsAs l D cI cZ (a 2) (C 2) p1 ((C 4) 1 (Int32.toNatClampNeg p1)) s.heap.size hq1) (cwV 2 hG (gV g_325 g_326 g_327 g_72 g_328) rfl rfl rfl (by decide +kernel) ⟨Nat.le_of_ble_eq_true rfl, Nat.le_of_ble_eq_true rfl⟩) ⟨pre_blind, va_recv hK hPc (ci := 2) (q0 := 0) rfl rfl, fun U hU hW => ⟨rfl, pre_of hPc hK hDc hnw hU hW⟩⟩ rfl rfl hl.1 rfl (lv_room (Nat.le_of_ble_eq_true rfl)) dX6_readsNow_14 ⟨Nat.le_of_ble_eq_true rfl, Nat.le_of_ble_eq_true rfl⟩) hS (fun q _ h => hFc q h) hFc (fun v u t H locs ht hvm hw hB hz1 hk1 hS => ?_)
  have hw := hw.symm; subst hw
  obtain ⟨hP1, hD1⟩ := hB
  rw [ht] at hP1
  obtain ⟨hP, hD⟩ := back hP hD [4, 5, 6, 7, 8, 9, 10, 11, 12, 13, 14, 15, 16] sub_C_L_2 rfl hk1 hFc hP1 hD1
  have hP := wP put_C_L_2_ hP
  have hD := wD put_C_L_2_ hD
  exact W.iret (v := q1) hx hb hr (fun t ht hW => ⟨⟨q1, (), rfl, Option.some.inj hf, by rw [ht]; exact hP, hD⟩, hS.F ht⟩) hS.2.2 dX6_readsNow_17
def f_X6_fighter (C : CC) (p1 : Int32) (p2 : Int32) : Option (Int32) := bd (f_X6_isFighter C p1) (fun (q1 : Int32) => (if q1 = 0 then some (-1000000001 : Int32) else (if p2 = (0 : Int32) then (if inb p1 5 then some ((C 2) 1 (Int32.toNatClampNeg p1)) else none) else (if p2 = (1 : Int32) then (if inb p1 5 then some ((C 2) 2 (Int32.toNatClampNeg p1)) else none) else (if p2 = (2 : Int32) then (if inb p1 5 then some ((C 4) 1 (Int32.toNatClampNeg p1)) else none) else (if p2 = (3 : Int32) then bd (f_X6_readsNow C p1) (fun (q2 : Int32) => some q2) else (if p2 = (4 : Int32) then (if inb p1 5 then some ((C 4) 2 (Int32.toNatClampNeg p1)) else none) else (if p2 = (5 : Int32) then (if inb p1 5 then some ((C 4) 3 (Int32.toNatClampNeg p1)) else none) else (if p2 = (6 : Int32) then (if inb p1 5 then bd (f_X2_worthOf (C 2) ((C 4) 2 (Int32.toNatClampNeg p1))) (fun (q3 : Int32) => some q3) else none) else some (-1000000002 : Int32))))))))))
abbrev RM_X6_fighter : Room := { frames := 3, cells := 0, slots := 0, locals := 66 }
set_option maxHeartbeats 4000000 in
set_option maxRecDepth 100000 in
theorem c_X6_fighter (l : Launch) (D : va_G) (cI cZ : ClassId) (a : Nat → Nat → Nat) (C : CC) (p1 : Int32) (p2 : Int32) (sz : Nat) {r : Int32} (hf : f_X6_fighter C p1 p2 = some r) : Met l yX6_fighter (wM yX6_fighter cX6_fighter 3 (some .int)) RM_X6_fighter (va_Pc [.ref (a 0 0), .int p1, .int p2] (pre D cI cZ (cW cI a C) sz)) (QI0 D (va_A (cW cI a C) sz) (cW cI a C) r) 0 0 (va_A (cW cI a C) sz) := by
  unfold f_X6_fighter at hf
  refine Met.ofW (cc := cX6_fighter) (maxL := 3) (ret := (some .int)) (by decide) rfl ?_
  intro p e s m args below meth c s₁ B hml hv
  obtain ⟨rfl, hsz, hP, hK, hD0, hnw⟩ := hv
  have hx := B.exec
  have hb := B.bytes
  have hr := B.returns
  have hts := atoms_spec (ws := wM yX6_fighter cX6_fighter 3 (some .int)) B.pre
  have hG : ∀ w ∈ GW, w.before (([.ref (a 0 0), .int p1, .int p2] : List Value).toArray) s = true := fun w h => hts w (List.mem_cons_of_mem _ h)
  have hown : s.vm.findClass RX6 = some m.cls := findClass_of_methodNamed B.named
  have hlocks := B.notSynchronized
  subst hsz
  have hD := hD0.self (sz := s.heap.size)
  generalize hAe : va_A (cW cI a C) s.heap.size = A at hD ⊢
  have hA : ∀ q : Nat, s.heap.size ≤ q → A q := fun q h => by rw [← hAe]; exact Or.inr h
  have hS : va_S A s.heap s.heap [] := va_S.rf
  have hl := lv_entry ([.ref (a 0 0), .int p1, .int p2]) (n := 3) (Nat.le_of_ble_eq_true rfl)
  rw [lg_entry_eq]
  generalize (lg_sl ([.ref (a 0 0), .int p1, .int p2]) ++ List.replicate (3 - (lg_sl ([.ref (a 0 0), .int p1, .int p2])).length) Slot.unset).toArray = ls at hl ⊢
  have hl : lv_has ls 3 [(0, .ref (a 0 0)), (1, .int p1), (2, .int p2)] := hl
  show W p l e RM_X6_fighter s m (([.ref (a 0 0), .int p1, .int p2] : List Value).toArray) below meth c s.heap [] 0 0 (MQ below (QI0 D A (cW cI a C) r) (([.ref (a 0 0), .int p1, .int p2] : List Value).toArray) s 0 0 A) (F0 m 0 ls [])
  refine lv_aload_n hx hb dX6_fighter_0 rfl (lv_at hl 0 rfl) ?_
  refine lv_iload_n hx hb dX6_fighter_1 rfl (lv_at hl 1 rfl) ?_
  obtain ⟨q1, hq1, hf⟩ := bd_x hf
  have hFc := freeS hD hS hA
  refine va_calli (va_runV (As := [.int p1]) (rest := []) ⟨hx, hb, hml, hown, hG⟩ (c_X6_isFighter l D cI cZ a C p1 s.heap.size hq1) (cwV 1 hG (gV g_318 g_319 g_13 g_70 g_320) rfl rfl rfl (by decide +kernel) ⟨Nat.le_of_ble_eq_true rfl, Nat.le_of_ble_eq_true rfl⟩) ⟨pre_blind, va_recv hK hP (ci := 6) (q0 := 0) rfl rfl, fun U hU hW => ⟨rfl, pre_of hP hK hD hnw hU hW⟩⟩ rfl rfl hl.1 rfl (lv_room (Nat.le_of_ble_eq_true rfl)) dX6_fighter_2 ⟨Nat.le_of_ble_eq_true rfl, Nat.le_of_ble_eq_true rfl⟩) hS (fun q _ h => hFc q h) hFc (fun v u t H locs ht hvm hw hB hz1 hk1 hS => ?_)
  have hw := hw.symm; subst hw
  obtain ⟨hP1, hD1⟩ := hB
  rw [ht] at hP1
  have hP := hP1
  have hD := hD1.weaken (fun _ q _ h => hFc q.1 h)
  refine lv_if_ne (tgt := 11) hx hb dX6_fighter_5 (by decide) (fun cc5 => ?_) (fun cc5 => ?_)
  · have hf := if_f cc5 hf
    refine lv_iload_n hx hb dX6_fighter_11 rfl (lv_at hl 2 rfl) ?_
    by_cases sw0 : p2 = (0 : Int32)
    · have hf := if_t sw0 hf
      refine lv_tabK (tgt := 56) (k := (0 : Int32)) hx hb dX6_fighter_12 sw0 (by decide) (by decide) rfl (by decide) ?_
      refine lv_aload_n hx hb dX6_fighter_56 rfl (lv_at hl 0 rfl) ?_
      refine va_get (D := D) (ci := 6) (v := .ref (a 2 0)) (C := RX6) (T := TX6) (N := 10) hx hb hG inG6 hown hK hP 0 at_C_0_0 rfl 1 (by decide) (hG _ g_225) (fun _ h9 => h9) rfl dX6_fighter_57 ?_
      refine va_get (D := D) (ci := 2) (v := .ref (a 2 1)) (C := RX2) (T := TX2) (N := 18) hx hb hG inG2 hown hK hP 4 at_C_2_0 rfl 6 (by decide) (hG _ g_129) (fun _ h9 => h9) rfl dX6_fighter_60 ?_
      refine lv_iload_n hx hb dX6_fighter_63 rfl (lv_at hl 1 rfl) ?_
      obtain ⟨hb64, hf⟩ := gd hf
      refine va_iald (cA := cI) (n := 5) (f := (C 2) 1) hx hb hK hP 5 0 at_C_2_1 rfl (inb_in hb64) dX6_fighter_64 ?_
      exact W.iret (v := ((C 2) 1 (Int32.toNatClampNeg p1))) hx hb hr (fun t ht hW => ⟨⟨((C 2) 1 (Int32.toNatClampNeg p1)), (), rfl, Option.some.inj hf, by rw [ht]; exact hP, hD⟩, hS.F ht⟩) hS.2.2 dX6_fighter_65
    · have hf := if_f sw0 hf
      by_cases sw1 : p2 = (1 : Int32)
      · have hf := if_t sw1 hf
        refine lv_tabK (tgt := 66) (k := (1 : Int32)) hx hb dX6_fighter_12 sw1 (by decide) (by decide) rfl (by decide) ?_
        refine lv_aload_n hx hb dX6_fighter_66 rfl (lv_at hl 0 rfl) ?_
        refine va_get (D := D) (ci := 6) (v := .ref (a 2 0)) (C := RX6) (T := TX6) (N := 10) hx hb hG inG6 hown hK hP 0 at_C_0_0 rfl 1 (by decide) (hG _ g_225) (fun _ h9 => h9) rfl dX6_fighter_67 ?_
        refine va_get (D := D) (ci := 2) (v := .ref (a 2 2)) (C := RX2) (T := TX2) (N := 18) hx hb hG inG2 hown hK hP 4 at_C_2_0 rfl 7 (by decide) (hG _ g_133) (fun _ h9 => h9) rfl dX6_fighter_70 ?_
        refine lv_iload_n hx hb dX6_fighter_73 rfl (lv_at hl 1 rfl) ?_
        obtain ⟨hb74, hf⟩ := gd hf
        refine va_iald (cA := cI) (n := 5) (f := (C 2) 2) hx hb hK hP 6 0 at_C_2_2 rfl (inb_in hb74) dX6_fighter_74 ?_
        exact W.iret (v := ((C 2) 2 (Int32.toNatClampNeg p1))) hx hb hr (fun t ht hW => ⟨⟨((C 2) 2 (Int32.toNatClampNeg p1)), (), rfl, Option.some.inj hf, by rw [ht]; exact hP, hD⟩, hS.F ht⟩) hS.2.2 dX6_fighter_75
      · have hf := if_f sw1 hf
        by_cases sw2 : p2 = (2 : Int32)
        · have hf := if_t sw2 hf
          refine lv_tabK (tgt := 76) (k := (2 : Int32)) hx hb dX6_fighter_12 sw2 (by decide) (by decide) rfl (by decide) ?_
          refine lv_aload_n hx hb dX6_fighter_76 rfl (lv_at hl 0 rfl) ?_
          refine va_get (D := D) (ci := 6) (v := .ref (a 4 0)) (C := RX6) (T := TX6) (N := 10) hx hb hG inG6 hown hK hP 0 at_C_0_0 rfl 3 (by decide) (hG _ g_227) (fun _ h9 => h9) rfl dX6_fighter_77 ?_
          refine va_get (D := D) (ci := 4) (v := .ref (a 4 1)) (C := RX4) (T := TX4) (N := 7) hx hb hG inG4 hown hK hP 30 at_C_4_0 rfl 0 (by decide) (hG _ g_175) (fun _ h9 => h9) rfl dX6_fighter_80 ?_
          refine lv_iload_n hx hb dX6_fighter_83 rfl (lv_at hl 1 rfl) ?_
          obtain ⟨hb84, hf⟩ := gd hf
          refine va_iald (cA := cI) (n := 5) (f := (C 4) 1) hx hb hK hP 31 0 at_C_4_1 rfl (inb_in hb84) dX6_fighter_84 ?_
          exact W.iret (v := ((C 4) 1 (Int32.toNatClampNeg p1))) hx hb hr (fun t ht hW => ⟨⟨((C 4) 1 (Int32.toNatClampNeg p1)), (), rfl, Option.some.inj hf, by rw [ht]; exact hP, hD⟩, hS.F ht⟩) hS.2.2 dX6_fighter_85
        · have hf := if_f sw2 hf
          by_cases sw3 : p2 = (3 : Int32)
          · have hf := if_t sw3 hf
            refine lv_tabK (tgt := 86) (k := (3 : Int32)) hx hb dX6_fighter_12 sw3 (by decide) (by decide) rfl (by decide) ?_
            refine lv_aload_n hx hb dX6_fighter_86 rfl (lv_at hl 0 rfl) ?_
            refine lv_iload_n hx hb dX6_fighter_87 rfl (lv_at hl 1 rfl) ?_
            obtain ⟨q2, hq2, hf⟩ := bd_x hf
            have hFc := freeS hD hS hA
            refine va_calli (va_runV (As := [.int p1]) (rest := []) ⟨hx, hb, hml, hown, hG⟩ (c_X6_readsNow l D cI cZ a C p1 H.size hq2) (cwV 1 hG (gV g_322 g_323 g_14 g_70 g_324) rfl rfl rfl (by decide +kernel) ⟨Nat.le_of_ble_eq_true rfl, Nat.le_of_ble_eq_true rfl⟩) ⟨pre_blind, va_recv hK hP (ci := 6) (q0 := 0) rfl rfl, fun U hU hW => ⟨rfl, pre_of hP hK hD hnw hU hW⟩⟩ rfl rfl hl.1 rfl (lv_room (Nat.le_of_ble_eq_true rfl)) dX6_fighter_88 ⟨Nat.le_of_ble_eq_true rfl, Nat.le_of_ble_eq_true rfl⟩) hS (fun q _ h => hFc q h) hFc (fun v u t H locs ht hvm hw hB hz1 hk1 hS => ?_)
            have hw := hw.symm; subst hw
            obtain ⟨hP1, hD1⟩ := hB
            rw [ht] at hP1
            have hP := hP1
            have hD := hD1.weaken (fun _ q _ h => hFc q.1 h)
            exact W.iret (v := q2) hx hb hr (fun t ht hW => ⟨⟨q2, (), rfl, Option.some.inj hf, by rw [ht]; exact hP, hD⟩, hS.F ht⟩) hS.2.2 dX6_fighter_91
          · have hf := if_f sw3 hf
            by_cases sw4 : p2 = (4 : Int32)
            · have hf := if_t sw4 hf
              refine lv_tabK (tgt := 92) (k := (4 : Int32)) hx hb dX6_fighter_12 sw4 (by decide) (by decide) rfl (by decide) ?_
              refine lv_aload_n hx hb dX6_fighter_92 rfl (lv_at hl 0 rfl) ?_
              refine va_get (D := D) (ci := 6) (v := .ref (a 4 0)) (C := RX6) (T := TX6) (N := 10) hx hb hG inG6 hown hK hP 0 at_C_0_0 rfl 3 (by decide) (hG _ g_227) (fun _ h9 => h9) rfl dX6_fighter_93 ?_
              refine va_get (D := D) (ci := 4) (v := .ref (a 4 2)) (C := RX4) (T := TX4) (N := 7) hx hb hG inG4 hown hK hP 30 at_C_4_0 rfl 1 (by decide) (hG _ g_178) (fun _ h9 => h9) rfl dX6_fighter_96 ?_
              refine lv_iload_n hx hb dX6_fighter_99 rfl (lv_at hl 1 rfl) ?_
              obtain ⟨hb100, hf⟩ := gd hf
              refine va_iald (cA := cI) (n := 5) (f := (C 4) 2) hx hb hK hP 32 0 at_C_4_2 rfl (inb_in hb100) dX6_fighter_100 ?_
              exact W.iret (v := ((C 4) 2 (Int32.toNatClampNeg p1))) hx hb hr (fun t ht hW => ⟨⟨((C 4) 2 (Int32.toNatClampNeg p1)), (), rfl, Option.some.inj hf, by rw [ht]; exact hP, hD⟩, hS.F ht⟩) hS.2.2 dX6_fighter_101
            · have hf := if_f sw4 hf
              by_cases sw5 : p2 = (5 : Int32)
              · have hf := if_t sw5 hf
                refine lv_tabK (tgt := 102) (k := (5 : Int32)) hx hb dX6_fighter_12 sw5 (by decide) (by decide) rfl (by decide) ?_
                refine lv_aload_n hx hb dX6_fighter_102 rfl (lv_at hl 0 rfl) ?_
                refine va_get (D := D) (ci := 6) (v := .ref (a 4 0)) (C := RX6) (T := TX6) (N := 10) hx hb hG inG6 hown hK hP 0 at_C_0_0 rfl 3 (by decide) (hG _ g_227) (fun _ h9 => h9) rfl dX6_fighter_103 ?_
                refine va_get (D := D) (ci := 4) (v := .ref (a 4 3)) (C := RX4) (T := TX4) (N := 7) hx hb hG inG4 hown hK hP 30 at_C_4_0 rfl 2 (by decide) (hG _ g_181) (fun _ h9 => h9) rfl dX6_fighter_106 ?_
                refine lv_iload_n hx hb dX6_fighter_109 rfl (lv_at hl 1 rfl) ?_
                obtain ⟨hb110, hf⟩ := gd hf
                refine va_iald (cA := cI) (n := 5) (f := (C 4) 3) hx hb hK hP 33 0 at_C_4_3 rfl (inb_in hb110) dX6_fighter_110 ?_
                exact W.iret (v := ((C 4) 3 (Int32.toNatClampNeg p1))) hx hb hr (fun t ht hW => ⟨⟨((C 4) 3 (Int32.toNatClampNeg p1)), (), rfl, Option.some.inj hf, by rw [ht]; exact hP, hD⟩, hS.F ht⟩) hS.2.2 dX6_fighter_111
              · have hf := if_f sw5 hf
                by_cases sw6 : p2 = (6 : Int32)
                · have hf := if_t sw6 hf
                  refine lv_tabK (tgt := 112) (k := (6 : Int32)) hx hb dX6_fighter_12 sw6 (by decide) (by decide) rfl (by decide) ?_
                  refine lv_aload_n hx hb dX6_fighter_112 rfl (lv_at hl 0 rfl) ?_
                  refine va_get (D := D) (ci := 6) (v := .ref (a 2 0)) (C := RX6) (T := TX6) (N := 10) hx hb hG inG6 hown hK hP 0 at_C_0_0 rfl 1 (by decide) (hG _ g_225) (fun _ h9 => h9) rfl dX6_fighter_113 ?_
                  refine lv_aload_n hx hb dX6_fighter_116 rfl (lv_at hl 0 rfl) ?_
                  refine va_get (D := D) (ci := 6) (v := .ref (a 4 0)) (C := RX6) (T := TX6) (N := 10) hx hb hG inG6 hown hK hP 0 at_C_0_0 rfl 3 (by decide) (hG _ g_227) (fun _ h9 => h9) rfl dX6_fighter_117 ?_
                  refine va_get (D := D) (ci := 4) (v := .ref (a 4 2)) (C := RX4) (T := TX4) (N := 7) hx hb hG inG4 hown hK hP 30 at_C_4_0 rfl 1 (by decide) (hG _ g_178) (fun _ h9 => h9) rfl dX6_fighter_120 ?_
                  refine lv_iload_n hx hb dX6_fighter_123 rfl (lv_at hl 1 rfl) ?_
                  obtain ⟨hb124, hf⟩ := gd hf
                  refine va_iald (cA := cI) (n := 5) (f := (C 4) 2) hx hb hK hP 32 0 at_C_4_2 rfl (inb_in hb124) dX6_fighter_124 ?_
                  obtain ⟨q3, hq3, hf⟩ := bd_x hf
                  have hPc := subP [4, 5, 6, 7, 8, 9, 10, 11, 12, 13, 14, 15, 16] sub_C_L_2 hP
                  have hDc := va_D.sub hD [4, 5, 6, 7, 8, 9, 10, 11, 12, 13, 14, 15, 16] rfl sub_C_L_2
                  have hFc := va_free hD hS hA [4, 5, 6, 7, 8, 9, 10, 11, 12, 13, 14, 15, 16] sub_C_L_2
                  refine va_calli (va_runV (As := [.int ((C 4) 2 (Int32.toNatClampNeg p1))]) (rest := []) ⟨hx, hb, hml, hown, hG⟩ (c_X2_worthOf l D cI cZ (a 2) (C 2) ((C 4) 2 (Int32.toNatClampNeg p1)) H.size hq3) (cwV 1 hG (gV g_332 g_333 g_334 g_72 g_335) rfl rfl rfl (by decide +kernel) ⟨Nat.le_of_ble_eq_true rfl, Nat.le_of_ble_eq_true rfl⟩) ⟨pre_blind, va_recv hK hPc (ci := 2) (q0 := 0) rfl rfl, fun U hU hW => ⟨rfl, pre_of hPc hK hDc hnw hU hW⟩⟩ rfl rfl hl.1 rfl (lv_room (Nat.le_of_ble_eq_true rfl)) dX6_fighter_125 ⟨Nat.le_of_ble_eq_true rfl, Nat.le_of_ble_eq_true rfl⟩) hS (fun q _ h => hFc q h) hFc (fun v u t H locs ht hvm hw hB hz1 hk1 hS => ?_)
                  have hw := hw.symm; subst hw
                  obtain ⟨hP1, hD1⟩ := hB
                  rw [ht] at hP1
                  obtain ⟨hP, hD⟩ := back hP hD [4, 5, 6, 7, 8, 9, 10, 11, 12, 13, 14, 15, 16] sub_C_L_2 rfl hk1 hFc hP1 hD1
                  have hP := wP put_C_L_2_ hP
                  have hD := wD put_C_L_2_ hD
                  exact W.iret (v := q3) hx hb hr (fun t ht hW => ⟨⟨q3, (), rfl, Option.some.inj hf, by rw [ht]; exact hP, hD⟩, hS.F ht⟩) hS.2.2 dX6_fighter_128
                · have hf := if_f sw6 hf
                  refine lv_tableOut (tgt := 129) hx hb dX6_fighter_12 (by have z0 := lv_neT (k := (0 : Int32)) (a := 0) sw0 rfl; have z1 := lv_neT (k := (1 : Int32)) (a := 1) sw1 rfl; have z2 := lv_neT (k := (2 : Int32)) (a := 2) sw2 rfl; have z3 := lv_neT (k := (3 : Int32)) (a := 3) sw3 rfl; have z4 := lv_neT (k := (4 : Int32)) (a := 4) sw4 rfl; have z5 := lv_neT (k := (5 : Int32)) (a := 5) sw5 rfl; have z6 := lv_neT (k := (6 : Int32)) (a := 6) sw6 rfl; omega) (by decide) ?_
                  refine lv_ldc hx hb hown (hG _ g_238) dX6_fighter_129 ?_
                  exact W.iret (v := (-1000000002 : Int32)) hx hb hr (fun t ht hW => ⟨⟨(-1000000002 : Int32), (), rfl, Option.some.inj hf, by rw [ht]; exact hP, hD⟩, hS.F ht⟩) hS.2.2 dX6_fighter_131
  · have hf := if_t cc5 hf
    refine lv_ldc hx hb hown (hG _ g_321) dX6_fighter_8 ?_
    exact W.iret (v := (-1000000001 : Int32)) hx hb hr (fun t ht hW => ⟨⟨(-1000000001 : Int32), (), rfl, Option.some.inj hf, by rw [ht]; exact hP, hD⟩, hS.F ht⟩) hS.2.2 dX6_fighter_10
def f_X6_isPerson_j19   : Option (Int32) := some (0 : Int32)
def f_X6_isPerson (C : CC) (p1 : Int32) : Option (Int32) := (if p1 < 0 then f_X6_isPerson_j19 else (if ((C 2) 0 0) ≤ p1 then f_X6_isPerson_j19 else some (1 : Int32)))
abbrev RM_X6_isPerson : Room := { frames := 0, cells := 0, slots := 0, locals := 0 }
set_option maxHeartbeats 4000000 in
set_option maxRecDepth 100000 in
theorem c_X6_isPerson (l : Launch) (D : va_G) (cI cZ : ClassId) (a : Nat → Nat → Nat) (C : CC) (p1 : Int32) (sz : Nat) {r : Int32} (hf : f_X6_isPerson C p1 = some r) : Met l yX6_isPerson (wM yX6_isPerson cX6_isPerson 2 (some .boolean)) RM_X6_isPerson (va_Pc [.ref (a 0 0), .int p1] (pre D cI cZ (cW cI a C) sz)) (QI0 D (va_A (cW cI a C) sz) (cW cI a C) r) 0 0 (va_A (cW cI a C) sz) := by
  unfold f_X6_isPerson at hf
  refine Met.ofW (cc := cX6_isPerson) (maxL := 2) (ret := (some .boolean)) (by decide) rfl ?_
  intro p e s m args below meth c s₁ B hml hv
  obtain ⟨rfl, hsz, hP, hK, hD0, hnw⟩ := hv
  have hx := B.exec
  have hb := B.bytes
  have hr := B.returns
  have hts := atoms_spec (ws := wM yX6_isPerson cX6_isPerson 2 (some .boolean)) B.pre
  have hG : ∀ w ∈ GW, w.before (([.ref (a 0 0), .int p1] : List Value).toArray) s = true := fun w h => hts w (List.mem_cons_of_mem _ h)
  have hown : s.vm.findClass RX6 = some m.cls := findClass_of_methodNamed B.named
  have hlocks := B.notSynchronized
  subst hsz
  have hD := hD0.self (sz := s.heap.size)
  generalize hAe : va_A (cW cI a C) s.heap.size = A at hD ⊢
  have hA : ∀ q : Nat, s.heap.size ≤ q → A q := fun q h => by rw [← hAe]; exact Or.inr h
  have hS : va_S A s.heap s.heap [] := va_S.rf
  have hl := lv_entry ([.ref (a 0 0), .int p1]) (n := 2) (Nat.le_of_ble_eq_true rfl)
  rw [lg_entry_eq]
  generalize (lg_sl ([.ref (a 0 0), .int p1]) ++ List.replicate (2 - (lg_sl ([.ref (a 0 0), .int p1])).length) Slot.unset).toArray = ls at hl ⊢
  have hl : lv_has ls 2 [(0, .ref (a 0 0)), (1, .int p1)] := hl
  show W p l e RM_X6_isPerson s m (([.ref (a 0 0), .int p1] : List Value).toArray) below meth c s.heap [] 0 0 (MQ below (QI0 D A (cW cI a C) r) (([.ref (a 0 0), .int p1] : List Value).toArray) s 0 0 A) (F0 m 0 ls [])
  refine lv_iload_n hx hb dX6_isPerson_0 rfl (lv_at hl 1 rfl) ?_
  have J19 : ∀  (H : Heap) (locs : List Loc) (ls : Array Slot), va_P D vwCl (cW cI a C) H → va_D A (cW cI a C) → va_S A s.heap H locs → lv_has ls 2 [] → f_X6_isPerson_j19  = some r → W p l e RM_X6_isPerson s m (([.ref (a 0 0), .int p1] : List Value).toArray) below meth c H locs 0 0 (MQ below (QI0 D A (cW cI a C) r) (([.ref (a 0 0), .int p1] : List Value).toArray) s 0 0 A) (F0 m 19 ls []) := by
    intro  H locs ls hP hD hS hl hf
    unfold f_X6_isPerson_j19 at hf
    refine lv_iconst (v := (0 : Int32)) hx hb dX6_isPerson_19 (by decide) ?_
    exact W.zret (v := (0 : Int32)) hx hb hr (by decide) (fun t ht hW => ⟨⟨(0 : Int32), (), rfl, Option.some.inj hf, by rw [ht]; exact hP, hD⟩, hS.F ht⟩) hS.2.2 dX6_isPerson_20
  refine lv_if_lt (tgt := 19) hx hb dX6_isPerson_1 (by decide) (fun cc1 => ?_) (fun cc1 => ?_)
  · have hf := if_t cc1 hf
    exact J19  _ _ _ hP hD hS (lv_sub hl [] rfl) hf
  · have hf := if_f cc1 hf
    refine lv_iload_n hx hb dX6_isPerson_4 rfl (lv_at hl 1 rfl) ?_
    refine lv_aload_n hx hb dX6_isPerson_5 rfl (lv_at hl 0 rfl) ?_
    refine va_get (D := D) (ci := 6) (v := .ref (a 2 0)) (C := RX6) (T := TX6) (N := 10) hx hb hG inG6 hown hK hP 0 at_C_0_0 rfl 1 (by decide) (hG _ g_225) (fun _ h9 => h9) rfl dX6_isPerson_6 ?_
    refine va_get (D := D) (ci := 2) (v := .int ((C 2) 0 0)) (C := RX2) (T := TX2) (N := 18) hx hb hG inG2 hown hK hP 4 at_C_2_0 rfl 0 (by decide) (hG _ g_109) (fun _ h9 => h9) rfl dX6_isPerson_9 ?_
    refine lv_icmp_ge (tgt := 19) hx hb dX6_isPerson_12 (by decide) (fun cc12 => ?_) (fun cc12 => ?_)
    · have hf := if_t cc12 hf
      exact J19  _ _ _ hP hD hS (lv_sub hl [] rfl) hf
    · have hf := if_f cc12 hf
      refine lv_iconst (v := (1 : Int32)) hx hb dX6_isPerson_15 (by decide) ?_
      refine lv_goto (tgt := 20) hx hb dX6_isPerson_16 (by decide) ?_
      exact W.zret (v := (1 : Int32)) hx hb hr (by decide) (fun t ht hW => ⟨⟨(1 : Int32), (), rfl, Option.some.inj hf, by rw [ht]; exact hP, hD⟩, hS.F ht⟩) hS.2.2 dX6_isPerson_20
def f_X6_thinks (C : CC) (p1 : Int32) (p2 : Int32) : Option (Int32) := bd (f_X6_isPerson C p1) (fun (q1 : Int32) => (if q1 = 0 then some (-1000000001 : Int32) else bd (f_X6_isFighter C p2) (fun (q2 : Int32) => (if q2 = 0 then some (-1000000001 : Int32) else bd (f_X6_slot p1 p2) (fun (q3 : Int32) => (if inb q3 30 then some ((C 4) 4 (Int32.toNatClampNeg q3)) else none))))))
abbrev RM_X6_thinks : Room := { frames := 1, cells := 0, slots := 0, locals := 21 }
set_option maxHeartbeats 4000000 in
set_option maxRecDepth 100000 in
theorem c_X6_thinks (l : Launch) (D : va_G) (cI cZ : ClassId) (a : Nat → Nat → Nat) (C : CC) (p1 : Int32) (p2 : Int32) (sz : Nat) {r : Int32} (hf : f_X6_thinks C p1 p2 = some r) : Met l yX6_thinks (wM yX6_thinks cX6_thinks 3 (some .int)) RM_X6_thinks (va_Pc [.ref (a 0 0), .int p1, .int p2] (pre D cI cZ (cW cI a C) sz)) (QI0 D (va_A (cW cI a C) sz) (cW cI a C) r) 0 0 (va_A (cW cI a C) sz) := by
  unfold f_X6_thinks at hf
  refine Met.ofW (cc := cX6_thinks) (maxL := 3) (ret := (some .int)) (by decide) rfl ?_
  intro p e s m args below meth c s₁ B hml hv
  obtain ⟨rfl, hsz, hP, hK, hD0, hnw⟩ := hv
  have hx := B.exec
  have hb := B.bytes
  have hr := B.returns
  have hts := atoms_spec (ws := wM yX6_thinks cX6_thinks 3 (some .int)) B.pre
  have hG : ∀ w ∈ GW, w.before (([.ref (a 0 0), .int p1, .int p2] : List Value).toArray) s = true := fun w h => hts w (List.mem_cons_of_mem _ h)
  have hown : s.vm.findClass RX6 = some m.cls := findClass_of_methodNamed B.named
  have hlocks := B.notSynchronized
  subst hsz
  have hD := hD0.self (sz := s.heap.size)
  generalize hAe : va_A (cW cI a C) s.heap.size = A at hD ⊢
  have hA : ∀ q : Nat, s.heap.size ≤ q → A q := fun q h => by rw [← hAe]; exact Or.inr h
  have hS : va_S A s.heap s.heap [] := va_S.rf
  have hl := lv_entry ([.ref (a 0 0), .int p1, .int p2]) (n := 3) (Nat.le_of_ble_eq_true rfl)
  rw [lg_entry_eq]
  generalize (lg_sl ([.ref (a 0 0), .int p1, .int p2]) ++ List.replicate (3 - (lg_sl ([.ref (a 0 0), .int p1, .int p2])).length) Slot.unset).toArray = ls at hl ⊢
  have hl : lv_has ls 3 [(0, .ref (a 0 0)), (1, .int p1), (2, .int p2)] := hl
  show W p l e RM_X6_thinks s m (([.ref (a 0 0), .int p1, .int p2] : List Value).toArray) below meth c s.heap [] 0 0 (MQ below (QI0 D A (cW cI a C) r) (([.ref (a 0 0), .int p1, .int p2] : List Value).toArray) s 0 0 A) (F0 m 0 ls [])
  refine lv_aload_n hx hb dX6_thinks_0 rfl (lv_at hl 0 rfl) ?_
  refine lv_iload_n hx hb dX6_thinks_1 rfl (lv_at hl 1 rfl) ?_
  obtain ⟨q1, hq1, hf⟩ := bd_x hf
  have hFc := freeS hD hS hA
  refine va_calli (va_runV (As := [.int p1]) (rest := []) ⟨hx, hb, hml, hown, hG⟩ (c_X6_isPerson l D cI cZ a C p1 s.heap.size hq1) (cwV 1 hG (gV g_344 g_345 g_16 g_70 g_346) rfl rfl rfl (by decide +kernel) ⟨Nat.le_of_ble_eq_true rfl, Nat.le_of_ble_eq_true rfl⟩) ⟨pre_blind, va_recv hK hP (ci := 6) (q0 := 0) rfl rfl, fun U hU hW => ⟨rfl, pre_of hP hK hD hnw hU hW⟩⟩ rfl rfl hl.1 rfl (lv_room (Nat.le_of_ble_eq_true rfl)) dX6_thinks_2 ⟨Nat.le_of_ble_eq_true rfl, Nat.le_of_ble_eq_true rfl⟩) hS (fun q _ h => hFc q h) hFc (fun v u t H locs ht hvm hw hB hz1 hk1 hS => ?_)
  have hw := hw.symm; subst hw
  obtain ⟨hP1, hD1⟩ := hB
  rw [ht] at hP1
  have hP := hP1
  have hD := hD1.weaken (fun _ q _ h => hFc q.1 h)
  refine lv_if_eq (tgt := 16) hx hb dX6_thinks_5 (by decide) (fun cc5 => ?_) (fun cc5 => ?_)
  · have hf := if_t cc5 hf
    refine lv_ldc hx hb hown (hG _ g_321) dX6_thinks_16 ?_
    exact W.iret (v := (-1000000001 : Int32)) hx hb hr (fun t ht hW => ⟨⟨(-1000000001 : Int32), (), rfl, Option.some.inj hf, by rw [ht]; exact hP, hD⟩, hS.F ht⟩) hS.2.2 dX6_thinks_18
  · have hf := if_f cc5 hf
    refine lv_aload_n hx hb dX6_thinks_8 rfl (lv_at hl 0 rfl) ?_
    refine lv_iload_n hx hb dX6_thinks_9 rfl (lv_at hl 2 rfl) ?_
    obtain ⟨q2, hq2, hf⟩ := bd_x hf
    have hFc := freeS hD hS hA
    refine va_calli (va_runV (As := [.int p2]) (rest := []) ⟨hx, hb, hml, hown, hG⟩ (c_X6_isFighter l D cI cZ a C p2 H.size hq2) (cwV 1 hG (gV g_318 g_319 g_13 g_70 g_320) rfl rfl rfl (by decide +kernel) ⟨Nat.le_of_ble_eq_true rfl, Nat.le_of_ble_eq_true rfl⟩) ⟨pre_blind, va_recv hK hP (ci := 6) (q0 := 0) rfl rfl, fun U hU hW => ⟨rfl, pre_of hP hK hD hnw hU hW⟩⟩ rfl rfl hl.1 rfl (lv_room (Nat.le_of_ble_eq_true rfl)) dX6_thinks_10 ⟨Nat.le_of_ble_eq_true rfl, Nat.le_of_ble_eq_true rfl⟩) hS (fun q _ h => hFc q h) hFc (fun v u t H locs ht hvm hw hB hz1 hk1 hS => ?_)
    have hw := hw.symm; subst hw
    obtain ⟨hP1, hD1⟩ := hB
    rw [ht] at hP1
    have hP := hP1
    have hD := hD1.weaken (fun _ q _ h => hFc q.1 h)
    refine lv_if_ne (tgt := 19) hx hb dX6_thinks_13 (by decide) (fun cc13 => ?_) (fun cc13 => ?_)
    · have hf := if_f cc13 hf
      refine lv_aload_n hx hb dX6_thinks_19 rfl (lv_at hl 0 rfl) ?_
      refine va_get (D := D) (ci := 6) (v := .ref (a 4 0)) (C := RX6) (T := TX6) (N := 10) hx hb hG inG6 hown hK hP 0 at_C_0_0 rfl 3 (by decide) (hG _ g_227) (fun _ h9 => h9) rfl dX6_thinks_20 ?_
      refine va_get (D := D) (ci := 4) (v := .ref (a 4 4)) (C := RX4) (T := TX4) (N := 7) hx hb hG inG4 hown hK hP 30 at_C_4_0 rfl 3 (by decide) (hG _ g_186) (fun _ h9 => h9) rfl dX6_thinks_23 ?_
      refine lv_iload_n hx hb dX6_thinks_26 rfl (lv_at hl 1 rfl) ?_
      refine lv_iload_n hx hb dX6_thinks_27 rfl (lv_at hl 2 rfl) ?_
      obtain ⟨q3, hq3, hf⟩ := bd_x hf
      have hFc := va_free (wc := []) hD hS hA [] rfl
      refine va_calli (va_runS (As := [.int p1, .int p2]) (rest := [.ref (a 4 4)]) ⟨hx, hb, hml, hown, hG⟩ (c_X6_slot l D cI cZ p1 p2 H.size hq3) (cwS 2 hG (gS g_313 g_296 g_70 g_297) rfl rfl rfl (by decide +kernel) ⟨Nat.le_of_ble_eq_true rfl, Nat.le_of_ble_eq_true rfl⟩) ⟨pre_blind, fun U hU hW => ⟨rfl, pre_of P_nil hK D_nil hnw hU hW⟩⟩ rfl rfl hl.1 rfl (lv_room (Nat.le_of_ble_eq_true rfl)) dX6_thinks_28 ⟨Nat.le_of_ble_eq_true rfl, Nat.le_of_ble_eq_true rfl⟩) hS (fun q _ h => hFc q h) hFc (fun v u t H locs ht hvm hw hB hz1 hk1 hS => ?_)
      have hw := hw.symm; subst hw
      obtain ⟨hP1, hD1⟩ := hB
      rw [ht] at hP1
      obtain ⟨hP, hD⟩ := back hP hD [] rfl rfl hk1 hFc hP1 hD1
      obtain ⟨hb31, hf⟩ := gd hf
      refine va_iald (cA := cI) (n := 30) (f := (C 4) 4) hx hb hK hP 34 0 at_C_4_4 rfl (inb_in hb31) dX6_thinks_31 ?_
      exact W.iret (v := ((C 4) 4 (Int32.toNatClampNeg q3))) hx hb hr (fun t ht hW => ⟨⟨((C 4) 4 (Int32.toNatClampNeg q3)), (), rfl, Option.some.inj hf, by rw [ht]; exact hP, hD⟩, hS.F ht⟩) hS.2.2 dX6_thinks_32
    · have hf := if_t cc13 hf
      refine lv_ldc hx hb hown (hG _ g_321) dX6_thinks_16 ?_
      exact W.iret (v := (-1000000001 : Int32)) hx hb hr (fun t ht hW => ⟨⟨(-1000000001 : Int32), (), rfl, Option.some.inj hf, by rw [ht]; exact hP, hD⟩, hS.F ht⟩) hS.2.2 dX6_thinks_18
def f_X6_chats (C : CC) (p1 : Int32) : Option (Int32) := bd (f_X6_isPerson C p1) (fun (q1 : Int32) => (if q1 = 0 then some (-1000000001 : Int32) else (if inb p1 6 then some ((C 2) 4 (Int32.toNatClampNeg p1)) else none)))
abbrev RM_X6_chats : Room := { frames := 1, cells := 0, slots := 0, locals := 21 }
set_option maxHeartbeats 4000000 in
set_option maxRecDepth 100000 in
theorem c_X6_chats (l : Launch) (D : va_G) (cI cZ : ClassId) (a : Nat → Nat → Nat) (C : CC) (p1 : Int32) (sz : Nat) {r : Int32} (hf : f_X6_chats C p1 = some r) : Met l yX6_chats (wM yX6_chats cX6_chats 2 (some .int)) RM_X6_chats (va_Pc [.ref (a 0 0), .int p1] (pre D cI cZ (cW cI a C) sz)) (QI0 D (va_A (cW cI a C) sz) (cW cI a C) r) 0 0 (va_A (cW cI a C) sz) := by
  unfold f_X6_chats at hf
  refine Met.ofW (cc := cX6_chats) (maxL := 2) (ret := (some .int)) (by decide) rfl ?_
  intro p e s m args below meth c s₁ B hml hv
  obtain ⟨rfl, hsz, hP, hK, hD0, hnw⟩ := hv
  have hx := B.exec
  have hb := B.bytes
  have hr := B.returns
  have hts := atoms_spec (ws := wM yX6_chats cX6_chats 2 (some .int)) B.pre
  have hG : ∀ w ∈ GW, w.before (([.ref (a 0 0), .int p1] : List Value).toArray) s = true := fun w h => hts w (List.mem_cons_of_mem _ h)
  have hown : s.vm.findClass RX6 = some m.cls := findClass_of_methodNamed B.named
  have hlocks := B.notSynchronized
  subst hsz
  have hD := hD0.self (sz := s.heap.size)
  generalize hAe : va_A (cW cI a C) s.heap.size = A at hD ⊢
  have hA : ∀ q : Nat, s.heap.size ≤ q → A q := fun q h => by rw [← hAe]; exact Or.inr h
  have hS : va_S A s.heap s.heap [] := va_S.rf
  have hl := lv_entry ([.ref (a 0 0), .int p1]) (n := 2) (Nat.le_of_ble_eq_true rfl)
  rw [lg_entry_eq]
  generalize (lg_sl ([.ref (a 0 0), .int p1]) ++ List.replicate (2 - (lg_sl ([.ref (a 0 0), .int p1])).length) Slot.unset).toArray = ls at hl ⊢
  have hl : lv_has ls 2 [(0, .ref (a 0 0)), (1, .int p1)] := hl
  show W p l e RM_X6_chats s m (([.ref (a 0 0), .int p1] : List Value).toArray) below meth c s.heap [] 0 0 (MQ below (QI0 D A (cW cI a C) r) (([.ref (a 0 0), .int p1] : List Value).toArray) s 0 0 A) (F0 m 0 ls [])
  refine lv_aload_n hx hb dX6_chats_0 rfl (lv_at hl 0 rfl) ?_
  refine lv_iload_n hx hb dX6_chats_1 rfl (lv_at hl 1 rfl) ?_
  obtain ⟨q1, hq1, hf⟩ := bd_x hf
  have hFc := freeS hD hS hA
  refine va_calli (va_runV (As := [.int p1]) (rest := []) ⟨hx, hb, hml, hown, hG⟩ (c_X6_isPerson l D cI cZ a C p1 s.heap.size hq1) (cwV 1 hG (gV g_344 g_345 g_16 g_70 g_346) rfl rfl rfl (by decide +kernel) ⟨Nat.le_of_ble_eq_true rfl, Nat.le_of_ble_eq_true rfl⟩) ⟨pre_blind, va_recv hK hP (ci := 6) (q0 := 0) rfl rfl, fun U hU hW => ⟨rfl, pre_of hP hK hD hnw hU hW⟩⟩ rfl rfl hl.1 rfl (lv_room (Nat.le_of_ble_eq_true rfl)) dX6_chats_2 ⟨Nat.le_of_ble_eq_true rfl, Nat.le_of_ble_eq_true rfl⟩) hS (fun q _ h => hFc q h) hFc (fun v u t H locs ht hvm hw hB hz1 hk1 hS => ?_)
  have hw := hw.symm; subst hw
  obtain ⟨hP1, hD1⟩ := hB
  rw [ht] at hP1
  have hP := hP1
  have hD := hD1.weaken (fun _ q _ h => hFc q.1 h)
  refine lv_if_ne (tgt := 11) hx hb dX6_chats_5 (by decide) (fun cc5 => ?_) (fun cc5 => ?_)
  · have hf := if_f cc5 hf
    refine lv_aload_n hx hb dX6_chats_11 rfl (lv_at hl 0 rfl) ?_
    refine va_get (D := D) (ci := 6) (v := .ref (a 2 0)) (C := RX6) (T := TX6) (N := 10) hx hb hG inG6 hown hK hP 0 at_C_0_0 rfl 1 (by decide) (hG _ g_225) (fun _ h9 => h9) rfl dX6_chats_12 ?_
    refine va_get (D := D) (ci := 2) (v := .ref (a 2 4)) (C := RX2) (T := TX2) (N := 18) hx hb hG inG2 hown hK hP 4 at_C_2_0 rfl 9 (by decide) (hG _ g_139) (fun _ h9 => h9) rfl dX6_chats_15 ?_
    refine lv_iload_n hx hb dX6_chats_18 rfl (lv_at hl 1 rfl) ?_
    obtain ⟨hb19, hf⟩ := gd hf
    refine va_iald (cA := cI) (n := 6) (f := (C 2) 4) hx hb hK hP 8 0 at_C_2_4 rfl (inb_in hb19) dX6_chats_19 ?_
    exact W.iret (v := ((C 2) 4 (Int32.toNatClampNeg p1))) hx hb hr (fun t ht hW => ⟨⟨((C 2) 4 (Int32.toNatClampNeg p1)), (), rfl, Option.some.inj hf, by rw [ht]; exact hP, hD⟩, hS.F ht⟩) hS.2.2 dX6_chats_20
  · have hf := if_t cc5 hf
    refine lv_ldc hx hb hown (hG _ g_321) dX6_chats_8 ?_
    exact W.iret (v := (-1000000001 : Int32)) hx hb hr (fun t ht hW => ⟨⟨(-1000000001 : Int32), (), rfl, Option.some.inj hf, by rw [ht]; exact hP, hD⟩, hS.F ht⟩) hS.2.2 dX6_chats_10
def f_X6_isTask_j19   : Option (Int32) := some (0 : Int32)
def f_X6_isTask (C : CC) (p1 : Int32) : Option (Int32) := (if p1 < 0 then f_X6_isTask_j19 else (if ((C 2) 0 3) ≤ p1 then f_X6_isTask_j19 else some (1 : Int32)))
abbrev RM_X6_isTask : Room := { frames := 0, cells := 0, slots := 0, locals := 0 }
set_option maxHeartbeats 4000000 in
set_option maxRecDepth 100000 in
theorem c_X6_isTask (l : Launch) (D : va_G) (cI cZ : ClassId) (a : Nat → Nat → Nat) (C : CC) (p1 : Int32) (sz : Nat) {r : Int32} (hf : f_X6_isTask C p1 = some r) : Met l yX6_isTask (wM yX6_isTask cX6_isTask 2 (some .boolean)) RM_X6_isTask (va_Pc [.ref (a 0 0), .int p1] (pre D cI cZ (cW cI a C) sz)) (QI0 D (va_A (cW cI a C) sz) (cW cI a C) r) 0 0 (va_A (cW cI a C) sz) := by
  unfold f_X6_isTask at hf
  refine Met.ofW (cc := cX6_isTask) (maxL := 2) (ret := (some .boolean)) (by decide) rfl ?_
  intro p e s m args below meth c s₁ B hml hv
  obtain ⟨rfl, hsz, hP, hK, hD0, hnw⟩ := hv
  have hx := B.exec
  have hb := B.bytes
  have hr := B.returns
  have hts := atoms_spec (ws := wM yX6_isTask cX6_isTask 2 (some .boolean)) B.pre
  have hG : ∀ w ∈ GW, w.before (([.ref (a 0 0), .int p1] : List Value).toArray) s = true := fun w h => hts w (List.mem_cons_of_mem _ h)
  have hown : s.vm.findClass RX6 = some m.cls := findClass_of_methodNamed B.named
  have hlocks := B.notSynchronized
  subst hsz
  have hD := hD0.self (sz := s.heap.size)
  generalize hAe : va_A (cW cI a C) s.heap.size = A at hD ⊢
  have hA : ∀ q : Nat, s.heap.size ≤ q → A q := fun q h => by rw [← hAe]; exact Or.inr h
  have hS : va_S A s.heap s.heap [] := va_S.rf
  have hl := lv_entry ([.ref (a 0 0), .int p1]) (n := 2) (Nat.le_of_ble_eq_true rfl)
  rw [lg_entry_eq]
  generalize (lg_sl ([.ref (a 0 0), .int p1]) ++ List.replicate (2 - (lg_sl ([.ref (a 0 0), .int p1])).length) Slot.unset).toArray = ls at hl ⊢
  have hl : lv_has ls 2 [(0, .ref (a 0 0)), (1, .int p1)] := hl
  show W p l e RM_X6_isTask s m (([.ref (a 0 0), .int p1] : List Value).toArray) below meth c s.heap [] 0 0 (MQ below (QI0 D A (cW cI a C) r) (([.ref (a 0 0), .int p1] : List Value).toArray) s 0 0 A) (F0 m 0 ls [])
  refine lv_iload_n hx hb dX6_isTask_0 rfl (lv_at hl 1 rfl) ?_
  have J19 : ∀  (H : Heap) (locs : List Loc) (ls : Array Slot), va_P D vwCl (cW cI a C) H → va_D A (cW cI a C) → va_S A s.heap H locs → lv_has ls 2 [] → f_X6_isTask_j19  = some r → W p l e RM_X6_isTask s m (([.ref (a 0 0), .int p1] : List Value).toArray) below meth c H locs 0 0 (MQ below (QI0 D A (cW cI a C) r) (([.ref (a 0 0), .int p1] : List Value).toArray) s 0 0 A) (F0 m 19 ls []) := by
    intro  H locs ls hP hD hS hl hf
    unfold f_X6_isTask_j19 at hf
    refine lv_iconst (v := (0 : Int32)) hx hb dX6_isTask_19 (by decide) ?_
    exact W.zret (v := (0 : Int32)) hx hb hr (by decide) (fun t ht hW => ⟨⟨(0 : Int32), (), rfl, Option.some.inj hf, by rw [ht]; exact hP, hD⟩, hS.F ht⟩) hS.2.2 dX6_isTask_20
  refine lv_if_lt (tgt := 19) hx hb dX6_isTask_1 (by decide) (fun cc1 => ?_) (fun cc1 => ?_)
  · have hf := if_t cc1 hf
    exact J19  _ _ _ hP hD hS (lv_sub hl [] rfl) hf
  · have hf := if_f cc1 hf
    refine lv_iload_n hx hb dX6_isTask_4 rfl (lv_at hl 1 rfl) ?_
    refine lv_aload_n hx hb dX6_isTask_5 rfl (lv_at hl 0 rfl) ?_
    refine va_get (D := D) (ci := 6) (v := .ref (a 2 0)) (C := RX6) (T := TX6) (N := 10) hx hb hG inG6 hown hK hP 0 at_C_0_0 rfl 1 (by decide) (hG _ g_225) (fun _ h9 => h9) rfl dX6_isTask_6 ?_
    refine va_get (D := D) (ci := 2) (v := .int ((C 2) 0 3)) (C := RX2) (T := TX2) (N := 18) hx hb hG inG2 hown hK hP 4 at_C_2_0 rfl 3 (by decide) (hG _ g_121) (fun _ h9 => h9) rfl dX6_isTask_9 ?_
    refine lv_icmp_ge (tgt := 19) hx hb dX6_isTask_12 (by decide) (fun cc12 => ?_) (fun cc12 => ?_)
    · have hf := if_t cc12 hf
      exact J19  _ _ _ hP hD hS (lv_sub hl [] rfl) hf
    · have hf := if_f cc12 hf
      refine lv_iconst (v := (1 : Int32)) hx hb dX6_isTask_15 (by decide) ?_
      refine lv_goto (tgt := 20) hx hb dX6_isTask_16 (by decide) ?_
      exact W.zret (v := (1 : Int32)) hx hb hr (by decide) (fun t ht hW => ⟨⟨(1 : Int32), (), rfl, Option.some.inj hf, by rw [ht]; exact hP, hD⟩, hS.F ht⟩) hS.2.2 dX6_isTask_20
def f_X6_task (C : CC) (p1 : Int32) (p2 : Int32) : Option (Int32) := bd (f_X6_isTask C p1) (fun (q1 : Int32) => (if q1 = 0 then some (-1000000001 : Int32) else (if p2 = (0 : Int32) then (if inb p1 6 then some ((C 2) 5 (Int32.toNatClampNeg p1)) else none) else (if p2 = (1 : Int32) then (if inb p1 6 then some ((C 2) 6 (Int32.toNatClampNeg p1)) else none) else (if p2 = (2 : Int32) then (if inb p1 6 then some ((C 2) 7 (Int32.toNatClampNeg p1)) else none) else (if p2 = (3 : Int32) then (if inb p1 6 then some ((C 2) 8 (Int32.toNatClampNeg p1)) else none) else (if p2 = (4 : Int32) then bd (f_X2_tricksOf (C 2) p1) (fun (q2 : Int32) => some q2) else some (-1000000002 : Int32))))))))
abbrev RM_X6_task : Room := { frames := 1, cells := 0, slots := 0, locals := 23 }
set_option maxHeartbeats 4000000 in
set_option maxRecDepth 100000 in
theorem c_X6_task (l : Launch) (D : va_G) (cI cZ : ClassId) (a : Nat → Nat → Nat) (C : CC) (p1 : Int32) (p2 : Int32) (sz : Nat) {r : Int32} (hf : f_X6_task C p1 p2 = some r) : Met l yX6_task (wM yX6_task cX6_task 3 (some .int)) RM_X6_task (va_Pc [.ref (a 0 0), .int p1, .int p2] (pre D cI cZ (cW cI a C) sz)) (QI0 D (va_A (cW cI a C) sz) (cW cI a C) r) 0 0 (va_A (cW cI a C) sz) := by
  unfold f_X6_task at hf
  refine Met.ofW (cc := cX6_task) (maxL := 3) (ret := (some .int)) (by decide) rfl ?_
  intro p e s m args below meth c s₁ B hml hv
  obtain ⟨rfl, hsz, hP, hK, hD0, hnw⟩ := hv
  have hx := B.exec
  have hb := B.bytes
  have hr := B.returns
  have hts := atoms_spec (ws := wM yX6_task cX6_task 3 (some .int)) B.pre
  have hG : ∀ w ∈ GW, w.before (([.ref (a 0 0), .int p1, .int p2] : List Value).toArray) s = true := fun w h => hts w (List.mem_cons_of_mem _ h)
  have hown : s.vm.findClass RX6 = some m.cls := findClass_of_methodNamed B.named
  have hlocks := B.notSynchronized
  subst hsz
  have hD := hD0.self (sz := s.heap.size)
  generalize hAe : va_A (cW cI a C) s.heap.size = A at hD ⊢
  have hA : ∀ q : Nat, s.heap.size ≤ q → A q := fun q h => by rw [← hAe]; exact Or.inr h
  have hS : va_S A s.heap s.heap [] := va_S.rf
  have hl := lv_entry ([.ref (a 0 0), .int p1, .int p2]) (n := 3) (Nat.le_of_ble_eq_true rfl)
  rw [lg_entry_eq]
  generalize (lg_sl ([.ref (a 0 0), .int p1, .int p2]) ++ List.replicate (3 - (lg_sl ([.ref (a 0 0), .int p1, .int p2])).length) Slot.unset).toArray = ls at hl ⊢
  have hl : lv_has ls 3 [(0, .ref (a 0 0)), (1, .int p1), (2, .int p2)] := hl
  show W p l e RM_X6_task s m (([.ref (a 0 0), .int p1, .int p2] : List Value).toArray) below meth c s.heap [] 0 0 (MQ below (QI0 D A (cW cI a C) r) (([.ref (a 0 0), .int p1, .int p2] : List Value).toArray) s 0 0 A) (F0 m 0 ls [])
  refine lv_aload_n hx hb dX6_task_0 rfl (lv_at hl 0 rfl) ?_
  refine lv_iload_n hx hb dX6_task_1 rfl (lv_at hl 1 rfl) ?_
  obtain ⟨q1, hq1, hf⟩ := bd_x hf
  have hFc := freeS hD hS hA
  refine va_calli (va_runV (As := [.int p1]) (rest := []) ⟨hx, hb, hml, hown, hG⟩ (c_X6_isTask l D cI cZ a C p1 s.heap.size hq1) (cwV 1 hG (gV g_355 g_356 g_17 g_70 g_357) rfl rfl rfl (by decide +kernel) ⟨Nat.le_of_ble_eq_true rfl, Nat.le_of_ble_eq_true rfl⟩) ⟨pre_blind, va_recv hK hP (ci := 6) (q0 := 0) rfl rfl, fun U hU hW => ⟨rfl, pre_of hP hK hD hnw hU hW⟩⟩ rfl rfl hl.1 rfl (lv_room (Nat.le_of_ble_eq_true rfl)) dX6_task_2 ⟨Nat.le_of_ble_eq_true rfl, Nat.le_of_ble_eq_true rfl⟩) hS (fun q _ h => hFc q h) hFc (fun v u t H locs ht hvm hw hB hz1 hk1 hS => ?_)
  have hw := hw.symm; subst hw
  obtain ⟨hP1, hD1⟩ := hB
  rw [ht] at hP1
  have hP := hP1
  have hD := hD1.weaken (fun _ q _ h => hFc q.1 h)
  refine lv_if_ne (tgt := 11) hx hb dX6_task_5 (by decide) (fun cc5 => ?_) (fun cc5 => ?_)
  · have hf := if_f cc5 hf
    refine lv_iload_n hx hb dX6_task_11 rfl (lv_at hl 2 rfl) ?_
    by_cases sw0 : p2 = (0 : Int32)
    · have hf := if_t sw0 hf
      refine lv_tabK (tgt := 48) (k := (0 : Int32)) hx hb dX6_task_12 sw0 (by decide) (by decide) rfl (by decide) ?_
      refine lv_aload_n hx hb dX6_task_48 rfl (lv_at hl 0 rfl) ?_
      refine va_get (D := D) (ci := 6) (v := .ref (a 2 0)) (C := RX6) (T := TX6) (N := 10) hx hb hG inG6 hown hK hP 0 at_C_0_0 rfl 1 (by decide) (hG _ g_225) (fun _ h9 => h9) rfl dX6_task_49 ?_
      refine va_get (D := D) (ci := 2) (v := .ref (a 2 5)) (C := RX2) (T := TX2) (N := 18) hx hb hG inG2 hown hK hP 4 at_C_2_0 rfl 10 (by decide) (hG _ g_143) (fun _ h9 => h9) rfl dX6_task_52 ?_
      refine lv_iload_n hx hb dX6_task_55 rfl (lv_at hl 1 rfl) ?_
      obtain ⟨hb56, hf⟩ := gd hf
      refine va_iald (cA := cI) (n := 6) (f := (C 2) 5) hx hb hK hP 9 0 at_C_2_5 rfl (inb_in hb56) dX6_task_56 ?_
      exact W.iret (v := ((C 2) 5 (Int32.toNatClampNeg p1))) hx hb hr (fun t ht hW => ⟨⟨((C 2) 5 (Int32.toNatClampNeg p1)), (), rfl, Option.some.inj hf, by rw [ht]; exact hP, hD⟩, hS.F ht⟩) hS.2.2 dX6_task_57
    · have hf := if_f sw0 hf
      by_cases sw1 : p2 = (1 : Int32)
      · have hf := if_t sw1 hf
        refine lv_tabK (tgt := 58) (k := (1 : Int32)) hx hb dX6_task_12 sw1 (by decide) (by decide) rfl (by decide) ?_
        refine lv_aload_n hx hb dX6_task_58 rfl (lv_at hl 0 rfl) ?_
        refine va_get (D := D) (ci := 6) (v := .ref (a 2 0)) (C := RX6) (T := TX6) (N := 10) hx hb hG inG6 hown hK hP 0 at_C_0_0 rfl 1 (by decide) (hG _ g_225) (fun _ h9 => h9) rfl dX6_task_59 ?_
        refine va_get (D := D) (ci := 2) (v := .ref (a 2 6)) (C := RX2) (T := TX2) (N := 18) hx hb hG inG2 hown hK hP 4 at_C_2_0 rfl 11 (by decide) (hG _ g_146) (fun _ h9 => h9) rfl dX6_task_62 ?_
        refine lv_iload_n hx hb dX6_task_65 rfl (lv_at hl 1 rfl) ?_
        obtain ⟨hb66, hf⟩ := gd hf
        refine va_iald (cA := cI) (n := 6) (f := (C 2) 6) hx hb hK hP 10 0 at_C_2_6 rfl (inb_in hb66) dX6_task_66 ?_
        exact W.iret (v := ((C 2) 6 (Int32.toNatClampNeg p1))) hx hb hr (fun t ht hW => ⟨⟨((C 2) 6 (Int32.toNatClampNeg p1)), (), rfl, Option.some.inj hf, by rw [ht]; exact hP, hD⟩, hS.F ht⟩) hS.2.2 dX6_task_67
      · have hf := if_f sw1 hf
        by_cases sw2 : p2 = (2 : Int32)
        · have hf := if_t sw2 hf
          refine lv_tabK (tgt := 68) (k := (2 : Int32)) hx hb dX6_task_12 sw2 (by decide) (by decide) rfl (by decide) ?_
          refine lv_aload_n hx hb dX6_task_68 rfl (lv_at hl 0 rfl) ?_
          refine va_get (D := D) (ci := 6) (v := .ref (a 2 0)) (C := RX6) (T := TX6) (N := 10) hx hb hG inG6 hown hK hP 0 at_C_0_0 rfl 1 (by decide) (hG _ g_225) (fun _ h9 => h9) rfl dX6_task_69 ?_
          refine va_get (D := D) (ci := 2) (v := .ref (a 2 7)) (C := RX2) (T := TX2) (N := 18) hx hb hG inG2 hown hK hP 4 at_C_2_0 rfl 12 (by decide) (hG _ g_150) (fun _ h9 => h9) rfl dX6_task_72 ?_
          refine lv_iload_n hx hb dX6_task_75 rfl (lv_at hl 1 rfl) ?_
          obtain ⟨hb76, hf⟩ := gd hf
          refine va_iald (cA := cI) (n := 6) (f := (C 2) 7) hx hb hK hP 11 0 at_C_2_7 rfl (inb_in hb76) dX6_task_76 ?_
          exact W.iret (v := ((C 2) 7 (Int32.toNatClampNeg p1))) hx hb hr (fun t ht hW => ⟨⟨((C 2) 7 (Int32.toNatClampNeg p1)), (), rfl, Option.some.inj hf, by rw [ht]; exact hP, hD⟩, hS.F ht⟩) hS.2.2 dX6_task_77
        · have hf := if_f sw2 hf
          by_cases sw3 : p2 = (3 : Int32)
          · have hf := if_t sw3 hf
            refine lv_tabK (tgt := 78) (k := (3 : Int32)) hx hb dX6_task_12 sw3 (by decide) (by decide) rfl (by decide) ?_
            refine lv_aload_n hx hb dX6_task_78 rfl (lv_at hl 0 rfl) ?_
            refine va_get (D := D) (ci := 6) (v := .ref (a 2 0)) (C := RX6) (T := TX6) (N := 10) hx hb hG inG6 hown hK hP 0 at_C_0_0 rfl 1 (by decide) (hG _ g_225) (fun _ h9 => h9) rfl dX6_task_79 ?_
            refine va_get (D := D) (ci := 2) (v := .ref (a 2 8)) (C := RX2) (T := TX2) (N := 18) hx hb hG inG2 hown hK hP 4 at_C_2_0 rfl 13 (by decide) (hG _ g_153) (fun _ h9 => h9) rfl dX6_task_82 ?_
            refine lv_iload_n hx hb dX6_task_85 rfl (lv_at hl 1 rfl) ?_
            obtain ⟨hb86, hf⟩ := gd hf
            refine va_iald (cA := cI) (n := 6) (f := (C 2) 8) hx hb hK hP 12 0 at_C_2_8 rfl (inb_in hb86) dX6_task_86 ?_
            exact W.iret (v := ((C 2) 8 (Int32.toNatClampNeg p1))) hx hb hr (fun t ht hW => ⟨⟨((C 2) 8 (Int32.toNatClampNeg p1)), (), rfl, Option.some.inj hf, by rw [ht]; exact hP, hD⟩, hS.F ht⟩) hS.2.2 dX6_task_87
          · have hf := if_f sw3 hf
            by_cases sw4 : p2 = (4 : Int32)
            · have hf := if_t sw4 hf
              refine lv_tabK (tgt := 88) (k := (4 : Int32)) hx hb dX6_task_12 sw4 (by decide) (by decide) rfl (by decide) ?_
              refine lv_aload_n hx hb dX6_task_88 rfl (lv_at hl 0 rfl) ?_
              refine va_get (D := D) (ci := 6) (v := .ref (a 2 0)) (C := RX6) (T := TX6) (N := 10) hx hb hG inG6 hown hK hP 0 at_C_0_0 rfl 1 (by decide) (hG _ g_225) (fun _ h9 => h9) rfl dX6_task_89 ?_
              refine lv_iload_n hx hb dX6_task_92 rfl (lv_at hl 1 rfl) ?_
              obtain ⟨q2, hq2, hf⟩ := bd_x hf
              have hPc := subP [4, 5, 6, 7, 8, 9, 10, 11, 12, 13, 14, 15, 16] sub_C_L_2 hP
              have hDc := va_D.sub hD [4, 5, 6, 7, 8, 9, 10, 11, 12, 13, 14, 15, 16] rfl sub_C_L_2
              have hFc := va_free hD hS hA [4, 5, 6, 7, 8, 9, 10, 11, 12, 13, 14, 15, 16] sub_C_L_2
              refine va_calli (va_runV (As := [.int p1]) (rest := []) ⟨hx, hb, hml, hown, hG⟩ (c_X2_tricksOf l D cI cZ (a 2) (C 2) p1 H.size hq2) (cwV 1 hG (gV g_358 g_359 g_360 g_72 g_361) rfl rfl rfl (by decide +kernel) ⟨Nat.le_of_ble_eq_true rfl, Nat.le_of_ble_eq_true rfl⟩) ⟨pre_blind, va_recv hK hPc (ci := 2) (q0 := 0) rfl rfl, fun U hU hW => ⟨rfl, pre_of hPc hK hDc hnw hU hW⟩⟩ rfl rfl hl.1 rfl (lv_room (Nat.le_of_ble_eq_true rfl)) dX6_task_93 ⟨Nat.le_of_ble_eq_true rfl, Nat.le_of_ble_eq_true rfl⟩) hS (fun q _ h => hFc q h) hFc (fun v u t H locs ht hvm hw hB hz1 hk1 hS => ?_)
              have hw := hw.symm; subst hw
              obtain ⟨hP1, hD1⟩ := hB
              rw [ht] at hP1
              obtain ⟨hP, hD⟩ := back hP hD [4, 5, 6, 7, 8, 9, 10, 11, 12, 13, 14, 15, 16] sub_C_L_2 rfl hk1 hFc hP1 hD1
              have hP := wP put_C_L_2_ hP
              have hD := wD put_C_L_2_ hD
              exact W.iret (v := q2) hx hb hr (fun t ht hW => ⟨⟨q2, (), rfl, Option.some.inj hf, by rw [ht]; exact hP, hD⟩, hS.F ht⟩) hS.2.2 dX6_task_96
            · have hf := if_f sw4 hf
              refine lv_tableOut (tgt := 97) hx hb dX6_task_12 (by have z0 := lv_neT (k := (0 : Int32)) (a := 0) sw0 rfl; have z1 := lv_neT (k := (1 : Int32)) (a := 1) sw1 rfl; have z2 := lv_neT (k := (2 : Int32)) (a := 2) sw2 rfl; have z3 := lv_neT (k := (3 : Int32)) (a := 3) sw3 rfl; have z4 := lv_neT (k := (4 : Int32)) (a := 4) sw4 rfl; omega) (by decide) ?_
              refine lv_ldc hx hb hown (hG _ g_238) dX6_task_97 ?_
              exact W.iret (v := (-1000000002 : Int32)) hx hb hr (fun t ht hW => ⟨⟨(-1000000002 : Int32), (), rfl, Option.some.inj hf, by rw [ht]; exact hP, hD⟩, hS.F ht⟩) hS.2.2 dX6_task_99
  · have hf := if_t cc5 hf
    refine lv_ldc hx hb hown (hG _ g_321) dX6_task_8 ?_
    exact W.iret (v := (-1000000001 : Int32)) hx hb hr (fun t ht hW => ⟨⟨(-1000000001 : Int32), (), rfl, Option.some.inj hf, by rw [ht]; exact hP, hD⟩, hS.F ht⟩) hS.2.2 dX6_task_10
def f_X6_trick (C : CC) (p1 : Int32) (p2 : Int32) : Option (Int32) := (if p1 < 0 then some (-1000000001 : Int32) else (if p1 < ((C 2) 0 4) then (if p2 = (0 : Int32) then (if inb p1 4 then some ((C 2) 9 (Int32.toNatClampNeg p1)) else none) else (if p2 = (1 : Int32) then (if inb p1 4 then some ((C 2) 10 (Int32.toNatClampNeg p1)) else none) else (if p2 = (2 : Int32) then (if inb p1 4 then some ((C 2) 11 (Int32.toNatClampNeg p1)) else none) else some (-1000000002 : Int32)))) else some (-1000000001 : Int32)))
abbrev RM_X6_trick : Room := { frames := 0, cells := 0, slots := 0, locals := 0 }
set_option maxHeartbeats 4000000 in
set_option maxRecDepth 100000 in
theorem c_X6_trick (l : Launch) (D : va_G) (cI cZ : ClassId) (a : Nat → Nat → Nat) (C : CC) (p1 : Int32) (p2 : Int32) (sz : Nat) {r : Int32} (hf : f_X6_trick C p1 p2 = some r) : Met l yX6_trick (wM yX6_trick cX6_trick 3 (some .int)) RM_X6_trick (va_Pc [.ref (a 0 0), .int p1, .int p2] (pre D cI cZ (cW cI a C) sz)) (QI0 D (va_A (cW cI a C) sz) (cW cI a C) r) 0 0 (va_A (cW cI a C) sz) := by
  unfold f_X6_trick at hf
  refine Met.ofW (cc := cX6_trick) (maxL := 3) (ret := (some .int)) (by decide) rfl ?_
  intro p e s m args below meth c s₁ B hml hv
  obtain ⟨rfl, hsz, hP, hK, hD0, hnw⟩ := hv
  have hx := B.exec
  have hb := B.bytes
  have hr := B.returns
  have hts := atoms_spec (ws := wM yX6_trick cX6_trick 3 (some .int)) B.pre
  have hG : ∀ w ∈ GW, w.before (([.ref (a 0 0), .int p1, .int p2] : List Value).toArray) s = true := fun w h => hts w (List.mem_cons_of_mem _ h)
  have hown : s.vm.findClass RX6 = some m.cls := findClass_of_methodNamed B.named
  have hlocks := B.notSynchronized
  subst hsz
  have hD := hD0.self (sz := s.heap.size)
  generalize hAe : va_A (cW cI a C) s.heap.size = A at hD ⊢
  have hA : ∀ q : Nat, s.heap.size ≤ q → A q := fun q h => by rw [← hAe]; exact Or.inr h
  have hS : va_S A s.heap s.heap [] := va_S.rf
  have hl := lv_entry ([.ref (a 0 0), .int p1, .int p2]) (n := 3) (Nat.le_of_ble_eq_true rfl)
  rw [lg_entry_eq]
  generalize (lg_sl ([.ref (a 0 0), .int p1, .int p2]) ++ List.replicate (3 - (lg_sl ([.ref (a 0 0), .int p1, .int p2])).length) Slot.unset).toArray = ls at hl ⊢
  have hl : lv_has ls 3 [(0, .ref (a 0 0)), (1, .int p1), (2, .int p2)] := hl
  show W p l e RM_X6_trick s m (([.ref (a 0 0), .int p1, .int p2] : List Value).toArray) below meth c s.heap [] 0 0 (MQ below (QI0 D A (cW cI a C) r) (([.ref (a 0 0), .int p1, .int p2] : List Value).toArray) s 0 0 A) (F0 m 0 ls [])
  refine lv_iload_n hx hb dX6_trick_0 rfl (lv_at hl 1 rfl) ?_
  refine lv_if_lt (tgt := 15) hx hb dX6_trick_1 (by decide) (fun cc1 => ?_) (fun cc1 => ?_)
  · have hf := if_t cc1 hf
    refine lv_ldc hx hb hown (hG _ g_321) dX6_trick_15 ?_
    exact W.iret (v := (-1000000001 : Int32)) hx hb hr (fun t ht hW => ⟨⟨(-1000000001 : Int32), (), rfl, Option.some.inj hf, by rw [ht]; exact hP, hD⟩, hS.F ht⟩) hS.2.2 dX6_trick_17
  · have hf := if_f cc1 hf
    refine lv_iload_n hx hb dX6_trick_4 rfl (lv_at hl 1 rfl) ?_
    refine lv_aload_n hx hb dX6_trick_5 rfl (lv_at hl 0 rfl) ?_
    refine va_get (D := D) (ci := 6) (v := .ref (a 2 0)) (C := RX6) (T := TX6) (N := 10) hx hb hG inG6 hown hK hP 0 at_C_0_0 rfl 1 (by decide) (hG _ g_225) (fun _ h9 => h9) rfl dX6_trick_6 ?_
    refine va_get (D := D) (ci := 2) (v := .int ((C 2) 0 4)) (C := RX2) (T := TX2) (N := 18) hx hb hG inG2 hown hK hP 4 at_C_2_0 rfl 4 (by decide) (hG _ g_124) (fun _ h9 => h9) rfl dX6_trick_9 ?_
    refine lv_icmp_lt (tgt := 18) hx hb dX6_trick_12 (by decide) (fun cc12 => ?_) (fun cc12 => ?_)
    · have hf := if_t cc12 hf
      refine lv_iload_n hx hb dX6_trick_18 rfl (lv_at hl 2 rfl) ?_
      by_cases sw0 : p2 = (0 : Int32)
      · have hf := if_t sw0 hf
        refine lv_tabK (tgt := 44) (k := (0 : Int32)) hx hb dX6_trick_19 sw0 (by decide) (by decide) rfl (by decide) ?_
        refine lv_aload_n hx hb dX6_trick_44 rfl (lv_at hl 0 rfl) ?_
        refine va_get (D := D) (ci := 6) (v := .ref (a 2 0)) (C := RX6) (T := TX6) (N := 10) hx hb hG inG6 hown hK hP 0 at_C_0_0 rfl 1 (by decide) (hG _ g_225) (fun _ h9 => h9) rfl dX6_trick_45 ?_
        refine va_get (D := D) (ci := 2) (v := .ref (a 2 9)) (C := RX2) (T := TX2) (N := 18) hx hb hG inG2 hown hK hP 4 at_C_2_0 rfl 14 (by decide) (hG _ g_156) (fun _ h9 => h9) rfl dX6_trick_48 ?_
        refine lv_iload_n hx hb dX6_trick_51 rfl (lv_at hl 1 rfl) ?_
        obtain ⟨hb52, hf⟩ := gd hf
        refine va_iald (cA := cI) (n := 4) (f := (C 2) 9) hx hb hK hP 13 0 at_C_2_9 rfl (inb_in hb52) dX6_trick_52 ?_
        exact W.iret (v := ((C 2) 9 (Int32.toNatClampNeg p1))) hx hb hr (fun t ht hW => ⟨⟨((C 2) 9 (Int32.toNatClampNeg p1)), (), rfl, Option.some.inj hf, by rw [ht]; exact hP, hD⟩, hS.F ht⟩) hS.2.2 dX6_trick_53
      · have hf := if_f sw0 hf
        by_cases sw1 : p2 = (1 : Int32)
        · have hf := if_t sw1 hf
          refine lv_tabK (tgt := 54) (k := (1 : Int32)) hx hb dX6_trick_19 sw1 (by decide) (by decide) rfl (by decide) ?_
          refine lv_aload_n hx hb dX6_trick_54 rfl (lv_at hl 0 rfl) ?_
          refine va_get (D := D) (ci := 6) (v := .ref (a 2 0)) (C := RX6) (T := TX6) (N := 10) hx hb hG inG6 hown hK hP 0 at_C_0_0 rfl 1 (by decide) (hG _ g_225) (fun _ h9 => h9) rfl dX6_trick_55 ?_
          refine va_get (D := D) (ci := 2) (v := .ref (a 2 10)) (C := RX2) (T := TX2) (N := 18) hx hb hG inG2 hown hK hP 4 at_C_2_0 rfl 15 (by decide) (hG _ g_159) (fun _ h9 => h9) rfl dX6_trick_58 ?_
          refine lv_iload_n hx hb dX6_trick_61 rfl (lv_at hl 1 rfl) ?_
          obtain ⟨hb62, hf⟩ := gd hf
          refine va_iald (cA := cI) (n := 4) (f := (C 2) 10) hx hb hK hP 14 0 at_C_2_10 rfl (inb_in hb62) dX6_trick_62 ?_
          exact W.iret (v := ((C 2) 10 (Int32.toNatClampNeg p1))) hx hb hr (fun t ht hW => ⟨⟨((C 2) 10 (Int32.toNatClampNeg p1)), (), rfl, Option.some.inj hf, by rw [ht]; exact hP, hD⟩, hS.F ht⟩) hS.2.2 dX6_trick_63
        · have hf := if_f sw1 hf
          by_cases sw2 : p2 = (2 : Int32)
          · have hf := if_t sw2 hf
            refine lv_tabK (tgt := 64) (k := (2 : Int32)) hx hb dX6_trick_19 sw2 (by decide) (by decide) rfl (by decide) ?_
            refine lv_aload_n hx hb dX6_trick_64 rfl (lv_at hl 0 rfl) ?_
            refine va_get (D := D) (ci := 6) (v := .ref (a 2 0)) (C := RX6) (T := TX6) (N := 10) hx hb hG inG6 hown hK hP 0 at_C_0_0 rfl 1 (by decide) (hG _ g_225) (fun _ h9 => h9) rfl dX6_trick_65 ?_
            refine va_get (D := D) (ci := 2) (v := .ref (a 2 11)) (C := RX2) (T := TX2) (N := 18) hx hb hG inG2 hown hK hP 4 at_C_2_0 rfl 16 (by decide) (hG _ g_162) (fun _ h9 => h9) rfl dX6_trick_68 ?_
            refine lv_iload_n hx hb dX6_trick_71 rfl (lv_at hl 1 rfl) ?_
            obtain ⟨hb72, hf⟩ := gd hf
            refine va_iald (cA := cI) (n := 4) (f := (C 2) 11) hx hb hK hP 15 0 at_C_2_11 rfl (inb_in hb72) dX6_trick_72 ?_
            exact W.iret (v := ((C 2) 11 (Int32.toNatClampNeg p1))) hx hb hr (fun t ht hW => ⟨⟨((C 2) 11 (Int32.toNatClampNeg p1)), (), rfl, Option.some.inj hf, by rw [ht]; exact hP, hD⟩, hS.F ht⟩) hS.2.2 dX6_trick_73
          · have hf := if_f sw2 hf
            refine lv_tableOut (tgt := 74) hx hb dX6_trick_19 (by have z0 := lv_neT (k := (0 : Int32)) (a := 0) sw0 rfl; have z1 := lv_neT (k := (1 : Int32)) (a := 1) sw1 rfl; have z2 := lv_neT (k := (2 : Int32)) (a := 2) sw2 rfl; omega) (by decide) ?_
            refine lv_ldc hx hb hown (hG _ g_238) dX6_trick_74 ?_
            exact W.iret (v := (-1000000002 : Int32)) hx hb hr (fun t ht hW => ⟨⟨(-1000000002 : Int32), (), rfl, Option.some.inj hf, by rw [ht]; exact hP, hD⟩, hS.F ht⟩) hS.2.2 dX6_trick_76
    · have hf := if_f cc12 hf
      refine lv_ldc hx hb hown (hG _ g_321) dX6_trick_15 ?_
      exact W.iret (v := (-1000000001 : Int32)) hx hb hr (fun t ht hW => ⟨⟨(-1000000001 : Int32), (), rfl, Option.some.inj hf, by rw [ht]; exact hP, hD⟩, hS.F ht⟩) hS.2.2 dX6_trick_17
def f_X6_readBelt (C : CC) (p1 : Int32) (p2 : Int32) : Option (Int32 × CC) := bd (f_X6_slot p1 p2) (fun (q1 : Int32) => (if inb q1 30 then bd (f_X6_readsNow C p2) (fun (q2 : Int32) => (if inb q1 30 then nm (va_up C 4 (sa (C 4) 4 q1 (if ((C 4) 4 (Int32.toNatClampNeg q1)) < q2 then q2 else ((C 4) 4 (Int32.toNatClampNeg q1))))) (fun (X3 : CC) => (if inb q1 30 then some (((X3 4) 4 (Int32.toNatClampNeg q1)), X3) else none)) else none)) else none))
abbrev RM_X6_readBelt : Room := { frames := 3, cells := 0, slots := 0, locals := 64 }
set_option maxHeartbeats 4000000 in
set_option maxRecDepth 100000 in
theorem c_X6_readBelt (l : Launch) (D : va_G) (cI cZ : ClassId) (a : Nat → Nat → Nat) (C : CC) (p1 : Int32) (p2 : Int32) (sz : Nat) {r : Int32 × CC} (hf : f_X6_readBelt C p1 p2 = some r) : Met l yX6_readBelt (wM yX6_readBelt cX6_readBelt 4 (some .int)) RM_X6_readBelt (va_Pc [.ref (a 0 0), .int p1, .int p2] (pre D cI cZ (cW cI a C) sz)) (QI D (va_A (cW cI a C) sz) (fun (u : CC) => (cW cI a u)) r) 0 0 (va_A (cW cI a C) sz) := by
  unfold f_X6_readBelt at hf
  refine Met.ofW (cc := cX6_readBelt) (maxL := 4) (ret := (some .int)) (by decide) rfl ?_
  intro p e s m args below meth c s₁ B hml hv
  obtain ⟨rfl, hsz, hP, hK, hD0, hnw⟩ := hv
  have hx := B.exec
  have hb := B.bytes
  have hr := B.returns
  have hts := atoms_spec (ws := wM yX6_readBelt cX6_readBelt 4 (some .int)) B.pre
  have hG : ∀ w ∈ GW, w.before (([.ref (a 0 0), .int p1, .int p2] : List Value).toArray) s = true := fun w h => hts w (List.mem_cons_of_mem _ h)
  have hown : s.vm.findClass RX6 = some m.cls := findClass_of_methodNamed B.named
  have hlocks := B.notSynchronized
  subst hsz
  have hD := hD0.self (sz := s.heap.size)
  generalize hAe : va_A (cW cI a C) s.heap.size = A at hD ⊢
  have hA : ∀ q : Nat, s.heap.size ≤ q → A q := fun q h => by rw [← hAe]; exact Or.inr h
  have hS : va_S A s.heap s.heap [] := va_S.rf
  have hl := lv_entry ([.ref (a 0 0), .int p1, .int p2]) (n := 4) (Nat.le_of_ble_eq_true rfl)
  rw [lg_entry_eq]
  generalize (lg_sl ([.ref (a 0 0), .int p1, .int p2]) ++ List.replicate (4 - (lg_sl ([.ref (a 0 0), .int p1, .int p2])).length) Slot.unset).toArray = ls at hl ⊢
  have hl : lv_has ls 4 [(0, .ref (a 0 0)), (1, .int p1), (2, .int p2)] := hl
  show W p l e RM_X6_readBelt s m (([.ref (a 0 0), .int p1, .int p2] : List Value).toArray) below meth c s.heap [] 0 0 (MQ below (QI D A (fun (u : CC) => (cW cI a u)) r) (([.ref (a 0 0), .int p1, .int p2] : List Value).toArray) s 0 0 A) (F0 m 0 ls [])
  refine lv_iload_n hx hb dX6_readBelt_0 rfl (lv_at hl 1 rfl) ?_
  refine lv_iload_n hx hb dX6_readBelt_1 rfl (lv_at hl 2 rfl) ?_
  obtain ⟨q1, hq1, hf⟩ := bd_x hf
  have hFc := va_free (wc := []) hD hS hA [] rfl
  refine va_calli (va_runS (As := [.int p1, .int p2]) (rest := []) ⟨hx, hb, hml, hown, hG⟩ (c_X6_slot l D cI cZ p1 p2 s.heap.size hq1) (cwS 2 hG (gS g_313 g_296 g_70 g_297) rfl rfl rfl (by decide +kernel) ⟨Nat.le_of_ble_eq_true rfl, Nat.le_of_ble_eq_true rfl⟩) ⟨pre_blind, fun U hU hW => ⟨rfl, pre_of P_nil hK D_nil hnw hU hW⟩⟩ rfl rfl hl.1 rfl (lv_room (Nat.le_of_ble_eq_true rfl)) dX6_readBelt_2 ⟨Nat.le_of_ble_eq_true rfl, Nat.le_of_ble_eq_true rfl⟩) hS (fun q _ h => hFc q h) hFc (fun v u t H locs ht hvm hw hB hz1 hk1 hS => ?_)
  have hw := hw.symm; subst hw
  obtain ⟨hP1, hD1⟩ := hB
  rw [ht] at hP1
  obtain ⟨hP, hD⟩ := back hP hD [] rfl rfl hk1 hFc hP1 hD1
  refine lv_istore_n (lv' := [(3, .int q1), (0, .ref (a 0 0)), (1, .int p1), (2, .int p2)]) hx hb dX6_readBelt_5 rfl hl (by decide) rfl (fun ls hl => ?_)
  refine lv_aload_n hx hb dX6_readBelt_6 rfl (lv_at hl 1 rfl) ?_
  refine va_get (D := D) (ci := 6) (v := .ref (a 4 0)) (C := RX6) (T := TX6) (N := 10) hx hb hG inG6 hown hK hP 0 at_C_0_0 rfl 3 (by decide) (hG _ g_227) (fun _ h9 => h9) rfl dX6_readBelt_7 ?_
  refine va_get (D := D) (ci := 4) (v := .ref (a 4 4)) (C := RX4) (T := TX4) (N := 7) hx hb hG inG4 hown hK hP 30 at_C_4_0 rfl 3 (by decide) (hG _ g_186) (fun _ h9 => h9) rfl dX6_readBelt_10 ?_
  refine lv_iload_n hx hb dX6_readBelt_13 rfl (lv_at hl 0 rfl) ?_
  refine lv_aload_n hx hb dX6_readBelt_14 rfl (lv_at hl 1 rfl) ?_
  refine va_get (D := D) (ci := 6) (v := .ref (a 4 0)) (C := RX6) (T := TX6) (N := 10) hx hb hG inG6 hown hK hP 0 at_C_0_0 rfl 3 (by decide) (hG _ g_227) (fun _ h9 => h9) rfl dX6_readBelt_15 ?_
  refine va_get (D := D) (ci := 4) (v := .ref (a 4 4)) (C := RX4) (T := TX4) (N := 7) hx hb hG inG4 hown hK hP 30 at_C_4_0 rfl 3 (by decide) (hG _ g_186) (fun _ h9 => h9) rfl dX6_readBelt_18 ?_
  refine lv_iload_n hx hb dX6_readBelt_21 rfl (lv_at hl 0 rfl) ?_
  obtain ⟨hb22, hf⟩ := gd hf
  refine va_iald (cA := cI) (n := 30) (f := (C 4) 4) hx hb hK hP 34 0 at_C_4_4 rfl (inb_in hb22) dX6_readBelt_22 ?_
  refine lv_aload_n hx hb dX6_readBelt_23 rfl (lv_at hl 1 rfl) ?_
  refine lv_iload_n hx hb dX6_readBelt_24 rfl (lv_at hl 3 rfl) ?_
  obtain ⟨q2, hq2, hf⟩ := bd_x hf
  have hFc := freeS hD hS hA
  refine va_calli (va_runV (As := [.int p2]) (rest := [.int ((C 4) 4 (Int32.toNatClampNeg q1)), .int q1, .ref (a 4 4)]) ⟨hx, hb, hml, hown, hG⟩ (c_X6_readsNow l D cI cZ a C p2 H.size hq2) (cwV 1 hG (gV g_322 g_323 g_14 g_70 g_324) rfl rfl rfl (by decide +kernel) ⟨Nat.le_of_ble_eq_true rfl, Nat.le_of_ble_eq_true rfl⟩) ⟨pre_blind, va_recv hK hP (ci := 6) (q0 := 0) rfl rfl, fun U hU hW => ⟨rfl, pre_of hP hK hD hnw hU hW⟩⟩ rfl rfl hl.1 rfl (lv_room (Nat.le_of_ble_eq_true rfl)) dX6_readBelt_25 ⟨Nat.le_of_ble_eq_true rfl, Nat.le_of_ble_eq_true rfl⟩) hS (fun q _ h => hFc q h) hFc (fun v u t H locs ht hvm hw hB hz1 hk1 hS => ?_)
  have hw := hw.symm; subst hw
  obtain ⟨hP1, hD1⟩ := hB
  rw [ht] at hP1
  have hP := hP1
  have hD := hD1.weaken (fun _ q _ h => hFc q.1 h)
  refine va_mmax hx hb (hml.trans hl.1.symm) hown (hG _ g_373) (hG _ g_374) (hG _ g_78) (hG _ g_375) (Nat.le_of_ble_eq_true rfl) (Nat.le_of_ble_eq_true rfl) (Nat.zero_le _) (Nat.zero_le _) dX6_readBelt_28 ?_
  obtain ⟨hb31, hf⟩ := gd hf
  refine va_iast (cA := cI) (n := 30) (f := (C 4) 4) hx hb hK hP hD hS 34 0 at_C_4_4 rfl (inb_in hb31) dX6_readBelt_31 (fun H locs hP hD hS => ?_)
  obtain ⟨X3, eX3⟩ : ∃ y : CC, y = (va_up C 4 (sa (C 4) 4 q1 (if ((C 4) 4 (Int32.toNatClampNeg q1)) < q2 then q2 else ((C 4) 4 (Int32.toNatClampNeg q1))))) := ⟨_, rfl⟩
  have hf := nm_x eX3 hf
  have hP := wP (sa_C_4_4.trans (congrArg (fun z => cW cI a z) eX3.symm)) hP
  have hD := wD (sa_C_4_4.trans (congrArg (fun z => cW cI a z) eX3.symm)) hD
  refine lv_aload_n hx hb dX6_readBelt_32 rfl (lv_at hl 1 rfl) ?_
  refine va_get (D := D) (ci := 6) (v := .ref (a 4 0)) (C := RX6) (T := TX6) (N := 10) hx hb hG inG6 hown hK hP 0 at_C_0_0 rfl 3 (by decide) (hG _ g_227) (fun _ h9 => h9) rfl dX6_readBelt_33 ?_
  refine va_get (D := D) (ci := 4) (v := .ref (a 4 4)) (C := RX4) (T := TX4) (N := 7) hx hb hG inG4 hown hK hP 30 at_C_4_0 rfl 3 (by decide) (hG _ g_186) (fun _ h9 => h9) rfl dX6_readBelt_36 ?_
  refine lv_iload_n hx hb dX6_readBelt_39 rfl (lv_at hl 0 rfl) ?_
  obtain ⟨hb40, hf⟩ := gd hf
  refine va_iald (cA := cI) (n := 30) (f := (X3 4) 4) hx hb hK hP 34 0 at_C_4_4 rfl (inb_in hb40) dX6_readBelt_40 ?_
  exact W.iret (v := ((X3 4) 4 (Int32.toNatClampNeg q1))) hx hb hr (fun t ht hW => ⟨⟨((X3 4) 4 (Int32.toNatClampNeg q1)), X3, rfl, ⟨pr_1 hf, pr_2 hf⟩, by rw [ht]; exact hP, hD⟩, hS.F ht⟩) hS.2.2 dX6_readBelt_41
def f_X6_read (C : CC) (p1 : Int32) (p2 : Int32) : Option (Int32 × CC) := bd (f_X6_isPerson C p1) (fun (q1 : Int32) => (if q1 = 0 then some ((-1000000001 : Int32), C) else bd (f_X6_isFighter C p2) (fun (q2 : Int32) => (if q2 = 0 then some ((-1000000001 : Int32), C) else bd (f_X6_readBelt C p1 p2) (fun (q3 : Int32 × CC) => some (q3.1, q3.2))))))
abbrev RM_X6_read : Room := { frames := 4, cells := 0, slots := 0, locals := 87 }
set_option maxHeartbeats 4000000 in
set_option maxRecDepth 100000 in
theorem c_X6_read (l : Launch) (D : va_G) (cI cZ : ClassId) (a : Nat → Nat → Nat) (C : CC) (p1 : Int32) (p2 : Int32) (sz : Nat) {r : Int32 × CC} (hf : f_X6_read C p1 p2 = some r) : Met l yX6_read (wM yX6_read cX6_read 3 (some .int)) RM_X6_read (va_Pc [.ref (a 0 0), .int p1, .int p2] (pre D cI cZ (cW cI a C) sz)) (QI D (va_A (cW cI a C) sz) (fun (u : CC) => (cW cI a u)) r) 0 0 (va_A (cW cI a C) sz) := by
  unfold f_X6_read at hf
  refine Met.ofW (cc := cX6_read) (maxL := 3) (ret := (some .int)) (by decide) rfl ?_
  intro p e s m args below meth c s₁ B hml hv
  obtain ⟨rfl, hsz, hP, hK, hD0, hnw⟩ := hv
  have hx := B.exec
  have hb := B.bytes
  have hr := B.returns
  have hts := atoms_spec (ws := wM yX6_read cX6_read 3 (some .int)) B.pre
  have hG : ∀ w ∈ GW, w.before (([.ref (a 0 0), .int p1, .int p2] : List Value).toArray) s = true := fun w h => hts w (List.mem_cons_of_mem _ h)
  have hown : s.vm.findClass RX6 = some m.cls := findClass_of_methodNamed B.named
  have hlocks := B.notSynchronized
  subst hsz
  have hD := hD0.self (sz := s.heap.size)
  generalize hAe : va_A (cW cI a C) s.heap.size = A at hD ⊢
  have hA : ∀ q : Nat, s.heap.size ≤ q → A q := fun q h => by rw [← hAe]; exact Or.inr h
  have hS : va_S A s.heap s.heap [] := va_S.rf
  have hl := lv_entry ([.ref (a 0 0), .int p1, .int p2]) (n := 3) (Nat.le_of_ble_eq_true rfl)
  rw [lg_entry_eq]
  generalize (lg_sl ([.ref (a 0 0), .int p1, .int p2]) ++ List.replicate (3 - (lg_sl ([.ref (a 0 0), .int p1, .int p2])).length) Slot.unset).toArray = ls at hl ⊢
  have hl : lv_has ls 3 [(0, .ref (a 0 0)), (1, .int p1), (2, .int p2)] := hl
  show W p l e RM_X6_read s m (([.ref (a 0 0), .int p1, .int p2] : List Value).toArray) below meth c s.heap [] 0 0 (MQ below (QI D A (fun (u : CC) => (cW cI a u)) r) (([.ref (a 0 0), .int p1, .int p2] : List Value).toArray) s 0 0 A) (F0 m 0 ls [])
  refine lv_aload_n hx hb dX6_read_0 rfl (lv_at hl 0 rfl) ?_
  refine lv_iload_n hx hb dX6_read_1 rfl (lv_at hl 1 rfl) ?_
  obtain ⟨q1, hq1, hf⟩ := bd_x hf
  have hFc := freeS hD hS hA
  refine va_calli (va_runV (As := [.int p1]) (rest := []) ⟨hx, hb, hml, hown, hG⟩ (c_X6_isPerson l D cI cZ a C p1 s.heap.size hq1) (cwV 1 hG (gV g_344 g_345 g_16 g_70 g_346) rfl rfl rfl (by decide +kernel) ⟨Nat.le_of_ble_eq_true rfl, Nat.le_of_ble_eq_true rfl⟩) ⟨pre_blind, va_recv hK hP (ci := 6) (q0 := 0) rfl rfl, fun U hU hW => ⟨rfl, pre_of hP hK hD hnw hU hW⟩⟩ rfl rfl hl.1 rfl (lv_room (Nat.le_of_ble_eq_true rfl)) dX6_read_2 ⟨Nat.le_of_ble_eq_true rfl, Nat.le_of_ble_eq_true rfl⟩) hS (fun q _ h => hFc q h) hFc (fun v u t H locs ht hvm hw hB hz1 hk1 hS => ?_)
  have hw := hw.symm; subst hw
  obtain ⟨hP1, hD1⟩ := hB
  rw [ht] at hP1
  have hP := hP1
  have hD := hD1.weaken (fun _ q _ h => hFc q.1 h)
  refine lv_if_eq (tgt := 16) hx hb dX6_read_5 (by decide) (fun cc5 => ?_) (fun cc5 => ?_)
  · have hf := if_t cc5 hf
    refine lv_ldc hx hb hown (hG _ g_321) dX6_read_16 ?_
    exact W.iret (v := (-1000000001 : Int32)) hx hb hr (fun t ht hW => ⟨⟨(-1000000001 : Int32), C, rfl, ⟨pr_1 hf, pr_2 hf⟩, by rw [ht]; exact hP, hD⟩, hS.F ht⟩) hS.2.2 dX6_read_18
  · have hf := if_f cc5 hf
    refine lv_aload_n hx hb dX6_read_8 rfl (lv_at hl 0 rfl) ?_
    refine lv_iload_n hx hb dX6_read_9 rfl (lv_at hl 2 rfl) ?_
    obtain ⟨q2, hq2, hf⟩ := bd_x hf
    have hFc := freeS hD hS hA
    refine va_calli (va_runV (As := [.int p2]) (rest := []) ⟨hx, hb, hml, hown, hG⟩ (c_X6_isFighter l D cI cZ a C p2 H.size hq2) (cwV 1 hG (gV g_318 g_319 g_13 g_70 g_320) rfl rfl rfl (by decide +kernel) ⟨Nat.le_of_ble_eq_true rfl, Nat.le_of_ble_eq_true rfl⟩) ⟨pre_blind, va_recv hK hP (ci := 6) (q0 := 0) rfl rfl, fun U hU hW => ⟨rfl, pre_of hP hK hD hnw hU hW⟩⟩ rfl rfl hl.1 rfl (lv_room (Nat.le_of_ble_eq_true rfl)) dX6_read_10 ⟨Nat.le_of_ble_eq_true rfl, Nat.le_of_ble_eq_true rfl⟩) hS (fun q _ h => hFc q h) hFc (fun v u t H locs ht hvm hw hB hz1 hk1 hS => ?_)
    have hw := hw.symm; subst hw
    obtain ⟨hP1, hD1⟩ := hB
    rw [ht] at hP1
    have hP := hP1
    have hD := hD1.weaken (fun _ q _ h => hFc q.1 h)
    refine lv_if_ne (tgt := 19) hx hb dX6_read_13 (by decide) (fun cc13 => ?_) (fun cc13 => ?_)
    · have hf := if_f cc13 hf
      refine lv_aload_n hx hb dX6_read_19 rfl (lv_at hl 0 rfl) ?_
      refine lv_iload_n hx hb dX6_read_20 rfl (lv_at hl 1 rfl) ?_
      refine lv_iload_n hx hb dX6_read_21 rfl (lv_at hl 2 rfl) ?_
      obtain ⟨q3, hq3, hf⟩ := bd_x hf
      have hFc := freeS hD hS hA
      refine va_calli (va_runV (As := [.int p1, .int p2]) (rest := []) ⟨hx, hb, hml, hown, hG⟩ (c_X6_readBelt l D cI cZ a C p1 p2 H.size hq3) (cwV 2 hG (gV g_370 g_371 g_18 g_70 g_372) rfl rfl rfl (by decide +kernel) ⟨Nat.le_of_ble_eq_true rfl, Nat.le_of_ble_eq_true rfl⟩) ⟨pre_blind, va_recv hK hP (ci := 6) (q0 := 0) rfl rfl, fun U hU hW => ⟨rfl, pre_of hP hK hD hnw hU hW⟩⟩ rfl rfl hl.1 rfl (lv_room (Nat.le_of_ble_eq_true rfl)) dX6_read_22 ⟨Nat.le_of_ble_eq_true rfl, Nat.le_of_ble_eq_true rfl⟩) hS (fun q _ h => hFc q h) hFc (fun v u t H locs ht hvm hw hB hz1 hk1 hS => ?_)
      obtain ⟨rfl, rfl⟩ := hw
      obtain ⟨hP1, hD1⟩ := hB
      rw [ht] at hP1
      have hP := hP1
      have hD := hD1.weaken (fun _ q _ h => hFc q.1 h)
      exact W.iret (v := q3.1) hx hb hr (fun t ht hW => ⟨⟨q3.1, q3.2, rfl, ⟨pr_1 hf, pr_2 hf⟩, by rw [ht]; exact hP, hD⟩, hS.F ht⟩) hS.2.2 dX6_read_25
    · have hf := if_t cc13 hf
      refine lv_ldc hx hb hown (hG _ g_321) dX6_read_16 ?_
      exact W.iret (v := (-1000000001 : Int32)) hx hb hr (fun t ht hW => ⟨⟨(-1000000001 : Int32), C, rfl, ⟨pr_1 hf, pr_2 hf⟩, by rw [ht]; exact hP, hD⟩, hS.F ht⟩) hS.2.2 dX6_read_18
def f_X6_mostAround_j65 (rc17 : Int32 → Int32 → Option (Int32)) (v4 : Int32) (v6 : Int32) : Option (Int32) := nm (v4 + (1 : Int32)) (fun (v7 : Int32) => rc17 v6 v7)
def f_X6_mostAround_b17 (C : CC) (p1 : Int32) (p2 : Int32) (rc17 : Int32 → Int32 → Option (Int32)) (v3 : Int32) (v4 : Int32) : Option (Int32) := (if ((C 2) 0 0) ≤ v4 then some v3 else (if inb p1 6 then bd (f_X6_has ((C 2) 4 (Int32.toNatClampNeg p1)) v4) (fun (q5 : Int32) => (if q5 = 0 then f_X6_mostAround_j65 rc17 v4 v3 else bd (f_X6_slot v4 p2) (fun (q8 : Int32) => (if inb q8 30 then nm (if v3 < ((C 4) 4 (Int32.toNatClampNeg q8)) then ((C 4) 4 (Int32.toNatClampNeg q8)) else v3) (fun (v9 : Int32) => f_X6_mostAround_j65 rc17 v4 v9) else none)))) else none))
def f_X6_mostAround (C : CC) (p1 : Int32) (p2 : Int32) : Option (Int32) := bd (f_X6_slot p1 p2) (fun (q1 : Int32) => (if inb q1 30 then nm ((C 4) 4 (Int32.toNatClampNeg q1)) (fun (v2 : Int32) => lp (fun _ _ => none : Int32 → Int32 → Option (Int32)) (f_X6_mostAround_b17 C p1 p2) FU v2 (0 : Int32)) else none))
abbrev RM_X6_mostAround : Room := { frames := 1, cells := 0, slots := 0, locals := 21 }
set_option maxHeartbeats 4000000 in
set_option maxRecDepth 100000 in
theorem c_X6_mostAround (l : Launch) (D : va_G) (cI cZ : ClassId) (a : Nat → Nat → Nat) (C : CC) (p1 : Int32) (p2 : Int32) (sz : Nat) {r : Int32} (hf : f_X6_mostAround C p1 p2 = some r) : Met l yX6_mostAround (wM yX6_mostAround cX6_mostAround 5 (some .int)) RM_X6_mostAround (va_Pc [.ref (a 0 0), .int p1, .int p2] (pre D cI cZ (cW cI a C) sz)) (QI0 D (va_A (cW cI a C) sz) (cW cI a C) r) 0 0 (va_A (cW cI a C) sz) := by
  unfold f_X6_mostAround at hf
  refine Met.ofW (cc := cX6_mostAround) (maxL := 5) (ret := (some .int)) (by decide) rfl ?_
  intro p e s m args below meth c s₁ B hml hv
  obtain ⟨rfl, hsz, hP, hK, hD0, hnw⟩ := hv
  have hx := B.exec
  have hb := B.bytes
  have hr := B.returns
  have hts := atoms_spec (ws := wM yX6_mostAround cX6_mostAround 5 (some .int)) B.pre
  have hG : ∀ w ∈ GW, w.before (([.ref (a 0 0), .int p1, .int p2] : List Value).toArray) s = true := fun w h => hts w (List.mem_cons_of_mem _ h)
  have hown : s.vm.findClass RX6 = some m.cls := findClass_of_methodNamed B.named
  have hlocks := B.notSynchronized
  subst hsz
  have hD := hD0.self (sz := s.heap.size)
  generalize hAe : va_A (cW cI a C) s.heap.size = A at hD ⊢
  have hA : ∀ q : Nat, s.heap.size ≤ q → A q := fun q h => by rw [← hAe]; exact Or.inr h
  have hS : va_S A s.heap s.heap [] := va_S.rf
  have hl := lv_entry ([.ref (a 0 0), .int p1, .int p2]) (n := 5) (Nat.le_of_ble_eq_true rfl)
  rw [lg_entry_eq]
  generalize (lg_sl ([.ref (a 0 0), .int p1, .int p2]) ++ List.replicate (5 - (lg_sl ([.ref (a 0 0), .int p1, .int p2])).length) Slot.unset).toArray = ls at hl ⊢
  have hl : lv_has ls 5 [(0, .ref (a 0 0)), (1, .int p1), (2, .int p2)] := hl
  show W p l e RM_X6_mostAround s m (([.ref (a 0 0), .int p1, .int p2] : List Value).toArray) below meth c s.heap [] 0 0 (MQ below (QI0 D A (cW cI a C) r) (([.ref (a 0 0), .int p1, .int p2] : List Value).toArray) s 0 0 A) (F0 m 0 ls [])
  refine lv_aload_n hx hb dX6_mostAround_0 rfl (lv_at hl 0 rfl) ?_
  refine va_get (D := D) (ci := 6) (v := .ref (a 4 0)) (C := RX6) (T := TX6) (N := 10) hx hb hG inG6 hown hK hP 0 at_C_0_0 rfl 3 (by decide) (hG _ g_227) (fun _ h9 => h9) rfl dX6_mostAround_1 ?_
  refine va_get (D := D) (ci := 4) (v := .ref (a 4 4)) (C := RX4) (T := TX4) (N := 7) hx hb hG inG4 hown hK hP 30 at_C_4_0 rfl 3 (by decide) (hG _ g_186) (fun _ h9 => h9) rfl dX6_mostAround_4 ?_
  refine lv_iload_n hx hb dX6_mostAround_7 rfl (lv_at hl 1 rfl) ?_
  refine lv_iload_n hx hb dX6_mostAround_8 rfl (lv_at hl 2 rfl) ?_
  obtain ⟨q1, hq1, hf⟩ := bd_x hf
  have hFc := va_free (wc := []) hD hS hA [] rfl
  refine va_calli (va_runS (As := [.int p1, .int p2]) (rest := [.ref (a 4 4)]) ⟨hx, hb, hml, hown, hG⟩ (c_X6_slot l D cI cZ p1 p2 s.heap.size hq1) (cwS 2 hG (gS g_313 g_296 g_70 g_297) rfl rfl rfl (by decide +kernel) ⟨Nat.le_of_ble_eq_true rfl, Nat.le_of_ble_eq_true rfl⟩) ⟨pre_blind, fun U hU hW => ⟨rfl, pre_of P_nil hK D_nil hnw hU hW⟩⟩ rfl rfl hl.1 rfl (lv_room (Nat.le_of_ble_eq_true rfl)) dX6_mostAround_9 ⟨Nat.le_of_ble_eq_true rfl, Nat.le_of_ble_eq_true rfl⟩) hS (fun q _ h => hFc q h) hFc (fun v u t H locs ht hvm hw hB hz1 hk1 hS => ?_)
  have hw := hw.symm; subst hw
  obtain ⟨hP1, hD1⟩ := hB
  rw [ht] at hP1
  obtain ⟨hP, hD⟩ := back hP hD [] rfl rfl hk1 hFc hP1 hD1
  obtain ⟨hb12, hf⟩ := gd hf
  refine va_iald (cA := cI) (n := 30) (f := (C 4) 4) hx hb hK hP 34 0 at_C_4_4 rfl (inb_in hb12) dX6_mostAround_12 ?_
  refine lv_topi (fun v2 ev2 => ?_)
  have hf := nm_x ev2 hf
  refine lv_istore_n (lv' := [(3, .int v2), (0, .ref (a 0 0)), (1, .int p1), (2, .int p2)]) hx hb dX6_mostAround_13 rfl hl (by decide) rfl (fun ls hl => ?_)
  refine lv_iconst (v := (0 : Int32)) hx hb dX6_mostAround_14 (by decide) ?_
  refine lv_istore (lv' := [(4, .int (0 : Int32)), (3, .int v2), (0, .ref (a 0 0)), (1, .int p1), (2, .int p2)]) hx hb dX6_mostAround_15 hl (by decide) rfl (fun ls hl => ?_)
  have L17 : ∀ (n : Nat) (v3 : Int32) (v4 : Int32) (H : Heap) (locs : List Loc) (ls : Array Slot), va_P D vwCl (cW cI a C) H → va_D A (cW cI a C) → va_S A s.heap H locs → lv_has ls 5 [(0, .ref (a 0 0)), (1, .int p1), (2, .int p2), (3, .int v3), (4, .int v4)] → lp (fun _ _ => none : Int32 → Int32 → Option (Int32)) (f_X6_mostAround_b17 C p1 p2) n v3 v4 = some r → W p l e RM_X6_mostAround s m (([.ref (a 0 0), .int p1, .int p2] : List Value).toArray) below meth c H locs 0 0 (MQ below (QI0 D A (cW cI a C) r) (([.ref (a 0 0), .int p1, .int p2] : List Value).toArray) s 0 0 A) (F0 m 17 ls []) := by
    intro n
    induction n with
    | zero => intro v3 v4 H locs ls _ _ _ _ hf; cases (show (none : Option (Int32)) = some r from hf)
    | succ n ih17 =>
      intro v3 v4 H locs ls hP hD hS hl hf
      have hf : (f_X6_mostAround_b17 C p1 p2) (lp (fun _ _ => none : Int32 → Int32 → Option (Int32)) (f_X6_mostAround_b17 C p1 p2) n) v3 v4 = some r := hf
      generalize lp (fun _ _ => none : Int32 → Int32 → Option (Int32)) (f_X6_mostAround_b17 C p1 p2) n = rc17 at ih17 hf
      unfold f_X6_mostAround_b17 at hf
      refine lv_iload hx hb dX6_mostAround_17 (lv_at hl 4 rfl) ?_
      refine lv_aload_n hx hb dX6_mostAround_19 rfl (lv_at hl 0 rfl) ?_
      refine va_get (D := D) (ci := 6) (v := .ref (a 2 0)) (C := RX6) (T := TX6) (N := 10) hx hb hG inG6 hown hK hP 0 at_C_0_0 rfl 1 (by decide) (hG _ g_225) (fun _ h9 => h9) rfl dX6_mostAround_20 ?_
      refine va_get (D := D) (ci := 2) (v := .int ((C 2) 0 0)) (C := RX2) (T := TX2) (N := 18) hx hb hG inG2 hown hK hP 4 at_C_2_0 rfl 0 (by decide) (hG _ g_109) (fun _ h9 => h9) rfl dX6_mostAround_23 ?_
      refine lv_icmp_ge (tgt := 71) hx hb dX6_mostAround_26 (by decide) (fun cc26 => ?_) (fun cc26 => ?_)
      · have hf := if_t cc26 hf
        refine lv_iload_n hx hb dX6_mostAround_71 rfl (lv_at hl 3 rfl) ?_
        exact W.iret (v := v3) hx hb hr (fun t ht hW => ⟨⟨v3, (), rfl, Option.some.inj hf, by rw [ht]; exact hP, hD⟩, hS.F ht⟩) hS.2.2 dX6_mostAround_72
      · have hf := if_f cc26 hf
        refine lv_aload_n hx hb dX6_mostAround_29 rfl (lv_at hl 0 rfl) ?_
        refine va_get (D := D) (ci := 6) (v := .ref (a 2 0)) (C := RX6) (T := TX6) (N := 10) hx hb hG inG6 hown hK hP 0 at_C_0_0 rfl 1 (by decide) (hG _ g_225) (fun _ h9 => h9) rfl dX6_mostAround_30 ?_
        refine va_get (D := D) (ci := 2) (v := .ref (a 2 4)) (C := RX2) (T := TX2) (N := 18) hx hb hG inG2 hown hK hP 4 at_C_2_0 rfl 9 (by decide) (hG _ g_139) (fun _ h9 => h9) rfl dX6_mostAround_33 ?_
        refine lv_iload_n hx hb dX6_mostAround_36 rfl (lv_at hl 1 rfl) ?_
        obtain ⟨hb37, hf⟩ := gd hf
        refine va_iald (cA := cI) (n := 6) (f := (C 2) 4) hx hb hK hP 8 0 at_C_2_4 rfl (inb_in hb37) dX6_mostAround_37 ?_
        refine lv_iload hx hb dX6_mostAround_38 (lv_at hl 4 rfl) ?_
        obtain ⟨q5, hq5, hf⟩ := bd_x hf
        have hFc := va_free (wc := []) hD hS hA [] rfl
        refine va_calli (va_runS (As := [.int ((C 2) 4 (Int32.toNatClampNeg p1)), .int v4]) (rest := []) ⟨hx, hb, hml, hown, hG⟩ (c_X6_has l D cI cZ ((C 2) 4 (Int32.toNatClampNeg p1)) v4 H.size hq5) (cwS 2 hG (gS g_386 g_284 g_70 g_285) rfl rfl rfl (by decide +kernel) ⟨Nat.le_of_ble_eq_true rfl, Nat.le_of_ble_eq_true rfl⟩) ⟨pre_blind, fun U hU hW => ⟨rfl, pre_of P_nil hK D_nil hnw hU hW⟩⟩ rfl rfl hl.1 rfl (lv_room (Nat.le_of_ble_eq_true rfl)) dX6_mostAround_40 ⟨Nat.le_of_ble_eq_true rfl, Nat.le_of_ble_eq_true rfl⟩) hS (fun q _ h => hFc q h) hFc (fun v u t H locs ht hvm hw hB hz1 hk1 hS => ?_)
        have hw := hw.symm; subst hw
        obtain ⟨hP1, hD1⟩ := hB
        rw [ht] at hP1
        obtain ⟨hP, hD⟩ := back hP hD [] rfl rfl hk1 hFc hP1 hD1
        have J65 : ∀ (v6 : Int32) (H : Heap) (locs : List Loc) (ls : Array Slot), va_P D vwCl (cW cI a C) H → va_D A (cW cI a C) → va_S A s.heap H locs → lv_has ls 5 [(0, .ref (a 0 0)), (1, .int p1), (2, .int p2), (3, .int v6), (4, .int v4)] → f_X6_mostAround_j65 rc17 v4 v6 = some r → W p l e RM_X6_mostAround s m (([.ref (a 0 0), .int p1, .int p2] : List Value).toArray) below meth c H locs 0 0 (MQ below (QI0 D A (cW cI a C) r) (([.ref (a 0 0), .int p1, .int p2] : List Value).toArray) s 0 0 A) (F0 m 65 ls []) := by
          intro v6 H locs ls hP hD hS hl hf
          unfold f_X6_mostAround_j65 at hf
          obtain ⟨v7, ev7⟩ : ∃ y : Int32, y = (v4 + (1 : Int32)) := ⟨_, rfl⟩
          have hf := nm_x ev7 hf
          refine lv_iinc (v := v7) (lv' := [(4, .int v7), (0, .ref (a 0 0)), (1, .int p1), (2, .int p2), (3, .int v6)]) hx hb dX6_mostAround_65 hl (k := 4) rfl (by rw [ev7]; rfl) (by decide) rfl (fun ls hl => ?_)
          refine lv_goto (tgt := 17) hx hb dX6_mostAround_68 (by decide) ?_
          exact ih17 v6 v7 _ _ _ hP hD hS (lv_sub hl [1, 2, 3, 4, 0] rfl) hf
        refine lv_if_eq (tgt := 65) hx hb dX6_mostAround_43 (by decide) (fun cc43 => ?_) (fun cc43 => ?_)
        · have hf := if_t cc43 hf
          exact J65 v3 _ _ _ hP hD hS (lv_sub hl [0, 1, 2, 3, 4] rfl) hf
        · have hf := if_f cc43 hf
          refine lv_iload_n hx hb dX6_mostAround_46 rfl (lv_at hl 3 rfl) ?_
          refine lv_aload_n hx hb dX6_mostAround_47 rfl (lv_at hl 0 rfl) ?_
          refine va_get (D := D) (ci := 6) (v := .ref (a 4 0)) (C := RX6) (T := TX6) (N := 10) hx hb hG inG6 hown hK hP 0 at_C_0_0 rfl 3 (by decide) (hG _ g_227) (fun _ h9 => h9) rfl dX6_mostAround_48 ?_
          refine va_get (D := D) (ci := 4) (v := .ref (a 4 4)) (C := RX4) (T := TX4) (N := 7) hx hb hG inG4 hown hK hP 30 at_C_4_0 rfl 3 (by decide) (hG _ g_186) (fun _ h9 => h9) rfl dX6_mostAround_51 ?_
          refine lv_iload hx hb dX6_mostAround_54 (lv_at hl 4 rfl) ?_
          refine lv_iload_n hx hb dX6_mostAround_56 rfl (lv_at hl 2 rfl) ?_
          obtain ⟨q8, hq8, hf⟩ := bd_x hf
          have hFc := va_free (wc := []) hD hS hA [] rfl
          refine va_calli (va_runS (As := [.int v4, .int p2]) (rest := [.ref (a 4 4), .int v3]) ⟨hx, hb, hml, hown, hG⟩ (c_X6_slot l D cI cZ v4 p2 H.size hq8) (cwS 2 hG (gS g_313 g_296 g_70 g_297) rfl rfl rfl (by decide +kernel) ⟨Nat.le_of_ble_eq_true rfl, Nat.le_of_ble_eq_true rfl⟩) ⟨pre_blind, fun U hU hW => ⟨rfl, pre_of P_nil hK D_nil hnw hU hW⟩⟩ rfl rfl hl.1 rfl (lv_room (Nat.le_of_ble_eq_true rfl)) dX6_mostAround_57 ⟨Nat.le_of_ble_eq_true rfl, Nat.le_of_ble_eq_true rfl⟩) hS (fun q _ h => hFc q h) hFc (fun v u t H locs ht hvm hw hB hz1 hk1 hS => ?_)
          have hw := hw.symm; subst hw
          obtain ⟨hP1, hD1⟩ := hB
          rw [ht] at hP1
          obtain ⟨hP, hD⟩ := back hP hD [] rfl rfl hk1 hFc hP1 hD1
          obtain ⟨hb60, hf⟩ := gd hf
          refine va_iald (cA := cI) (n := 30) (f := (C 4) 4) hx hb hK hP 34 0 at_C_4_4 rfl (inb_in hb60) dX6_mostAround_60 ?_
          refine va_mmax hx hb (hml.trans hl.1.symm) hown (hG _ g_373) (hG _ g_374) (hG _ g_78) (hG _ g_375) (Nat.le_of_ble_eq_true rfl) (Nat.le_of_ble_eq_true rfl) (Nat.zero_le _) (Nat.zero_le _) dX6_mostAround_61 ?_
          refine lv_topi (fun v9 ev9 => ?_)
          have hf := nm_x ev9 hf
          refine lv_istore_n (lv' := [(3, .int v9), (0, .ref (a 0 0)), (1, .int p1), (2, .int p2), (4, .int v4)]) hx hb dX6_mostAround_64 rfl hl (by decide) rfl (fun ls hl => ?_)
          exact J65 v9 _ _ _ hP hD hS (lv_sub hl [1, 2, 3, 0, 4] rfl) hf
  exact L17 FU v2 (0 : Int32) _ _ _ hP hD hS (lv_sub hl [2, 3, 4, 1, 0] rfl) hf
def f_X6_spread_j91 (rc35 : Int32 → Int32 → CC → Option (Int32 × CC)) (v4 : Int32) (v7 : Int32) (X8 : CC) : Option (Int32 × CC) := nm (v4 + (1 : Int32)) (fun (v9 : Int32) => rc35 v7 v9 X8)
def f_X6_spread_b35 (p1 : Int32) (rc35 : Int32 → Int32 → CC → Option (Int32 × CC)) (v3 : Int32) (v4 : Int32) (X5 : CC) : Option (Int32 × CC) := (if ((X5 2) 0 0) ≤ v4 then some (v3, X5) else bd (f_X6_slot v4 p1) (fun (q6 : Int32) => (if inb v4 6 then (if inb q6 30 then (if ((X5 0) 1 (Int32.toNatClampNeg v4)) ≤ ((X5 4) 4 (Int32.toNatClampNeg q6)) then f_X6_spread_j91 rc35 v4 v3 X5 else (if inb v4 6 then (if inb q6 30 then nm (va_up X5 4 (sa (X5 4) 4 q6 ((X5 0) 1 (Int32.toNatClampNeg v4)))) (fun (X10 : CC) => nm (v3 + (1 : Int32)) (fun (v11 : Int32) => f_X6_spread_j91 rc35 v4 v11 X10)) else none) else none)) else none) else none)))
def f_X6_spread_b2 (p1 : Int32) (rc2 : Int32 → CC → Option (Int32 × CC)) (v1 : Int32) (X2 : CC) : Option (Int32 × CC) := (if ((X2 2) 0 0) ≤ v1 then lp (fun _ _ _ => none : Int32 → Int32 → CC → Option (Int32 × CC)) (f_X6_spread_b35 p1) FU (0 : Int32) (0 : Int32) X2 else bd (f_X6_mostAround X2 v1 p1) (fun (q12 : Int32) => (if inb v1 6 then nm (va_up X2 0 (sa (X2 0) 1 v1 q12)) (fun (X13 : CC) => nm (v1 + (1 : Int32)) (fun (v14 : Int32) => rc2 v14 X13)) else none)))
def f_X6_spread (C : CC) (p1 : Int32) : Option (Int32 × CC) := lp (fun _ _ => none : Int32 → CC → Option (Int32 × CC)) (f_X6_spread_b2 p1) FU (0 : Int32) C
abbrev RM_X6_spread : Room := { frames := 2, cells := 0, slots := 0, locals := 45 }
set_option maxHeartbeats 4000000 in
set_option maxRecDepth 100000 in
theorem c_X6_spread (l : Launch) (D : va_G) (cI cZ : ClassId) (a : Nat → Nat → Nat) (C : CC) (p1 : Int32) (sz : Nat) {r : Int32 × CC} (hf : f_X6_spread C p1 = some r) : Met l yX6_spread (wM yX6_spread cX6_spread 5 (some .int)) RM_X6_spread (va_Pc [.ref (a 0 0), .int p1] (pre D cI cZ (cW cI a C) sz)) (QI D (va_A (cW cI a C) sz) (fun (u : CC) => (cW cI a u)) r) 0 0 (va_A (cW cI a C) sz) := by
  unfold f_X6_spread at hf
  refine Met.ofW (cc := cX6_spread) (maxL := 5) (ret := (some .int)) (by decide) rfl ?_
  intro p e s m args below meth c s₁ B hml hv
  obtain ⟨rfl, hsz, hP, hK, hD0, hnw⟩ := hv
  have hx := B.exec
  have hb := B.bytes
  have hr := B.returns
  have hts := atoms_spec (ws := wM yX6_spread cX6_spread 5 (some .int)) B.pre
  have hG : ∀ w ∈ GW, w.before (([.ref (a 0 0), .int p1] : List Value).toArray) s = true := fun w h => hts w (List.mem_cons_of_mem _ h)
  have hown : s.vm.findClass RX6 = some m.cls := findClass_of_methodNamed B.named
  have hlocks := B.notSynchronized
  subst hsz
  have hD := hD0.self (sz := s.heap.size)
  generalize hAe : va_A (cW cI a C) s.heap.size = A at hD ⊢
  have hA : ∀ q : Nat, s.heap.size ≤ q → A q := fun q h => by rw [← hAe]; exact Or.inr h
  have hS : va_S A s.heap s.heap [] := va_S.rf
  have hl := lv_entry ([.ref (a 0 0), .int p1]) (n := 5) (Nat.le_of_ble_eq_true rfl)
  rw [lg_entry_eq]
  generalize (lg_sl ([.ref (a 0 0), .int p1]) ++ List.replicate (5 - (lg_sl ([.ref (a 0 0), .int p1])).length) Slot.unset).toArray = ls at hl ⊢
  have hl : lv_has ls 5 [(0, .ref (a 0 0)), (1, .int p1)] := hl
  show W p l e RM_X6_spread s m (([.ref (a 0 0), .int p1] : List Value).toArray) below meth c s.heap [] 0 0 (MQ below (QI D A (fun (u : CC) => (cW cI a u)) r) (([.ref (a 0 0), .int p1] : List Value).toArray) s 0 0 A) (F0 m 0 ls [])
  refine lv_iconst (v := (0 : Int32)) hx hb dX6_spread_0 (by decide) ?_
  refine lv_istore_n (lv' := [(2, .int (0 : Int32)), (0, .ref (a 0 0)), (1, .int p1)]) hx hb dX6_spread_1 rfl hl (by decide) rfl (fun ls hl => ?_)
  have L2 : ∀ (n : Nat) (v1 : Int32) (X2 : CC) (H : Heap) (locs : List Loc) (ls : Array Slot), va_P D vwCl (cW cI a X2) H → va_D A (cW cI a X2) → va_S A s.heap H locs → lv_has ls 5 [(0, .ref (a 0 0)), (1, .int p1), (2, .int v1)] → lp (fun _ _ => none : Int32 → CC → Option (Int32 × CC)) (f_X6_spread_b2 p1) n v1 X2 = some r → W p l e RM_X6_spread s m (([.ref (a 0 0), .int p1] : List Value).toArray) below meth c H locs 0 0 (MQ below (QI D A (fun (u : CC) => (cW cI a u)) r) (([.ref (a 0 0), .int p1] : List Value).toArray) s 0 0 A) (F0 m 2 ls []) := by
    intro n
    induction n with
    | zero => intro v1 X2 H locs ls _ _ _ _ hf; cases (show (none : Option (Int32 × CC)) = some r from hf)
    | succ n ih2 =>
      intro v1 X2 H locs ls hP hD hS hl hf
      have hf : (f_X6_spread_b2 p1) (lp (fun _ _ => none : Int32 → CC → Option (Int32 × CC)) (f_X6_spread_b2 p1) n) v1 X2 = some r := hf
      generalize lp (fun _ _ => none : Int32 → CC → Option (Int32 × CC)) (f_X6_spread_b2 p1) n = rc2 at ih2 hf
      unfold f_X6_spread_b2 at hf
      refine lv_iload_n hx hb dX6_spread_2 rfl (lv_at hl 2 rfl) ?_
      refine lv_aload_n hx hb dX6_spread_3 rfl (lv_at hl 0 rfl) ?_
      refine va_get (D := D) (ci := 6) (v := .ref (a 2 0)) (C := RX6) (T := TX6) (N := 10) hx hb hG inG6 hown hK hP 0 at_C_0_0 rfl 1 (by decide) (hG _ g_225) (fun _ h9 => h9) rfl dX6_spread_4 ?_
      refine va_get (D := D) (ci := 2) (v := .int ((X2 2) 0 0)) (C := RX2) (T := TX2) (N := 18) hx hb hG inG2 hown hK hP 4 at_C_2_0 rfl 0 (by decide) (hG _ g_109) (fun _ h9 => h9) rfl dX6_spread_7 ?_
      refine lv_icmp_ge (tgt := 31) hx hb dX6_spread_10 (by decide) (fun cc10 => ?_) (fun cc10 => ?_)
      · have hf := if_t cc10 hf
        refine lv_iconst (v := (0 : Int32)) hx hb dX6_spread_31 (by decide) ?_
        refine lv_istore_n (lv' := [(2, .int (0 : Int32)), (0, .ref (a 0 0)), (1, .int p1)]) hx hb dX6_spread_32 rfl hl (by decide) rfl (fun ls hl => ?_)
        refine lv_iconst (v := (0 : Int32)) hx hb dX6_spread_33 (by decide) ?_
        refine lv_istore_n (lv' := [(3, .int (0 : Int32)), (2, .int (0 : Int32)), (0, .ref (a 0 0)), (1, .int p1)]) hx hb dX6_spread_34 rfl hl (by decide) rfl (fun ls hl => ?_)
        have L35 : ∀ (n : Nat) (v3 : Int32) (v4 : Int32) (X5 : CC) (H : Heap) (locs : List Loc) (ls : Array Slot), va_P D vwCl (cW cI a X5) H → va_D A (cW cI a X5) → va_S A s.heap H locs → lv_has ls 5 [(0, .ref (a 0 0)), (1, .int p1), (2, .int v3), (3, .int v4)] → lp (fun _ _ _ => none : Int32 → Int32 → CC → Option (Int32 × CC)) (f_X6_spread_b35 p1) n v3 v4 X5 = some r → W p l e RM_X6_spread s m (([.ref (a 0 0), .int p1] : List Value).toArray) below meth c H locs 0 0 (MQ below (QI D A (fun (u : CC) => (cW cI a u)) r) (([.ref (a 0 0), .int p1] : List Value).toArray) s 0 0 A) (F0 m 35 ls []) := by
          intro n
          induction n with
          | zero => intro v3 v4 X5 H locs ls _ _ _ _ hf; cases (show (none : Option (Int32 × CC)) = some r from hf)
          | succ n ih35 =>
            intro v3 v4 X5 H locs ls hP hD hS hl hf
            have hf : (f_X6_spread_b35 p1) (lp (fun _ _ _ => none : Int32 → Int32 → CC → Option (Int32 × CC)) (f_X6_spread_b35 p1) n) v3 v4 X5 = some r := hf
            generalize lp (fun _ _ _ => none : Int32 → Int32 → CC → Option (Int32 × CC)) (f_X6_spread_b35 p1) n = rc35 at ih35 hf
            unfold f_X6_spread_b35 at hf
            refine lv_iload_n hx hb dX6_spread_35 rfl (lv_at hl 3 rfl) ?_
            refine lv_aload_n hx hb dX6_spread_36 rfl (lv_at hl 0 rfl) ?_
            refine va_get (D := D) (ci := 6) (v := .ref (a 2 0)) (C := RX6) (T := TX6) (N := 10) hx hb hG inG6 hown hK hP 0 at_C_0_0 rfl 1 (by decide) (hG _ g_225) (fun _ h9 => h9) rfl dX6_spread_37 ?_
            refine va_get (D := D) (ci := 2) (v := .int ((X5 2) 0 0)) (C := RX2) (T := TX2) (N := 18) hx hb hG inG2 hown hK hP 4 at_C_2_0 rfl 0 (by decide) (hG _ g_109) (fun _ h9 => h9) rfl dX6_spread_40 ?_
            refine lv_icmp_ge (tgt := 97) hx hb dX6_spread_43 (by decide) (fun cc43 => ?_) (fun cc43 => ?_)
            · have hf := if_t cc43 hf
              refine lv_iload_n hx hb dX6_spread_97 rfl (lv_at hl 2 rfl) ?_
              exact W.iret (v := v3) hx hb hr (fun t ht hW => ⟨⟨v3, X5, rfl, ⟨pr_1 hf, pr_2 hf⟩, by rw [ht]; exact hP, hD⟩, hS.F ht⟩) hS.2.2 dX6_spread_98
            · have hf := if_f cc43 hf
              refine lv_iload_n hx hb dX6_spread_46 rfl (lv_at hl 3 rfl) ?_
              refine lv_iload_n hx hb dX6_spread_47 rfl (lv_at hl 1 rfl) ?_
              obtain ⟨q6, hq6, hf⟩ := bd_x hf
              have hFc := va_free (wc := []) hD hS hA [] rfl
              refine va_calli (va_runS (As := [.int v4, .int p1]) (rest := []) ⟨hx, hb, hml, hown, hG⟩ (c_X6_slot l D cI cZ v4 p1 H.size hq6) (cwS 2 hG (gS g_313 g_296 g_70 g_297) rfl rfl rfl (by decide +kernel) ⟨Nat.le_of_ble_eq_true rfl, Nat.le_of_ble_eq_true rfl⟩) ⟨pre_blind, fun U hU hW => ⟨rfl, pre_of P_nil hK D_nil hnw hU hW⟩⟩ rfl rfl hl.1 rfl (lv_room (Nat.le_of_ble_eq_true rfl)) dX6_spread_48 ⟨Nat.le_of_ble_eq_true rfl, Nat.le_of_ble_eq_true rfl⟩) hS (fun q _ h => hFc q h) hFc (fun v u t H locs ht hvm hw hB hz1 hk1 hS => ?_)
              have hw := hw.symm; subst hw
              obtain ⟨hP1, hD1⟩ := hB
              rw [ht] at hP1
              obtain ⟨hP, hD⟩ := back hP hD [] rfl rfl hk1 hFc hP1 hD1
              refine lv_istore (lv' := [(4, .int q6), (0, .ref (a 0 0)), (1, .int p1), (2, .int v3), (3, .int v4)]) hx hb dX6_spread_51 hl (by decide) rfl (fun ls hl => ?_)
              refine lv_aload_n hx hb dX6_spread_53 rfl (lv_at hl 1 rfl) ?_
              refine va_get (D := D) (ci := 6) (v := .ref (a 0 1)) (C := RX6) (T := TX6) (N := 10) hx hb hG inG6 hown hK hP 0 at_C_0_0 rfl 9 (by decide) (hG _ g_233) (fun _ h9 => h9) rfl dX6_spread_54 ?_
              refine lv_iload_n hx hb dX6_spread_57 rfl (lv_at hl 4 rfl) ?_
              obtain ⟨hb58, hf⟩ := gd hf
              refine va_iald (cA := cI) (n := 6) (f := (X5 0) 1) hx hb hK hP 1 0 at_C_0_1 rfl (inb_in hb58) dX6_spread_58 ?_
              refine lv_aload_n hx hb dX6_spread_59 rfl (lv_at hl 1 rfl) ?_
              refine va_get (D := D) (ci := 6) (v := .ref (a 4 0)) (C := RX6) (T := TX6) (N := 10) hx hb hG inG6 hown hK hP 0 at_C_0_0 rfl 3 (by decide) (hG _ g_227) (fun _ h9 => h9) rfl dX6_spread_60 ?_
              refine va_get (D := D) (ci := 4) (v := .ref (a 4 4)) (C := RX4) (T := TX4) (N := 7) hx hb hG inG4 hown hK hP 30 at_C_4_0 rfl 3 (by decide) (hG _ g_186) (fun _ h9 => h9) rfl dX6_spread_63 ?_
              refine lv_iload hx hb dX6_spread_66 (lv_at hl 0 rfl) ?_
              obtain ⟨hb68, hf⟩ := gd hf
              refine va_iald (cA := cI) (n := 30) (f := (X5 4) 4) hx hb hK hP 34 0 at_C_4_4 rfl (inb_in hb68) dX6_spread_68 ?_
              have J91 : ∀ (v7 : Int32) (X8 : CC) (H : Heap) (locs : List Loc) (ls : Array Slot), va_P D vwCl (cW cI a X8) H → va_D A (cW cI a X8) → va_S A s.heap H locs → lv_has ls 5 [(0, .ref (a 0 0)), (1, .int p1), (2, .int v7), (3, .int v4)] → f_X6_spread_j91 rc35 v4 v7 X8 = some r → W p l e RM_X6_spread s m (([.ref (a 0 0), .int p1] : List Value).toArray) below meth c H locs 0 0 (MQ below (QI D A (fun (u : CC) => (cW cI a u)) r) (([.ref (a 0 0), .int p1] : List Value).toArray) s 0 0 A) (F0 m 91 ls []) := by
                intro v7 X8 H locs ls hP hD hS hl hf
                unfold f_X6_spread_j91 at hf
                obtain ⟨v9, ev9⟩ : ∃ y : Int32, y = (v4 + (1 : Int32)) := ⟨_, rfl⟩
                have hf := nm_x ev9 hf
                refine lv_iinc (v := v9) (lv' := [(3, .int v9), (0, .ref (a 0 0)), (1, .int p1), (2, .int v7)]) hx hb dX6_spread_91 hl (k := 3) rfl (by rw [ev9]; rfl) (by decide) rfl (fun ls hl => ?_)
                refine lv_goto (tgt := 35) hx hb dX6_spread_94 (by decide) ?_
                exact ih35 v7 v9 X8 _ _ _ hP hD hS (lv_sub hl [1, 2, 3, 0] rfl) hf
              refine lv_icmp_le (tgt := 91) hx hb dX6_spread_69 (by decide) (fun cc69 => ?_) (fun cc69 => ?_)
              · have hf := if_t cc69 hf
                exact J91 v3 X5 _ _ _ hP hD hS (lv_sub hl [1, 2, 3, 4] rfl) hf
              · have hf := if_f cc69 hf
                refine lv_aload_n hx hb dX6_spread_72 rfl (lv_at hl 1 rfl) ?_
                refine va_get (D := D) (ci := 6) (v := .ref (a 4 0)) (C := RX6) (T := TX6) (N := 10) hx hb hG inG6 hown hK hP 0 at_C_0_0 rfl 3 (by decide) (hG _ g_227) (fun _ h9 => h9) rfl dX6_spread_73 ?_
                refine va_get (D := D) (ci := 4) (v := .ref (a 4 4)) (C := RX4) (T := TX4) (N := 7) hx hb hG inG4 hown hK hP 30 at_C_4_0 rfl 3 (by decide) (hG _ g_186) (fun _ h9 => h9) rfl dX6_spread_76 ?_
                refine lv_iload hx hb dX6_spread_79 (lv_at hl 0 rfl) ?_
                refine lv_aload_n hx hb dX6_spread_81 rfl (lv_at hl 1 rfl) ?_
                refine va_get (D := D) (ci := 6) (v := .ref (a 0 1)) (C := RX6) (T := TX6) (N := 10) hx hb hG inG6 hown hK hP 0 at_C_0_0 rfl 9 (by decide) (hG _ g_233) (fun _ h9 => h9) rfl dX6_spread_82 ?_
                refine lv_iload_n hx hb dX6_spread_85 rfl (lv_at hl 4 rfl) ?_
                obtain ⟨hb86, hf⟩ := gd hf
                refine va_iald (cA := cI) (n := 6) (f := (X5 0) 1) hx hb hK hP 1 0 at_C_0_1 rfl (inb_in hb86) dX6_spread_86 ?_
                obtain ⟨hb87, hf⟩ := gd hf
                refine va_iast (cA := cI) (n := 30) (f := (X5 4) 4) hx hb hK hP hD hS 34 0 at_C_4_4 rfl (inb_in hb87) dX6_spread_87 (fun H locs hP hD hS => ?_)
                obtain ⟨X10, eX10⟩ : ∃ y : CC, y = (va_up X5 4 (sa (X5 4) 4 q6 ((X5 0) 1 (Int32.toNatClampNeg v4)))) := ⟨_, rfl⟩
                have hf := nm_x eX10 hf
                have hP := wP (sa_C_4_4.trans (congrArg (fun z => cW cI a z) eX10.symm)) hP
                have hD := wD (sa_C_4_4.trans (congrArg (fun z => cW cI a z) eX10.symm)) hD
                obtain ⟨v11, ev11⟩ : ∃ y : Int32, y = (v3 + (1 : Int32)) := ⟨_, rfl⟩
                have hf := nm_x ev11 hf
                refine lv_iinc (v := v11) (lv' := [(2, .int v11), (4, .int q6), (0, .ref (a 0 0)), (1, .int p1), (3, .int v4)]) hx hb dX6_spread_88 hl (k := 3) rfl (by rw [ev11]; rfl) (by decide) rfl (fun ls hl => ?_)
                exact J91 v11 X10 _ _ _ hP hD hS (lv_sub hl [2, 3, 0, 4] rfl) hf
        exact L35 FU (0 : Int32) (0 : Int32) X2 _ _ _ hP hD hS (lv_sub hl [2, 3, 1, 0] rfl) hf
      · have hf := if_f cc10 hf
        refine lv_aload_n hx hb dX6_spread_13 rfl (lv_at hl 0 rfl) ?_
        refine va_get (D := D) (ci := 6) (v := .ref (a 0 1)) (C := RX6) (T := TX6) (N := 10) hx hb hG inG6 hown hK hP 0 at_C_0_0 rfl 9 (by decide) (hG _ g_233) (fun _ h9 => h9) rfl dX6_spread_14 ?_
        refine lv_iload_n hx hb dX6_spread_17 rfl (lv_at hl 2 rfl) ?_
        refine lv_aload_n hx hb dX6_spread_18 rfl (lv_at hl 0 rfl) ?_
        refine lv_iload_n hx hb dX6_spread_19 rfl (lv_at hl 2 rfl) ?_
        refine lv_iload_n hx hb dX6_spread_20 rfl (lv_at hl 1 rfl) ?_
        obtain ⟨q12, hq12, hf⟩ := bd_x hf
        have hFc := freeS hD hS hA
        refine va_calli (va_runV (As := [.int v1, .int p1]) (rest := [.int v1, .ref (a 0 1)]) ⟨hx, hb, hml, hown, hG⟩ (c_X6_mostAround l D cI cZ a X2 v1 p1 H.size hq12) (cwV 2 hG (gV g_383 g_384 g_20 g_70 g_385) rfl rfl rfl (by decide +kernel) ⟨Nat.le_of_ble_eq_true rfl, Nat.le_of_ble_eq_true rfl⟩) ⟨pre_blind, va_recv hK hP (ci := 6) (q0 := 0) rfl rfl, fun U hU hW => ⟨rfl, pre_of hP hK hD hnw hU hW⟩⟩ rfl rfl hl.1 rfl (lv_room (Nat.le_of_ble_eq_true rfl)) dX6_spread_21 ⟨Nat.le_of_ble_eq_true rfl, Nat.le_of_ble_eq_true rfl⟩) hS (fun q _ h => hFc q h) hFc (fun v u t H locs ht hvm hw hB hz1 hk1 hS => ?_)
        have hw := hw.symm; subst hw
        obtain ⟨hP1, hD1⟩ := hB
        rw [ht] at hP1
        have hP := hP1
        have hD := hD1.weaken (fun _ q _ h => hFc q.1 h)
        obtain ⟨hb24, hf⟩ := gd hf
        refine va_iast (cA := cI) (n := 6) (f := (X2 0) 1) hx hb hK hP hD hS 1 0 at_C_0_1 rfl (inb_in hb24) dX6_spread_24 (fun H locs hP hD hS => ?_)
        obtain ⟨X13, eX13⟩ : ∃ y : CC, y = (va_up X2 0 (sa (X2 0) 1 v1 q12)) := ⟨_, rfl⟩
        have hf := nm_x eX13 hf
        have hP := wP (sa_C_0_1.trans (congrArg (fun z => cW cI a z) eX13.symm)) hP
        have hD := wD (sa_C_0_1.trans (congrArg (fun z => cW cI a z) eX13.symm)) hD
        obtain ⟨v14, ev14⟩ : ∃ y : Int32, y = (v1 + (1 : Int32)) := ⟨_, rfl⟩
        have hf := nm_x ev14 hf
        refine lv_iinc (v := v14) (lv' := [(2, .int v14), (0, .ref (a 0 0)), (1, .int p1)]) hx hb dX6_spread_25 hl (k := 2) rfl (by rw [ev14]; rfl) (by decide) rfl (fun ls hl => ?_)
        refine lv_goto (tgt := 2) hx hb dX6_spread_28 (by decide) ?_
        exact ih2 v14 X13 _ _ _ hP hD hS (lv_sub hl [1, 2, 0] rfl) hf
  exact L2 FU (0 : Int32) C _ _ _ hP hD hS (lv_sub hl [1, 2, 0] rfl) hf
def f_X6_rumour (C : CC) (p1 : Int32) : Option (Int32 × CC) := bd (f_X6_isFighter C p1) (fun (q1 : Int32) => (if q1 = 0 then some ((-1000000001 : Int32), C) else bd (f_X6_spread C p1) (fun (q2 : Int32 × CC) => some (q2.1, q2.2))))
abbrev RM_X6_rumour : Room := { frames := 3, cells := 0, slots := 0, locals := 69 }
set_option maxHeartbeats 4000000 in
set_option maxRecDepth 100000 in
theorem c_X6_rumour (l : Launch) (D : va_G) (cI cZ : ClassId) (a : Nat → Nat → Nat) (C : CC) (p1 : Int32) (sz : Nat) {r : Int32 × CC} (hf : f_X6_rumour C p1 = some r) : Met l yX6_rumour (wM yX6_rumour cX6_rumour 2 (some .int)) RM_X6_rumour (va_Pc [.ref (a 0 0), .int p1] (pre D cI cZ (cW cI a C) sz)) (QI D (va_A (cW cI a C) sz) (fun (u : CC) => (cW cI a u)) r) 0 0 (va_A (cW cI a C) sz) := by
  unfold f_X6_rumour at hf
  refine Met.ofW (cc := cX6_rumour) (maxL := 2) (ret := (some .int)) (by decide) rfl ?_
  intro p e s m args below meth c s₁ B hml hv
  obtain ⟨rfl, hsz, hP, hK, hD0, hnw⟩ := hv
  have hx := B.exec
  have hb := B.bytes
  have hr := B.returns
  have hts := atoms_spec (ws := wM yX6_rumour cX6_rumour 2 (some .int)) B.pre
  have hG : ∀ w ∈ GW, w.before (([.ref (a 0 0), .int p1] : List Value).toArray) s = true := fun w h => hts w (List.mem_cons_of_mem _ h)
  have hown : s.vm.findClass RX6 = some m.cls := findClass_of_methodNamed B.named
  have hlocks := B.notSynchronized
  subst hsz
  have hD := hD0.self (sz := s.heap.size)
  generalize hAe : va_A (cW cI a C) s.heap.size = A at hD ⊢
  have hA : ∀ q : Nat, s.heap.size ≤ q → A q := fun q h => by rw [← hAe]; exact Or.inr h
  have hS : va_S A s.heap s.heap [] := va_S.rf
  have hl := lv_entry ([.ref (a 0 0), .int p1]) (n := 2) (Nat.le_of_ble_eq_true rfl)
  rw [lg_entry_eq]
  generalize (lg_sl ([.ref (a 0 0), .int p1]) ++ List.replicate (2 - (lg_sl ([.ref (a 0 0), .int p1])).length) Slot.unset).toArray = ls at hl ⊢
  have hl : lv_has ls 2 [(0, .ref (a 0 0)), (1, .int p1)] := hl
  show W p l e RM_X6_rumour s m (([.ref (a 0 0), .int p1] : List Value).toArray) below meth c s.heap [] 0 0 (MQ below (QI D A (fun (u : CC) => (cW cI a u)) r) (([.ref (a 0 0), .int p1] : List Value).toArray) s 0 0 A) (F0 m 0 ls [])
  refine lv_aload_n hx hb dX6_rumour_0 rfl (lv_at hl 0 rfl) ?_
  refine lv_iload_n hx hb dX6_rumour_1 rfl (lv_at hl 1 rfl) ?_
  obtain ⟨q1, hq1, hf⟩ := bd_x hf
  have hFc := freeS hD hS hA
  refine va_calli (va_runV (As := [.int p1]) (rest := []) ⟨hx, hb, hml, hown, hG⟩ (c_X6_isFighter l D cI cZ a C p1 s.heap.size hq1) (cwV 1 hG (gV g_318 g_319 g_13 g_70 g_320) rfl rfl rfl (by decide +kernel) ⟨Nat.le_of_ble_eq_true rfl, Nat.le_of_ble_eq_true rfl⟩) ⟨pre_blind, va_recv hK hP (ci := 6) (q0 := 0) rfl rfl, fun U hU hW => ⟨rfl, pre_of hP hK hD hnw hU hW⟩⟩ rfl rfl hl.1 rfl (lv_room (Nat.le_of_ble_eq_true rfl)) dX6_rumour_2 ⟨Nat.le_of_ble_eq_true rfl, Nat.le_of_ble_eq_true rfl⟩) hS (fun q _ h => hFc q h) hFc (fun v u t H locs ht hvm hw hB hz1 hk1 hS => ?_)
  have hw := hw.symm; subst hw
  obtain ⟨hP1, hD1⟩ := hB
  rw [ht] at hP1
  have hP := hP1
  have hD := hD1.weaken (fun _ q _ h => hFc q.1 h)
  refine lv_if_ne (tgt := 11) hx hb dX6_rumour_5 (by decide) (fun cc5 => ?_) (fun cc5 => ?_)
  · have hf := if_f cc5 hf
    refine lv_aload_n hx hb dX6_rumour_11 rfl (lv_at hl 0 rfl) ?_
    refine lv_iload_n hx hb dX6_rumour_12 rfl (lv_at hl 1 rfl) ?_
    obtain ⟨q2, hq2, hf⟩ := bd_x hf
    have hFc := freeS hD hS hA
    refine va_calli (va_runV (As := [.int p1]) (rest := []) ⟨hx, hb, hml, hown, hG⟩ (c_X6_spread l D cI cZ a C p1 H.size hq2) (cwV 1 hG (gV g_380 g_381 g_19 g_70 g_382) rfl rfl rfl (by decide +kernel) ⟨Nat.le_of_ble_eq_true rfl, Nat.le_of_ble_eq_true rfl⟩) ⟨pre_blind, va_recv hK hP (ci := 6) (q0 := 0) rfl rfl, fun U hU hW => ⟨rfl, pre_of hP hK hD hnw hU hW⟩⟩ rfl rfl hl.1 rfl (lv_room (Nat.le_of_ble_eq_true rfl)) dX6_rumour_13 ⟨Nat.le_of_ble_eq_true rfl, Nat.le_of_ble_eq_true rfl⟩) hS (fun q _ h => hFc q h) hFc (fun v u t H locs ht hvm hw hB hz1 hk1 hS => ?_)
    obtain ⟨rfl, rfl⟩ := hw
    obtain ⟨hP1, hD1⟩ := hB
    rw [ht] at hP1
    have hP := hP1
    have hD := hD1.weaken (fun _ q _ h => hFc q.1 h)
    exact W.iret (v := q2.1) hx hb hr (fun t ht hW => ⟨⟨q2.1, q2.2, rfl, ⟨pr_1 hf, pr_2 hf⟩, by rw [ht]; exact hP, hD⟩, hS.F ht⟩) hS.2.2 dX6_rumour_16
  · have hf := if_t cc5 hf
    refine lv_ldc hx hb hown (hG _ g_321) dX6_rumour_8 ?_
    exact W.iret (v := (-1000000001 : Int32)) hx hb hr (fun t ht hW => ⟨⟨(-1000000001 : Int32), C, rfl, ⟨pr_1 hf, pr_2 hf⟩, by rw [ht]; exact hP, hD⟩, hS.F ht⟩) hS.2.2 dX6_rumour_10
def f_X6_lookClosely_j45 (p2 : Int32) (X3 : CC) : Option (Int32 × CC) := (if inb p2 5 then some (((X3 2) 2 (Int32.toNatClampNeg p2)), X3) else none)
def f_X6_lookClosely (C : CC) (p1 : Int32) (p2 : Int32) : Option (Int32 × CC) := bd (f_X6_slot p1 p2) (fun (q1 : Int32) => (if inb p2 5 then (if inb q1 30 then nm (va_up C 4 (sa (C 4) 4 q1 ((C 2) 2 (Int32.toNatClampNeg p2)))) (fun (X2 : CC) => (if inb p2 5 then (if ((X2 2) 1 (Int32.toNatClampNeg p2)) = (3 : Int32) then (if inb p2 5 then nm (va_up X2 4 (sa (X2 4) 1 p2 (0 : Int32))) (fun (X4 : CC) => f_X6_lookClosely_j45 p2 X4) else none) else f_X6_lookClosely_j45 p2 X2) else none)) else none) else none))
abbrev RM_X6_lookClosely : Room := { frames := 1, cells := 0, slots := 0, locals := 21 }
set_option maxHeartbeats 4000000 in
set_option maxRecDepth 100000 in
theorem c_X6_lookClosely (l : Launch) (D : va_G) (cI cZ : ClassId) (a : Nat → Nat → Nat) (C : CC) (p1 : Int32) (p2 : Int32) (sz : Nat) {r : Int32 × CC} (hf : f_X6_lookClosely C p1 p2 = some r) : Met l yX6_lookClosely (wM yX6_lookClosely cX6_lookClosely 3 (some .int)) RM_X6_lookClosely (va_Pc [.ref (a 0 0), .int p1, .int p2] (pre D cI cZ (cW cI a C) sz)) (QI D (va_A (cW cI a C) sz) (fun (u : CC) => (cW cI a u)) r) 0 0 (va_A (cW cI a C) sz) := by
  unfold f_X6_lookClosely at hf
  refine Met.ofW (cc := cX6_lookClosely) (maxL := 3) (ret := (some .int)) (by decide) rfl ?_
  intro p e s m args below meth c s₁ B hml hv
  obtain ⟨rfl, hsz, hP, hK, hD0, hnw⟩ := hv
  have hx := B.exec
  have hb := B.bytes
  have hr := B.returns
  have hts := atoms_spec (ws := wM yX6_lookClosely cX6_lookClosely 3 (some .int)) B.pre
  have hG : ∀ w ∈ GW, w.before (([.ref (a 0 0), .int p1, .int p2] : List Value).toArray) s = true := fun w h => hts w (List.mem_cons_of_mem _ h)
  have hown : s.vm.findClass RX6 = some m.cls := findClass_of_methodNamed B.named
  have hlocks := B.notSynchronized
  subst hsz
  have hD := hD0.self (sz := s.heap.size)
  generalize hAe : va_A (cW cI a C) s.heap.size = A at hD ⊢
  have hA : ∀ q : Nat, s.heap.size ≤ q → A q := fun q h => by rw [← hAe]; exact Or.inr h
  have hS : va_S A s.heap s.heap [] := va_S.rf
  have hl := lv_entry ([.ref (a 0 0), .int p1, .int p2]) (n := 3) (Nat.le_of_ble_eq_true rfl)
  rw [lg_entry_eq]
  generalize (lg_sl ([.ref (a 0 0), .int p1, .int p2]) ++ List.replicate (3 - (lg_sl ([.ref (a 0 0), .int p1, .int p2])).length) Slot.unset).toArray = ls at hl ⊢
  have hl : lv_has ls 3 [(0, .ref (a 0 0)), (1, .int p1), (2, .int p2)] := hl
  show W p l e RM_X6_lookClosely s m (([.ref (a 0 0), .int p1, .int p2] : List Value).toArray) below meth c s.heap [] 0 0 (MQ below (QI D A (fun (u : CC) => (cW cI a u)) r) (([.ref (a 0 0), .int p1, .int p2] : List Value).toArray) s 0 0 A) (F0 m 0 ls [])
  refine lv_aload_n hx hb dX6_lookClosely_0 rfl (lv_at hl 0 rfl) ?_
  refine va_get (D := D) (ci := 6) (v := .ref (a 4 0)) (C := RX6) (T := TX6) (N := 10) hx hb hG inG6 hown hK hP 0 at_C_0_0 rfl 3 (by decide) (hG _ g_227) (fun _ h9 => h9) rfl dX6_lookClosely_1 ?_
  refine va_get (D := D) (ci := 4) (v := .ref (a 4 4)) (C := RX4) (T := TX4) (N := 7) hx hb hG inG4 hown hK hP 30 at_C_4_0 rfl 3 (by decide) (hG _ g_186) (fun _ h9 => h9) rfl dX6_lookClosely_4 ?_
  refine lv_iload_n hx hb dX6_lookClosely_7 rfl (lv_at hl 1 rfl) ?_
  refine lv_iload_n hx hb dX6_lookClosely_8 rfl (lv_at hl 2 rfl) ?_
  obtain ⟨q1, hq1, hf⟩ := bd_x hf
  have hFc := va_free (wc := []) hD hS hA [] rfl
  refine va_calli (va_runS (As := [.int p1, .int p2]) (rest := [.ref (a 4 4)]) ⟨hx, hb, hml, hown, hG⟩ (c_X6_slot l D cI cZ p1 p2 s.heap.size hq1) (cwS 2 hG (gS g_313 g_296 g_70 g_297) rfl rfl rfl (by decide +kernel) ⟨Nat.le_of_ble_eq_true rfl, Nat.le_of_ble_eq_true rfl⟩) ⟨pre_blind, fun U hU hW => ⟨rfl, pre_of P_nil hK D_nil hnw hU hW⟩⟩ rfl rfl hl.1 rfl (lv_room (Nat.le_of_ble_eq_true rfl)) dX6_lookClosely_9 ⟨Nat.le_of_ble_eq_true rfl, Nat.le_of_ble_eq_true rfl⟩) hS (fun q _ h => hFc q h) hFc (fun v u t H locs ht hvm hw hB hz1 hk1 hS => ?_)
  have hw := hw.symm; subst hw
  obtain ⟨hP1, hD1⟩ := hB
  rw [ht] at hP1
  obtain ⟨hP, hD⟩ := back hP hD [] rfl rfl hk1 hFc hP1 hD1
  refine lv_aload_n hx hb dX6_lookClosely_12 rfl (lv_at hl 0 rfl) ?_
  refine va_get (D := D) (ci := 6) (v := .ref (a 2 0)) (C := RX6) (T := TX6) (N := 10) hx hb hG inG6 hown hK hP 0 at_C_0_0 rfl 1 (by decide) (hG _ g_225) (fun _ h9 => h9) rfl dX6_lookClosely_13 ?_
  refine va_get (D := D) (ci := 2) (v := .ref (a 2 2)) (C := RX2) (T := TX2) (N := 18) hx hb hG inG2 hown hK hP 4 at_C_2_0 rfl 7 (by decide) (hG _ g_133) (fun _ h9 => h9) rfl dX6_lookClosely_16 ?_
  refine lv_iload_n hx hb dX6_lookClosely_19 rfl (lv_at hl 2 rfl) ?_
  obtain ⟨hb20, hf⟩ := gd hf
  refine va_iald (cA := cI) (n := 5) (f := (C 2) 2) hx hb hK hP 6 0 at_C_2_2 rfl (inb_in hb20) dX6_lookClosely_20 ?_
  obtain ⟨hb21, hf⟩ := gd hf
  refine va_iast (cA := cI) (n := 30) (f := (C 4) 4) hx hb hK hP hD hS 34 0 at_C_4_4 rfl (inb_in hb21) dX6_lookClosely_21 (fun H locs hP hD hS => ?_)
  obtain ⟨X2, eX2⟩ : ∃ y : CC, y = (va_up C 4 (sa (C 4) 4 q1 ((C 2) 2 (Int32.toNatClampNeg p2)))) := ⟨_, rfl⟩
  have hf := nm_x eX2 hf
  have hP := wP (sa_C_4_4.trans (congrArg (fun z => cW cI a z) eX2.symm)) hP
  have hD := wD (sa_C_4_4.trans (congrArg (fun z => cW cI a z) eX2.symm)) hD
  refine lv_aload_n hx hb dX6_lookClosely_22 rfl (lv_at hl 0 rfl) ?_
  refine va_get (D := D) (ci := 6) (v := .ref (a 2 0)) (C := RX6) (T := TX6) (N := 10) hx hb hG inG6 hown hK hP 0 at_C_0_0 rfl 1 (by decide) (hG _ g_225) (fun _ h9 => h9) rfl dX6_lookClosely_23 ?_
  refine va_get (D := D) (ci := 2) (v := .ref (a 2 1)) (C := RX2) (T := TX2) (N := 18) hx hb hG inG2 hown hK hP 4 at_C_2_0 rfl 6 (by decide) (hG _ g_129) (fun _ h9 => h9) rfl dX6_lookClosely_26 ?_
  refine lv_iload_n hx hb dX6_lookClosely_29 rfl (lv_at hl 2 rfl) ?_
  obtain ⟨hb30, hf⟩ := gd hf
  refine va_iald (cA := cI) (n := 5) (f := (X2 2) 1) hx hb hK hP 5 0 at_C_2_1 rfl (inb_in hb30) dX6_lookClosely_30 ?_
  refine lv_iconst (v := (3 : Int32)) hx hb dX6_lookClosely_31 (by decide) ?_
  have J45 : ∀ (X3 : CC) (H : Heap) (locs : List Loc) (ls : Array Slot), va_P D vwCl (cW cI a X3) H → va_D A (cW cI a X3) → va_S A s.heap H locs → lv_has ls 3 [(0, .ref (a 0 0)), (2, .int p2)] → f_X6_lookClosely_j45 p2 X3 = some r → W p l e RM_X6_lookClosely s m (([.ref (a 0 0), .int p1, .int p2] : List Value).toArray) below meth c H locs 0 0 (MQ below (QI D A (fun (u : CC) => (cW cI a u)) r) (([.ref (a 0 0), .int p1, .int p2] : List Value).toArray) s 0 0 A) (F0 m 45 ls []) := by
    intro X3 H locs ls hP hD hS hl hf
    unfold f_X6_lookClosely_j45 at hf
    refine lv_aload_n hx hb dX6_lookClosely_45 rfl (lv_at hl 0 rfl) ?_
    refine va_get (D := D) (ci := 6) (v := .ref (a 2 0)) (C := RX6) (T := TX6) (N := 10) hx hb hG inG6 hown hK hP 0 at_C_0_0 rfl 1 (by decide) (hG _ g_225) (fun _ h9 => h9) rfl dX6_lookClosely_46 ?_
    refine va_get (D := D) (ci := 2) (v := .ref (a 2 2)) (C := RX2) (T := TX2) (N := 18) hx hb hG inG2 hown hK hP 4 at_C_2_0 rfl 7 (by decide) (hG _ g_133) (fun _ h9 => h9) rfl dX6_lookClosely_49 ?_
    refine lv_iload_n hx hb dX6_lookClosely_52 rfl (lv_at hl 1 rfl) ?_
    obtain ⟨hb53, hf⟩ := gd hf
    refine va_iald (cA := cI) (n := 5) (f := (X3 2) 2) hx hb hK hP 6 0 at_C_2_2 rfl (inb_in hb53) dX6_lookClosely_53 ?_
    exact W.iret (v := ((X3 2) 2 (Int32.toNatClampNeg p2))) hx hb hr (fun t ht hW => ⟨⟨((X3 2) 2 (Int32.toNatClampNeg p2)), X3, rfl, ⟨pr_1 hf, pr_2 hf⟩, by rw [ht]; exact hP, hD⟩, hS.F ht⟩) hS.2.2 dX6_lookClosely_54
  refine lv_icmp_ne (tgt := 45) hx hb dX6_lookClosely_32 (by decide) (fun cc32 => ?_) (fun cc32 => ?_)
  · have hf := if_f cc32 hf
    exact J45 X2 _ _ _ hP hD hS (lv_sub hl [0, 2] rfl) hf
  · have hf := if_t cc32 hf
    refine lv_aload_n hx hb dX6_lookClosely_35 rfl (lv_at hl 0 rfl) ?_
    refine va_get (D := D) (ci := 6) (v := .ref (a 4 0)) (C := RX6) (T := TX6) (N := 10) hx hb hG inG6 hown hK hP 0 at_C_0_0 rfl 3 (by decide) (hG _ g_227) (fun _ h9 => h9) rfl dX6_lookClosely_36 ?_
    refine va_get (D := D) (ci := 4) (v := .ref (a 4 1)) (C := RX4) (T := TX4) (N := 7) hx hb hG inG4 hown hK hP 30 at_C_4_0 rfl 0 (by decide) (hG _ g_175) (fun _ h9 => h9) rfl dX6_lookClosely_39 ?_
    refine lv_iload_n hx hb dX6_lookClosely_42 rfl (lv_at hl 2 rfl) ?_
    refine lv_iconst (v := (0 : Int32)) hx hb dX6_lookClosely_43 (by decide) ?_
    obtain ⟨hb44, hf⟩ := gd hf
    refine va_iast (cA := cI) (n := 5) (f := (X2 4) 1) hx hb hK hP hD hS 31 0 at_C_4_1 rfl (inb_in hb44) dX6_lookClosely_44 (fun H locs hP hD hS => ?_)
    obtain ⟨X4, eX4⟩ : ∃ y : CC, y = (va_up X2 4 (sa (X2 4) 1 p2 (0 : Int32))) := ⟨_, rfl⟩
    have hf := nm_x eX4 hf
    have hP := wP (sa_C_4_1.trans (congrArg (fun z => cW cI a z) eX4.symm)) hP
    have hD := wD (sa_C_4_1.trans (congrArg (fun z => cW cI a z) eX4.symm)) hD
    exact J45 X4 _ _ _ hP hD hS (lv_sub hl [0, 2] rfl) hf
def f_X6_inspect (C : CC) (p1 : Int32) (p2 : Int32) : Option (Int32 × CC) := bd (f_X6_isPerson C p1) (fun (q1 : Int32) => (if q1 = 0 then some ((-1000000001 : Int32), C) else bd (f_X6_isFighter C p2) (fun (q2 : Int32) => (if q2 = 0 then some ((-1000000001 : Int32), C) else bd (f_X6_lookClosely C p1 p2) (fun (q3 : Int32 × CC) => some (q3.1, q3.2))))))
abbrev RM_X6_inspect : Room := { frames := 2, cells := 0, slots := 0, locals := 43 }
set_option maxHeartbeats 4000000 in
set_option maxRecDepth 100000 in
theorem c_X6_inspect (l : Launch) (D : va_G) (cI cZ : ClassId) (a : Nat → Nat → Nat) (C : CC) (p1 : Int32) (p2 : Int32) (sz : Nat) {r : Int32 × CC} (hf : f_X6_inspect C p1 p2 = some r) : Met l yX6_inspect (wM yX6_inspect cX6_inspect 3 (some .int)) RM_X6_inspect (va_Pc [.ref (a 0 0), .int p1, .int p2] (pre D cI cZ (cW cI a C) sz)) (QI D (va_A (cW cI a C) sz) (fun (u : CC) => (cW cI a u)) r) 0 0 (va_A (cW cI a C) sz) := by
  unfold f_X6_inspect at hf
  refine Met.ofW (cc := cX6_inspect) (maxL := 3) (ret := (some .int)) (by decide) rfl ?_
  intro p e s m args below meth c s₁ B hml hv
  obtain ⟨rfl, hsz, hP, hK, hD0, hnw⟩ := hv
  have hx := B.exec
  have hb := B.bytes
  have hr := B.returns
  have hts := atoms_spec (ws := wM yX6_inspect cX6_inspect 3 (some .int)) B.pre
  have hG : ∀ w ∈ GW, w.before (([.ref (a 0 0), .int p1, .int p2] : List Value).toArray) s = true := fun w h => hts w (List.mem_cons_of_mem _ h)
  have hown : s.vm.findClass RX6 = some m.cls := findClass_of_methodNamed B.named
  have hlocks := B.notSynchronized
  subst hsz
  have hD := hD0.self (sz := s.heap.size)
  generalize hAe : va_A (cW cI a C) s.heap.size = A at hD ⊢
  have hA : ∀ q : Nat, s.heap.size ≤ q → A q := fun q h => by rw [← hAe]; exact Or.inr h
  have hS : va_S A s.heap s.heap [] := va_S.rf
  have hl := lv_entry ([.ref (a 0 0), .int p1, .int p2]) (n := 3) (Nat.le_of_ble_eq_true rfl)
  rw [lg_entry_eq]
  generalize (lg_sl ([.ref (a 0 0), .int p1, .int p2]) ++ List.replicate (3 - (lg_sl ([.ref (a 0 0), .int p1, .int p2])).length) Slot.unset).toArray = ls at hl ⊢
  have hl : lv_has ls 3 [(0, .ref (a 0 0)), (1, .int p1), (2, .int p2)] := hl
  show W p l e RM_X6_inspect s m (([.ref (a 0 0), .int p1, .int p2] : List Value).toArray) below meth c s.heap [] 0 0 (MQ below (QI D A (fun (u : CC) => (cW cI a u)) r) (([.ref (a 0 0), .int p1, .int p2] : List Value).toArray) s 0 0 A) (F0 m 0 ls [])
  refine lv_aload_n hx hb dX6_inspect_0 rfl (lv_at hl 0 rfl) ?_
  refine lv_iload_n hx hb dX6_inspect_1 rfl (lv_at hl 1 rfl) ?_
  obtain ⟨q1, hq1, hf⟩ := bd_x hf
  have hFc := freeS hD hS hA
  refine va_calli (va_runV (As := [.int p1]) (rest := []) ⟨hx, hb, hml, hown, hG⟩ (c_X6_isPerson l D cI cZ a C p1 s.heap.size hq1) (cwV 1 hG (gV g_344 g_345 g_16 g_70 g_346) rfl rfl rfl (by decide +kernel) ⟨Nat.le_of_ble_eq_true rfl, Nat.le_of_ble_eq_true rfl⟩) ⟨pre_blind, va_recv hK hP (ci := 6) (q0 := 0) rfl rfl, fun U hU hW => ⟨rfl, pre_of hP hK hD hnw hU hW⟩⟩ rfl rfl hl.1 rfl (lv_room (Nat.le_of_ble_eq_true rfl)) dX6_inspect_2 ⟨Nat.le_of_ble_eq_true rfl, Nat.le_of_ble_eq_true rfl⟩) hS (fun q _ h => hFc q h) hFc (fun v u t H locs ht hvm hw hB hz1 hk1 hS => ?_)
  have hw := hw.symm; subst hw
  obtain ⟨hP1, hD1⟩ := hB
  rw [ht] at hP1
  have hP := hP1
  have hD := hD1.weaken (fun _ q _ h => hFc q.1 h)
  refine lv_if_eq (tgt := 16) hx hb dX6_inspect_5 (by decide) (fun cc5 => ?_) (fun cc5 => ?_)
  · have hf := if_t cc5 hf
    refine lv_ldc hx hb hown (hG _ g_321) dX6_inspect_16 ?_
    exact W.iret (v := (-1000000001 : Int32)) hx hb hr (fun t ht hW => ⟨⟨(-1000000001 : Int32), C, rfl, ⟨pr_1 hf, pr_2 hf⟩, by rw [ht]; exact hP, hD⟩, hS.F ht⟩) hS.2.2 dX6_inspect_18
  · have hf := if_f cc5 hf
    refine lv_aload_n hx hb dX6_inspect_8 rfl (lv_at hl 0 rfl) ?_
    refine lv_iload_n hx hb dX6_inspect_9 rfl (lv_at hl 2 rfl) ?_
    obtain ⟨q2, hq2, hf⟩ := bd_x hf
    have hFc := freeS hD hS hA
    refine va_calli (va_runV (As := [.int p2]) (rest := []) ⟨hx, hb, hml, hown, hG⟩ (c_X6_isFighter l D cI cZ a C p2 H.size hq2) (cwV 1 hG (gV g_318 g_319 g_13 g_70 g_320) rfl rfl rfl (by decide +kernel) ⟨Nat.le_of_ble_eq_true rfl, Nat.le_of_ble_eq_true rfl⟩) ⟨pre_blind, va_recv hK hP (ci := 6) (q0 := 0) rfl rfl, fun U hU hW => ⟨rfl, pre_of hP hK hD hnw hU hW⟩⟩ rfl rfl hl.1 rfl (lv_room (Nat.le_of_ble_eq_true rfl)) dX6_inspect_10 ⟨Nat.le_of_ble_eq_true rfl, Nat.le_of_ble_eq_true rfl⟩) hS (fun q _ h => hFc q h) hFc (fun v u t H locs ht hvm hw hB hz1 hk1 hS => ?_)
    have hw := hw.symm; subst hw
    obtain ⟨hP1, hD1⟩ := hB
    rw [ht] at hP1
    have hP := hP1
    have hD := hD1.weaken (fun _ q _ h => hFc q.1 h)
    refine lv_if_ne (tgt := 19) hx hb dX6_inspect_13 (by decide) (fun cc13 => ?_) (fun cc13 => ?_)
    · have hf := if_f cc13 hf
      refine lv_aload_n hx hb dX6_inspect_19 rfl (lv_at hl 0 rfl) ?_
      refine lv_iload_n hx hb dX6_inspect_20 rfl (lv_at hl 1 rfl) ?_
      refine lv_iload_n hx hb dX6_inspect_21 rfl (lv_at hl 2 rfl) ?_
      obtain ⟨q3, hq3, hf⟩ := bd_x hf
      have hFc := freeS hD hS hA
      refine va_calli (va_runV (As := [.int p1, .int p2]) (rest := []) ⟨hx, hb, hml, hown, hG⟩ (c_X6_lookClosely l D cI cZ a C p1 p2 H.size hq3) (cwV 2 hG (gV g_391 g_392 g_21 g_70 g_393) rfl rfl rfl (by decide +kernel) ⟨Nat.le_of_ble_eq_true rfl, Nat.le_of_ble_eq_true rfl⟩) ⟨pre_blind, va_recv hK hP (ci := 6) (q0 := 0) rfl rfl, fun U hU hW => ⟨rfl, pre_of hP hK hD hnw hU hW⟩⟩ rfl rfl hl.1 rfl (lv_room (Nat.le_of_ble_eq_true rfl)) dX6_inspect_22 ⟨Nat.le_of_ble_eq_true rfl, Nat.le_of_ble_eq_true rfl⟩) hS (fun q _ h => hFc q h) hFc (fun v u t H locs ht hvm hw hB hz1 hk1 hS => ?_)
      obtain ⟨rfl, rfl⟩ := hw
      obtain ⟨hP1, hD1⟩ := hB
      rw [ht] at hP1
      have hP := hP1
      have hD := hD1.weaken (fun _ q _ h => hFc q.1 h)
      exact W.iret (v := q3.1) hx hb hr (fun t ht hW => ⟨⟨q3.1, q3.2, rfl, ⟨pr_1 hf, pr_2 hf⟩, by rw [ht]; exact hP, hD⟩, hS.F ht⟩) hS.2.2 dX6_inspect_25
    · have hf := if_t cc13 hf
      refine lv_ldc hx hb hown (hG _ g_321) dX6_inspect_16 ?_
      exact W.iret (v := (-1000000001 : Int32)) hx hb hr (fun t ht hW => ⟨⟨(-1000000001 : Int32), C, rfl, ⟨pr_1 hf, pr_2 hf⟩, by rw [ht]; exact hP, hD⟩, hS.F ht⟩) hS.2.2 dX6_inspect_18
def f_X6_belt (C : CC) (p1 : Int32) (p2 : Int32) : Option (Int32 × CC) := bd (f_X6_isFighter C p1) (fun (q1 : Int32) => (if q1 = 0 then some ((-1000000001 : Int32), C) else (if p2 < 0 then some ((-1000000002 : Int32), C) else (if p2 ≤ (99 : Int32) then (if inb p1 5 then nm ((C 4) 1 (Int32.toNatClampNeg p1)) (fun (v2 : Int32) => (if inb p1 5 then nm (va_up C 4 (sa (C 4) 1 p1 p2)) (fun (X3 : CC) => some (v2, X3)) else none)) else none) else some ((-1000000002 : Int32), C)))))
abbrev RM_X6_belt : Room := { frames := 1, cells := 0, slots := 0, locals := 21 }
set_option maxHeartbeats 4000000 in
set_option maxRecDepth 100000 in
theorem c_X6_belt (l : Launch) (D : va_G) (cI cZ : ClassId) (a : Nat → Nat → Nat) (C : CC) (p1 : Int32) (p2 : Int32) (sz : Nat) {r : Int32 × CC} (hf : f_X6_belt C p1 p2 = some r) : Met l yX6_belt (wM yX6_belt cX6_belt 4 (some .int)) RM_X6_belt (va_Pc [.ref (a 0 0), .int p1, .int p2] (pre D cI cZ (cW cI a C) sz)) (QI D (va_A (cW cI a C) sz) (fun (u : CC) => (cW cI a u)) r) 0 0 (va_A (cW cI a C) sz) := by
  unfold f_X6_belt at hf
  refine Met.ofW (cc := cX6_belt) (maxL := 4) (ret := (some .int)) (by decide) rfl ?_
  intro p e s m args below meth c s₁ B hml hv
  obtain ⟨rfl, hsz, hP, hK, hD0, hnw⟩ := hv
  have hx := B.exec
  have hb := B.bytes
  have hr := B.returns
  have hts := atoms_spec (ws := wM yX6_belt cX6_belt 4 (some .int)) B.pre
  have hG : ∀ w ∈ GW, w.before (([.ref (a 0 0), .int p1, .int p2] : List Value).toArray) s = true := fun w h => hts w (List.mem_cons_of_mem _ h)
  have hown : s.vm.findClass RX6 = some m.cls := findClass_of_methodNamed B.named
  have hlocks := B.notSynchronized
  subst hsz
  have hD := hD0.self (sz := s.heap.size)
  generalize hAe : va_A (cW cI a C) s.heap.size = A at hD ⊢
  have hA : ∀ q : Nat, s.heap.size ≤ q → A q := fun q h => by rw [← hAe]; exact Or.inr h
  have hS : va_S A s.heap s.heap [] := va_S.rf
  have hl := lv_entry ([.ref (a 0 0), .int p1, .int p2]) (n := 4) (Nat.le_of_ble_eq_true rfl)
  rw [lg_entry_eq]
  generalize (lg_sl ([.ref (a 0 0), .int p1, .int p2]) ++ List.replicate (4 - (lg_sl ([.ref (a 0 0), .int p1, .int p2])).length) Slot.unset).toArray = ls at hl ⊢
  have hl : lv_has ls 4 [(0, .ref (a 0 0)), (1, .int p1), (2, .int p2)] := hl
  show W p l e RM_X6_belt s m (([.ref (a 0 0), .int p1, .int p2] : List Value).toArray) below meth c s.heap [] 0 0 (MQ below (QI D A (fun (u : CC) => (cW cI a u)) r) (([.ref (a 0 0), .int p1, .int p2] : List Value).toArray) s 0 0 A) (F0 m 0 ls [])
  refine lv_aload_n hx hb dX6_belt_0 rfl (lv_at hl 0 rfl) ?_
  refine lv_iload_n hx hb dX6_belt_1 rfl (lv_at hl 1 rfl) ?_
  obtain ⟨q1, hq1, hf⟩ := bd_x hf
  have hFc := freeS hD hS hA
  refine va_calli (va_runV (As := [.int p1]) (rest := []) ⟨hx, hb, hml, hown, hG⟩ (c_X6_isFighter l D cI cZ a C p1 s.heap.size hq1) (cwV 1 hG (gV g_318 g_319 g_13 g_70 g_320) rfl rfl rfl (by decide +kernel) ⟨Nat.le_of_ble_eq_true rfl, Nat.le_of_ble_eq_true rfl⟩) ⟨pre_blind, va_recv hK hP (ci := 6) (q0 := 0) rfl rfl, fun U hU hW => ⟨rfl, pre_of hP hK hD hnw hU hW⟩⟩ rfl rfl hl.1 rfl (lv_room (Nat.le_of_ble_eq_true rfl)) dX6_belt_2 ⟨Nat.le_of_ble_eq_true rfl, Nat.le_of_ble_eq_true rfl⟩) hS (fun q _ h => hFc q h) hFc (fun v u t H locs ht hvm hw hB hz1 hk1 hS => ?_)
  have hw := hw.symm; subst hw
  obtain ⟨hP1, hD1⟩ := hB
  rw [ht] at hP1
  have hP := hP1
  have hD := hD1.weaken (fun _ q _ h => hFc q.1 h)
  refine lv_if_ne (tgt := 11) hx hb dX6_belt_5 (by decide) (fun cc5 => ?_) (fun cc5 => ?_)
  · have hf := if_f cc5 hf
    refine lv_iload_n hx hb dX6_belt_11 rfl (lv_at hl 2 rfl) ?_
    refine lv_if_lt (tgt := 21) hx hb dX6_belt_12 (by decide) (fun cc12 => ?_) (fun cc12 => ?_)
    · have hf := if_t cc12 hf
      refine lv_ldc hx hb hown (hG _ g_238) dX6_belt_21 ?_
      exact W.iret (v := (-1000000002 : Int32)) hx hb hr (fun t ht hW => ⟨⟨(-1000000002 : Int32), C, rfl, ⟨pr_1 hf, pr_2 hf⟩, by rw [ht]; exact hP, hD⟩, hS.F ht⟩) hS.2.2 dX6_belt_23
    · have hf := if_f cc12 hf
      refine lv_iload_n hx hb dX6_belt_15 rfl (lv_at hl 2 rfl) ?_
      refine lv_bipush (v := (99 : Int32)) hx hb dX6_belt_16 (by decide) ?_
      refine lv_icmp_le (tgt := 24) hx hb dX6_belt_18 (by decide) (fun cc18 => ?_) (fun cc18 => ?_)
      · have hf := if_t cc18 hf
        refine lv_aload_n hx hb dX6_belt_24 rfl (lv_at hl 0 rfl) ?_
        refine va_get (D := D) (ci := 6) (v := .ref (a 4 0)) (C := RX6) (T := TX6) (N := 10) hx hb hG inG6 hown hK hP 0 at_C_0_0 rfl 3 (by decide) (hG _ g_227) (fun _ h9 => h9) rfl dX6_belt_25 ?_
        refine va_get (D := D) (ci := 4) (v := .ref (a 4 1)) (C := RX4) (T := TX4) (N := 7) hx hb hG inG4 hown hK hP 30 at_C_4_0 rfl 0 (by decide) (hG _ g_175) (fun _ h9 => h9) rfl dX6_belt_28 ?_
        refine lv_iload_n hx hb dX6_belt_31 rfl (lv_at hl 1 rfl) ?_
        obtain ⟨hb32, hf⟩ := gd hf
        refine va_iald (cA := cI) (n := 5) (f := (C 4) 1) hx hb hK hP 31 0 at_C_4_1 rfl (inb_in hb32) dX6_belt_32 ?_
        refine lv_topi (fun v2 ev2 => ?_)
        have hf := nm_x ev2 hf
        refine lv_istore_n (lv' := [(3, .int v2), (0, .ref (a 0 0)), (1, .int p1), (2, .int p2)]) hx hb dX6_belt_33 rfl hl (by decide) rfl (fun ls hl => ?_)
        refine lv_aload_n hx hb dX6_belt_34 rfl (lv_at hl 1 rfl) ?_
        refine va_get (D := D) (ci := 6) (v := .ref (a 4 0)) (C := RX6) (T := TX6) (N := 10) hx hb hG inG6 hown hK hP 0 at_C_0_0 rfl 3 (by decide) (hG _ g_227) (fun _ h9 => h9) rfl dX6_belt_35 ?_
        refine va_get (D := D) (ci := 4) (v := .ref (a 4 1)) (C := RX4) (T := TX4) (N := 7) hx hb hG inG4 hown hK hP 30 at_C_4_0 rfl 0 (by decide) (hG _ g_175) (fun _ h9 => h9) rfl dX6_belt_38 ?_
        refine lv_iload_n hx hb dX6_belt_41 rfl (lv_at hl 2 rfl) ?_
        refine lv_iload_n hx hb dX6_belt_42 rfl (lv_at hl 3 rfl) ?_
        obtain ⟨hb43, hf⟩ := gd hf
        refine va_iast (cA := cI) (n := 5) (f := (C 4) 1) hx hb hK hP hD hS 31 0 at_C_4_1 rfl (inb_in hb43) dX6_belt_43 (fun H locs hP hD hS => ?_)
        obtain ⟨X3, eX3⟩ : ∃ y : CC, y = (va_up C 4 (sa (C 4) 1 p1 p2)) := ⟨_, rfl⟩
        have hf := nm_x eX3 hf
        have hP := wP (sa_C_4_1.trans (congrArg (fun z => cW cI a z) eX3.symm)) hP
        have hD := wD (sa_C_4_1.trans (congrArg (fun z => cW cI a z) eX3.symm)) hD
        refine lv_iload_n hx hb dX6_belt_44 rfl (lv_at hl 0 rfl) ?_
        exact W.iret (v := v2) hx hb hr (fun t ht hW => ⟨⟨v2, X3, rfl, ⟨pr_1 hf, pr_2 hf⟩, by rw [ht]; exact hP, hD⟩, hS.F ht⟩) hS.2.2 dX6_belt_45
      · have hf := if_f cc18 hf
        refine lv_ldc hx hb hown (hG _ g_238) dX6_belt_21 ?_
        exact W.iret (v := (-1000000002 : Int32)) hx hb hr (fun t ht hW => ⟨⟨(-1000000002 : Int32), C, rfl, ⟨pr_1 hf, pr_2 hf⟩, by rw [ht]; exact hP, hD⟩, hS.F ht⟩) hS.2.2 dX6_belt_23
  · have hf := if_t cc5 hf
    refine lv_ldc hx hb hown (hG _ g_321) dX6_belt_8 ?_
    exact W.iret (v := (-1000000001 : Int32)) hx hb hr (fun t ht hW => ⟨⟨(-1000000001 : Int32), C, rfl, ⟨pr_1 hf, pr_2 hf⟩, by rw [ht]; exact hP, hD⟩, hS.F ht⟩) hS.2.2 dX6_belt_10
def f_X6_grow_b2 (p1 : Int32) (p2 : Int32) (rc2 : Int32 → CC → Option (CC)) (v1 : Int32) (X2 : CC) : Option (CC) := (if ((X2 2) 0 0) ≤ v1 then some X2 else bd (f_X6_slot v1 p1) (fun (q3 : Int32) => (if inb q3 30 then (if inb q3 30 then nm (va_up X2 4 (sa (X2 4) 4 q3 (if (((X2 4) 4 (Int32.toNatClampNeg q3)) + p2) < (99 : Int32) then (((X2 4) 4 (Int32.toNatClampNeg q3)) + p2) else (99 : Int32)))) (fun (X4 : CC) => nm (v1 + (1 : Int32)) (fun (v5 : Int32) => rc2 v5 X4)) else none) else none)))
def f_X6_grow (C : CC) (p1 : Int32) (p2 : Int32) : Option (CC) := lp (fun _ _ => none : Int32 → CC → Option (CC)) (f_X6_grow_b2 p1 p2) FU (0 : Int32) C
abbrev RM_X6_grow : Room := { frames := 1, cells := 0, slots := 0, locals := 21 }
set_option maxHeartbeats 4000000 in
set_option maxRecDepth 100000 in
theorem c_X6_grow (l : Launch) (D : va_G) (cI cZ : ClassId) (a : Nat → Nat → Nat) (C : CC) (p1 : Int32) (p2 : Int32) (sz : Nat) {r : CC} (hf : f_X6_grow C p1 p2 = some r) : Met l yX6_grow (wM yX6_grow cX6_grow 5 none) RM_X6_grow (va_Pc [.ref (a 0 0), .int p1, .int p2] (pre D cI cZ (cW cI a C) sz)) (QV D (va_A (cW cI a C) sz) (fun (u : CC) => (cW cI a u)) r) 0 0 (va_A (cW cI a C) sz) := by
  unfold f_X6_grow at hf
  refine Met.ofW (cc := cX6_grow) (maxL := 5) (ret := none) (by decide) rfl ?_
  intro p e s m args below meth c s₁ B hml hv
  obtain ⟨rfl, hsz, hP, hK, hD0, hnw⟩ := hv
  have hx := B.exec
  have hb := B.bytes
  have hr := B.returns
  have hts := atoms_spec (ws := wM yX6_grow cX6_grow 5 none) B.pre
  have hG : ∀ w ∈ GW, w.before (([.ref (a 0 0), .int p1, .int p2] : List Value).toArray) s = true := fun w h => hts w (List.mem_cons_of_mem _ h)
  have hown : s.vm.findClass RX6 = some m.cls := findClass_of_methodNamed B.named
  have hlocks := B.notSynchronized
  subst hsz
  have hD := hD0.self (sz := s.heap.size)
  generalize hAe : va_A (cW cI a C) s.heap.size = A at hD ⊢
  have hA : ∀ q : Nat, s.heap.size ≤ q → A q := fun q h => by rw [← hAe]; exact Or.inr h
  have hS : va_S A s.heap s.heap [] := va_S.rf
  have hl := lv_entry ([.ref (a 0 0), .int p1, .int p2]) (n := 5) (Nat.le_of_ble_eq_true rfl)
  rw [lg_entry_eq]
  generalize (lg_sl ([.ref (a 0 0), .int p1, .int p2]) ++ List.replicate (5 - (lg_sl ([.ref (a 0 0), .int p1, .int p2])).length) Slot.unset).toArray = ls at hl ⊢
  have hl : lv_has ls 5 [(0, .ref (a 0 0)), (1, .int p1), (2, .int p2)] := hl
  show W p l e RM_X6_grow s m (([.ref (a 0 0), .int p1, .int p2] : List Value).toArray) below meth c s.heap [] 0 0 (MQ below (QV D A (fun (u : CC) => (cW cI a u)) r) (([.ref (a 0 0), .int p1, .int p2] : List Value).toArray) s 0 0 A) (F0 m 0 ls [])
  refine lv_iconst (v := (0 : Int32)) hx hb dX6_grow_0 (by decide) ?_
  refine lv_istore_n (lv' := [(3, .int (0 : Int32)), (0, .ref (a 0 0)), (1, .int p1), (2, .int p2)]) hx hb dX6_grow_1 rfl hl (by decide) rfl (fun ls hl => ?_)
  have L2 : ∀ (n : Nat) (v1 : Int32) (X2 : CC) (H : Heap) (locs : List Loc) (ls : Array Slot), va_P D vwCl (cW cI a X2) H → va_D A (cW cI a X2) → va_S A s.heap H locs → lv_has ls 5 [(0, .ref (a 0 0)), (1, .int p1), (2, .int p2), (3, .int v1)] → lp (fun _ _ => none : Int32 → CC → Option (CC)) (f_X6_grow_b2 p1 p2) n v1 X2 = some r → W p l e RM_X6_grow s m (([.ref (a 0 0), .int p1, .int p2] : List Value).toArray) below meth c H locs 0 0 (MQ below (QV D A (fun (u : CC) => (cW cI a u)) r) (([.ref (a 0 0), .int p1, .int p2] : List Value).toArray) s 0 0 A) (F0 m 2 ls []) := by
    intro n
    induction n with
    | zero => intro v1 X2 H locs ls _ _ _ _ hf; cases (show (none : Option (CC)) = some r from hf)
    | succ n ih2 =>
      intro v1 X2 H locs ls hP hD hS hl hf
      have hf : (f_X6_grow_b2 p1 p2) (lp (fun _ _ => none : Int32 → CC → Option (CC)) (f_X6_grow_b2 p1 p2) n) v1 X2 = some r := hf
      generalize lp (fun _ _ => none : Int32 → CC → Option (CC)) (f_X6_grow_b2 p1 p2) n = rc2 at ih2 hf
      unfold f_X6_grow_b2 at hf
      refine lv_iload_n hx hb dX6_grow_2 rfl (lv_at hl 3 rfl) ?_
      refine lv_aload_n hx hb dX6_grow_3 rfl (lv_at hl 0 rfl) ?_
      refine va_get (D := D) (ci := 6) (v := .ref (a 2 0)) (C := RX6) (T := TX6) (N := 10) hx hb hG inG6 hown hK hP 0 at_C_0_0 rfl 1 (by decide) (hG _ g_225) (fun _ h9 => h9) rfl dX6_grow_4 ?_
      refine va_get (D := D) (ci := 2) (v := .int ((X2 2) 0 0)) (C := RX2) (T := TX2) (N := 18) hx hb hG inG2 hown hK hP 4 at_C_2_0 rfl 0 (by decide) (hG _ g_109) (fun _ h9 => h9) rfl dX6_grow_7 ?_
      refine lv_icmp_ge (tgt := 53) hx hb dX6_grow_10 (by decide) (fun cc10 => ?_) (fun cc10 => ?_)
      · have hf := if_t cc10 hf
        exact W.vret hx hb hr (fun t ht hW => ⟨⟨X2, rfl, Option.some.inj hf, by rw [ht]; exact hP, hD⟩, hS.F ht⟩) hS.2.2 dX6_grow_53
      · have hf := if_f cc10 hf
        refine lv_iload_n hx hb dX6_grow_13 rfl (lv_at hl 3 rfl) ?_
        refine lv_iload_n hx hb dX6_grow_14 rfl (lv_at hl 1 rfl) ?_
        obtain ⟨q3, hq3, hf⟩ := bd_x hf
        have hFc := va_free (wc := []) hD hS hA [] rfl
        refine va_calli (va_runS (As := [.int v1, .int p1]) (rest := []) ⟨hx, hb, hml, hown, hG⟩ (c_X6_slot l D cI cZ v1 p1 H.size hq3) (cwS 2 hG (gS g_313 g_296 g_70 g_297) rfl rfl rfl (by decide +kernel) ⟨Nat.le_of_ble_eq_true rfl, Nat.le_of_ble_eq_true rfl⟩) ⟨pre_blind, fun U hU hW => ⟨rfl, pre_of P_nil hK D_nil hnw hU hW⟩⟩ rfl rfl hl.1 rfl (lv_room (Nat.le_of_ble_eq_true rfl)) dX6_grow_15 ⟨Nat.le_of_ble_eq_true rfl, Nat.le_of_ble_eq_true rfl⟩) hS (fun q _ h => hFc q h) hFc (fun v u t H locs ht hvm hw hB hz1 hk1 hS => ?_)
        have hw := hw.symm; subst hw
        obtain ⟨hP1, hD1⟩ := hB
        rw [ht] at hP1
        obtain ⟨hP, hD⟩ := back hP hD [] rfl rfl hk1 hFc hP1 hD1
        refine lv_istore (lv' := [(4, .int q3), (0, .ref (a 0 0)), (1, .int p1), (2, .int p2), (3, .int v1)]) hx hb dX6_grow_18 hl (by decide) rfl (fun ls hl => ?_)
        refine lv_aload_n hx hb dX6_grow_20 rfl (lv_at hl 1 rfl) ?_
        refine va_get (D := D) (ci := 6) (v := .ref (a 4 0)) (C := RX6) (T := TX6) (N := 10) hx hb hG inG6 hown hK hP 0 at_C_0_0 rfl 3 (by decide) (hG _ g_227) (fun _ h9 => h9) rfl dX6_grow_21 ?_
        refine va_get (D := D) (ci := 4) (v := .ref (a 4 4)) (C := RX4) (T := TX4) (N := 7) hx hb hG inG4 hown hK hP 30 at_C_4_0 rfl 3 (by decide) (hG _ g_186) (fun _ h9 => h9) rfl dX6_grow_24 ?_
        refine lv_iload hx hb dX6_grow_27 (lv_at hl 0 rfl) ?_
        refine lv_bipush (v := (99 : Int32)) hx hb dX6_grow_29 (by decide) ?_
        refine lv_aload_n hx hb dX6_grow_31 rfl (lv_at hl 1 rfl) ?_
        refine va_get (D := D) (ci := 6) (v := .ref (a 4 0)) (C := RX6) (T := TX6) (N := 10) hx hb hG inG6 hown hK hP 0 at_C_0_0 rfl 3 (by decide) (hG _ g_227) (fun _ h9 => h9) rfl dX6_grow_32 ?_
        refine va_get (D := D) (ci := 4) (v := .ref (a 4 4)) (C := RX4) (T := TX4) (N := 7) hx hb hG inG4 hown hK hP 30 at_C_4_0 rfl 3 (by decide) (hG _ g_186) (fun _ h9 => h9) rfl dX6_grow_35 ?_
        refine lv_iload hx hb dX6_grow_38 (lv_at hl 0 rfl) ?_
        obtain ⟨hb40, hf⟩ := gd hf
        refine va_iald (cA := cI) (n := 30) (f := (X2 4) 4) hx hb hK hP 34 0 at_C_4_4 rfl (inb_in hb40) dX6_grow_40 ?_
        refine lv_iload_n hx hb dX6_grow_41 rfl (lv_at hl 3 rfl) ?_
        refine lv_iadd hx hb dX6_grow_42 ?_
        refine va_mmin hx hb (hml.trans hl.1.symm) hown (hG _ g_414) (hG _ g_330) (hG _ g_78) (hG _ g_331) (Nat.le_of_ble_eq_true rfl) (Nat.le_of_ble_eq_true rfl) (Nat.zero_le _) (Nat.zero_le _) dX6_grow_43 ?_
        obtain ⟨hb46, hf⟩ := gd hf
        refine va_iast (cA := cI) (n := 30) (f := (X2 4) 4) hx hb hK hP hD hS 34 0 at_C_4_4 rfl (inb_in hb46) dX6_grow_46 (fun H locs hP hD hS => ?_)
        obtain ⟨X4, eX4⟩ : ∃ y : CC, y = (va_up X2 4 (sa (X2 4) 4 q3 (if (((X2 4) 4 (Int32.toNatClampNeg q3)) + p2) < (99 : Int32) then (((X2 4) 4 (Int32.toNatClampNeg q3)) + p2) else (99 : Int32)))) := ⟨_, rfl⟩
        have hf := nm_x eX4 hf
        have hP := wP (sa_C_4_4.trans (congrArg (fun z => cW cI a z) eX4.symm)) hP
        have hD := wD (sa_C_4_4.trans (congrArg (fun z => cW cI a z) eX4.symm)) hD
        obtain ⟨v5, ev5⟩ : ∃ y : Int32, y = (v1 + (1 : Int32)) := ⟨_, rfl⟩
        have hf := nm_x ev5 hf
        refine lv_iinc (v := v5) (lv' := [(3, .int v5), (4, .int q3), (0, .ref (a 0 0)), (1, .int p1), (2, .int p2)]) hx hb dX6_grow_47 hl (k := 4) rfl (by rw [ev5]; rfl) (by decide) rfl (fun ls hl => ?_)
        refine lv_goto (tgt := 2) hx hb dX6_grow_50 (by decide) ?_
        exact ih2 v5 X4 _ _ _ hP hD hS (lv_sub hl [2, 3, 4, 0] rfl) hf
  exact L2 FU (0 : Int32) C _ _ _ hP hD hS (lv_sub hl [1, 2, 3, 0] rfl) hf
def f_X6_attempt (C : CC) (p1 : Int32) (p2 : Int32) (p3 : Int32) : Option (Int32 × CC) := bd (f_X6_isFighter C p1) (fun (q1 : Int32) => (if q1 = 0 then some ((-1000000001 : Int32), C) else bd (f_X6_isTask C p2) (fun (q2 : Int32) => (if q2 = 0 then some ((-1000000001 : Int32), C) else (if (p3 &&& (-((1 : Int32) <<< (((C 2) 0 4) &&& 31)))) = 0 then bd (f_X2_tricksOf (C 2) p2) (fun (q3 : Int32) => (if inb p1 5 then nm (q3 &&& (((C 4) 3 (Int32.toNatClampNeg p1)) ^^^ (-1 : Int32))) (fun (v4 : Int32) => (if inb p1 5 then bd (f_X6_has ((C 4) 2 (Int32.toNatClampNeg p1)) p2) (fun (q5 : Int32) => (if q5 = 0 then (if (p3 &&& (v4 ^^^ (-1 : Int32))) = 0 then (if inb p1 5 then (if inb p1 5 then nm (va_up C 4 (sa (C 4) 3 p1 (((C 4) 3 (Int32.toNatClampNeg p1)) ||| p3))) (fun (X6 : CC) => (if inb p2 6 then bd (f_X6_slot ((X6 2) 5 (Int32.toNatClampNeg p2)) p1) (fun (q7 : Int32) => (if inb q7 30 then bd (f_X2_passes (X6 2) p1 p2 p3 ((X6 4) 4 (Int32.toNatClampNeg q7))) (fun (q8 : Int32) => (if q8 = 0 then (if inb p1 5 then (if inb q7 30 then nm (va_up X6 4 (sa (X6 4) 4 q7 ((X6 2) 2 (Int32.toNatClampNeg p1)))) (fun (X11 : CC) => some ((0 : Int32), X11)) else none) else none) else (if inb p1 5 then (if inb p1 5 then nm (va_up X6 4 (sa (X6 4) 2 p1 (((X6 4) 2 (Int32.toNatClampNeg p1)) ||| ((1 : Int32) <<< (p2 &&& 31))))) (fun (X9 : CC) => (if inb p2 6 then bd (f_X6_grow X9 p1 ((X9 2) 8 (Int32.toNatClampNeg p2))) (fun (q10 : CC) => some ((1 : Int32), q10)) else none)) else none) else none))) else none)) else none)) else none) else none) else some ((-1000000003 : Int32), C)) else some ((-1000000003 : Int32), C))) else none)) else none)) else some ((-1000000001 : Int32), C))))))
abbrev RM_X6_attempt : Room := { frames := 3, cells := 0, slots := 0, locals := 70 }
set_option maxHeartbeats 4000000 in
set_option maxRecDepth 100000 in
theorem c_X6_attempt (l : Launch) (D : va_G) (cI cZ : ClassId) (a : Nat → Nat → Nat) (C : CC) (p1 : Int32) (p2 : Int32) (p3 : Int32) (sz : Nat) {r : Int32 × CC} (hf : f_X6_attempt C p1 p2 p3 = some r) : Met l yX6_attempt (wM yX6_attempt cX6_attempt 6 (some .int)) RM_X6_attempt (va_Pc [.ref (a 0 0), .int p1, .int p2, .int p3] (pre D cI cZ (cW cI a C) sz)) (QI D (va_A (cW cI a C) sz) (fun (u : CC) => (cW cI a u)) r) 0 0 (va_A (cW cI a C) sz) := by
  unfold f_X6_attempt at hf
  refine Met.ofW (cc := cX6_attempt) (maxL := 6) (ret := (some .int)) (by decide) rfl ?_
  intro p e s m args below meth c s₁ B hml hv
  obtain ⟨rfl, hsz, hP, hK, hD0, hnw⟩ := hv
  have hx := B.exec
  have hb := B.bytes
  have hr := B.returns
  have hts := atoms_spec (ws := wM yX6_attempt cX6_attempt 6 (some .int)) B.pre
  have hG : ∀ w ∈ GW, w.before (([.ref (a 0 0), .int p1, .int p2, .int p3] : List Value).toArray) s = true := fun w h => hts w (List.mem_cons_of_mem _ h)
  have hown : s.vm.findClass RX6 = some m.cls := findClass_of_methodNamed B.named
  have hlocks := B.notSynchronized
  subst hsz
  have hD := hD0.self (sz := s.heap.size)
  generalize hAe : va_A (cW cI a C) s.heap.size = A at hD ⊢
  have hA : ∀ q : Nat, s.heap.size ≤ q → A q := fun q h => by rw [← hAe]; exact Or.inr h
  have hS : va_S A s.heap s.heap [] := va_S.rf
  have hl := lv_entry ([.ref (a 0 0), .int p1, .int p2, .int p3]) (n := 6) (Nat.le_of_ble_eq_true rfl)
  rw [lg_entry_eq]
  generalize (lg_sl ([.ref (a 0 0), .int p1, .int p2, .int p3]) ++ List.replicate (6 - (lg_sl ([.ref (a 0 0), .int p1, .int p2, .int p3])).length) Slot.unset).toArray = ls at hl ⊢
  have hl : lv_has ls 6 [(0, .ref (a 0 0)), (1, .int p1), (2, .int p2), (3, .int p3)] := hl
  show W p l e RM_X6_attempt s m (([.ref (a 0 0), .int p1, .int p2, .int p3] : List Value).toArray) below meth c s.heap [] 0 0 (MQ below (QI D A (fun (u : CC) => (cW cI a u)) r) (([.ref (a 0 0), .int p1, .int p2, .int p3] : List Value).toArray) s 0 0 A) (F0 m 0 ls [])
  refine lv_aload_n hx hb dX6_attempt_0 rfl (lv_at hl 0 rfl) ?_
  refine lv_iload_n hx hb dX6_attempt_1 rfl (lv_at hl 1 rfl) ?_
  obtain ⟨q1, hq1, hf⟩ := bd_x hf
  have hFc := freeS hD hS hA
  refine va_calli (va_runV (As := [.int p1]) (rest := []) ⟨hx, hb, hml, hown, hG⟩ (c_X6_isFighter l D cI cZ a C p1 s.heap.size hq1) (cwV 1 hG (gV g_318 g_319 g_13 g_70 g_320) rfl rfl rfl (by decide +kernel) ⟨Nat.le_of_ble_eq_true rfl, Nat.le_of_ble_eq_true rfl⟩) ⟨pre_blind, va_recv hK hP (ci := 6) (q0 := 0) rfl rfl, fun U hU hW => ⟨rfl, pre_of hP hK hD hnw hU hW⟩⟩ rfl rfl hl.1 rfl (lv_room (Nat.le_of_ble_eq_true rfl)) dX6_attempt_2 ⟨Nat.le_of_ble_eq_true rfl, Nat.le_of_ble_eq_true rfl⟩) hS (fun q _ h => hFc q h) hFc (fun v u t H locs ht hvm hw hB hz1 hk1 hS => ?_)
  have hw := hw.symm; subst hw
  obtain ⟨hP1, hD1⟩ := hB
  rw [ht] at hP1
  have hP := hP1
  have hD := hD1.weaken (fun _ q _ h => hFc q.1 h)
  refine lv_if_eq (tgt := 31) hx hb dX6_attempt_5 (by decide) (fun cc5 => ?_) (fun cc5 => ?_)
  · have hf := if_t cc5 hf
    refine lv_ldc hx hb hown (hG _ g_321) dX6_attempt_31 ?_
    exact W.iret (v := (-1000000001 : Int32)) hx hb hr (fun t ht hW => ⟨⟨(-1000000001 : Int32), C, rfl, ⟨pr_1 hf, pr_2 hf⟩, by rw [ht]; exact hP, hD⟩, hS.F ht⟩) hS.2.2 dX6_attempt_33
  · have hf := if_f cc5 hf
    refine lv_aload_n hx hb dX6_attempt_8 rfl (lv_at hl 0 rfl) ?_
    refine lv_iload_n hx hb dX6_attempt_9 rfl (lv_at hl 2 rfl) ?_
    obtain ⟨q2, hq2, hf⟩ := bd_x hf
    have hFc := freeS hD hS hA
    refine va_calli (va_runV (As := [.int p2]) (rest := []) ⟨hx, hb, hml, hown, hG⟩ (c_X6_isTask l D cI cZ a C p2 H.size hq2) (cwV 1 hG (gV g_355 g_356 g_17 g_70 g_357) rfl rfl rfl (by decide +kernel) ⟨Nat.le_of_ble_eq_true rfl, Nat.le_of_ble_eq_true rfl⟩) ⟨pre_blind, va_recv hK hP (ci := 6) (q0 := 0) rfl rfl, fun U hU hW => ⟨rfl, pre_of hP hK hD hnw hU hW⟩⟩ rfl rfl hl.1 rfl (lv_room (Nat.le_of_ble_eq_true rfl)) dX6_attempt_10 ⟨Nat.le_of_ble_eq_true rfl, Nat.le_of_ble_eq_true rfl⟩) hS (fun q _ h => hFc q h) hFc (fun v u t H locs ht hvm hw hB hz1 hk1 hS => ?_)
    have hw := hw.symm; subst hw
    obtain ⟨hP1, hD1⟩ := hB
    rw [ht] at hP1
    have hP := hP1
    have hD := hD1.weaken (fun _ q _ h => hFc q.1 h)
    refine lv_if_eq (tgt := 31) hx hb dX6_attempt_13 (by decide) (fun cc13 => ?_) (fun cc13 => ?_)
    · have hf := if_t cc13 hf
      refine lv_ldc hx hb hown (hG _ g_321) dX6_attempt_31 ?_
      exact W.iret (v := (-1000000001 : Int32)) hx hb hr (fun t ht hW => ⟨⟨(-1000000001 : Int32), C, rfl, ⟨pr_1 hf, pr_2 hf⟩, by rw [ht]; exact hP, hD⟩, hS.F ht⟩) hS.2.2 dX6_attempt_33
    · have hf := if_f cc13 hf
      refine lv_iload_n hx hb dX6_attempt_16 rfl (lv_at hl 3 rfl) ?_
      refine lv_iconst (v := (1 : Int32)) hx hb dX6_attempt_17 (by decide) ?_
      refine lv_aload_n hx hb dX6_attempt_18 rfl (lv_at hl 0 rfl) ?_
      refine va_get (D := D) (ci := 6) (v := .ref (a 2 0)) (C := RX6) (T := TX6) (N := 10) hx hb hG inG6 hown hK hP 0 at_C_0_0 rfl 1 (by decide) (hG _ g_225) (fun _ h9 => h9) rfl dX6_attempt_19 ?_
      refine va_get (D := D) (ci := 2) (v := .int ((C 2) 0 4)) (C := RX2) (T := TX2) (N := 18) hx hb hG inG2 hown hK hP 4 at_C_2_0 rfl 4 (by decide) (hG _ g_124) (fun _ h9 => h9) rfl dX6_attempt_22 ?_
      refine lv_ishl hx hb dX6_attempt_25 ?_
      refine lv_ineg hx hb dX6_attempt_26 ?_
      refine lv_iand hx hb dX6_attempt_27 ?_
      refine lv_if_eq (tgt := 34) hx hb dX6_attempt_28 (by decide) (fun cc28 => ?_) (fun cc28 => ?_)
      · have hf := if_t cc28 hf
        refine lv_aload_n hx hb dX6_attempt_34 rfl (lv_at hl 0 rfl) ?_
        refine va_get (D := D) (ci := 6) (v := .ref (a 2 0)) (C := RX6) (T := TX6) (N := 10) hx hb hG inG6 hown hK hP 0 at_C_0_0 rfl 1 (by decide) (hG _ g_225) (fun _ h9 => h9) rfl dX6_attempt_35 ?_
        refine lv_iload_n hx hb dX6_attempt_38 rfl (lv_at hl 2 rfl) ?_
        obtain ⟨q3, hq3, hf⟩ := bd_x hf
        have hPc := subP [4, 5, 6, 7, 8, 9, 10, 11, 12, 13, 14, 15, 16] sub_C_L_2 hP
        have hDc := va_D.sub hD [4, 5, 6, 7, 8, 9, 10, 11, 12, 13, 14, 15, 16] rfl sub_C_L_2
        have hFc := va_free hD hS hA [4, 5, 6, 7, 8, 9, 10, 11, 12, 13, 14, 15, 16] sub_C_L_2
        refine va_calli (va_runV (As := [.int p2]) (rest := []) ⟨hx, hb, hml, hown, hG⟩ (c_X2_tricksOf l D cI cZ (a 2) (C 2) p2 H.size hq3) (cwV 1 hG (gV g_358 g_359 g_360 g_72 g_361) rfl rfl rfl (by decide +kernel) ⟨Nat.le_of_ble_eq_true rfl, Nat.le_of_ble_eq_true rfl⟩) ⟨pre_blind, va_recv hK hPc (ci := 2) (q0 := 0) rfl rfl, fun U hU hW => ⟨rfl, pre_of hPc hK hDc hnw hU hW⟩⟩ rfl rfl hl.1 rfl (lv_room (Nat.le_of_ble_eq_true rfl)) dX6_attempt_39 ⟨Nat.le_of_ble_eq_true rfl, Nat.le_of_ble_eq_true rfl⟩) hS (fun q _ h => hFc q h) hFc (fun v u t H locs ht hvm hw hB hz1 hk1 hS => ?_)
        have hw := hw.symm; subst hw
        obtain ⟨hP1, hD1⟩ := hB
        rw [ht] at hP1
        obtain ⟨hP, hD⟩ := back hP hD [4, 5, 6, 7, 8, 9, 10, 11, 12, 13, 14, 15, 16] sub_C_L_2 rfl hk1 hFc hP1 hD1
        have hP := wP put_C_L_2_ hP
        have hD := wD put_C_L_2_ hD
        refine lv_aload_n hx hb dX6_attempt_42 rfl (lv_at hl 0 rfl) ?_
        refine va_get (D := D) (ci := 6) (v := .ref (a 4 0)) (C := RX6) (T := TX6) (N := 10) hx hb hG inG6 hown hK hP 0 at_C_0_0 rfl 3 (by decide) (hG _ g_227) (fun _ h9 => h9) rfl dX6_attempt_43 ?_
        refine va_get (D := D) (ci := 4) (v := .ref (a 4 3)) (C := RX4) (T := TX4) (N := 7) hx hb hG inG4 hown hK hP 30 at_C_4_0 rfl 2 (by decide) (hG _ g_181) (fun _ h9 => h9) rfl dX6_attempt_46 ?_
        refine lv_iload_n hx hb dX6_attempt_49 rfl (lv_at hl 1 rfl) ?_
        obtain ⟨hb50, hf⟩ := gd hf
        refine va_iald (cA := cI) (n := 5) (f := (C 4) 3) hx hb hK hP 33 0 at_C_4_3 rfl (inb_in hb50) dX6_attempt_50 ?_
        refine lv_iconst (v := (-1 : Int32)) hx hb dX6_attempt_51 (by decide) ?_
        refine lv_ixor hx hb dX6_attempt_52 ?_
        refine lv_iand hx hb dX6_attempt_53 ?_
        refine lv_topi (fun v4 ev4 => ?_)
        have hf := nm_x ev4 hf
        refine lv_istore (lv' := [(4, .int v4), (0, .ref (a 0 0)), (1, .int p1), (2, .int p2), (3, .int p3)]) hx hb dX6_attempt_54 hl (by decide) rfl (fun ls hl => ?_)
        refine lv_aload_n hx hb dX6_attempt_56 rfl (lv_at hl 1 rfl) ?_
        refine va_get (D := D) (ci := 6) (v := .ref (a 4 0)) (C := RX6) (T := TX6) (N := 10) hx hb hG inG6 hown hK hP 0 at_C_0_0 rfl 3 (by decide) (hG _ g_227) (fun _ h9 => h9) rfl dX6_attempt_57 ?_
        refine va_get (D := D) (ci := 4) (v := .ref (a 4 2)) (C := RX4) (T := TX4) (N := 7) hx hb hG inG4 hown hK hP 30 at_C_4_0 rfl 1 (by decide) (hG _ g_178) (fun _ h9 => h9) rfl dX6_attempt_60 ?_
        refine lv_iload_n hx hb dX6_attempt_63 rfl (lv_at hl 2 rfl) ?_
        obtain ⟨hb64, hf⟩ := gd hf
        refine va_iald (cA := cI) (n := 5) (f := (C 4) 2) hx hb hK hP 32 0 at_C_4_2 rfl (inb_in hb64) dX6_attempt_64 ?_
        refine lv_iload_n hx hb dX6_attempt_65 rfl (lv_at hl 3 rfl) ?_
        obtain ⟨q5, hq5, hf⟩ := bd_x hf
        have hFc := va_free (wc := []) hD hS hA [] rfl
        refine va_calli (va_runS (As := [.int ((C 4) 2 (Int32.toNatClampNeg p1)), .int p2]) (rest := []) ⟨hx, hb, hml, hown, hG⟩ (c_X6_has l D cI cZ ((C 4) 2 (Int32.toNatClampNeg p1)) p2 H.size hq5) (cwS 2 hG (gS g_386 g_284 g_70 g_285) rfl rfl rfl (by decide +kernel) ⟨Nat.le_of_ble_eq_true rfl, Nat.le_of_ble_eq_true rfl⟩) ⟨pre_blind, fun U hU hW => ⟨rfl, pre_of P_nil hK D_nil hnw hU hW⟩⟩ rfl rfl hl.1 rfl (lv_room (Nat.le_of_ble_eq_true rfl)) dX6_attempt_66 ⟨Nat.le_of_ble_eq_true rfl, Nat.le_of_ble_eq_true rfl⟩) hS (fun q _ h => hFc q h) hFc (fun v u t H locs ht hvm hw hB hz1 hk1 hS => ?_)
        have hw := hw.symm; subst hw
        obtain ⟨hP1, hD1⟩ := hB
        rw [ht] at hP1
        obtain ⟨hP, hD⟩ := back hP hD [] rfl rfl hk1 hFc hP1 hD1
        refine lv_if_ne (tgt := 81) hx hb dX6_attempt_69 (by decide) (fun cc69 => ?_) (fun cc69 => ?_)
        · have hf := if_f cc69 hf
          refine lv_ldc hx hb hown (hG _ g_402) dX6_attempt_81 ?_
          exact W.iret (v := (-1000000003 : Int32)) hx hb hr (fun t ht hW => ⟨⟨(-1000000003 : Int32), C, rfl, ⟨pr_1 hf, pr_2 hf⟩, by rw [ht]; exact hP, hD⟩, hS.F ht⟩) hS.2.2 dX6_attempt_83
        · have hf := if_t cc69 hf
          refine lv_iload_n hx hb dX6_attempt_72 rfl (lv_at hl 4 rfl) ?_
          refine lv_iload hx hb dX6_attempt_73 (lv_at hl 0 rfl) ?_
          refine lv_iconst (v := (-1 : Int32)) hx hb dX6_attempt_75 (by decide) ?_
          refine lv_ixor hx hb dX6_attempt_76 ?_
          refine lv_iand hx hb dX6_attempt_77 ?_
          refine lv_if_eq (tgt := 84) hx hb dX6_attempt_78 (by decide) (fun cc78 => ?_) (fun cc78 => ?_)
          · have hf := if_t cc78 hf
            refine lv_aload_n hx hb dX6_attempt_84 rfl (lv_at hl 1 rfl) ?_
            refine va_get (D := D) (ci := 6) (v := .ref (a 4 0)) (C := RX6) (T := TX6) (N := 10) hx hb hG inG6 hown hK hP 0 at_C_0_0 rfl 3 (by decide) (hG _ g_227) (fun _ h9 => h9) rfl dX6_attempt_85 ?_
            refine va_get (D := D) (ci := 4) (v := .ref (a 4 3)) (C := RX4) (T := TX4) (N := 7) hx hb hG inG4 hown hK hP 30 at_C_4_0 rfl 2 (by decide) (hG _ g_181) (fun _ h9 => h9) rfl dX6_attempt_88 ?_
            refine lv_iload_n hx hb dX6_attempt_91 rfl (lv_at hl 2 rfl) ?_
            refine lv_dup2_11 hx hb dX6_attempt_92 rfl rfl ?_
            obtain ⟨hb93, hf⟩ := gd hf
            refine va_iald (cA := cI) (n := 5) (f := (C 4) 3) hx hb hK hP 33 0 at_C_4_3 rfl (inb_in hb93) dX6_attempt_93 ?_
            refine lv_iload_n hx hb dX6_attempt_94 rfl (lv_at hl 4 rfl) ?_
            refine lv_ior hx hb dX6_attempt_95 ?_
            obtain ⟨hb96, hf⟩ := gd hf
            refine va_iast (cA := cI) (n := 5) (f := (C 4) 3) hx hb hK hP hD hS 33 0 at_C_4_3 rfl (inb_in hb96) dX6_attempt_96 (fun H locs hP hD hS => ?_)
            obtain ⟨X6, eX6⟩ : ∃ y : CC, y = (va_up C 4 (sa (C 4) 3 p1 (((C 4) 3 (Int32.toNatClampNeg p1)) ||| p3))) := ⟨_, rfl⟩
            have hf := nm_x eX6 hf
            have hP := wP (sa_C_4_3.trans (congrArg (fun z => cW cI a z) eX6.symm)) hP
            have hD := wD (sa_C_4_3.trans (congrArg (fun z => cW cI a z) eX6.symm)) hD
            refine lv_aload_n hx hb dX6_attempt_97 rfl (lv_at hl 1 rfl) ?_
            refine va_get (D := D) (ci := 6) (v := .ref (a 2 0)) (C := RX6) (T := TX6) (N := 10) hx hb hG inG6 hown hK hP 0 at_C_0_0 rfl 1 (by decide) (hG _ g_225) (fun _ h9 => h9) rfl dX6_attempt_98 ?_
            refine va_get (D := D) (ci := 2) (v := .ref (a 2 5)) (C := RX2) (T := TX2) (N := 18) hx hb hG inG2 hown hK hP 4 at_C_2_0 rfl 10 (by decide) (hG _ g_143) (fun _ h9 => h9) rfl dX6_attempt_101 ?_
            refine lv_iload_n hx hb dX6_attempt_104 rfl (lv_at hl 3 rfl) ?_
            obtain ⟨hb105, hf⟩ := gd hf
            refine va_iald (cA := cI) (n := 6) (f := (X6 2) 5) hx hb hK hP 9 0 at_C_2_5 rfl (inb_in hb105) dX6_attempt_105 ?_
            refine lv_iload_n hx hb dX6_attempt_106 rfl (lv_at hl 2 rfl) ?_
            obtain ⟨q7, hq7, hf⟩ := bd_x hf
            have hFc := va_free (wc := []) hD hS hA [] rfl
            refine va_calli (va_runS (As := [.int ((X6 2) 5 (Int32.toNatClampNeg p2)), .int p1]) (rest := []) ⟨hx, hb, hml, hown, hG⟩ (c_X6_slot l D cI cZ ((X6 2) 5 (Int32.toNatClampNeg p2)) p1 H.size hq7) (cwS 2 hG (gS g_313 g_296 g_70 g_297) rfl rfl rfl (by decide +kernel) ⟨Nat.le_of_ble_eq_true rfl, Nat.le_of_ble_eq_true rfl⟩) ⟨pre_blind, fun U hU hW => ⟨rfl, pre_of P_nil hK D_nil hnw hU hW⟩⟩ rfl rfl hl.1 rfl (lv_room (Nat.le_of_ble_eq_true rfl)) dX6_attempt_107 ⟨Nat.le_of_ble_eq_true rfl, Nat.le_of_ble_eq_true rfl⟩) hS (fun q _ h => hFc q h) hFc (fun v u t H locs ht hvm hw hB hz1 hk1 hS => ?_)
            have hw := hw.symm; subst hw
            obtain ⟨hP1, hD1⟩ := hB
            rw [ht] at hP1
            obtain ⟨hP, hD⟩ := back hP hD [] rfl rfl hk1 hFc hP1 hD1
            refine lv_istore (lv' := [(5, .int q7), (4, .int v4), (0, .ref (a 0 0)), (1, .int p1), (2, .int p2), (3, .int p3)]) hx hb dX6_attempt_110 hl (by decide) rfl (fun ls hl => ?_)
            refine lv_aload_n hx hb dX6_attempt_112 rfl (lv_at hl 2 rfl) ?_
            refine va_get (D := D) (ci := 6) (v := .ref (a 2 0)) (C := RX6) (T := TX6) (N := 10) hx hb hG inG6 hown hK hP 0 at_C_0_0 rfl 1 (by decide) (hG _ g_225) (fun _ h9 => h9) rfl dX6_attempt_113 ?_
            refine lv_iload_n hx hb dX6_attempt_116 rfl (lv_at hl 3 rfl) ?_
            refine lv_iload_n hx hb dX6_attempt_117 rfl (lv_at hl 4 rfl) ?_
            refine lv_iload_n hx hb dX6_attempt_118 rfl (lv_at hl 5 rfl) ?_
            refine lv_aload_n hx hb dX6_attempt_119 rfl (lv_at hl 2 rfl) ?_
            refine va_get (D := D) (ci := 6) (v := .ref (a 4 0)) (C := RX6) (T := TX6) (N := 10) hx hb hG inG6 hown hK hP 0 at_C_0_0 rfl 3 (by decide) (hG _ g_227) (fun _ h9 => h9) rfl dX6_attempt_120 ?_
            refine va_get (D := D) (ci := 4) (v := .ref (a 4 4)) (C := RX4) (T := TX4) (N := 7) hx hb hG inG4 hown hK hP 30 at_C_4_0 rfl 3 (by decide) (hG _ g_186) (fun _ h9 => h9) rfl dX6_attempt_123 ?_
            refine lv_iload hx hb dX6_attempt_126 (lv_at hl 0 rfl) ?_
            obtain ⟨hb128, hf⟩ := gd hf
            refine va_iald (cA := cI) (n := 30) (f := (X6 4) 4) hx hb hK hP 34 0 at_C_4_4 rfl (inb_in hb128) dX6_attempt_128 ?_
            obtain ⟨q8, hq8, hf⟩ := bd_x hf
            have hPc := subP [4, 5, 6, 7, 8, 9, 10, 11, 12, 13, 14, 15, 16] sub_C_L_2 hP
            have hDc := va_D.sub hD [4, 5, 6, 7, 8, 9, 10, 11, 12, 13, 14, 15, 16] rfl sub_C_L_2
            have hFc := va_free hD hS hA [4, 5, 6, 7, 8, 9, 10, 11, 12, 13, 14, 15, 16] sub_C_L_2
            refine va_calli (va_runV (As := [.int p1, .int p2, .int p3, .int ((X6 4) 4 (Int32.toNatClampNeg q7))]) (rest := []) ⟨hx, hb, hml, hown, hG⟩ (c_X2_passes l D cI cZ (a 2) (X6 2) p1 p2 p3 ((X6 4) 4 (Int32.toNatClampNeg q7)) H.size hq8) (cwV 4 hG (gV g_403 g_404 g_405 g_72 g_406) rfl rfl rfl (by decide +kernel) ⟨Nat.le_of_ble_eq_true rfl, Nat.le_of_ble_eq_true rfl⟩) ⟨pre_blind, va_recv hK hPc (ci := 2) (q0 := 0) rfl rfl, fun U hU hW => ⟨rfl, pre_of hPc hK hDc hnw hU hW⟩⟩ rfl rfl hl.1 rfl (lv_room (Nat.le_of_ble_eq_true rfl)) dX6_attempt_129 ⟨Nat.le_of_ble_eq_true rfl, Nat.le_of_ble_eq_true rfl⟩) hS (fun q _ h => hFc q h) hFc (fun v u t H locs ht hvm hw hB hz1 hk1 hS => ?_)
            have hw := hw.symm; subst hw
            obtain ⟨hP1, hD1⟩ := hB
            rw [ht] at hP1
            obtain ⟨hP, hD⟩ := back hP hD [4, 5, 6, 7, 8, 9, 10, 11, 12, 13, 14, 15, 16] sub_C_L_2 rfl hk1 hFc hP1 hD1
            have hP := wP put_C_L_2_ hP
            have hD := wD put_C_L_2_ hD
            refine lv_if_ne (tgt := 156) hx hb dX6_attempt_132 (by decide) (fun cc132 => ?_) (fun cc132 => ?_)
            · have hf := if_f cc132 hf
              refine lv_aload_n hx hb dX6_attempt_156 rfl (lv_at hl 2 rfl) ?_
              refine va_get (D := D) (ci := 6) (v := .ref (a 4 0)) (C := RX6) (T := TX6) (N := 10) hx hb hG inG6 hown hK hP 0 at_C_0_0 rfl 3 (by decide) (hG _ g_227) (fun _ h9 => h9) rfl dX6_attempt_157 ?_
              refine va_get (D := D) (ci := 4) (v := .ref (a 4 2)) (C := RX4) (T := TX4) (N := 7) hx hb hG inG4 hown hK hP 30 at_C_4_0 rfl 1 (by decide) (hG _ g_178) (fun _ h9 => h9) rfl dX6_attempt_160 ?_
              refine lv_iload_n hx hb dX6_attempt_163 rfl (lv_at hl 3 rfl) ?_
              refine lv_dup2_11 hx hb dX6_attempt_164 rfl rfl ?_
              obtain ⟨hb165, hf⟩ := gd hf
              refine va_iald (cA := cI) (n := 5) (f := (X6 4) 2) hx hb hK hP 32 0 at_C_4_2 rfl (inb_in hb165) dX6_attempt_165 ?_
              refine lv_iconst (v := (1 : Int32)) hx hb dX6_attempt_166 (by decide) ?_
              refine lv_iload_n hx hb dX6_attempt_167 rfl (lv_at hl 4 rfl) ?_
              refine lv_ishl hx hb dX6_attempt_168 ?_
              refine lv_ior hx hb dX6_attempt_169 ?_
              obtain ⟨hb170, hf⟩ := gd hf
              refine va_iast (cA := cI) (n := 5) (f := (X6 4) 2) hx hb hK hP hD hS 32 0 at_C_4_2 rfl (inb_in hb170) dX6_attempt_170 (fun H locs hP hD hS => ?_)
              obtain ⟨X9, eX9⟩ : ∃ y : CC, y = (va_up X6 4 (sa (X6 4) 2 p1 (((X6 4) 2 (Int32.toNatClampNeg p1)) ||| ((1 : Int32) <<< (p2 &&& 31))))) := ⟨_, rfl⟩
              have hf := nm_x eX9 hf
              have hP := wP (sa_C_4_2.trans (congrArg (fun z => cW cI a z) eX9.symm)) hP
              have hD := wD (sa_C_4_2.trans (congrArg (fun z => cW cI a z) eX9.symm)) hD
              refine lv_aload_n hx hb dX6_attempt_171 rfl (lv_at hl 2 rfl) ?_
              refine lv_iload_n hx hb dX6_attempt_172 rfl (lv_at hl 3 rfl) ?_
              refine lv_aload_n hx hb dX6_attempt_173 rfl (lv_at hl 2 rfl) ?_
              refine va_get (D := D) (ci := 6) (v := .ref (a 2 0)) (C := RX6) (T := TX6) (N := 10) hx hb hG inG6 hown hK hP 0 at_C_0_0 rfl 1 (by decide) (hG _ g_225) (fun _ h9 => h9) rfl dX6_attempt_174 ?_
              refine va_get (D := D) (ci := 2) (v := .ref (a 2 8)) (C := RX2) (T := TX2) (N := 18) hx hb hG inG2 hown hK hP 4 at_C_2_0 rfl 13 (by decide) (hG _ g_153) (fun _ h9 => h9) rfl dX6_attempt_177 ?_
              refine lv_iload_n hx hb dX6_attempt_180 rfl (lv_at hl 4 rfl) ?_
              obtain ⟨hb181, hf⟩ := gd hf
              refine va_iald (cA := cI) (n := 6) (f := (X9 2) 8) hx hb hK hP 12 0 at_C_2_8 rfl (inb_in hb181) dX6_attempt_181 ?_
              obtain ⟨q10, hq10, hf⟩ := bd_x hf
              have hFc := freeS hD hS hA
              refine va_callv (va_runV (As := [.int p1, .int ((X9 2) 8 (Int32.toNatClampNeg p2))]) (rest := []) ⟨hx, hb, hml, hown, hG⟩ (c_X6_grow l D cI cZ a X9 p1 ((X9 2) 8 (Int32.toNatClampNeg p2)) H.size hq10) (cwV 2 hG (gV g_411 g_412 g_23 g_70 g_413) rfl rfl rfl (by decide +kernel) ⟨Nat.le_of_ble_eq_true rfl, Nat.le_of_ble_eq_true rfl⟩) ⟨pre_blind, va_recv hK hP (ci := 6) (q0 := 0) rfl rfl, fun U hU hW => ⟨rfl, pre_of hP hK hD hnw hU hW⟩⟩ rfl rfl hl.1 rfl (lv_room (Nat.le_of_ble_eq_true rfl)) dX6_attempt_182 ⟨Nat.le_of_ble_eq_true rfl, Nat.le_of_ble_eq_true rfl⟩) hS (fun q _ h => hFc q h) hFc (fun u t H locs ht hvm hw hB hz1 hk1 hS => ?_)
              have hw := hw.symm; subst hw
              obtain ⟨hP1, hD1⟩ := hB
              rw [ht] at hP1
              have hP := hP1
              have hD := hD1.weaken (fun _ q _ h => hFc q.1 h)
              refine lv_iconst (v := (1 : Int32)) hx hb dX6_attempt_185 (by decide) ?_
              exact W.iret (v := (1 : Int32)) hx hb hr (fun t ht hW => ⟨⟨(1 : Int32), q10, rfl, ⟨pr_1 hf, pr_2 hf⟩, by rw [ht]; exact hP, hD⟩, hS.F ht⟩) hS.2.2 dX6_attempt_186
            · have hf := if_t cc132 hf
              refine lv_aload_n hx hb dX6_attempt_135 rfl (lv_at hl 2 rfl) ?_
              refine va_get (D := D) (ci := 6) (v := .ref (a 4 0)) (C := RX6) (T := TX6) (N := 10) hx hb hG inG6 hown hK hP 0 at_C_0_0 rfl 3 (by decide) (hG _ g_227) (fun _ h9 => h9) rfl dX6_attempt_136 ?_
              refine va_get (D := D) (ci := 4) (v := .ref (a 4 4)) (C := RX4) (T := TX4) (N := 7) hx hb hG inG4 hown hK hP 30 at_C_4_0 rfl 3 (by decide) (hG _ g_186) (fun _ h9 => h9) rfl dX6_attempt_139 ?_
              refine lv_iload hx hb dX6_attempt_142 (lv_at hl 0 rfl) ?_
              refine lv_aload_n hx hb dX6_attempt_144 rfl (lv_at hl 2 rfl) ?_
              refine va_get (D := D) (ci := 6) (v := .ref (a 2 0)) (C := RX6) (T := TX6) (N := 10) hx hb hG inG6 hown hK hP 0 at_C_0_0 rfl 1 (by decide) (hG _ g_225) (fun _ h9 => h9) rfl dX6_attempt_145 ?_
              refine va_get (D := D) (ci := 2) (v := .ref (a 2 2)) (C := RX2) (T := TX2) (N := 18) hx hb hG inG2 hown hK hP 4 at_C_2_0 rfl 7 (by decide) (hG _ g_133) (fun _ h9 => h9) rfl dX6_attempt_148 ?_
              refine lv_iload_n hx hb dX6_attempt_151 rfl (lv_at hl 3 rfl) ?_
              obtain ⟨hb152, hf⟩ := gd hf
              refine va_iald (cA := cI) (n := 5) (f := (X6 2) 2) hx hb hK hP 6 0 at_C_2_2 rfl (inb_in hb152) dX6_attempt_152 ?_
              obtain ⟨hb153, hf⟩ := gd hf
              refine va_iast (cA := cI) (n := 30) (f := (X6 4) 4) hx hb hK hP hD hS 34 0 at_C_4_4 rfl (inb_in hb153) dX6_attempt_153 (fun H locs hP hD hS => ?_)
              obtain ⟨X11, eX11⟩ : ∃ y : CC, y = (va_up X6 4 (sa (X6 4) 4 q7 ((X6 2) 2 (Int32.toNatClampNeg p1)))) := ⟨_, rfl⟩
              have hf := nm_x eX11 hf
              have hP := wP (sa_C_4_4.trans (congrArg (fun z => cW cI a z) eX11.symm)) hP
              have hD := wD (sa_C_4_4.trans (congrArg (fun z => cW cI a z) eX11.symm)) hD
              refine lv_iconst (v := (0 : Int32)) hx hb dX6_attempt_154 (by decide) ?_
              exact W.iret (v := (0 : Int32)) hx hb hr (fun t ht hW => ⟨⟨(0 : Int32), X11, rfl, ⟨pr_1 hf, pr_2 hf⟩, by rw [ht]; exact hP, hD⟩, hS.F ht⟩) hS.2.2 dX6_attempt_155
          · have hf := if_f cc78 hf
            refine lv_ldc hx hb hown (hG _ g_402) dX6_attempt_81 ?_
            exact W.iret (v := (-1000000003 : Int32)) hx hb hr (fun t ht hW => ⟨⟨(-1000000003 : Int32), C, rfl, ⟨pr_1 hf, pr_2 hf⟩, by rw [ht]; exact hP, hD⟩, hS.F ht⟩) hS.2.2 dX6_attempt_83
      · have hf := if_f cc28 hf
        refine lv_ldc hx hb hown (hG _ g_321) dX6_attempt_31 ?_
        exact W.iret (v := (-1000000001 : Int32)) hx hb hr (fun t ht hW => ⟨⟨(-1000000001 : Int32), C, rfl, ⟨pr_1 hf, pr_2 hf⟩, by rw [ht]; exact hP, hD⟩, hS.F ht⟩) hS.2.2 dX6_attempt_33
def f_X6_liveOneDay (C : CC) : Option (CC) := bd (f_X4_draw (C 4) ((C 2) 0 0)) (fun (q1 : Int32 × HC) => nm (va_up C 4 q1.2) (fun (X2 : CC) => nm q1.1 (fun (v3 : Int32) => bd (f_X4_draw (X2 4) ((X2 2) 0 1)) (fun (q4 : Int32 × HC) => nm (va_up X2 4 q4.2) (fun (X5 : CC) => nm q4.1 (fun (v6 : Int32) => bd (f_X4_draw (X5 4) (3 : Int32)) (fun (q7 : Int32 × HC) => nm (va_up X5 4 q7.2) (fun (X8 : CC) => nm q7.1 (fun (v9 : Int32) => nm (va_up X8 4 (sf (X8 4) 4 (((X8 4) 0 4) + (1 : Int32)))) (fun (X10 : CC) => (if v9 = 0 then bd (f_X6_readBelt X10 v3 v6) (fun (q13 : Int32 × CC) => some q13.2) else (if v9 = (1 : Int32) then bd (f_X6_spread X10 v6) (fun (q12 : Int32 × CC) => some q12.2) else bd (f_X6_lookClosely X10 v3 v6) (fun (q11 : Int32 × CC) => some q11.2)))))))))))))
abbrev RM_X6_liveOneDay : Room := { frames := 4, cells := 0, slots := 0, locals := 87 }
set_option maxHeartbeats 4000000 in
set_option maxRecDepth 100000 in
theorem c_X6_liveOneDay (l : Launch) (D : va_G) (cI cZ : ClassId) (a : Nat → Nat → Nat) (C : CC) (sz : Nat) {r : CC} (hf : f_X6_liveOneDay C = some r) : Met l yX6_liveOneDay (wM yX6_liveOneDay cX6_liveOneDay 4 none) RM_X6_liveOneDay (va_Pc [.ref (a 0 0)] (pre D cI cZ (cW cI a C) sz)) (QV D (va_A (cW cI a C) sz) (fun (u : CC) => (cW cI a u)) r) 0 0 (va_A (cW cI a C) sz) := by
  unfold f_X6_liveOneDay at hf
  refine Met.ofW (cc := cX6_liveOneDay) (maxL := 4) (ret := none) (by decide) rfl ?_
  intro p e s m args below meth c s₁ B hml hv
  obtain ⟨rfl, hsz, hP, hK, hD0, hnw⟩ := hv
  have hx := B.exec
  have hb := B.bytes
  have hr := B.returns
  have hts := atoms_spec (ws := wM yX6_liveOneDay cX6_liveOneDay 4 none) B.pre
  have hG : ∀ w ∈ GW, w.before (([.ref (a 0 0)] : List Value).toArray) s = true := fun w h => hts w (List.mem_cons_of_mem _ h)
  have hown : s.vm.findClass RX6 = some m.cls := findClass_of_methodNamed B.named
  have hlocks := B.notSynchronized
  subst hsz
  have hD := hD0.self (sz := s.heap.size)
  generalize hAe : va_A (cW cI a C) s.heap.size = A at hD ⊢
  have hA : ∀ q : Nat, s.heap.size ≤ q → A q := fun q h => by rw [← hAe]; exact Or.inr h
  have hS : va_S A s.heap s.heap [] := va_S.rf
  have hl := lv_entry ([.ref (a 0 0)]) (n := 4) (Nat.le_of_ble_eq_true rfl)
  rw [lg_entry_eq]
  generalize (lg_sl ([.ref (a 0 0)]) ++ List.replicate (4 - (lg_sl ([.ref (a 0 0)])).length) Slot.unset).toArray = ls at hl ⊢
  have hl : lv_has ls 4 [(0, .ref (a 0 0))] := hl
  show W p l e RM_X6_liveOneDay s m (([.ref (a 0 0)] : List Value).toArray) below meth c s.heap [] 0 0 (MQ below (QV D A (fun (u : CC) => (cW cI a u)) r) (([.ref (a 0 0)] : List Value).toArray) s 0 0 A) (F0 m 0 ls [])
  refine lv_aload_n hx hb dX6_liveOneDay_0 rfl (lv_at hl 0 rfl) ?_
  refine va_get (D := D) (ci := 6) (v := .ref (a 4 0)) (C := RX6) (T := TX6) (N := 10) hx hb hG inG6 hown hK hP 0 at_C_0_0 rfl 3 (by decide) (hG _ g_227) (fun _ h9 => h9) rfl dX6_liveOneDay_1 ?_
  refine lv_aload_n hx hb dX6_liveOneDay_4 rfl (lv_at hl 0 rfl) ?_
  refine va_get (D := D) (ci := 6) (v := .ref (a 2 0)) (C := RX6) (T := TX6) (N := 10) hx hb hG inG6 hown hK hP 0 at_C_0_0 rfl 1 (by decide) (hG _ g_225) (fun _ h9 => h9) rfl dX6_liveOneDay_5 ?_
  refine va_get (D := D) (ci := 2) (v := .int ((C 2) 0 0)) (C := RX2) (T := TX2) (N := 18) hx hb hG inG2 hown hK hP 4 at_C_2_0 rfl 0 (by decide) (hG _ g_109) (fun _ h9 => h9) rfl dX6_liveOneDay_8 ?_
  obtain ⟨q1, hq1, hf⟩ := bd_x hf
  have hPc := subP [30, 31, 32, 33, 34] sub_C_S_4 hP
  have hDc := va_D.sub hD [30, 31, 32, 33, 34] rfl sub_C_S_4
  have hFc := va_free hD hS hA [30, 31, 32, 33, 34] sub_C_S_4
  refine va_calli (va_runV (As := [.int ((C 2) 0 0)]) (rest := []) ⟨hx, hb, hml, hown, hG⟩ (c_X4_draw l D cI cZ (a 4) (C 4) ((C 2) 0 0) s.heap.size hq1) (cwV 1 hG (gV g_424 g_425 g_426 g_73 g_427) rfl rfl rfl (by decide +kernel) ⟨Nat.le_of_ble_eq_true rfl, Nat.le_of_ble_eq_true rfl⟩) ⟨pre_blind, va_recv hK hPc (ci := 4) (q0 := 0) rfl rfl, fun U hU hW => ⟨rfl, pre_of hPc hK hDc hnw hU hW⟩⟩ rfl rfl hl.1 rfl (lv_room (Nat.le_of_ble_eq_true rfl)) dX6_liveOneDay_11 ⟨Nat.le_of_ble_eq_true rfl, Nat.le_of_ble_eq_true rfl⟩) hS (fun q _ h => hFc q h) hFc (fun v u t H locs ht hvm hw hB hz1 hk1 hS => ?_)
  obtain ⟨rfl, rfl⟩ := hw
  obtain ⟨hP1, hD1⟩ := hB
  rw [ht] at hP1
  obtain ⟨hP, hD⟩ := back hP hD [30, 31, 32, 33, 34] sub_C_S_4 rfl hk1 hFc hP1 hD1
  obtain ⟨X2, eX2⟩ : ∃ y : CC, y = (va_up C 4 q1.2) := ⟨_, rfl⟩
  have hf := nm_x eX2 hf
  have hP := wP (put_C_S_4_0.trans (congrArg (fun z => cW cI a z) eX2.symm)) hP
  have hD := wD (put_C_S_4_0.trans (congrArg (fun z => cW cI a z) eX2.symm)) hD
  refine lv_topi (fun v3 ev3 => ?_)
  have hf := nm_x ev3 hf
  refine lv_istore_n (lv' := [(1, .int v3), (0, .ref (a 0 0))]) hx hb dX6_liveOneDay_14 rfl hl (by decide) rfl (fun ls hl => ?_)
  refine lv_aload_n hx hb dX6_liveOneDay_15 rfl (lv_at hl 1 rfl) ?_
  refine va_get (D := D) (ci := 6) (v := .ref (a 4 0)) (C := RX6) (T := TX6) (N := 10) hx hb hG inG6 hown hK hP 0 at_C_0_0 rfl 3 (by decide) (hG _ g_227) (fun _ h9 => h9) rfl dX6_liveOneDay_16 ?_
  refine lv_aload_n hx hb dX6_liveOneDay_19 rfl (lv_at hl 1 rfl) ?_
  refine va_get (D := D) (ci := 6) (v := .ref (a 2 0)) (C := RX6) (T := TX6) (N := 10) hx hb hG inG6 hown hK hP 0 at_C_0_0 rfl 1 (by decide) (hG _ g_225) (fun _ h9 => h9) rfl dX6_liveOneDay_20 ?_
  refine va_get (D := D) (ci := 2) (v := .int ((X2 2) 0 1)) (C := RX2) (T := TX2) (N := 18) hx hb hG inG2 hown hK hP 4 at_C_2_0 rfl 1 (by decide) (hG _ g_114) (fun _ h9 => h9) rfl dX6_liveOneDay_23 ?_
  obtain ⟨q4, hq4, hf⟩ := bd_x hf
  have hPc := subP [30, 31, 32, 33, 34] sub_C_S_4 hP
  have hDc := va_D.sub hD [30, 31, 32, 33, 34] rfl sub_C_S_4
  have hFc := va_free hD hS hA [30, 31, 32, 33, 34] sub_C_S_4
  refine va_calli (va_runV (As := [.int ((X2 2) 0 1)]) (rest := []) ⟨hx, hb, hml, hown, hG⟩ (c_X4_draw l D cI cZ (a 4) (X2 4) ((X2 2) 0 1) H.size hq4) (cwV 1 hG (gV g_424 g_425 g_426 g_73 g_427) rfl rfl rfl (by decide +kernel) ⟨Nat.le_of_ble_eq_true rfl, Nat.le_of_ble_eq_true rfl⟩) ⟨pre_blind, va_recv hK hPc (ci := 4) (q0 := 0) rfl rfl, fun U hU hW => ⟨rfl, pre_of hPc hK hDc hnw hU hW⟩⟩ rfl rfl hl.1 rfl (lv_room (Nat.le_of_ble_eq_true rfl)) dX6_liveOneDay_26 ⟨Nat.le_of_ble_eq_true rfl, Nat.le_of_ble_eq_true rfl⟩) hS (fun q _ h => hFc q h) hFc (fun v u t H locs ht hvm hw hB hz1 hk1 hS => ?_)
  obtain ⟨rfl, rfl⟩ := hw
  obtain ⟨hP1, hD1⟩ := hB
  rw [ht] at hP1
  obtain ⟨hP, hD⟩ := back hP hD [30, 31, 32, 33, 34] sub_C_S_4 rfl hk1 hFc hP1 hD1
  obtain ⟨X5, eX5⟩ : ∃ y : CC, y = (va_up X2 4 q4.2) := ⟨_, rfl⟩
  have hf := nm_x eX5 hf
  have hP := wP (put_C_S_4_0.trans (congrArg (fun z => cW cI a z) eX5.symm)) hP
  have hD := wD (put_C_S_4_0.trans (congrArg (fun z => cW cI a z) eX5.symm)) hD
  refine lv_topi (fun v6 ev6 => ?_)
  have hf := nm_x ev6 hf
  refine lv_istore_n (lv' := [(2, .int v6), (1, .int v3), (0, .ref (a 0 0))]) hx hb dX6_liveOneDay_29 rfl hl (by decide) rfl (fun ls hl => ?_)
  refine lv_aload_n hx hb dX6_liveOneDay_30 rfl (lv_at hl 2 rfl) ?_
  refine va_get (D := D) (ci := 6) (v := .ref (a 4 0)) (C := RX6) (T := TX6) (N := 10) hx hb hG inG6 hown hK hP 0 at_C_0_0 rfl 3 (by decide) (hG _ g_227) (fun _ h9 => h9) rfl dX6_liveOneDay_31 ?_
  refine lv_iconst (v := (3 : Int32)) hx hb dX6_liveOneDay_34 (by decide) ?_
  obtain ⟨q7, hq7, hf⟩ := bd_x hf
  have hPc := subP [30, 31, 32, 33, 34] sub_C_S_4 hP
  have hDc := va_D.sub hD [30, 31, 32, 33, 34] rfl sub_C_S_4
  have hFc := va_free hD hS hA [30, 31, 32, 33, 34] sub_C_S_4
  refine va_calli (va_runV (As := [.int (3 : Int32)]) (rest := []) ⟨hx, hb, hml, hown, hG⟩ (c_X4_draw l D cI cZ (a 4) (X5 4) (3 : Int32) H.size hq7) (cwV 1 hG (gV g_424 g_425 g_426 g_73 g_427) rfl rfl rfl (by decide +kernel) ⟨Nat.le_of_ble_eq_true rfl, Nat.le_of_ble_eq_true rfl⟩) ⟨pre_blind, va_recv hK hPc (ci := 4) (q0 := 0) rfl rfl, fun U hU hW => ⟨rfl, pre_of hPc hK hDc hnw hU hW⟩⟩ rfl rfl hl.1 rfl (lv_room (Nat.le_of_ble_eq_true rfl)) dX6_liveOneDay_35 ⟨Nat.le_of_ble_eq_true rfl, Nat.le_of_ble_eq_true rfl⟩) hS (fun q _ h => hFc q h) hFc (fun v u t H locs ht hvm hw hB hz1 hk1 hS => ?_)
  obtain ⟨rfl, rfl⟩ := hw
  obtain ⟨hP1, hD1⟩ := hB
  rw [ht] at hP1
  obtain ⟨hP, hD⟩ := back hP hD [30, 31, 32, 33, 34] sub_C_S_4 rfl hk1 hFc hP1 hD1
  obtain ⟨X8, eX8⟩ : ∃ y : CC, y = (va_up X5 4 q7.2) := ⟨_, rfl⟩
  have hf := nm_x eX8 hf
  have hP := wP (put_C_S_4_0.trans (congrArg (fun z => cW cI a z) eX8.symm)) hP
  have hD := wD (put_C_S_4_0.trans (congrArg (fun z => cW cI a z) eX8.symm)) hD
  refine lv_topi (fun v9 ev9 => ?_)
  have hf := nm_x ev9 hf
  refine lv_istore_n (lv' := [(3, .int v9), (2, .int v6), (1, .int v3), (0, .ref (a 0 0))]) hx hb dX6_liveOneDay_38 rfl hl (by decide) rfl (fun ls hl => ?_)
  refine lv_aload_n hx hb dX6_liveOneDay_39 rfl (lv_at hl 3 rfl) ?_
  refine va_get (D := D) (ci := 6) (v := .ref (a 4 0)) (C := RX6) (T := TX6) (N := 10) hx hb hG inG6 hown hK hP 0 at_C_0_0 rfl 3 (by decide) (hG _ g_227) (fun _ h9 => h9) rfl dX6_liveOneDay_40 ?_
  refine lv_dup hx hb dX6_liveOneDay_43 rfl ?_
  refine va_get (D := D) (ci := 4) (v := .int ((X8 4) 0 4)) (C := RX4) (T := TX4) (N := 7) hx hb hG inG4 hown hK hP 30 at_C_4_0 rfl 4 (by decide) (hG _ g_188) (fun _ h9 => h9) rfl dX6_liveOneDay_44 ?_
  refine lv_iconst (v := (1 : Int32)) hx hb dX6_liveOneDay_47 (by decide) ?_
  refine lv_iadd hx hb dX6_liveOneDay_48 ?_
  refine va_put (D := D) (ci := 4) (v := .int (((X8 4) 0 4) + (1 : Int32))) (ty := .int) (C := RX4) (T := TX4) (N := 7) hx hb hG inG4 tyX4 tyX4_ok nmX4 hown hK hP hD hS 30 at_C_4_0 rfl 4 (by decide) (hG _ g_188) (fun _ h9 => h9) rfl (by decide +kernel) rfl rfl (Nat.le_of_ble_eq_true rfl) dX6_liveOneDay_49 (fun H locs hP hD hS => ?_)
  obtain ⟨X10, eX10⟩ : ∃ y : CC, y = (va_up X8 4 (sf (X8 4) 4 (((X8 4) 0 4) + (1 : Int32)))) := ⟨_, rfl⟩
  have hf := nm_x eX10 hf
  have hP := wP (sf_C_4_4.trans (congrArg (fun z => cW cI a z) eX10.symm)) hP
  have hD := wD (sf_C_4_4.trans (congrArg (fun z => cW cI a z) eX10.symm)) hD
  refine lv_iload_n hx hb dX6_liveOneDay_52 rfl (lv_at hl 0 rfl) ?_
  refine lv_if_ne (tgt := 66) hx hb dX6_liveOneDay_53 (by decide) (fun cc53 => ?_) (fun cc53 => ?_)
  · have hf := if_f cc53 hf
    refine lv_iload_n hx hb dX6_liveOneDay_66 rfl (lv_at hl 0 rfl) ?_
    refine lv_iconst (v := (1 : Int32)) hx hb dX6_liveOneDay_67 (by decide) ?_
    refine lv_icmp_ne (tgt := 80) hx hb dX6_liveOneDay_68 (by decide) (fun cc68 => ?_) (fun cc68 => ?_)
    · have hf := if_f cc68 hf
      refine lv_aload_n hx hb dX6_liveOneDay_80 rfl (lv_at hl 3 rfl) ?_
      refine lv_iload_n hx hb dX6_liveOneDay_81 rfl (lv_at hl 2 rfl) ?_
      refine lv_iload_n hx hb dX6_liveOneDay_82 rfl (lv_at hl 1 rfl) ?_
      obtain ⟨q11, hq11, hf⟩ := bd_x hf
      have hFc := freeS hD hS hA
      refine va_calli (va_runV (As := [.int v3, .int v6]) (rest := []) ⟨hx, hb, hml, hown, hG⟩ (c_X6_lookClosely l D cI cZ a X10 v3 v6 H.size hq11) (cwV 2 hG (gV g_391 g_392 g_21 g_70 g_393) rfl rfl rfl (by decide +kernel) ⟨Nat.le_of_ble_eq_true rfl, Nat.le_of_ble_eq_true rfl⟩) ⟨pre_blind, va_recv hK hP (ci := 6) (q0 := 0) rfl rfl, fun U hU hW => ⟨rfl, pre_of hP hK hD hnw hU hW⟩⟩ rfl rfl hl.1 rfl (lv_room (Nat.le_of_ble_eq_true rfl)) dX6_liveOneDay_83 ⟨Nat.le_of_ble_eq_true rfl, Nat.le_of_ble_eq_true rfl⟩) hS (fun q _ h => hFc q h) hFc (fun v u t H locs ht hvm hw hB hz1 hk1 hS => ?_)
      obtain ⟨rfl, rfl⟩ := hw
      obtain ⟨hP1, hD1⟩ := hB
      rw [ht] at hP1
      have hP := hP1
      have hD := hD1.weaken (fun _ q _ h => hFc q.1 h)
      refine lv_pop hx hb dX6_liveOneDay_86 rfl ?_
      exact W.vret hx hb hr (fun t ht hW => ⟨⟨q11.2, rfl, Option.some.inj hf, by rw [ht]; exact hP, hD⟩, hS.F ht⟩) hS.2.2 dX6_liveOneDay_87
    · have hf := if_t cc68 hf
      refine lv_aload_n hx hb dX6_liveOneDay_71 rfl (lv_at hl 3 rfl) ?_
      refine lv_iload_n hx hb dX6_liveOneDay_72 rfl (lv_at hl 1 rfl) ?_
      obtain ⟨q12, hq12, hf⟩ := bd_x hf
      have hFc := freeS hD hS hA
      refine va_calli (va_runV (As := [.int v6]) (rest := []) ⟨hx, hb, hml, hown, hG⟩ (c_X6_spread l D cI cZ a X10 v6 H.size hq12) (cwV 1 hG (gV g_380 g_381 g_19 g_70 g_382) rfl rfl rfl (by decide +kernel) ⟨Nat.le_of_ble_eq_true rfl, Nat.le_of_ble_eq_true rfl⟩) ⟨pre_blind, va_recv hK hP (ci := 6) (q0 := 0) rfl rfl, fun U hU hW => ⟨rfl, pre_of hP hK hD hnw hU hW⟩⟩ rfl rfl hl.1 rfl (lv_room (Nat.le_of_ble_eq_true rfl)) dX6_liveOneDay_73 ⟨Nat.le_of_ble_eq_true rfl, Nat.le_of_ble_eq_true rfl⟩) hS (fun q _ h => hFc q h) hFc (fun v u t H locs ht hvm hw hB hz1 hk1 hS => ?_)
      obtain ⟨rfl, rfl⟩ := hw
      obtain ⟨hP1, hD1⟩ := hB
      rw [ht] at hP1
      have hP := hP1
      have hD := hD1.weaken (fun _ q _ h => hFc q.1 h)
      refine lv_pop hx hb dX6_liveOneDay_76 rfl ?_
      refine lv_goto (tgt := 87) hx hb dX6_liveOneDay_77 (by decide) ?_
      exact W.vret hx hb hr (fun t ht hW => ⟨⟨q12.2, rfl, Option.some.inj hf, by rw [ht]; exact hP, hD⟩, hS.F ht⟩) hS.2.2 dX6_liveOneDay_87
  · have hf := if_t cc53 hf
    refine lv_aload_n hx hb dX6_liveOneDay_56 rfl (lv_at hl 3 rfl) ?_
    refine lv_iload_n hx hb dX6_liveOneDay_57 rfl (lv_at hl 2 rfl) ?_
    refine lv_iload_n hx hb dX6_liveOneDay_58 rfl (lv_at hl 1 rfl) ?_
    obtain ⟨q13, hq13, hf⟩ := bd_x hf
    have hFc := freeS hD hS hA
    refine va_calli (va_runV (As := [.int v3, .int v6]) (rest := []) ⟨hx, hb, hml, hown, hG⟩ (c_X6_readBelt l D cI cZ a X10 v3 v6 H.size hq13) (cwV 2 hG (gV g_370 g_371 g_18 g_70 g_372) rfl rfl rfl (by decide +kernel) ⟨Nat.le_of_ble_eq_true rfl, Nat.le_of_ble_eq_true rfl⟩) ⟨pre_blind, va_recv hK hP (ci := 6) (q0 := 0) rfl rfl, fun U hU hW => ⟨rfl, pre_of hP hK hD hnw hU hW⟩⟩ rfl rfl hl.1 rfl (lv_room (Nat.le_of_ble_eq_true rfl)) dX6_liveOneDay_59 ⟨Nat.le_of_ble_eq_true rfl, Nat.le_of_ble_eq_true rfl⟩) hS (fun q _ h => hFc q h) hFc (fun v u t H locs ht hvm hw hB hz1 hk1 hS => ?_)
    obtain ⟨rfl, rfl⟩ := hw
    obtain ⟨hP1, hD1⟩ := hB
    rw [ht] at hP1
    have hP := hP1
    have hD := hD1.weaken (fun _ q _ h => hFc q.1 h)
    refine lv_pop hx hb dX6_liveOneDay_62 rfl ?_
    refine lv_goto (tgt := 87) hx hb dX6_liveOneDay_63 (by decide) ?_
    exact W.vret hx hb hr (fun t ht hW => ⟨⟨q13.2, rfl, Option.some.inj hf, by rw [ht]; exact hP, hD⟩, hS.F ht⟩) hS.2.2 dX6_liveOneDay_87
