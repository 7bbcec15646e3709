def sw {α : Type} (a : Nat → α) : Nat → α := fun c => if c = 2 then a 3 else if c = 3 then a 2 else a c
abbrev swp : List Nat := [0, 1, 2, 3, 17, 18, 19, 20, 21, 22, 23, 24, 25, 26, 27, 28, 29, 4, 5, 6, 7, 8, 9, 10, 11, 12, 13, 14, 15, 16, 30, 31, 32, 33, 34, 35, 36, 37, 38, 39, 40, 41, 42, 43, 44, 45, 46, 47, 48, 49, 50, 51, 52, 53]
theorem sw_perm {cI : ClassId} {a : Nat → Nat → Nat} {C : CC} : swp.map (fun i => (((cW cI a C).set 0 (a 0 0, .inr (6, ([.ref (a 1 0), .ref (a 2 0), .ref (a 3 0), .ref (a 4 0), .ref (a 5 0), .ref (a 6 0), .ref (a 7 0), .ref (a 8 0), .ref (a 9 0), .ref (a 0 1)] : List Value).set 1 (.ref (a 3 0))))).set 0 (a 0 0, .inr (6, ([.ref (a 1 0), .ref (a 3 0), .ref (a 3 0), .ref (a 4 0), .ref (a 5 0), .ref (a 6 0), .ref (a 7 0), .ref (a 8 0), .ref (a 9 0), .ref (a 0 1)] : List Value).set 2 (.ref (a 2 0)))))[i]?) = (cW cI (sw a) (sw C)).map some := rfl
theorem sub_C_TL_1_3 {cI : ClassId} {a : Nat → Nat → Nat} {C : CC} : [2, 3, 17, 18, 19, 20, 21, 22, 23, 24, 25, 26, 27, 28, 29].map (fun i => (cW cI a C)[i]?) = (kT cI (a 1) (C 1) ++ (kL cI (a 3) (C 3))).map some := rfl
theorem pc_C_3 {cI : ClassId} {a : Nat → Nat → Nat} {C : CC} {u : HC} : putL (cW cI a C) [17, 18, 19, 20, 21, 22, 23, 24, 25, 26, 27, 28, 29] (kL cI (a 3) u) = cW cI a (va_up C 3 u) := rfl
theorem put_C_TL_1_3_01 {cI : ClassId} {a : Nat → Nat → Nat} {C : CC} {u0 : HC} {u1 : HC} : putL (cW cI a C) [2, 3, 17, 18, 19, 20, 21, 22, 23, 24, 25, 26, 27, 28, 29] (kT cI (a 1) u0 ++ (kL cI (a 3) u1)) = (cW cI a (va_up (va_up C 1 u0) 3 u1)) := ((putL_app (is1 := [2, 3]) (is2 := [17, 18, 19, 20, 21, 22, 23, 24, 25, 26, 27, 28, 29]) (w2 := (kL cI (a 3) u1)) rfl).trans ((congrArg (fun z => putL z [17, 18, 19, 20, 21, 22, 23, 24, 25, 26, 27, 28, 29] (kL cI (a 3) u1)) pc_C_1).trans pc_C_3))
theorem sub_C_SL_4_2 {cI : ClassId} {a : Nat → Nat → Nat} {C : CC} : [30, 31, 32, 33, 34, 4, 5, 6, 7, 8, 9, 10, 11, 12, 13, 14, 15, 16].map (fun i => (cW cI a C)[i]?) = (kS cI (a 4) (C 4) ++ (kL cI (a 2) (C 2))).map some := rfl
theorem put_C_SL_4_2_0 {cI : ClassId} {a : Nat → Nat → Nat} {C : CC} {u0 : HC} : putL (cW cI a C) [30, 31, 32, 33, 34, 4, 5, 6, 7, 8, 9, 10, 11, 12, 13, 14, 15, 16] (kS cI (a 4) u0 ++ (kL cI (a 2) (C 2))) = (cW cI a (va_up C 4 u0)) := ((putL_app (is1 := [30, 31, 32, 33, 34]) (is2 := [4, 5, 6, 7, 8, 9, 10, 11, 12, 13, 14, 15, 16]) (w2 := (kL cI (a 2) (C 2))) rfl).trans ((congrArg (fun z => putL z [4, 5, 6, 7, 8, 9, 10, 11, 12, 13, 14, 15, 16] (kL cI (a 2) (C 2))) pc_C_4).trans (pcs_C_2 rfl)))
def f_X6_land (C : CC) : Option (Int32 × (CC × Bool)) := bd (f_X5_parse (C 1) (C 3)) (fun (q1 : Int32 × HC × HC) => nm (va_up (va_up C 1 q1.2.1) 3 q1.2.2) (fun (X2 : CC) => nm q1.1 (fun (v3 : Int32) => (if v3 = 0 then nm (sw X2) (fun (X4 : CC) => bd (f_X4_begin (X4 4) (X4 2)) (fun (q5 : HC) => nm (va_up X4 4 q5) (fun (X6 : CC) => nm (va_up X6 5 (sf (X6 5) 6 (0 : Int32))) (fun (X7 : CC) => nm (va_up X7 6 (sf (X7 6) 6 (0 : Int32))) (fun (X8 : CC) => nm (va_up X8 7 (sf (X8 7) 2 (0 : Int32))) (fun (X9 : CC) => some (((X9 2) 0 0), (X9, true)))))))) else some (((-10 : Int32) - v3), (X2, false))))))
abbrev RM_X6_land : Room := { frames := 5, cells := 0, slots := 0, locals := 114 }
set_option maxHeartbeats 4000000 in
set_option maxRecDepth 100000 in
theorem c_X6_land (l : Launch) (D : va_G) (cI cZ : ClassId) (a : Nat → Nat → Nat) (C : CC) (sz : Nat) {r : Int32 × (CC × Bool)} (hf : f_X6_land C = some r) : Met l yX6_land (wM yX6_land cX6_land 3 (some .int)) RM_X6_land (va_Pc [.ref (a 0 0)] (pre D cI cZ (cW cI a C) sz)) (QI D (va_A (cW cI a C) sz) (fun (u : CC × Bool) => cW cI (if u.2 then sw a else a) u.1) r) 0 0 (va_A (cW cI a C) sz) := by
  unfold f_X6_land at hf
  refine Met.ofW (cc := cX6_land) (maxL := 3) (ret := (some .int)) (by decide) rfl ?_
  intro p e s m args below meth c s₁ B hml hv
  obtain ⟨rfl, hsz, hP, hK, hD0, hnw⟩ := hv
  have hx := B.exec
  have hb := B.bytes
  have hr := B.returns
  have hts := atoms_spec (ws := wM yX6_land cX6_land 3 (some .int)) B.pre
  have hG : ∀ w ∈ GW, w.before (([.ref (a 0 0)] : List Value).toArray) s = true := fun w h => hts w (List.mem_cons_of_mem _ h)
  have hown : s.vm.findClass RX6 = some m.cls := findClass_of_methodNamed B.named
  have hlocks := B.notSynchronized
  subst hsz
  have hD := hD0.self (sz := s.heap.size)
  generalize hAe : va_A (cW cI a C) s.heap.size = A at hD ⊢
  have hA : ∀ q : Nat, s.heap.size ≤ q → A q := fun q h => by rw [← hAe]; exact Or.inr h
  have hS : va_S A s.heap s.heap [] := va_S.rf
  have hl := lv_entry ([.ref (a 0 0)]) (n := 3) (Nat.le_of_ble_eq_true rfl)
  rw [lg_entry_eq]
  generalize (lg_sl ([.ref (a 0 0)]) ++ List.replicate (3 - (lg_sl ([.ref (a 0 0)])).length) Slot.unset).toArray = ls at hl ⊢
  have hl : lv_has ls 3 [(0, .ref (a 0 0))] := hl
  show W p l e RM_X6_land s m (([.ref (a 0 0)] : List Value).toArray) below meth c s.heap [] 0 0 (MQ below (QI D A (fun (u : CC × Bool) => cW cI (if u.2 then sw a else a) u.1) r) (([.ref (a 0 0)] : List Value).toArray) s 0 0 A) (F0 m 0 ls [])
  refine lv_aload_n hx hb dX6_land_0 rfl (lv_at hl 0 rfl) ?_
  refine va_get (D := D) (ci := 6) (v := .ref (a 1 0)) (C := RX6) (T := TX6) (N := 10) hx hb hG inG6 hown hK hP 0 at_C_0_0 rfl 0 (by decide) (hG _ g_224) (fun _ h9 => h9) rfl dX6_land_1 ?_
  refine lv_aload_n hx hb dX6_land_4 rfl (lv_at hl 0 rfl) ?_
  refine va_get (D := D) (ci := 6) (v := .ref (a 3 0)) (C := RX6) (T := TX6) (N := 10) hx hb hG inG6 hown hK hP 0 at_C_0_0 rfl 2 (by decide) (hG _ g_226) (fun _ h9 => h9) rfl dX6_land_5 ?_
  obtain ⟨q1, hq1, hf⟩ := bd_x hf
  have hPc := subP [2, 3, 17, 18, 19, 20, 21, 22, 23, 24, 25, 26, 27, 28, 29] sub_C_TL_1_3 hP
  have hDc := va_D.sub hD [2, 3, 17, 18, 19, 20, 21, 22, 23, 24, 25, 26, 27, 28, 29] rfl sub_C_TL_1_3
  have hFc := va_free hD hS hA [2, 3, 17, 18, 19, 20, 21, 22, 23, 24, 25, 26, 27, 28, 29] sub_C_TL_1_3
  refine va_calli (va_runV (As := [.ref (a 3 0)]) (rest := []) ⟨hx, hb, hml, hown, hG⟩ (c_X5_parse l D cI cZ (a 1) (a 3) (C 1) (C 3) s.heap.size hq1) (cwV 1 hG (gV g_248 g_249 g_250 g_71 g_251) rfl rfl rfl (by decide +kernel) ⟨Nat.le_of_ble_eq_true rfl, Nat.le_of_ble_eq_true rfl⟩) ⟨pre_blind, va_recv hK hPc (ci := 5) (q0 := 0) rfl rfl, fun U hU hW => ⟨rfl, pre_of hPc hK hDc hnw hU hW⟩⟩ rfl rfl hl.1 rfl (lv_room (Nat.le_of_ble_eq_true rfl)) dX6_land_8 ⟨Nat.le_of_ble_eq_true rfl, Nat.le_of_ble_eq_true rfl⟩) hS (fun q _ h => hFc q h) hFc (fun v u t H locs ht hvm hw hB hz1 hk1 hS => ?_)
  obtain ⟨rfl, rfl⟩ := hw
  obtain ⟨hP1, hD1⟩ := hB
  rw [ht] at hP1
  obtain ⟨hP, hD⟩ := back hP hD [2, 3, 17, 18, 19, 20, 21, 22, 23, 24, 25, 26, 27, 28, 29] sub_C_TL_1_3 rfl hk1 hFc hP1 hD1
  obtain ⟨X2, eX2⟩ : ∃ y : CC, y = (va_up (va_up C 1 q1.2.1) 3 q1.2.2) := ⟨_, rfl⟩
  have hf := nm_x eX2 hf
  have hP := wP (put_C_TL_1_3_01.trans (congrArg (fun z => cW cI a z) eX2.symm)) hP
  have hD := wD (put_C_TL_1_3_01.trans (congrArg (fun z => cW cI a z) eX2.symm)) hD
  refine lv_topi (fun v3 ev3 => ?_)
  have hf := nm_x ev3 hf
  refine lv_istore_n (lv' := [(1, .int v3), (0, .ref (a 0 0))]) hx hb dX6_land_11 rfl hl (by decide) rfl (fun ls hl => ?_)
  refine lv_iload_n hx hb dX6_land_12 rfl (lv_at hl 0 rfl) ?_
  refine lv_if_eq (tgt := 21) hx hb dX6_land_13 (by decide) (fun cc13 => ?_) (fun cc13 => ?_)
  · have hf := if_t cc13 hf
    refine lv_aload_n hx hb dX6_land_21 rfl (lv_at hl 1 rfl) ?_
    refine va_get (D := D) (ci := 6) (v := .ref (a 2 0)) (C := RX6) (T := TX6) (N := 10) hx hb hG inG6 hown hK hP 0 at_C_0_0 rfl 1 (by decide) (hG _ g_225) (fun _ h9 => h9) rfl dX6_land_22 ?_
    refine lv_astore_n (lv' := [(2, .ref (a 2 0)), (1, .int v3), (0, .ref (a 0 0))]) hx hb dX6_land_25 rfl hl (by decide) rfl (fun ls hl => ?_)
    refine lv_aload_n hx hb dX6_land_26 rfl (lv_at hl 2 rfl) ?_
    refine lv_aload_n hx hb dX6_land_27 rfl (lv_at hl 2 rfl) ?_
    refine va_get (D := D) (ci := 6) (v := .ref (a 3 0)) (C := RX6) (T := TX6) (N := 10) hx hb hG inG6 hown hK hP 0 at_C_0_0 rfl 2 (by decide) (hG _ g_226) (fun _ h9 => h9) rfl dX6_land_28 ?_
    refine va_put (D := D) (ci := 6) (v := .ref (a 3 0)) (ty := .object "SevenBlows$Land") (C := RX6) (T := TX6) (N := 10) (fs := [.ref (a 1 0), .ref (a 2 0), .ref (a 3 0), .ref (a 4 0), .ref (a 5 0), .ref (a 6 0), .ref (a 7 0), .ref (a 8 0), .ref (a 9 0), .ref (a 0 1)]) hx hb hG inG6 tyX6 tyX6_ok nmX6 hown hK hP hD hS 0 at_C_0_0 rfl 1 (by decide) (hG _ g_225) (fun _ h9 => h9) rfl (by decide +kernel) rfl rfl (Nat.le_of_ble_eq_true rfl) dX6_land_31 (fun H locs hP hD hS => ?_)
    refine lv_aload_n hx hb dX6_land_34 rfl (lv_at hl 2 rfl) ?_
    refine lv_aload_n hx hb dX6_land_35 rfl (lv_at hl 0 rfl) ?_
    refine va_put (D := D) (ci := 6) (v := .ref (a 2 0)) (ty := .object "SevenBlows$Land") (C := RX6) (T := TX6) (N := 10) (fs := [.ref (a 1 0), .ref (a 3 0), .ref (a 3 0), .ref (a 4 0), .ref (a 5 0), .ref (a 6 0), .ref (a 7 0), .ref (a 8 0), .ref (a 9 0), .ref (a 0 1)]) hx hb hG inG6 tyX6 tyX6_ok nmX6 hown hK hP hD hS 0 rfl rfl 2 (by decide) (hG _ g_226) (fun _ h9 => h9) rfl (by decide +kernel) rfl rfl (Nat.le_of_ble_eq_true rfl) dX6_land_36 (fun H locs hP hD hS => ?_)
    have hP := subP swp (sw_perm (cI := cI) (a := a) (C := X2)) hP
    have hD := va_D.sub hD swp rfl (sw_perm (cI := cI) (a := a) (C := X2))
    obtain ⟨b, eb⟩ : ∃ y : Nat → Nat → Nat, y = sw a := ⟨_, rfl⟩
    obtain ⟨X4, eX4⟩ : ∃ y : CC, y = sw X2 := ⟨_, rfl⟩
    have hf := nm_x eX4 hf
    have hP : va_P D vwCl (cW cI b X4) H := by rw [eb, eX4]; exact hP
    have hD : va_D A (cW cI b X4) := by rw [eb, eX4]; exact hD
    have hl : lv_has ls 3 [(2, .ref (b 3 0)), (1, .int v3), (0, .ref (b 0 0))] := by rw [eb]; exact hl
    refine lv_aload_n hx hb dX6_land_39 rfl (lv_at hl 2 rfl) ?_
    refine va_get (D := D) (ci := 6) (v := .ref (b 4 0)) (C := RX6) (T := TX6) (N := 10) hx hb hG inG6 hown hK hP 0 at_C_0_0 rfl 3 (by decide) (hG _ g_227) (fun _ h9 => h9) rfl dX6_land_40 ?_
    refine lv_aload_n hx hb dX6_land_43 rfl (lv_at hl 2 rfl) ?_
    refine va_get (D := D) (ci := 6) (v := .ref (b 2 0)) (C := RX6) (T := TX6) (N := 10) hx hb hG inG6 hown hK hP 0 at_C_0_0 rfl 1 (by decide) (hG _ g_225) (fun _ h9 => h9) rfl dX6_land_44 ?_
    obtain ⟨q5, hq5, hf⟩ := bd_x hf
    have hPc := subP [30, 31, 32, 33, 34, 4, 5, 6, 7, 8, 9, 10, 11, 12, 13, 14, 15, 16] sub_C_SL_4_2 hP
    have hDc := va_D.sub hD [30, 31, 32, 33, 34, 4, 5, 6, 7, 8, 9, 10, 11, 12, 13, 14, 15, 16] rfl sub_C_SL_4_2
    have hFc := va_free hD hS hA [30, 31, 32, 33, 34, 4, 5, 6, 7, 8, 9, 10, 11, 12, 13, 14, 15, 16] sub_C_SL_4_2
    refine va_callv (va_runV (As := [.ref (b 2 0)]) (rest := []) ⟨hx, hb, hml, hown, hG⟩ (c_X4_begin l D cI cZ (b 4) (b 2) (X4 4) (X4 2) H.size hq5) (cwV 1 hG (gV g_298 g_299 g_300 g_73 g_301) rfl rfl rfl (by decide +kernel) ⟨Nat.le_of_ble_eq_true rfl, Nat.le_of_ble_eq_true rfl⟩) ⟨pre_blind, va_recv hK hPc (ci := 4) (q0 := 0) rfl rfl, fun U hU hW => ⟨rfl, pre_of hPc hK hDc hnw hU hW⟩⟩ rfl rfl hl.1 rfl (lv_room (Nat.le_of_ble_eq_true rfl)) dX6_land_47 ⟨Nat.le_of_ble_eq_true rfl, Nat.le_of_ble_eq_true rfl⟩) hS (fun q _ h => hFc q h) hFc (fun u t H locs ht hvm hw hB hz1 hk1 hS => ?_)
    have hw := hw.symm; subst hw
    obtain ⟨hP1, hD1⟩ := hB
    rw [ht] at hP1
    obtain ⟨hP, hD⟩ := back hP hD [30, 31, 32, 33, 34, 4, 5, 6, 7, 8, 9, 10, 11, 12, 13, 14, 15, 16] sub_C_SL_4_2 rfl hk1 hFc hP1 hD1
    obtain ⟨X6, eX6⟩ : ∃ y : CC, y = (va_up X4 4 q5) := ⟨_, rfl⟩
    have hf := nm_x eX6 hf
    have hP := wP (put_C_SL_4_2_0.trans (congrArg (fun z => cW cI b z) eX6.symm)) hP
    have hD := wD (put_C_SL_4_2_0.trans (congrArg (fun z => cW cI b z) eX6.symm)) hD
    refine lv_aload_n hx hb dX6_land_50 rfl (lv_at hl 2 rfl) ?_
    refine va_get (D := D) (ci := 6) (v := .ref (b 5 0)) (C := RX6) (T := TX6) (N := 10) hx hb hG inG6 hown hK hP 0 at_C_0_0 rfl 4 (by decide) (hG _ g_228) (fun _ h9 => h9) rfl dX6_land_51 ?_
    refine lv_iconst (v := (0 : Int32)) hx hb dX6_land_54 (by decide) ?_
    refine va_put (D := D) (ci := 4) (v := .int (0 : Int32)) (ty := .boolean) (C := RX4) (T := TX4) (N := 7) hx hb hG inG4 tyX4 tyX4_ok nmX4 hown hK hP hD hS 35 at_C_5_0 rfl 6 (by decide) (hG _ g_191) (fun _ h9 => h9) rfl (by decide +kernel) rfl rfl (Nat.le_of_ble_eq_true rfl) dX6_land_55 (fun H locs hP hD hS => ?_)
    obtain ⟨X7, eX7⟩ : ∃ y : CC, y = (va_up X6 5 (sf (X6 5) 6 (0 : Int32))) := ⟨_, rfl⟩
    have hf := nm_x eX7 hf
    have hP := wP (sf_C_5_6.trans (congrArg (fun z => cW cI b z) eX7.symm)) hP
    have hD := wD (sf_C_5_6.trans (congrArg (fun z => cW cI b z) eX7.symm)) hD
    refine lv_aload_n hx hb dX6_land_58 rfl (lv_at hl 2 rfl) ?_
    refine va_get (D := D) (ci := 6) (v := .ref (b 6 0)) (C := RX6) (T := TX6) (N := 10) hx hb hG inG6 hown hK hP 0 at_C_0_0 rfl 5 (by decide) (hG _ g_229) (fun _ h9 => h9) rfl dX6_land_59 ?_
    refine lv_iconst (v := (0 : Int32)) hx hb dX6_land_62 (by decide) ?_
    refine va_put (D := D) (ci := 4) (v := .int (0 : Int32)) (ty := .boolean) (C := RX4) (T := TX4) (N := 7) hx hb hG inG4 tyX4 tyX4_ok nmX4 hown hK hP hD hS 40 at_C_6_0 rfl 6 (by decide) (hG _ g_191) (fun _ h9 => h9) rfl (by decide +kernel) rfl rfl (Nat.le_of_ble_eq_true rfl) dX6_land_63 (fun H locs hP hD hS => ?_)
    obtain ⟨X8, eX8⟩ : ∃ y : CC, y = (va_up X7 6 (sf (X7 6) 6 (0 : Int32))) := ⟨_, rfl⟩
    have hf := nm_x eX8 hf
    have hP := wP (sf_C_6_6.trans (congrArg (fun z => cW cI b z) eX8.symm)) hP
    have hD := wD (sf_C_6_6.trans (congrArg (fun z => cW cI b z) eX8.symm)) hD
    refine lv_aload_n hx hb dX6_land_66 rfl (lv_at hl 2 rfl) ?_
    refine va_get (D := D) (ci := 6) (v := .ref (b 7 0)) (C := RX6) (T := TX6) (N := 10) hx hb hG inG6 hown hK hP 0 at_C_0_0 rfl 6 (by decide) (hG _ g_230) (fun _ h9 => h9) rfl dX6_land_67 ?_
    refine lv_iconst (v := (0 : Int32)) hx hb dX6_land_70 (by decide) ?_
    refine va_put (D := D) (ci := 1) (v := .int (0 : Int32)) (ty := .int) (C := RX1) (T := TX1) (N := 3) hx hb hG inG1 tyX1 tyX1_ok nmX1 hown hK hP hD hS 45 at_C_7_0 rfl 2 (by decide) (hG _ g_201) (fun _ h9 => h9) rfl (by decide +kernel) rfl rfl (Nat.le_of_ble_eq_true rfl) dX6_land_71 (fun H locs hP hD hS => ?_)
    obtain ⟨X9, eX9⟩ : ∃ y : CC, y = (va_up X8 7 (sf (X8 7) 2 (0 : Int32))) := ⟨_, rfl⟩
    have hf := nm_x eX9 hf
    have hP := wP (sf_C_7_2.trans (congrArg (fun z => cW cI b z) eX9.symm)) hP
    have hD := wD (sf_C_7_2.trans (congrArg (fun z => cW cI b z) eX9.symm)) hD
    refine lv_aload_n hx hb dX6_land_74 rfl (lv_at hl 2 rfl) ?_
    refine va_get (D := D) (ci := 6) (v := .ref (b 2 0)) (C := RX6) (T := TX6) (N := 10) hx hb hG inG6 hown hK hP 0 at_C_0_0 rfl 1 (by decide) (hG _ g_225) (fun _ h9 => h9) rfl dX6_land_75 ?_
    refine va_get (D := D) (ci := 2) (v := .int ((X9 2) 0 0)) (C := RX2) (T := TX2) (N := 18) hx hb hG inG2 hown hK hP 4 at_C_2_0 rfl 0 (by decide) (hG _ g_109) (fun _ h9 => h9) rfl dX6_land_78 ?_
    subst eb
    exact W.iret (v := ((X9 2) 0 0)) hx hb hr (fun t ht hW => ⟨⟨((X9 2) 0 0), (X9, true), rfl, ⟨pr_1 hf, pr_2 hf⟩, by rw [ht]; exact hP, hD⟩, hS.F ht⟩) hS.2.2 dX6_land_81
  · have hf := if_f cc13 hf
    refine lv_bipush (v := (-10 : Int32)) hx hb dX6_land_16 (by decide) ?_
    refine lv_iload_n hx hb dX6_land_18 rfl (lv_at hl 0 rfl) ?_
    refine lv_isub hx hb dX6_land_19 ?_
    exact W.iret (v := ((-10 : Int32) - v3)) hx hb hr (fun t ht hW => ⟨⟨((-10 : Int32) - v3), (X2, false), rfl, ⟨pr_1 hf, pr_2 hf⟩, by rw [ht]; exact hP, hD⟩, hS.F ht⟩) hS.2.2 dX6_land_20
